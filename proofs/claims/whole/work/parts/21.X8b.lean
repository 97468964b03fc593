theorem dX8_pair_0 : decode cX8_pair 0 = .ok (.iconst 0, 1) := by decide +kernel
theorem dX8_pair_1 : decode cX8_pair 1 = .ok (.istore_n 2, 1) := by decide +kernel
theorem dX8_pair_2 : decode cX8_pair 2 = .ok (.iload_n 2, 1) := by decide +kernel
theorem dX8_pair_3 : decode cX8_pair 3 = .ok (.aload_n 0, 1) := by decide +kernel
theorem dX8_pair_4 : decode cX8_pair 4 = .ok (.iconst 2, 1) := by decide +kernel
theorem dX8_pair_5 : decode cX8_pair 5 = .ok (.invokevirtual 227, 3) := by decide +kernel
theorem dX8_pair_8 : decode cX8_pair 8 = .ok (.if_icmp .ge 78, 3) := by decide +kernel
theorem dX8_pair_11 : decode cX8_pair 11 = .ok (.aload_n 0, 1) := by decide +kernel
theorem dX8_pair_12 : decode cX8_pair 12 = .ok (.iload_n 2, 1) := by decide +kernel
theorem dX8_pair_13 : decode cX8_pair 13 = .ok (.invokevirtual 273, 3) := by decide +kernel
theorem dX8_pair_16 : decode cX8_pair 16 = .ok (.aload_n 0, 1) := by decide +kernel
theorem dX8_pair_17 : decode cX8_pair 17 = .ok (.iload_n 1, 1) := by decide +kernel
theorem dX8_pair_18 : decode cX8_pair 18 = .ok (.invokevirtual 273, 3) := by decide +kernel
theorem dX8_pair_21 : decode cX8_pair 21 = .ok (.if_icmp .ne 16, 3) := by decide +kernel
theorem dX8_pair_24 : decode cX8_pair 24 = .ok (.aload_n 0, 1) := by decide +kernel
theorem dX8_pair_25 : decode cX8_pair 25 = .ok (.iload_n 2, 1) := by decide +kernel
theorem dX8_pair_26 : decode cX8_pair 26 = .ok (.invokevirtual 279, 3) := by decide +kernel
theorem dX8_pair_29 : decode cX8_pair 29 = .ok (.aload_n 0, 1) := by decide +kernel
theorem dX8_pair_30 : decode cX8_pair 30 = .ok (.iload_n 1, 1) := by decide +kernel
theorem dX8_pair_31 : decode cX8_pair 31 = .ok (.invokevirtual 279, 3) := by decide +kernel
theorem dX8_pair_34 : decode cX8_pair 34 = .ok (.if_icmp .eq 29, 3) := by decide +kernel
theorem dX8_pair_37 : decode cX8_pair 37 = .ok (.aload_n 0, 1) := by decide +kernel
theorem dX8_pair_38 : decode cX8_pair 38 = .ok (.iload_n 2, 1) := by decide +kernel
theorem dX8_pair_39 : decode cX8_pair 39 = .ok (.invokevirtual 273, 3) := by decide +kernel
theorem dX8_pair_42 : decode cX8_pair 42 = .ok (.aload_n 0, 1) := by decide +kernel
theorem dX8_pair_43 : decode cX8_pair 43 = .ok (.iload_n 1, 1) := by decide +kernel
theorem dX8_pair_44 : decode cX8_pair 44 = .ok (.invokevirtual 279, 3) := by decide +kernel
theorem dX8_pair_47 : decode cX8_pair 47 = .ok (.if_icmp .ne 20, 3) := by decide +kernel
theorem dX8_pair_50 : decode cX8_pair 50 = .ok (.aload_n 0, 1) := by decide +kernel
theorem dX8_pair_51 : decode cX8_pair 51 = .ok (.iload_n 2, 1) := by decide +kernel
theorem dX8_pair_52 : decode cX8_pair 52 = .ok (.invokevirtual 279, 3) := by decide +kernel
theorem dX8_pair_55 : decode cX8_pair 55 = .ok (.aload_n 0, 1) := by decide +kernel
theorem dX8_pair_56 : decode cX8_pair 56 = .ok (.iload_n 1, 1) := by decide +kernel
theorem dX8_pair_57 : decode cX8_pair 57 = .ok (.invokevirtual 273, 3) := by decide +kernel
theorem dX8_pair_60 : decode cX8_pair 60 = .ok (.if_icmp .ne 7, 3) := by decide +kernel
theorem dX8_pair_63 : decode cX8_pair 63 = .ok (.iconst 1, 1) := by decide +kernel
theorem dX8_pair_64 : decode cX8_pair 64 = .ok (.goto 4, 3) := by decide +kernel
theorem dX8_pair_67 : decode cX8_pair 67 = .ok (.iconst 0, 1) := by decide +kernel
theorem dX8_pair_68 : decode cX8_pair 68 = .ok (.istore_n 3, 1) := by decide +kernel
theorem dX8_pair_69 : decode cX8_pair 69 = .ok (.iload_n 2, 1) := by decide +kernel
theorem dX8_pair_70 : decode cX8_pair 70 = .ok (.iload_n 1, 1) := by decide +kernel
theorem dX8_pair_71 : decode cX8_pair 71 = .ok (.if_icmp .eq 9, 3) := by decide +kernel
theorem dX8_pair_74 : decode cX8_pair 74 = .ok (.iload_n 3, 1) := by decide +kernel
theorem dX8_pair_75 : decode cX8_pair 75 = .ok (.ifCond .eq 5, 3) := by decide +kernel
theorem dX8_pair_78 : decode cX8_pair 78 = .ok (.iload_n 2, 1) := by decide +kernel
theorem dX8_pair_79 : decode cX8_pair 79 = .ok (.ireturn, 1) := by decide +kernel
theorem dX8_pair_80 : decode cX8_pair 80 = .ok (.iinc 2 1, 3) := by decide +kernel
theorem dX8_pair_83 : decode cX8_pair 83 = .ok (.goto (-81), 3) := by decide +kernel
theorem dX8_pair_86 : decode cX8_pair 86 = .ok (.iconst (-1), 1) := by decide +kernel
theorem dX8_pair_87 : decode cX8_pair 87 = .ok (.ireturn, 1) := by decide +kernel
theorem dX8_pairOf_0 : decode cX8_pairOf 0 = .ok (.aload_n 0, 1) := by decide +kernel
theorem dX8_pairOf_1 : decode cX8_pairOf 1 = .ok (.aload_n 0, 1) := by decide +kernel
theorem dX8_pairOf_2 : decode cX8_pairOf 2 = .ok (.iload_n 1, 1) := by decide +kernel
theorem dX8_pairOf_3 : decode cX8_pairOf 3 = .ok (.invokevirtual 285, 3) := by decide +kernel
theorem dX8_pairOf_6 : decode cX8_pairOf 6 = .ok (.invokevirtual 234, 3) := by decide +kernel
theorem dX8_pairOf_9 : decode cX8_pairOf 9 = .ok (.ifCond .eq 7, 3) := by decide +kernel
theorem dX8_pairOf_12 : decode cX8_pairOf 12 = .ok (.iconst 0, 1) := by decide +kernel
theorem dX8_pairOf_13 : decode cX8_pairOf 13 = .ok (.goto 8, 3) := by decide +kernel
theorem dX8_pairOf_16 : decode cX8_pairOf 16 = .ok (.aload_n 0, 1) := by decide +kernel
theorem dX8_pairOf_17 : decode cX8_pairOf 17 = .ok (.iload_n 1, 1) := by decide +kernel
theorem dX8_pairOf_18 : decode cX8_pairOf 18 = .ok (.invokevirtual 298, 3) := by decide +kernel
theorem dX8_pairOf_21 : decode cX8_pairOf 21 = .ok (.ireturn, 1) := by decide +kernel
theorem dX8_discrepancy_0 : decode cX8_discrepancy 0 = .ok (.aload_n 0, 1) := by decide +kernel
theorem dX8_discrepancy_1 : decode cX8_discrepancy 1 = .ok (.aload_n 0, 1) := by decide +kernel
theorem dX8_discrepancy_2 : decode cX8_discrepancy 2 = .ok (.iload_n 1, 1) := by decide +kernel
theorem dX8_discrepancy_3 : decode cX8_discrepancy 3 = .ok (.invokevirtual 285, 3) := by decide +kernel
theorem dX8_discrepancy_6 : decode cX8_discrepancy 6 = .ok (.invokevirtual 234, 3) := by decide +kernel
theorem dX8_discrepancy_9 : decode cX8_discrepancy 9 = .ok (.ifCond .eq 5, 3) := by decide +kernel
theorem dX8_discrepancy_12 : decode cX8_discrepancy 12 = .ok (.iconst 0, 1) := by decide +kernel
theorem dX8_discrepancy_13 : decode cX8_discrepancy 13 = .ok (.ireturn, 1) := by decide +kernel
theorem dX8_discrepancy_14 : decode cX8_discrepancy 14 = .ok (.aload_n 0, 1) := by decide +kernel
theorem dX8_discrepancy_15 : decode cX8_discrepancy 15 = .ok (.iload_n 1, 1) := by decide +kernel
theorem dX8_discrepancy_16 : decode cX8_discrepancy 16 = .ok (.invokevirtual 298, 3) := by decide +kernel
theorem dX8_discrepancy_19 : decode cX8_discrepancy 19 = .ok (.istore_n 2, 1) := by decide +kernel
theorem dX8_discrepancy_20 : decode cX8_discrepancy 20 = .ok (.iload_n 2, 1) := by decide +kernel
theorem dX8_discrepancy_21 : decode cX8_discrepancy 21 = .ok (.ifCond .ge 8, 3) := by decide +kernel
theorem dX8_discrepancy_24 : decode cX8_discrepancy 24 = .ok (.ldc 241, 2) := by decide +kernel
theorem dX8_discrepancy_26 : decode cX8_discrepancy 26 = .ok (.goto 19, 3) := by decide +kernel
theorem dX8_discrepancy_29 : decode cX8_discrepancy 29 = .ok (.aload_n 0, 1) := by decide +kernel
theorem dX8_discrepancy_30 : decode cX8_discrepancy 30 = .ok (.iload_n 1, 1) := by decide +kernel
theorem dX8_discrepancy_31 : decode cX8_discrepancy 31 = .ok (.invokevirtual 276, 3) := by decide +kernel
theorem dX8_discrepancy_34 : decode cX8_discrepancy 34 = .ok (.aload_n 0, 1) := by decide +kernel
theorem dX8_discrepancy_35 : decode cX8_discrepancy 35 = .ok (.iload_n 2, 1) := by decide +kernel
theorem dX8_discrepancy_36 : decode cX8_discrepancy 36 = .ok (.aload_n 0, 1) := by decide +kernel
theorem dX8_discrepancy_37 : decode cX8_discrepancy 37 = .ok (.iload_n 1, 1) := by decide +kernel
theorem dX8_discrepancy_38 : decode cX8_discrepancy 38 = .ok (.invokevirtual 273, 3) := by decide +kernel
theorem dX8_discrepancy_41 : decode cX8_discrepancy 41 = .ok (.invokevirtual 301, 3) := by decide +kernel
theorem dX8_discrepancy_44 : decode cX8_discrepancy 44 = .ok (.isub, 1) := by decide +kernel
theorem dX8_discrepancy_45 : decode cX8_discrepancy 45 = .ok (.ireturn, 1) := by decide +kernel
theorem dX8_linesAt_0 : decode cX8_linesAt 0 = .ok (.aload_n 0, 1) := by decide +kernel
theorem dX8_linesAt_1 : decode cX8_linesAt 1 = .ok (.aload_n 0, 1) := by decide +kernel
theorem dX8_linesAt_2 : decode cX8_linesAt 2 = .ok (.iload_n 1, 1) := by decide +kernel
theorem dX8_linesAt_3 : decode cX8_linesAt 3 = .ok (.invokevirtual 251, 3) := by decide +kernel
theorem dX8_linesAt_6 : decode cX8_linesAt 6 = .ok (.invokevirtual 234, 3) := by decide +kernel
theorem dX8_linesAt_9 : decode cX8_linesAt 9 = .ok (.ifCond .eq 5, 3) := by decide +kernel
theorem dX8_linesAt_12 : decode cX8_linesAt 12 = .ok (.iconst 0, 1) := by decide +kernel
theorem dX8_linesAt_13 : decode cX8_linesAt 13 = .ok (.ireturn, 1) := by decide +kernel
theorem dX8_linesAt_14 : decode cX8_linesAt 14 = .ok (.iconst 0, 1) := by decide +kernel
theorem dX8_linesAt_15 : decode cX8_linesAt 15 = .ok (.istore_n 2, 1) := by decide +kernel
theorem dX8_linesAt_16 : decode cX8_linesAt 16 = .ok (.iconst 0, 1) := by decide +kernel
theorem dX8_linesAt_17 : decode cX8_linesAt 17 = .ok (.istore_n 3, 1) := by decide +kernel
theorem dX8_linesAt_18 : decode cX8_linesAt 18 = .ok (.iload_n 3, 1) := by decide +kernel
theorem dX8_linesAt_19 : decode cX8_linesAt 19 = .ok (.aload_n 0, 1) := by decide +kernel
theorem dX8_linesAt_20 : decode cX8_linesAt 20 = .ok (.iconst 2, 1) := by decide +kernel
theorem dX8_linesAt_21 : decode cX8_linesAt 21 = .ok (.invokevirtual 227, 3) := by decide +kernel
theorem dX8_linesAt_24 : decode cX8_linesAt 24 = .ok (.if_icmp .ge 28, 3) := by decide +kernel
theorem dX8_linesAt_27 : decode cX8_linesAt 27 = .ok (.iload_n 2, 1) := by decide +kernel
theorem dX8_linesAt_28 : decode cX8_linesAt 28 = .ok (.aload_n 0, 1) := by decide +kernel
theorem dX8_linesAt_29 : decode cX8_linesAt 29 = .ok (.iload_n 3, 1) := by decide +kernel
theorem dX8_linesAt_30 : decode cX8_linesAt 30 = .ok (.iload_n 1, 1) := by decide +kernel
theorem dX8_linesAt_31 : decode cX8_linesAt 31 = .ok (.invokevirtual 304, 3) := by decide +kernel
theorem dX8_linesAt_34 : decode cX8_linesAt 34 = .ok (.ifCond .eq 9, 3) := by decide +kernel
theorem dX8_linesAt_37 : decode cX8_linesAt 37 = .ok (.iconst 1, 1) := by decide +kernel
theorem dX8_linesAt_38 : decode cX8_linesAt 38 = .ok (.iload_n 3, 1) := by decide +kernel
theorem dX8_linesAt_39 : decode cX8_linesAt 39 = .ok (.ishl, 1) := by decide +kernel
theorem dX8_linesAt_40 : decode cX8_linesAt 40 = .ok (.goto 4, 3) := by decide +kernel
theorem dX8_linesAt_43 : decode cX8_linesAt 43 = .ok (.iconst 0, 1) := by decide +kernel
theorem dX8_linesAt_44 : decode cX8_linesAt 44 = .ok (.ior, 1) := by decide +kernel
theorem dX8_linesAt_45 : decode cX8_linesAt 45 = .ok (.istore_n 2, 1) := by decide +kernel
theorem dX8_linesAt_46 : decode cX8_linesAt 46 = .ok (.iinc 3 1, 3) := by decide +kernel
theorem dX8_linesAt_49 : decode cX8_linesAt 49 = .ok (.goto (-31), 3) := by decide +kernel
theorem dX8_linesAt_52 : decode cX8_linesAt 52 = .ok (.iload_n 2, 1) := by decide +kernel
theorem dX8_linesAt_53 : decode cX8_linesAt 53 = .ok (.ireturn, 1) := by decide +kernel
theorem dX8_totalLength_0 : decode cX8_totalLength 0 = .ok (.aload_n 0, 1) := by decide +kernel
theorem dX8_totalLength_1 : decode cX8_totalLength 1 = .ok (.iconst 0, 1) := by decide +kernel
theorem dX8_totalLength_2 : decode cX8_totalLength 2 = .ok (.putfield 68, 3) := by decide +kernel
theorem dX8_totalLength_5 : decode cX8_totalLength 5 = .ok (.iconst 0, 1) := by decide +kernel
theorem dX8_totalLength_6 : decode cX8_totalLength 6 = .ok (.istore_n 1, 1) := by decide +kernel
theorem dX8_totalLength_7 : decode cX8_totalLength 7 = .ok (.iconst 0, 1) := by decide +kernel
theorem dX8_totalLength_8 : decode cX8_totalLength 8 = .ok (.istore_n 2, 1) := by decide +kernel
theorem dX8_totalLength_9 : decode cX8_totalLength 9 = .ok (.iload_n 2, 1) := by decide +kernel
theorem dX8_totalLength_10 : decode cX8_totalLength 10 = .ok (.aload_n 0, 1) := by decide +kernel
theorem dX8_totalLength_11 : decode cX8_totalLength 11 = .ok (.iconst 2, 1) := by decide +kernel
theorem dX8_totalLength_12 : decode cX8_totalLength 12 = .ok (.invokevirtual 227, 3) := by decide +kernel
theorem dX8_totalLength_15 : decode cX8_totalLength 15 = .ok (.if_icmp .ge 29, 3) := by decide +kernel
theorem dX8_totalLength_18 : decode cX8_totalLength 18 = .ok (.iload_n 1, 1) := by decide +kernel
theorem dX8_totalLength_19 : decode cX8_totalLength 19 = .ok (.aload_n 0, 1) := by decide +kernel
theorem dX8_totalLength_20 : decode cX8_totalLength 20 = .ok (.iload_n 2, 1) := by decide +kernel
theorem dX8_totalLength_21 : decode cX8_totalLength 21 = .ok (.invokevirtual 282, 3) := by decide +kernel
theorem dX8_totalLength_24 : decode cX8_totalLength 24 = .ok (.ifCond .eq 11, 3) := by decide +kernel
theorem dX8_totalLength_27 : decode cX8_totalLength 27 = .ok (.aload_n 0, 1) := by decide +kernel
theorem dX8_totalLength_28 : decode cX8_totalLength 28 = .ok (.iload_n 2, 1) := by decide +kernel
theorem dX8_totalLength_29 : decode cX8_totalLength 29 = .ok (.invokevirtual 264, 3) := by decide +kernel
theorem dX8_totalLength_32 : decode cX8_totalLength 32 = .ok (.goto 4, 3) := by decide +kernel
theorem dX8_totalLength_35 : decode cX8_totalLength 35 = .ok (.iconst 0, 1) := by decide +kernel
theorem dX8_totalLength_36 : decode cX8_totalLength 36 = .ok (.iadd, 1) := by decide +kernel
theorem dX8_totalLength_37 : decode cX8_totalLength 37 = .ok (.istore_n 1, 1) := by decide +kernel
theorem dX8_totalLength_38 : decode cX8_totalLength 38 = .ok (.iinc 2 1, 3) := by decide +kernel
theorem dX8_totalLength_41 : decode cX8_totalLength 41 = .ok (.goto (-32), 3) := by decide +kernel
theorem dX8_totalLength_44 : decode cX8_totalLength 44 = .ok (.iload_n 1, 1) := by decide +kernel
theorem dX8_totalLength_45 : decode cX8_totalLength 45 = .ok (.ireturn, 1) := by decide +kernel
theorem dX8_part_0 : decode cX8_part 0 = .ok (.iconst 1, 1) := by decide +kernel
theorem dX8_part_1 : decode cX8_part 1 = .ok (.iload_n 1, 1) := by decide +kernel
theorem dX8_part_2 : decode cX8_part 2 = .ok (.ishl, 1) := by decide +kernel
theorem dX8_part_3 : decode cX8_part 3 = .ok (.istore_n 3, 1) := by decide +kernel
theorem dX8_part_4 : decode cX8_part 4 = .ok (.iconst 0, 1) := by decide +kernel
theorem dX8_part_5 : decode cX8_part 5 = .ok (.istore 4, 2) := by decide +kernel
theorem dX8_part_7 : decode cX8_part 7 = .ok (.iload 4, 2) := by decide +kernel
theorem dX8_part_9 : decode cX8_part 9 = .ok (.iload_n 3, 1) := by decide +kernel
theorem dX8_part_10 : decode cX8_part 10 = .ok (.if_icmp .eq 92, 3) := by decide +kernel
theorem dX8_part_13 : decode cX8_part 13 = .ok (.iload_n 3, 1) := by decide +kernel
theorem dX8_part_14 : decode cX8_part 14 = .ok (.istore 4, 2) := by decide +kernel
theorem dX8_part_16 : decode cX8_part 16 = .ok (.iconst 0, 1) := by decide +kernel
theorem dX8_part_17 : decode cX8_part 17 = .ok (.istore 5, 2) := by decide +kernel
theorem dX8_part_19 : decode cX8_part 19 = .ok (.iload 5, 2) := by decide +kernel
theorem dX8_part_21 : decode cX8_part 21 = .ok (.aload_n 0, 1) := by decide +kernel
theorem dX8_part_22 : decode cX8_part 22 = .ok (.iconst 2, 1) := by decide +kernel
theorem dX8_part_23 : decode cX8_part 23 = .ok (.invokevirtual 227, 3) := by decide +kernel
theorem dX8_part_26 : decode cX8_part 26 = .ok (.if_icmp .ge 73, 3) := by decide +kernel
theorem dX8_part_29 : decode cX8_part 29 = .ok (.aload_n 0, 1) := by decide +kernel
theorem dX8_part_30 : decode cX8_part 30 = .ok (.iload 5, 2) := by decide +kernel
theorem dX8_part_32 : decode cX8_part 32 = .ok (.invokevirtual 282, 3) := by decide +kernel
theorem dX8_part_35 : decode cX8_part 35 = .ok (.ifCond .eq 58, 3) := by decide +kernel
theorem dX8_part_38 : decode cX8_part 38 = .ok (.iload 5, 2) := by decide +kernel
theorem dX8_part_40 : decode cX8_part 40 = .ok (.iload_n 2, 1) := by decide +kernel
theorem dX8_part_41 : decode cX8_part 41 = .ok (.if_icmp .ne 6, 3) := by decide +kernel
theorem dX8_part_44 : decode cX8_part 44 = .ok (.goto 49, 3) := by decide +kernel
theorem dX8_part_47 : decode cX8_part 47 = .ok (.iload_n 3, 1) := by decide +kernel
theorem dX8_part_48 : decode cX8_part 48 = .ok (.aload_n 0, 1) := by decide +kernel
theorem dX8_part_49 : decode cX8_part 49 = .ok (.iload 5, 2) := by decide +kernel
theorem dX8_part_51 : decode cX8_part 51 = .ok (.invokevirtual 273, 3) := by decide +kernel
theorem dX8_part_54 : decode cX8_part 54 = .ok (.invokestatic 196, 3) := by decide +kernel
theorem dX8_part_57 : decode cX8_part 57 = .ok (.ifCond .ne 16, 3) := by decide +kernel
theorem dX8_part_60 : decode cX8_part 60 = .ok (.iload_n 3, 1) := by decide +kernel
theorem dX8_part_61 : decode cX8_part 61 = .ok (.aload_n 0, 1) := by decide +kernel
theorem dX8_part_62 : decode cX8_part 62 = .ok (.iload 5, 2) := by decide +kernel
theorem dX8_part_64 : decode cX8_part 64 = .ok (.invokevirtual 279, 3) := by decide +kernel
theorem dX8_part_67 : decode cX8_part 67 = .ok (.invokestatic 196, 3) := by decide +kernel
theorem dX8_part_70 : decode cX8_part 70 = .ok (.ifCond .eq 23, 3) := by decide +kernel
theorem dX8_part_73 : decode cX8_part 73 = .ok (.iload_n 3, 1) := by decide +kernel
theorem dX8_part_74 : decode cX8_part 74 = .ok (.iconst 1, 1) := by decide +kernel
theorem dX8_part_75 : decode cX8_part 75 = .ok (.aload_n 0, 1) := by decide +kernel
theorem dX8_part_76 : decode cX8_part 76 = .ok (.iload 5, 2) := by decide +kernel
theorem dX8_part_78 : decode cX8_part 78 = .ok (.invokevirtual 273, 3) := by decide +kernel
theorem dX8_part_81 : decode cX8_part 81 = .ok (.ishl, 1) := by decide +kernel
theorem dX8_part_82 : decode cX8_part 82 = .ok (.iconst 1, 1) := by decide +kernel
theorem dX8_part_83 : decode cX8_part 83 = .ok (.aload_n 0, 1) := by decide +kernel
theorem dX8_part_84 : decode cX8_part 84 = .ok (.iload 5, 2) := by decide +kernel
theorem dX8_part_86 : decode cX8_part 86 = .ok (.invokevirtual 279, 3) := by decide +kernel
theorem dX8_part_89 : decode cX8_part 89 = .ok (.ishl, 1) := by decide +kernel
theorem dX8_part_90 : decode cX8_part 90 = .ok (.ior, 1) := by decide +kernel
theorem dX8_part_91 : decode cX8_part 91 = .ok (.ior, 1) := by decide +kernel
theorem dX8_part_92 : decode cX8_part 92 = .ok (.istore_n 3, 1) := by decide +kernel
theorem dX8_part_93 : decode cX8_part 93 = .ok (.iinc 5 1, 3) := by decide +kernel
theorem dX8_part_96 : decode cX8_part 96 = .ok (.goto (-77), 3) := by decide +kernel
theorem dX8_part_99 : decode cX8_part 99 = .ok (.goto (-92), 3) := by decide +kernel
theorem dX8_part_102 : decode cX8_part 102 = .ok (.iload_n 3, 1) := by decide +kernel
theorem dX8_part_103 : decode cX8_part 103 = .ok (.ireturn, 1) := by decide +kernel
theorem dX8_lowest_0 : decode cX8_lowest 0 = .ok (.iconst 0, 1) := by decide +kernel
theorem dX8_lowest_1 : decode cX8_lowest 1 = .ok (.istore_n 1, 1) := by decide +kernel
theorem dX8_lowest_2 : decode cX8_lowest 2 = .ok (.iload_n 0, 1) := by decide +kernel
theorem dX8_lowest_3 : decode cX8_lowest 3 = .ok (.iload_n 1, 1) := by decide +kernel
theorem dX8_lowest_4 : decode cX8_lowest 4 = .ok (.invokestatic 196, 3) := by decide +kernel
theorem dX8_lowest_7 : decode cX8_lowest 7 = .ok (.ifCond .ne 9, 3) := by decide +kernel
theorem dX8_lowest_10 : decode cX8_lowest 10 = .ok (.iinc 1 1, 3) := by decide +kernel
theorem dX8_lowest_13 : decode cX8_lowest 13 = .ok (.goto (-11), 3) := by decide +kernel
theorem dX8_lowest_16 : decode cX8_lowest 16 = .ok (.iload_n 1, 1) := by decide +kernel
theorem dX8_lowest_17 : decode cX8_lowest 17 = .ok (.ireturn, 1) := by decide +kernel
theorem dX8_rootOf_0 : decode cX8_rootOf 0 = .ok (.aload_n 0, 1) := by decide +kernel
theorem dX8_rootOf_1 : decode cX8_rootOf 1 = .ok (.aload_n 0, 1) := by decide +kernel
theorem dX8_rootOf_2 : decode cX8_rootOf 2 = .ok (.iload_n 1, 1) := by decide +kernel
theorem dX8_rootOf_3 : decode cX8_rootOf 3 = .ok (.invokevirtual 251, 3) := by decide +kernel
theorem dX8_rootOf_6 : decode cX8_rootOf 6 = .ok (.invokevirtual 234, 3) := by decide +kernel
theorem dX8_rootOf_9 : decode cX8_rootOf 9 = .ok (.ifCond .eq 7, 3) := by decide +kernel
theorem dX8_rootOf_12 : decode cX8_rootOf 12 = .ok (.iconst 0, 1) := by decide +kernel
theorem dX8_rootOf_13 : decode cX8_rootOf 13 = .ok (.goto 12, 3) := by decide +kernel
theorem dX8_rootOf_16 : decode cX8_rootOf 16 = .ok (.aload_n 0, 1) := by decide +kernel
theorem dX8_rootOf_17 : decode cX8_rootOf 17 = .ok (.iload_n 1, 1) := by decide +kernel
theorem dX8_rootOf_18 : decode cX8_rootOf 18 = .ok (.iconst (-1), 1) := by decide +kernel
theorem dX8_rootOf_19 : decode cX8_rootOf 19 = .ok (.invokevirtual 307, 3) := by decide +kernel
theorem dX8_rootOf_22 : decode cX8_rootOf 22 = .ok (.invokestatic 310, 3) := by decide +kernel
theorem dX8_rootOf_25 : decode cX8_rootOf 25 = .ok (.ireturn, 1) := by decide +kernel
theorem dX8_partCount_0 : decode cX8_partCount 0 = .ok (.aload_n 0, 1) := by decide +kernel
theorem dX8_partCount_1 : decode cX8_partCount 1 = .ok (.iconst 0, 1) := by decide +kernel
theorem dX8_partCount_2 : decode cX8_partCount 2 = .ok (.putfield 68, 3) := by decide +kernel
theorem dX8_partCount_5 : decode cX8_partCount 5 = .ok (.iconst 0, 1) := by decide +kernel
theorem dX8_partCount_6 : decode cX8_partCount 6 = .ok (.istore_n 1, 1) := by decide +kernel
theorem dX8_partCount_7 : decode cX8_partCount 7 = .ok (.iconst 0, 1) := by decide +kernel
theorem dX8_partCount_8 : decode cX8_partCount 8 = .ok (.istore_n 2, 1) := by decide +kernel
theorem dX8_partCount_9 : decode cX8_partCount 9 = .ok (.iload_n 2, 1) := by decide +kernel
theorem dX8_partCount_10 : decode cX8_partCount 10 = .ok (.aload_n 0, 1) := by decide +kernel
theorem dX8_partCount_11 : decode cX8_partCount 11 = .ok (.iconst 1, 1) := by decide +kernel
theorem dX8_partCount_12 : decode cX8_partCount 12 = .ok (.invokevirtual 227, 3) := by decide +kernel
theorem dX8_partCount_15 : decode cX8_partCount 15 = .ok (.if_icmp .ge 30, 3) := by decide +kernel
theorem dX8_partCount_18 : decode cX8_partCount 18 = .ok (.iload_n 1, 1) := by decide +kernel
theorem dX8_partCount_19 : decode cX8_partCount 19 = .ok (.aload_n 0, 1) := by decide +kernel
theorem dX8_partCount_20 : decode cX8_partCount 20 = .ok (.iload_n 2, 1) := by decide +kernel
theorem dX8_partCount_21 : decode cX8_partCount 21 = .ok (.iconst (-1), 1) := by decide +kernel
theorem dX8_partCount_22 : decode cX8_partCount 22 = .ok (.invokevirtual 307, 3) := by decide +kernel
theorem dX8_partCount_25 : decode cX8_partCount 25 = .ok (.invokestatic 310, 3) := by decide +kernel
theorem dX8_partCount_28 : decode cX8_partCount 28 = .ok (.iload_n 2, 1) := by decide +kernel
theorem dX8_partCount_29 : decode cX8_partCount 29 = .ok (.if_icmp .ne 7, 3) := by decide +kernel
theorem dX8_partCount_32 : decode cX8_partCount 32 = .ok (.iconst 1, 1) := by decide +kernel
theorem dX8_partCount_33 : decode cX8_partCount 33 = .ok (.goto 4, 3) := by decide +kernel
theorem dX8_partCount_36 : decode cX8_partCount 36 = .ok (.iconst 0, 1) := by decide +kernel
theorem dX8_partCount_37 : decode cX8_partCount 37 = .ok (.iadd, 1) := by decide +kernel
theorem dX8_partCount_38 : decode cX8_partCount 38 = .ok (.istore_n 1, 1) := by decide +kernel
theorem dX8_partCount_39 : decode cX8_partCount 39 = .ok (.iinc 2 1, 3) := by decide +kernel
theorem dX8_partCount_42 : decode cX8_partCount 42 = .ok (.goto (-33), 3) := by decide +kernel
theorem dX8_partCount_45 : decode cX8_partCount 45 = .ok (.iload_n 1, 1) := by decide +kernel
theorem dX8_partCount_46 : decode cX8_partCount 46 = .ok (.ireturn, 1) := by decide +kernel
theorem dX8_bridges_0 : decode cX8_bridges 0 = .ok (.aload_n 0, 1) := by decide +kernel
theorem dX8_bridges_1 : decode cX8_bridges 1 = .ok (.iconst 0, 1) := by decide +kernel
theorem dX8_bridges_2 : decode cX8_bridges 2 = .ok (.putfield 68, 3) := by decide +kernel
theorem dX8_bridges_5 : decode cX8_bridges 5 = .ok (.iconst 0, 1) := by decide +kernel
theorem dX8_bridges_6 : decode cX8_bridges 6 = .ok (.istore_n 1, 1) := by decide +kernel
theorem dX8_bridges_7 : decode cX8_bridges 7 = .ok (.iconst 0, 1) := by decide +kernel
theorem dX8_bridges_8 : decode cX8_bridges 8 = .ok (.istore_n 2, 1) := by decide +kernel
theorem dX8_bridges_9 : decode cX8_bridges 9 = .ok (.iload_n 2, 1) := by decide +kernel
theorem dX8_bridges_10 : decode cX8_bridges 10 = .ok (.aload_n 0, 1) := by decide +kernel
theorem dX8_bridges_11 : decode cX8_bridges 11 = .ok (.iconst 2, 1) := by decide +kernel
theorem dX8_bridges_12 : decode cX8_bridges 12 = .ok (.invokevirtual 227, 3) := by decide +kernel
theorem dX8_bridges_15 : decode cX8_bridges 15 = .ok (.if_icmp .ge 48, 3) := by decide +kernel
theorem dX8_bridges_18 : decode cX8_bridges 18 = .ok (.iload_n 1, 1) := by decide +kernel
theorem dX8_bridges_19 : decode cX8_bridges 19 = .ok (.aload_n 0, 1) := by decide +kernel
theorem dX8_bridges_20 : decode cX8_bridges 20 = .ok (.iload_n 2, 1) := by decide +kernel
theorem dX8_bridges_21 : decode cX8_bridges 21 = .ok (.invokevirtual 282, 3) := by decide +kernel
theorem dX8_bridges_24 : decode cX8_bridges 24 = .ok (.ifCond .eq 30, 3) := by decide +kernel
theorem dX8_bridges_27 : decode cX8_bridges 27 = .ok (.aload_n 0, 1) := by decide +kernel
theorem dX8_bridges_28 : decode cX8_bridges 28 = .ok (.aload_n 0, 1) := by decide +kernel
theorem dX8_bridges_29 : decode cX8_bridges 29 = .ok (.iload_n 2, 1) := by decide +kernel
theorem dX8_bridges_30 : decode cX8_bridges 30 = .ok (.invokevirtual 273, 3) := by decide +kernel
theorem dX8_bridges_33 : decode cX8_bridges 33 = .ok (.iload_n 2, 1) := by decide +kernel
theorem dX8_bridges_34 : decode cX8_bridges 34 = .ok (.invokevirtual 307, 3) := by decide +kernel
theorem dX8_bridges_37 : decode cX8_bridges 37 = .ok (.aload_n 0, 1) := by decide +kernel
theorem dX8_bridges_38 : decode cX8_bridges 38 = .ok (.iload_n 2, 1) := by decide +kernel
theorem dX8_bridges_39 : decode cX8_bridges 39 = .ok (.invokevirtual 279, 3) := by decide +kernel
theorem dX8_bridges_42 : decode cX8_bridges 42 = .ok (.invokestatic 196, 3) := by decide +kernel
theorem dX8_bridges_45 : decode cX8_bridges 45 = .ok (.ifCond .ne 9, 3) := by decide +kernel
theorem dX8_bridges_48 : decode cX8_bridges 48 = .ok (.iconst 1, 1) := by decide +kernel
theorem dX8_bridges_49 : decode cX8_bridges 49 = .ok (.iload_n 2, 1) := by decide +kernel
theorem dX8_bridges_50 : decode cX8_bridges 50 = .ok (.ishl, 1) := by decide +kernel
theorem dX8_bridges_51 : decode cX8_bridges 51 = .ok (.goto 4, 3) := by decide +kernel
theorem dX8_bridges_54 : decode cX8_bridges 54 = .ok (.iconst 0, 1) := by decide +kernel
theorem dX8_bridges_55 : decode cX8_bridges 55 = .ok (.ior, 1) := by decide +kernel
theorem dX8_bridges_56 : decode cX8_bridges 56 = .ok (.istore_n 1, 1) := by decide +kernel
theorem dX8_bridges_57 : decode cX8_bridges 57 = .ok (.iinc 2 1, 3) := by decide +kernel
theorem dX8_bridges_60 : decode cX8_bridges 60 = .ok (.goto (-51), 3) := by decide +kernel
theorem dX8_bridges_63 : decode cX8_bridges 63 = .ok (.iload_n 1, 1) := by decide +kernel
theorem dX8_bridges_64 : decode cX8_bridges 64 = .ok (.ireturn, 1) := by decide +kernel
theorem dX8_relaxes_0 : decode cX8_relaxes 0 = .ok (.aload_n 0, 1) := by decide +kernel
theorem dX8_relaxes_1 : decode cX8_relaxes 1 = .ok (.getfield 40, 3) := by decide +kernel
theorem dX8_relaxes_4 : decode cX8_relaxes 4 = .ok (.iload_n 1, 1) := by decide +kernel
theorem dX8_relaxes_5 : decode cX8_relaxes 5 = .ok (.iaload, 1) := by decide +kernel
theorem dX8_relaxes_6 : decode cX8_relaxes 6 = .ok (.ifCond .lt 33, 3) := by decide +kernel
theorem dX8_relaxes_9 : decode cX8_relaxes 9 = .ok (.aload_n 0, 1) := by decide +kernel
theorem dX8_relaxes_10 : decode cX8_relaxes 10 = .ok (.getfield 40, 3) := by decide +kernel
theorem dX8_relaxes_13 : decode cX8_relaxes 13 = .ok (.iload_n 2, 1) := by decide +kernel
theorem dX8_relaxes_14 : decode cX8_relaxes 14 = .ok (.iaload, 1) := by decide +kernel
theorem dX8_relaxes_15 : decode cX8_relaxes 15 = .ok (.ifCond .lt 26, 3) := by decide +kernel
theorem dX8_relaxes_18 : decode cX8_relaxes 18 = .ok (.aload_n 0, 1) := by decide +kernel
theorem dX8_relaxes_19 : decode cX8_relaxes 19 = .ok (.getfield 40, 3) := by decide +kernel
theorem dX8_relaxes_22 : decode cX8_relaxes 22 = .ok (.iload_n 2, 1) := by decide +kernel
theorem dX8_relaxes_23 : decode cX8_relaxes 23 = .ok (.iaload, 1) := by decide +kernel
theorem dX8_relaxes_24 : decode cX8_relaxes 24 = .ok (.aload_n 0, 1) := by decide +kernel
theorem dX8_relaxes_25 : decode cX8_relaxes 25 = .ok (.getfield 40, 3) := by decide +kernel
theorem dX8_relaxes_28 : decode cX8_relaxes 28 = .ok (.iload_n 1, 1) := by decide +kernel
theorem dX8_relaxes_29 : decode cX8_relaxes 29 = .ok (.iaload, 1) := by decide +kernel
theorem dX8_relaxes_30 : decode cX8_relaxes 30 = .ok (.aload_n 0, 1) := by decide +kernel
theorem dX8_relaxes_31 : decode cX8_relaxes 31 = .ok (.iload_n 3, 1) := by decide +kernel
theorem dX8_relaxes_32 : decode cX8_relaxes 32 = .ok (.invokevirtual 264, 3) := by decide +kernel
theorem dX8_relaxes_35 : decode cX8_relaxes 35 = .ok (.iadd, 1) := by decide +kernel
theorem dX8_relaxes_36 : decode cX8_relaxes 36 = .ok (.if_icmp .gt 5, 3) := by decide +kernel
theorem dX8_relaxes_39 : decode cX8_relaxes 39 = .ok (.iconst 0, 1) := by decide +kernel
theorem dX8_relaxes_40 : decode cX8_relaxes 40 = .ok (.ireturn, 1) := by decide +kernel
theorem dX8_relaxes_41 : decode cX8_relaxes 41 = .ok (.aload_n 0, 1) := by decide +kernel
theorem dX8_relaxes_42 : decode cX8_relaxes 42 = .ok (.getfield 40, 3) := by decide +kernel
theorem dX8_relaxes_45 : decode cX8_relaxes 45 = .ok (.iload_n 2, 1) := by decide +kernel
theorem dX8_relaxes_46 : decode cX8_relaxes 46 = .ok (.aload_n 0, 1) := by decide +kernel
theorem dX8_relaxes_47 : decode cX8_relaxes 47 = .ok (.getfield 40, 3) := by decide +kernel
theorem dX8_relaxes_50 : decode cX8_relaxes 50 = .ok (.iload_n 1, 1) := by decide +kernel
theorem dX8_relaxes_51 : decode cX8_relaxes 51 = .ok (.iaload, 1) := by decide +kernel
theorem dX8_relaxes_52 : decode cX8_relaxes 52 = .ok (.aload_n 0, 1) := by decide +kernel
theorem dX8_relaxes_53 : decode cX8_relaxes 53 = .ok (.iload_n 3, 1) := by decide +kernel
theorem dX8_relaxes_54 : decode cX8_relaxes 54 = .ok (.invokevirtual 264, 3) := by decide +kernel
theorem dX8_relaxes_57 : decode cX8_relaxes 57 = .ok (.iadd, 1) := by decide +kernel
theorem dX8_relaxes_58 : decode cX8_relaxes 58 = .ok (.iastore, 1) := by decide +kernel
theorem dX8_relaxes_59 : decode cX8_relaxes 59 = .ok (.iconst 1, 1) := by decide +kernel
theorem dX8_relaxes_60 : decode cX8_relaxes 60 = .ok (.ireturn, 1) := by decide +kernel
theorem dX8_layFar_0 : decode cX8_layFar 0 = .ok (.iconst 0, 1) := by decide +kernel
theorem dX8_layFar_1 : decode cX8_layFar 1 = .ok (.istore_n 2, 1) := by decide +kernel
theorem dX8_layFar_2 : decode cX8_layFar 2 = .ok (.iload_n 2, 1) := by decide +kernel
theorem dX8_layFar_3 : decode cX8_layFar 3 = .ok (.bipush 16, 2) := by decide +kernel
theorem dX8_layFar_5 : decode cX8_layFar 5 = .ok (.if_icmp .ge 16, 3) := by decide +kernel
theorem dX8_layFar_8 : decode cX8_layFar 8 = .ok (.aload_n 0, 1) := by decide +kernel
theorem dX8_layFar_9 : decode cX8_layFar 9 = .ok (.getfield 40, 3) := by decide +kernel
theorem dX8_layFar_12 : decode cX8_layFar 12 = .ok (.iload_n 2, 1) := by decide +kernel
theorem dX8_layFar_13 : decode cX8_layFar 13 = .ok (.iconst (-1), 1) := by decide +kernel
theorem dX8_layFar_14 : decode cX8_layFar 14 = .ok (.iastore, 1) := by decide +kernel
theorem dX8_layFar_15 : decode cX8_layFar 15 = .ok (.iinc 2 1, 3) := by decide +kernel
theorem dX8_layFar_18 : decode cX8_layFar 18 = .ok (.goto (-16), 3) := by decide +kernel
theorem dX8_layFar_21 : decode cX8_layFar 21 = .ok (.aload_n 0, 1) := by decide +kernel
theorem dX8_layFar_22 : decode cX8_layFar 22 = .ok (.getfield 40, 3) := by decide +kernel
theorem dX8_layFar_25 : decode cX8_layFar 25 = .ok (.iload_n 1, 1) := by decide +kernel
theorem dX8_layFar_26 : decode cX8_layFar 26 = .ok (.iconst 0, 1) := by decide +kernel
theorem dX8_layFar_27 : decode cX8_layFar 27 = .ok (.iastore, 1) := by decide +kernel
theorem dX8_layFar_28 : decode cX8_layFar 28 = .ok (.iconst 1, 1) := by decide +kernel
theorem dX8_layFar_29 : decode cX8_layFar 29 = .ok (.istore_n 2, 1) := by decide +kernel
theorem dX8_layFar_30 : decode cX8_layFar 30 = .ok (.iload_n 2, 1) := by decide +kernel
theorem dX8_layFar_31 : decode cX8_layFar 31 = .ok (.ifCond .eq 90, 3) := by decide +kernel
theorem dX8_layFar_34 : decode cX8_layFar 34 = .ok (.iconst 0, 1) := by decide +kernel
theorem dX8_layFar_35 : decode cX8_layFar 35 = .ok (.istore_n 2, 1) := by decide +kernel
theorem dX8_layFar_36 : decode cX8_layFar 36 = .ok (.iconst 0, 1) := by decide +kernel
theorem dX8_layFar_37 : decode cX8_layFar 37 = .ok (.istore_n 3, 1) := by decide +kernel
theorem dX8_layFar_38 : decode cX8_layFar 38 = .ok (.iload_n 3, 1) := by decide +kernel
theorem dX8_layFar_39 : decode cX8_layFar 39 = .ok (.aload_n 0, 1) := by decide +kernel
theorem dX8_layFar_40 : decode cX8_layFar 40 = .ok (.iconst 2, 1) := by decide +kernel
theorem dX8_layFar_41 : decode cX8_layFar 41 = .ok (.invokevirtual 227, 3) := by decide +kernel
theorem dX8_layFar_44 : decode cX8_layFar 44 = .ok (.if_icmp .ge 74, 3) := by decide +kernel
theorem dX8_layFar_47 : decode cX8_layFar 47 = .ok (.aload_n 0, 1) := by decide +kernel
theorem dX8_layFar_48 : decode cX8_layFar 48 = .ok (.iload_n 3, 1) := by decide +kernel
theorem dX8_layFar_49 : decode cX8_layFar 49 = .ok (.invokevirtual 282, 3) := by decide +kernel
theorem dX8_layFar_52 : decode cX8_layFar 52 = .ok (.ifCond .ne 6, 3) := by decide +kernel
theorem dX8_layFar_55 : decode cX8_layFar 55 = .ok (.goto 57, 3) := by decide +kernel
theorem dX8_layFar_58 : decode cX8_layFar 58 = .ok (.aload_n 0, 1) := by decide +kernel
theorem dX8_layFar_59 : decode cX8_layFar 59 = .ok (.aload_n 0, 1) := by decide +kernel
theorem dX8_layFar_60 : decode cX8_layFar 60 = .ok (.iload_n 3, 1) := by decide +kernel
theorem dX8_layFar_61 : decode cX8_layFar 61 = .ok (.invokevirtual 273, 3) := by decide +kernel
theorem dX8_layFar_64 : decode cX8_layFar 64 = .ok (.aload_n 0, 1) := by decide +kernel
theorem dX8_layFar_65 : decode cX8_layFar 65 = .ok (.iload_n 3, 1) := by decide +kernel
theorem dX8_layFar_66 : decode cX8_layFar 66 = .ok (.invokevirtual 279, 3) := by decide +kernel
theorem dX8_layFar_69 : decode cX8_layFar 69 = .ok (.iload_n 3, 1) := by decide +kernel
theorem dX8_layFar_70 : decode cX8_layFar 70 = .ok (.invokevirtual 313, 3) := by decide +kernel
theorem dX8_layFar_73 : decode cX8_layFar 73 = .ok (.istore 4, 2) := by decide +kernel
theorem dX8_layFar_75 : decode cX8_layFar 75 = .ok (.aload_n 0, 1) := by decide +kernel
theorem dX8_layFar_76 : decode cX8_layFar 76 = .ok (.aload_n 0, 1) := by decide +kernel
theorem dX8_layFar_77 : decode cX8_layFar 77 = .ok (.iload_n 3, 1) := by decide +kernel
theorem dX8_layFar_78 : decode cX8_layFar 78 = .ok (.invokevirtual 279, 3) := by decide +kernel
theorem dX8_layFar_81 : decode cX8_layFar 81 = .ok (.aload_n 0, 1) := by decide +kernel
theorem dX8_layFar_82 : decode cX8_layFar 82 = .ok (.iload_n 3, 1) := by decide +kernel
theorem dX8_layFar_83 : decode cX8_layFar 83 = .ok (.invokevirtual 273, 3) := by decide +kernel
theorem dX8_layFar_86 : decode cX8_layFar 86 = .ok (.iload_n 3, 1) := by decide +kernel
theorem dX8_layFar_87 : decode cX8_layFar 87 = .ok (.invokevirtual 313, 3) := by decide +kernel
theorem dX8_layFar_90 : decode cX8_layFar 90 = .ok (.istore 5, 2) := by decide +kernel
theorem dX8_layFar_92 : decode cX8_layFar 92 = .ok (.iload_n 2, 1) := by decide +kernel
theorem dX8_layFar_93 : decode cX8_layFar 93 = .ok (.ifCond .ne 13, 3) := by decide +kernel
theorem dX8_layFar_96 : decode cX8_layFar 96 = .ok (.iload 4, 2) := by decide +kernel
theorem dX8_layFar_98 : decode cX8_layFar 98 = .ok (.ifCond .ne 8, 3) := by decide +kernel
theorem dX8_layFar_101 : decode cX8_layFar 101 = .ok (.iload 5, 2) := by decide +kernel
theorem dX8_layFar_103 : decode cX8_layFar 103 = .ok (.ifCond .eq 7, 3) := by decide +kernel
theorem dX8_layFar_106 : decode cX8_layFar 106 = .ok (.iconst 1, 1) := by decide +kernel
theorem dX8_layFar_107 : decode cX8_layFar 107 = .ok (.goto 4, 3) := by decide +kernel
theorem dX8_layFar_110 : decode cX8_layFar 110 = .ok (.iconst 0, 1) := by decide +kernel
theorem dX8_layFar_111 : decode cX8_layFar 111 = .ok (.istore_n 2, 1) := by decide +kernel
theorem dX8_layFar_112 : decode cX8_layFar 112 = .ok (.iinc 3 1, 3) := by decide +kernel
theorem dX8_layFar_115 : decode cX8_layFar 115 = .ok (.goto (-77), 3) := by decide +kernel
theorem dX8_layFar_118 : decode cX8_layFar 118 = .ok (.goto (-88), 3) := by decide +kernel
theorem dX8_layFar_121 : decode cX8_layFar 121 = .ok (.return_, 1) := by decide +kernel
theorem dX8_layWay_0 : decode cX8_layWay 0 = .ok (.aload_n 0, 1) := by decide +kernel
theorem dX8_layWay_1 : decode cX8_layWay 1 = .ok (.iload_n 1, 1) := by decide +kernel
theorem dX8_layWay_2 : decode cX8_layWay 2 = .ok (.invokevirtual 316, 3) := by decide +kernel
theorem dX8_layWay_5 : decode cX8_layWay 5 = .ok (.aload_n 0, 1) := by decide +kernel
theorem dX8_layWay_6 : decode cX8_layWay 6 = .ok (.iconst 0, 1) := by decide +kernel
theorem dX8_layWay_7 : decode cX8_layWay 7 = .ok (.putfield 319, 3) := by decide +kernel
theorem dX8_layWay_10 : decode cX8_layWay 10 = .ok (.aload_n 0, 1) := by decide +kernel
theorem dX8_layWay_11 : decode cX8_layWay 11 = .ok (.iconst 0, 1) := by decide +kernel
theorem dX8_layWay_12 : decode cX8_layWay 12 = .ok (.putfield 322, 3) := by decide +kernel
theorem dX8_layWay_15 : decode cX8_layWay 15 = .ok (.aload_n 0, 1) := by decide +kernel
theorem dX8_layWay_16 : decode cX8_layWay 16 = .ok (.getfield 40, 3) := by decide +kernel
theorem dX8_layWay_19 : decode cX8_layWay 19 = .ok (.iload_n 2, 1) := by decide +kernel
theorem dX8_layWay_20 : decode cX8_layWay 20 = .ok (.iaload, 1) := by decide +kernel
theorem dX8_layWay_21 : decode cX8_layWay 21 = .ok (.ifCond .ge 7, 3) := by decide +kernel
theorem dX8_layWay_24 : decode cX8_layWay 24 = .ok (.iload_n 1, 1) := by decide +kernel
theorem dX8_layWay_25 : decode cX8_layWay 25 = .ok (.goto 4, 3) := by decide +kernel
theorem dX8_layWay_28 : decode cX8_layWay 28 = .ok (.iload_n 2, 1) := by decide +kernel
theorem dX8_layWay_29 : decode cX8_layWay 29 = .ok (.istore_n 3, 1) := by decide +kernel
theorem dX8_layWay_30 : decode cX8_layWay 30 = .ok (.iload_n 3, 1) := by decide +kernel
theorem dX8_layWay_31 : decode cX8_layWay 31 = .ok (.iload_n 1, 1) := by decide +kernel
theorem dX8_layWay_32 : decode cX8_layWay 32 = .ok (.if_icmp .eq 90, 3) := by decide +kernel
theorem dX8_layWay_35 : decode cX8_layWay 35 = .ok (.iconst 0, 1) := by decide +kernel
theorem dX8_layWay_36 : decode cX8_layWay 36 = .ok (.istore 4, 2) := by decide +kernel
theorem dX8_layWay_38 : decode cX8_layWay 38 = .ok (.aload_n 0, 1) := by decide +kernel
theorem dX8_layWay_39 : decode cX8_layWay 39 = .ok (.iload 4, 2) := by decide +kernel
theorem dX8_layWay_41 : decode cX8_layWay 41 = .ok (.iload_n 3, 1) := by decide +kernel
theorem dX8_layWay_42 : decode cX8_layWay 42 = .ok (.invokevirtual 304, 3) := by decide +kernel
theorem dX8_layWay_45 : decode cX8_layWay 45 = .ok (.ifCond .eq 31, 3) := by decide +kernel
theorem dX8_layWay_48 : decode cX8_layWay 48 = .ok (.aload_n 0, 1) := by decide +kernel
theorem dX8_layWay_49 : decode cX8_layWay 49 = .ok (.getfield 40, 3) := by decide +kernel
theorem dX8_layWay_52 : decode cX8_layWay 52 = .ok (.aload_n 0, 1) := by decide +kernel
theorem dX8_layWay_53 : decode cX8_layWay 53 = .ok (.iload 4, 2) := by decide +kernel
theorem dX8_layWay_55 : decode cX8_layWay 55 = .ok (.iload_n 3, 1) := by decide +kernel
theorem dX8_layWay_56 : decode cX8_layWay 56 = .ok (.invokevirtual 325, 3) := by decide +kernel
theorem dX8_layWay_59 : decode cX8_layWay 59 = .ok (.iaload, 1) := by decide +kernel
theorem dX8_layWay_60 : decode cX8_layWay 60 = .ok (.aload_n 0, 1) := by decide +kernel
theorem dX8_layWay_61 : decode cX8_layWay 61 = .ok (.getfield 40, 3) := by decide +kernel
theorem dX8_layWay_64 : decode cX8_layWay 64 = .ok (.iload_n 3, 1) := by decide +kernel
theorem dX8_layWay_65 : decode cX8_layWay 65 = .ok (.iaload, 1) := by decide +kernel
theorem dX8_layWay_66 : decode cX8_layWay 66 = .ok (.aload_n 0, 1) := by decide +kernel
theorem dX8_layWay_67 : decode cX8_layWay 67 = .ok (.iload 4, 2) := by decide +kernel
theorem dX8_layWay_69 : decode cX8_layWay 69 = .ok (.invokevirtual 264, 3) := by decide +kernel
theorem dX8_layWay_72 : decode cX8_layWay 72 = .ok (.isub, 1) := by decide +kernel
theorem dX8_layWay_73 : decode cX8_layWay 73 = .ok (.if_icmp .eq 9, 3) := by decide +kernel
theorem dX8_layWay_76 : decode cX8_layWay 76 = .ok (.iinc 4 1, 3) := by decide +kernel
theorem dX8_layWay_79 : decode cX8_layWay 79 = .ok (.goto (-41), 3) := by decide +kernel
theorem dX8_layWay_82 : decode cX8_layWay 82 = .ok (.aload_n 0, 1) := by decide +kernel
theorem dX8_layWay_83 : decode cX8_layWay 83 = .ok (.dup, 1) := by decide +kernel
theorem dX8_layWay_84 : decode cX8_layWay 84 = .ok (.getfield 319, 3) := by decide +kernel
theorem dX8_layWay_87 : decode cX8_layWay 87 = .ok (.iconst 1, 1) := by decide +kernel
theorem dX8_layWay_88 : decode cX8_layWay 88 = .ok (.iload 4, 2) := by decide +kernel
theorem dX8_layWay_90 : decode cX8_layWay 90 = .ok (.ishl, 1) := by decide +kernel
theorem dX8_layWay_91 : decode cX8_layWay 91 = .ok (.ior, 1) := by decide +kernel
theorem dX8_layWay_92 : decode cX8_layWay 92 = .ok (.putfield 319, 3) := by decide +kernel
theorem dX8_layWay_95 : decode cX8_layWay 95 = .ok (.aload_n 0, 1) := by decide +kernel
theorem dX8_layWay_96 : decode cX8_layWay 96 = .ok (.iload 4, 2) := by decide +kernel
theorem dX8_layWay_98 : decode cX8_layWay 98 = .ok (.iload_n 3, 1) := by decide +kernel
theorem dX8_layWay_99 : decode cX8_layWay 99 = .ok (.invokevirtual 325, 3) := by decide +kernel
theorem dX8_layWay_102 : decode cX8_layWay 102 = .ok (.istore_n 3, 1) := by decide +kernel
theorem dX8_layWay_103 : decode cX8_layWay 103 = .ok (.aload_n 0, 1) := by decide +kernel
theorem dX8_layWay_104 : decode cX8_layWay 104 = .ok (.dup, 1) := by decide +kernel
theorem dX8_layWay_105 : decode cX8_layWay 105 = .ok (.getfield 322, 3) := by decide +kernel
theorem dX8_layWay_108 : decode cX8_layWay 108 = .ok (.aload_n 0, 1) := by decide +kernel
theorem dX8_layWay_109 : decode cX8_layWay 109 = .ok (.iload 4, 2) := by decide +kernel
theorem dX8_layWay_111 : decode cX8_layWay 111 = .ok (.iload_n 3, 1) := by decide +kernel
theorem dX8_layWay_112 : decode cX8_layWay 112 = .ok (.invokevirtual 301, 3) := by decide +kernel
theorem dX8_layWay_115 : decode cX8_layWay 115 = .ok (.iadd, 1) := by decide +kernel
theorem dX8_layWay_116 : decode cX8_layWay 116 = .ok (.putfield 322, 3) := by decide +kernel
theorem dX8_layWay_119 : decode cX8_layWay 119 = .ok (.goto (-89), 3) := by decide +kernel
theorem dX8_layWay_122 : decode cX8_layWay 122 = .ok (.return_, 1) := by decide +kernel
theorem dX8_arePoints_0 : decode cX8_arePoints 0 = .ok (.aload_n 0, 1) := by decide +kernel
theorem dX8_arePoints_1 : decode cX8_arePoints 1 = .ok (.iload_n 1, 1) := by decide +kernel
theorem dX8_arePoints_2 : decode cX8_arePoints 2 = .ok (.invokevirtual 251, 3) := by decide +kernel
theorem dX8_arePoints_5 : decode cX8_arePoints 5 = .ok (.ifCond .eq 15, 3) := by decide +kernel
theorem dX8_arePoints_8 : decode cX8_arePoints 8 = .ok (.aload_n 0, 1) := by decide +kernel
theorem dX8_arePoints_9 : decode cX8_arePoints 9 = .ok (.iload_n 2, 1) := by decide +kernel
theorem dX8_arePoints_10 : decode cX8_arePoints 10 = .ok (.invokevirtual 251, 3) := by decide +kernel
theorem dX8_arePoints_13 : decode cX8_arePoints 13 = .ok (.ifCond .eq 7, 3) := by decide +kernel
theorem dX8_arePoints_16 : decode cX8_arePoints 16 = .ok (.iconst 1, 1) := by decide +kernel
theorem dX8_arePoints_17 : decode cX8_arePoints 17 = .ok (.goto 4, 3) := by decide +kernel
theorem dX8_arePoints_20 : decode cX8_arePoints 20 = .ok (.iconst 0, 1) := by decide +kernel
theorem dX8_arePoints_21 : decode cX8_arePoints 21 = .ok (.ireturn, 1) := by decide +kernel
theorem dX8_distance_0 : decode cX8_distance 0 = .ok (.aload_n 0, 1) := by decide +kernel
theorem dX8_distance_1 : decode cX8_distance 1 = .ok (.aload_n 0, 1) := by decide +kernel
theorem dX8_distance_2 : decode cX8_distance 2 = .ok (.iload_n 1, 1) := by decide +kernel
theorem dX8_distance_3 : decode cX8_distance 3 = .ok (.iload_n 2, 1) := by decide +kernel
theorem dX8_distance_4 : decode cX8_distance 4 = .ok (.invokevirtual 328, 3) := by decide +kernel
theorem dX8_distance_7 : decode cX8_distance 7 = .ok (.invokevirtual 234, 3) := by decide +kernel
theorem dX8_distance_10 : decode cX8_distance 10 = .ok (.ifCond .eq 5, 3) := by decide +kernel
theorem dX8_distance_13 : decode cX8_distance 13 = .ok (.iconst 0, 1) := by decide +kernel
theorem dX8_distance_14 : decode cX8_distance 14 = .ok (.ireturn, 1) := by decide +kernel
theorem dX8_distance_15 : decode cX8_distance 15 = .ok (.aload_n 0, 1) := by decide +kernel
theorem dX8_distance_16 : decode cX8_distance 16 = .ok (.iload_n 1, 1) := by decide +kernel
theorem dX8_distance_17 : decode cX8_distance 17 = .ok (.invokevirtual 316, 3) := by decide +kernel
theorem dX8_distance_20 : decode cX8_distance 20 = .ok (.aload_n 0, 1) := by decide +kernel
theorem dX8_distance_21 : decode cX8_distance 21 = .ok (.getfield 40, 3) := by decide +kernel
theorem dX8_distance_24 : decode cX8_distance 24 = .ok (.iload_n 2, 1) := by decide +kernel
theorem dX8_distance_25 : decode cX8_distance 25 = .ok (.iaload, 1) := by decide +kernel
theorem dX8_distance_26 : decode cX8_distance 26 = .ok (.ireturn, 1) := by decide +kernel
theorem dX8_riseBetween_0 : decode cX8_riseBetween 0 = .ok (.aload_n 0, 1) := by decide +kernel
theorem dX8_riseBetween_1 : decode cX8_riseBetween 1 = .ok (.aload_n 0, 1) := by decide +kernel
theorem dX8_riseBetween_2 : decode cX8_riseBetween 2 = .ok (.iload_n 1, 1) := by decide +kernel
theorem dX8_riseBetween_3 : decode cX8_riseBetween 3 = .ok (.iload_n 2, 1) := by decide +kernel
theorem dX8_riseBetween_4 : decode cX8_riseBetween 4 = .ok (.invokevirtual 328, 3) := by decide +kernel
theorem dX8_riseBetween_7 : decode cX8_riseBetween 7 = .ok (.invokevirtual 234, 3) := by decide +kernel
theorem dX8_riseBetween_10 : decode cX8_riseBetween 10 = .ok (.ifCond .eq 5, 3) := by decide +kernel
theorem dX8_riseBetween_13 : decode cX8_riseBetween 13 = .ok (.iconst 0, 1) := by decide +kernel
theorem dX8_riseBetween_14 : decode cX8_riseBetween 14 = .ok (.ireturn, 1) := by decide +kernel
theorem dX8_riseBetween_15 : decode cX8_riseBetween 15 = .ok (.aload_n 0, 1) := by decide +kernel
theorem dX8_riseBetween_16 : decode cX8_riseBetween 16 = .ok (.iload_n 1, 1) := by decide +kernel
theorem dX8_riseBetween_17 : decode cX8_riseBetween 17 = .ok (.iload_n 2, 1) := by decide +kernel
theorem dX8_riseBetween_18 : decode cX8_riseBetween 18 = .ok (.invokevirtual 331, 3) := by decide +kernel
theorem dX8_riseBetween_21 : decode cX8_riseBetween 21 = .ok (.aload_n 0, 1) := by decide +kernel
theorem dX8_riseBetween_22 : decode cX8_riseBetween 22 = .ok (.getfield 40, 3) := by decide +kernel
theorem dX8_riseBetween_25 : decode cX8_riseBetween 25 = .ok (.iload_n 2, 1) := by decide +kernel
theorem dX8_riseBetween_26 : decode cX8_riseBetween 26 = .ok (.iaload, 1) := by decide +kernel
theorem dX8_riseBetween_27 : decode cX8_riseBetween 27 = .ok (.ifCond .ge 8, 3) := by decide +kernel
theorem dX8_riseBetween_30 : decode cX8_riseBetween 30 = .ok (.ldc 241, 2) := by decide +kernel
theorem dX8_riseBetween_32 : decode cX8_riseBetween 32 = .ok (.goto 7, 3) := by decide +kernel
theorem dX8_riseBetween_35 : decode cX8_riseBetween 35 = .ok (.aload_n 0, 1) := by decide +kernel
theorem dX8_riseBetween_36 : decode cX8_riseBetween 36 = .ok (.getfield 322, 3) := by decide +kernel
theorem dX8_riseBetween_39 : decode cX8_riseBetween 39 = .ok (.ireturn, 1) := by decide +kernel
theorem dX8_wayBetween_0 : decode cX8_wayBetween 0 = .ok (.aload_n 0, 1) := by decide +kernel
theorem dX8_wayBetween_1 : decode cX8_wayBetween 1 = .ok (.aload_n 0, 1) := by decide +kernel
theorem dX8_wayBetween_2 : decode cX8_wayBetween 2 = .ok (.iload_n 1, 1) := by decide +kernel
theorem dX8_wayBetween_3 : decode cX8_wayBetween 3 = .ok (.iload_n 2, 1) := by decide +kernel
theorem dX8_wayBetween_4 : decode cX8_wayBetween 4 = .ok (.invokevirtual 328, 3) := by decide +kernel
theorem dX8_wayBetween_7 : decode cX8_wayBetween 7 = .ok (.invokevirtual 234, 3) := by decide +kernel
theorem dX8_wayBetween_10 : decode cX8_wayBetween 10 = .ok (.ifCond .eq 5, 3) := by decide +kernel
theorem dX8_wayBetween_13 : decode cX8_wayBetween 13 = .ok (.iconst 0, 1) := by decide +kernel
theorem dX8_wayBetween_14 : decode cX8_wayBetween 14 = .ok (.ireturn, 1) := by decide +kernel
theorem dX8_wayBetween_15 : decode cX8_wayBetween 15 = .ok (.aload_n 0, 1) := by decide +kernel
theorem dX8_wayBetween_16 : decode cX8_wayBetween 16 = .ok (.iload_n 1, 1) := by decide +kernel
theorem dX8_wayBetween_17 : decode cX8_wayBetween 17 = .ok (.iload_n 2, 1) := by decide +kernel
theorem dX8_wayBetween_18 : decode cX8_wayBetween 18 = .ok (.invokevirtual 331, 3) := by decide +kernel
theorem dX8_wayBetween_21 : decode cX8_wayBetween 21 = .ok (.aload_n 0, 1) := by decide +kernel
theorem dX8_wayBetween_22 : decode cX8_wayBetween 22 = .ok (.getfield 319, 3) := by decide +kernel
theorem dX8_wayBetween_25 : decode cX8_wayBetween 25 = .ok (.ireturn, 1) := by decide +kernel
theorem dX8_benchGap_0 : decode cX8_benchGap 0 = .ok (.aload_n 0, 1) := by decide +kernel
theorem dX8_benchGap_1 : decode cX8_benchGap 1 = .ok (.aload_n 0, 1) := by decide +kernel
theorem dX8_benchGap_2 : decode cX8_benchGap 2 = .ok (.iload_n 1, 1) := by decide +kernel
theorem dX8_benchGap_3 : decode cX8_benchGap 3 = .ok (.iload_n 2, 1) := by decide +kernel
theorem dX8_benchGap_4 : decode cX8_benchGap 4 = .ok (.invokevirtual 328, 3) := by decide +kernel
theorem dX8_benchGap_7 : decode cX8_benchGap 7 = .ok (.invokevirtual 234, 3) := by decide +kernel
theorem dX8_benchGap_10 : decode cX8_benchGap 10 = .ok (.ifCond .eq 5, 3) := by decide +kernel
theorem dX8_benchGap_13 : decode cX8_benchGap 13 = .ok (.iconst 0, 1) := by decide +kernel
theorem dX8_benchGap_14 : decode cX8_benchGap 14 = .ok (.ireturn, 1) := by decide +kernel
theorem dX8_benchGap_15 : decode cX8_benchGap 15 = .ok (.aload_n 0, 1) := by decide +kernel
theorem dX8_benchGap_16 : decode cX8_benchGap 16 = .ok (.getfield 7, 3) := by decide +kernel
theorem dX8_benchGap_19 : decode cX8_benchGap 19 = .ok (.bipush 6, 2) := by decide +kernel
theorem dX8_benchGap_21 : decode cX8_benchGap 21 = .ok (.iload_n 1, 1) := by decide +kernel
theorem dX8_benchGap_22 : decode cX8_benchGap 22 = .ok (.iadd, 1) := by decide +kernel
theorem dX8_benchGap_23 : decode cX8_benchGap 23 = .ok (.iaload, 1) := by decide +kernel
theorem dX8_benchGap_24 : decode cX8_benchGap 24 = .ok (.ifCond .lt 15, 3) := by decide +kernel
theorem dX8_benchGap_27 : decode cX8_benchGap 27 = .ok (.aload_n 0, 1) := by decide +kernel
theorem dX8_benchGap_28 : decode cX8_benchGap 28 = .ok (.getfield 7, 3) := by decide +kernel
theorem dX8_benchGap_31 : decode cX8_benchGap 31 = .ok (.bipush 6, 2) := by decide +kernel
theorem dX8_benchGap_33 : decode cX8_benchGap 33 = .ok (.iload_n 2, 1) := by decide +kernel
theorem dX8_benchGap_34 : decode cX8_benchGap 34 = .ok (.iadd, 1) := by decide +kernel
theorem dX8_benchGap_35 : decode cX8_benchGap 35 = .ok (.iaload, 1) := by decide +kernel
theorem dX8_benchGap_36 : decode cX8_benchGap 36 = .ok (.ifCond .ge 6, 3) := by decide +kernel
theorem dX8_benchGap_39 : decode cX8_benchGap 39 = .ok (.ldc 241, 2) := by decide +kernel
theorem dX8_benchGap_41 : decode cX8_benchGap 41 = .ok (.ireturn, 1) := by decide +kernel
theorem dX8_benchGap_42 : decode cX8_benchGap 42 = .ok (.aload_n 0, 1) := by decide +kernel
theorem dX8_benchGap_43 : decode cX8_benchGap 43 = .ok (.iload_n 1, 1) := by decide +kernel
theorem dX8_benchGap_44 : decode cX8_benchGap 44 = .ok (.iload_n 2, 1) := by decide +kernel
theorem dX8_benchGap_45 : decode cX8_benchGap 45 = .ok (.invokevirtual 331, 3) := by decide +kernel
theorem dX8_benchGap_48 : decode cX8_benchGap 48 = .ok (.aload_n 0, 1) := by decide +kernel
theorem dX8_benchGap_49 : decode cX8_benchGap 49 = .ok (.getfield 40, 3) := by decide +kernel
theorem dX8_benchGap_52 : decode cX8_benchGap 52 = .ok (.iload_n 2, 1) := by decide +kernel
theorem dX8_benchGap_53 : decode cX8_benchGap 53 = .ok (.iaload, 1) := by decide +kernel
theorem dX8_benchGap_54 : decode cX8_benchGap 54 = .ok (.ifCond .ge 8, 3) := by decide +kernel
theorem dX8_benchGap_57 : decode cX8_benchGap 57 = .ok (.ldc 241, 2) := by decide +kernel
theorem dX8_benchGap_59 : decode cX8_benchGap 59 = .ok (.goto 30, 3) := by decide +kernel
theorem dX8_benchGap_62 : decode cX8_benchGap 62 = .ok (.aload_n 0, 1) := by decide +kernel
theorem dX8_benchGap_63 : decode cX8_benchGap 63 = .ok (.getfield 322, 3) := by decide +kernel
theorem dX8_benchGap_66 : decode cX8_benchGap 66 = .ok (.bipush 100, 2) := by decide +kernel
theorem dX8_benchGap_68 : decode cX8_benchGap 68 = .ok (.aload_n 0, 1) := by decide +kernel
theorem dX8_benchGap_69 : decode cX8_benchGap 69 = .ok (.getfield 7, 3) := by decide +kernel
theorem dX8_benchGap_72 : decode cX8_benchGap 72 = .ok (.bipush 6, 2) := by decide +kernel
theorem dX8_benchGap_74 : decode cX8_benchGap 74 = .ok (.iload_n 2, 1) := by decide +kernel
theorem dX8_benchGap_75 : decode cX8_benchGap 75 = .ok (.iadd, 1) := by decide +kernel
theorem dX8_benchGap_76 : decode cX8_benchGap 76 = .ok (.iaload, 1) := by decide +kernel
theorem dX8_benchGap_77 : decode cX8_benchGap 77 = .ok (.aload_n 0, 1) := by decide +kernel
theorem dX8_benchGap_78 : decode cX8_benchGap 78 = .ok (.getfield 7, 3) := by decide +kernel
theorem dX8_benchGap_81 : decode cX8_benchGap 81 = .ok (.bipush 6, 2) := by decide +kernel
theorem dX8_benchGap_83 : decode cX8_benchGap 83 = .ok (.iload_n 1, 1) := by decide +kernel
theorem dX8_benchGap_84 : decode cX8_benchGap 84 = .ok (.iadd, 1) := by decide +kernel
theorem dX8_benchGap_85 : decode cX8_benchGap 85 = .ok (.iaload, 1) := by decide +kernel
theorem dX8_benchGap_86 : decode cX8_benchGap 86 = .ok (.isub, 1) := by decide +kernel
theorem dX8_benchGap_87 : decode cX8_benchGap 87 = .ok (.imul, 1) := by decide +kernel
theorem dX8_benchGap_88 : decode cX8_benchGap 88 = .ok (.isub, 1) := by decide +kernel
theorem dX8_benchGap_89 : decode cX8_benchGap 89 = .ok (.ireturn, 1) := by decide +kernel
theorem dX8_grow_0 : decode cX8_grow 0 = .ok (.iconst 0, 1) := by decide +kernel
theorem dX8_grow_1 : decode cX8_grow 1 = .ok (.istore_n 2, 1) := by decide +kernel
theorem dX8_grow_2 : decode cX8_grow 2 = .ok (.iconst 1, 1) := by decide +kernel
theorem dX8_grow_3 : decode cX8_grow 3 = .ok (.istore_n 3, 1) := by decide +kernel
theorem dX8_grow_4 : decode cX8_grow 4 = .ok (.aload_n 0, 1) := by decide +kernel
theorem dX8_grow_5 : decode cX8_grow 5 = .ok (.getfield 43, 3) := by decide +kernel
theorem dX8_grow_8 : decode cX8_grow 8 = .ok (.iconst 0, 1) := by decide +kernel
theorem dX8_grow_9 : decode cX8_grow 9 = .ok (.iload_n 1, 1) := by decide +kernel
theorem dX8_grow_10 : decode cX8_grow 10 = .ok (.iastore, 1) := by decide +kernel
theorem dX8_grow_11 : decode cX8_grow 11 = .ok (.aload_n 0, 1) := by decide +kernel
theorem dX8_grow_12 : decode cX8_grow 12 = .ok (.getfield 49, 3) := by decide +kernel
theorem dX8_grow_15 : decode cX8_grow 15 = .ok (.iload_n 1, 1) := by decide +kernel
theorem dX8_grow_16 : decode cX8_grow 16 = .ok (.iconst 0, 1) := by decide +kernel
theorem dX8_grow_17 : decode cX8_grow 17 = .ok (.iastore, 1) := by decide +kernel
theorem dX8_grow_18 : decode cX8_grow 18 = .ok (.iload_n 2, 1) := by decide +kernel
theorem dX8_grow_19 : decode cX8_grow 19 = .ok (.iload_n 3, 1) := by decide +kernel
theorem dX8_grow_20 : decode cX8_grow 20 = .ok (.if_icmp .ge 125, 3) := by decide +kernel
theorem dX8_grow_23 : decode cX8_grow 23 = .ok (.aload_n 0, 1) := by decide +kernel
theorem dX8_grow_24 : decode cX8_grow 24 = .ok (.getfield 43, 3) := by decide +kernel
theorem dX8_grow_27 : decode cX8_grow 27 = .ok (.iload_n 2, 1) := by decide +kernel
theorem dX8_grow_28 : decode cX8_grow 28 = .ok (.iaload, 1) := by decide +kernel
theorem dX8_grow_29 : decode cX8_grow 29 = .ok (.istore 4, 2) := by decide +kernel
theorem dX8_grow_31 : decode cX8_grow 31 = .ok (.iinc 2 1, 3) := by decide +kernel
theorem dX8_grow_34 : decode cX8_grow 34 = .ok (.iconst 0, 1) := by decide +kernel
theorem dX8_grow_35 : decode cX8_grow 35 = .ok (.istore 5, 2) := by decide +kernel
theorem dX8_grow_37 : decode cX8_grow 37 = .ok (.iload 5, 2) := by decide +kernel
theorem dX8_grow_39 : decode cX8_grow 39 = .ok (.aload_n 0, 1) := by decide +kernel
theorem dX8_grow_40 : decode cX8_grow 40 = .ok (.iconst 2, 1) := by decide +kernel
theorem dX8_grow_41 : decode cX8_grow 41 = .ok (.invokevirtual 227, 3) := by decide +kernel
theorem dX8_grow_44 : decode cX8_grow 44 = .ok (.if_icmp .ge 98, 3) := by decide +kernel
theorem dX8_grow_47 : decode cX8_grow 47 = .ok (.aload_n 0, 1) := by decide +kernel
theorem dX8_grow_48 : decode cX8_grow 48 = .ok (.iload 5, 2) := by decide +kernel
theorem dX8_grow_50 : decode cX8_grow 50 = .ok (.iload 4, 2) := by decide +kernel
theorem dX8_grow_52 : decode cX8_grow 52 = .ok (.invokevirtual 304, 3) := by decide +kernel
theorem dX8_grow_55 : decode cX8_grow 55 = .ok (.ifCond .eq 81, 3) := by decide +kernel
theorem dX8_grow_58 : decode cX8_grow 58 = .ok (.aload_n 0, 1) := by decide +kernel
theorem dX8_grow_59 : decode cX8_grow 59 = .ok (.getfield 49, 3) := by decide +kernel
theorem dX8_grow_62 : decode cX8_grow 62 = .ok (.aload_n 0, 1) := by decide +kernel
theorem dX8_grow_63 : decode cX8_grow 63 = .ok (.iload 5, 2) := by decide +kernel
theorem dX8_grow_65 : decode cX8_grow 65 = .ok (.iload 4, 2) := by decide +kernel
theorem dX8_grow_67 : decode cX8_grow 67 = .ok (.invokevirtual 325, 3) := by decide +kernel
theorem dX8_grow_70 : decode cX8_grow 70 = .ok (.iaload, 1) := by decide +kernel
theorem dX8_grow_71 : decode cX8_grow 71 = .ok (.ifCond .lt 6, 3) := by decide +kernel
theorem dX8_grow_74 : decode cX8_grow 74 = .ok (.goto 62, 3) := by decide +kernel
theorem dX8_grow_77 : decode cX8_grow 77 = .ok (.aload_n 0, 1) := by decide +kernel
theorem dX8_grow_78 : decode cX8_grow 78 = .ok (.iload 5, 2) := by decide +kernel
theorem dX8_grow_80 : decode cX8_grow 80 = .ok (.iload 4, 2) := by decide +kernel
theorem dX8_grow_82 : decode cX8_grow 82 = .ok (.invokevirtual 325, 3) := by decide +kernel
theorem dX8_grow_85 : decode cX8_grow 85 = .ok (.istore 6, 2) := by decide +kernel
theorem dX8_grow_87 : decode cX8_grow 87 = .ok (.aload_n 0, 1) := by decide +kernel
theorem dX8_grow_88 : decode cX8_grow 88 = .ok (.dup, 1) := by decide +kernel
theorem dX8_grow_89 : decode cX8_grow 89 = .ok (.getfield 334, 3) := by decide +kernel
theorem dX8_grow_92 : decode cX8_grow 92 = .ok (.iconst 1, 1) := by decide +kernel
theorem dX8_grow_93 : decode cX8_grow 93 = .ok (.iload 5, 2) := by decide +kernel
theorem dX8_grow_95 : decode cX8_grow 95 = .ok (.ishl, 1) := by decide +kernel
theorem dX8_grow_96 : decode cX8_grow 96 = .ok (.ior, 1) := by decide +kernel
theorem dX8_grow_97 : decode cX8_grow 97 = .ok (.putfield 334, 3) := by decide +kernel
theorem dX8_grow_100 : decode cX8_grow 100 = .ok (.aload_n 0, 1) := by decide +kernel
theorem dX8_grow_101 : decode cX8_grow 101 = .ok (.getfield 46, 3) := by decide +kernel
theorem dX8_grow_104 : decode cX8_grow 104 = .ok (.iload 6, 2) := by decide +kernel
theorem dX8_grow_106 : decode cX8_grow 106 = .ok (.iload 5, 2) := by decide +kernel
theorem dX8_grow_108 : decode cX8_grow 108 = .ok (.iastore, 1) := by decide +kernel
theorem dX8_grow_109 : decode cX8_grow 109 = .ok (.aload_n 0, 1) := by decide +kernel
theorem dX8_grow_110 : decode cX8_grow 110 = .ok (.getfield 49, 3) := by decide +kernel
theorem dX8_grow_113 : decode cX8_grow 113 = .ok (.iload 6, 2) := by decide +kernel
theorem dX8_grow_115 : decode cX8_grow 115 = .ok (.aload_n 0, 1) := by decide +kernel
theorem dX8_grow_116 : decode cX8_grow 116 = .ok (.getfield 49, 3) := by decide +kernel
theorem dX8_grow_119 : decode cX8_grow 119 = .ok (.iload 4, 2) := by decide +kernel
theorem dX8_grow_121 : decode cX8_grow 121 = .ok (.iaload, 1) := by decide +kernel
theorem dX8_grow_122 : decode cX8_grow 122 = .ok (.iconst 1, 1) := by decide +kernel
theorem dX8_grow_123 : decode cX8_grow 123 = .ok (.iadd, 1) := by decide +kernel
theorem dX8_grow_124 : decode cX8_grow 124 = .ok (.iastore, 1) := by decide +kernel
theorem dX8_grow_125 : decode cX8_grow 125 = .ok (.aload_n 0, 1) := by decide +kernel
theorem dX8_grow_126 : decode cX8_grow 126 = .ok (.getfield 43, 3) := by decide +kernel
theorem dX8_grow_129 : decode cX8_grow 129 = .ok (.iload_n 3, 1) := by decide +kernel
theorem dX8_grow_130 : decode cX8_grow 130 = .ok (.iload 6, 2) := by decide +kernel
theorem dX8_grow_132 : decode cX8_grow 132 = .ok (.iastore, 1) := by decide +kernel
theorem dX8_grow_133 : decode cX8_grow 133 = .ok (.iinc 3 1, 3) := by decide +kernel
theorem dX8_grow_136 : decode cX8_grow 136 = .ok (.iinc 5 1, 3) := by decide +kernel
theorem dX8_grow_139 : decode cX8_grow 139 = .ok (.goto (-102), 3) := by decide +kernel
theorem dX8_grow_142 : decode cX8_grow 142 = .ok (.goto (-124), 3) := by decide +kernel
theorem dX8_grow_145 : decode cX8_grow 145 = .ok (.return_, 1) := by decide +kernel
theorem dX8_layLoops_0 : decode cX8_layLoops 0 = .ok (.aload_n 0, 1) := by decide +kernel
theorem dX8_layLoops_1 : decode cX8_layLoops 1 = .ok (.iconst 0, 1) := by decide +kernel
theorem dX8_layLoops_2 : decode cX8_layLoops 2 = .ok (.putfield 334, 3) := by decide +kernel
theorem dX8_layLoops_5 : decode cX8_layLoops 5 = .ok (.aload_n 0, 1) := by decide +kernel
theorem dX8_layLoops_6 : decode cX8_layLoops 6 = .ok (.iconst 0, 1) := by decide +kernel
theorem dX8_layLoops_7 : decode cX8_layLoops 7 = .ok (.putfield 337, 3) := by decide +kernel
theorem dX8_layLoops_10 : decode cX8_layLoops 10 = .ok (.iconst 0, 1) := by decide +kernel
theorem dX8_layLoops_11 : decode cX8_layLoops 11 = .ok (.istore_n 1, 1) := by decide +kernel
theorem dX8_layLoops_12 : decode cX8_layLoops 12 = .ok (.iload_n 1, 1) := by decide +kernel
theorem dX8_layLoops_13 : decode cX8_layLoops 13 = .ok (.bipush 16, 2) := by decide +kernel
theorem dX8_layLoops_15 : decode cX8_layLoops 15 = .ok (.if_icmp .ge 23, 3) := by decide +kernel
theorem dX8_layLoops_18 : decode cX8_layLoops 18 = .ok (.aload_n 0, 1) := by decide +kernel
theorem dX8_layLoops_19 : decode cX8_layLoops 19 = .ok (.getfield 49, 3) := by decide +kernel
theorem dX8_layLoops_22 : decode cX8_layLoops 22 = .ok (.iload_n 1, 1) := by decide +kernel
theorem dX8_layLoops_23 : decode cX8_layLoops 23 = .ok (.iconst (-1), 1) := by decide +kernel
theorem dX8_layLoops_24 : decode cX8_layLoops 24 = .ok (.iastore, 1) := by decide +kernel
theorem dX8_layLoops_25 : decode cX8_layLoops 25 = .ok (.aload_n 0, 1) := by decide +kernel
theorem dX8_layLoops_26 : decode cX8_layLoops 26 = .ok (.getfield 46, 3) := by decide +kernel
theorem dX8_layLoops_29 : decode cX8_layLoops 29 = .ok (.iload_n 1, 1) := by decide +kernel
theorem dX8_layLoops_30 : decode cX8_layLoops 30 = .ok (.iconst (-1), 1) := by decide +kernel
theorem dX8_layLoops_31 : decode cX8_layLoops 31 = .ok (.iastore, 1) := by decide +kernel
theorem dX8_layLoops_32 : decode cX8_layLoops 32 = .ok (.iinc 1 1, 3) := by decide +kernel
theorem dX8_layLoops_35 : decode cX8_layLoops 35 = .ok (.goto (-23), 3) := by decide +kernel
theorem dX8_layLoops_38 : decode cX8_layLoops 38 = .ok (.iconst 0, 1) := by decide +kernel
theorem dX8_layLoops_39 : decode cX8_layLoops 39 = .ok (.istore_n 1, 1) := by decide +kernel
theorem dX8_layLoops_40 : decode cX8_layLoops 40 = .ok (.iload_n 1, 1) := by decide +kernel
theorem dX8_layLoops_41 : decode cX8_layLoops 41 = .ok (.aload_n 0, 1) := by decide +kernel
theorem dX8_layLoops_42 : decode cX8_layLoops 42 = .ok (.iconst 1, 1) := by decide +kernel
theorem dX8_layLoops_43 : decode cX8_layLoops 43 = .ok (.invokevirtual 227, 3) := by decide +kernel
theorem dX8_layLoops_46 : decode cX8_layLoops 46 = .ok (.if_icmp .ge 23, 3) := by decide +kernel
theorem dX8_layLoops_49 : decode cX8_layLoops 49 = .ok (.aload_n 0, 1) := by decide +kernel
theorem dX8_layLoops_50 : decode cX8_layLoops 50 = .ok (.getfield 49, 3) := by decide +kernel
theorem dX8_layLoops_53 : decode cX8_layLoops 53 = .ok (.iload_n 1, 1) := by decide +kernel
theorem dX8_layLoops_54 : decode cX8_layLoops 54 = .ok (.iaload, 1) := by decide +kernel
theorem dX8_layLoops_55 : decode cX8_layLoops 55 = .ok (.ifCond .ge 8, 3) := by decide +kernel
theorem dX8_layLoops_58 : decode cX8_layLoops 58 = .ok (.aload_n 0, 1) := by decide +kernel
theorem dX8_layLoops_59 : decode cX8_layLoops 59 = .ok (.iload_n 1, 1) := by decide +kernel
theorem dX8_layLoops_60 : decode cX8_layLoops 60 = .ok (.invokevirtual 340, 3) := by decide +kernel
theorem dX8_layLoops_63 : decode cX8_layLoops 63 = .ok (.iinc 1 1, 3) := by decide +kernel
theorem dX8_layLoops_66 : decode cX8_layLoops 66 = .ok (.goto (-26), 3) := by decide +kernel
theorem dX8_layLoops_69 : decode cX8_layLoops 69 = .ok (.iconst 0, 1) := by decide +kernel
theorem dX8_layLoops_70 : decode cX8_layLoops 70 = .ok (.istore_n 1, 1) := by decide +kernel
theorem dX8_layLoops_71 : decode cX8_layLoops 71 = .ok (.iload_n 1, 1) := by decide +kernel
theorem dX8_layLoops_72 : decode cX8_layLoops 72 = .ok (.aload_n 0, 1) := by decide +kernel
theorem dX8_layLoops_73 : decode cX8_layLoops 73 = .ok (.iconst 2, 1) := by decide +kernel
theorem dX8_layLoops_74 : decode cX8_layLoops 74 = .ok (.invokevirtual 227, 3) := by decide +kernel
theorem dX8_layLoops_77 : decode cX8_layLoops 77 = .ok (.if_icmp .ge 51, 3) := by decide +kernel
theorem dX8_layLoops_80 : decode cX8_layLoops 80 = .ok (.aload_n 0, 1) := by decide +kernel
theorem dX8_layLoops_81 : decode cX8_layLoops 81 = .ok (.iload_n 1, 1) := by decide +kernel
theorem dX8_layLoops_82 : decode cX8_layLoops 82 = .ok (.invokevirtual 282, 3) := by decide +kernel
theorem dX8_layLoops_85 : decode cX8_layLoops 85 = .ok (.ifCond .eq 37, 3) := by decide +kernel
theorem dX8_layLoops_88 : decode cX8_layLoops 88 = .ok (.aload_n 0, 1) := by decide +kernel
theorem dX8_layLoops_89 : decode cX8_layLoops 89 = .ok (.getfield 334, 3) := by decide +kernel
theorem dX8_layLoops_92 : decode cX8_layLoops 92 = .ok (.iload_n 1, 1) := by decide +kernel
theorem dX8_layLoops_93 : decode cX8_layLoops 93 = .ok (.invokestatic 196, 3) := by decide +kernel
theorem dX8_layLoops_96 : decode cX8_layLoops 96 = .ok (.ifCond .eq 6, 3) := by decide +kernel
theorem dX8_layLoops_99 : decode cX8_layLoops 99 = .ok (.goto 23, 3) := by decide +kernel
theorem dX8_layLoops_102 : decode cX8_layLoops 102 = .ok (.aload_n 0, 1) := by decide +kernel
theorem dX8_layLoops_103 : decode cX8_layLoops 103 = .ok (.getfield 52, 3) := by decide +kernel
theorem dX8_layLoops_106 : decode cX8_layLoops 106 = .ok (.aload_n 0, 1) := by decide +kernel
theorem dX8_layLoops_107 : decode cX8_layLoops 107 = .ok (.getfield 337, 3) := by decide +kernel
theorem dX8_layLoops_110 : decode cX8_layLoops 110 = .ok (.iload_n 1, 1) := by decide +kernel
theorem dX8_layLoops_111 : decode cX8_layLoops 111 = .ok (.iastore, 1) := by decide +kernel
theorem dX8_layLoops_112 : decode cX8_layLoops 112 = .ok (.aload_n 0, 1) := by decide +kernel
theorem dX8_layLoops_113 : decode cX8_layLoops 113 = .ok (.dup, 1) := by decide +kernel
theorem dX8_layLoops_114 : decode cX8_layLoops 114 = .ok (.getfield 337, 3) := by decide +kernel
theorem dX8_layLoops_117 : decode cX8_layLoops 117 = .ok (.iconst 1, 1) := by decide +kernel
theorem dX8_layLoops_118 : decode cX8_layLoops 118 = .ok (.iadd, 1) := by decide +kernel
theorem dX8_layLoops_119 : decode cX8_layLoops 119 = .ok (.putfield 337, 3) := by decide +kernel
theorem dX8_layLoops_122 : decode cX8_layLoops 122 = .ok (.iinc 1 1, 3) := by decide +kernel
theorem dX8_layLoops_125 : decode cX8_layLoops 125 = .ok (.goto (-54), 3) := by decide +kernel
theorem dX8_layLoops_128 : decode cX8_layLoops 128 = .ok (.return_, 1) := by decide +kernel
theorem dX8_goes_0 : decode cX8_goes 0 = .ok (.aload_n 0, 1) := by decide +kernel
theorem dX8_goes_1 : decode cX8_goes 1 = .ok (.getfield 55, 3) := by decide +kernel
theorem dX8_goes_4 : decode cX8_goes 4 = .ok (.aload_n 0, 1) := by decide +kernel
theorem dX8_goes_5 : decode cX8_goes 5 = .ok (.getfield 343, 3) := by decide +kernel
theorem dX8_goes_8 : decode cX8_goes 8 = .ok (.aload_n 0, 1) := by decide +kernel
theorem dX8_goes_9 : decode cX8_goes 9 = .ok (.iload_n 1, 1) := by decide +kernel
theorem dX8_goes_10 : decode cX8_goes 10 = .ok (.invokevirtual 273, 3) := by decide +kernel
theorem dX8_goes_13 : decode cX8_goes 13 = .ok (.iload_n 2, 1) := by decide +kernel
theorem dX8_goes_14 : decode cX8_goes 14 = .ok (.if_icmp .ne 7, 3) := by decide +kernel
theorem dX8_goes_17 : decode cX8_goes 17 = .ok (.iload_n 1, 1) := by decide +kernel
theorem dX8_goes_18 : decode cX8_goes 18 = .ok (.goto 7, 3) := by decide +kernel
theorem dX8_goes_21 : decode cX8_goes 21 = .ok (.bipush 100, 2) := by decide +kernel
theorem dX8_goes_23 : decode cX8_goes 23 = .ok (.iload_n 1, 1) := by decide +kernel
theorem dX8_goes_24 : decode cX8_goes 24 = .ok (.iadd, 1) := by decide +kernel
theorem dX8_goes_25 : decode cX8_goes 25 = .ok (.iastore, 1) := by decide +kernel
theorem dX8_goes_26 : decode cX8_goes 26 = .ok (.aload_n 0, 1) := by decide +kernel
theorem dX8_goes_27 : decode cX8_goes 27 = .ok (.dup, 1) := by decide +kernel
theorem dX8_goes_28 : decode cX8_goes 28 = .ok (.getfield 343, 3) := by decide +kernel
theorem dX8_goes_31 : decode cX8_goes 31 = .ok (.iconst 1, 1) := by decide +kernel
theorem dX8_goes_32 : decode cX8_goes 32 = .ok (.iadd, 1) := by decide +kernel
theorem dX8_goes_33 : decode cX8_goes 33 = .ok (.putfield 343, 3) := by decide +kernel
theorem dX8_goes_36 : decode cX8_goes 36 = .ok (.aload_n 0, 1) := by decide +kernel
theorem dX8_goes_37 : decode cX8_goes 37 = .ok (.dup, 1) := by decide +kernel
theorem dX8_goes_38 : decode cX8_goes 38 = .ok (.getfield 346, 3) := by decide +kernel
theorem dX8_goes_41 : decode cX8_goes 41 = .ok (.aload_n 0, 1) := by decide +kernel
theorem dX8_goes_42 : decode cX8_goes 42 = .ok (.iload_n 1, 1) := by decide +kernel
theorem dX8_goes_43 : decode cX8_goes 43 = .ok (.iload_n 2, 1) := by decide +kernel
theorem dX8_goes_44 : decode cX8_goes 44 = .ok (.invokevirtual 301, 3) := by decide +kernel
theorem dX8_goes_47 : decode cX8_goes 47 = .ok (.iadd, 1) := by decide +kernel
theorem dX8_goes_48 : decode cX8_goes 48 = .ok (.putfield 346, 3) := by decide +kernel
theorem dX8_goes_51 : decode cX8_goes 51 = .ok (.aload_n 0, 1) := by decide +kernel
theorem dX8_goes_52 : decode cX8_goes 52 = .ok (.dup, 1) := by decide +kernel
theorem dX8_goes_53 : decode cX8_goes 53 = .ok (.getfield 349, 3) := by decide +kernel
theorem dX8_goes_56 : decode cX8_goes 56 = .ok (.aload_n 0, 1) := by decide +kernel
theorem dX8_goes_57 : decode cX8_goes 57 = .ok (.iload_n 1, 1) := by decide +kernel
theorem dX8_goes_58 : decode cX8_goes 58 = .ok (.invokevirtual 264, 3) := by decide +kernel
theorem dX8_goes_61 : decode cX8_goes 61 = .ok (.iadd, 1) := by decide +kernel
theorem dX8_goes_62 : decode cX8_goes 62 = .ok (.putfield 349, 3) := by decide +kernel
theorem dX8_goes_65 : decode cX8_goes 65 = .ok (.return_, 1) := by decide +kernel
theorem dX8_layLoop_0 : decode cX8_layLoop 0 = .ok (.aload_n 0, 1) := by decide +kernel
theorem dX8_layLoop_1 : decode cX8_layLoop 1 = .ok (.getfield 52, 3) := by decide +kernel
theorem dX8_layLoop_4 : decode cX8_layLoop 4 = .ok (.iload_n 1, 1) := by decide +kernel
theorem dX8_layLoop_5 : decode cX8_layLoop 5 = .ok (.iaload, 1) := by decide +kernel
theorem dX8_layLoop_6 : decode cX8_layLoop 6 = .ok (.istore_n 2, 1) := by decide +kernel
theorem dX8_layLoop_7 : decode cX8_layLoop 7 = .ok (.aload_n 0, 1) := by decide +kernel
theorem dX8_layLoop_8 : decode cX8_layLoop 8 = .ok (.iconst 0, 1) := by decide +kernel
theorem dX8_layLoop_9 : decode cX8_layLoop 9 = .ok (.putfield 343, 3) := by decide +kernel
theorem dX8_layLoop_12 : decode cX8_layLoop 12 = .ok (.aload_n 0, 1) := by decide +kernel
theorem dX8_layLoop_13 : decode cX8_layLoop 13 = .ok (.iconst 0, 1) := by decide +kernel
theorem dX8_layLoop_14 : decode cX8_layLoop 14 = .ok (.putfield 346, 3) := by decide +kernel
theorem dX8_layLoop_17 : decode cX8_layLoop 17 = .ok (.aload_n 0, 1) := by decide +kernel
theorem dX8_layLoop_18 : decode cX8_layLoop 18 = .ok (.iconst 0, 1) := by decide +kernel
theorem dX8_layLoop_19 : decode cX8_layLoop 19 = .ok (.putfield 349, 3) := by decide +kernel
theorem dX8_layLoop_22 : decode cX8_layLoop 22 = .ok (.aload_n 0, 1) := by decide +kernel
theorem dX8_layLoop_23 : decode cX8_layLoop 23 = .ok (.iload_n 2, 1) := by decide +kernel
theorem dX8_layLoop_24 : decode cX8_layLoop 24 = .ok (.aload_n 0, 1) := by decide +kernel
theorem dX8_layLoop_25 : decode cX8_layLoop 25 = .ok (.iload_n 2, 1) := by decide +kernel
theorem dX8_layLoop_26 : decode cX8_layLoop 26 = .ok (.invokevirtual 273, 3) := by decide +kernel
theorem dX8_layLoop_29 : decode cX8_layLoop 29 = .ok (.invokevirtual 352, 3) := by decide +kernel
theorem dX8_layLoop_32 : decode cX8_layLoop 32 = .ok (.aload_n 0, 1) := by decide +kernel
theorem dX8_layLoop_33 : decode cX8_layLoop 33 = .ok (.iload_n 2, 1) := by decide +kernel
theorem dX8_layLoop_34 : decode cX8_layLoop 34 = .ok (.invokevirtual 279, 3) := by decide +kernel
theorem dX8_layLoop_37 : decode cX8_layLoop 37 = .ok (.istore_n 3, 1) := by decide +kernel
theorem dX8_layLoop_38 : decode cX8_layLoop 38 = .ok (.aload_n 0, 1) := by decide +kernel
theorem dX8_layLoop_39 : decode cX8_layLoop 39 = .ok (.iload_n 2, 1) := by decide +kernel
theorem dX8_layLoop_40 : decode cX8_layLoop 40 = .ok (.invokevirtual 273, 3) := by decide +kernel
theorem dX8_layLoop_43 : decode cX8_layLoop 43 = .ok (.istore 4, 2) := by decide +kernel
theorem dX8_layLoop_45 : decode cX8_layLoop 45 = .ok (.iconst 0, 1) := by decide +kernel
theorem dX8_layLoop_46 : decode cX8_layLoop 46 = .ok (.istore 5, 2) := by decide +kernel
theorem dX8_layLoop_48 : decode cX8_layLoop 48 = .ok (.iload_n 3, 1) := by decide +kernel
theorem dX8_layLoop_49 : decode cX8_layLoop 49 = .ok (.iload 4, 2) := by decide +kernel
theorem dX8_layLoop_51 : decode cX8_layLoop 51 = .ok (.if_icmp .eq 80, 3) := by decide +kernel
theorem dX8_layLoop_54 : decode cX8_layLoop 54 = .ok (.aload_n 0, 1) := by decide +kernel
theorem dX8_layLoop_55 : decode cX8_layLoop 55 = .ok (.getfield 49, 3) := by decide +kernel
theorem dX8_layLoop_58 : decode cX8_layLoop 58 = .ok (.iload_n 3, 1) := by decide +kernel
theorem dX8_layLoop_59 : decode cX8_layLoop 59 = .ok (.iaload, 1) := by decide +kernel
theorem dX8_layLoop_60 : decode cX8_layLoop 60 = .ok (.aload_n 0, 1) := by decide +kernel
theorem dX8_layLoop_61 : decode cX8_layLoop 61 = .ok (.getfield 49, 3) := by decide +kernel
theorem dX8_layLoop_64 : decode cX8_layLoop 64 = .ok (.iload 4, 2) := by decide +kernel
theorem dX8_layLoop_66 : decode cX8_layLoop 66 = .ok (.iaload, 1) := by decide +kernel
theorem dX8_layLoop_67 : decode cX8_layLoop 67 = .ok (.if_icmp .lt 29, 3) := by decide +kernel
theorem dX8_layLoop_70 : decode cX8_layLoop 70 = .ok (.aload_n 0, 1) := by decide +kernel
theorem dX8_layLoop_71 : decode cX8_layLoop 71 = .ok (.getfield 46, 3) := by decide +kernel
theorem dX8_layLoop_74 : decode cX8_layLoop 74 = .ok (.iload_n 3, 1) := by decide +kernel
theorem dX8_layLoop_75 : decode cX8_layLoop 75 = .ok (.iaload, 1) := by decide +kernel
theorem dX8_layLoop_76 : decode cX8_layLoop 76 = .ok (.istore 6, 2) := by decide +kernel
theorem dX8_layLoop_78 : decode cX8_layLoop 78 = .ok (.aload_n 0, 1) := by decide +kernel
theorem dX8_layLoop_79 : decode cX8_layLoop 79 = .ok (.iload 6, 2) := by decide +kernel
theorem dX8_layLoop_81 : decode cX8_layLoop 81 = .ok (.iload_n 3, 1) := by decide +kernel
theorem dX8_layLoop_82 : decode cX8_layLoop 82 = .ok (.invokevirtual 352, 3) := by decide +kernel
theorem dX8_layLoop_85 : decode cX8_layLoop 85 = .ok (.aload_n 0, 1) := by decide +kernel
theorem dX8_layLoop_86 : decode cX8_layLoop 86 = .ok (.iload 6, 2) := by decide +kernel
theorem dX8_layLoop_88 : decode cX8_layLoop 88 = .ok (.iload_n 3, 1) := by decide +kernel
theorem dX8_layLoop_89 : decode cX8_layLoop 89 = .ok (.invokevirtual 325, 3) := by decide +kernel
theorem dX8_layLoop_92 : decode cX8_layLoop 92 = .ok (.istore_n 3, 1) := by decide +kernel
theorem dX8_layLoop_93 : decode cX8_layLoop 93 = .ok (.goto (-45), 3) := by decide +kernel
theorem dX8_layLoop_96 : decode cX8_layLoop 96 = .ok (.aload_n 0, 1) := by decide +kernel
theorem dX8_layLoop_97 : decode cX8_layLoop 97 = .ok (.getfield 58, 3) := by decide +kernel
theorem dX8_layLoop_100 : decode cX8_layLoop 100 = .ok (.iload 5, 2) := by decide +kernel
theorem dX8_layLoop_102 : decode cX8_layLoop 102 = .ok (.aload_n 0, 1) := by decide +kernel
theorem dX8_layLoop_103 : decode cX8_layLoop 103 = .ok (.getfield 46, 3) := by decide +kernel
theorem dX8_layLoop_106 : decode cX8_layLoop 106 = .ok (.iload 4, 2) := by decide +kernel
theorem dX8_layLoop_108 : decode cX8_layLoop 108 = .ok (.iaload, 1) := by decide +kernel
theorem dX8_layLoop_109 : decode cX8_layLoop 109 = .ok (.iastore, 1) := by decide +kernel
theorem dX8_layLoop_110 : decode cX8_layLoop 110 = .ok (.iinc 5 1, 3) := by decide +kernel
theorem dX8_layLoop_113 : decode cX8_layLoop 113 = .ok (.aload_n 0, 1) := by decide +kernel
theorem dX8_layLoop_114 : decode cX8_layLoop 114 = .ok (.aload_n 0, 1) := by decide +kernel
theorem dX8_layLoop_115 : decode cX8_layLoop 115 = .ok (.getfield 46, 3) := by decide +kernel
theorem dX8_layLoop_118 : decode cX8_layLoop 118 = .ok (.iload 4, 2) := by decide +kernel
theorem dX8_layLoop_120 : decode cX8_layLoop 120 = .ok (.iaload, 1) := by decide +kernel
theorem dX8_layLoop_121 : decode cX8_layLoop 121 = .ok (.iload 4, 2) := by decide +kernel
theorem dX8_layLoop_123 : decode cX8_layLoop 123 = .ok (.invokevirtual 325, 3) := by decide +kernel
theorem dX8_layLoop_126 : decode cX8_layLoop 126 = .ok (.istore 4, 2) := by decide +kernel
theorem dX8_layLoop_128 : decode cX8_layLoop 128 = .ok (.goto (-80), 3) := by decide +kernel
theorem dX8_layLoop_131 : decode cX8_layLoop 131 = .ok (.iload 5, 2) := by decide +kernel
theorem dX8_layLoop_133 : decode cX8_layLoop 133 = .ok (.iconst 1, 1) := by decide +kernel
theorem dX8_layLoop_134 : decode cX8_layLoop 134 = .ok (.isub, 1) := by decide +kernel
theorem dX8_layLoop_135 : decode cX8_layLoop 135 = .ok (.istore 6, 2) := by decide +kernel
theorem dX8_layLoop_137 : decode cX8_layLoop 137 = .ok (.iload 6, 2) := by decide +kernel
theorem dX8_layLoop_139 : decode cX8_layLoop 139 = .ok (.ifCond .lt 34, 3) := by decide +kernel
theorem dX8_layLoop_142 : decode cX8_layLoop 142 = .ok (.aload_n 0, 1) := by decide +kernel
theorem dX8_layLoop_143 : decode cX8_layLoop 143 = .ok (.aload_n 0, 1) := by decide +kernel
theorem dX8_layLoop_144 : decode cX8_layLoop 144 = .ok (.getfield 58, 3) := by decide +kernel
theorem dX8_layLoop_147 : decode cX8_layLoop 147 = .ok (.iload 6, 2) := by decide +kernel
theorem dX8_layLoop_149 : decode cX8_layLoop 149 = .ok (.iaload, 1) := by decide +kernel
theorem dX8_layLoop_150 : decode cX8_layLoop 150 = .ok (.iload_n 3, 1) := by decide +kernel
theorem dX8_layLoop_151 : decode cX8_layLoop 151 = .ok (.invokevirtual 352, 3) := by decide +kernel
theorem dX8_layLoop_154 : decode cX8_layLoop 154 = .ok (.aload_n 0, 1) := by decide +kernel
theorem dX8_layLoop_155 : decode cX8_layLoop 155 = .ok (.aload_n 0, 1) := by decide +kernel
theorem dX8_layLoop_156 : decode cX8_layLoop 156 = .ok (.getfield 58, 3) := by decide +kernel
theorem dX8_layLoop_159 : decode cX8_layLoop 159 = .ok (.iload 6, 2) := by decide +kernel
theorem dX8_layLoop_161 : decode cX8_layLoop 161 = .ok (.iaload, 1) := by decide +kernel
theorem dX8_layLoop_162 : decode cX8_layLoop 162 = .ok (.iload_n 3, 1) := by decide +kernel
theorem dX8_layLoop_163 : decode cX8_layLoop 163 = .ok (.invokevirtual 325, 3) := by decide +kernel
theorem dX8_layLoop_166 : decode cX8_layLoop 166 = .ok (.istore_n 3, 1) := by decide +kernel
theorem dX8_layLoop_167 : decode cX8_layLoop 167 = .ok (.iinc 6 (-1), 3) := by decide +kernel
theorem dX8_layLoop_170 : decode cX8_layLoop 170 = .ok (.goto (-33), 3) := by decide +kernel
theorem dX8_layLoop_173 : decode cX8_layLoop 173 = .ok (.return_, 1) := by decide +kernel
theorem dX8_root_0 : decode cX8_root 0 = .ok (.lconst 0, 1) := by decide +kernel
theorem dX8_root_1 : decode cX8_root 1 = .ok (.lstore_n 2, 1) := by decide +kernel
theorem dX8_root_2 : decode cX8_root 2 = .ok (.ldc2_w 355, 3) := by decide +kernel
theorem dX8_root_5 : decode cX8_root 5 = .ok (.lstore 4, 2) := by decide +kernel
theorem dX8_root_7 : decode cX8_root 7 = .ok (.lload_n 2, 1) := by decide +kernel
theorem dX8_root_8 : decode cX8_root 8 = .ok (.lload 4, 2) := by decide +kernel
theorem dX8_root_10 : decode cX8_root 10 = .ok (.lcmp, 1) := by decide +kernel
theorem dX8_root_11 : decode cX8_root 11 = .ok (.ifCond .ge 40, 3) := by decide +kernel
theorem dX8_root_14 : decode cX8_root 14 = .ok (.lload_n 2, 1) := by decide +kernel
theorem dX8_root_15 : decode cX8_root 15 = .ok (.lload 4, 2) := by decide +kernel
theorem dX8_root_17 : decode cX8_root 17 = .ok (.ladd, 1) := by decide +kernel
theorem dX8_root_18 : decode cX8_root 18 = .ok (.lconst 1, 1) := by decide +kernel
theorem dX8_root_19 : decode cX8_root 19 = .ok (.ladd, 1) := by decide +kernel
theorem dX8_root_20 : decode cX8_root 20 = .ok (.ldc2_w 357, 3) := by decide +kernel
theorem dX8_root_23 : decode cX8_root 23 = .ok (.ldiv, 1) := by decide +kernel
theorem dX8_root_24 : decode cX8_root 24 = .ok (.lstore 6, 2) := by decide +kernel
theorem dX8_root_26 : decode cX8_root 26 = .ok (.lload 6, 2) := by decide +kernel
theorem dX8_root_28 : decode cX8_root 28 = .ok (.lload 6, 2) := by decide +kernel
theorem dX8_root_30 : decode cX8_root 30 = .ok (.lmul, 1) := by decide +kernel
theorem dX8_root_31 : decode cX8_root 31 = .ok (.lload_n 0, 1) := by decide +kernel
theorem dX8_root_32 : decode cX8_root 32 = .ok (.lcmp, 1) := by decide +kernel
theorem dX8_root_33 : decode cX8_root 33 = .ok (.ifCond .gt 9, 3) := by decide +kernel
theorem dX8_root_36 : decode cX8_root 36 = .ok (.lload 6, 2) := by decide +kernel
theorem dX8_root_38 : decode cX8_root 38 = .ok (.lstore_n 2, 1) := by decide +kernel
theorem dX8_root_39 : decode cX8_root 39 = .ok (.goto 9, 3) := by decide +kernel
theorem dX8_root_42 : decode cX8_root 42 = .ok (.lload 6, 2) := by decide +kernel
theorem dX8_root_44 : decode cX8_root 44 = .ok (.lconst 1, 1) := by decide +kernel
theorem dX8_root_45 : decode cX8_root 45 = .ok (.lsub, 1) := by decide +kernel
theorem dX8_root_46 : decode cX8_root 46 = .ok (.lstore 4, 2) := by decide +kernel
theorem dX8_root_48 : decode cX8_root 48 = .ok (.goto (-41), 3) := by decide +kernel
theorem dX8_root_51 : decode cX8_root 51 = .ok (.lload_n 2, 1) := by decide +kernel
theorem dX8_root_52 : decode cX8_root 52 = .ok (.lreturn, 1) := by decide +kernel
theorem dX8_allowedNow_0 : decode cX8_allowedNow 0 = .ok (.ldc2_w 359, 3) := by decide +kernel
theorem dX8_allowedNow_3 : decode cX8_allowedNow 3 = .ok (.aload_n 0, 1) := by decide +kernel
theorem dX8_allowedNow_4 : decode cX8_allowedNow 4 = .ok (.getfield 7, 3) := by decide +kernel
theorem dX8_allowedNow_7 : decode cX8_allowedNow 7 = .ok (.iconst 0, 1) := by decide +kernel
theorem dX8_allowedNow_8 : decode cX8_allowedNow 8 = .ok (.iaload, 1) := by decide +kernel
theorem dX8_allowedNow_9 : decode cX8_allowedNow 9 = .ok (.i2l, 1) := by decide +kernel
theorem dX8_allowedNow_10 : decode cX8_allowedNow 10 = .ok (.lmul, 1) := by decide +kernel
theorem dX8_allowedNow_11 : decode cX8_allowedNow 11 = .ok (.aload_n 0, 1) := by decide +kernel
theorem dX8_allowedNow_12 : decode cX8_allowedNow 12 = .ok (.getfield 7, 3) := by decide +kernel
theorem dX8_allowedNow_15 : decode cX8_allowedNow 15 = .ok (.iconst 0, 1) := by decide +kernel
theorem dX8_allowedNow_16 : decode cX8_allowedNow 16 = .ok (.iaload, 1) := by decide +kernel
theorem dX8_allowedNow_17 : decode cX8_allowedNow 17 = .ok (.i2l, 1) := by decide +kernel
theorem dX8_allowedNow_18 : decode cX8_allowedNow 18 = .ok (.lmul, 1) := by decide +kernel
theorem dX8_allowedNow_19 : decode cX8_allowedNow 19 = .ok (.aload_n 0, 1) := by decide +kernel
theorem dX8_allowedNow_20 : decode cX8_allowedNow 20 = .ok (.getfield 349, 3) := by decide +kernel
theorem dX8_allowedNow_23 : decode cX8_allowedNow 23 = .ok (.i2l, 1) := by decide +kernel
theorem dX8_allowedNow_24 : decode cX8_allowedNow 24 = .ok (.lmul, 1) := by decide +kernel
theorem dX8_allowedNow_25 : decode cX8_allowedNow 25 = .ok (.invokestatic 361, 3) := by decide +kernel
theorem dX8_allowedNow_28 : decode cX8_allowedNow 28 = .ok (.l2i, 1) := by decide +kernel
theorem dX8_allowedNow_29 : decode cX8_allowedNow 29 = .ok (.ireturn, 1) := by decide +kernel
theorem dX8_isBad_0 : decode cX8_isBad 0 = .ok (.aload_n 0, 1) := by decide +kernel
theorem dX8_isBad_1 : decode cX8_isBad 1 = .ok (.iload_n 1, 1) := by decide +kernel
theorem dX8_isBad_2 : decode cX8_isBad 2 = .ok (.invokevirtual 364, 3) := by decide +kernel
theorem dX8_isBad_5 : decode cX8_isBad 5 = .ok (.aload_n 0, 1) := by decide +kernel
theorem dX8_isBad_6 : decode cX8_isBad 6 = .ok (.getfield 346, 3) := by decide +kernel
theorem dX8_isBad_9 : decode cX8_isBad 9 = .ok (.i2l, 1) := by decide +kernel
theorem dX8_isBad_10 : decode cX8_isBad 10 = .ok (.invokestatic 294, 3) := by decide +kernel
theorem dX8_isBad_13 : decode cX8_isBad 13 = .ok (.aload_n 0, 1) := by decide +kernel
theorem dX8_isBad_14 : decode cX8_isBad 14 = .ok (.invokevirtual 367, 3) := by decide +kernel
theorem dX8_isBad_17 : decode cX8_isBad 17 = .ok (.i2l, 1) := by decide +kernel
theorem dX8_isBad_18 : decode cX8_isBad 18 = .ok (.lcmp, 1) := by decide +kernel
theorem dX8_isBad_19 : decode cX8_isBad 19 = .ok (.ifCond .le 7, 3) := by decide +kernel
theorem dX8_isBad_22 : decode cX8_isBad 22 = .ok (.iconst 1, 1) := by decide +kernel
theorem dX8_isBad_23 : decode cX8_isBad 23 = .ok (.goto 4, 3) := by decide +kernel
theorem dX8_isBad_26 : decode cX8_isBad 26 = .ok (.iconst 0, 1) := by decide +kernel
theorem dX8_isBad_27 : decode cX8_isBad 27 = .ok (.ireturn, 1) := by decide +kernel
theorem dX8_failsLoop_0 : decode cX8_failsLoop 0 = .ok (.aload_n 0, 1) := by decide +kernel
theorem dX8_failsLoop_1 : decode cX8_failsLoop 1 = .ok (.invokevirtual 370, 3) := by decide +kernel
theorem dX8_failsLoop_4 : decode cX8_failsLoop 4 = .ok (.aload_n 0, 1) := by decide +kernel
theorem dX8_failsLoop_5 : decode cX8_failsLoop 5 = .ok (.iload_n 1, 1) := by decide +kernel
theorem dX8_failsLoop_6 : decode cX8_failsLoop 6 = .ok (.iconst 0, 1) := by decide +kernel
theorem dX8_failsLoop_7 : decode cX8_failsLoop 7 = .ok (.aload_n 0, 1) := by decide +kernel
theorem dX8_failsLoop_8 : decode cX8_failsLoop 8 = .ok (.getfield 337, 3) := by decide +kernel
theorem dX8_failsLoop_11 : decode cX8_failsLoop 11 = .ok (.iconst 1, 1) := by decide +kernel
theorem dX8_failsLoop_12 : decode cX8_failsLoop 12 = .ok (.isub, 1) := by decide +kernel
theorem dX8_failsLoop_13 : decode cX8_failsLoop 13 = .ok (.invokestatic 107, 3) := by decide +kernel
theorem dX8_failsLoop_16 : decode cX8_failsLoop 16 = .ok (.invokevirtual 234, 3) := by decide +kernel
theorem dX8_failsLoop_19 : decode cX8_failsLoop 19 = .ok (.ireturn, 1) := by decide +kernel
theorem dX8_treeLines_0 : decode cX8_treeLines 0 = .ok (.aload_n 0, 1) := by decide +kernel
theorem dX8_treeLines_1 : decode cX8_treeLines 1 = .ok (.iconst 0, 1) := by decide +kernel
theorem dX8_treeLines_2 : decode cX8_treeLines 2 = .ok (.putfield 68, 3) := by decide +kernel
theorem dX8_treeLines_5 : decode cX8_treeLines 5 = .ok (.aload_n 0, 1) := by decide +kernel
theorem dX8_treeLines_6 : decode cX8_treeLines 6 = .ok (.invokevirtual 370, 3) := by decide +kernel
theorem dX8_treeLines_9 : decode cX8_treeLines 9 = .ok (.aload_n 0, 1) := by decide +kernel
theorem dX8_treeLines_10 : decode cX8_treeLines 10 = .ok (.getfield 334, 3) := by decide +kernel
theorem dX8_treeLines_13 : decode cX8_treeLines 13 = .ok (.ireturn, 1) := by decide +kernel
theorem dX8_loopsNow_0 : decode cX8_loopsNow 0 = .ok (.aload_n 0, 1) := by decide +kernel
theorem dX8_loopsNow_1 : decode cX8_loopsNow 1 = .ok (.invokevirtual 370, 3) := by decide +kernel
theorem dX8_loopsNow_4 : decode cX8_loopsNow 4 = .ok (.aload_n 0, 1) := by decide +kernel
theorem dX8_loopsNow_5 : decode cX8_loopsNow 5 = .ok (.getfield 337, 3) := by decide +kernel
theorem dX8_loopsNow_8 : decode cX8_loopsNow 8 = .ok (.ireturn, 1) := by decide +kernel
theorem dX8_loopCount_0 : decode cX8_loopCount 0 = .ok (.aload_n 0, 1) := by decide +kernel
theorem dX8_loopCount_1 : decode cX8_loopCount 1 = .ok (.iconst 0, 1) := by decide +kernel
theorem dX8_loopCount_2 : decode cX8_loopCount 2 = .ok (.putfield 68, 3) := by decide +kernel
theorem dX8_loopCount_5 : decode cX8_loopCount 5 = .ok (.aload_n 0, 1) := by decide +kernel
theorem dX8_loopCount_6 : decode cX8_loopCount 6 = .ok (.invokevirtual 373, 3) := by decide +kernel
theorem dX8_loopCount_9 : decode cX8_loopCount 9 = .ok (.ireturn, 1) := by decide +kernel
theorem dX8_loopLine_0 : decode cX8_loopLine 0 = .ok (.aload_n 0, 1) := by decide +kernel
theorem dX8_loopLine_1 : decode cX8_loopLine 1 = .ok (.iload_n 1, 1) := by decide +kernel
theorem dX8_loopLine_2 : decode cX8_loopLine 2 = .ok (.invokevirtual 376, 3) := by decide +kernel
theorem dX8_loopLine_5 : decode cX8_loopLine 5 = .ok (.ifCond .eq 5, 3) := by decide +kernel
theorem dX8_loopLine_8 : decode cX8_loopLine 8 = .ok (.iconst 0, 1) := by decide +kernel
theorem dX8_loopLine_9 : decode cX8_loopLine 9 = .ok (.ireturn, 1) := by decide +kernel
theorem dX8_loopLine_10 : decode cX8_loopLine 10 = .ok (.aload_n 0, 1) := by decide +kernel
theorem dX8_loopLine_11 : decode cX8_loopLine 11 = .ok (.iload_n 1, 1) := by decide +kernel
theorem dX8_loopLine_12 : decode cX8_loopLine 12 = .ok (.invokevirtual 364, 3) := by decide +kernel
theorem dX8_loopLine_15 : decode cX8_loopLine 15 = .ok (.iload_n 2, 1) := by decide +kernel
theorem dX8_loopLine_16 : decode cX8_loopLine 16 = .ok (.iconst 0, 1) := by decide +kernel
theorem dX8_loopLine_17 : decode cX8_loopLine 17 = .ok (.aload_n 0, 1) := by decide +kernel
theorem dX8_loopLine_18 : decode cX8_loopLine 18 = .ok (.getfield 343, 3) := by decide +kernel
theorem dX8_loopLine_21 : decode cX8_loopLine 21 = .ok (.iconst 1, 1) := by decide +kernel
theorem dX8_loopLine_22 : decode cX8_loopLine 22 = .ok (.isub, 1) := by decide +kernel
theorem dX8_loopLine_23 : decode cX8_loopLine 23 = .ok (.invokestatic 107, 3) := by decide +kernel
theorem dX8_loopLine_26 : decode cX8_loopLine 26 = .ok (.ifCond .eq 12, 3) := by decide +kernel
theorem dX8_loopLine_29 : decode cX8_loopLine 29 = .ok (.aload_n 0, 1) := by decide +kernel
theorem dX8_loopLine_30 : decode cX8_loopLine 30 = .ok (.getfield 55, 3) := by decide +kernel
theorem dX8_loopLine_33 : decode cX8_loopLine 33 = .ok (.iload_n 2, 1) := by decide +kernel
theorem dX8_loopLine_34 : decode cX8_loopLine 34 = .ok (.iaload, 1) := by decide +kernel
theorem dX8_loopLine_35 : decode cX8_loopLine 35 = .ok (.goto 4, 3) := by decide +kernel
theorem dX8_loopLine_38 : decode cX8_loopLine 38 = .ok (.iconst (-1), 1) := by decide +kernel
theorem dX8_loopLine_39 : decode cX8_loopLine 39 = .ok (.ireturn, 1) := by decide +kernel
theorem dX8_loopLength_0 : decode cX8_loopLength 0 = .ok (.aload_n 0, 1) := by decide +kernel
theorem dX8_loopLength_1 : decode cX8_loopLength 1 = .ok (.iload_n 1, 1) := by decide +kernel
theorem dX8_loopLength_2 : decode cX8_loopLength 2 = .ok (.invokevirtual 376, 3) := by decide +kernel
theorem dX8_loopLength_5 : decode cX8_loopLength 5 = .ok (.ifCond .eq 5, 3) := by decide +kernel
theorem dX8_loopLength_8 : decode cX8_loopLength 8 = .ok (.iconst 0, 1) := by decide +kernel
theorem dX8_loopLength_9 : decode cX8_loopLength 9 = .ok (.ireturn, 1) := by decide +kernel
theorem dX8_loopLength_10 : decode cX8_loopLength 10 = .ok (.aload_n 0, 1) := by decide +kernel
theorem dX8_loopLength_11 : decode cX8_loopLength 11 = .ok (.iload_n 1, 1) := by decide +kernel
theorem dX8_loopLength_12 : decode cX8_loopLength 12 = .ok (.invokevirtual 364, 3) := by decide +kernel
theorem dX8_loopLength_15 : decode cX8_loopLength 15 = .ok (.aload_n 0, 1) := by decide +kernel
theorem dX8_loopLength_16 : decode cX8_loopLength 16 = .ok (.getfield 349, 3) := by decide +kernel
theorem dX8_loopLength_19 : decode cX8_loopLength 19 = .ok (.ireturn, 1) := by decide +kernel
theorem dX8_misclosure_0 : decode cX8_misclosure 0 = .ok (.aload_n 0, 1) := by decide +kernel
theorem dX8_misclosure_1 : decode cX8_misclosure 1 = .ok (.iload_n 1, 1) := by decide +kernel
theorem dX8_misclosure_2 : decode cX8_misclosure 2 = .ok (.invokevirtual 376, 3) := by decide +kernel
theorem dX8_misclosure_5 : decode cX8_misclosure 5 = .ok (.ifCond .eq 5, 3) := by decide +kernel
theorem dX8_misclosure_8 : decode cX8_misclosure 8 = .ok (.iconst 0, 1) := by decide +kernel
theorem dX8_misclosure_9 : decode cX8_misclosure 9 = .ok (.ireturn, 1) := by decide +kernel
theorem dX8_misclosure_10 : decode cX8_misclosure 10 = .ok (.aload_n 0, 1) := by decide +kernel
theorem dX8_misclosure_11 : decode cX8_misclosure 11 = .ok (.iload_n 1, 1) := by decide +kernel
theorem dX8_misclosure_12 : decode cX8_misclosure 12 = .ok (.invokevirtual 364, 3) := by decide +kernel
theorem dX8_misclosure_15 : decode cX8_misclosure 15 = .ok (.aload_n 0, 1) := by decide +kernel
theorem dX8_misclosure_16 : decode cX8_misclosure 16 = .ok (.getfield 346, 3) := by decide +kernel
theorem dX8_misclosure_19 : decode cX8_misclosure 19 = .ok (.ireturn, 1) := by decide +kernel
theorem dX8_allowed_0 : decode cX8_allowed 0 = .ok (.aload_n 0, 1) := by decide +kernel
theorem dX8_allowed_1 : decode cX8_allowed 1 = .ok (.iload_n 1, 1) := by decide +kernel
theorem dX8_allowed_2 : decode cX8_allowed 2 = .ok (.invokevirtual 376, 3) := by decide +kernel
theorem dX8_allowed_5 : decode cX8_allowed 5 = .ok (.ifCond .eq 5, 3) := by decide +kernel
theorem dX8_allowed_8 : decode cX8_allowed 8 = .ok (.iconst 0, 1) := by decide +kernel
theorem dX8_allowed_9 : decode cX8_allowed 9 = .ok (.ireturn, 1) := by decide +kernel
theorem dX8_allowed_10 : decode cX8_allowed 10 = .ok (.aload_n 0, 1) := by decide +kernel
theorem dX8_allowed_11 : decode cX8_allowed 11 = .ok (.iload_n 1, 1) := by decide +kernel
theorem dX8_allowed_12 : decode cX8_allowed 12 = .ok (.invokevirtual 364, 3) := by decide +kernel
theorem dX8_allowed_15 : decode cX8_allowed 15 = .ok (.aload_n 0, 1) := by decide +kernel
theorem dX8_allowed_16 : decode cX8_allowed 16 = .ok (.invokevirtual 367, 3) := by decide +kernel
theorem dX8_allowed_19 : decode cX8_allowed 19 = .ok (.ireturn, 1) := by decide +kernel
theorem dX8_bad_0 : decode cX8_bad 0 = .ok (.aload_n 0, 1) := by decide +kernel
theorem dX8_bad_1 : decode cX8_bad 1 = .ok (.invokevirtual 370, 3) := by decide +kernel
theorem dX8_bad_4 : decode cX8_bad 4 = .ok (.iconst 0, 1) := by decide +kernel
theorem dX8_bad_5 : decode cX8_bad 5 = .ok (.istore_n 1, 1) := by decide +kernel
theorem dX8_bad_6 : decode cX8_bad 6 = .ok (.iconst 0, 1) := by decide +kernel
theorem dX8_bad_7 : decode cX8_bad 7 = .ok (.istore_n 2, 1) := by decide +kernel
theorem dX8_bad_8 : decode cX8_bad 8 = .ok (.iload_n 2, 1) := by decide +kernel
theorem dX8_bad_9 : decode cX8_bad 9 = .ok (.aload_n 0, 1) := by decide +kernel
theorem dX8_bad_10 : decode cX8_bad 10 = .ok (.getfield 337, 3) := by decide +kernel
theorem dX8_bad_13 : decode cX8_bad 13 = .ok (.if_icmp .ge 27, 3) := by decide +kernel
theorem dX8_bad_16 : decode cX8_bad 16 = .ok (.iload_n 1, 1) := by decide +kernel
theorem dX8_bad_17 : decode cX8_bad 17 = .ok (.aload_n 0, 1) := by decide +kernel
theorem dX8_bad_18 : decode cX8_bad 18 = .ok (.iload_n 2, 1) := by decide +kernel
theorem dX8_bad_19 : decode cX8_bad 19 = .ok (.invokevirtual 379, 3) := by decide +kernel
theorem dX8_bad_22 : decode cX8_bad 22 = .ok (.ifCond .eq 9, 3) := by decide +kernel
theorem dX8_bad_25 : decode cX8_bad 25 = .ok (.iconst 1, 1) := by decide +kernel
theorem dX8_bad_26 : decode cX8_bad 26 = .ok (.iload_n 2, 1) := by decide +kernel
theorem dX8_bad_27 : decode cX8_bad 27 = .ok (.ishl, 1) := by decide +kernel
theorem dX8_bad_28 : decode cX8_bad 28 = .ok (.goto 4, 3) := by decide +kernel
theorem dX8_bad_31 : decode cX8_bad 31 = .ok (.iconst 0, 1) := by decide +kernel
theorem dX8_bad_32 : decode cX8_bad 32 = .ok (.ior, 1) := by decide +kernel
theorem dX8_bad_33 : decode cX8_bad 33 = .ok (.istore_n 1, 1) := by decide +kernel
theorem dX8_bad_34 : decode cX8_bad 34 = .ok (.iinc 2 1, 3) := by decide +kernel
theorem dX8_bad_37 : decode cX8_bad 37 = .ok (.goto (-29), 3) := by decide +kernel
theorem dX8_bad_40 : decode cX8_bad 40 = .ok (.iload_n 1, 1) := by decide +kernel
theorem dX8_bad_41 : decode cX8_bad 41 = .ok (.ireturn, 1) := by decide +kernel
theorem dX8_badLoops_0 : decode cX8_badLoops 0 = .ok (.aload_n 0, 1) := by decide +kernel
theorem dX8_badLoops_1 : decode cX8_badLoops 1 = .ok (.iconst 0, 1) := by decide +kernel
theorem dX8_badLoops_2 : decode cX8_badLoops 2 = .ok (.putfield 68, 3) := by decide +kernel
theorem dX8_badLoops_5 : decode cX8_badLoops 5 = .ok (.aload_n 0, 1) := by decide +kernel
theorem dX8_badLoops_6 : decode cX8_badLoops 6 = .ok (.invokevirtual 382, 3) := by decide +kernel
theorem dX8_badLoops_9 : decode cX8_badLoops 9 = .ok (.ireturn, 1) := by decide +kernel
theorem dX8_worstLoop_0 : decode cX8_worstLoop 0 = .ok (.aload_n 0, 1) := by decide +kernel
theorem dX8_worstLoop_1 : decode cX8_worstLoop 1 = .ok (.iconst 0, 1) := by decide +kernel
theorem dX8_worstLoop_2 : decode cX8_worstLoop 2 = .ok (.putfield 68, 3) := by decide +kernel
theorem dX8_worstLoop_5 : decode cX8_worstLoop 5 = .ok (.aload_n 0, 1) := by decide +kernel
theorem dX8_worstLoop_6 : decode cX8_worstLoop 6 = .ok (.invokevirtual 370, 3) := by decide +kernel
theorem dX8_worstLoop_9 : decode cX8_worstLoop 9 = .ok (.iconst (-1), 1) := by decide +kernel
theorem dX8_worstLoop_10 : decode cX8_worstLoop 10 = .ok (.istore_n 1, 1) := by decide +kernel
theorem dX8_worstLoop_11 : decode cX8_worstLoop 11 = .ok (.lconst 0, 1) := by decide +kernel
theorem dX8_worstLoop_12 : decode cX8_worstLoop 12 = .ok (.lstore_n 2, 1) := by decide +kernel
theorem dX8_worstLoop_13 : decode cX8_worstLoop 13 = .ok (.iconst 0, 1) := by decide +kernel
theorem dX8_worstLoop_14 : decode cX8_worstLoop 14 = .ok (.istore 4, 2) := by decide +kernel
theorem dX8_worstLoop_16 : decode cX8_worstLoop 16 = .ok (.iload 4, 2) := by decide +kernel
theorem dX8_worstLoop_18 : decode cX8_worstLoop 18 = .ok (.aload_n 0, 1) := by decide +kernel
theorem dX8_worstLoop_19 : decode cX8_worstLoop 19 = .ok (.getfield 337, 3) := by decide +kernel
theorem dX8_worstLoop_22 : decode cX8_worstLoop 22 = .ok (.if_icmp .ge 57, 3) := by decide +kernel
theorem dX8_worstLoop_25 : decode cX8_worstLoop 25 = .ok (.aload_n 0, 1) := by decide +kernel
theorem dX8_worstLoop_26 : decode cX8_worstLoop 26 = .ok (.iload 4, 2) := by decide +kernel
theorem dX8_worstLoop_28 : decode cX8_worstLoop 28 = .ok (.invokevirtual 379, 3) := by decide +kernel
theorem dX8_worstLoop_31 : decode cX8_worstLoop 31 = .ok (.ifCond .ne 6, 3) := by decide +kernel
theorem dX8_worstLoop_34 : decode cX8_worstLoop 34 = .ok (.goto 39, 3) := by decide +kernel
theorem dX8_worstLoop_37 : decode cX8_worstLoop 37 = .ok (.aload_n 0, 1) := by decide +kernel
theorem dX8_worstLoop_38 : decode cX8_worstLoop 38 = .ok (.getfield 346, 3) := by decide +kernel
theorem dX8_worstLoop_41 : decode cX8_worstLoop 41 = .ok (.i2l, 1) := by decide +kernel
theorem dX8_worstLoop_42 : decode cX8_worstLoop 42 = .ok (.invokestatic 294, 3) := by decide +kernel
theorem dX8_worstLoop_45 : decode cX8_worstLoop 45 = .ok (.aload_n 0, 1) := by decide +kernel
theorem dX8_worstLoop_46 : decode cX8_worstLoop 46 = .ok (.invokevirtual 367, 3) := by decide +kernel
theorem dX8_worstLoop_49 : decode cX8_worstLoop 49 = .ok (.i2l, 1) := by decide +kernel
theorem dX8_worstLoop_50 : decode cX8_worstLoop 50 = .ok (.lsub, 1) := by decide +kernel
theorem dX8_worstLoop_51 : decode cX8_worstLoop 51 = .ok (.lstore 5, 2) := by decide +kernel
theorem dX8_worstLoop_53 : decode cX8_worstLoop 53 = .ok (.iload_n 1, 1) := by decide +kernel
theorem dX8_worstLoop_54 : decode cX8_worstLoop 54 = .ok (.ifCond .lt 13, 3) := by decide +kernel
theorem dX8_worstLoop_57 : decode cX8_worstLoop 57 = .ok (.lload 5, 2) := by decide +kernel
theorem dX8_worstLoop_59 : decode cX8_worstLoop 59 = .ok (.lload_n 2, 1) := by decide +kernel
theorem dX8_worstLoop_60 : decode cX8_worstLoop 60 = .ok (.lcmp, 1) := by decide +kernel
theorem dX8_worstLoop_61 : decode cX8_worstLoop 61 = .ok (.ifCond .gt 6, 3) := by decide +kernel
theorem dX8_worstLoop_64 : decode cX8_worstLoop 64 = .ok (.goto 9, 3) := by decide +kernel
theorem dX8_worstLoop_67 : decode cX8_worstLoop 67 = .ok (.iload 4, 2) := by decide +kernel
theorem dX8_worstLoop_69 : decode cX8_worstLoop 69 = .ok (.istore_n 1, 1) := by decide +kernel
theorem dX8_worstLoop_70 : decode cX8_worstLoop 70 = .ok (.lload 5, 2) := by decide +kernel
theorem dX8_worstLoop_72 : decode cX8_worstLoop 72 = .ok (.lstore_n 2, 1) := by decide +kernel
theorem dX8_worstLoop_73 : decode cX8_worstLoop 73 = .ok (.iinc 4 1, 3) := by decide +kernel
theorem dX8_worstLoop_76 : decode cX8_worstLoop 76 = .ok (.goto (-60), 3) := by decide +kernel
theorem dX8_worstLoop_79 : decode cX8_worstLoop 79 = .ok (.iload_n 1, 1) := by decide +kernel
theorem dX8_worstLoop_80 : decode cX8_worstLoop 80 = .ok (.ireturn, 1) := by decide +kernel
theorem dX8_holdsLine_0 : decode cX8_holdsLine 0 = .ok (.iconst 0, 1) := by decide +kernel
theorem dX8_holdsLine_1 : decode cX8_holdsLine 1 = .ok (.istore_n 2, 1) := by decide +kernel
theorem dX8_holdsLine_2 : decode cX8_holdsLine 2 = .ok (.iload_n 2, 1) := by decide +kernel
theorem dX8_holdsLine_3 : decode cX8_holdsLine 3 = .ok (.aload_n 0, 1) := by decide +kernel
theorem dX8_holdsLine_4 : decode cX8_holdsLine 4 = .ok (.getfield 343, 3) := by decide +kernel
theorem dX8_holdsLine_7 : decode cX8_holdsLine 7 = .ok (.if_icmp .ge 24, 3) := by decide +kernel
theorem dX8_holdsLine_10 : decode cX8_holdsLine 10 = .ok (.aload_n 0, 1) := by decide +kernel
theorem dX8_holdsLine_11 : decode cX8_holdsLine 11 = .ok (.getfield 55, 3) := by decide +kernel
theorem dX8_holdsLine_14 : decode cX8_holdsLine 14 = .ok (.iload_n 2, 1) := by decide +kernel
theorem dX8_holdsLine_15 : decode cX8_holdsLine 15 = .ok (.iaload, 1) := by decide +kernel
theorem dX8_holdsLine_16 : decode cX8_holdsLine 16 = .ok (.bipush 100, 2) := by decide +kernel
theorem dX8_holdsLine_18 : decode cX8_holdsLine 18 = .ok (.irem, 1) := by decide +kernel
theorem dX8_holdsLine_19 : decode cX8_holdsLine 19 = .ok (.iload_n 1, 1) := by decide +kernel
theorem dX8_holdsLine_20 : decode cX8_holdsLine 20 = .ok (.if_icmp .ne 5, 3) := by decide +kernel
theorem dX8_holdsLine_23 : decode cX8_holdsLine 23 = .ok (.iconst 1, 1) := by decide +kernel
theorem dX8_holdsLine_24 : decode cX8_holdsLine 24 = .ok (.ireturn, 1) := by decide +kernel
theorem dX8_holdsLine_25 : decode cX8_holdsLine 25 = .ok (.iinc 2 1, 3) := by decide +kernel
theorem dX8_holdsLine_28 : decode cX8_holdsLine 28 = .ok (.goto (-26), 3) := by decide +kernel
theorem dX8_holdsLine_31 : decode cX8_holdsLine 31 = .ok (.iconst 0, 1) := by decide +kernel
theorem dX8_holdsLine_32 : decode cX8_holdsLine 32 = .ok (.ireturn, 1) := by decide +kernel
theorem dX8_blame_0 : decode cX8_blame 0 = .ok (.iconst 0, 1) := by decide +kernel
theorem dX8_blame_1 : decode cX8_blame 1 = .ok (.istore_n 2, 1) := by decide +kernel
theorem dX8_blame_2 : decode cX8_blame 2 = .ok (.iconst 0, 1) := by decide +kernel
theorem dX8_blame_3 : decode cX8_blame 3 = .ok (.istore_n 3, 1) := by decide +kernel
theorem dX8_blame_4 : decode cX8_blame 4 = .ok (.iload_n 3, 1) := by decide +kernel
theorem dX8_blame_5 : decode cX8_blame 5 = .ok (.aload_n 0, 1) := by decide +kernel
theorem dX8_blame_6 : decode cX8_blame 6 = .ok (.getfield 337, 3) := by decide +kernel
theorem dX8_blame_9 : decode cX8_blame 9 = .ok (.if_icmp .ge 37, 3) := by decide +kernel
theorem dX8_blame_12 : decode cX8_blame 12 = .ok (.aload_n 0, 1) := by decide +kernel
theorem dX8_blame_13 : decode cX8_blame 13 = .ok (.iload_n 3, 1) := by decide +kernel
theorem dX8_blame_14 : decode cX8_blame 14 = .ok (.invokevirtual 379, 3) := by decide +kernel
theorem dX8_blame_17 : decode cX8_blame 17 = .ok (.istore 4, 2) := by decide +kernel
theorem dX8_blame_19 : decode cX8_blame 19 = .ok (.aload_n 0, 1) := by decide +kernel
theorem dX8_blame_20 : decode cX8_blame 20 = .ok (.iload_n 1, 1) := by decide +kernel
theorem dX8_blame_21 : decode cX8_blame 21 = .ok (.invokevirtual 385, 3) := by decide +kernel
theorem dX8_blame_24 : decode cX8_blame 24 = .ok (.ifCond .ne 6, 3) := by decide +kernel
theorem dX8_blame_27 : decode cX8_blame 27 = .ok (.goto 13, 3) := by decide +kernel
theorem dX8_blame_30 : decode cX8_blame 30 = .ok (.iload 4, 2) := by decide +kernel
theorem dX8_blame_32 : decode cX8_blame 32 = .ok (.ifCond .ne 5, 3) := by decide +kernel
theorem dX8_blame_35 : decode cX8_blame 35 = .ok (.iconst 0, 1) := by decide +kernel
theorem dX8_blame_36 : decode cX8_blame 36 = .ok (.ireturn, 1) := by decide +kernel
theorem dX8_blame_37 : decode cX8_blame 37 = .ok (.iinc 2 1, 3) := by decide +kernel
theorem dX8_blame_40 : decode cX8_blame 40 = .ok (.iinc 3 1, 3) := by decide +kernel
theorem dX8_blame_43 : decode cX8_blame 43 = .ok (.goto (-39), 3) := by decide +kernel
theorem dX8_blame_46 : decode cX8_blame 46 = .ok (.iload_n 2, 1) := by decide +kernel
theorem dX8_blame_47 : decode cX8_blame 47 = .ok (.ireturn, 1) := by decide +kernel
theorem dX8_suspectLine_0 : decode cX8_suspectLine 0 = .ok (.aload_n 0, 1) := by decide +kernel
theorem dX8_suspectLine_1 : decode cX8_suspectLine 1 = .ok (.iconst 0, 1) := by decide +kernel
theorem dX8_suspectLine_2 : decode cX8_suspectLine 2 = .ok (.putfield 68, 3) := by decide +kernel
theorem dX8_suspectLine_5 : decode cX8_suspectLine 5 = .ok (.aload_n 0, 1) := by decide +kernel
theorem dX8_suspectLine_6 : decode cX8_suspectLine 6 = .ok (.invokevirtual 370, 3) := by decide +kernel
theorem dX8_suspectLine_9 : decode cX8_suspectLine 9 = .ok (.iconst (-1), 1) := by decide +kernel
theorem dX8_suspectLine_10 : decode cX8_suspectLine 10 = .ok (.istore_n 1, 1) := by decide +kernel
theorem dX8_suspectLine_11 : decode cX8_suspectLine 11 = .ok (.iconst 0, 1) := by decide +kernel
theorem dX8_suspectLine_12 : decode cX8_suspectLine 12 = .ok (.istore_n 2, 1) := by decide +kernel
theorem dX8_suspectLine_13 : decode cX8_suspectLine 13 = .ok (.iload_n 2, 1) := by decide +kernel
theorem dX8_suspectLine_14 : decode cX8_suspectLine 14 = .ok (.aload_n 0, 1) := by decide +kernel
theorem dX8_suspectLine_15 : decode cX8_suspectLine 15 = .ok (.iconst 2, 1) := by decide +kernel
theorem dX8_suspectLine_16 : decode cX8_suspectLine 16 = .ok (.invokevirtual 227, 3) := by decide +kernel
theorem dX8_suspectLine_19 : decode cX8_suspectLine 19 = .ok (.if_icmp .ge 32, 3) := by decide +kernel
theorem dX8_suspectLine_22 : decode cX8_suspectLine 22 = .ok (.aload_n 0, 1) := by decide +kernel
theorem dX8_suspectLine_23 : decode cX8_suspectLine 23 = .ok (.iload_n 2, 1) := by decide +kernel
theorem dX8_suspectLine_24 : decode cX8_suspectLine 24 = .ok (.invokevirtual 388, 3) := by decide +kernel
theorem dX8_suspectLine_27 : decode cX8_suspectLine 27 = .ok (.iload_n 1, 1) := by decide +kernel
theorem dX8_suspectLine_28 : decode cX8_suspectLine 28 = .ok (.ifCond .ge 7, 3) := by decide +kernel
theorem dX8_suspectLine_31 : decode cX8_suspectLine 31 = .ok (.iconst 0, 1) := by decide +kernel
theorem dX8_suspectLine_32 : decode cX8_suspectLine 32 = .ok (.goto 8, 3) := by decide +kernel
theorem dX8_suspectLine_35 : decode cX8_suspectLine 35 = .ok (.aload_n 0, 1) := by decide +kernel
theorem dX8_suspectLine_36 : decode cX8_suspectLine 36 = .ok (.iload_n 1, 1) := by decide +kernel
theorem dX8_suspectLine_37 : decode cX8_suspectLine 37 = .ok (.invokevirtual 388, 3) := by decide +kernel
theorem dX8_suspectLine_40 : decode cX8_suspectLine 40 = .ok (.if_icmp .le 5, 3) := by decide +kernel
theorem dX8_suspectLine_43 : decode cX8_suspectLine 43 = .ok (.iload_n 2, 1) := by decide +kernel
theorem dX8_suspectLine_44 : decode cX8_suspectLine 44 = .ok (.istore_n 1, 1) := by decide +kernel
theorem dX8_suspectLine_45 : decode cX8_suspectLine 45 = .ok (.iinc 2 1, 3) := by decide +kernel
theorem dX8_suspectLine_48 : decode cX8_suspectLine 48 = .ok (.goto (-35), 3) := by decide +kernel
theorem dX8_suspectLine_51 : decode cX8_suspectLine 51 = .ok (.iload_n 1, 1) := by decide +kernel
theorem dX8_suspectLine_52 : decode cX8_suspectLine 52 = .ok (.ireturn, 1) := by decide +kernel
theorem dX8_bits_0 : decode cX8_bits 0 = .ok (.iconst 0, 1) := by decide +kernel
theorem dX8_bits_1 : decode cX8_bits 1 = .ok (.istore_n 1, 1) := by decide +kernel
theorem dX8_bits_2 : decode cX8_bits 2 = .ok (.iconst 0, 1) := by decide +kernel
theorem dX8_bits_3 : decode cX8_bits 3 = .ok (.istore_n 2, 1) := by decide +kernel
theorem dX8_bits_4 : decode cX8_bits 4 = .ok (.iload_n 2, 1) := by decide +kernel
theorem dX8_bits_5 : decode cX8_bits 5 = .ok (.bipush 20, 2) := by decide +kernel
theorem dX8_bits_7 : decode cX8_bits 7 = .ok (.if_icmp .ge 17, 3) := by decide +kernel
theorem dX8_bits_10 : decode cX8_bits 10 = .ok (.iload_n 1, 1) := by decide +kernel
theorem dX8_bits_11 : decode cX8_bits 11 = .ok (.iload_n 0, 1) := by decide +kernel
theorem dX8_bits_12 : decode cX8_bits 12 = .ok (.iload_n 2, 1) := by decide +kernel
theorem dX8_bits_13 : decode cX8_bits 13 = .ok (.ishr, 1) := by decide +kernel
theorem dX8_bits_14 : decode cX8_bits 14 = .ok (.iconst 1, 1) := by decide +kernel
theorem dX8_bits_15 : decode cX8_bits 15 = .ok (.iand, 1) := by decide +kernel
theorem dX8_bits_16 : decode cX8_bits 16 = .ok (.iadd, 1) := by decide +kernel
theorem dX8_bits_17 : decode cX8_bits 17 = .ok (.istore_n 1, 1) := by decide +kernel
theorem dX8_bits_18 : decode cX8_bits 18 = .ok (.iinc 2 1, 3) := by decide +kernel
theorem dX8_bits_21 : decode cX8_bits 21 = .ok (.goto (-17), 3) := by decide +kernel
theorem dX8_bits_24 : decode cX8_bits 24 = .ok (.iload_n 1, 1) := by decide +kernel
theorem dX8_bits_25 : decode cX8_bits 25 = .ok (.ireturn, 1) := by decide +kernel
theorem dX8_badWithout_0 : decode cX8_badWithout 0 = .ok (.aload_n 0, 1) := by decide +kernel
theorem dX8_badWithout_1 : decode cX8_badWithout 1 = .ok (.aload_n 0, 1) := by decide +kernel
theorem dX8_badWithout_2 : decode cX8_badWithout 2 = .ok (.iload_n 1, 1) := by decide +kernel
theorem dX8_badWithout_3 : decode cX8_badWithout 3 = .ok (.invokevirtual 285, 3) := by decide +kernel
theorem dX8_badWithout_6 : decode cX8_badWithout 6 = .ok (.invokevirtual 234, 3) := by decide +kernel
theorem dX8_badWithout_9 : decode cX8_badWithout 9 = .ok (.ifCond .eq 5, 3) := by decide +kernel
theorem dX8_badWithout_12 : decode cX8_badWithout 12 = .ok (.iconst 0, 1) := by decide +kernel
theorem dX8_badWithout_13 : decode cX8_badWithout 13 = .ok (.ireturn, 1) := by decide +kernel
theorem dX8_badWithout_14 : decode cX8_badWithout 14 = .ok (.aload_n 0, 1) := by decide +kernel
theorem dX8_badWithout_15 : decode cX8_badWithout 15 = .ok (.getfield 7, 3) := by decide +kernel
theorem dX8_badWithout_18 : decode cX8_badWithout 18 = .ok (.bipush 22, 2) := by decide +kernel
theorem dX8_badWithout_20 : decode cX8_badWithout 20 = .ok (.iload_n 1, 1) := by decide +kernel
theorem dX8_badWithout_21 : decode cX8_badWithout 21 = .ok (.iadd, 1) := by decide +kernel
theorem dX8_badWithout_22 : decode cX8_badWithout 22 = .ok (.iaload, 1) := by decide +kernel
theorem dX8_badWithout_23 : decode cX8_badWithout 23 = .ok (.istore_n 2, 1) := by decide +kernel
theorem dX8_badWithout_24 : decode cX8_badWithout 24 = .ok (.aload_n 0, 1) := by decide +kernel
theorem dX8_badWithout_25 : decode cX8_badWithout 25 = .ok (.getfield 7, 3) := by decide +kernel
theorem dX8_badWithout_28 : decode cX8_badWithout 28 = .ok (.bipush 22, 2) := by decide +kernel
theorem dX8_badWithout_30 : decode cX8_badWithout 30 = .ok (.iload_n 1, 1) := by decide +kernel
theorem dX8_badWithout_31 : decode cX8_badWithout 31 = .ok (.iadd, 1) := by decide +kernel
theorem dX8_badWithout_32 : decode cX8_badWithout 32 = .ok (.iconst 0, 1) := by decide +kernel
theorem dX8_badWithout_33 : decode cX8_badWithout 33 = .ok (.iastore, 1) := by decide +kernel
theorem dX8_badWithout_34 : decode cX8_badWithout 34 = .ok (.aload_n 0, 1) := by decide +kernel
theorem dX8_badWithout_35 : decode cX8_badWithout 35 = .ok (.invokevirtual 382, 3) := by decide +kernel
theorem dX8_badWithout_38 : decode cX8_badWithout 38 = .ok (.invokestatic 391, 3) := by decide +kernel
theorem dX8_badWithout_41 : decode cX8_badWithout 41 = .ok (.istore_n 3, 1) := by decide +kernel
theorem dX8_badWithout_42 : decode cX8_badWithout 42 = .ok (.aload_n 0, 1) := by decide +kernel
theorem dX8_badWithout_43 : decode cX8_badWithout 43 = .ok (.getfield 7, 3) := by decide +kernel
theorem dX8_badWithout_46 : decode cX8_badWithout 46 = .ok (.bipush 22, 2) := by decide +kernel
theorem dX8_badWithout_48 : decode cX8_badWithout 48 = .ok (.iload_n 1, 1) := by decide +kernel
theorem dX8_badWithout_49 : decode cX8_badWithout 49 = .ok (.iadd, 1) := by decide +kernel
theorem dX8_badWithout_50 : decode cX8_badWithout 50 = .ok (.iload_n 2, 1) := by decide +kernel
theorem dX8_badWithout_51 : decode cX8_badWithout 51 = .ok (.iastore, 1) := by decide +kernel
theorem dX8_badWithout_52 : decode cX8_badWithout 52 = .ok (.iload_n 3, 1) := by decide +kernel
theorem dX8_badWithout_53 : decode cX8_badWithout 53 = .ok (.ireturn, 1) := by decide +kernel
theorem dX8_layProvisional_0 : decode cX8_layProvisional 0 = .ok (.iconst 0, 1) := by decide +kernel
theorem dX8_layProvisional_1 : decode cX8_layProvisional 1 = .ok (.istore_n 1, 1) := by decide +kernel
theorem dX8_layProvisional_2 : decode cX8_layProvisional 2 = .ok (.iconst 0, 1) := by decide +kernel
theorem dX8_layProvisional_3 : decode cX8_layProvisional 3 = .ok (.istore_n 2, 1) := by decide +kernel
theorem dX8_layProvisional_4 : decode cX8_layProvisional 4 = .ok (.iload_n 2, 1) := by decide +kernel
theorem dX8_layProvisional_5 : decode cX8_layProvisional 5 = .ok (.bipush 16, 2) := by decide +kernel
theorem dX8_layProvisional_7 : decode cX8_layProvisional 7 = .ok (.if_icmp .ge 72, 3) := by decide +kernel
theorem dX8_layProvisional_10 : decode cX8_layProvisional 10 = .ok (.aload_n 0, 1) := by decide +kernel
theorem dX8_layProvisional_11 : decode cX8_layProvisional 11 = .ok (.getfield 61, 3) := by decide +kernel
theorem dX8_layProvisional_14 : decode cX8_layProvisional 14 = .ok (.iload_n 2, 1) := by decide +kernel
theorem dX8_layProvisional_15 : decode cX8_layProvisional 15 = .ok (.ldc2_w 394, 3) := by decide +kernel
theorem dX8_layProvisional_18 : decode cX8_layProvisional 18 = .ok (.lastore, 1) := by decide +kernel
theorem dX8_layProvisional_19 : decode cX8_layProvisional 19 = .ok (.iload_n 2, 1) := by decide +kernel
theorem dX8_layProvisional_20 : decode cX8_layProvisional 20 = .ok (.aload_n 0, 1) := by decide +kernel
theorem dX8_layProvisional_21 : decode cX8_layProvisional 21 = .ok (.iconst 1, 1) := by decide +kernel
theorem dX8_layProvisional_22 : decode cX8_layProvisional 22 = .ok (.invokevirtual 227, 3) := by decide +kernel
theorem dX8_layProvisional_25 : decode cX8_layProvisional 25 = .ok (.if_icmp .ge 48, 3) := by decide +kernel
theorem dX8_layProvisional_28 : decode cX8_layProvisional 28 = .ok (.aload_n 0, 1) := by decide +kernel
theorem dX8_layProvisional_29 : decode cX8_layProvisional 29 = .ok (.getfield 7, 3) := by decide +kernel
theorem dX8_layProvisional_32 : decode cX8_layProvisional 32 = .ok (.bipush 6, 2) := by decide +kernel
theorem dX8_layProvisional_34 : decode cX8_layProvisional 34 = .ok (.iload_n 2, 1) := by decide +kernel
theorem dX8_layProvisional_35 : decode cX8_layProvisional 35 = .ok (.iadd, 1) := by decide +kernel
theorem dX8_layProvisional_36 : decode cX8_layProvisional 36 = .ok (.iaload, 1) := by decide +kernel
theorem dX8_layProvisional_37 : decode cX8_layProvisional 37 = .ok (.ifCond .ge 6, 3) := by decide +kernel
theorem dX8_layProvisional_40 : decode cX8_layProvisional 40 = .ok (.goto 33, 3) := by decide +kernel
theorem dX8_layProvisional_43 : decode cX8_layProvisional 43 = .ok (.aload_n 0, 1) := by decide +kernel
theorem dX8_layProvisional_44 : decode cX8_layProvisional 44 = .ok (.getfield 61, 3) := by decide +kernel
theorem dX8_layProvisional_47 : decode cX8_layProvisional 47 = .ok (.iload_n 2, 1) := by decide +kernel
theorem dX8_layProvisional_48 : decode cX8_layProvisional 48 = .ok (.ldc2_w 396, 3) := by decide +kernel
theorem dX8_layProvisional_51 : decode cX8_layProvisional 51 = .ok (.aload_n 0, 1) := by decide +kernel
theorem dX8_layProvisional_52 : decode cX8_layProvisional 52 = .ok (.getfield 7, 3) := by decide +kernel
theorem dX8_layProvisional_55 : decode cX8_layProvisional 55 = .ok (.bipush 6, 2) := by decide +kernel
theorem dX8_layProvisional_57 : decode cX8_layProvisional 57 = .ok (.iload_n 2, 1) := by decide +kernel
theorem dX8_layProvisional_58 : decode cX8_layProvisional 58 = .ok (.iadd, 1) := by decide +kernel
theorem dX8_layProvisional_59 : decode cX8_layProvisional 59 = .ok (.iaload, 1) := by decide +kernel
theorem dX8_layProvisional_60 : decode cX8_layProvisional 60 = .ok (.i2l, 1) := by decide +kernel
theorem dX8_layProvisional_61 : decode cX8_layProvisional 61 = .ok (.lmul, 1) := by decide +kernel
theorem dX8_layProvisional_62 : decode cX8_layProvisional 62 = .ok (.lastore, 1) := by decide +kernel
theorem dX8_layProvisional_63 : decode cX8_layProvisional 63 = .ok (.aload_n 0, 1) := by decide +kernel
theorem dX8_layProvisional_64 : decode cX8_layProvisional 64 = .ok (.getfield 43, 3) := by decide +kernel
theorem dX8_layProvisional_67 : decode cX8_layProvisional 67 = .ok (.iload_n 1, 1) := by decide +kernel
theorem dX8_layProvisional_68 : decode cX8_layProvisional 68 = .ok (.iload_n 2, 1) := by decide +kernel
theorem dX8_layProvisional_69 : decode cX8_layProvisional 69 = .ok (.iastore, 1) := by decide +kernel
theorem dX8_layProvisional_70 : decode cX8_layProvisional 70 = .ok (.iinc 1 1, 3) := by decide +kernel
theorem dX8_layProvisional_73 : decode cX8_layProvisional 73 = .ok (.iinc 2 1, 3) := by decide +kernel
theorem dX8_layProvisional_76 : decode cX8_layProvisional 76 = .ok (.goto (-72), 3) := by decide +kernel
theorem dX8_layProvisional_79 : decode cX8_layProvisional 79 = .ok (.iconst 0, 1) := by decide +kernel
theorem dX8_layProvisional_80 : decode cX8_layProvisional 80 = .ok (.istore_n 2, 1) := by decide +kernel
theorem dX8_layProvisional_81 : decode cX8_layProvisional 81 = .ok (.iload_n 2, 1) := by decide +kernel
theorem dX8_layProvisional_82 : decode cX8_layProvisional 82 = .ok (.iload_n 1, 1) := by decide +kernel
theorem dX8_layProvisional_83 : decode cX8_layProvisional 83 = .ok (.if_icmp .ge 110, 3) := by decide +kernel
theorem dX8_layProvisional_86 : decode cX8_layProvisional 86 = .ok (.aload_n 0, 1) := by decide +kernel
theorem dX8_layProvisional_87 : decode cX8_layProvisional 87 = .ok (.getfield 43, 3) := by decide +kernel
theorem dX8_layProvisional_90 : decode cX8_layProvisional 90 = .ok (.iload_n 2, 1) := by decide +kernel
theorem dX8_layProvisional_91 : decode cX8_layProvisional 91 = .ok (.iaload, 1) := by decide +kernel
theorem dX8_layProvisional_92 : decode cX8_layProvisional 92 = .ok (.istore_n 3, 1) := by decide +kernel
theorem dX8_layProvisional_93 : decode cX8_layProvisional 93 = .ok (.iconst 0, 1) := by decide +kernel
theorem dX8_layProvisional_94 : decode cX8_layProvisional 94 = .ok (.istore 4, 2) := by decide +kernel
theorem dX8_layProvisional_96 : decode cX8_layProvisional 96 = .ok (.iload 4, 2) := by decide +kernel
theorem dX8_layProvisional_98 : decode cX8_layProvisional 98 = .ok (.aload_n 0, 1) := by decide +kernel
theorem dX8_layProvisional_99 : decode cX8_layProvisional 99 = .ok (.iconst 2, 1) := by decide +kernel
theorem dX8_layProvisional_100 : decode cX8_layProvisional 100 = .ok (.invokevirtual 227, 3) := by decide +kernel
theorem dX8_layProvisional_103 : decode cX8_layProvisional 103 = .ok (.if_icmp .ge 84, 3) := by decide +kernel
theorem dX8_layProvisional_106 : decode cX8_layProvisional 106 = .ok (.aload_n 0, 1) := by decide +kernel
theorem dX8_layProvisional_107 : decode cX8_layProvisional 107 = .ok (.iload 4, 2) := by decide +kernel
theorem dX8_layProvisional_109 : decode cX8_layProvisional 109 = .ok (.iload_n 3, 1) := by decide +kernel
theorem dX8_layProvisional_110 : decode cX8_layProvisional 110 = .ok (.invokevirtual 304, 3) := by decide +kernel
theorem dX8_layProvisional_113 : decode cX8_layProvisional 113 = .ok (.ifCond .eq 68, 3) := by decide +kernel
theorem dX8_layProvisional_116 : decode cX8_layProvisional 116 = .ok (.aload_n 0, 1) := by decide +kernel
theorem dX8_layProvisional_117 : decode cX8_layProvisional 117 = .ok (.getfield 61, 3) := by decide +kernel
theorem dX8_layProvisional_120 : decode cX8_layProvisional 120 = .ok (.aload_n 0, 1) := by decide +kernel
theorem dX8_layProvisional_121 : decode cX8_layProvisional 121 = .ok (.iload 4, 2) := by decide +kernel
theorem dX8_layProvisional_123 : decode cX8_layProvisional 123 = .ok (.iload_n 3, 1) := by decide +kernel
theorem dX8_layProvisional_124 : decode cX8_layProvisional 124 = .ok (.invokevirtual 325, 3) := by decide +kernel
theorem dX8_layProvisional_127 : decode cX8_layProvisional 127 = .ok (.laload, 1) := by decide +kernel
theorem dX8_layProvisional_128 : decode cX8_layProvisional 128 = .ok (.ldc2_w 394, 3) := by decide +kernel
theorem dX8_layProvisional_131 : decode cX8_layProvisional 131 = .ok (.lcmp, 1) := by decide +kernel
theorem dX8_layProvisional_132 : decode cX8_layProvisional 132 = .ok (.ifCond .eq 6, 3) := by decide +kernel
theorem dX8_layProvisional_135 : decode cX8_layProvisional 135 = .ok (.goto 46, 3) := by decide +kernel
theorem dX8_layProvisional_138 : decode cX8_layProvisional 138 = .ok (.aload_n 0, 1) := by decide +kernel
theorem dX8_layProvisional_139 : decode cX8_layProvisional 139 = .ok (.getfield 61, 3) := by decide +kernel
theorem dX8_layProvisional_142 : decode cX8_layProvisional 142 = .ok (.aload_n 0, 1) := by decide +kernel
theorem dX8_layProvisional_143 : decode cX8_layProvisional 143 = .ok (.iload 4, 2) := by decide +kernel
theorem dX8_layProvisional_145 : decode cX8_layProvisional 145 = .ok (.iload_n 3, 1) := by decide +kernel
theorem dX8_layProvisional_146 : decode cX8_layProvisional 146 = .ok (.invokevirtual 325, 3) := by decide +kernel
theorem dX8_layProvisional_149 : decode cX8_layProvisional 149 = .ok (.aload_n 0, 1) := by decide +kernel
theorem dX8_layProvisional_150 : decode cX8_layProvisional 150 = .ok (.getfield 61, 3) := by decide +kernel
theorem dX8_layProvisional_153 : decode cX8_layProvisional 153 = .ok (.iload_n 3, 1) := by decide +kernel
theorem dX8_layProvisional_154 : decode cX8_layProvisional 154 = .ok (.laload, 1) := by decide +kernel
theorem dX8_layProvisional_155 : decode cX8_layProvisional 155 = .ok (.aload_n 0, 1) := by decide +kernel
theorem dX8_layProvisional_156 : decode cX8_layProvisional 156 = .ok (.iload 4, 2) := by decide +kernel
theorem dX8_layProvisional_158 : decode cX8_layProvisional 158 = .ok (.iload_n 3, 1) := by decide +kernel
theorem dX8_layProvisional_159 : decode cX8_layProvisional 159 = .ok (.invokevirtual 301, 3) := by decide +kernel
theorem dX8_layProvisional_162 : decode cX8_layProvisional 162 = .ok (.i2l, 1) := by decide +kernel
theorem dX8_layProvisional_163 : decode cX8_layProvisional 163 = .ok (.ladd, 1) := by decide +kernel
theorem dX8_layProvisional_164 : decode cX8_layProvisional 164 = .ok (.lastore, 1) := by decide +kernel
theorem dX8_layProvisional_165 : decode cX8_layProvisional 165 = .ok (.aload_n 0, 1) := by decide +kernel
theorem dX8_layProvisional_166 : decode cX8_layProvisional 166 = .ok (.getfield 43, 3) := by decide +kernel
theorem dX8_layProvisional_169 : decode cX8_layProvisional 169 = .ok (.iload_n 1, 1) := by decide +kernel
theorem dX8_layProvisional_170 : decode cX8_layProvisional 170 = .ok (.aload_n 0, 1) := by decide +kernel
theorem dX8_layProvisional_171 : decode cX8_layProvisional 171 = .ok (.iload 4, 2) := by decide +kernel
theorem dX8_layProvisional_173 : decode cX8_layProvisional 173 = .ok (.iload_n 3, 1) := by decide +kernel
theorem dX8_layProvisional_174 : decode cX8_layProvisional 174 = .ok (.invokevirtual 325, 3) := by decide +kernel
theorem dX8_layProvisional_177 : decode cX8_layProvisional 177 = .ok (.iastore, 1) := by decide +kernel
theorem dX8_layProvisional_178 : decode cX8_layProvisional 178 = .ok (.iinc 1 1, 3) := by decide +kernel
theorem dX8_layProvisional_181 : decode cX8_layProvisional 181 = .ok (.iinc 4 1, 3) := by decide +kernel
theorem dX8_layProvisional_184 : decode cX8_layProvisional 184 = .ok (.goto (-88), 3) := by decide +kernel
theorem dX8_layProvisional_187 : decode cX8_layProvisional 187 = .ok (.iinc 2 1, 3) := by decide +kernel
theorem dX8_layProvisional_190 : decode cX8_layProvisional 190 = .ok (.goto (-109), 3) := by decide +kernel
theorem dX8_layProvisional_193 : decode cX8_layProvisional 193 = .ok (.return_, 1) := by decide +kernel
theorem dX8_provisional_0 : decode cX8_provisional 0 = .ok (.aload_n 0, 1) := by decide +kernel
theorem dX8_provisional_1 : decode cX8_provisional 1 = .ok (.aload_n 0, 1) := by decide +kernel
theorem dX8_provisional_2 : decode cX8_provisional 2 = .ok (.iload_n 1, 1) := by decide +kernel
theorem dX8_provisional_3 : decode cX8_provisional 3 = .ok (.invokevirtual 251, 3) := by decide +kernel
theorem dX8_provisional_6 : decode cX8_provisional 6 = .ok (.invokevirtual 234, 3) := by decide +kernel
theorem dX8_provisional_9 : decode cX8_provisional 9 = .ok (.ifCond .eq 5, 3) := by decide +kernel
theorem dX8_provisional_12 : decode cX8_provisional 12 = .ok (.lconst 0, 1) := by decide +kernel
theorem dX8_provisional_13 : decode cX8_provisional 13 = .ok (.lreturn, 1) := by decide +kernel
theorem dX8_provisional_14 : decode cX8_provisional 14 = .ok (.aload_n 0, 1) := by decide +kernel
theorem dX8_provisional_15 : decode cX8_provisional 15 = .ok (.invokevirtual 398, 3) := by decide +kernel
theorem dX8_provisional_18 : decode cX8_provisional 18 = .ok (.aload_n 0, 1) := by decide +kernel
theorem dX8_provisional_19 : decode cX8_provisional 19 = .ok (.getfield 61, 3) := by decide +kernel
theorem dX8_provisional_22 : decode cX8_provisional 22 = .ok (.iload_n 1, 1) := by decide +kernel
theorem dX8_provisional_23 : decode cX8_provisional 23 = .ok (.laload, 1) := by decide +kernel
theorem dX8_provisional_24 : decode cX8_provisional 24 = .ok (.lreturn, 1) := by decide +kernel
theorem dX8_turningHeight_0 : decode cX8_turningHeight 0 = .ok (.aload_n 0, 1) := by decide +kernel
theorem dX8_turningHeight_1 : decode cX8_turningHeight 1 = .ok (.aload_n 0, 1) := by decide +kernel
theorem dX8_turningHeight_2 : decode cX8_turningHeight 2 = .ok (.iload_n 1, 1) := by decide +kernel
theorem dX8_turningHeight_3 : decode cX8_turningHeight 3 = .ok (.invokevirtual 285, 3) := by decide +kernel
theorem dX8_turningHeight_6 : decode cX8_turningHeight 6 = .ok (.invokevirtual 234, 3) := by decide +kernel
theorem dX8_turningHeight_9 : decode cX8_turningHeight 9 = .ok (.ifCond .eq 5, 3) := by decide +kernel
theorem dX8_turningHeight_12 : decode cX8_turningHeight 12 = .ok (.lconst 0, 1) := by decide +kernel
theorem dX8_turningHeight_13 : decode cX8_turningHeight 13 = .ok (.lreturn, 1) := by decide +kernel
theorem dX8_turningHeight_14 : decode cX8_turningHeight 14 = .ok (.aload_n 0, 1) := by decide +kernel
theorem dX8_turningHeight_15 : decode cX8_turningHeight 15 = .ok (.invokevirtual 398, 3) := by decide +kernel
theorem dX8_turningHeight_18 : decode cX8_turningHeight 18 = .ok (.iload_n 2, 1) := by decide +kernel
theorem dX8_turningHeight_19 : decode cX8_turningHeight 19 = .ok (.iconst 0, 1) := by decide +kernel
theorem dX8_turningHeight_20 : decode cX8_turningHeight 20 = .ok (.aload_n 0, 1) := by decide +kernel
theorem dX8_turningHeight_21 : decode cX8_turningHeight 21 = .ok (.iload_n 1, 1) := by decide +kernel
theorem dX8_turningHeight_22 : decode cX8_turningHeight 22 = .ok (.invokevirtual 254, 3) := by decide +kernel
theorem dX8_turningHeight_25 : decode cX8_turningHeight 25 = .ok (.iconst 1, 1) := by decide +kernel
theorem dX8_turningHeight_26 : decode cX8_turningHeight 26 = .ok (.isub, 1) := by decide +kernel
theorem dX8_turningHeight_27 : decode cX8_turningHeight 27 = .ok (.invokestatic 107, 3) := by decide +kernel
theorem dX8_turningHeight_30 : decode cX8_turningHeight 30 = .ok (.ifCond .eq 20, 3) := by decide +kernel
theorem dX8_turningHeight_33 : decode cX8_turningHeight 33 = .ok (.aload_n 0, 1) := by decide +kernel
theorem dX8_turningHeight_34 : decode cX8_turningHeight 34 = .ok (.getfield 61, 3) := by decide +kernel
theorem dX8_turningHeight_37 : decode cX8_turningHeight 37 = .ok (.aload_n 0, 1) := by decide +kernel
theorem dX8_turningHeight_38 : decode cX8_turningHeight 38 = .ok (.iload_n 1, 1) := by decide +kernel
theorem dX8_turningHeight_39 : decode cX8_turningHeight 39 = .ok (.invokevirtual 273, 3) := by decide +kernel
theorem dX8_turningHeight_42 : decode cX8_turningHeight 42 = .ok (.laload, 1) := by decide +kernel
theorem dX8_turningHeight_43 : decode cX8_turningHeight 43 = .ok (.ldc2_w 394, 3) := by decide +kernel
theorem dX8_turningHeight_46 : decode cX8_turningHeight 46 = .ok (.lcmp, 1) := by decide +kernel
theorem dX8_turningHeight_47 : decode cX8_turningHeight 47 = .ok (.ifCond .ne 7, 3) := by decide +kernel
theorem dX8_turningHeight_50 : decode cX8_turningHeight 50 = .ok (.ldc2_w 394, 3) := by decide +kernel
theorem dX8_turningHeight_53 : decode cX8_turningHeight 53 = .ok (.lreturn, 1) := by decide +kernel
theorem dX8_turningHeight_54 : decode cX8_turningHeight 54 = .ok (.aload_n 0, 1) := by decide +kernel
theorem dX8_turningHeight_55 : decode cX8_turningHeight 55 = .ok (.getfield 61, 3) := by decide +kernel
theorem dX8_turningHeight_58 : decode cX8_turningHeight 58 = .ok (.aload_n 0, 1) := by decide +kernel
theorem dX8_turningHeight_59 : decode cX8_turningHeight 59 = .ok (.iload_n 1, 1) := by decide +kernel
theorem dX8_turningHeight_60 : decode cX8_turningHeight 60 = .ok (.invokevirtual 273, 3) := by decide +kernel
theorem dX8_turningHeight_63 : decode cX8_turningHeight 63 = .ok (.laload, 1) := by decide +kernel
theorem dX8_turningHeight_64 : decode cX8_turningHeight 64 = .ok (.lstore_n 3, 1) := by decide +kernel
theorem dX8_turningHeight_65 : decode cX8_turningHeight 65 = .ok (.iconst 0, 1) := by decide +kernel
theorem dX8_turningHeight_66 : decode cX8_turningHeight 66 = .ok (.istore 5, 2) := by decide +kernel
theorem dX8_turningHeight_68 : decode cX8_turningHeight 68 = .ok (.iload 5, 2) := by decide +kernel
theorem dX8_turningHeight_70 : decode cX8_turningHeight 70 = .ok (.iload_n 2, 1) := by decide +kernel
theorem dX8_turningHeight_71 : decode cX8_turningHeight 71 = .ok (.if_icmp .gt 20, 3) := by decide +kernel
theorem dX8_turningHeight_74 : decode cX8_turningHeight 74 = .ok (.lload_n 3, 1) := by decide +kernel
theorem dX8_turningHeight_75 : decode cX8_turningHeight 75 = .ok (.aload_n 0, 1) := by decide +kernel
theorem dX8_turningHeight_76 : decode cX8_turningHeight 76 = .ok (.iload_n 1, 1) := by decide +kernel
theorem dX8_turningHeight_77 : decode cX8_turningHeight 77 = .ok (.iload 5, 2) := by decide +kernel
theorem dX8_turningHeight_79 : decode cX8_turningHeight 79 = .ok (.invokevirtual 270, 3) := by decide +kernel
theorem dX8_turningHeight_82 : decode cX8_turningHeight 82 = .ok (.i2l, 1) := by decide +kernel
theorem dX8_turningHeight_83 : decode cX8_turningHeight 83 = .ok (.ladd, 1) := by decide +kernel
theorem dX8_turningHeight_84 : decode cX8_turningHeight 84 = .ok (.lstore_n 3, 1) := by decide +kernel
theorem dX8_turningHeight_85 : decode cX8_turningHeight 85 = .ok (.iinc 5 1, 3) := by decide +kernel
theorem dX8_turningHeight_88 : decode cX8_turningHeight 88 = .ok (.goto (-20), 3) := by decide +kernel
theorem dX8_turningHeight_91 : decode cX8_turningHeight 91 = .ok (.lload_n 3, 1) := by decide +kernel
theorem dX8_turningHeight_92 : decode cX8_turningHeight 92 = .ok (.lreturn, 1) := by decide +kernel
theorem dX8_reached_0 : decode cX8_reached 0 = .ok (.aload_n 0, 1) := by decide +kernel
theorem dX8_reached_1 : decode cX8_reached 1 = .ok (.iconst 0, 1) := by decide +kernel
theorem dX8_reached_2 : decode cX8_reached 2 = .ok (.putfield 68, 3) := by decide +kernel
theorem dX8_reached_5 : decode cX8_reached 5 = .ok (.aload_n 0, 1) := by decide +kernel
theorem dX8_reached_6 : decode cX8_reached 6 = .ok (.invokevirtual 398, 3) := by decide +kernel
theorem dX8_reached_9 : decode cX8_reached 9 = .ok (.iconst 0, 1) := by decide +kernel
theorem dX8_reached_10 : decode cX8_reached 10 = .ok (.istore_n 1, 1) := by decide +kernel
theorem dX8_reached_11 : decode cX8_reached 11 = .ok (.iconst 0, 1) := by decide +kernel
theorem dX8_reached_12 : decode cX8_reached 12 = .ok (.istore_n 2, 1) := by decide +kernel
theorem dX8_reached_13 : decode cX8_reached 13 = .ok (.iload_n 2, 1) := by decide +kernel
theorem dX8_reached_14 : decode cX8_reached 14 = .ok (.aload_n 0, 1) := by decide +kernel
theorem dX8_reached_15 : decode cX8_reached 15 = .ok (.iconst 1, 1) := by decide +kernel
theorem dX8_reached_16 : decode cX8_reached 16 = .ok (.invokevirtual 227, 3) := by decide +kernel
theorem dX8_reached_19 : decode cX8_reached 19 = .ok (.if_icmp .ge 32, 3) := by decide +kernel
theorem dX8_reached_22 : decode cX8_reached 22 = .ok (.iload_n 1, 1) := by decide +kernel
theorem dX8_reached_23 : decode cX8_reached 23 = .ok (.aload_n 0, 1) := by decide +kernel
theorem dX8_reached_24 : decode cX8_reached 24 = .ok (.getfield 61, 3) := by decide +kernel
theorem dX8_reached_27 : decode cX8_reached 27 = .ok (.iload_n 2, 1) := by decide +kernel
theorem dX8_reached_28 : decode cX8_reached 28 = .ok (.laload, 1) := by decide +kernel
theorem dX8_reached_29 : decode cX8_reached 29 = .ok (.ldc2_w 394, 3) := by decide +kernel
theorem dX8_reached_32 : decode cX8_reached 32 = .ok (.lcmp, 1) := by decide +kernel
theorem dX8_reached_33 : decode cX8_reached 33 = .ok (.ifCond .eq 9, 3) := by decide +kernel
theorem dX8_reached_36 : decode cX8_reached 36 = .ok (.iconst 1, 1) := by decide +kernel
theorem dX8_reached_37 : decode cX8_reached 37 = .ok (.iload_n 2, 1) := by decide +kernel
theorem dX8_reached_38 : decode cX8_reached 38 = .ok (.ishl, 1) := by decide +kernel
theorem dX8_reached_39 : decode cX8_reached 39 = .ok (.goto 4, 3) := by decide +kernel
theorem dX8_reached_42 : decode cX8_reached 42 = .ok (.iconst 0, 1) := by decide +kernel
theorem dX8_reached_43 : decode cX8_reached 43 = .ok (.ior, 1) := by decide +kernel
theorem dX8_reached_44 : decode cX8_reached 44 = .ok (.istore_n 1, 1) := by decide +kernel
theorem dX8_reached_45 : decode cX8_reached 45 = .ok (.iinc 2 1, 3) := by decide +kernel
theorem dX8_reached_48 : decode cX8_reached 48 = .ok (.goto (-35), 3) := by decide +kernel
theorem dX8_reached_51 : decode cX8_reached 51 = .ok (.iload_n 1, 1) := by decide +kernel
theorem dX8_reached_52 : decode cX8_reached 52 = .ok (.ireturn, 1) := by decide +kernel
theorem dX8_redundancy_0 : decode cX8_redundancy 0 = .ok (.aload_n 0, 1) := by decide +kernel
theorem dX8_redundancy_1 : decode cX8_redundancy 1 = .ok (.iconst 0, 1) := by decide +kernel
theorem dX8_redundancy_2 : decode cX8_redundancy 2 = .ok (.putfield 68, 3) := by decide +kernel
theorem dX8_redundancy_5 : decode cX8_redundancy 5 = .ok (.aload_n 0, 1) := by decide +kernel
theorem dX8_redundancy_6 : decode cX8_redundancy 6 = .ok (.invokevirtual 398, 3) := by decide +kernel
theorem dX8_redundancy_9 : decode cX8_redundancy 9 = .ok (.iconst 0, 1) := by decide +kernel
theorem dX8_redundancy_10 : decode cX8_redundancy 10 = .ok (.istore_n 1, 1) := by decide +kernel
theorem dX8_redundancy_11 : decode cX8_redundancy 11 = .ok (.iconst 0, 1) := by decide +kernel
theorem dX8_redundancy_12 : decode cX8_redundancy 12 = .ok (.istore_n 2, 1) := by decide +kernel
theorem dX8_redundancy_13 : decode cX8_redundancy 13 = .ok (.iload_n 2, 1) := by decide +kernel
theorem dX8_redundancy_14 : decode cX8_redundancy 14 = .ok (.aload_n 0, 1) := by decide +kernel
theorem dX8_redundancy_15 : decode cX8_redundancy 15 = .ok (.iconst 2, 1) := by decide +kernel
theorem dX8_redundancy_16 : decode cX8_redundancy 16 = .ok (.invokevirtual 227, 3) := by decide +kernel
theorem dX8_redundancy_19 : decode cX8_redundancy 19 = .ok (.if_icmp .ge 59, 3) := by decide +kernel
theorem dX8_redundancy_22 : decode cX8_redundancy 22 = .ok (.iload_n 1, 1) := by decide +kernel
theorem dX8_redundancy_23 : decode cX8_redundancy 23 = .ok (.aload_n 0, 1) := by decide +kernel
theorem dX8_redundancy_24 : decode cX8_redundancy 24 = .ok (.iload_n 2, 1) := by decide +kernel
theorem dX8_redundancy_25 : decode cX8_redundancy 25 = .ok (.invokevirtual 282, 3) := by decide +kernel
theorem dX8_redundancy_28 : decode cX8_redundancy 28 = .ok (.ifCond .eq 41, 3) := by decide +kernel
theorem dX8_redundancy_31 : decode cX8_redundancy 31 = .ok (.aload_n 0, 1) := by decide +kernel
theorem dX8_redundancy_32 : decode cX8_redundancy 32 = .ok (.getfield 61, 3) := by decide +kernel
theorem dX8_redundancy_35 : decode cX8_redundancy 35 = .ok (.aload_n 0, 1) := by decide +kernel
theorem dX8_redundancy_36 : decode cX8_redundancy 36 = .ok (.iload_n 2, 1) := by decide +kernel
theorem dX8_redundancy_37 : decode cX8_redundancy 37 = .ok (.invokevirtual 273, 3) := by decide +kernel
theorem dX8_redundancy_40 : decode cX8_redundancy 40 = .ok (.laload, 1) := by decide +kernel
theorem dX8_redundancy_41 : decode cX8_redundancy 41 = .ok (.ldc2_w 394, 3) := by decide +kernel
theorem dX8_redundancy_44 : decode cX8_redundancy 44 = .ok (.lcmp, 1) := by decide +kernel
theorem dX8_redundancy_45 : decode cX8_redundancy 45 = .ok (.ifCond .eq 24, 3) := by decide +kernel
theorem dX8_redundancy_48 : decode cX8_redundancy 48 = .ok (.aload_n 0, 1) := by decide +kernel
theorem dX8_redundancy_49 : decode cX8_redundancy 49 = .ok (.getfield 61, 3) := by decide +kernel
theorem dX8_redundancy_52 : decode cX8_redundancy 52 = .ok (.aload_n 0, 1) := by decide +kernel
theorem dX8_redundancy_53 : decode cX8_redundancy 53 = .ok (.iload_n 2, 1) := by decide +kernel
theorem dX8_redundancy_54 : decode cX8_redundancy 54 = .ok (.invokevirtual 279, 3) := by decide +kernel
theorem dX8_redundancy_57 : decode cX8_redundancy 57 = .ok (.laload, 1) := by decide +kernel
theorem dX8_redundancy_58 : decode cX8_redundancy 58 = .ok (.ldc2_w 394, 3) := by decide +kernel
theorem dX8_redundancy_61 : decode cX8_redundancy 61 = .ok (.lcmp, 1) := by decide +kernel
theorem dX8_redundancy_62 : decode cX8_redundancy 62 = .ok (.ifCond .eq 7, 3) := by decide +kernel
theorem dX8_redundancy_65 : decode cX8_redundancy 65 = .ok (.iconst 1, 1) := by decide +kernel
theorem dX8_redundancy_66 : decode cX8_redundancy 66 = .ok (.goto 4, 3) := by decide +kernel
theorem dX8_redundancy_69 : decode cX8_redundancy 69 = .ok (.iconst 0, 1) := by decide +kernel
theorem dX8_redundancy_70 : decode cX8_redundancy 70 = .ok (.iadd, 1) := by decide +kernel
theorem dX8_redundancy_71 : decode cX8_redundancy 71 = .ok (.istore_n 1, 1) := by decide +kernel
theorem dX8_redundancy_72 : decode cX8_redundancy 72 = .ok (.iinc 2 1, 3) := by decide +kernel
theorem dX8_redundancy_75 : decode cX8_redundancy 75 = .ok (.goto (-62), 3) := by decide +kernel
theorem dX8_redundancy_78 : decode cX8_redundancy 78 = .ok (.iconst 0, 1) := by decide +kernel
theorem dX8_redundancy_79 : decode cX8_redundancy 79 = .ok (.istore_n 2, 1) := by decide +kernel
theorem dX8_redundancy_80 : decode cX8_redundancy 80 = .ok (.iload_n 2, 1) := by decide +kernel
theorem dX8_redundancy_81 : decode cX8_redundancy 81 = .ok (.aload_n 0, 1) := by decide +kernel
theorem dX8_redundancy_82 : decode cX8_redundancy 82 = .ok (.iconst 1, 1) := by decide +kernel
theorem dX8_redundancy_83 : decode cX8_redundancy 83 = .ok (.invokevirtual 227, 3) := by decide +kernel
theorem dX8_redundancy_86 : decode cX8_redundancy 86 = .ok (.if_icmp .ge 42, 3) := by decide +kernel
theorem dX8_redundancy_89 : decode cX8_redundancy 89 = .ok (.iload_n 1, 1) := by decide +kernel
theorem dX8_redundancy_90 : decode cX8_redundancy 90 = .ok (.aload_n 0, 1) := by decide +kernel
theorem dX8_redundancy_91 : decode cX8_redundancy 91 = .ok (.getfield 61, 3) := by decide +kernel
theorem dX8_redundancy_94 : decode cX8_redundancy 94 = .ok (.iload_n 2, 1) := by decide +kernel
theorem dX8_redundancy_95 : decode cX8_redundancy 95 = .ok (.laload, 1) := by decide +kernel
theorem dX8_redundancy_96 : decode cX8_redundancy 96 = .ok (.ldc2_w 394, 3) := by decide +kernel
theorem dX8_redundancy_99 : decode cX8_redundancy 99 = .ok (.lcmp, 1) := by decide +kernel
theorem dX8_redundancy_100 : decode cX8_redundancy 100 = .ok (.ifCond .eq 19, 3) := by decide +kernel
theorem dX8_redundancy_103 : decode cX8_redundancy 103 = .ok (.aload_n 0, 1) := by decide +kernel
theorem dX8_redundancy_104 : decode cX8_redundancy 104 = .ok (.getfield 7, 3) := by decide +kernel
theorem dX8_redundancy_107 : decode cX8_redundancy 107 = .ok (.bipush 6, 2) := by decide +kernel
theorem dX8_redundancy_109 : decode cX8_redundancy 109 = .ok (.iload_n 2, 1) := by decide +kernel
theorem dX8_redundancy_110 : decode cX8_redundancy 110 = .ok (.iadd, 1) := by decide +kernel
theorem dX8_redundancy_111 : decode cX8_redundancy 111 = .ok (.iaload, 1) := by decide +kernel
theorem dX8_redundancy_112 : decode cX8_redundancy 112 = .ok (.ifCond .ge 7, 3) := by decide +kernel
theorem dX8_redundancy_115 : decode cX8_redundancy 115 = .ok (.iconst 1, 1) := by decide +kernel
theorem dX8_redundancy_116 : decode cX8_redundancy 116 = .ok (.goto 4, 3) := by decide +kernel
theorem dX8_redundancy_119 : decode cX8_redundancy 119 = .ok (.iconst 0, 1) := by decide +kernel
theorem dX8_redundancy_120 : decode cX8_redundancy 120 = .ok (.isub, 1) := by decide +kernel
theorem dX8_redundancy_121 : decode cX8_redundancy 121 = .ok (.istore_n 1, 1) := by decide +kernel
theorem dX8_redundancy_122 : decode cX8_redundancy 122 = .ok (.iinc 2 1, 3) := by decide +kernel
theorem dX8_redundancy_125 : decode cX8_redundancy 125 = .ok (.goto (-45), 3) := by decide +kernel
theorem dX8_redundancy_128 : decode cX8_redundancy 128 = .ok (.iload_n 1, 1) := by decide +kernel
theorem dX8_redundancy_129 : decode cX8_redundancy 129 = .ok (.ireturn, 1) := by decide +kernel
theorem dX8_isAdjusted_0 : decode cX8_isAdjusted 0 = .ok (.aload_n 0, 1) := by decide +kernel
theorem dX8_isAdjusted_1 : decode cX8_isAdjusted 1 = .ok (.iconst 0, 1) := by decide +kernel
theorem dX8_isAdjusted_2 : decode cX8_isAdjusted 2 = .ok (.putfield 68, 3) := by decide +kernel
theorem dX8_isAdjusted_5 : decode cX8_isAdjusted 5 = .ok (.aload_n 0, 1) := by decide +kernel
theorem dX8_isAdjusted_6 : decode cX8_isAdjusted 6 = .ok (.getfield 7, 3) := by decide +kernel
theorem dX8_isAdjusted_9 : decode cX8_isAdjusted 9 = .ok (.sipush 702, 3) := by decide +kernel
theorem dX8_isAdjusted_12 : decode cX8_isAdjusted 12 = .ok (.iaload, 1) := by decide +kernel
theorem dX8_isAdjusted_13 : decode cX8_isAdjusted 13 = .ok (.iconst 1, 1) := by decide +kernel
theorem dX8_isAdjusted_14 : decode cX8_isAdjusted 14 = .ok (.if_icmp .ne 7, 3) := by decide +kernel
theorem dX8_isAdjusted_17 : decode cX8_isAdjusted 17 = .ok (.iconst 1, 1) := by decide +kernel
theorem dX8_isAdjusted_18 : decode cX8_isAdjusted 18 = .ok (.goto 4, 3) := by decide +kernel
theorem dX8_isAdjusted_21 : decode cX8_isAdjusted 21 = .ok (.iconst 0, 1) := by decide +kernel
theorem dX8_isAdjusted_22 : decode cX8_isAdjusted 22 = .ok (.ireturn, 1) := by decide +kernel
theorem dX8_adjusted_0 : decode cX8_adjusted 0 = .ok (.aload_n 0, 1) := by decide +kernel
theorem dX8_adjusted_1 : decode cX8_adjusted 1 = .ok (.getfield 7, 3) := by decide +kernel
theorem dX8_adjusted_4 : decode cX8_adjusted 4 = .ok (.sipush 702, 3) := by decide +kernel
theorem dX8_adjusted_7 : decode cX8_adjusted 7 = .ok (.iaload, 1) := by decide +kernel
theorem dX8_adjusted_8 : decode cX8_adjusted 8 = .ok (.iconst 1, 1) := by decide +kernel
theorem dX8_adjusted_9 : decode cX8_adjusted 9 = .ok (.if_icmp .ne 12, 3) := by decide +kernel
theorem dX8_adjusted_12 : decode cX8_adjusted 12 = .ok (.aload_n 0, 1) := by decide +kernel
theorem dX8_adjusted_13 : decode cX8_adjusted 13 = .ok (.getfield 19, 3) := by decide +kernel
theorem dX8_adjusted_16 : decode cX8_adjusted 16 = .ok (.iload_n 1, 1) := by decide +kernel
theorem dX8_adjusted_17 : decode cX8_adjusted 17 = .ok (.laload, 1) := by decide +kernel
theorem dX8_adjusted_18 : decode cX8_adjusted 18 = .ok (.goto 6, 3) := by decide +kernel
theorem dX8_adjusted_21 : decode cX8_adjusted 21 = .ok (.ldc2_w 394, 3) := by decide +kernel
theorem dX8_adjusted_24 : decode cX8_adjusted 24 = .ok (.lreturn, 1) := by decide +kernel
theorem dX8_heightOf_0 : decode cX8_heightOf 0 = .ok (.aload_n 0, 1) := by decide +kernel
theorem dX8_heightOf_1 : decode cX8_heightOf 1 = .ok (.aload_n 0, 1) := by decide +kernel
theorem dX8_heightOf_2 : decode cX8_heightOf 2 = .ok (.iload_n 1, 1) := by decide +kernel
theorem dX8_heightOf_3 : decode cX8_heightOf 3 = .ok (.invokevirtual 251, 3) := by decide +kernel
theorem dX8_heightOf_6 : decode cX8_heightOf 6 = .ok (.invokevirtual 234, 3) := by decide +kernel
theorem dX8_heightOf_9 : decode cX8_heightOf 9 = .ok (.ifCond .eq 7, 3) := by decide +kernel
theorem dX8_heightOf_12 : decode cX8_heightOf 12 = .ok (.lconst 0, 1) := by decide +kernel
theorem dX8_heightOf_13 : decode cX8_heightOf 13 = .ok (.goto 8, 3) := by decide +kernel
theorem dX8_heightOf_16 : decode cX8_heightOf 16 = .ok (.aload_n 0, 1) := by decide +kernel
theorem dX8_heightOf_17 : decode cX8_heightOf 17 = .ok (.iload_n 1, 1) := by decide +kernel
theorem dX8_heightOf_18 : decode cX8_heightOf 18 = .ok (.invokevirtual 401, 3) := by decide +kernel
theorem dX8_heightOf_21 : decode cX8_heightOf 21 = .ok (.lreturn, 1) := by decide +kernel
theorem dX8_floorOf_0 : decode cX8_floorOf 0 = .ok (.lload_n 0, 1) := by decide +kernel
theorem dX8_floorOf_1 : decode cX8_floorOf 1 = .ok (.lload_n 2, 1) := by decide +kernel
theorem dX8_floorOf_2 : decode cX8_floorOf 2 = .ok (.ldiv, 1) := by decide +kernel
theorem dX8_floorOf_3 : decode cX8_floorOf 3 = .ok (.lstore 4, 2) := by decide +kernel
theorem dX8_floorOf_5 : decode cX8_floorOf 5 = .ok (.lload_n 0, 1) := by decide +kernel
theorem dX8_floorOf_6 : decode cX8_floorOf 6 = .ok (.lload_n 2, 1) := by decide +kernel
theorem dX8_floorOf_7 : decode cX8_floorOf 7 = .ok (.lrem, 1) := by decide +kernel
theorem dX8_floorOf_8 : decode cX8_floorOf 8 = .ok (.lconst 0, 1) := by decide +kernel
theorem dX8_floorOf_9 : decode cX8_floorOf 9 = .ok (.lcmp, 1) := by decide +kernel
theorem dX8_floorOf_10 : decode cX8_floorOf 10 = .ok (.ifCond .ge 10, 3) := by decide +kernel
theorem dX8_floorOf_13 : decode cX8_floorOf 13 = .ok (.lload 4, 2) := by decide +kernel
theorem dX8_floorOf_15 : decode cX8_floorOf 15 = .ok (.lconst 1, 1) := by decide +kernel
theorem dX8_floorOf_16 : decode cX8_floorOf 16 = .ok (.lsub, 1) := by decide +kernel
theorem dX8_floorOf_17 : decode cX8_floorOf 17 = .ok (.goto 5, 3) := by decide +kernel
theorem dX8_floorOf_20 : decode cX8_floorOf 20 = .ok (.lload 4, 2) := by decide +kernel
theorem dX8_floorOf_22 : decode cX8_floorOf 22 = .ok (.lreturn, 1) := by decide +kernel
theorem dX8_mean_0 : decode cX8_mean 0 = .ok (.lconst 0, 1) := by decide +kernel
theorem dX8_mean_1 : decode cX8_mean 1 = .ok (.lstore_n 2, 1) := by decide +kernel
theorem dX8_mean_2 : decode cX8_mean 2 = .ok (.lconst 0, 1) := by decide +kernel
theorem dX8_mean_3 : decode cX8_mean 3 = .ok (.lstore 4, 2) := by decide +kernel
theorem dX8_mean_5 : decode cX8_mean 5 = .ok (.iconst 0, 1) := by decide +kernel
theorem dX8_mean_6 : decode cX8_mean 6 = .ok (.istore 6, 2) := by decide +kernel
theorem dX8_mean_8 : decode cX8_mean 8 = .ok (.iload 6, 2) := by decide +kernel
theorem dX8_mean_10 : decode cX8_mean 10 = .ok (.aload_n 0, 1) := by decide +kernel
theorem dX8_mean_11 : decode cX8_mean 11 = .ok (.iconst 2, 1) := by decide +kernel
theorem dX8_mean_12 : decode cX8_mean 12 = .ok (.invokevirtual 227, 3) := by decide +kernel
theorem dX8_mean_15 : decode cX8_mean 15 = .ok (.if_icmp .ge 71, 3) := by decide +kernel
theorem dX8_mean_18 : decode cX8_mean 18 = .ok (.aload_n 0, 1) := by decide +kernel
theorem dX8_mean_19 : decode cX8_mean 19 = .ok (.iload 6, 2) := by decide +kernel
theorem dX8_mean_21 : decode cX8_mean 21 = .ok (.iload_n 1, 1) := by decide +kernel
theorem dX8_mean_22 : decode cX8_mean 22 = .ok (.invokevirtual 304, 3) := by decide +kernel
theorem dX8_mean_25 : decode cX8_mean 25 = .ok (.ifCond .ne 6, 3) := by decide +kernel
theorem dX8_mean_28 : decode cX8_mean 28 = .ok (.goto 52, 3) := by decide +kernel
theorem dX8_mean_31 : decode cX8_mean 31 = .ok (.aload_n 0, 1) := by decide +kernel
theorem dX8_mean_32 : decode cX8_mean 32 = .ok (.iload 6, 2) := by decide +kernel
theorem dX8_mean_34 : decode cX8_mean 34 = .ok (.iload_n 1, 1) := by decide +kernel
theorem dX8_mean_35 : decode cX8_mean 35 = .ok (.invokevirtual 325, 3) := by decide +kernel
theorem dX8_mean_38 : decode cX8_mean 38 = .ok (.istore 7, 2) := by decide +kernel
theorem dX8_mean_40 : decode cX8_mean 40 = .ok (.lload_n 2, 1) := by decide +kernel
theorem dX8_mean_41 : decode cX8_mean 41 = .ok (.aload_n 0, 1) := by decide +kernel
theorem dX8_mean_42 : decode cX8_mean 42 = .ok (.iload 6, 2) := by decide +kernel
theorem dX8_mean_44 : decode cX8_mean 44 = .ok (.invokevirtual 288, 3) := by decide +kernel
theorem dX8_mean_47 : decode cX8_mean 47 = .ok (.i2l, 1) := by decide +kernel
theorem dX8_mean_48 : decode cX8_mean 48 = .ok (.aload_n 0, 1) := by decide +kernel
theorem dX8_mean_49 : decode cX8_mean 49 = .ok (.getfield 19, 3) := by decide +kernel
theorem dX8_mean_52 : decode cX8_mean 52 = .ok (.iload 7, 2) := by decide +kernel
theorem dX8_mean_54 : decode cX8_mean 54 = .ok (.laload, 1) := by decide +kernel
theorem dX8_mean_55 : decode cX8_mean 55 = .ok (.aload_n 0, 1) := by decide +kernel
theorem dX8_mean_56 : decode cX8_mean 56 = .ok (.iload 6, 2) := by decide +kernel
theorem dX8_mean_58 : decode cX8_mean 58 = .ok (.iload 7, 2) := by decide +kernel
theorem dX8_mean_60 : decode cX8_mean 60 = .ok (.invokevirtual 301, 3) := by decide +kernel
theorem dX8_mean_63 : decode cX8_mean 63 = .ok (.i2l, 1) := by decide +kernel
theorem dX8_mean_64 : decode cX8_mean 64 = .ok (.ladd, 1) := by decide +kernel
theorem dX8_mean_65 : decode cX8_mean 65 = .ok (.lmul, 1) := by decide +kernel
theorem dX8_mean_66 : decode cX8_mean 66 = .ok (.ladd, 1) := by decide +kernel
theorem dX8_mean_67 : decode cX8_mean 67 = .ok (.lstore_n 2, 1) := by decide +kernel
theorem dX8_mean_68 : decode cX8_mean 68 = .ok (.lload 4, 2) := by decide +kernel
theorem dX8_mean_70 : decode cX8_mean 70 = .ok (.aload_n 0, 1) := by decide +kernel
theorem dX8_mean_71 : decode cX8_mean 71 = .ok (.iload 6, 2) := by decide +kernel
theorem dX8_mean_73 : decode cX8_mean 73 = .ok (.invokevirtual 288, 3) := by decide +kernel
theorem dX8_mean_76 : decode cX8_mean 76 = .ok (.i2l, 1) := by decide +kernel
theorem dX8_mean_77 : decode cX8_mean 77 = .ok (.ladd, 1) := by decide +kernel
theorem dX8_mean_78 : decode cX8_mean 78 = .ok (.lstore 4, 2) := by decide +kernel
theorem dX8_mean_80 : decode cX8_mean 80 = .ok (.iinc 6 1, 3) := by decide +kernel
theorem dX8_mean_83 : decode cX8_mean 83 = .ok (.goto (-75), 3) := by decide +kernel
theorem dX8_mean_86 : decode cX8_mean 86 = .ok (.ldc2_w 357, 3) := by decide +kernel
theorem dX8_mean_89 : decode cX8_mean 89 = .ok (.lload_n 2, 1) := by decide +kernel
theorem dX8_mean_90 : decode cX8_mean 90 = .ok (.lmul, 1) := by decide +kernel
theorem dX8_mean_91 : decode cX8_mean 91 = .ok (.lload 4, 2) := by decide +kernel
theorem dX8_mean_93 : decode cX8_mean 93 = .ok (.ladd, 1) := by decide +kernel
theorem dX8_mean_94 : decode cX8_mean 94 = .ok (.ldc2_w 357, 3) := by decide +kernel
theorem dX8_mean_97 : decode cX8_mean 97 = .ok (.lload 4, 2) := by decide +kernel
theorem dX8_mean_99 : decode cX8_mean 99 = .ok (.lmul, 1) := by decide +kernel
theorem dX8_mean_100 : decode cX8_mean 100 = .ok (.invokestatic 405, 3) := by decide +kernel
theorem dX8_mean_103 : decode cX8_mean 103 = .ok (.lreturn, 1) := by decide +kernel
theorem dX8_goesRound_0 : decode cX8_goesRound 0 = .ok (.iconst 0, 1) := by decide +kernel
theorem dX8_goesRound_1 : decode cX8_goesRound 1 = .ok (.istore_n 1, 1) := by decide +kernel
theorem dX8_goesRound_2 : decode cX8_goesRound 2 = .ok (.iconst 0, 1) := by decide +kernel
theorem dX8_goesRound_3 : decode cX8_goesRound 3 = .ok (.istore_n 2, 1) := by decide +kernel
theorem dX8_goesRound_4 : decode cX8_goesRound 4 = .ok (.iload_n 2, 1) := by decide +kernel
theorem dX8_goesRound_5 : decode cX8_goesRound 5 = .ok (.aload_n 0, 1) := by decide +kernel
theorem dX8_goesRound_6 : decode cX8_goesRound 6 = .ok (.iconst 1, 1) := by decide +kernel
theorem dX8_goesRound_7 : decode cX8_goesRound 7 = .ok (.invokevirtual 227, 3) := by decide +kernel
theorem dX8_goesRound_10 : decode cX8_goesRound 10 = .ok (.if_icmp .ge 71, 3) := by decide +kernel
theorem dX8_goesRound_13 : decode cX8_goesRound 13 = .ok (.aload_n 0, 1) := by decide +kernel
theorem dX8_goesRound_14 : decode cX8_goesRound 14 = .ok (.getfield 19, 3) := by decide +kernel
theorem dX8_goesRound_17 : decode cX8_goesRound 17 = .ok (.iload_n 2, 1) := by decide +kernel
theorem dX8_goesRound_18 : decode cX8_goesRound 18 = .ok (.laload, 1) := by decide +kernel
theorem dX8_goesRound_19 : decode cX8_goesRound 19 = .ok (.ldc2_w 394, 3) := by decide +kernel
theorem dX8_goesRound_22 : decode cX8_goesRound 22 = .ok (.lcmp, 1) := by decide +kernel
theorem dX8_goesRound_23 : decode cX8_goesRound 23 = .ok (.ifCond .eq 52, 3) := by decide +kernel
theorem dX8_goesRound_26 : decode cX8_goesRound 26 = .ok (.aload_n 0, 1) := by decide +kernel
theorem dX8_goesRound_27 : decode cX8_goesRound 27 = .ok (.getfield 7, 3) := by decide +kernel
theorem dX8_goesRound_30 : decode cX8_goesRound 30 = .ok (.bipush 6, 2) := by decide +kernel
theorem dX8_goesRound_32 : decode cX8_goesRound 32 = .ok (.iload_n 2, 1) := by decide +kernel
theorem dX8_goesRound_33 : decode cX8_goesRound 33 = .ok (.iadd, 1) := by decide +kernel
theorem dX8_goesRound_34 : decode cX8_goesRound 34 = .ok (.iaload, 1) := by decide +kernel
theorem dX8_goesRound_35 : decode cX8_goesRound 35 = .ok (.ifCond .lt 6, 3) := by decide +kernel
theorem dX8_goesRound_38 : decode cX8_goesRound 38 = .ok (.goto 37, 3) := by decide +kernel
theorem dX8_goesRound_41 : decode cX8_goesRound 41 = .ok (.aload_n 0, 1) := by decide +kernel
theorem dX8_goesRound_42 : decode cX8_goesRound 42 = .ok (.iload_n 2, 1) := by decide +kernel
theorem dX8_goesRound_43 : decode cX8_goesRound 43 = .ok (.invokevirtual 409, 3) := by decide +kernel
theorem dX8_goesRound_46 : decode cX8_goesRound 46 = .ok (.lstore_n 3, 1) := by decide +kernel
theorem dX8_goesRound_47 : decode cX8_goesRound 47 = .ok (.iload_n 1, 1) := by decide +kernel
theorem dX8_goesRound_48 : decode cX8_goesRound 48 = .ok (.ifCond .ne 14, 3) := by decide +kernel
theorem dX8_goesRound_51 : decode cX8_goesRound 51 = .ok (.lload_n 3, 1) := by decide +kernel
theorem dX8_goesRound_52 : decode cX8_goesRound 52 = .ok (.aload_n 0, 1) := by decide +kernel
theorem dX8_goesRound_53 : decode cX8_goesRound 53 = .ok (.getfield 19, 3) := by decide +kernel
theorem dX8_goesRound_56 : decode cX8_goesRound 56 = .ok (.iload_n 2, 1) := by decide +kernel
theorem dX8_goesRound_57 : decode cX8_goesRound 57 = .ok (.laload, 1) := by decide +kernel
theorem dX8_goesRound_58 : decode cX8_goesRound 58 = .ok (.lcmp, 1) := by decide +kernel
theorem dX8_goesRound_59 : decode cX8_goesRound 59 = .ok (.ifCond .eq 7, 3) := by decide +kernel
theorem dX8_goesRound_62 : decode cX8_goesRound 62 = .ok (.iconst 1, 1) := by decide +kernel
theorem dX8_goesRound_63 : decode cX8_goesRound 63 = .ok (.goto 4, 3) := by decide +kernel
theorem dX8_goesRound_66 : decode cX8_goesRound 66 = .ok (.iconst 0, 1) := by decide +kernel
theorem dX8_goesRound_67 : decode cX8_goesRound 67 = .ok (.istore_n 1, 1) := by decide +kernel
theorem dX8_goesRound_68 : decode cX8_goesRound 68 = .ok (.aload_n 0, 1) := by decide +kernel
theorem dX8_goesRound_69 : decode cX8_goesRound 69 = .ok (.getfield 19, 3) := by decide +kernel
theorem dX8_goesRound_72 : decode cX8_goesRound 72 = .ok (.iload_n 2, 1) := by decide +kernel
theorem dX8_goesRound_73 : decode cX8_goesRound 73 = .ok (.lload_n 3, 1) := by decide +kernel
theorem dX8_goesRound_74 : decode cX8_goesRound 74 = .ok (.lastore, 1) := by decide +kernel
theorem dX8_goesRound_75 : decode cX8_goesRound 75 = .ok (.iinc 2 1, 3) := by decide +kernel
theorem dX8_goesRound_78 : decode cX8_goesRound 78 = .ok (.goto (-74), 3) := by decide +kernel
theorem dX8_goesRound_81 : decode cX8_goesRound 81 = .ok (.iload_n 1, 1) := by decide +kernel
theorem dX8_goesRound_82 : decode cX8_goesRound 82 = .ok (.ireturn, 1) := by decide +kernel
theorem dX8_adjust_0 : decode cX8_adjust 0 = .ok (.aload_n 0, 1) := by decide +kernel
theorem dX8_adjust_1 : decode cX8_adjust 1 = .ok (.iconst 0, 1) := by decide +kernel
theorem dX8_adjust_2 : decode cX8_adjust 2 = .ok (.putfield 68, 3) := by decide +kernel
theorem dX8_adjust_5 : decode cX8_adjust 5 = .ok (.iload_n 1, 1) := by decide +kernel
theorem dX8_adjust_6 : decode cX8_adjust 6 = .ok (.iconst 1, 1) := by decide +kernel
theorem dX8_adjust_7 : decode cX8_adjust 7 = .ok (.sipush 200, 3) := by decide +kernel
theorem dX8_adjust_10 : decode cX8_adjust 10 = .ok (.invokestatic 107, 3) := by decide +kernel
theorem dX8_adjust_13 : decode cX8_adjust 13 = .ok (.ifCond .ne 6, 3) := by decide +kernel
theorem dX8_adjust_16 : decode cX8_adjust 16 = .ok (.bipush (-2), 2) := by decide +kernel
theorem dX8_adjust_18 : decode cX8_adjust 18 = .ok (.ireturn, 1) := by decide +kernel
theorem dX8_adjust_19 : decode cX8_adjust 19 = .ok (.aload_n 0, 1) := by decide +kernel
theorem dX8_adjust_20 : decode cX8_adjust 20 = .ok (.invokevirtual 74, 3) := by decide +kernel
theorem dX8_adjust_23 : decode cX8_adjust 23 = .ok (.aload_n 0, 1) := by decide +kernel
theorem dX8_adjust_24 : decode cX8_adjust 24 = .ok (.invokevirtual 398, 3) := by decide +kernel
theorem dX8_adjust_27 : decode cX8_adjust 27 = .ok (.iconst 0, 1) := by decide +kernel
theorem dX8_adjust_28 : decode cX8_adjust 28 = .ok (.istore_n 2, 1) := by decide +kernel
theorem dX8_adjust_29 : decode cX8_adjust 29 = .ok (.iload_n 2, 1) := by decide +kernel
theorem dX8_adjust_30 : decode cX8_adjust 30 = .ok (.bipush 16, 2) := by decide +kernel
theorem dX8_adjust_32 : decode cX8_adjust 32 = .ok (.if_icmp .ge 21, 3) := by decide +kernel
theorem dX8_adjust_35 : decode cX8_adjust 35 = .ok (.aload_n 0, 1) := by decide +kernel
theorem dX8_adjust_36 : decode cX8_adjust 36 = .ok (.getfield 19, 3) := by decide +kernel
theorem dX8_adjust_39 : decode cX8_adjust 39 = .ok (.iload_n 2, 1) := by decide +kernel
theorem dX8_adjust_40 : decode cX8_adjust 40 = .ok (.aload_n 0, 1) := by decide +kernel
theorem dX8_adjust_41 : decode cX8_adjust 41 = .ok (.getfield 61, 3) := by decide +kernel
theorem dX8_adjust_44 : decode cX8_adjust 44 = .ok (.iload_n 2, 1) := by decide +kernel
theorem dX8_adjust_45 : decode cX8_adjust 45 = .ok (.laload, 1) := by decide +kernel
theorem dX8_adjust_46 : decode cX8_adjust 46 = .ok (.lastore, 1) := by decide +kernel
theorem dX8_adjust_47 : decode cX8_adjust 47 = .ok (.iinc 2 1, 3) := by decide +kernel
theorem dX8_adjust_50 : decode cX8_adjust 50 = .ok (.goto (-21), 3) := by decide +kernel
theorem dX8_adjust_53 : decode cX8_adjust 53 = .ok (.aload_n 0, 1) := by decide +kernel
theorem dX8_adjust_54 : decode cX8_adjust 54 = .ok (.getfield 7, 3) := by decide +kernel
theorem dX8_adjust_57 : decode cX8_adjust 57 = .ok (.sipush 702, 3) := by decide +kernel
theorem dX8_adjust_60 : decode cX8_adjust 60 = .ok (.iconst 1, 1) := by decide +kernel
theorem dX8_adjust_61 : decode cX8_adjust 61 = .ok (.iastore, 1) := by decide +kernel
theorem dX8_adjust_62 : decode cX8_adjust 62 = .ok (.iconst 0, 1) := by decide +kernel
theorem dX8_adjust_63 : decode cX8_adjust 63 = .ok (.istore_n 2, 1) := by decide +kernel
theorem dX8_adjust_64 : decode cX8_adjust 64 = .ok (.iconst 1, 1) := by decide +kernel
theorem dX8_adjust_65 : decode cX8_adjust 65 = .ok (.istore_n 3, 1) := by decide +kernel
theorem dX8_adjust_66 : decode cX8_adjust 66 = .ok (.iload_n 3, 1) := by decide +kernel
theorem dX8_adjust_67 : decode cX8_adjust 67 = .ok (.ifCond .eq 19, 3) := by decide +kernel
theorem dX8_adjust_70 : decode cX8_adjust 70 = .ok (.iload_n 2, 1) := by decide +kernel
theorem dX8_adjust_71 : decode cX8_adjust 71 = .ok (.iload_n 1, 1) := by decide +kernel
theorem dX8_adjust_72 : decode cX8_adjust 72 = .ok (.if_icmp .ge 14, 3) := by decide +kernel
theorem dX8_adjust_75 : decode cX8_adjust 75 = .ok (.aload_n 0, 1) := by decide +kernel
theorem dX8_adjust_76 : decode cX8_adjust 76 = .ok (.invokevirtual 412, 3) := by decide +kernel
theorem dX8_adjust_79 : decode cX8_adjust 79 = .ok (.istore_n 3, 1) := by decide +kernel
theorem dX8_adjust_80 : decode cX8_adjust 80 = .ok (.iinc 2 1, 3) := by decide +kernel
theorem dX8_adjust_83 : decode cX8_adjust 83 = .ok (.goto (-17), 3) := by decide +kernel
theorem dX8_adjust_86 : decode cX8_adjust 86 = .ok (.iload_n 2, 1) := by decide +kernel
theorem dX8_adjust_87 : decode cX8_adjust 87 = .ok (.ireturn, 1) := by decide +kernel
theorem dX8_hasResidual_0 : decode cX8_hasResidual 0 = .ok (.aload_n 0, 1) := by decide +kernel
theorem dX8_hasResidual_1 : decode cX8_hasResidual 1 = .ok (.iload_n 1, 1) := by decide +kernel
theorem dX8_hasResidual_2 : decode cX8_hasResidual 2 = .ok (.invokevirtual 282, 3) := by decide +kernel
theorem dX8_hasResidual_5 : decode cX8_hasResidual 5 = .ok (.ifCond .eq 39, 3) := by decide +kernel
theorem dX8_hasResidual_8 : decode cX8_hasResidual 8 = .ok (.aload_n 0, 1) := by decide +kernel
theorem dX8_hasResidual_9 : decode cX8_hasResidual 9 = .ok (.aload_n 0, 1) := by decide +kernel
theorem dX8_hasResidual_10 : decode cX8_hasResidual 10 = .ok (.iload_n 1, 1) := by decide +kernel
theorem dX8_hasResidual_11 : decode cX8_hasResidual 11 = .ok (.invokevirtual 273, 3) := by decide +kernel
theorem dX8_hasResidual_14 : decode cX8_hasResidual 14 = .ok (.invokevirtual 401, 3) := by decide +kernel
theorem dX8_hasResidual_17 : decode cX8_hasResidual 17 = .ok (.ldc2_w 394, 3) := by decide +kernel
theorem dX8_hasResidual_20 : decode cX8_hasResidual 20 = .ok (.lcmp, 1) := by decide +kernel
theorem dX8_hasResidual_21 : decode cX8_hasResidual 21 = .ok (.ifCond .eq 23, 3) := by decide +kernel
theorem dX8_hasResidual_24 : decode cX8_hasResidual 24 = .ok (.aload_n 0, 1) := by decide +kernel
theorem dX8_hasResidual_25 : decode cX8_hasResidual 25 = .ok (.aload_n 0, 1) := by decide +kernel
theorem dX8_hasResidual_26 : decode cX8_hasResidual 26 = .ok (.iload_n 1, 1) := by decide +kernel
theorem dX8_hasResidual_27 : decode cX8_hasResidual 27 = .ok (.invokevirtual 279, 3) := by decide +kernel
theorem dX8_hasResidual_30 : decode cX8_hasResidual 30 = .ok (.invokevirtual 401, 3) := by decide +kernel
theorem dX8_hasResidual_33 : decode cX8_hasResidual 33 = .ok (.ldc2_w 394, 3) := by decide +kernel
theorem dX8_hasResidual_36 : decode cX8_hasResidual 36 = .ok (.lcmp, 1) := by decide +kernel
theorem dX8_hasResidual_37 : decode cX8_hasResidual 37 = .ok (.ifCond .eq 7, 3) := by decide +kernel
theorem dX8_hasResidual_40 : decode cX8_hasResidual 40 = .ok (.iconst 1, 1) := by decide +kernel
theorem dX8_hasResidual_41 : decode cX8_hasResidual 41 = .ok (.goto 4, 3) := by decide +kernel
theorem dX8_hasResidual_44 : decode cX8_hasResidual 44 = .ok (.iconst 0, 1) := by decide +kernel
theorem dX8_hasResidual_45 : decode cX8_hasResidual 45 = .ok (.ireturn, 1) := by decide +kernel
theorem dX8_residualOf_0 : decode cX8_residualOf 0 = .ok (.aload_n 0, 1) := by decide +kernel
theorem dX8_residualOf_1 : decode cX8_residualOf 1 = .ok (.getfield 19, 3) := by decide +kernel
theorem dX8_residualOf_4 : decode cX8_residualOf 4 = .ok (.aload_n 0, 1) := by decide +kernel
theorem dX8_residualOf_5 : decode cX8_residualOf 5 = .ok (.iload_n 1, 1) := by decide +kernel
theorem dX8_residualOf_6 : decode cX8_residualOf 6 = .ok (.invokevirtual 279, 3) := by decide +kernel
theorem dX8_residualOf_9 : decode cX8_residualOf 9 = .ok (.laload, 1) := by decide +kernel
theorem dX8_residualOf_10 : decode cX8_residualOf 10 = .ok (.aload_n 0, 1) := by decide +kernel
theorem dX8_residualOf_11 : decode cX8_residualOf 11 = .ok (.getfield 19, 3) := by decide +kernel
theorem dX8_residualOf_14 : decode cX8_residualOf 14 = .ok (.aload_n 0, 1) := by decide +kernel
theorem dX8_residualOf_15 : decode cX8_residualOf 15 = .ok (.iload_n 1, 1) := by decide +kernel
theorem dX8_residualOf_16 : decode cX8_residualOf 16 = .ok (.invokevirtual 273, 3) := by decide +kernel
theorem dX8_residualOf_19 : decode cX8_residualOf 19 = .ok (.laload, 1) := by decide +kernel
theorem dX8_residualOf_20 : decode cX8_residualOf 20 = .ok (.lsub, 1) := by decide +kernel
theorem dX8_residualOf_21 : decode cX8_residualOf 21 = .ok (.aload_n 0, 1) := by decide +kernel
theorem dX8_residualOf_22 : decode cX8_residualOf 22 = .ok (.iload_n 1, 1) := by decide +kernel
theorem dX8_residualOf_23 : decode cX8_residualOf 23 = .ok (.invokevirtual 276, 3) := by decide +kernel
theorem dX8_residualOf_26 : decode cX8_residualOf 26 = .ok (.i2l, 1) := by decide +kernel
theorem dX8_residualOf_27 : decode cX8_residualOf 27 = .ok (.lsub, 1) := by decide +kernel
theorem dX8_residualOf_28 : decode cX8_residualOf 28 = .ok (.lreturn, 1) := by decide +kernel
theorem dX8_residual_0 : decode cX8_residual 0 = .ok (.aload_n 0, 1) := by decide +kernel
theorem dX8_residual_1 : decode cX8_residual 1 = .ok (.aload_n 0, 1) := by decide +kernel
theorem dX8_residual_2 : decode cX8_residual 2 = .ok (.iload_n 1, 1) := by decide +kernel
theorem dX8_residual_3 : decode cX8_residual 3 = .ok (.invokevirtual 285, 3) := by decide +kernel
theorem dX8_residual_6 : decode cX8_residual 6 = .ok (.invokevirtual 234, 3) := by decide +kernel
theorem dX8_residual_9 : decode cX8_residual 9 = .ok (.ifCond .eq 5, 3) := by decide +kernel
theorem dX8_residual_12 : decode cX8_residual 12 = .ok (.lconst 0, 1) := by decide +kernel
theorem dX8_residual_13 : decode cX8_residual 13 = .ok (.lreturn, 1) := by decide +kernel
theorem dX8_residual_14 : decode cX8_residual 14 = .ok (.aload_n 0, 1) := by decide +kernel
theorem dX8_residual_15 : decode cX8_residual 15 = .ok (.iload_n 1, 1) := by decide +kernel
theorem dX8_residual_16 : decode cX8_residual 16 = .ok (.invokevirtual 415, 3) := by decide +kernel
theorem dX8_residual_19 : decode cX8_residual 19 = .ok (.ifCond .eq 11, 3) := by decide +kernel
theorem dX8_residual_22 : decode cX8_residual 22 = .ok (.aload_n 0, 1) := by decide +kernel
theorem dX8_residual_23 : decode cX8_residual 23 = .ok (.iload_n 1, 1) := by decide +kernel
theorem dX8_residual_24 : decode cX8_residual 24 = .ok (.invokevirtual 418, 3) := by decide +kernel
theorem dX8_residual_27 : decode cX8_residual 27 = .ok (.goto 6, 3) := by decide +kernel
theorem dX8_residual_30 : decode cX8_residual 30 = .ok (.ldc2_w 394, 3) := by decide +kernel
theorem dX8_residual_33 : decode cX8_residual 33 = .ok (.lreturn, 1) := by decide +kernel
theorem dX8_strain_0 : decode cX8_strain 0 = .ok (.ldc2_w 421, 3) := by decide +kernel
theorem dX8_strain_3 : decode cX8_strain 3 = .ok (.aload_n 0, 1) := by decide +kernel
theorem dX8_strain_4 : decode cX8_strain 4 = .ok (.iload_n 1, 1) := by decide +kernel
theorem dX8_strain_5 : decode cX8_strain 5 = .ok (.invokevirtual 418, 3) := by decide +kernel
theorem dX8_strain_8 : decode cX8_strain 8 = .ok (.invokestatic 294, 3) := by decide +kernel
theorem dX8_strain_11 : decode cX8_strain 11 = .ok (.lmul, 1) := by decide +kernel
theorem dX8_strain_12 : decode cX8_strain 12 = .ok (.aload_n 0, 1) := by decide +kernel
theorem dX8_strain_13 : decode cX8_strain 13 = .ok (.iload_n 1, 1) := by decide +kernel
theorem dX8_strain_14 : decode cX8_strain 14 = .ok (.invokevirtual 264, 3) := by decide +kernel
theorem dX8_strain_17 : decode cX8_strain 17 = .ok (.i2l, 1) := by decide +kernel
theorem dX8_strain_18 : decode cX8_strain 18 = .ok (.ldiv, 1) := by decide +kernel
theorem dX8_strain_19 : decode cX8_strain 19 = .ok (.lreturn, 1) := by decide +kernel
theorem dX8_worstLine_0 : decode cX8_worstLine 0 = .ok (.aload_n 0, 1) := by decide +kernel
theorem dX8_worstLine_1 : decode cX8_worstLine 1 = .ok (.iconst 0, 1) := by decide +kernel
theorem dX8_worstLine_2 : decode cX8_worstLine 2 = .ok (.putfield 68, 3) := by decide +kernel
theorem dX8_worstLine_5 : decode cX8_worstLine 5 = .ok (.iconst (-1), 1) := by decide +kernel
theorem dX8_worstLine_6 : decode cX8_worstLine 6 = .ok (.istore_n 1, 1) := by decide +kernel
theorem dX8_worstLine_7 : decode cX8_worstLine 7 = .ok (.iconst 0, 1) := by decide +kernel
theorem dX8_worstLine_8 : decode cX8_worstLine 8 = .ok (.istore_n 2, 1) := by decide +kernel
theorem dX8_worstLine_9 : decode cX8_worstLine 9 = .ok (.iload_n 2, 1) := by decide +kernel
theorem dX8_worstLine_10 : decode cX8_worstLine 10 = .ok (.aload_n 0, 1) := by decide +kernel
theorem dX8_worstLine_11 : decode cX8_worstLine 11 = .ok (.iconst 2, 1) := by decide +kernel
theorem dX8_worstLine_12 : decode cX8_worstLine 12 = .ok (.invokevirtual 227, 3) := by decide +kernel
theorem dX8_worstLine_15 : decode cX8_worstLine 15 = .ok (.if_icmp .ge 37, 3) := by decide +kernel
theorem dX8_worstLine_18 : decode cX8_worstLine 18 = .ok (.aload_n 0, 1) := by decide +kernel
theorem dX8_worstLine_19 : decode cX8_worstLine 19 = .ok (.iload_n 2, 1) := by decide +kernel
theorem dX8_worstLine_20 : decode cX8_worstLine 20 = .ok (.invokevirtual 415, 3) := by decide +kernel
theorem dX8_worstLine_23 : decode cX8_worstLine 23 = .ok (.ifCond .eq 23, 3) := by decide +kernel
theorem dX8_worstLine_26 : decode cX8_worstLine 26 = .ok (.iload_n 1, 1) := by decide +kernel
theorem dX8_worstLine_27 : decode cX8_worstLine 27 = .ok (.ifCond .lt 17, 3) := by decide +kernel
theorem dX8_worstLine_30 : decode cX8_worstLine 30 = .ok (.aload_n 0, 1) := by decide +kernel
theorem dX8_worstLine_31 : decode cX8_worstLine 31 = .ok (.iload_n 2, 1) := by decide +kernel
theorem dX8_worstLine_32 : decode cX8_worstLine 32 = .ok (.invokevirtual 423, 3) := by decide +kernel
theorem dX8_worstLine_35 : decode cX8_worstLine 35 = .ok (.aload_n 0, 1) := by decide +kernel
theorem dX8_worstLine_36 : decode cX8_worstLine 36 = .ok (.iload_n 1, 1) := by decide +kernel
theorem dX8_worstLine_37 : decode cX8_worstLine 37 = .ok (.invokevirtual 423, 3) := by decide +kernel
theorem dX8_worstLine_40 : decode cX8_worstLine 40 = .ok (.lcmp, 1) := by decide +kernel
theorem dX8_worstLine_41 : decode cX8_worstLine 41 = .ok (.ifCond .le 5, 3) := by decide +kernel
theorem dX8_worstLine_44 : decode cX8_worstLine 44 = .ok (.iload_n 2, 1) := by decide +kernel
theorem dX8_worstLine_45 : decode cX8_worstLine 45 = .ok (.istore_n 1, 1) := by decide +kernel
theorem dX8_worstLine_46 : decode cX8_worstLine 46 = .ok (.iinc 2 1, 3) := by decide +kernel
theorem dX8_worstLine_49 : decode cX8_worstLine 49 = .ok (.goto (-40), 3) := by decide +kernel
theorem dX8_worstLine_52 : decode cX8_worstLine 52 = .ok (.iload_n 1, 1) := by decide +kernel
theorem dX8_worstLine_53 : decode cX8_worstLine 53 = .ok (.ireturn, 1) := by decide +kernel
theorem dX8_mostMoved_0 : decode cX8_mostMoved 0 = .ok (.aload_n 0, 1) := by decide +kernel
theorem dX8_mostMoved_1 : decode cX8_mostMoved 1 = .ok (.iconst 0, 1) := by decide +kernel
theorem dX8_mostMoved_2 : decode cX8_mostMoved 2 = .ok (.putfield 68, 3) := by decide +kernel
theorem dX8_mostMoved_5 : decode cX8_mostMoved 5 = .ok (.aload_n 0, 1) := by decide +kernel
theorem dX8_mostMoved_6 : decode cX8_mostMoved 6 = .ok (.invokevirtual 398, 3) := by decide +kernel
theorem dX8_mostMoved_9 : decode cX8_mostMoved 9 = .ok (.iconst (-1), 1) := by decide +kernel
theorem dX8_mostMoved_10 : decode cX8_mostMoved 10 = .ok (.istore_n 1, 1) := by decide +kernel
theorem dX8_mostMoved_11 : decode cX8_mostMoved 11 = .ok (.iconst 0, 1) := by decide +kernel
theorem dX8_mostMoved_12 : decode cX8_mostMoved 12 = .ok (.istore_n 2, 1) := by decide +kernel
theorem dX8_mostMoved_13 : decode cX8_mostMoved 13 = .ok (.iload_n 2, 1) := by decide +kernel
theorem dX8_mostMoved_14 : decode cX8_mostMoved 14 = .ok (.aload_n 0, 1) := by decide +kernel
theorem dX8_mostMoved_15 : decode cX8_mostMoved 15 = .ok (.iconst 1, 1) := by decide +kernel
theorem dX8_mostMoved_16 : decode cX8_mostMoved 16 = .ok (.invokevirtual 227, 3) := by decide +kernel
theorem dX8_mostMoved_19 : decode cX8_mostMoved 19 = .ok (.if_icmp .ge 66, 3) := by decide +kernel
theorem dX8_mostMoved_22 : decode cX8_mostMoved 22 = .ok (.aload_n 0, 1) := by decide +kernel
theorem dX8_mostMoved_23 : decode cX8_mostMoved 23 = .ok (.iload_n 2, 1) := by decide +kernel
theorem dX8_mostMoved_24 : decode cX8_mostMoved 24 = .ok (.invokevirtual 401, 3) := by decide +kernel
theorem dX8_mostMoved_27 : decode cX8_mostMoved 27 = .ok (.ldc2_w 394, 3) := by decide +kernel
theorem dX8_mostMoved_30 : decode cX8_mostMoved 30 = .ok (.lcmp, 1) := by decide +kernel
theorem dX8_mostMoved_31 : decode cX8_mostMoved 31 = .ok (.ifCond .ne 6, 3) := by decide +kernel
theorem dX8_mostMoved_34 : decode cX8_mostMoved 34 = .ok (.goto 45, 3) := by decide +kernel
theorem dX8_mostMoved_37 : decode cX8_mostMoved 37 = .ok (.iload_n 1, 1) := by decide +kernel
theorem dX8_mostMoved_38 : decode cX8_mostMoved 38 = .ok (.ifCond .lt 39, 3) := by decide +kernel
theorem dX8_mostMoved_41 : decode cX8_mostMoved 41 = .ok (.aload_n 0, 1) := by decide +kernel
theorem dX8_mostMoved_42 : decode cX8_mostMoved 42 = .ok (.getfield 19, 3) := by decide +kernel
theorem dX8_mostMoved_45 : decode cX8_mostMoved 45 = .ok (.iload_n 2, 1) := by decide +kernel
theorem dX8_mostMoved_46 : decode cX8_mostMoved 46 = .ok (.laload, 1) := by decide +kernel
theorem dX8_mostMoved_47 : decode cX8_mostMoved 47 = .ok (.aload_n 0, 1) := by decide +kernel
theorem dX8_mostMoved_48 : decode cX8_mostMoved 48 = .ok (.getfield 61, 3) := by decide +kernel
theorem dX8_mostMoved_51 : decode cX8_mostMoved 51 = .ok (.iload_n 2, 1) := by decide +kernel
theorem dX8_mostMoved_52 : decode cX8_mostMoved 52 = .ok (.laload, 1) := by decide +kernel
theorem dX8_mostMoved_53 : decode cX8_mostMoved 53 = .ok (.lsub, 1) := by decide +kernel
theorem dX8_mostMoved_54 : decode cX8_mostMoved 54 = .ok (.invokestatic 294, 3) := by decide +kernel
theorem dX8_mostMoved_57 : decode cX8_mostMoved 57 = .ok (.aload_n 0, 1) := by decide +kernel
theorem dX8_mostMoved_58 : decode cX8_mostMoved 58 = .ok (.getfield 19, 3) := by decide +kernel
theorem dX8_mostMoved_61 : decode cX8_mostMoved 61 = .ok (.iload_n 1, 1) := by decide +kernel
theorem dX8_mostMoved_62 : decode cX8_mostMoved 62 = .ok (.laload, 1) := by decide +kernel
theorem dX8_mostMoved_63 : decode cX8_mostMoved 63 = .ok (.aload_n 0, 1) := by decide +kernel
theorem dX8_mostMoved_64 : decode cX8_mostMoved 64 = .ok (.getfield 61, 3) := by decide +kernel
theorem dX8_mostMoved_67 : decode cX8_mostMoved 67 = .ok (.iload_n 1, 1) := by decide +kernel
theorem dX8_mostMoved_68 : decode cX8_mostMoved 68 = .ok (.laload, 1) := by decide +kernel
theorem dX8_mostMoved_69 : decode cX8_mostMoved 69 = .ok (.lsub, 1) := by decide +kernel
theorem dX8_mostMoved_70 : decode cX8_mostMoved 70 = .ok (.invokestatic 294, 3) := by decide +kernel
theorem dX8_mostMoved_73 : decode cX8_mostMoved 73 = .ok (.lcmp, 1) := by decide +kernel
theorem dX8_mostMoved_74 : decode cX8_mostMoved 74 = .ok (.ifCond .le 5, 3) := by decide +kernel
theorem dX8_mostMoved_77 : decode cX8_mostMoved 77 = .ok (.iload_n 2, 1) := by decide +kernel
theorem dX8_mostMoved_78 : decode cX8_mostMoved 78 = .ok (.istore_n 1, 1) := by decide +kernel
theorem dX8_mostMoved_79 : decode cX8_mostMoved 79 = .ok (.iinc 2 1, 3) := by decide +kernel
theorem dX8_mostMoved_82 : decode cX8_mostMoved 82 = .ok (.goto (-69), 3) := by decide +kernel
theorem dX8_mostMoved_85 : decode cX8_mostMoved 85 = .ok (.iload_n 1, 1) := by decide +kernel
theorem dX8_mostMoved_86 : decode cX8_mostMoved 86 = .ok (.ireturn, 1) := by decide +kernel
theorem dX8_residualSum_0 : decode cX8_residualSum 0 = .ok (.aload_n 0, 1) := by decide +kernel
theorem dX8_residualSum_1 : decode cX8_residualSum 1 = .ok (.iconst 0, 1) := by decide +kernel
theorem dX8_residualSum_2 : decode cX8_residualSum 2 = .ok (.putfield 68, 3) := by decide +kernel
theorem dX8_residualSum_5 : decode cX8_residualSum 5 = .ok (.lconst 0, 1) := by decide +kernel
theorem dX8_residualSum_6 : decode cX8_residualSum 6 = .ok (.lstore_n 1, 1) := by decide +kernel
theorem dX8_residualSum_7 : decode cX8_residualSum 7 = .ok (.iconst 0, 1) := by decide +kernel
theorem dX8_residualSum_8 : decode cX8_residualSum 8 = .ok (.istore_n 3, 1) := by decide +kernel
theorem dX8_residualSum_9 : decode cX8_residualSum 9 = .ok (.iload_n 3, 1) := by decide +kernel
theorem dX8_residualSum_10 : decode cX8_residualSum 10 = .ok (.aload_n 0, 1) := by decide +kernel
theorem dX8_residualSum_11 : decode cX8_residualSum 11 = .ok (.iconst 2, 1) := by decide +kernel
theorem dX8_residualSum_12 : decode cX8_residualSum 12 = .ok (.invokevirtual 227, 3) := by decide +kernel
theorem dX8_residualSum_15 : decode cX8_residualSum 15 = .ok (.if_icmp .ge 39, 3) := by decide +kernel
theorem dX8_residualSum_18 : decode cX8_residualSum 18 = .ok (.lload_n 1, 1) := by decide +kernel
theorem dX8_residualSum_19 : decode cX8_residualSum 19 = .ok (.aload_n 0, 1) := by decide +kernel
theorem dX8_residualSum_20 : decode cX8_residualSum 20 = .ok (.iload_n 3, 1) := by decide +kernel
theorem dX8_residualSum_21 : decode cX8_residualSum 21 = .ok (.invokevirtual 415, 3) := by decide +kernel
theorem dX8_residualSum_24 : decode cX8_residualSum 24 = .ok (.ifCond .eq 21, 3) := by decide +kernel
theorem dX8_residualSum_27 : decode cX8_residualSum 27 = .ok (.aload_n 0, 1) := by decide +kernel
theorem dX8_residualSum_28 : decode cX8_residualSum 28 = .ok (.iload_n 3, 1) := by decide +kernel
theorem dX8_residualSum_29 : decode cX8_residualSum 29 = .ok (.invokevirtual 288, 3) := by decide +kernel
theorem dX8_residualSum_32 : decode cX8_residualSum 32 = .ok (.i2l, 1) := by decide +kernel
theorem dX8_residualSum_33 : decode cX8_residualSum 33 = .ok (.aload_n 0, 1) := by decide +kernel
theorem dX8_residualSum_34 : decode cX8_residualSum 34 = .ok (.iload_n 3, 1) := by decide +kernel
theorem dX8_residualSum_35 : decode cX8_residualSum 35 = .ok (.invokevirtual 418, 3) := by decide +kernel
theorem dX8_residualSum_38 : decode cX8_residualSum 38 = .ok (.invokestatic 294, 3) := by decide +kernel
theorem dX8_residualSum_41 : decode cX8_residualSum 41 = .ok (.lmul, 1) := by decide +kernel
theorem dX8_residualSum_42 : decode cX8_residualSum 42 = .ok (.goto 4, 3) := by decide +kernel
theorem dX8_residualSum_45 : decode cX8_residualSum 45 = .ok (.lconst 0, 1) := by decide +kernel
theorem dX8_residualSum_46 : decode cX8_residualSum 46 = .ok (.ladd, 1) := by decide +kernel
theorem dX8_residualSum_47 : decode cX8_residualSum 47 = .ok (.lstore_n 1, 1) := by decide +kernel
theorem dX8_residualSum_48 : decode cX8_residualSum 48 = .ok (.iinc 3 1, 3) := by decide +kernel
theorem dX8_residualSum_51 : decode cX8_residualSum 51 = .ok (.goto (-42), 3) := by decide +kernel
theorem dX8_residualSum_54 : decode cX8_residualSum 54 = .ok (.lload_n 1, 1) := by decide +kernel
theorem dX8_residualSum_55 : decode cX8_residualSum 55 = .ok (.lreturn, 1) := by decide +kernel
theorem dX8_heldMany_0 : decode cX8_heldMany 0 = .ok (.iconst 0, 1) := by decide +kernel
theorem dX8_heldMany_1 : decode cX8_heldMany 1 = .ok (.istore_n 1, 1) := by decide +kernel
theorem dX8_heldMany_2 : decode cX8_heldMany 2 = .ok (.iconst 0, 1) := by decide +kernel
theorem dX8_heldMany_3 : decode cX8_heldMany 3 = .ok (.istore_n 2, 1) := by decide +kernel
theorem dX8_heldMany_4 : decode cX8_heldMany 4 = .ok (.iload_n 2, 1) := by decide +kernel
theorem dX8_heldMany_5 : decode cX8_heldMany 5 = .ok (.bipush 16, 2) := by decide +kernel
theorem dX8_heldMany_7 : decode cX8_heldMany 7 = .ok (.if_icmp .ge 29, 3) := by decide +kernel
theorem dX8_heldMany_10 : decode cX8_heldMany 10 = .ok (.iload_n 1, 1) := by decide +kernel
theorem dX8_heldMany_11 : decode cX8_heldMany 11 = .ok (.aload_n 0, 1) := by decide +kernel
theorem dX8_heldMany_12 : decode cX8_heldMany 12 = .ok (.getfield 7, 3) := by decide +kernel
theorem dX8_heldMany_15 : decode cX8_heldMany 15 = .ok (.bipush 6, 2) := by decide +kernel
theorem dX8_heldMany_17 : decode cX8_heldMany 17 = .ok (.iload_n 2, 1) := by decide +kernel
theorem dX8_heldMany_18 : decode cX8_heldMany 18 = .ok (.iadd, 1) := by decide +kernel
theorem dX8_heldMany_19 : decode cX8_heldMany 19 = .ok (.iaload, 1) := by decide +kernel
theorem dX8_heldMany_20 : decode cX8_heldMany 20 = .ok (.ifCond .lt 7, 3) := by decide +kernel
theorem dX8_heldMany_23 : decode cX8_heldMany 23 = .ok (.iconst 1, 1) := by decide +kernel
theorem dX8_heldMany_24 : decode cX8_heldMany 24 = .ok (.goto 4, 3) := by decide +kernel
theorem dX8_heldMany_27 : decode cX8_heldMany 27 = .ok (.iconst 0, 1) := by decide +kernel
theorem dX8_heldMany_28 : decode cX8_heldMany 28 = .ok (.iadd, 1) := by decide +kernel
theorem dX8_heldMany_29 : decode cX8_heldMany 29 = .ok (.istore_n 1, 1) := by decide +kernel
theorem dX8_heldMany_30 : decode cX8_heldMany 30 = .ok (.iinc 2 1, 3) := by decide +kernel
theorem dX8_heldMany_33 : decode cX8_heldMany 33 = .ok (.goto (-29), 3) := by decide +kernel
theorem dX8_heldMany_36 : decode cX8_heldMany 36 = .ok (.iload_n 1, 1) := by decide +kernel
theorem dX8_heldMany_37 : decode cX8_heldMany 37 = .ok (.ireturn, 1) := by decide +kernel
theorem dX8_hold_0 : decode cX8_hold 0 = .ok (.aload_n 0, 1) := by decide +kernel
theorem dX8_hold_1 : decode cX8_hold 1 = .ok (.iconst 0, 1) := by decide +kernel
theorem dX8_hold_2 : decode cX8_hold 2 = .ok (.putfield 68, 3) := by decide +kernel
theorem dX8_hold_5 : decode cX8_hold 5 = .ok (.aload_n 0, 1) := by decide +kernel
theorem dX8_hold_6 : decode cX8_hold 6 = .ok (.iload_n 1, 1) := by decide +kernel
theorem dX8_hold_7 : decode cX8_hold 7 = .ok (.invokevirtual 251, 3) := by decide +kernel
theorem dX8_hold_10 : decode cX8_hold 10 = .ok (.ifCond .ne 5, 3) := by decide +kernel
theorem dX8_hold_13 : decode cX8_hold 13 = .ok (.iconst (-1), 1) := by decide +kernel
theorem dX8_hold_14 : decode cX8_hold 14 = .ok (.ireturn, 1) := by decide +kernel
theorem dX8_hold_15 : decode cX8_hold 15 = .ok (.iload_n 2, 1) := by decide +kernel
theorem dX8_hold_16 : decode cX8_hold 16 = .ok (.iconst 0, 1) := by decide +kernel
theorem dX8_hold_17 : decode cX8_hold 17 = .ok (.ldc 169, 2) := by decide +kernel
theorem dX8_hold_19 : decode cX8_hold 19 = .ok (.invokestatic 107, 3) := by decide +kernel
theorem dX8_hold_22 : decode cX8_hold 22 = .ok (.ifCond .ne 6, 3) := by decide +kernel
theorem dX8_hold_25 : decode cX8_hold 25 = .ok (.bipush (-2), 2) := by decide +kernel
theorem dX8_hold_27 : decode cX8_hold 27 = .ok (.ireturn, 1) := by decide +kernel
theorem dX8_hold_28 : decode cX8_hold 28 = .ok (.aload_n 0, 1) := by decide +kernel
theorem dX8_hold_29 : decode cX8_hold 29 = .ok (.invokevirtual 426, 3) := by decide +kernel
theorem dX8_hold_32 : decode cX8_hold 32 = .ok (.aload_n 0, 1) := by decide +kernel
theorem dX8_hold_33 : decode cX8_hold 33 = .ok (.getfield 7, 3) := by decide +kernel
theorem dX8_hold_36 : decode cX8_hold 36 = .ok (.bipush 6, 2) := by decide +kernel
theorem dX8_hold_38 : decode cX8_hold 38 = .ok (.iload_n 1, 1) := by decide +kernel
theorem dX8_hold_39 : decode cX8_hold 39 = .ok (.iadd, 1) := by decide +kernel
theorem dX8_hold_40 : decode cX8_hold 40 = .ok (.iload_n 2, 1) := by decide +kernel
theorem dX8_hold_41 : decode cX8_hold 41 = .ok (.iastore, 1) := by decide +kernel
theorem dX8_hold_42 : decode cX8_hold 42 = .ok (.aload_n 0, 1) := by decide +kernel
theorem dX8_hold_43 : decode cX8_hold 43 = .ok (.invokevirtual 429, 3) := by decide +kernel
theorem dX8_hold_46 : decode cX8_hold 46 = .ok (.ireturn, 1) := by decide +kernel
theorem dX8_release_0 : decode cX8_release 0 = .ok (.aload_n 0, 1) := by decide +kernel
theorem dX8_release_1 : decode cX8_release 1 = .ok (.iconst 0, 1) := by decide +kernel
theorem dX8_release_2 : decode cX8_release 2 = .ok (.putfield 68, 3) := by decide +kernel
theorem dX8_release_5 : decode cX8_release 5 = .ok (.aload_n 0, 1) := by decide +kernel
theorem dX8_release_6 : decode cX8_release 6 = .ok (.iload_n 1, 1) := by decide +kernel
theorem dX8_release_7 : decode cX8_release 7 = .ok (.invokevirtual 251, 3) := by decide +kernel
theorem dX8_release_10 : decode cX8_release 10 = .ok (.ifCond .eq 15, 3) := by decide +kernel
theorem dX8_release_13 : decode cX8_release 13 = .ok (.aload_n 0, 1) := by decide +kernel
theorem dX8_release_14 : decode cX8_release 14 = .ok (.getfield 7, 3) := by decide +kernel
theorem dX8_release_17 : decode cX8_release 17 = .ok (.bipush 6, 2) := by decide +kernel
theorem dX8_release_19 : decode cX8_release 19 = .ok (.iload_n 1, 1) := by decide +kernel
theorem dX8_release_20 : decode cX8_release 20 = .ok (.iadd, 1) := by decide +kernel
theorem dX8_release_21 : decode cX8_release 21 = .ok (.iaload, 1) := by decide +kernel
theorem dX8_release_22 : decode cX8_release 22 = .ok (.ifCond .ge 5, 3) := by decide +kernel
theorem dX8_release_25 : decode cX8_release 25 = .ok (.iconst (-1), 1) := by decide +kernel
theorem dX8_release_26 : decode cX8_release 26 = .ok (.ireturn, 1) := by decide +kernel
theorem dX8_release_27 : decode cX8_release 27 = .ok (.aload_n 0, 1) := by decide +kernel
theorem dX8_release_28 : decode cX8_release 28 = .ok (.invokevirtual 426, 3) := by decide +kernel
theorem dX8_release_31 : decode cX8_release 31 = .ok (.aload_n 0, 1) := by decide +kernel
theorem dX8_release_32 : decode cX8_release 32 = .ok (.getfield 7, 3) := by decide +kernel
theorem dX8_release_35 : decode cX8_release 35 = .ok (.bipush 6, 2) := by decide +kernel
theorem dX8_release_37 : decode cX8_release 37 = .ok (.iload_n 1, 1) := by decide +kernel
theorem dX8_release_38 : decode cX8_release 38 = .ok (.iadd, 1) := by decide +kernel
theorem dX8_release_39 : decode cX8_release 39 = .ok (.iconst (-1), 1) := by decide +kernel
theorem dX8_release_40 : decode cX8_release 40 = .ok (.iastore, 1) := by decide +kernel
theorem dX8_release_41 : decode cX8_release 41 = .ok (.aload_n 0, 1) := by decide +kernel
theorem dX8_release_42 : decode cX8_release 42 = .ok (.invokevirtual 429, 3) := by decide +kernel
theorem dX8_release_45 : decode cX8_release 45 = .ok (.ireturn, 1) := by decide +kernel
theorem dX8_isNumber_0 : decode cX8_isNumber 0 = .ok (.iload_n 0, 1) := by decide +kernel
theorem dX8_isNumber_1 : decode cX8_isNumber 1 = .ok (.iconst 2, 1) := by decide +kernel
theorem dX8_isNumber_2 : decode cX8_isNumber 2 = .ok (.if_icmp .ge 13, 3) := by decide +kernel
theorem dX8_isNumber_5 : decode cX8_isNumber 5 = .ok (.iload_n 1, 1) := by decide +kernel
theorem dX8_isNumber_6 : decode cX8_isNumber 6 = .ok (.iconst 0, 1) := by decide +kernel
theorem dX8_isNumber_7 : decode cX8_isNumber 7 = .ok (.ldc 170, 2) := by decide +kernel
theorem dX8_isNumber_9 : decode cX8_isNumber 9 = .ok (.invokestatic 107, 3) := by decide +kernel
theorem dX8_isNumber_12 : decode cX8_isNumber 12 = .ok (.goto 10, 3) := by decide +kernel
theorem dX8_isNumber_15 : decode cX8_isNumber 15 = .ok (.iload_n 1, 1) := by decide +kernel
theorem dX8_isNumber_16 : decode cX8_isNumber 16 = .ok (.iconst 1, 1) := by decide +kernel
theorem dX8_isNumber_17 : decode cX8_isNumber 17 = .ok (.bipush 100, 2) := by decide +kernel
theorem dX8_isNumber_19 : decode cX8_isNumber 19 = .ok (.invokestatic 107, 3) := by decide +kernel
theorem dX8_isNumber_22 : decode cX8_isNumber 22 = .ok (.ireturn, 1) := by decide +kernel
theorem dX8_setReading_0 : decode cX8_setReading 0 = .ok (.aload_n 0, 1) := by decide +kernel
theorem dX8_setReading_1 : decode cX8_setReading 1 = .ok (.iconst 0, 1) := by decide +kernel
theorem dX8_setReading_2 : decode cX8_setReading 2 = .ok (.putfield 68, 3) := by decide +kernel
theorem dX8_setReading_5 : decode cX8_setReading 5 = .ok (.aload_n 0, 1) := by decide +kernel
theorem dX8_setReading_6 : decode cX8_setReading 6 = .ok (.iload_n 1, 1) := by decide +kernel
theorem dX8_setReading_7 : decode cX8_setReading 7 = .ok (.invokevirtual 285, 3) := by decide +kernel
theorem dX8_setReading_10 : decode cX8_setReading 10 = .ok (.ifCond .eq 18, 3) := by decide +kernel
theorem dX8_setReading_13 : decode cX8_setReading 13 = .ok (.iload_n 2, 1) := by decide +kernel
theorem dX8_setReading_14 : decode cX8_setReading 14 = .ok (.iconst 0, 1) := by decide +kernel
theorem dX8_setReading_15 : decode cX8_setReading 15 = .ok (.aload_n 0, 1) := by decide +kernel
theorem dX8_setReading_16 : decode cX8_setReading 16 = .ok (.iload_n 1, 1) := by decide +kernel
theorem dX8_setReading_17 : decode cX8_setReading 17 = .ok (.invokevirtual 254, 3) := by decide +kernel
theorem dX8_setReading_20 : decode cX8_setReading 20 = .ok (.iconst 1, 1) := by decide +kernel
theorem dX8_setReading_21 : decode cX8_setReading 21 = .ok (.isub, 1) := by decide +kernel
theorem dX8_setReading_22 : decode cX8_setReading 22 = .ok (.invokestatic 107, 3) := by decide +kernel
theorem dX8_setReading_25 : decode cX8_setReading 25 = .ok (.ifCond .ne 5, 3) := by decide +kernel
theorem dX8_setReading_28 : decode cX8_setReading 28 = .ok (.iconst (-1), 1) := by decide +kernel
theorem dX8_setReading_29 : decode cX8_setReading 29 = .ok (.ireturn, 1) := by decide +kernel
theorem dX8_setReading_30 : decode cX8_setReading 30 = .ok (.iload_n 3, 1) := by decide +kernel
theorem dX8_setReading_31 : decode cX8_setReading 31 = .ok (.iconst 0, 1) := by decide +kernel
theorem dX8_setReading_32 : decode cX8_setReading 32 = .ok (.iconst 3, 1) := by decide +kernel
theorem dX8_setReading_33 : decode cX8_setReading 33 = .ok (.invokestatic 107, 3) := by decide +kernel
theorem dX8_setReading_36 : decode cX8_setReading 36 = .ok (.ifCond .eq 12, 3) := by decide +kernel
theorem dX8_setReading_39 : decode cX8_setReading 39 = .ok (.iload_n 3, 1) := by decide +kernel
theorem dX8_setReading_40 : decode cX8_setReading 40 = .ok (.iload 4, 2) := by decide +kernel
theorem dX8_setReading_42 : decode cX8_setReading 42 = .ok (.invokestatic 432, 3) := by decide +kernel
theorem dX8_setReading_45 : decode cX8_setReading 45 = .ok (.ifCond .ne 6, 3) := by decide +kernel
theorem dX8_setReading_48 : decode cX8_setReading 48 = .ok (.bipush (-2), 2) := by decide +kernel
theorem dX8_setReading_50 : decode cX8_setReading 50 = .ok (.ireturn, 1) := by decide +kernel
theorem dX8_setReading_51 : decode cX8_setReading 51 = .ok (.aload_n 0, 1) := by decide +kernel
theorem dX8_setReading_52 : decode cX8_setReading 52 = .ok (.invokevirtual 426, 3) := by decide +kernel
theorem dX8_setReading_55 : decode cX8_setReading 55 = .ok (.aload_n 0, 1) := by decide +kernel
theorem dX8_setReading_56 : decode cX8_setReading 56 = .ok (.iload_n 1, 1) := by decide +kernel
theorem dX8_setReading_57 : decode cX8_setReading 57 = .ok (.iload_n 2, 1) := by decide +kernel
theorem dX8_setReading_58 : decode cX8_setReading 58 = .ok (.iload_n 3, 1) := by decide +kernel
theorem dX8_setReading_59 : decode cX8_setReading 59 = .ok (.invokevirtual 257, 3) := by decide +kernel
theorem dX8_setReading_62 : decode cX8_setReading 62 = .ok (.istore 5, 2) := by decide +kernel
theorem dX8_setReading_64 : decode cX8_setReading 64 = .ok (.aload_n 0, 1) := by decide +kernel
theorem dX8_setReading_65 : decode cX8_setReading 65 = .ok (.getfield 7, 3) := by decide +kernel
theorem dX8_setReading_68 : decode cX8_setReading 68 = .ok (.iload_n 1, 1) := by decide +kernel
theorem dX8_setReading_69 : decode cX8_setReading 69 = .ok (.iload_n 2, 1) := by decide +kernel
theorem dX8_setReading_70 : decode cX8_setReading 70 = .ok (.iload_n 3, 1) := by decide +kernel
theorem dX8_setReading_71 : decode cX8_setReading 71 = .ok (.invokestatic 171, 3) := by decide +kernel
theorem dX8_setReading_74 : decode cX8_setReading 74 = .ok (.iload 4, 2) := by decide +kernel
theorem dX8_setReading_76 : decode cX8_setReading 76 = .ok (.iastore, 1) := by decide +kernel
theorem dX8_setReading_77 : decode cX8_setReading 77 = .ok (.iload 5, 2) := by decide +kernel
theorem dX8_setReading_79 : decode cX8_setReading 79 = .ok (.ireturn, 1) := by decide +kernel
theorem dX8_addSetup_0 : decode cX8_addSetup 0 = .ok (.aload_n 0, 1) := by decide +kernel
theorem dX8_addSetup_1 : decode cX8_addSetup 1 = .ok (.iconst 0, 1) := by decide +kernel
theorem dX8_addSetup_2 : decode cX8_addSetup 2 = .ok (.putfield 68, 3) := by decide +kernel
theorem dX8_addSetup_5 : decode cX8_addSetup 5 = .ok (.aload_n 0, 1) := by decide +kernel
theorem dX8_addSetup_6 : decode cX8_addSetup 6 = .ok (.iload_n 1, 1) := by decide +kernel
theorem dX8_addSetup_7 : decode cX8_addSetup 7 = .ok (.invokevirtual 285, 3) := by decide +kernel
theorem dX8_addSetup_10 : decode cX8_addSetup 10 = .ok (.ifCond .ne 5, 3) := by decide +kernel
theorem dX8_addSetup_13 : decode cX8_addSetup 13 = .ok (.iconst (-1), 1) := by decide +kernel
theorem dX8_addSetup_14 : decode cX8_addSetup 14 = .ok (.ireturn, 1) := by decide +kernel
theorem dX8_addSetup_15 : decode cX8_addSetup 15 = .ok (.iconst 0, 1) := by decide +kernel
theorem dX8_addSetup_16 : decode cX8_addSetup 16 = .ok (.iload_n 2, 1) := by decide +kernel
theorem dX8_addSetup_17 : decode cX8_addSetup 17 = .ok (.invokestatic 432, 3) := by decide +kernel
theorem dX8_addSetup_20 : decode cX8_addSetup 20 = .ok (.ifCond .eq 29, 3) := by decide +kernel
theorem dX8_addSetup_23 : decode cX8_addSetup 23 = .ok (.iconst 1, 1) := by decide +kernel
theorem dX8_addSetup_24 : decode cX8_addSetup 24 = .ok (.iload_n 3, 1) := by decide +kernel
theorem dX8_addSetup_25 : decode cX8_addSetup 25 = .ok (.invokestatic 432, 3) := by decide +kernel
theorem dX8_addSetup_28 : decode cX8_addSetup 28 = .ok (.ifCond .eq 21, 3) := by decide +kernel
theorem dX8_addSetup_31 : decode cX8_addSetup 31 = .ok (.iconst 2, 1) := by decide +kernel
theorem dX8_addSetup_32 : decode cX8_addSetup 32 = .ok (.iload 4, 2) := by decide +kernel
theorem dX8_addSetup_34 : decode cX8_addSetup 34 = .ok (.invokestatic 432, 3) := by decide +kernel
theorem dX8_addSetup_37 : decode cX8_addSetup 37 = .ok (.ifCond .eq 12, 3) := by decide +kernel
theorem dX8_addSetup_40 : decode cX8_addSetup 40 = .ok (.iconst 3, 1) := by decide +kernel
theorem dX8_addSetup_41 : decode cX8_addSetup 41 = .ok (.iload 5, 2) := by decide +kernel
theorem dX8_addSetup_43 : decode cX8_addSetup 43 = .ok (.invokestatic 432, 3) := by decide +kernel
theorem dX8_addSetup_46 : decode cX8_addSetup 46 = .ok (.ifCond .ne 6, 3) := by decide +kernel
theorem dX8_addSetup_49 : decode cX8_addSetup 49 = .ok (.bipush (-2), 2) := by decide +kernel
theorem dX8_addSetup_51 : decode cX8_addSetup 51 = .ok (.ireturn, 1) := by decide +kernel
theorem dX8_addSetup_52 : decode cX8_addSetup 52 = .ok (.aload_n 0, 1) := by decide +kernel
theorem dX8_addSetup_53 : decode cX8_addSetup 53 = .ok (.iload_n 1, 1) := by decide +kernel
theorem dX8_addSetup_54 : decode cX8_addSetup 54 = .ok (.invokevirtual 254, 3) := by decide +kernel
theorem dX8_addSetup_57 : decode cX8_addSetup 57 = .ok (.istore 6, 2) := by decide +kernel
theorem dX8_addSetup_59 : decode cX8_addSetup 59 = .ok (.iload 6, 2) := by decide +kernel
theorem dX8_addSetup_61 : decode cX8_addSetup 61 = .ok (.bipush 8, 2) := by decide +kernel
theorem dX8_addSetup_63 : decode cX8_addSetup 63 = .ok (.if_icmp .ne 6, 3) := by decide +kernel
theorem dX8_addSetup_66 : decode cX8_addSetup 66 = .ok (.bipush (-3), 2) := by decide +kernel
theorem dX8_addSetup_68 : decode cX8_addSetup 68 = .ok (.ireturn, 1) := by decide +kernel
theorem dX8_addSetup_69 : decode cX8_addSetup 69 = .ok (.aload_n 0, 1) := by decide +kernel
theorem dX8_addSetup_70 : decode cX8_addSetup 70 = .ok (.invokevirtual 426, 3) := by decide +kernel
theorem dX8_addSetup_73 : decode cX8_addSetup 73 = .ok (.aload_n 0, 1) := by decide +kernel
theorem dX8_addSetup_74 : decode cX8_addSetup 74 = .ok (.getfield 7, 3) := by decide +kernel
theorem dX8_addSetup_77 : decode cX8_addSetup 77 = .ok (.iload_n 1, 1) := by decide +kernel
theorem dX8_addSetup_78 : decode cX8_addSetup 78 = .ok (.iload 6, 2) := by decide +kernel
theorem dX8_addSetup_80 : decode cX8_addSetup 80 = .ok (.iconst 0, 1) := by decide +kernel
theorem dX8_addSetup_81 : decode cX8_addSetup 81 = .ok (.invokestatic 171, 3) := by decide +kernel
theorem dX8_addSetup_84 : decode cX8_addSetup 84 = .ok (.iload_n 2, 1) := by decide +kernel
theorem dX8_addSetup_85 : decode cX8_addSetup 85 = .ok (.iastore, 1) := by decide +kernel
theorem dX8_addSetup_86 : decode cX8_addSetup 86 = .ok (.aload_n 0, 1) := by decide +kernel
theorem dX8_addSetup_87 : decode cX8_addSetup 87 = .ok (.getfield 7, 3) := by decide +kernel
theorem dX8_addSetup_90 : decode cX8_addSetup 90 = .ok (.iload_n 1, 1) := by decide +kernel
theorem dX8_addSetup_91 : decode cX8_addSetup 91 = .ok (.iload 6, 2) := by decide +kernel
theorem dX8_addSetup_93 : decode cX8_addSetup 93 = .ok (.iconst 1, 1) := by decide +kernel
theorem dX8_addSetup_94 : decode cX8_addSetup 94 = .ok (.invokestatic 171, 3) := by decide +kernel
theorem dX8_addSetup_97 : decode cX8_addSetup 97 = .ok (.iload_n 3, 1) := by decide +kernel
theorem dX8_addSetup_98 : decode cX8_addSetup 98 = .ok (.iastore, 1) := by decide +kernel
theorem dX8_addSetup_99 : decode cX8_addSetup 99 = .ok (.aload_n 0, 1) := by decide +kernel
theorem dX8_addSetup_100 : decode cX8_addSetup 100 = .ok (.getfield 7, 3) := by decide +kernel
theorem dX8_addSetup_103 : decode cX8_addSetup 103 = .ok (.iload_n 1, 1) := by decide +kernel
theorem dX8_addSetup_104 : decode cX8_addSetup 104 = .ok (.iload 6, 2) := by decide +kernel
theorem dX8_addSetup_106 : decode cX8_addSetup 106 = .ok (.iconst 2, 1) := by decide +kernel
theorem dX8_addSetup_107 : decode cX8_addSetup 107 = .ok (.invokestatic 171, 3) := by decide +kernel
theorem dX8_addSetup_110 : decode cX8_addSetup 110 = .ok (.iload 4, 2) := by decide +kernel
theorem dX8_addSetup_112 : decode cX8_addSetup 112 = .ok (.iastore, 1) := by decide +kernel
theorem dX8_addSetup_113 : decode cX8_addSetup 113 = .ok (.aload_n 0, 1) := by decide +kernel
theorem dX8_addSetup_114 : decode cX8_addSetup 114 = .ok (.getfield 7, 3) := by decide +kernel
theorem dX8_addSetup_117 : decode cX8_addSetup 117 = .ok (.iload_n 1, 1) := by decide +kernel
theorem dX8_addSetup_118 : decode cX8_addSetup 118 = .ok (.iload 6, 2) := by decide +kernel
theorem dX8_addSetup_120 : decode cX8_addSetup 120 = .ok (.iconst 3, 1) := by decide +kernel
theorem dX8_addSetup_121 : decode cX8_addSetup 121 = .ok (.invokestatic 171, 3) := by decide +kernel
theorem dX8_addSetup_124 : decode cX8_addSetup 124 = .ok (.iload 5, 2) := by decide +kernel
theorem dX8_addSetup_126 : decode cX8_addSetup 126 = .ok (.iastore, 1) := by decide +kernel
theorem dX8_addSetup_127 : decode cX8_addSetup 127 = .ok (.aload_n 0, 1) := by decide +kernel
theorem dX8_addSetup_128 : decode cX8_addSetup 128 = .ok (.getfield 7, 3) := by decide +kernel
theorem dX8_addSetup_131 : decode cX8_addSetup 131 = .ok (.bipush 42, 2) := by decide +kernel
theorem dX8_addSetup_133 : decode cX8_addSetup 133 = .ok (.iload_n 1, 1) := by decide +kernel
theorem dX8_addSetup_134 : decode cX8_addSetup 134 = .ok (.iadd, 1) := by decide +kernel
theorem dX8_addSetup_135 : decode cX8_addSetup 135 = .ok (.dup2, 1) := by decide +kernel
theorem dX8_addSetup_136 : decode cX8_addSetup 136 = .ok (.iaload, 1) := by decide +kernel
theorem dX8_addSetup_137 : decode cX8_addSetup 137 = .ok (.iconst 1, 1) := by decide +kernel
theorem dX8_addSetup_138 : decode cX8_addSetup 138 = .ok (.iadd, 1) := by decide +kernel
theorem dX8_addSetup_139 : decode cX8_addSetup 139 = .ok (.iastore, 1) := by decide +kernel
theorem dX8_addSetup_140 : decode cX8_addSetup 140 = .ok (.iload 6, 2) := by decide +kernel
theorem dX8_addSetup_142 : decode cX8_addSetup 142 = .ok (.iconst 1, 1) := by decide +kernel
theorem dX8_addSetup_143 : decode cX8_addSetup 143 = .ok (.iadd, 1) := by decide +kernel
theorem dX8_addSetup_144 : decode cX8_addSetup 144 = .ok (.ireturn, 1) := by decide +kernel
theorem dX8_setActive_0 : decode cX8_setActive 0 = .ok (.aload_n 0, 1) := by decide +kernel
theorem dX8_setActive_1 : decode cX8_setActive 1 = .ok (.iconst 0, 1) := by decide +kernel
theorem dX8_setActive_2 : decode cX8_setActive 2 = .ok (.putfield 68, 3) := by decide +kernel
theorem dX8_setActive_5 : decode cX8_setActive 5 = .ok (.aload_n 0, 1) := by decide +kernel
theorem dX8_setActive_6 : decode cX8_setActive 6 = .ok (.iload_n 1, 1) := by decide +kernel
theorem dX8_setActive_7 : decode cX8_setActive 7 = .ok (.invokevirtual 285, 3) := by decide +kernel
theorem dX8_setActive_10 : decode cX8_setActive 10 = .ok (.ifCond .ne 5, 3) := by decide +kernel
theorem dX8_setActive_13 : decode cX8_setActive 13 = .ok (.iconst (-1), 1) := by decide +kernel
theorem dX8_setActive_14 : decode cX8_setActive 14 = .ok (.ireturn, 1) := by decide +kernel
theorem dX8_setActive_15 : decode cX8_setActive 15 = .ok (.aload_n 0, 1) := by decide +kernel
theorem dX8_setActive_16 : decode cX8_setActive 16 = .ok (.invokevirtual 426, 3) := by decide +kernel
theorem dX8_setActive_19 : decode cX8_setActive 19 = .ok (.aload_n 0, 1) := by decide +kernel
theorem dX8_setActive_20 : decode cX8_setActive 20 = .ok (.getfield 7, 3) := by decide +kernel
theorem dX8_setActive_23 : decode cX8_setActive 23 = .ok (.bipush 22, 2) := by decide +kernel
theorem dX8_setActive_25 : decode cX8_setActive 25 = .ok (.iload_n 1, 1) := by decide +kernel
theorem dX8_setActive_26 : decode cX8_setActive 26 = .ok (.iadd, 1) := by decide +kernel
theorem dX8_setActive_27 : decode cX8_setActive 27 = .ok (.iload_n 2, 1) := by decide +kernel
theorem dX8_setActive_28 : decode cX8_setActive 28 = .ok (.ifCond .eq 7, 3) := by decide +kernel
theorem dX8_setActive_31 : decode cX8_setActive 31 = .ok (.iconst 1, 1) := by decide +kernel
theorem dX8_setActive_32 : decode cX8_setActive 32 = .ok (.goto 4, 3) := by decide +kernel
theorem dX8_setActive_35 : decode cX8_setActive 35 = .ok (.iconst 0, 1) := by decide +kernel
theorem dX8_setActive_36 : decode cX8_setActive 36 = .ok (.iastore, 1) := by decide +kernel
theorem dX8_setActive_37 : decode cX8_setActive 37 = .ok (.aload_n 0, 1) := by decide +kernel
theorem dX8_setActive_38 : decode cX8_setActive 38 = .ok (.invokevirtual 373, 3) := by decide +kernel
theorem dX8_setActive_41 : decode cX8_setActive 41 = .ok (.ireturn, 1) := by decide +kernel
theorem dX8_collimates_0 : decode cX8_collimates 0 = .ok (.aload_n 0, 1) := by decide +kernel
theorem dX8_collimates_1 : decode cX8_collimates 1 = .ok (.invokevirtual 426, 3) := by decide +kernel
theorem dX8_collimates_4 : decode cX8_collimates 4 = .ok (.aload_n 0, 1) := by decide +kernel
theorem dX8_collimates_5 : decode cX8_collimates 5 = .ok (.getfield 7, 3) := by decide +kernel
theorem dX8_collimates_8 : decode cX8_collimates 8 = .ok (.iconst 3, 1) := by decide +kernel
theorem dX8_collimates_9 : decode cX8_collimates 9 = .ok (.iload_n 1, 1) := by decide +kernel
theorem dX8_collimates_10 : decode cX8_collimates 10 = .ok (.iadd, 1) := by decide +kernel
theorem dX8_collimates_11 : decode cX8_collimates 11 = .ok (.iaload, 1) := by decide +kernel
theorem dX8_collimates_12 : decode cX8_collimates 12 = .ok (.istore_n 3, 1) := by decide +kernel
theorem dX8_collimates_13 : decode cX8_collimates 13 = .ok (.aload_n 0, 1) := by decide +kernel
theorem dX8_collimates_14 : decode cX8_collimates 14 = .ok (.getfield 7, 3) := by decide +kernel
theorem dX8_collimates_17 : decode cX8_collimates 17 = .ok (.iconst 3, 1) := by decide +kernel
theorem dX8_collimates_18 : decode cX8_collimates 18 = .ok (.iload_n 1, 1) := by decide +kernel
theorem dX8_collimates_19 : decode cX8_collimates 19 = .ok (.iadd, 1) := by decide +kernel
theorem dX8_collimates_20 : decode cX8_collimates 20 = .ok (.iload_n 2, 1) := by decide +kernel
theorem dX8_collimates_21 : decode cX8_collimates 21 = .ok (.iastore, 1) := by decide +kernel
theorem dX8_collimates_22 : decode cX8_collimates 22 = .ok (.iload_n 3, 1) := by decide +kernel
theorem dX8_collimates_23 : decode cX8_collimates 23 = .ok (.ireturn, 1) := by decide +kernel
theorem dX8_setCollimation_0 : decode cX8_setCollimation 0 = .ok (.aload_n 0, 1) := by decide +kernel
theorem dX8_setCollimation_1 : decode cX8_setCollimation 1 = .ok (.iconst 0, 1) := by decide +kernel
theorem dX8_setCollimation_2 : decode cX8_setCollimation 2 = .ok (.putfield 68, 3) := by decide +kernel
theorem dX8_setCollimation_5 : decode cX8_setCollimation 5 = .ok (.aload_n 0, 1) := by decide +kernel
theorem dX8_setCollimation_6 : decode cX8_setCollimation 6 = .ok (.iload_n 1, 1) := by decide +kernel
theorem dX8_setCollimation_7 : decode cX8_setCollimation 7 = .ok (.invokevirtual 230, 3) := by decide +kernel
theorem dX8_setCollimation_10 : decode cX8_setCollimation 10 = .ok (.ifCond .eq 25, 3) := by decide +kernel
theorem dX8_setCollimation_13 : decode cX8_setCollimation 13 = .ok (.iload_n 2, 1) := by decide +kernel
theorem dX8_setCollimation_14 : decode cX8_setCollimation 14 = .ok (.sipush (-200), 3) := by decide +kernel
theorem dX8_setCollimation_17 : decode cX8_setCollimation 17 = .ok (.sipush 200, 3) := by decide +kernel
theorem dX8_setCollimation_20 : decode cX8_setCollimation 20 = .ok (.invokestatic 107, 3) := by decide +kernel
theorem dX8_setCollimation_23 : decode cX8_setCollimation 23 = .ok (.ifCond .eq 12, 3) := by decide +kernel
theorem dX8_setCollimation_26 : decode cX8_setCollimation 26 = .ok (.aload_n 0, 1) := by decide +kernel
theorem dX8_setCollimation_27 : decode cX8_setCollimation 27 = .ok (.iload_n 1, 1) := by decide +kernel
theorem dX8_setCollimation_28 : decode cX8_setCollimation 28 = .ok (.iload_n 2, 1) := by decide +kernel
theorem dX8_setCollimation_29 : decode cX8_setCollimation 29 = .ok (.invokevirtual 435, 3) := by decide +kernel
theorem dX8_setCollimation_32 : decode cX8_setCollimation 32 = .ok (.goto 5, 3) := by decide +kernel
theorem dX8_setCollimation_35 : decode cX8_setCollimation 35 = .ok (.ldc 241, 2) := by decide +kernel
theorem dX8_setCollimation_37 : decode cX8_setCollimation 37 = .ok (.ireturn, 1) := by decide +kernel
theorem dX8_applyTest_0 : decode cX8_applyTest 0 = .ok (.aload_n 0, 1) := by decide +kernel
theorem dX8_applyTest_1 : decode cX8_applyTest 1 = .ok (.iconst 0, 1) := by decide +kernel
theorem dX8_applyTest_2 : decode cX8_applyTest 2 = .ok (.putfield 68, 3) := by decide +kernel
theorem dX8_applyTest_5 : decode cX8_applyTest 5 = .ok (.aload_n 0, 1) := by decide +kernel
theorem dX8_applyTest_6 : decode cX8_applyTest 6 = .ok (.iload_n 1, 1) := by decide +kernel
theorem dX8_applyTest_7 : decode cX8_applyTest 7 = .ok (.invokevirtual 245, 3) := by decide +kernel
theorem dX8_applyTest_10 : decode cX8_applyTest 10 = .ok (.ifCond .eq 37, 3) := by decide +kernel
theorem dX8_applyTest_13 : decode cX8_applyTest 13 = .ok (.aload_n 0, 1) := by decide +kernel
theorem dX8_applyTest_14 : decode cX8_applyTest 14 = .ok (.iload_n 1, 1) := by decide +kernel
theorem dX8_applyTest_15 : decode cX8_applyTest 15 = .ok (.invokevirtual 248, 3) := by decide +kernel
theorem dX8_applyTest_18 : decode cX8_applyTest 18 = .ok (.ldc 241, 2) := by decide +kernel
theorem dX8_applyTest_20 : decode cX8_applyTest 20 = .ok (.if_icmp .eq 27, 3) := by decide +kernel
theorem dX8_applyTest_23 : decode cX8_applyTest 23 = .ok (.aload_n 0, 1) := by decide +kernel
theorem dX8_applyTest_24 : decode cX8_applyTest 24 = .ok (.aload_n 0, 1) := by decide +kernel
theorem dX8_applyTest_25 : decode cX8_applyTest 25 = .ok (.getfield 26, 3) := by decide +kernel
theorem dX8_applyTest_28 : decode cX8_applyTest 28 = .ok (.bipush 64, 2) := by decide +kernel
theorem dX8_applyTest_30 : decode cX8_applyTest 30 = .ok (.bipush 9, 2) := by decide +kernel
theorem dX8_applyTest_32 : decode cX8_applyTest 32 = .ok (.iload_n 1, 1) := by decide +kernel
theorem dX8_applyTest_33 : decode cX8_applyTest 33 = .ok (.imul, 1) := by decide +kernel
theorem dX8_applyTest_34 : decode cX8_applyTest 34 = .ok (.iadd, 1) := by decide +kernel
theorem dX8_applyTest_35 : decode cX8_applyTest 35 = .ok (.iaload, 1) := by decide +kernel
theorem dX8_applyTest_36 : decode cX8_applyTest 36 = .ok (.aload_n 0, 1) := by decide +kernel
theorem dX8_applyTest_37 : decode cX8_applyTest 37 = .ok (.iload_n 1, 1) := by decide +kernel
theorem dX8_applyTest_38 : decode cX8_applyTest 38 = .ok (.invokevirtual 248, 3) := by decide +kernel
theorem dX8_applyTest_41 : decode cX8_applyTest 41 = .ok (.invokevirtual 435, 3) := by decide +kernel
theorem dX8_applyTest_44 : decode cX8_applyTest 44 = .ok (.goto 5, 3) := by decide +kernel
theorem dX8_applyTest_47 : decode cX8_applyTest 47 = .ok (.ldc 241, 2) := by decide +kernel
theorem dX8_applyTest_49 : decode cX8_applyTest 49 = .ok (.ireturn, 1) := by decide +kernel
theorem dX8_setSetting_0 : decode cX8_setSetting 0 = .ok (.aload_n 0, 1) := by decide +kernel
theorem dX8_setSetting_1 : decode cX8_setSetting 1 = .ok (.iconst 0, 1) := by decide +kernel
theorem dX8_setSetting_2 : decode cX8_setSetting 2 = .ok (.putfield 68, 3) := by decide +kernel
theorem dX8_setSetting_5 : decode cX8_setSetting 5 = .ok (.iload_n 1, 1) := by decide +kernel
theorem dX8_setSetting_6 : decode cX8_setSetting 6 = .ok (.iconst 0, 1) := by decide +kernel
theorem dX8_setSetting_7 : decode cX8_setSetting 7 = .ok (.iconst 2, 1) := by decide +kernel
theorem dX8_setSetting_8 : decode cX8_setSetting 8 = .ok (.invokestatic 107, 3) := by decide +kernel
theorem dX8_setSetting_11 : decode cX8_setSetting 11 = .ok (.ifCond .eq 18, 3) := by decide +kernel
theorem dX8_setSetting_14 : decode cX8_setSetting 14 = .ok (.iload_n 2, 1) := by decide +kernel
theorem dX8_setSetting_15 : decode cX8_setSetting 15 = .ok (.iload_n 1, 1) := by decide +kernel
theorem dX8_setSetting_16 : decode cX8_setSetting 16 = .ok (.invokestatic 200, 3) := by decide +kernel
theorem dX8_setSetting_19 : decode cX8_setSetting 19 = .ok (.iload_n 1, 1) := by decide +kernel
theorem dX8_setSetting_20 : decode cX8_setSetting 20 = .ok (.invokestatic 203, 3) := by decide +kernel
theorem dX8_setSetting_23 : decode cX8_setSetting 23 = .ok (.invokestatic 107, 3) := by decide +kernel
theorem dX8_setSetting_26 : decode cX8_setSetting 26 = .ok (.ifCond .ne 6, 3) := by decide +kernel
theorem dX8_setSetting_29 : decode cX8_setSetting 29 = .ok (.bipush (-2), 2) := by decide +kernel
theorem dX8_setSetting_31 : decode cX8_setSetting 31 = .ok (.ireturn, 1) := by decide +kernel
theorem dX8_setSetting_32 : decode cX8_setSetting 32 = .ok (.aload_n 0, 1) := by decide +kernel
theorem dX8_setSetting_33 : decode cX8_setSetting 33 = .ok (.invokevirtual 426, 3) := by decide +kernel
theorem dX8_setSetting_36 : decode cX8_setSetting 36 = .ok (.aload_n 0, 1) := by decide +kernel
theorem dX8_setSetting_37 : decode cX8_setSetting 37 = .ok (.getfield 7, 3) := by decide +kernel
theorem dX8_setSetting_40 : decode cX8_setSetting 40 = .ok (.iload_n 1, 1) := by decide +kernel
theorem dX8_setSetting_41 : decode cX8_setSetting 41 = .ok (.iaload, 1) := by decide +kernel
theorem dX8_setSetting_42 : decode cX8_setSetting 42 = .ok (.istore_n 3, 1) := by decide +kernel
theorem dX8_setSetting_43 : decode cX8_setSetting 43 = .ok (.aload_n 0, 1) := by decide +kernel
theorem dX8_setSetting_44 : decode cX8_setSetting 44 = .ok (.getfield 7, 3) := by decide +kernel
theorem dX8_setSetting_47 : decode cX8_setSetting 47 = .ok (.iload_n 1, 1) := by decide +kernel
theorem dX8_setSetting_48 : decode cX8_setSetting 48 = .ok (.iload_n 2, 1) := by decide +kernel
theorem dX8_setSetting_49 : decode cX8_setSetting 49 = .ok (.iastore, 1) := by decide +kernel
theorem dX8_setSetting_50 : decode cX8_setSetting 50 = .ok (.iload_n 3, 1) := by decide +kernel
theorem dX8_setSetting_51 : decode cX8_setSetting 51 = .ok (.ireturn, 1) := by decide +kernel
def j_X8_pair_68 (x1 : Int32) (x2 : Int32) (y0 : Int32) (μ : gM) : Option ((Int32) ⊕ ((Unit) ⊕ (Int32))) :=
  if (x2 = x1) then some (.inl (x2 + (1 : Int32))) else if (y0 = 0) then some (.inl (x2 + (1 : Int32))) else some (.inr (.inr x2))
set_option maxHeartbeats 4000000 in
set_option maxRecDepth 100000 in
theorem wj_X8_pair_68 {p : Program} {l : Launch} {e : Env} {s : State} {m : MethodId} {args : Array Value} {below : List Frame} {meth : Method} {c : Code} {D : va_G} {cy : Nat → ClassId} {ad : Nat → Nat} {base : Nat} {x1 : Int32} {x2 : Int32} {y0 : Int32} {μ : gM} {o : (Int32) ⊕ ((Unit) ⊕ (Int32))} {RES : Int32} (h : j_X8_pair_68 x1 x2 y0 μ = some o) (F : gF p s m meth c cX8_pair RX8 4 (some .int)) (E : gEnv l D cy ad base s) (kc : ∀ (t : Int32) {H : Heap} {locs : List Loc} {ls : Array Slot}, o = .inl t → gW gFull D cy ad base μ H → va_S (gA base) s.heap H locs → lv_has ls 4 [(0, .ref (ad 60)), (1, .int x1), (2, .int t)] → W p l e ({ frames := 1, cells := 0, slots := 0, locals := 21 } : Room) s m args below meth c H locs 0 0 (MQ below (gQ (some (.int RES)) gFull D cy ad base μ) args s 0 0 (gA base)) (F0 m 2 ls [])) (kx : ∀ (t : Unit) {H : Heap} {locs : List Loc} {ls : Array Slot}, o = .inr (.inl t) → gW gFull D cy ad base μ H → va_S (gA base) s.heap H locs → lv_has ls 4 [] → W p l e ({ frames := 1, cells := 0, slots := 0, locals := 21 } : Room) s m args below meth c H locs 0 0 (MQ below (gQ (some (.int RES)) gFull D cy ad base μ) args s 0 0 (gA base)) (F0 m 86 ls [])) (kr : ∀ x : Int32, o = .inr (.inr x) → x = RES) {H : Heap} {locs : List Loc} {ls : Array Slot} (hM : gW gFull D cy ad base μ H) (hS : va_S (gA base) s.heap H locs) (hl : lv_has ls 4 [(0, .ref (ad 60)), (1, .int x1), (2, .int x2)]) : W p l e ({ frames := 1, cells := 0, slots := 0, locals := 21 } : Room) s m args below meth c H locs 0 0 (MQ below (gQ (some (.int RES)) gFull D cy ad base μ) args s 0 0 (gA base)) (F0 m 68 ls [.int y0]) := by
  obtain ⟨hx, hb, hml, hown, hlocks, hr⟩ := id F
  unfold j_X8_pair_68 at h
  refine lv_istore_n (lv' := [(3, .int y0), (0, .ref (ad 60)), (1, .int x1), (2, .int x2)]) hx hb dX8_pair_68 rfl hl (by decide) rfl (fun ls hl => ?_)
  refine lv_iload_n hx hb dX8_pair_69 rfl (lv_at hl 3 rfl) ?_
  refine lv_iload_n hx hb dX8_pair_70 rfl (lv_at hl 2 rfl) ?_
  refine lv_icmp_eq (tgt := 80) hx hb dX8_pair_71 (by decide) (fun c9 => ?_) (fun c9 => ?_)
  · replace h := gif_t c9 h
    refine lv_iinc (v := (x2 + (1 : Int32))) (lv' := [(2, .int (x2 + (1 : Int32))), (3, .int y0), (0, .ref (ad 60)), (1, .int x1)]) hx hb dX8_pair_80 hl (k := 3) rfl rfl (by decide) rfl (fun ls hl => ?_)
    refine lv_goto (tgt := 2) hx hb dX8_pair_83 (by decide) ?_
    exact kc _ (Option.some.inj h).symm hM hS (lv_sub hl [2, 3, 0] rfl)
  · replace h := gif_f c9 h
    refine lv_iload_n hx hb dX8_pair_74 rfl (lv_at hl 0 rfl) ?_
    refine lv_if_eq (tgt := 80) hx hb dX8_pair_75 (by decide) (fun c10 => ?_) (fun c10 => ?_)
    · replace h := gif_t c10 h
      refine lv_iinc (v := (x2 + (1 : Int32))) (lv' := [(2, .int (x2 + (1 : Int32))), (3, .int y0), (0, .ref (ad 60)), (1, .int x1)]) hx hb dX8_pair_80 hl (k := 3) rfl rfl (by decide) rfl (fun ls hl => ?_)
      refine lv_goto (tgt := 2) hx hb dX8_pair_83 (by decide) ?_
      exact kc _ (Option.some.inj h).symm hM hS (lv_sub hl [2, 3, 0] rfl)
    · replace h := gif_f c10 h
      refine lv_iload_n hx hb dX8_pair_78 rfl (lv_at hl 3 rfl) ?_
      obtain rfl := kr _ (Option.some.inj h).symm
      exact g_iret hx hb hr hlocks hM hS dX8_pair_79
def j_X8_pair_67 (x1 : Int32) (x2 : Int32) (μ : gM) : Option ((Int32) ⊕ ((Unit) ⊕ (Int32))) :=
  j_X8_pair_68 x1 x2 (0 : Int32) μ
set_option maxHeartbeats 4000000 in
set_option maxRecDepth 100000 in
theorem wj_X8_pair_67 {p : Program} {l : Launch} {e : Env} {s : State} {m : MethodId} {args : Array Value} {below : List Frame} {meth : Method} {c : Code} {D : va_G} {cy : Nat → ClassId} {ad : Nat → Nat} {base : Nat} {x1 : Int32} {x2 : Int32} {μ : gM} {o : (Int32) ⊕ ((Unit) ⊕ (Int32))} {RES : Int32} (h : j_X8_pair_67 x1 x2 μ = some o) (F : gF p s m meth c cX8_pair RX8 4 (some .int)) (E : gEnv l D cy ad base s) (kc : ∀ (t : Int32) {H : Heap} {locs : List Loc} {ls : Array Slot}, o = .inl t → gW gFull D cy ad base μ H → va_S (gA base) s.heap H locs → lv_has ls 4 [(0, .ref (ad 60)), (1, .int x1), (2, .int t)] → W p l e ({ frames := 1, cells := 0, slots := 0, locals := 21 } : Room) s m args below meth c H locs 0 0 (MQ below (gQ (some (.int RES)) gFull D cy ad base μ) args s 0 0 (gA base)) (F0 m 2 ls [])) (kx : ∀ (t : Unit) {H : Heap} {locs : List Loc} {ls : Array Slot}, o = .inr (.inl t) → gW gFull D cy ad base μ H → va_S (gA base) s.heap H locs → lv_has ls 4 [] → W p l e ({ frames := 1, cells := 0, slots := 0, locals := 21 } : Room) s m args below meth c H locs 0 0 (MQ below (gQ (some (.int RES)) gFull D cy ad base μ) args s 0 0 (gA base)) (F0 m 86 ls [])) (kr : ∀ x : Int32, o = .inr (.inr x) → x = RES) {H : Heap} {locs : List Loc} {ls : Array Slot} (hM : gW gFull D cy ad base μ H) (hS : va_S (gA base) s.heap H locs) (hl : lv_has ls 4 [(0, .ref (ad 60)), (1, .int x1), (2, .int x2)]) : W p l e ({ frames := 1, cells := 0, slots := 0, locals := 21 } : Room) s m args below meth c H locs 0 0 (MQ below (gQ (some (.int RES)) gFull D cy ad base μ) args s 0 0 (gA base)) (F0 m 67 ls []) := by
  obtain ⟨hx, hb, hml, hown, hlocks, hr⟩ := id F
  unfold j_X8_pair_67 at h
  refine lv_iconst (v := (0 : Int32)) hx hb dX8_pair_67 (by decide) ?_
  exact wj_X8_pair_68 h F E kc kx kr hM hS hl
def j_X8_pair_63 (x1 : Int32) (x2 : Int32) (μ : gM) : Option ((Int32) ⊕ ((Unit) ⊕ (Int32))) :=
  j_X8_pair_68 x1 x2 (1 : Int32) μ
set_option maxHeartbeats 4000000 in
set_option maxRecDepth 100000 in
theorem wj_X8_pair_63 {p : Program} {l : Launch} {e : Env} {s : State} {m : MethodId} {args : Array Value} {below : List Frame} {meth : Method} {c : Code} {D : va_G} {cy : Nat → ClassId} {ad : Nat → Nat} {base : Nat} {x1 : Int32} {x2 : Int32} {μ : gM} {o : (Int32) ⊕ ((Unit) ⊕ (Int32))} {RES : Int32} (h : j_X8_pair_63 x1 x2 μ = some o) (F : gF p s m meth c cX8_pair RX8 4 (some .int)) (E : gEnv l D cy ad base s) (kc : ∀ (t : Int32) {H : Heap} {locs : List Loc} {ls : Array Slot}, o = .inl t → gW gFull D cy ad base μ H → va_S (gA base) s.heap H locs → lv_has ls 4 [(0, .ref (ad 60)), (1, .int x1), (2, .int t)] → W p l e ({ frames := 1, cells := 0, slots := 0, locals := 21 } : Room) s m args below meth c H locs 0 0 (MQ below (gQ (some (.int RES)) gFull D cy ad base μ) args s 0 0 (gA base)) (F0 m 2 ls [])) (kx : ∀ (t : Unit) {H : Heap} {locs : List Loc} {ls : Array Slot}, o = .inr (.inl t) → gW gFull D cy ad base μ H → va_S (gA base) s.heap H locs → lv_has ls 4 [] → W p l e ({ frames := 1, cells := 0, slots := 0, locals := 21 } : Room) s m args below meth c H locs 0 0 (MQ below (gQ (some (.int RES)) gFull D cy ad base μ) args s 0 0 (gA base)) (F0 m 86 ls [])) (kr : ∀ x : Int32, o = .inr (.inr x) → x = RES) {H : Heap} {locs : List Loc} {ls : Array Slot} (hM : gW gFull D cy ad base μ H) (hS : va_S (gA base) s.heap H locs) (hl : lv_has ls 4 [(0, .ref (ad 60)), (1, .int x1), (2, .int x2)]) : W p l e ({ frames := 1, cells := 0, slots := 0, locals := 21 } : Room) s m args below meth c H locs 0 0 (MQ below (gQ (some (.int RES)) gFull D cy ad base μ) args s 0 0 (gA base)) (F0 m 63 ls []) := by
  obtain ⟨hx, hb, hml, hown, hlocks, hr⟩ := id F
  unfold j_X8_pair_63 at h
  refine lv_iconst (v := (1 : Int32)) hx hb dX8_pair_63 (by decide) ?_
  refine lv_goto (tgt := 68) hx hb dX8_pair_64 (by decide) ?_
  exact wj_X8_pair_68 h F E kc kx kr hM hS hl
def j_X8_pair_37 (x1 : Int32) (x2 : Int32) (μ : gM) : Option ((Int32) ⊕ ((Unit) ⊕ (Int32))) :=
  Option.bind (f_X8_first x2 μ) (fun q6 => Option.bind (f_X8_second x1 μ) (fun q7 => if (q6 = q7) then Option.bind (f_X8_second x2 μ) (fun q11 => Option.bind (f_X8_first x1 μ) (fun q12 => if (q11 = q12) then j_X8_pair_63 x1 x2 μ else j_X8_pair_67 x1 x2 μ)) else j_X8_pair_67 x1 x2 μ))
set_option maxHeartbeats 4000000 in
set_option maxRecDepth 100000 in
theorem wj_X8_pair_37 {p : Program} {l : Launch} {e : Env} {s : State} {m : MethodId} {args : Array Value} {below : List Frame} {meth : Method} {c : Code} {D : va_G} {cy : Nat → ClassId} {ad : Nat → Nat} {base : Nat} {x1 : Int32} {x2 : Int32} {μ : gM} {o : (Int32) ⊕ ((Unit) ⊕ (Int32))} {RES : Int32} (h : j_X8_pair_37 x1 x2 μ = some o) (F : gF p s m meth c cX8_pair RX8 4 (some .int)) (E : gEnv l D cy ad base s) (kc : ∀ (t : Int32) {H : Heap} {locs : List Loc} {ls : Array Slot}, o = .inl t → gW gFull D cy ad base μ H → va_S (gA base) s.heap H locs → lv_has ls 4 [(0, .ref (ad 60)), (1, .int x1), (2, .int t)] → W p l e ({ frames := 1, cells := 0, slots := 0, locals := 21 } : Room) s m args below meth c H locs 0 0 (MQ below (gQ (some (.int RES)) gFull D cy ad base μ) args s 0 0 (gA base)) (F0 m 2 ls [])) (kx : ∀ (t : Unit) {H : Heap} {locs : List Loc} {ls : Array Slot}, o = .inr (.inl t) → gW gFull D cy ad base μ H → va_S (gA base) s.heap H locs → lv_has ls 4 [] → W p l e ({ frames := 1, cells := 0, slots := 0, locals := 21 } : Room) s m args below meth c H locs 0 0 (MQ below (gQ (some (.int RES)) gFull D cy ad base μ) args s 0 0 (gA base)) (F0 m 86 ls [])) (kr : ∀ x : Int32, o = .inr (.inr x) → x = RES) {H : Heap} {locs : List Loc} {ls : Array Slot} (hM : gW gFull D cy ad base μ H) (hS : va_S (gA base) s.heap H locs) (hl : lv_has ls 4 [(0, .ref (ad 60)), (1, .int x1), (2, .int x2)]) : W p l e ({ frames := 1, cells := 0, slots := 0, locals := 21 } : Room) s m args below meth c H locs 0 0 (MQ below (gQ (some (.int RES)) gFull D cy ad base μ) args s 0 0 (gA base)) (F0 m 37 ls []) := by
  obtain ⟨hx, hb, hml, hown, hlocks, hr⟩ := id F
  unfold j_X8_pair_37 at h
  refine lv_aload_n hx hb dX8_pair_37 rfl (lv_at hl 0 rfl) ?_
  refine lv_iload_n hx hb dX8_pair_38 rfl (lv_at hl 2 rfl) ?_
  obtain ⟨q6, hq6, h⟩ := gbind_e h
  refine g_callV (As := [.int x2]) (rest := []) hx hb (hml.trans hl.1.symm) hown E hM hS hy_X8_first kw_1575 (c_X8_first hq6) hk_60 dd_60 rfl rfl rfl (Nat.le_of_ble_eq_true rfl) ⟨Nat.le_of_ble_eq_true rfl, Nat.le_of_ble_eq_true rfl⟩ ⟨Nat.le_of_ble_eq_true rfl, Nat.le_of_ble_eq_true rfl⟩ dX8_pair_39 (fun H locs hM hS => ?_)
  refine lv_aload_n hx hb dX8_pair_42 rfl (lv_at hl 0 rfl) ?_
  refine lv_iload_n hx hb dX8_pair_43 rfl (lv_at hl 1 rfl) ?_
  obtain ⟨q7, hq7, h⟩ := gbind_e h
  refine g_callV (As := [.int x1]) (rest := [.int q6]) hx hb (hml.trans hl.1.symm) hown E hM hS hy_X8_second kw_1579 (c_X8_second hq7) hk_60 dd_60 rfl rfl rfl (Nat.le_of_ble_eq_true rfl) ⟨Nat.le_of_ble_eq_true rfl, Nat.le_of_ble_eq_true rfl⟩ ⟨Nat.le_of_ble_eq_true rfl, Nat.le_of_ble_eq_true rfl⟩ dX8_pair_44 (fun H locs hM hS => ?_)
  refine lv_icmp_ne (tgt := 67) hx hb dX8_pair_47 (by decide) (fun c8 => ?_) (fun c8 => ?_)
  · replace h := gif_f c8 h
    exact wj_X8_pair_67 h F E kc kx kr hM hS hl
  · replace h := gif_t c8 h
    refine lv_aload_n hx hb dX8_pair_50 rfl (lv_at hl 0 rfl) ?_
    refine lv_iload_n hx hb dX8_pair_51 rfl (lv_at hl 2 rfl) ?_
    obtain ⟨q11, hq11, h⟩ := gbind_e h
    refine g_callV (As := [.int x2]) (rest := []) hx hb (hml.trans hl.1.symm) hown E hM hS hy_X8_second kw_1579 (c_X8_second hq11) hk_60 dd_60 rfl rfl rfl (Nat.le_of_ble_eq_true rfl) ⟨Nat.le_of_ble_eq_true rfl, Nat.le_of_ble_eq_true rfl⟩ ⟨Nat.le_of_ble_eq_true rfl, Nat.le_of_ble_eq_true rfl⟩ dX8_pair_52 (fun H locs hM hS => ?_)
    refine lv_aload_n hx hb dX8_pair_55 rfl (lv_at hl 0 rfl) ?_
    refine lv_iload_n hx hb dX8_pair_56 rfl (lv_at hl 1 rfl) ?_
    obtain ⟨q12, hq12, h⟩ := gbind_e h
    refine g_callV (As := [.int x1]) (rest := [.int q11]) hx hb (hml.trans hl.1.symm) hown E hM hS hy_X8_first kw_1575 (c_X8_first hq12) hk_60 dd_60 rfl rfl rfl (Nat.le_of_ble_eq_true rfl) ⟨Nat.le_of_ble_eq_true rfl, Nat.le_of_ble_eq_true rfl⟩ ⟨Nat.le_of_ble_eq_true rfl, Nat.le_of_ble_eq_true rfl⟩ dX8_pair_57 (fun H locs hM hS => ?_)
    refine lv_icmp_ne (tgt := 67) hx hb dX8_pair_60 (by decide) (fun c13 => ?_) (fun c13 => ?_)
    · replace h := gif_f c13 h
      exact wj_X8_pair_67 h F E kc kx kr hM hS hl
    · replace h := gif_t c13 h
      exact wj_X8_pair_63 h F E kc kx kr hM hS hl
def b_X8_pair_2 (x1 : Int32) (x2 : Int32) (μ : gM) : Option ((Int32) ⊕ ((Unit) ⊕ (Int32))) :=
  Option.bind (f_X8_count (2 : Int32) μ) (fun q1 => if (q1 ≤ x2) then some (.inr (.inl ())) else Option.bind (f_X8_first x2 μ) (fun q3 => Option.bind (f_X8_first x1 μ) (fun q4 => if (q3 = q4) then Option.bind (f_X8_second x2 μ) (fun q14 => Option.bind (f_X8_second x1 μ) (fun q15 => if (q14 = q15) then j_X8_pair_63 x1 x2 μ else j_X8_pair_37 x1 x2 μ)) else j_X8_pair_37 x1 x2 μ)))
set_option maxHeartbeats 4000000 in
set_option maxRecDepth 100000 in
theorem wb_X8_pair_2 {p : Program} {l : Launch} {e : Env} {s : State} {m : MethodId} {args : Array Value} {below : List Frame} {meth : Method} {c : Code} {D : va_G} {cy : Nat → ClassId} {ad : Nat → Nat} {base : Nat} {x1 : Int32} {x2 : Int32} {μ : gM} {o : (Int32) ⊕ ((Unit) ⊕ (Int32))} {RES : Int32} (h : b_X8_pair_2 x1 x2 μ = some o) (F : gF p s m meth c cX8_pair RX8 4 (some .int)) (E : gEnv l D cy ad base s) (kc : ∀ (t : Int32) {H : Heap} {locs : List Loc} {ls : Array Slot}, o = .inl t → gW gFull D cy ad base μ H → va_S (gA base) s.heap H locs → lv_has ls 4 [(0, .ref (ad 60)), (1, .int x1), (2, .int t)] → W p l e ({ frames := 1, cells := 0, slots := 0, locals := 21 } : Room) s m args below meth c H locs 0 0 (MQ below (gQ (some (.int RES)) gFull D cy ad base μ) args s 0 0 (gA base)) (F0 m 2 ls [])) (kx : ∀ (t : Unit) {H : Heap} {locs : List Loc} {ls : Array Slot}, o = .inr (.inl t) → gW gFull D cy ad base μ H → va_S (gA base) s.heap H locs → lv_has ls 4 [] → W p l e ({ frames := 1, cells := 0, slots := 0, locals := 21 } : Room) s m args below meth c H locs 0 0 (MQ below (gQ (some (.int RES)) gFull D cy ad base μ) args s 0 0 (gA base)) (F0 m 86 ls [])) (kr : ∀ x : Int32, o = .inr (.inr x) → x = RES) {H : Heap} {locs : List Loc} {ls : Array Slot} (hM : gW gFull D cy ad base μ H) (hS : va_S (gA base) s.heap H locs) (hl : lv_has ls 4 [(0, .ref (ad 60)), (1, .int x1), (2, .int x2)]) : W p l e ({ frames := 1, cells := 0, slots := 0, locals := 21 } : Room) s m args below meth c H locs 0 0 (MQ below (gQ (some (.int RES)) gFull D cy ad base μ) args s 0 0 (gA base)) (F0 m 2 ls []) := by
  obtain ⟨hx, hb, hml, hown, hlocks, hr⟩ := id F
  unfold b_X8_pair_2 at h
  refine lv_iload_n hx hb dX8_pair_2 rfl (lv_at hl 2 rfl) ?_
  refine lv_aload_n hx hb dX8_pair_3 rfl (lv_at hl 0 rfl) ?_
  refine lv_iconst (v := (2 : Int32)) hx hb dX8_pair_4 (by decide) ?_
  obtain ⟨q1, hq1, h⟩ := gbind_e h
  refine g_callV (As := [.int (2 : Int32)]) (rest := [.int x2]) hx hb (hml.trans hl.1.symm) hown E hM hS hy_X8_count kw_1498 (c_X8_count hq1) hk_60 dd_60 rfl rfl rfl (Nat.le_of_ble_eq_true rfl) ⟨Nat.le_of_ble_eq_true rfl, Nat.le_of_ble_eq_true rfl⟩ ⟨Nat.le_of_ble_eq_true rfl, Nat.le_of_ble_eq_true rfl⟩ dX8_pair_5 (fun H locs hM hS => ?_)
  refine lv_icmp_ge (tgt := 86) hx hb dX8_pair_8 (by decide) (fun c2 => ?_) (fun c2 => ?_)
  · replace h := gif_t c2 h
    exact kx _ (Option.some.inj h).symm hM hS (lv_sub hl [] rfl)
  · replace h := gif_f c2 h
    refine lv_aload_n hx hb dX8_pair_11 rfl (lv_at hl 0 rfl) ?_
    refine lv_iload_n hx hb dX8_pair_12 rfl (lv_at hl 2 rfl) ?_
    obtain ⟨q3, hq3, h⟩ := gbind_e h
    refine g_callV (As := [.int x2]) (rest := []) hx hb (hml.trans hl.1.symm) hown E hM hS hy_X8_first kw_1575 (c_X8_first hq3) hk_60 dd_60 rfl rfl rfl (Nat.le_of_ble_eq_true rfl) ⟨Nat.le_of_ble_eq_true rfl, Nat.le_of_ble_eq_true rfl⟩ ⟨Nat.le_of_ble_eq_true rfl, Nat.le_of_ble_eq_true rfl⟩ dX8_pair_13 (fun H locs hM hS => ?_)
    refine lv_aload_n hx hb dX8_pair_16 rfl (lv_at hl 0 rfl) ?_
    refine lv_iload_n hx hb dX8_pair_17 rfl (lv_at hl 1 rfl) ?_
    obtain ⟨q4, hq4, h⟩ := gbind_e h
    refine g_callV (As := [.int x1]) (rest := [.int q3]) hx hb (hml.trans hl.1.symm) hown E hM hS hy_X8_first kw_1575 (c_X8_first hq4) hk_60 dd_60 rfl rfl rfl (Nat.le_of_ble_eq_true rfl) ⟨Nat.le_of_ble_eq_true rfl, Nat.le_of_ble_eq_true rfl⟩ ⟨Nat.le_of_ble_eq_true rfl, Nat.le_of_ble_eq_true rfl⟩ dX8_pair_18 (fun H locs hM hS => ?_)
    refine lv_icmp_ne (tgt := 37) hx hb dX8_pair_21 (by decide) (fun c5 => ?_) (fun c5 => ?_)
    · replace h := gif_f c5 h
      exact wj_X8_pair_37 h F E kc kx kr hM hS hl
    · replace h := gif_t c5 h
      refine lv_aload_n hx hb dX8_pair_24 rfl (lv_at hl 0 rfl) ?_
      refine lv_iload_n hx hb dX8_pair_25 rfl (lv_at hl 2 rfl) ?_
      obtain ⟨q14, hq14, h⟩ := gbind_e h
      refine g_callV (As := [.int x2]) (rest := []) hx hb (hml.trans hl.1.symm) hown E hM hS hy_X8_second kw_1579 (c_X8_second hq14) hk_60 dd_60 rfl rfl rfl (Nat.le_of_ble_eq_true rfl) ⟨Nat.le_of_ble_eq_true rfl, Nat.le_of_ble_eq_true rfl⟩ ⟨Nat.le_of_ble_eq_true rfl, Nat.le_of_ble_eq_true rfl⟩ dX8_pair_26 (fun H locs hM hS => ?_)
      refine lv_aload_n hx hb dX8_pair_29 rfl (lv_at hl 0 rfl) ?_
      refine lv_iload_n hx hb dX8_pair_30 rfl (lv_at hl 1 rfl) ?_
      obtain ⟨q15, hq15, h⟩ := gbind_e h
      refine g_callV (As := [.int x1]) (rest := [.int q14]) hx hb (hml.trans hl.1.symm) hown E hM hS hy_X8_second kw_1579 (c_X8_second hq15) hk_60 dd_60 rfl rfl rfl (Nat.le_of_ble_eq_true rfl) ⟨Nat.le_of_ble_eq_true rfl, Nat.le_of_ble_eq_true rfl⟩ ⟨Nat.le_of_ble_eq_true rfl, Nat.le_of_ble_eq_true rfl⟩ dX8_pair_31 (fun H locs hM hS => ?_)
      refine lv_icmp_eq (tgt := 63) hx hb dX8_pair_34 (by decide) (fun c16 => ?_) (fun c16 => ?_)
      · replace h := gif_t c16 h
        exact wj_X8_pair_63 h F E kc kx kr hM hS hl
      · replace h := gif_f c16 h
        exact wj_X8_pair_37 h F E kc kx kr hM hS hl
set_option maxHeartbeats 4000000 in
theorem wl_X8_pair_2 {p : Program} {l : Launch} {e : Env} {s : State} {m : MethodId} {args : Array Value} {below : List Frame} {meth : Method} {c : Code} {D : va_G} {cy : Nat → ClassId} {ad : Nat → Nat} {base : Nat} {x1 : Int32} {μ : gM} {r : (Unit) ⊕ (Int32)} {RES : Int32} (F : gF p s m meth c cX8_pair RX8 4 (some .int)) (E : gEnv l D cy ad base s) (kx : ∀ (t : Unit) {H : Heap} {locs : List Loc} {ls : Array Slot}, r = .inl t → gW gFull D cy ad base μ H → va_S (gA base) s.heap H locs → lv_has ls 4 [] → W p l e ({ frames := 1, cells := 0, slots := 0, locals := 21 } : Room) s m args below meth c H locs 0 0 (MQ below (gQ (some (.int RES)) gFull D cy ad base μ) args s 0 0 (gA base)) (F0 m 86 ls [])) (kr : ∀ x : Int32, r = .inr x → x = RES) : ∀ (n : Nat) (x2 : Int32), gloop (fun t => b_X8_pair_2 x1 t μ) n x2 = some r → ∀ {H : Heap} {locs : List Loc} {ls : Array Slot}, gW gFull D cy ad base μ H → va_S (gA base) s.heap H locs → lv_has ls 4 [(0, .ref (ad 60)), (1, .int x1), (2, .int x2)] → W p l e ({ frames := 1, cells := 0, slots := 0, locals := 21 } : Room) s m args below meth c H locs 0 0 (MQ below (gQ (some (.int RES)) gFull D cy ad base μ) args s 0 0 (gA base)) (F0 m 2 ls []) := by
  intro n
  induction n with
  | zero =>
    intro x2 h
    exact (gloop_0 h).elim
  | succ n ih =>
    intro x2 h H locs ls hM hS hl
    obtain ⟨o, h0, hc, hq⟩ := gloop_s h
    have h1 : b_X8_pair_2 x1 x2 μ = some o := h0
    exact wb_X8_pair_2 h1 F E (fun t H locs ls ho hM hS hl => ih t (hc t ho) hM hS hl) (fun t H locs ls ho hM hS hl => kx t (hq _ ho).symm hM hS hl) (fun x ho => kr x (hq _ ho).symm) hM hS hl
def f_X8_pair (p1 : Int32) (μ : gM) : Option (Int32) :=
  Option.bind (gloop (fun t => b_X8_pair_2 p1 t μ) gFuel (0 : Int32)) (fun q17 => Sum.elim (fun t18 => some (-1 : Int32)) (fun x => some x) q17)
set_option maxHeartbeats 4000000 in
set_option maxRecDepth 100000 in
theorem c_X8_pair {l : Launch} {D : va_G} {cy : Nat → ClassId} {ad : Nat → Nat} {base : Nat} {p1 : Int32} {μ : gM} {RES : Int32} (h : f_X8_pair p1 μ = some RES) : Met l yX8_pair [.code yX8_pair cX8_pair 4 (some .int)] ({ frames := 1, cells := 0, slots := 0, locals := 21 } : Room) (va_Pc [.ref (ad 60), .int p1] (gB l gFull D cy ad base μ)) (gQ (some (.int RES)) gFull D cy ad base μ) 0 0 (gA base) := by
  refine Met.ofW (cc := cX8_pair) (maxL := 4) (ret := (some .int)) (by decide) rfl ?_
  intro p e s m args below meth c s₁ B hml0 hv
  obtain ⟨rfl, E, hM⟩ := hv
  have F : gF p s m meth c cX8_pair RX8 4 (some .int) := gF_of B hml0
  obtain ⟨hx, hb, hml, hown, hlocks, hr⟩ := id F
  have hS : va_S (gA base) s.heap s.heap [] := va_S.rf
  have hl := lv_entry ([.ref (ad 60), .int p1]) (n := 4) (Nat.le_of_ble_eq_true rfl)
  rw [lg_entry_eq]
  generalize (lg_sl ([.ref (ad 60), .int p1]) ++ List.replicate (4 - (lg_sl ([.ref (ad 60), .int p1])).length) Slot.unset).toArray = ls at hl ⊢
  have hl : lv_has ls 4 [(0, .ref (ad 60)), (1, .int p1)] := hl
  unfold f_X8_pair at h
  refine lv_iconst (v := (0 : Int32)) hx hb dX8_pair_0 (by decide) ?_
  refine lv_istore_n (lv' := [(2, .int (0 : Int32)), (0, .ref (ad 60)), (1, .int p1)]) hx hb dX8_pair_1 rfl hl (by decide) rfl (fun ls hl => ?_)
  obtain ⟨q17, h1, h⟩ := gbind_e h
  refine wl_X8_pair_2 F E (r := q17) (fun t18 H locs ls e1 hM hS hl => ?_) (fun x ex => ?_) gFuel (0 : Int32) h1 hM hS (lv_sub hl [1, 2, 0] rfl)
  · replace h := gsum_l e1 h
    refine lv_iconst (v := (-1 : Int32)) hx hb dX8_pair_86 (by decide) ?_
    obtain rfl := Option.some.inj h
    exact g_iret hx hb hr hlocks hM hS dX8_pair_87
  · exact Option.some.inj (gsum_r ex h)
def f_X8_pairOf (p1 : Int32) (μ : gM) : Option (Int32 × gM) :=
  Option.bind (f_X8_isLine p1 μ) (fun q1 => Option.bind (f_X8_fails (b2i q1) μ) (fun q2 => if ((b2i q2.1) = 0) then Option.bind (f_X8_pair p1 q2.2) (fun q4 => some (q4, q2.2)) else some ((0 : Int32), q2.2)))
set_option maxHeartbeats 4000000 in
set_option maxRecDepth 100000 in
theorem c_X8_pairOf {l : Launch} {D : va_G} {cy : Nat → ClassId} {ad : Nat → Nat} {base : Nat} {p1 : Int32} {μ : gM} {RES : Int32 × gM} (h : f_X8_pairOf p1 μ = some RES) : Met l yX8_pairOf [.code yX8_pairOf cX8_pairOf 2 (some .int)] ({ frames := 2, cells := 0, slots := 0, locals := 44 } : Room) (va_Pc [.ref (ad 60), .int p1] (gB l gFull D cy ad base μ)) (gQ (some (.int RES.1)) gFull D cy ad base RES.2) 0 0 (gA base) := by
  refine Met.ofW (cc := cX8_pairOf) (maxL := 2) (ret := (some .int)) (by decide) rfl ?_
  intro p e s m args below meth c s₁ B hml0 hv
  obtain ⟨rfl, E, hM⟩ := hv
  have F : gF p s m meth c cX8_pairOf RX8 2 (some .int) := gF_of B hml0
  obtain ⟨hx, hb, hml, hown, hlocks, hr⟩ := id F
  have hS : va_S (gA base) s.heap s.heap [] := va_S.rf
  have hl := lv_entry ([.ref (ad 60), .int p1]) (n := 2) (Nat.le_of_ble_eq_true rfl)
  rw [lg_entry_eq]
  generalize (lg_sl ([.ref (ad 60), .int p1]) ++ List.replicate (2 - (lg_sl ([.ref (ad 60), .int p1])).length) Slot.unset).toArray = ls at hl ⊢
  have hl : lv_has ls 2 [(0, .ref (ad 60)), (1, .int p1)] := hl
  unfold f_X8_pairOf at h
  refine lv_aload_n hx hb dX8_pairOf_0 rfl (lv_at hl 0 rfl) ?_
  refine lv_aload_n hx hb dX8_pairOf_1 rfl (lv_at hl 0 rfl) ?_
  refine lv_iload_n hx hb dX8_pairOf_2 rfl (lv_at hl 1 rfl) ?_
  obtain ⟨q1, hq1, h⟩ := gbind_e h
  refine g_callV (As := [.int p1]) (rest := [.ref (ad 60)]) hx hb (hml.trans hl.1.symm) hown E hM hS hy_X8_isLine kw_1571 (c_X8_isLine hq1) hk_60 dd_60 rfl rfl rfl (Nat.le_of_ble_eq_true rfl) ⟨Nat.le_of_ble_eq_true rfl, Nat.le_of_ble_eq_true rfl⟩ ⟨Nat.le_of_ble_eq_true rfl, Nat.le_of_ble_eq_true rfl⟩ dX8_pairOf_3 (fun H locs hM hS => ?_)
  obtain ⟨q2, hq2, h⟩ := gbind_e h
  refine g_callV (As := [.int (b2i q1)]) (rest := []) hx hb (hml.trans hl.1.symm) hown E hM hS hy_X8_fails kw_1534 (c_X8_fails hq2) hk_60 dd_60 rfl rfl rfl (Nat.le_of_ble_eq_true rfl) ⟨Nat.le_of_ble_eq_true rfl, Nat.le_of_ble_eq_true rfl⟩ ⟨Nat.le_of_ble_eq_true rfl, Nat.le_of_ble_eq_true rfl⟩ dX8_pairOf_6 (fun H locs hM hS => ?_)
  refine lv_if_eq (tgt := 16) hx hb dX8_pairOf_9 (by decide) (fun c3 => ?_) (fun c3 => ?_)
  · replace h := gif_t c3 h
    refine lv_aload_n hx hb dX8_pairOf_16 rfl (lv_at hl 0 rfl) ?_
    refine lv_iload_n hx hb dX8_pairOf_17 rfl (lv_at hl 1 rfl) ?_
    obtain ⟨q4, hq4, h⟩ := gbind_e h
    refine g_callV (As := [.int p1]) (rest := []) hx hb (hml.trans hl.1.symm) hown E hM hS hy_X8_pair kw_1651 (c_X8_pair hq4) hk_60 dd_60 rfl rfl rfl (Nat.le_of_ble_eq_true rfl) ⟨Nat.le_of_ble_eq_true rfl, Nat.le_of_ble_eq_true rfl⟩ ⟨Nat.le_of_ble_eq_true rfl, Nat.le_of_ble_eq_true rfl⟩ dX8_pairOf_18 (fun H locs hM hS => ?_)
    obtain rfl := Option.some.inj h
    exact g_iret hx hb hr hlocks hM hS dX8_pairOf_21
  · replace h := gif_f c3 h
    refine lv_iconst (v := (0 : Int32)) hx hb dX8_pairOf_12 (by decide) ?_
    refine lv_goto (tgt := 21) hx hb dX8_pairOf_13 (by decide) ?_
    obtain rfl := Option.some.inj h
    exact g_iret hx hb hr hlocks hM hS dX8_pairOf_21
def f_X8_discrepancy (p1 : Int32) (μ : gM) : Option (Int32 × gM) :=
  Option.bind (f_X8_isLine p1 μ) (fun q1 => Option.bind (f_X8_fails (b2i q1) μ) (fun q2 => if ((b2i q2.1) = 0) then Option.bind (f_X8_pair p1 q2.2) (fun q4 => if (0 ≤ q4) then Option.bind (f_X8_rise p1 q2.2) (fun q6 => Option.bind (f_X8_first p1 q2.2) (fun q7 => Option.bind (f_X8_riseFrom q4 q7 q2.2) (fun q8 => some ((q6 - q8), q2.2)))) else some ((-2147483648 : Int32), q2.2)) else some ((0 : Int32), q2.2)))
set_option maxHeartbeats 4000000 in
set_option maxRecDepth 100000 in
theorem c_X8_discrepancy {l : Launch} {D : va_G} {cy : Nat → ClassId} {ad : Nat → Nat} {base : Nat} {p1 : Int32} {μ : gM} {RES : Int32 × gM} (h : f_X8_discrepancy p1 μ = some RES) : Met l yX8_discrepancy [.code yX8_discrepancy cX8_discrepancy 3 (some .int)] ({ frames := 5, cells := 0, slots := 0, locals := 112 } : Room) (va_Pc [.ref (ad 60), .int p1] (gB l gFull D cy ad base μ)) (gQ (some (.int RES.1)) gFull D cy ad base RES.2) 0 0 (gA base) := by
  refine Met.ofW (cc := cX8_discrepancy) (maxL := 3) (ret := (some .int)) (by decide) rfl ?_
  intro p e s m args below meth c s₁ B hml0 hv
  obtain ⟨rfl, E, hM⟩ := hv
  have F : gF p s m meth c cX8_discrepancy RX8 3 (some .int) := gF_of B hml0
  obtain ⟨hx, hb, hml, hown, hlocks, hr⟩ := id F
  have hS : va_S (gA base) s.heap s.heap [] := va_S.rf
  have hl := lv_entry ([.ref (ad 60), .int p1]) (n := 3) (Nat.le_of_ble_eq_true rfl)
  rw [lg_entry_eq]
  generalize (lg_sl ([.ref (ad 60), .int p1]) ++ List.replicate (3 - (lg_sl ([.ref (ad 60), .int p1])).length) Slot.unset).toArray = ls at hl ⊢
  have hl : lv_has ls 3 [(0, .ref (ad 60)), (1, .int p1)] := hl
  unfold f_X8_discrepancy at h
  refine lv_aload_n hx hb dX8_discrepancy_0 rfl (lv_at hl 0 rfl) ?_
  refine lv_aload_n hx hb dX8_discrepancy_1 rfl (lv_at hl 0 rfl) ?_
  refine lv_iload_n hx hb dX8_discrepancy_2 rfl (lv_at hl 1 rfl) ?_
  obtain ⟨q1, hq1, h⟩ := gbind_e h
  refine g_callV (As := [.int p1]) (rest := [.ref (ad 60)]) hx hb (hml.trans hl.1.symm) hown E hM hS hy_X8_isLine kw_1571 (c_X8_isLine hq1) hk_60 dd_60 rfl rfl rfl (Nat.le_of_ble_eq_true rfl) ⟨Nat.le_of_ble_eq_true rfl, Nat.le_of_ble_eq_true rfl⟩ ⟨Nat.le_of_ble_eq_true rfl, Nat.le_of_ble_eq_true rfl⟩ dX8_discrepancy_3 (fun H locs hM hS => ?_)
  obtain ⟨q2, hq2, h⟩ := gbind_e h
  refine g_callV (As := [.int (b2i q1)]) (rest := []) hx hb (hml.trans hl.1.symm) hown E hM hS hy_X8_fails kw_1534 (c_X8_fails hq2) hk_60 dd_60 rfl rfl rfl (Nat.le_of_ble_eq_true rfl) ⟨Nat.le_of_ble_eq_true rfl, Nat.le_of_ble_eq_true rfl⟩ ⟨Nat.le_of_ble_eq_true rfl, Nat.le_of_ble_eq_true rfl⟩ dX8_discrepancy_6 (fun H locs hM hS => ?_)
  refine lv_if_eq (tgt := 14) hx hb dX8_discrepancy_9 (by decide) (fun c3 => ?_) (fun c3 => ?_)
  · replace h := gif_t c3 h
    refine lv_aload_n hx hb dX8_discrepancy_14 rfl (lv_at hl 0 rfl) ?_
    refine lv_iload_n hx hb dX8_discrepancy_15 rfl (lv_at hl 1 rfl) ?_
    obtain ⟨q4, hq4, h⟩ := gbind_e h
    refine g_callV (As := [.int p1]) (rest := []) hx hb (hml.trans hl.1.symm) hown E hM hS hy_X8_pair kw_1651 (c_X8_pair hq4) hk_60 dd_60 rfl rfl rfl (Nat.le_of_ble_eq_true rfl) ⟨Nat.le_of_ble_eq_true rfl, Nat.le_of_ble_eq_true rfl⟩ ⟨Nat.le_of_ble_eq_true rfl, Nat.le_of_ble_eq_true rfl⟩ dX8_discrepancy_16 (fun H locs hM hS => ?_)
    refine lv_istore_n (lv' := [(2, .int q4), (0, .ref (ad 60)), (1, .int p1)]) hx hb dX8_discrepancy_19 rfl hl (by decide) rfl (fun ls hl => ?_)
    refine lv_iload_n hx hb dX8_discrepancy_20 rfl (lv_at hl 0 rfl) ?_
    refine lv_if_ge (tgt := 29) hx hb dX8_discrepancy_21 (by decide) (fun c5 => ?_) (fun c5 => ?_)
    · replace h := gif_t c5 h
      refine lv_aload_n hx hb dX8_discrepancy_29 rfl (lv_at hl 1 rfl) ?_
      refine lv_iload_n hx hb dX8_discrepancy_30 rfl (lv_at hl 2 rfl) ?_
      obtain ⟨q6, hq6, h⟩ := gbind_e h
      refine g_callV (As := [.int p1]) (rest := []) hx hb (hml.trans hl.1.symm) hown E hM hS hy_X8_rise kw_1624 (c_X8_rise hq6) hk_60 dd_60 rfl rfl rfl (Nat.le_of_ble_eq_true rfl) ⟨Nat.le_of_ble_eq_true rfl, Nat.le_of_ble_eq_true rfl⟩ ⟨Nat.le_of_ble_eq_true rfl, Nat.le_of_ble_eq_true rfl⟩ dX8_discrepancy_31 (fun H locs hM hS => ?_)
      refine lv_aload_n hx hb dX8_discrepancy_34 rfl (lv_at hl 1 rfl) ?_
      refine lv_iload_n hx hb dX8_discrepancy_35 rfl (lv_at hl 0 rfl) ?_
      refine lv_aload_n hx hb dX8_discrepancy_36 rfl (lv_at hl 1 rfl) ?_
      refine lv_iload_n hx hb dX8_discrepancy_37 rfl (lv_at hl 2 rfl) ?_
      obtain ⟨q7, hq7, h⟩ := gbind_e h
      refine g_callV (As := [.int p1]) (rest := [.int q4, .ref (ad 60), .int q6]) hx hb (hml.trans hl.1.symm) hown E hM hS hy_X8_first kw_1575 (c_X8_first hq7) hk_60 dd_60 rfl rfl rfl (Nat.le_of_ble_eq_true rfl) ⟨Nat.le_of_ble_eq_true rfl, Nat.le_of_ble_eq_true rfl⟩ ⟨Nat.le_of_ble_eq_true rfl, Nat.le_of_ble_eq_true rfl⟩ dX8_discrepancy_38 (fun H locs hM hS => ?_)
      obtain ⟨q8, hq8, h⟩ := gbind_e h
      refine g_callV (As := [.int q4, .int q7]) (rest := [.int q6]) hx hb (hml.trans hl.1.symm) hown E hM hS hy_X8_riseFrom kw_1659 (c_X8_riseFrom hq8) hk_60 dd_60 rfl rfl rfl (Nat.le_of_ble_eq_true rfl) ⟨Nat.le_of_ble_eq_true rfl, Nat.le_of_ble_eq_true rfl⟩ ⟨Nat.le_of_ble_eq_true rfl, Nat.le_of_ble_eq_true rfl⟩ dX8_discrepancy_41 (fun H locs hM hS => ?_)
      refine lv_isub hx hb dX8_discrepancy_44 ?_
      obtain rfl := Option.some.inj h
      exact g_iret hx hb hr hlocks hM hS dX8_discrepancy_45
    · replace h := gif_f c5 h
      refine lv_ldc hx hb hown (v := (-2147483648 : Int32)) (E.kw kw_1554) dX8_discrepancy_24 ?_
      refine lv_goto (tgt := 45) hx hb dX8_discrepancy_26 (by decide) ?_
      obtain rfl := Option.some.inj h
      exact g_iret hx hb hr hlocks hM hS dX8_discrepancy_45
  · replace h := gif_f c3 h
    refine lv_iconst (v := (0 : Int32)) hx hb dX8_discrepancy_12 (by decide) ?_
    obtain rfl := Option.some.inj h
    exact g_iret hx hb hr hlocks hM hS dX8_discrepancy_13
def b_X8_linesAt_18 (x1 : Int32) (x2 : Int32) (x3 : Int32) (μ : gM) : Option ((Int32 × Int32) ⊕ (Int32)) :=
  Option.bind (f_X8_count (2 : Int32) μ) (fun q4 => if (q4 ≤ x3) then some (.inr x2) else Option.bind (f_X8_touches x3 x1 μ) (fun q6 => if ((b2i q6) = 0) then some (.inl ((x2 ||| (0 : Int32)), (x3 + (1 : Int32)))) else some (.inl ((x2 ||| ((1 : Int32) <<< (x3 &&& 31))), (x3 + (1 : Int32))))))
set_option maxHeartbeats 4000000 in
set_option maxRecDepth 100000 in
theorem wb_X8_linesAt_18 {p : Program} {l : Launch} {e : Env} {s : State} {m : MethodId} {args : Array Value} {below : List Frame} {meth : Method} {c : Code} {D : va_G} {cy : Nat → ClassId} {ad : Nat → Nat} {base : Nat} {x1 : Int32} {x2 : Int32} {x3 : Int32} {μ : gM} {o : (Int32 × Int32) ⊕ (Int32)} {RES : Int32 × gM} (h : b_X8_linesAt_18 x1 x2 x3 μ = some o) (F : gF p s m meth c cX8_linesAt RX8 4 (some .int)) (E : gEnv l D cy ad base s) (kc : ∀ (t : Int32 × Int32) {H : Heap} {locs : List Loc} {ls : Array Slot}, o = .inl t → gW gFull D cy ad base μ H → va_S (gA base) s.heap H locs → lv_has ls 4 [(0, .ref (ad 60)), (1, .int x1), (2, .int t.1), (3, .int t.2)] → W p l e ({ frames := 2, cells := 0, slots := 0, locals := 43 } : Room) s m args below meth c H locs 0 0 (MQ below (gQ (some (.int RES.1)) gFull D cy ad base RES.2) args s 0 0 (gA base)) (F0 m 18 ls [])) (kx : ∀ (t : Int32) {H : Heap} {locs : List Loc} {ls : Array Slot}, o = .inr t → gW gFull D cy ad base μ H → va_S (gA base) s.heap H locs → lv_has ls 4 [(2, .int t)] → W p l e ({ frames := 2, cells := 0, slots := 0, locals := 43 } : Room) s m args below meth c H locs 0 0 (MQ below (gQ (some (.int RES.1)) gFull D cy ad base RES.2) args s 0 0 (gA base)) (F0 m 52 ls []))  {H : Heap} {locs : List Loc} {ls : Array Slot} (hM : gW gFull D cy ad base μ H) (hS : va_S (gA base) s.heap H locs) (hl : lv_has ls 4 [(0, .ref (ad 60)), (1, .int x1), (2, .int x2), (3, .int x3)]) : W p l e ({ frames := 2, cells := 0, slots := 0, locals := 43 } : Room) s m args below meth c H locs 0 0 (MQ below (gQ (some (.int RES.1)) gFull D cy ad base RES.2) args s 0 0 (gA base)) (F0 m 18 ls []) := by
  obtain ⟨hx, hb, hml, hown, hlocks, hr⟩ := id F
  unfold b_X8_linesAt_18 at h
  refine lv_iload_n hx hb dX8_linesAt_18 rfl (lv_at hl 3 rfl) ?_
  refine lv_aload_n hx hb dX8_linesAt_19 rfl (lv_at hl 0 rfl) ?_
  refine lv_iconst (v := (2 : Int32)) hx hb dX8_linesAt_20 (by decide) ?_
  obtain ⟨q4, hq4, h⟩ := gbind_e h
  refine g_callV (As := [.int (2 : Int32)]) (rest := [.int x3]) hx hb (hml.trans hl.1.symm) hown E hM hS hy_X8_count kw_1498 (c_X8_count hq4) hk_60 dd_60 rfl rfl rfl (Nat.le_of_ble_eq_true rfl) ⟨Nat.le_of_ble_eq_true rfl, Nat.le_of_ble_eq_true rfl⟩ ⟨Nat.le_of_ble_eq_true rfl, Nat.le_of_ble_eq_true rfl⟩ dX8_linesAt_21 (fun H locs hM hS => ?_)
  refine lv_icmp_ge (tgt := 52) hx hb dX8_linesAt_24 (by decide) (fun c5 => ?_) (fun c5 => ?_)
  · replace h := gif_t c5 h
    exact kx _ (Option.some.inj h).symm hM hS (lv_sub hl [2] rfl)
  · replace h := gif_f c5 h
    refine lv_iload_n hx hb dX8_linesAt_27 rfl (lv_at hl 2 rfl) ?_
    refine lv_aload_n hx hb dX8_linesAt_28 rfl (lv_at hl 0 rfl) ?_
    refine lv_iload_n hx hb dX8_linesAt_29 rfl (lv_at hl 3 rfl) ?_
    refine lv_iload_n hx hb dX8_linesAt_30 rfl (lv_at hl 1 rfl) ?_
    obtain ⟨q6, hq6, h⟩ := gbind_e h
    refine g_callV (As := [.int x3, .int x1]) (rest := [.int x2]) hx hb (hml.trans hl.1.symm) hown E hM hS hy_X8_touches kw_1667 (c_X8_touches hq6) hk_60 dd_60 rfl rfl rfl (Nat.le_of_ble_eq_true rfl) ⟨Nat.le_of_ble_eq_true rfl, Nat.le_of_ble_eq_true rfl⟩ ⟨Nat.le_of_ble_eq_true rfl, Nat.le_of_ble_eq_true rfl⟩ dX8_linesAt_31 (fun H locs hM hS => ?_)
    refine lv_if_eq (tgt := 43) hx hb dX8_linesAt_34 (by decide) (fun c7 => ?_) (fun c7 => ?_)
    · replace h := gif_t c7 h
      refine lv_iconst (v := (0 : Int32)) hx hb dX8_linesAt_43 (by decide) ?_
      refine lv_ior hx hb dX8_linesAt_44 ?_
      refine lv_istore_n (lv' := [(2, .int (x2 ||| (0 : Int32))), (0, .ref (ad 60)), (1, .int x1), (3, .int x3)]) hx hb dX8_linesAt_45 rfl hl (by decide) rfl (fun ls hl => ?_)
      refine lv_iinc (v := (x3 + (1 : Int32))) (lv' := [(3, .int (x3 + (1 : Int32))), (2, .int (x2 ||| (0 : Int32))), (0, .ref (ad 60)), (1, .int x1)]) hx hb dX8_linesAt_46 hl (k := 3) rfl rfl (by decide) rfl (fun ls hl => ?_)
      refine lv_goto (tgt := 18) hx hb dX8_linesAt_49 (by decide) ?_
      exact kc _ (Option.some.inj h).symm hM hS (lv_sub hl [2, 3, 1, 0] rfl)
    · replace h := gif_f c7 h
      refine lv_iconst (v := (1 : Int32)) hx hb dX8_linesAt_37 (by decide) ?_
      refine lv_iload_n hx hb dX8_linesAt_38 rfl (lv_at hl 3 rfl) ?_
      refine lv_ishl hx hb dX8_linesAt_39 ?_
      refine lv_goto (tgt := 44) hx hb dX8_linesAt_40 (by decide) ?_
      refine lv_ior hx hb dX8_linesAt_44 ?_
      refine lv_istore_n (lv' := [(2, .int (x2 ||| ((1 : Int32) <<< (x3 &&& 31)))), (0, .ref (ad 60)), (1, .int x1), (3, .int x3)]) hx hb dX8_linesAt_45 rfl hl (by decide) rfl (fun ls hl => ?_)
      refine lv_iinc (v := (x3 + (1 : Int32))) (lv' := [(3, .int (x3 + (1 : Int32))), (2, .int (x2 ||| ((1 : Int32) <<< (x3 &&& 31)))), (0, .ref (ad 60)), (1, .int x1)]) hx hb dX8_linesAt_46 hl (k := 3) rfl rfl (by decide) rfl (fun ls hl => ?_)
      refine lv_goto (tgt := 18) hx hb dX8_linesAt_49 (by decide) ?_
      exact kc _ (Option.some.inj h).symm hM hS (lv_sub hl [2, 3, 1, 0] rfl)
set_option maxHeartbeats 4000000 in
theorem wl_X8_linesAt_18 {p : Program} {l : Launch} {e : Env} {s : State} {m : MethodId} {args : Array Value} {below : List Frame} {meth : Method} {c : Code} {D : va_G} {cy : Nat → ClassId} {ad : Nat → Nat} {base : Nat} {x1 : Int32} {μ : gM} {r : Int32} {RES : Int32 × gM} (F : gF p s m meth c cX8_linesAt RX8 4 (some .int)) (E : gEnv l D cy ad base s) (kx : ∀ (t : Int32) {H : Heap} {locs : List Loc} {ls : Array Slot}, r = t → gW gFull D cy ad base μ H → va_S (gA base) s.heap H locs → lv_has ls 4 [(2, .int t)] → W p l e ({ frames := 2, cells := 0, slots := 0, locals := 43 } : Room) s m args below meth c H locs 0 0 (MQ below (gQ (some (.int RES.1)) gFull D cy ad base RES.2) args s 0 0 (gA base)) (F0 m 52 ls []))  : ∀ (n : Nat) (x2 : Int32) (x3 : Int32), gloop (fun t => b_X8_linesAt_18 x1 t.1 t.2 μ) n (x2, x3) = some r → ∀ {H : Heap} {locs : List Loc} {ls : Array Slot}, gW gFull D cy ad base μ H → va_S (gA base) s.heap H locs → lv_has ls 4 [(0, .ref (ad 60)), (1, .int x1), (2, .int x2), (3, .int x3)] → W p l e ({ frames := 2, cells := 0, slots := 0, locals := 43 } : Room) s m args below meth c H locs 0 0 (MQ below (gQ (some (.int RES.1)) gFull D cy ad base RES.2) args s 0 0 (gA base)) (F0 m 18 ls []) := by
  intro n
  induction n with
  | zero =>
    intro x2 x3 h
    exact (gloop_0 h).elim
  | succ n ih =>
    intro x2 x3 h H locs ls hM hS hl
    obtain ⟨o, h0, hc, hq⟩ := gloop_s h
    have h1 : b_X8_linesAt_18 x1 x2 x3 μ = some o := h0
    exact wb_X8_linesAt_18 h1 F E (fun t H locs ls ho hM hS hl => ih t.1 t.2 (hc t ho) hM hS hl) (fun t H locs ls ho hM hS hl => kx t (hq _ ho).symm hM hS hl) hM hS hl
def f_X8_linesAt (p1 : Int32) (μ : gM) : Option (Int32 × gM) :=
  Option.bind (f_X8_isPoint p1 μ) (fun q1 => Option.bind (f_X8_fails (b2i q1) μ) (fun q2 => if ((b2i q2.1) = 0) then Option.bind (gloop (fun t => b_X8_linesAt_18 p1 t.1 t.2 q2.2) gFuel ((0 : Int32), (0 : Int32))) (fun q8 => some (q8, q2.2)) else some ((0 : Int32), q2.2)))
set_option maxHeartbeats 4000000 in
set_option maxRecDepth 100000 in
theorem c_X8_linesAt {l : Launch} {D : va_G} {cy : Nat → ClassId} {ad : Nat → Nat} {base : Nat} {p1 : Int32} {μ : gM} {RES : Int32 × gM} (h : f_X8_linesAt p1 μ = some RES) : Met l yX8_linesAt [.code yX8_linesAt cX8_linesAt 4 (some .int)] ({ frames := 2, cells := 0, slots := 0, locals := 43 } : Room) (va_Pc [.ref (ad 60), .int p1] (gB l gFull D cy ad base μ)) (gQ (some (.int RES.1)) gFull D cy ad base RES.2) 0 0 (gA base) := by
  refine Met.ofW (cc := cX8_linesAt) (maxL := 4) (ret := (some .int)) (by decide) rfl ?_
  intro p e s m args below meth c s₁ B hml0 hv
  obtain ⟨rfl, E, hM⟩ := hv
  have F : gF p s m meth c cX8_linesAt RX8 4 (some .int) := gF_of B hml0
  obtain ⟨hx, hb, hml, hown, hlocks, hr⟩ := id F
  have hS : va_S (gA base) s.heap s.heap [] := va_S.rf
  have hl := lv_entry ([.ref (ad 60), .int p1]) (n := 4) (Nat.le_of_ble_eq_true rfl)
  rw [lg_entry_eq]
  generalize (lg_sl ([.ref (ad 60), .int p1]) ++ List.replicate (4 - (lg_sl ([.ref (ad 60), .int p1])).length) Slot.unset).toArray = ls at hl ⊢
  have hl : lv_has ls 4 [(0, .ref (ad 60)), (1, .int p1)] := hl
  unfold f_X8_linesAt at h
  refine lv_aload_n hx hb dX8_linesAt_0 rfl (lv_at hl 0 rfl) ?_
  refine lv_aload_n hx hb dX8_linesAt_1 rfl (lv_at hl 0 rfl) ?_
  refine lv_iload_n hx hb dX8_linesAt_2 rfl (lv_at hl 1 rfl) ?_
  obtain ⟨q1, hq1, h⟩ := gbind_e h
  refine g_callV (As := [.int p1]) (rest := [.ref (ad 60)]) hx hb (hml.trans hl.1.symm) hown E hM hS hy_X8_isPoint kw_1563 (c_X8_isPoint hq1) hk_60 dd_60 rfl rfl rfl (Nat.le_of_ble_eq_true rfl) ⟨Nat.le_of_ble_eq_true rfl, Nat.le_of_ble_eq_true rfl⟩ ⟨Nat.le_of_ble_eq_true rfl, Nat.le_of_ble_eq_true rfl⟩ dX8_linesAt_3 (fun H locs hM hS => ?_)
  obtain ⟨q2, hq2, h⟩ := gbind_e h
  refine g_callV (As := [.int (b2i q1)]) (rest := []) hx hb (hml.trans hl.1.symm) hown E hM hS hy_X8_fails kw_1534 (c_X8_fails hq2) hk_60 dd_60 rfl rfl rfl (Nat.le_of_ble_eq_true rfl) ⟨Nat.le_of_ble_eq_true rfl, Nat.le_of_ble_eq_true rfl⟩ ⟨Nat.le_of_ble_eq_true rfl, Nat.le_of_ble_eq_true rfl⟩ dX8_linesAt_6 (fun H locs hM hS => ?_)
  refine lv_if_eq (tgt := 14) hx hb dX8_linesAt_9 (by decide) (fun c3 => ?_) (fun c3 => ?_)
  · replace h := gif_t c3 h
    refine lv_iconst (v := (0 : Int32)) hx hb dX8_linesAt_14 (by decide) ?_
    refine lv_istore_n (lv' := [(2, .int (0 : Int32)), (0, .ref (ad 60)), (1, .int p1)]) hx hb dX8_linesAt_15 rfl hl (by decide) rfl (fun ls hl => ?_)
    refine lv_iconst (v := (0 : Int32)) hx hb dX8_linesAt_16 (by decide) ?_
    refine lv_istore_n (lv' := [(3, .int (0 : Int32)), (2, .int (0 : Int32)), (0, .ref (ad 60)), (1, .int p1)]) hx hb dX8_linesAt_17 rfl hl (by decide) rfl (fun ls hl => ?_)
    obtain ⟨z9, h1, h⟩ := gbind_e h
    refine wl_X8_linesAt_18 F E (r := z9) (fun q8 H locs ls e1 hM hS hl => ?_) gFuel (0 : Int32) (0 : Int32) h1 hM hS (lv_sub hl [2, 3, 1, 0] rfl)
    replace e1 : z9 = q8 := e1
    rw [e1] at h
    refine lv_iload_n hx hb dX8_linesAt_52 rfl (lv_at hl 0 rfl) ?_
    obtain rfl := Option.some.inj h
    exact g_iret hx hb hr hlocks hM hS dX8_linesAt_53
  · replace h := gif_f c3 h
    refine lv_iconst (v := (0 : Int32)) hx hb dX8_linesAt_12 (by decide) ?_
    obtain rfl := Option.some.inj h
    exact g_iret hx hb hr hlocks hM hS dX8_linesAt_13
def b_X8_totalLength_9 (x1 : Int32) (x2 : Int32) (μ : gM) : Option ((Int32 × Int32) ⊕ (Int32)) :=
  Option.bind (f_X8_count (2 : Int32) μ) (fun q1 => if (q1 ≤ x2) then some (.inr x1) else Option.bind (f_X8_isActive x2 μ) (fun q3 => if ((b2i q3) = 0) then some (.inl ((x1 + (0 : Int32)), (x2 + (1 : Int32)))) else Option.bind (f_X8_length x2 μ) (fun q5 => some (.inl ((x1 + q5), (x2 + (1 : Int32)))))))
set_option maxHeartbeats 4000000 in
set_option maxRecDepth 100000 in
theorem wb_X8_totalLength_9 {p : Program} {l : Launch} {e : Env} {s : State} {m : MethodId} {args : Array Value} {below : List Frame} {meth : Method} {c : Code} {D : va_G} {cy : Nat → ClassId} {ad : Nat → Nat} {base : Nat} {x1 : Int32} {x2 : Int32} {μ : gM} {o : (Int32 × Int32) ⊕ (Int32)} {RES : Int32 × gM} (h : b_X8_totalLength_9 x1 x2 μ = some o) (F : gF p s m meth c cX8_totalLength RX8 3 (some .int)) (E : gEnv l D cy ad base s) (kc : ∀ (t : Int32 × Int32) {H : Heap} {locs : List Loc} {ls : Array Slot}, o = .inl t → gW gFull D cy ad base μ H → va_S (gA base) s.heap H locs → lv_has ls 3 [(0, .ref (ad 60)), (1, .int t.1), (2, .int t.2)] → W p l e ({ frames := 4, cells := 0, slots := 0, locals := 90 } : Room) s m args below meth c H locs 0 0 (MQ below (gQ (some (.int RES.1)) gFull D cy ad base RES.2) args s 0 0 (gA base)) (F0 m 9 ls [])) (kx : ∀ (t : Int32) {H : Heap} {locs : List Loc} {ls : Array Slot}, o = .inr t → gW gFull D cy ad base μ H → va_S (gA base) s.heap H locs → lv_has ls 3 [(1, .int t)] → W p l e ({ frames := 4, cells := 0, slots := 0, locals := 90 } : Room) s m args below meth c H locs 0 0 (MQ below (gQ (some (.int RES.1)) gFull D cy ad base RES.2) args s 0 0 (gA base)) (F0 m 44 ls []))  {H : Heap} {locs : List Loc} {ls : Array Slot} (hM : gW gFull D cy ad base μ H) (hS : va_S (gA base) s.heap H locs) (hl : lv_has ls 3 [(0, .ref (ad 60)), (1, .int x1), (2, .int x2)]) : W p l e ({ frames := 4, cells := 0, slots := 0, locals := 90 } : Room) s m args below meth c H locs 0 0 (MQ below (gQ (some (.int RES.1)) gFull D cy ad base RES.2) args s 0 0 (gA base)) (F0 m 9 ls []) := by
  obtain ⟨hx, hb, hml, hown, hlocks, hr⟩ := id F
  unfold b_X8_totalLength_9 at h
  refine lv_iload_n hx hb dX8_totalLength_9 rfl (lv_at hl 2 rfl) ?_
  refine lv_aload_n hx hb dX8_totalLength_10 rfl (lv_at hl 0 rfl) ?_
  refine lv_iconst (v := (2 : Int32)) hx hb dX8_totalLength_11 (by decide) ?_
  obtain ⟨q1, hq1, h⟩ := gbind_e h
  refine g_callV (As := [.int (2 : Int32)]) (rest := [.int x2]) hx hb (hml.trans hl.1.symm) hown E hM hS hy_X8_count kw_1498 (c_X8_count hq1) hk_60 dd_60 rfl rfl rfl (Nat.le_of_ble_eq_true rfl) ⟨Nat.le_of_ble_eq_true rfl, Nat.le_of_ble_eq_true rfl⟩ ⟨Nat.le_of_ble_eq_true rfl, Nat.le_of_ble_eq_true rfl⟩ dX8_totalLength_12 (fun H locs hM hS => ?_)
  refine lv_icmp_ge (tgt := 44) hx hb dX8_totalLength_15 (by decide) (fun c2 => ?_) (fun c2 => ?_)
  · replace h := gif_t c2 h
    exact kx _ (Option.some.inj h).symm hM hS (lv_sub hl [1] rfl)
  · replace h := gif_f c2 h
    refine lv_iload_n hx hb dX8_totalLength_18 rfl (lv_at hl 1 rfl) ?_
    refine lv_aload_n hx hb dX8_totalLength_19 rfl (lv_at hl 0 rfl) ?_
    refine lv_iload_n hx hb dX8_totalLength_20 rfl (lv_at hl 2 rfl) ?_
    obtain ⟨q3, hq3, h⟩ := gbind_e h
    refine g_callV (As := [.int x2]) (rest := [.int x1]) hx hb (hml.trans hl.1.symm) hown E hM hS hy_X8_isActive kw_1671 (c_X8_isActive hq3) hk_60 dd_60 rfl rfl rfl (Nat.le_of_ble_eq_true rfl) ⟨Nat.le_of_ble_eq_true rfl, Nat.le_of_ble_eq_true rfl⟩ ⟨Nat.le_of_ble_eq_true rfl, Nat.le_of_ble_eq_true rfl⟩ dX8_totalLength_21 (fun H locs hM hS => ?_)
    refine lv_if_eq (tgt := 35) hx hb dX8_totalLength_24 (by decide) (fun c4 => ?_) (fun c4 => ?_)
    · replace h := gif_t c4 h
      refine lv_iconst (v := (0 : Int32)) hx hb dX8_totalLength_35 (by decide) ?_
      refine lv_iadd hx hb dX8_totalLength_36 ?_
      refine lv_istore_n (lv' := [(1, .int (x1 + (0 : Int32))), (0, .ref (ad 60)), (2, .int x2)]) hx hb dX8_totalLength_37 rfl hl (by decide) rfl (fun ls hl => ?_)
      refine lv_iinc (v := (x2 + (1 : Int32))) (lv' := [(2, .int (x2 + (1 : Int32))), (1, .int (x1 + (0 : Int32))), (0, .ref (ad 60))]) hx hb dX8_totalLength_38 hl (k := 2) rfl rfl (by decide) rfl (fun ls hl => ?_)
      refine lv_goto (tgt := 9) hx hb dX8_totalLength_41 (by decide) ?_
      exact kc _ (Option.some.inj h).symm hM hS (lv_sub hl [2, 1, 0] rfl)
    · replace h := gif_f c4 h
      refine lv_aload_n hx hb dX8_totalLength_27 rfl (lv_at hl 0 rfl) ?_
      refine lv_iload_n hx hb dX8_totalLength_28 rfl (lv_at hl 2 rfl) ?_
      obtain ⟨q5, hq5, h⟩ := gbind_e h
      refine g_callV (As := [.int x2]) (rest := [.int x1]) hx hb (hml.trans hl.1.symm) hown E hM hS hy_X8_length kw_1587 (c_X8_length hq5) hk_60 dd_60 rfl rfl rfl (Nat.le_of_ble_eq_true rfl) ⟨Nat.le_of_ble_eq_true rfl, Nat.le_of_ble_eq_true rfl⟩ ⟨Nat.le_of_ble_eq_true rfl, Nat.le_of_ble_eq_true rfl⟩ dX8_totalLength_29 (fun H locs hM hS => ?_)
      refine lv_goto (tgt := 36) hx hb dX8_totalLength_32 (by decide) ?_
      refine lv_iadd hx hb dX8_totalLength_36 ?_
      refine lv_istore_n (lv' := [(1, .int (x1 + q5)), (0, .ref (ad 60)), (2, .int x2)]) hx hb dX8_totalLength_37 rfl hl (by decide) rfl (fun ls hl => ?_)
      refine lv_iinc (v := (x2 + (1 : Int32))) (lv' := [(2, .int (x2 + (1 : Int32))), (1, .int (x1 + q5)), (0, .ref (ad 60))]) hx hb dX8_totalLength_38 hl (k := 2) rfl rfl (by decide) rfl (fun ls hl => ?_)
      refine lv_goto (tgt := 9) hx hb dX8_totalLength_41 (by decide) ?_
      exact kc _ (Option.some.inj h).symm hM hS (lv_sub hl [2, 1, 0] rfl)
set_option maxHeartbeats 4000000 in
theorem wl_X8_totalLength_9 {p : Program} {l : Launch} {e : Env} {s : State} {m : MethodId} {args : Array Value} {below : List Frame} {meth : Method} {c : Code} {D : va_G} {cy : Nat → ClassId} {ad : Nat → Nat} {base : Nat}  {μ : gM} {r : Int32} {RES : Int32 × gM} (F : gF p s m meth c cX8_totalLength RX8 3 (some .int)) (E : gEnv l D cy ad base s) (kx : ∀ (t : Int32) {H : Heap} {locs : List Loc} {ls : Array Slot}, r = t → gW gFull D cy ad base μ H → va_S (gA base) s.heap H locs → lv_has ls 3 [(1, .int t)] → W p l e ({ frames := 4, cells := 0, slots := 0, locals := 90 } : Room) s m args below meth c H locs 0 0 (MQ below (gQ (some (.int RES.1)) gFull D cy ad base RES.2) args s 0 0 (gA base)) (F0 m 44 ls []))  : ∀ (n : Nat) (x1 : Int32) (x2 : Int32), gloop (fun t => b_X8_totalLength_9  t.1 t.2 μ) n (x1, x2) = some r → ∀ {H : Heap} {locs : List Loc} {ls : Array Slot}, gW gFull D cy ad base μ H → va_S (gA base) s.heap H locs → lv_has ls 3 [(0, .ref (ad 60)), (1, .int x1), (2, .int x2)] → W p l e ({ frames := 4, cells := 0, slots := 0, locals := 90 } : Room) s m args below meth c H locs 0 0 (MQ below (gQ (some (.int RES.1)) gFull D cy ad base RES.2) args s 0 0 (gA base)) (F0 m 9 ls []) := by
  intro n
  induction n with
  | zero =>
    intro x1 x2 h
    exact (gloop_0 h).elim
  | succ n ih =>
    intro x1 x2 h H locs ls hM hS hl
    obtain ⟨o, h0, hc, hq⟩ := gloop_s h
    have h1 : b_X8_totalLength_9 x1 x2 μ = some o := h0
    exact wb_X8_totalLength_9 h1 F E (fun t H locs ls ho hM hS hl => ih t.1 t.2 (hc t ho) hM hS hl) (fun t H locs ls ho hM hS hl => kx t (hq _ ho).symm hM hS hl) hM hS hl
def f_X8_totalLength (μ : gM) : Option (Int32 × gM) :=
  Option.bind (gloop (fun t => b_X8_totalLength_9  t.1 t.2 (si μ 60 6 (0 : Int32))) gFuel ((0 : Int32), (0 : Int32))) (fun q6 => some (q6, (si μ 60 6 (0 : Int32))))
set_option maxHeartbeats 4000000 in
set_option maxRecDepth 100000 in
theorem c_X8_totalLength {l : Launch} {D : va_G} {cy : Nat → ClassId} {ad : Nat → Nat} {base : Nat}  {μ : gM} {RES : Int32 × gM} (h : f_X8_totalLength  μ = some RES) : Met l yX8_totalLength [.code yX8_totalLength cX8_totalLength 3 (some .int)] ({ frames := 4, cells := 0, slots := 0, locals := 90 } : Room) (va_Pc [.ref (ad 60)] (gB l gFull D cy ad base μ)) (gQ (some (.int RES.1)) gFull D cy ad base RES.2) 0 0 (gA base) := by
  refine Met.ofW (cc := cX8_totalLength) (maxL := 3) (ret := (some .int)) (by decide) rfl ?_
  intro p e s m args below meth c s₁ B hml0 hv
  obtain ⟨rfl, E, hM⟩ := hv
  have F : gF p s m meth c cX8_totalLength RX8 3 (some .int) := gF_of B hml0
  obtain ⟨hx, hb, hml, hown, hlocks, hr⟩ := id F
  have hS : va_S (gA base) s.heap s.heap [] := va_S.rf
  have hl := lv_entry ([.ref (ad 60)]) (n := 3) (Nat.le_of_ble_eq_true rfl)
  rw [lg_entry_eq]
  generalize (lg_sl ([.ref (ad 60)]) ++ List.replicate (3 - (lg_sl ([.ref (ad 60)])).length) Slot.unset).toArray = ls at hl ⊢
  have hl : lv_has ls 3 [(0, .ref (ad 60))] := hl
  unfold f_X8_totalLength at h
  refine lv_aload_n hx hb dX8_totalLength_0 rfl (lv_at hl 0 rfl) ?_
  refine lv_iconst (v := (0 : Int32)) hx hb dX8_totalLength_1 (by decide) ?_
  refine gp_60_6 hx hb hown E hM hS hk_60 kw_1248 dX8_totalLength_2 (fun H locs hM hS => ?_)
  refine lv_iconst (v := (0 : Int32)) hx hb dX8_totalLength_5 (by decide) ?_
  refine lv_istore_n (lv' := [(1, .int (0 : Int32)), (0, .ref (ad 60))]) hx hb dX8_totalLength_6 rfl hl (by decide) rfl (fun ls hl => ?_)
  refine lv_iconst (v := (0 : Int32)) hx hb dX8_totalLength_7 (by decide) ?_
  refine lv_istore_n (lv' := [(2, .int (0 : Int32)), (1, .int (0 : Int32)), (0, .ref (ad 60))]) hx hb dX8_totalLength_8 rfl hl (by decide) rfl (fun ls hl => ?_)
  obtain ⟨z7, h1, h⟩ := gbind_e h
  refine wl_X8_totalLength_9 F E (r := z7) (fun q6 H locs ls e1 hM hS hl => ?_) gFuel (0 : Int32) (0 : Int32) h1 hM hS (lv_sub hl [2, 1, 0] rfl)
  replace e1 : z7 = q6 := e1
  rw [e1] at h
  refine lv_iload_n hx hb dX8_totalLength_44 rfl (lv_at hl 0 rfl) ?_
  obtain rfl := Option.some.inj h
  exact g_iret hx hb hr hlocks hM hS dX8_totalLength_45
def j_X8_part_73 (x2 : Int32) (x3 : Int32) (x4 : Int32) (x5 : Int32) (μ : gM) : Option ((Int32 × Int32) ⊕ (Int32)) :=
  Option.bind (f_X8_first x5 μ) (fun q10 => Option.bind (f_X8_second x5 μ) (fun q11 => some (.inl ((x3 ||| (((1 : Int32) <<< (q10 &&& 31)) ||| ((1 : Int32) <<< (q11 &&& 31)))), (x5 + (1 : Int32))))))
set_option maxHeartbeats 4000000 in
set_option maxRecDepth 100000 in
theorem wj_X8_part_73 {p : Program} {l : Launch} {e : Env} {s : State} {m : MethodId} {args : Array Value} {below : List Frame} {meth : Method} {c : Code} {D : va_G} {cy : Nat → ClassId} {ad : Nat → Nat} {base : Nat} {x2 : Int32} {x3 : Int32} {x4 : Int32} {x5 : Int32} {μ : gM} {o : (Int32 × Int32) ⊕ (Int32)} {RES : Int32} (h : j_X8_part_73 x2 x3 x4 x5 μ = some o) (F : gF p s m meth c cX8_part RX8 6 (some .int)) (E : gEnv l D cy ad base s) (kc : ∀ (t : Int32 × Int32) {H : Heap} {locs : List Loc} {ls : Array Slot}, o = .inl t → gW gFull D cy ad base μ H → va_S (gA base) s.heap H locs → lv_has ls 6 [(0, .ref (ad 60)), (2, .int x2), (3, .int t.1), (4, .int x4), (5, .int t.2)] → W p l e ({ frames := 1, cells := 0, slots := 0, locals := 21 } : Room) s m args below meth c H locs 0 0 (MQ below (gQ (some (.int RES)) gFull D cy ad base μ) args s 0 0 (gA base)) (F0 m 19 ls [])) (kx : ∀ (t : Int32) {H : Heap} {locs : List Loc} {ls : Array Slot}, o = .inr t → gW gFull D cy ad base μ H → va_S (gA base) s.heap H locs → lv_has ls 6 [(0, .ref (ad 60)), (2, .int x2), (3, .int t), (4, .int x4)] → W p l e ({ frames := 1, cells := 0, slots := 0, locals := 21 } : Room) s m args below meth c H locs 0 0 (MQ below (gQ (some (.int RES)) gFull D cy ad base μ) args s 0 0 (gA base)) (F0 m 99 ls []))  {H : Heap} {locs : List Loc} {ls : Array Slot} (hM : gW gFull D cy ad base μ H) (hS : va_S (gA base) s.heap H locs) (hl : lv_has ls 6 [(0, .ref (ad 60)), (2, .int x2), (3, .int x3), (4, .int x4), (5, .int x5)]) : W p l e ({ frames := 1, cells := 0, slots := 0, locals := 21 } : Room) s m args below meth c H locs 0 0 (MQ below (gQ (some (.int RES)) gFull D cy ad base μ) args s 0 0 (gA base)) (F0 m 73 ls []) := by
  obtain ⟨hx, hb, hml, hown, hlocks, hr⟩ := id F
  unfold j_X8_part_73 at h
  refine lv_iload_n hx hb dX8_part_73 rfl (lv_at hl 2 rfl) ?_
  refine lv_iconst (v := (1 : Int32)) hx hb dX8_part_74 (by decide) ?_
  refine lv_aload_n hx hb dX8_part_75 rfl (lv_at hl 0 rfl) ?_
  refine lv_iload hx hb dX8_part_76 (lv_at hl 4 rfl) ?_
  obtain ⟨q10, hq10, h⟩ := gbind_e h
  refine g_callV (As := [.int x5]) (rest := [.int (1 : Int32), .int x3]) hx hb (hml.trans hl.1.symm) hown E hM hS hy_X8_first kw_1575 (c_X8_first hq10) hk_60 dd_60 rfl rfl rfl (Nat.le_of_ble_eq_true rfl) ⟨Nat.le_of_ble_eq_true rfl, Nat.le_of_ble_eq_true rfl⟩ ⟨Nat.le_of_ble_eq_true rfl, Nat.le_of_ble_eq_true rfl⟩ dX8_part_78 (fun H locs hM hS => ?_)
  refine lv_ishl hx hb dX8_part_81 ?_
  refine lv_iconst (v := (1 : Int32)) hx hb dX8_part_82 (by decide) ?_
  refine lv_aload_n hx hb dX8_part_83 rfl (lv_at hl 0 rfl) ?_
  refine lv_iload hx hb dX8_part_84 (lv_at hl 4 rfl) ?_
  obtain ⟨q11, hq11, h⟩ := gbind_e h
  refine g_callV (As := [.int x5]) (rest := [.int (1 : Int32), .int ((1 : Int32) <<< (q10 &&& 31)), .int x3]) hx hb (hml.trans hl.1.symm) hown E hM hS hy_X8_second kw_1579 (c_X8_second hq11) hk_60 dd_60 rfl rfl rfl (Nat.le_of_ble_eq_true rfl) ⟨Nat.le_of_ble_eq_true rfl, Nat.le_of_ble_eq_true rfl⟩ ⟨Nat.le_of_ble_eq_true rfl, Nat.le_of_ble_eq_true rfl⟩ dX8_part_86 (fun H locs hM hS => ?_)
  refine lv_ishl hx hb dX8_part_89 ?_
  refine lv_ior hx hb dX8_part_90 ?_
  refine lv_ior hx hb dX8_part_91 ?_
  refine lv_istore_n (lv' := [(3, .int (x3 ||| (((1 : Int32) <<< (q10 &&& 31)) ||| ((1 : Int32) <<< (q11 &&& 31))))), (0, .ref (ad 60)), (2, .int x2), (4, .int x4), (5, .int x5)]) hx hb dX8_part_92 rfl hl (by decide) rfl (fun ls hl => ?_)
  refine lv_iinc (v := (x5 + (1 : Int32))) (lv' := [(5, .int (x5 + (1 : Int32))), (3, .int (x3 ||| (((1 : Int32) <<< (q10 &&& 31)) ||| ((1 : Int32) <<< (q11 &&& 31))))), (0, .ref (ad 60)), (2, .int x2), (4, .int x4)]) hx hb dX8_part_93 hl (k := 4) rfl rfl (by decide) rfl (fun ls hl => ?_)
  refine lv_goto (tgt := 19) hx hb dX8_part_96 (by decide) ?_
  exact kc _ (Option.some.inj h).symm hM hS (lv_sub hl [2, 3, 1, 4, 0] rfl)
def b_X8_part_19 (x2 : Int32) (x4 : Int32) (x3 : Int32) (x5 : Int32) (μ : gM) : Option ((Int32 × Int32) ⊕ (Int32)) :=
  Option.bind (f_X8_count (2 : Int32) μ) (fun q2 => if (q2 ≤ x5) then some (.inr x3) else Option.bind (f_X8_isActive x5 μ) (fun q4 => if ((b2i q4) = 0) then some (.inl (x3, (x5 + (1 : Int32)))) else if (x5 = x2) then some (.inl (x3, (x5 + (1 : Int32)))) else Option.bind (f_X8_first x5 μ) (fun q7 => Option.bind (f_X8_has x3 q7 μ) (fun q8 => if ((b2i q8) = 0) then Option.bind (f_X8_second x5 μ) (fun q12 => Option.bind (f_X8_has x3 q12 μ) (fun q13 => if ((b2i q13) = 0) then some (.inl (x3, (x5 + (1 : Int32)))) else j_X8_part_73 x2 x3 x4 x5 μ)) else j_X8_part_73 x2 x3 x4 x5 μ))))
set_option maxHeartbeats 4000000 in
set_option maxRecDepth 100000 in
theorem wb_X8_part_19 {p : Program} {l : Launch} {e : Env} {s : State} {m : MethodId} {args : Array Value} {below : List Frame} {meth : Method} {c : Code} {D : va_G} {cy : Nat → ClassId} {ad : Nat → Nat} {base : Nat} {x2 : Int32} {x4 : Int32} {x3 : Int32} {x5 : Int32} {μ : gM} {o : (Int32 × Int32) ⊕ (Int32)} {RES : Int32} (h : b_X8_part_19 x2 x4 x3 x5 μ = some o) (F : gF p s m meth c cX8_part RX8 6 (some .int)) (E : gEnv l D cy ad base s) (kc : ∀ (t : Int32 × Int32) {H : Heap} {locs : List Loc} {ls : Array Slot}, o = .inl t → gW gFull D cy ad base μ H → va_S (gA base) s.heap H locs → lv_has ls 6 [(0, .ref (ad 60)), (2, .int x2), (3, .int t.1), (4, .int x4), (5, .int t.2)] → W p l e ({ frames := 1, cells := 0, slots := 0, locals := 21 } : Room) s m args below meth c H locs 0 0 (MQ below (gQ (some (.int RES)) gFull D cy ad base μ) args s 0 0 (gA base)) (F0 m 19 ls [])) (kx : ∀ (t : Int32) {H : Heap} {locs : List Loc} {ls : Array Slot}, o = .inr t → gW gFull D cy ad base μ H → va_S (gA base) s.heap H locs → lv_has ls 6 [(0, .ref (ad 60)), (2, .int x2), (3, .int t), (4, .int x4)] → W p l e ({ frames := 1, cells := 0, slots := 0, locals := 21 } : Room) s m args below meth c H locs 0 0 (MQ below (gQ (some (.int RES)) gFull D cy ad base μ) args s 0 0 (gA base)) (F0 m 99 ls []))  {H : Heap} {locs : List Loc} {ls : Array Slot} (hM : gW gFull D cy ad base μ H) (hS : va_S (gA base) s.heap H locs) (hl : lv_has ls 6 [(0, .ref (ad 60)), (2, .int x2), (3, .int x3), (4, .int x4), (5, .int x5)]) : W p l e ({ frames := 1, cells := 0, slots := 0, locals := 21 } : Room) s m args below meth c H locs 0 0 (MQ below (gQ (some (.int RES)) gFull D cy ad base μ) args s 0 0 (gA base)) (F0 m 19 ls []) := by
  obtain ⟨hx, hb, hml, hown, hlocks, hr⟩ := id F
  unfold b_X8_part_19 at h
  refine lv_iload hx hb dX8_part_19 (lv_at hl 4 rfl) ?_
  refine lv_aload_n hx hb dX8_part_21 rfl (lv_at hl 0 rfl) ?_
  refine lv_iconst (v := (2 : Int32)) hx hb dX8_part_22 (by decide) ?_
  obtain ⟨q2, hq2, h⟩ := gbind_e h
  refine g_callV (As := [.int (2 : Int32)]) (rest := [.int x5]) hx hb (hml.trans hl.1.symm) hown E hM hS hy_X8_count kw_1498 (c_X8_count hq2) hk_60 dd_60 rfl rfl rfl (Nat.le_of_ble_eq_true rfl) ⟨Nat.le_of_ble_eq_true rfl, Nat.le_of_ble_eq_true rfl⟩ ⟨Nat.le_of_ble_eq_true rfl, Nat.le_of_ble_eq_true rfl⟩ dX8_part_23 (fun H locs hM hS => ?_)
  refine lv_icmp_ge (tgt := 99) hx hb dX8_part_26 (by decide) (fun c3 => ?_) (fun c3 => ?_)
  · replace h := gif_t c3 h
    exact kx _ (Option.some.inj h).symm hM hS (lv_sub hl [0, 1, 2, 3] rfl)
  · replace h := gif_f c3 h
    refine lv_aload_n hx hb dX8_part_29 rfl (lv_at hl 0 rfl) ?_
    refine lv_iload hx hb dX8_part_30 (lv_at hl 4 rfl) ?_
    obtain ⟨q4, hq4, h⟩ := gbind_e h
    refine g_callV (As := [.int x5]) (rest := []) hx hb (hml.trans hl.1.symm) hown E hM hS hy_X8_isActive kw_1671 (c_X8_isActive hq4) hk_60 dd_60 rfl rfl rfl (Nat.le_of_ble_eq_true rfl) ⟨Nat.le_of_ble_eq_true rfl, Nat.le_of_ble_eq_true rfl⟩ ⟨Nat.le_of_ble_eq_true rfl, Nat.le_of_ble_eq_true rfl⟩ dX8_part_32 (fun H locs hM hS => ?_)
    refine lv_if_eq (tgt := 93) hx hb dX8_part_35 (by decide) (fun c5 => ?_) (fun c5 => ?_)
    · replace h := gif_t c5 h
      refine lv_iinc (v := (x5 + (1 : Int32))) (lv' := [(5, .int (x5 + (1 : Int32))), (0, .ref (ad 60)), (2, .int x2), (3, .int x3), (4, .int x4)]) hx hb dX8_part_93 hl (k := 4) rfl rfl (by decide) rfl (fun ls hl => ?_)
      refine lv_goto (tgt := 19) hx hb dX8_part_96 (by decide) ?_
      exact kc _ (Option.some.inj h).symm hM hS (lv_sub hl [1, 2, 3, 4, 0] rfl)
    · replace h := gif_f c5 h
      refine lv_iload hx hb dX8_part_38 (lv_at hl 4 rfl) ?_
      refine lv_iload_n hx hb dX8_part_40 rfl (lv_at hl 1 rfl) ?_
      refine lv_icmp_ne (tgt := 47) hx hb dX8_part_41 (by decide) (fun c6 => ?_) (fun c6 => ?_)
      · replace h := gif_f c6 h
        refine lv_iload_n hx hb dX8_part_47 rfl (lv_at hl 2 rfl) ?_
        refine lv_aload_n hx hb dX8_part_48 rfl (lv_at hl 0 rfl) ?_
        refine lv_iload hx hb dX8_part_49 (lv_at hl 4 rfl) ?_
        obtain ⟨q7, hq7, h⟩ := gbind_e h
        refine g_callV (As := [.int x5]) (rest := [.int x3]) hx hb (hml.trans hl.1.symm) hown E hM hS hy_X8_first kw_1575 (c_X8_first hq7) hk_60 dd_60 rfl rfl rfl (Nat.le_of_ble_eq_true rfl) ⟨Nat.le_of_ble_eq_true rfl, Nat.le_of_ble_eq_true rfl⟩ ⟨Nat.le_of_ble_eq_true rfl, Nat.le_of_ble_eq_true rfl⟩ dX8_part_51 (fun H locs hM hS => ?_)
        obtain ⟨q8, hq8, h⟩ := gbind_e h
        refine g_callS (As := [.int x3, .int q7]) (rest := []) hx hb (hml.trans hl.1.symm) hown E hM hS hy_X8_has kw_1485 (c_X8_has hq8) rfl rfl (Nat.le_of_ble_eq_true rfl) ⟨Nat.le_of_ble_eq_true rfl, Nat.le_of_ble_eq_true rfl⟩ ⟨Nat.le_of_ble_eq_true rfl, Nat.le_of_ble_eq_true rfl⟩ dX8_part_54 (fun H locs hM hS => ?_)
        refine lv_if_ne (tgt := 73) hx hb dX8_part_57 (by decide) (fun c9 => ?_) (fun c9 => ?_)
        · replace h := gif_f c9 h
          exact wj_X8_part_73 h F E kc kx hM hS hl
        · replace h := gif_t c9 h
          refine lv_iload_n hx hb dX8_part_60 rfl (lv_at hl 2 rfl) ?_
          refine lv_aload_n hx hb dX8_part_61 rfl (lv_at hl 0 rfl) ?_
          refine lv_iload hx hb dX8_part_62 (lv_at hl 4 rfl) ?_
          obtain ⟨q12, hq12, h⟩ := gbind_e h
          refine g_callV (As := [.int x5]) (rest := [.int x3]) hx hb (hml.trans hl.1.symm) hown E hM hS hy_X8_second kw_1579 (c_X8_second hq12) hk_60 dd_60 rfl rfl rfl (Nat.le_of_ble_eq_true rfl) ⟨Nat.le_of_ble_eq_true rfl, Nat.le_of_ble_eq_true rfl⟩ ⟨Nat.le_of_ble_eq_true rfl, Nat.le_of_ble_eq_true rfl⟩ dX8_part_64 (fun H locs hM hS => ?_)
          obtain ⟨q13, hq13, h⟩ := gbind_e h
          refine g_callS (As := [.int x3, .int q12]) (rest := []) hx hb (hml.trans hl.1.symm) hown E hM hS hy_X8_has kw_1485 (c_X8_has hq13) rfl rfl (Nat.le_of_ble_eq_true rfl) ⟨Nat.le_of_ble_eq_true rfl, Nat.le_of_ble_eq_true rfl⟩ ⟨Nat.le_of_ble_eq_true rfl, Nat.le_of_ble_eq_true rfl⟩ dX8_part_67 (fun H locs hM hS => ?_)
          refine lv_if_eq (tgt := 93) hx hb dX8_part_70 (by decide) (fun c14 => ?_) (fun c14 => ?_)
          · replace h := gif_t c14 h
            refine lv_iinc (v := (x5 + (1 : Int32))) (lv' := [(5, .int (x5 + (1 : Int32))), (0, .ref (ad 60)), (2, .int x2), (3, .int x3), (4, .int x4)]) hx hb dX8_part_93 hl (k := 4) rfl rfl (by decide) rfl (fun ls hl => ?_)
            refine lv_goto (tgt := 19) hx hb dX8_part_96 (by decide) ?_
            exact kc _ (Option.some.inj h).symm hM hS (lv_sub hl [1, 2, 3, 4, 0] rfl)
          · replace h := gif_f c14 h
            exact wj_X8_part_73 h F E kc kx hM hS hl
      · replace h := gif_t c6 h
        refine lv_goto (tgt := 93) hx hb dX8_part_44 (by decide) ?_
        refine lv_iinc (v := (x5 + (1 : Int32))) (lv' := [(5, .int (x5 + (1 : Int32))), (0, .ref (ad 60)), (2, .int x2), (3, .int x3), (4, .int x4)]) hx hb dX8_part_93 hl (k := 4) rfl rfl (by decide) rfl (fun ls hl => ?_)
        refine lv_goto (tgt := 19) hx hb dX8_part_96 (by decide) ?_
        exact kc _ (Option.some.inj h).symm hM hS (lv_sub hl [1, 2, 3, 4, 0] rfl)
set_option maxHeartbeats 4000000 in
theorem wl_X8_part_19 {p : Program} {l : Launch} {e : Env} {s : State} {m : MethodId} {args : Array Value} {below : List Frame} {meth : Method} {c : Code} {D : va_G} {cy : Nat → ClassId} {ad : Nat → Nat} {base : Nat} {x2 : Int32} {x4 : Int32} {μ : gM} {r : Int32} {RES : Int32} (F : gF p s m meth c cX8_part RX8 6 (some .int)) (E : gEnv l D cy ad base s) (kx : ∀ (t : Int32) {H : Heap} {locs : List Loc} {ls : Array Slot}, r = t → gW gFull D cy ad base μ H → va_S (gA base) s.heap H locs → lv_has ls 6 [(0, .ref (ad 60)), (2, .int x2), (3, .int t), (4, .int x4)] → W p l e ({ frames := 1, cells := 0, slots := 0, locals := 21 } : Room) s m args below meth c H locs 0 0 (MQ below (gQ (some (.int RES)) gFull D cy ad base μ) args s 0 0 (gA base)) (F0 m 99 ls []))  : ∀ (n : Nat) (x3 : Int32) (x5 : Int32), gloop (fun t => b_X8_part_19 x2 x4 t.1 t.2 μ) n (x3, x5) = some r → ∀ {H : Heap} {locs : List Loc} {ls : Array Slot}, gW gFull D cy ad base μ H → va_S (gA base) s.heap H locs → lv_has ls 6 [(0, .ref (ad 60)), (2, .int x2), (3, .int x3), (4, .int x4), (5, .int x5)] → W p l e ({ frames := 1, cells := 0, slots := 0, locals := 21 } : Room) s m args below meth c H locs 0 0 (MQ below (gQ (some (.int RES)) gFull D cy ad base μ) args s 0 0 (gA base)) (F0 m 19 ls []) := by
  intro n
  induction n with
  | zero =>
    intro x3 x5 h
    exact (gloop_0 h).elim
  | succ n ih =>
    intro x3 x5 h H locs ls hM hS hl
    obtain ⟨o, h0, hc, hq⟩ := gloop_s h
    have h1 : b_X8_part_19 x2 x4 x3 x5 μ = some o := h0
    exact wb_X8_part_19 h1 F E (fun t H locs ls ho hM hS hl => ih t.1 t.2 (hc t ho) hM hS hl) (fun t H locs ls ho hM hS hl => kx t (hq _ ho).symm hM hS hl) hM hS hl
def b_X8_part_7 (x2 : Int32) (x3 : Int32) (x4 : Int32) (μ : gM) : Option ((Int32 × Int32) ⊕ (Int32)) :=
  if (x4 = x3) then some (.inr x3) else Option.bind (gloop (fun t => b_X8_part_19 x2 x3 t.1 t.2 μ) gFuel (x3, (0 : Int32))) (fun q15 => some (.inl (q15, x3)))
set_option maxHeartbeats 4000000 in
set_option maxRecDepth 100000 in
theorem wb_X8_part_7 {p : Program} {l : Launch} {e : Env} {s : State} {m : MethodId} {args : Array Value} {below : List Frame} {meth : Method} {c : Code} {D : va_G} {cy : Nat → ClassId} {ad : Nat → Nat} {base : Nat} {x2 : Int32} {x3 : Int32} {x4 : Int32} {μ : gM} {o : (Int32 × Int32) ⊕ (Int32)} {RES : Int32} (h : b_X8_part_7 x2 x3 x4 μ = some o) (F : gF p s m meth c cX8_part RX8 6 (some .int)) (E : gEnv l D cy ad base s) (kc : ∀ (t : Int32 × Int32) {H : Heap} {locs : List Loc} {ls : Array Slot}, o = .inl t → gW gFull D cy ad base μ H → va_S (gA base) s.heap H locs → lv_has ls 6 [(0, .ref (ad 60)), (2, .int x2), (3, .int t.1), (4, .int t.2)] → W p l e ({ frames := 1, cells := 0, slots := 0, locals := 21 } : Room) s m args below meth c H locs 0 0 (MQ below (gQ (some (.int RES)) gFull D cy ad base μ) args s 0 0 (gA base)) (F0 m 7 ls [])) (kx : ∀ (t : Int32) {H : Heap} {locs : List Loc} {ls : Array Slot}, o = .inr t → gW gFull D cy ad base μ H → va_S (gA base) s.heap H locs → lv_has ls 6 [(3, .int t)] → W p l e ({ frames := 1, cells := 0, slots := 0, locals := 21 } : Room) s m args below meth c H locs 0 0 (MQ below (gQ (some (.int RES)) gFull D cy ad base μ) args s 0 0 (gA base)) (F0 m 102 ls []))  {H : Heap} {locs : List Loc} {ls : Array Slot} (hM : gW gFull D cy ad base μ H) (hS : va_S (gA base) s.heap H locs) (hl : lv_has ls 6 [(0, .ref (ad 60)), (2, .int x2), (3, .int x3), (4, .int x4)]) : W p l e ({ frames := 1, cells := 0, slots := 0, locals := 21 } : Room) s m args below meth c H locs 0 0 (MQ below (gQ (some (.int RES)) gFull D cy ad base μ) args s 0 0 (gA base)) (F0 m 7 ls []) := by
  obtain ⟨hx, hb, hml, hown, hlocks, hr⟩ := id F
  unfold b_X8_part_7 at h
  refine lv_iload hx hb dX8_part_7 (lv_at hl 3 rfl) ?_
  refine lv_iload_n hx hb dX8_part_9 rfl (lv_at hl 2 rfl) ?_
  refine lv_icmp_eq (tgt := 102) hx hb dX8_part_10 (by decide) (fun c1 => ?_) (fun c1 => ?_)
  · replace h := gif_t c1 h
    exact kx _ (Option.some.inj h).symm hM hS (lv_sub hl [2] rfl)
  · replace h := gif_f c1 h
    refine lv_iload_n hx hb dX8_part_13 rfl (lv_at hl 2 rfl) ?_
    refine lv_istore (lv' := [(4, .int x3), (0, .ref (ad 60)), (2, .int x2), (3, .int x3)]) hx hb dX8_part_14 hl (by decide) rfl (fun ls hl => ?_)
    refine lv_iconst (v := (0 : Int32)) hx hb dX8_part_16 (by decide) ?_
    refine lv_istore (lv' := [(5, .int (0 : Int32)), (4, .int x3), (0, .ref (ad 60)), (2, .int x2), (3, .int x3)]) hx hb dX8_part_17 hl (by decide) rfl (fun ls hl => ?_)
    obtain ⟨z16, h1, h⟩ := gbind_e h
    refine wl_X8_part_19 F E (r := z16) (fun q15 H locs ls e1 hM hS hl => ?_) gFuel x3 (0 : Int32) h1 hM hS (lv_sub hl [2, 3, 4, 1, 0] rfl)
    replace e1 : z16 = q15 := e1
    rw [e1] at h
    refine lv_goto (tgt := 7) hx hb dX8_part_99 (by decide) ?_
    exact kc _ (Option.some.inj h).symm hM hS hl
set_option maxHeartbeats 4000000 in
theorem wl_X8_part_7 {p : Program} {l : Launch} {e : Env} {s : State} {m : MethodId} {args : Array Value} {below : List Frame} {meth : Method} {c : Code} {D : va_G} {cy : Nat → ClassId} {ad : Nat → Nat} {base : Nat} {x2 : Int32} {μ : gM} {r : Int32} {RES : Int32} (F : gF p s m meth c cX8_part RX8 6 (some .int)) (E : gEnv l D cy ad base s) (kx : ∀ (t : Int32) {H : Heap} {locs : List Loc} {ls : Array Slot}, r = t → gW gFull D cy ad base μ H → va_S (gA base) s.heap H locs → lv_has ls 6 [(3, .int t)] → W p l e ({ frames := 1, cells := 0, slots := 0, locals := 21 } : Room) s m args below meth c H locs 0 0 (MQ below (gQ (some (.int RES)) gFull D cy ad base μ) args s 0 0 (gA base)) (F0 m 102 ls []))  : ∀ (n : Nat) (x3 : Int32) (x4 : Int32), gloop (fun t => b_X8_part_7 x2 t.1 t.2 μ) n (x3, x4) = some r → ∀ {H : Heap} {locs : List Loc} {ls : Array Slot}, gW gFull D cy ad base μ H → va_S (gA base) s.heap H locs → lv_has ls 6 [(0, .ref (ad 60)), (2, .int x2), (3, .int x3), (4, .int x4)] → W p l e ({ frames := 1, cells := 0, slots := 0, locals := 21 } : Room) s m args below meth c H locs 0 0 (MQ below (gQ (some (.int RES)) gFull D cy ad base μ) args s 0 0 (gA base)) (F0 m 7 ls []) := by
  intro n
  induction n with
  | zero =>
    intro x3 x4 h
    exact (gloop_0 h).elim
  | succ n ih =>
    intro x3 x4 h H locs ls hM hS hl
    obtain ⟨o, h0, hc, hq⟩ := gloop_s h
    have h1 : b_X8_part_7 x2 x3 x4 μ = some o := h0
    exact wb_X8_part_7 h1 F E (fun t H locs ls ho hM hS hl => ih t.1 t.2 (hc t ho) hM hS hl) (fun t H locs ls ho hM hS hl => kx t (hq _ ho).symm hM hS hl) hM hS hl
def f_X8_part (p1 : Int32) (p2 : Int32) (μ : gM) : Option (Int32) :=
  Option.bind (gloop (fun t => b_X8_part_7 p2 t.1 t.2 μ) gFuel (((1 : Int32) <<< (p1 &&& 31)), (0 : Int32))) (fun q17 => some q17)
set_option maxHeartbeats 4000000 in
set_option maxRecDepth 100000 in
theorem c_X8_part {l : Launch} {D : va_G} {cy : Nat → ClassId} {ad : Nat → Nat} {base : Nat} {p1 : Int32} {p2 : Int32} {μ : gM} {RES : Int32} (h : f_X8_part p1 p2 μ = some RES) : Met l yX8_part [.code yX8_part cX8_part 6 (some .int)] ({ frames := 1, cells := 0, slots := 0, locals := 21 } : Room) (va_Pc [.ref (ad 60), .int p1, .int p2] (gB l gFull D cy ad base μ)) (gQ (some (.int RES)) gFull D cy ad base μ) 0 0 (gA base) := by
  refine Met.ofW (cc := cX8_part) (maxL := 6) (ret := (some .int)) (by decide) rfl ?_
  intro p e s m args below meth c s₁ B hml0 hv
  obtain ⟨rfl, E, hM⟩ := hv
  have F : gF p s m meth c cX8_part RX8 6 (some .int) := gF_of B hml0
  obtain ⟨hx, hb, hml, hown, hlocks, hr⟩ := id F
  have hS : va_S (gA base) s.heap s.heap [] := va_S.rf
  have hl := lv_entry ([.ref (ad 60), .int p1, .int p2]) (n := 6) (Nat.le_of_ble_eq_true rfl)
  rw [lg_entry_eq]
  generalize (lg_sl ([.ref (ad 60), .int p1, .int p2]) ++ List.replicate (6 - (lg_sl ([.ref (ad 60), .int p1, .int p2])).length) Slot.unset).toArray = ls at hl ⊢
  have hl : lv_has ls 6 [(0, .ref (ad 60)), (1, .int p1), (2, .int p2)] := hl
  unfold f_X8_part at h
  refine lv_iconst (v := (1 : Int32)) hx hb dX8_part_0 (by decide) ?_
  refine lv_iload_n hx hb dX8_part_1 rfl (lv_at hl 1 rfl) ?_
  refine lv_ishl hx hb dX8_part_2 ?_
  refine lv_istore_n (lv' := [(3, .int ((1 : Int32) <<< (p1 &&& 31))), (0, .ref (ad 60)), (1, .int p1), (2, .int p2)]) hx hb dX8_part_3 rfl hl (by decide) rfl (fun ls hl => ?_)
  refine lv_iconst (v := (0 : Int32)) hx hb dX8_part_4 (by decide) ?_
  refine lv_istore (lv' := [(4, .int (0 : Int32)), (3, .int ((1 : Int32) <<< (p1 &&& 31))), (0, .ref (ad 60)), (1, .int p1), (2, .int p2)]) hx hb dX8_part_5 hl (by decide) rfl (fun ls hl => ?_)
  obtain ⟨z18, h1, h⟩ := gbind_e h
  refine wl_X8_part_7 F E (r := z18) (fun q17 H locs ls e1 hM hS hl => ?_) gFuel ((1 : Int32) <<< (p1 &&& 31)) (0 : Int32) h1 hM hS (lv_sub hl [2, 4, 1, 0] rfl)
  replace e1 : z18 = q17 := e1
  rw [e1] at h
  refine lv_iload_n hx hb dX8_part_102 rfl (lv_at hl 0 rfl) ?_
  obtain rfl := Option.some.inj h
  exact g_iret hx hb hr hlocks hM hS dX8_part_103
def b_X8_lowest_2 (x0 : Int32) (x1 : Int32) (μ : gM) : Option ((Int32) ⊕ (Int32)) :=
  Option.bind (f_X8_has x0 x1 μ) (fun q1 => if ((b2i q1) = 0) then some (.inl (x1 + (1 : Int32))) else some (.inr x1))
set_option maxHeartbeats 4000000 in
set_option maxRecDepth 100000 in
theorem wb_X8_lowest_2 {p : Program} {l : Launch} {e : Env} {s : State} {m : MethodId} {args : Array Value} {below : List Frame} {meth : Method} {c : Code} {D : va_G} {cy : Nat → ClassId} {ad : Nat → Nat} {base : Nat} {x0 : Int32} {x1 : Int32} {μ : gM} {o : (Int32) ⊕ (Int32)} {RES : Int32} (h : b_X8_lowest_2 x0 x1 μ = some o) (F : gF p s m meth c cX8_lowest RX8 2 (some .int)) (E : gEnv l D cy ad base s) (kc : ∀ (t : Int32) {H : Heap} {locs : List Loc} {ls : Array Slot}, o = .inl t → gW gFull D cy ad base μ H → va_S (gA base) s.heap H locs → lv_has ls 2 [(0, .int x0), (1, .int t)] → W p l e ({ frames := 1, cells := 0, slots := 0, locals := 21 } : Room) s m args below meth c H locs 0 0 (MQ below (gQ (some (.int RES)) gFull D cy ad base μ) args s 0 0 (gA base)) (F0 m 2 ls [])) (kx : ∀ (t : Int32) {H : Heap} {locs : List Loc} {ls : Array Slot}, o = .inr t → gW gFull D cy ad base μ H → va_S (gA base) s.heap H locs → lv_has ls 2 [(1, .int t)] → W p l e ({ frames := 1, cells := 0, slots := 0, locals := 21 } : Room) s m args below meth c H locs 0 0 (MQ below (gQ (some (.int RES)) gFull D cy ad base μ) args s 0 0 (gA base)) (F0 m 16 ls []))  {H : Heap} {locs : List Loc} {ls : Array Slot} (hM : gW gFull D cy ad base μ H) (hS : va_S (gA base) s.heap H locs) (hl : lv_has ls 2 [(0, .int x0), (1, .int x1)]) : W p l e ({ frames := 1, cells := 0, slots := 0, locals := 21 } : Room) s m args below meth c H locs 0 0 (MQ below (gQ (some (.int RES)) gFull D cy ad base μ) args s 0 0 (gA base)) (F0 m 2 ls []) := by
  obtain ⟨hx, hb, hml, hown, hlocks, hr⟩ := id F
  unfold b_X8_lowest_2 at h
  refine lv_iload_n hx hb dX8_lowest_2 rfl (lv_at hl 0 rfl) ?_
  refine lv_iload_n hx hb dX8_lowest_3 rfl (lv_at hl 1 rfl) ?_
  obtain ⟨q1, hq1, h⟩ := gbind_e h
  refine g_callS (As := [.int x0, .int x1]) (rest := []) hx hb (hml.trans hl.1.symm) hown E hM hS hy_X8_has kw_1485 (c_X8_has hq1) rfl rfl (Nat.le_of_ble_eq_true rfl) ⟨Nat.le_of_ble_eq_true rfl, Nat.le_of_ble_eq_true rfl⟩ ⟨Nat.le_of_ble_eq_true rfl, Nat.le_of_ble_eq_true rfl⟩ dX8_lowest_4 (fun H locs hM hS => ?_)
  refine lv_if_ne (tgt := 16) hx hb dX8_lowest_7 (by decide) (fun c2 => ?_) (fun c2 => ?_)
  · replace h := gif_f c2 h
    exact kx _ (Option.some.inj h).symm hM hS (lv_sub hl [1] rfl)
  · replace h := gif_t c2 h
    refine lv_iinc (v := (x1 + (1 : Int32))) (lv' := [(1, .int (x1 + (1 : Int32))), (0, .int x0)]) hx hb dX8_lowest_10 hl (k := 1) rfl rfl (by decide) rfl (fun ls hl => ?_)
    refine lv_goto (tgt := 2) hx hb dX8_lowest_13 (by decide) ?_
    exact kc _ (Option.some.inj h).symm hM hS (lv_sub hl [1, 0] rfl)
set_option maxHeartbeats 4000000 in
theorem wl_X8_lowest_2 {p : Program} {l : Launch} {e : Env} {s : State} {m : MethodId} {args : Array Value} {below : List Frame} {meth : Method} {c : Code} {D : va_G} {cy : Nat → ClassId} {ad : Nat → Nat} {base : Nat} {x0 : Int32} {μ : gM} {r : Int32} {RES : Int32} (F : gF p s m meth c cX8_lowest RX8 2 (some .int)) (E : gEnv l D cy ad base s) (kx : ∀ (t : Int32) {H : Heap} {locs : List Loc} {ls : Array Slot}, r = t → gW gFull D cy ad base μ H → va_S (gA base) s.heap H locs → lv_has ls 2 [(1, .int t)] → W p l e ({ frames := 1, cells := 0, slots := 0, locals := 21 } : Room) s m args below meth c H locs 0 0 (MQ below (gQ (some (.int RES)) gFull D cy ad base μ) args s 0 0 (gA base)) (F0 m 16 ls []))  : ∀ (n : Nat) (x1 : Int32), gloop (fun t => b_X8_lowest_2 x0 t μ) n x1 = some r → ∀ {H : Heap} {locs : List Loc} {ls : Array Slot}, gW gFull D cy ad base μ H → va_S (gA base) s.heap H locs → lv_has ls 2 [(0, .int x0), (1, .int x1)] → W p l e ({ frames := 1, cells := 0, slots := 0, locals := 21 } : Room) s m args below meth c H locs 0 0 (MQ below (gQ (some (.int RES)) gFull D cy ad base μ) args s 0 0 (gA base)) (F0 m 2 ls []) := by
  intro n
  induction n with
  | zero =>
    intro x1 h
    exact (gloop_0 h).elim
  | succ n ih =>
    intro x1 h H locs ls hM hS hl
    obtain ⟨o, h0, hc, hq⟩ := gloop_s h
    have h1 : b_X8_lowest_2 x0 x1 μ = some o := h0
    exact wb_X8_lowest_2 h1 F E (fun t H locs ls ho hM hS hl => ih t (hc t ho) hM hS hl) (fun t H locs ls ho hM hS hl => kx t (hq _ ho).symm hM hS hl) hM hS hl
def f_X8_lowest (p1 : Int32) (μ : gM) : Option (Int32) :=
  Option.bind (gloop (fun t => b_X8_lowest_2 p1 t μ) gFuel (0 : Int32)) (fun q3 => some q3)
set_option maxHeartbeats 4000000 in
set_option maxRecDepth 100000 in
theorem c_X8_lowest {l : Launch} {D : va_G} {cy : Nat → ClassId} {ad : Nat → Nat} {base : Nat} {p1 : Int32} {μ : gM} {RES : Int32} (h : f_X8_lowest p1 μ = some RES) : Met l yX8_lowest [.code yX8_lowest cX8_lowest 2 (some .int)] ({ frames := 1, cells := 0, slots := 0, locals := 21 } : Room) (va_Pc [.int p1] (gB l gFull D cy ad base μ)) (gQ (some (.int RES)) gFull D cy ad base μ) 0 0 (gA base) := by
  refine Met.ofW (cc := cX8_lowest) (maxL := 2) (ret := (some .int)) (by decide) rfl ?_
  intro p e s m args below meth c s₁ B hml0 hv
  obtain ⟨rfl, E, hM⟩ := hv
  have F : gF p s m meth c cX8_lowest RX8 2 (some .int) := gF_of B hml0
  obtain ⟨hx, hb, hml, hown, hlocks, hr⟩ := id F
  have hS : va_S (gA base) s.heap s.heap [] := va_S.rf
  have hl := lv_entry ([.int p1]) (n := 2) (Nat.le_of_ble_eq_true rfl)
  rw [lg_entry_eq]
  generalize (lg_sl ([.int p1]) ++ List.replicate (2 - (lg_sl ([.int p1])).length) Slot.unset).toArray = ls at hl ⊢
  have hl : lv_has ls 2 [(0, .int p1)] := hl
  unfold f_X8_lowest at h
  refine lv_iconst (v := (0 : Int32)) hx hb dX8_lowest_0 (by decide) ?_
  refine lv_istore_n (lv' := [(1, .int (0 : Int32)), (0, .int p1)]) hx hb dX8_lowest_1 rfl hl (by decide) rfl (fun ls hl => ?_)
  obtain ⟨z4, h1, h⟩ := gbind_e h
  refine wl_X8_lowest_2 F E (r := z4) (fun q3 H locs ls e1 hM hS hl => ?_) gFuel (0 : Int32) h1 hM hS (lv_sub hl [1, 0] rfl)
  replace e1 : z4 = q3 := e1
  rw [e1] at h
  refine lv_iload_n hx hb dX8_lowest_16 rfl (lv_at hl 0 rfl) ?_
  obtain rfl := Option.some.inj h
  exact g_iret hx hb hr hlocks hM hS dX8_lowest_17
def f_X8_rootOf (p1 : Int32) (μ : gM) : Option (Int32 × gM) :=
  Option.bind (f_X8_isPoint p1 μ) (fun q1 => Option.bind (f_X8_fails (b2i q1) μ) (fun q2 => if ((b2i q2.1) = 0) then Option.bind (f_X8_part p1 (-1 : Int32) q2.2) (fun q4 => Option.bind (f_X8_lowest q4 q2.2) (fun q5 => some (q5, q2.2))) else some ((0 : Int32), q2.2)))
set_option maxHeartbeats 4000000 in
set_option maxRecDepth 100000 in
theorem c_X8_rootOf {l : Launch} {D : va_G} {cy : Nat → ClassId} {ad : Nat → Nat} {base : Nat} {p1 : Int32} {μ : gM} {RES : Int32 × gM} (h : f_X8_rootOf p1 μ = some RES) : Met l yX8_rootOf [.code yX8_rootOf cX8_rootOf 2 (some .int)] ({ frames := 2, cells := 0, slots := 0, locals := 46 } : Room) (va_Pc [.ref (ad 60), .int p1] (gB l gFull D cy ad base μ)) (gQ (some (.int RES.1)) gFull D cy ad base RES.2) 0 0 (gA base) := by
  refine Met.ofW (cc := cX8_rootOf) (maxL := 2) (ret := (some .int)) (by decide) rfl ?_
  intro p e s m args below meth c s₁ B hml0 hv
  obtain ⟨rfl, E, hM⟩ := hv
  have F : gF p s m meth c cX8_rootOf RX8 2 (some .int) := gF_of B hml0
  obtain ⟨hx, hb, hml, hown, hlocks, hr⟩ := id F
  have hS : va_S (gA base) s.heap s.heap [] := va_S.rf
  have hl := lv_entry ([.ref (ad 60), .int p1]) (n := 2) (Nat.le_of_ble_eq_true rfl)
  rw [lg_entry_eq]
  generalize (lg_sl ([.ref (ad 60), .int p1]) ++ List.replicate (2 - (lg_sl ([.ref (ad 60), .int p1])).length) Slot.unset).toArray = ls at hl ⊢
  have hl : lv_has ls 2 [(0, .ref (ad 60)), (1, .int p1)] := hl
  unfold f_X8_rootOf at h
  refine lv_aload_n hx hb dX8_rootOf_0 rfl (lv_at hl 0 rfl) ?_
  refine lv_aload_n hx hb dX8_rootOf_1 rfl (lv_at hl 0 rfl) ?_
  refine lv_iload_n hx hb dX8_rootOf_2 rfl (lv_at hl 1 rfl) ?_
  obtain ⟨q1, hq1, h⟩ := gbind_e h
  refine g_callV (As := [.int p1]) (rest := [.ref (ad 60)]) hx hb (hml.trans hl.1.symm) hown E hM hS hy_X8_isPoint kw_1563 (c_X8_isPoint hq1) hk_60 dd_60 rfl rfl rfl (Nat.le_of_ble_eq_true rfl) ⟨Nat.le_of_ble_eq_true rfl, Nat.le_of_ble_eq_true rfl⟩ ⟨Nat.le_of_ble_eq_true rfl, Nat.le_of_ble_eq_true rfl⟩ dX8_rootOf_3 (fun H locs hM hS => ?_)
  obtain ⟨q2, hq2, h⟩ := gbind_e h
  refine g_callV (As := [.int (b2i q1)]) (rest := []) hx hb (hml.trans hl.1.symm) hown E hM hS hy_X8_fails kw_1534 (c_X8_fails hq2) hk_60 dd_60 rfl rfl rfl (Nat.le_of_ble_eq_true rfl) ⟨Nat.le_of_ble_eq_true rfl, Nat.le_of_ble_eq_true rfl⟩ ⟨Nat.le_of_ble_eq_true rfl, Nat.le_of_ble_eq_true rfl⟩ dX8_rootOf_6 (fun H locs hM hS => ?_)
  refine lv_if_eq (tgt := 16) hx hb dX8_rootOf_9 (by decide) (fun c3 => ?_) (fun c3 => ?_)
  · replace h := gif_t c3 h
    refine lv_aload_n hx hb dX8_rootOf_16 rfl (lv_at hl 0 rfl) ?_
    refine lv_iload_n hx hb dX8_rootOf_17 rfl (lv_at hl 1 rfl) ?_
    refine lv_iconst (v := (-1 : Int32)) hx hb dX8_rootOf_18 (by decide) ?_
    obtain ⟨q4, hq4, h⟩ := gbind_e h
    refine g_callV (As := [.int p1, .int (-1 : Int32)]) (rest := []) hx hb (hml.trans hl.1.symm) hown E hM hS hy_X8_part kw_1683 (c_X8_part hq4) hk_60 dd_60 rfl rfl rfl (Nat.le_of_ble_eq_true rfl) ⟨Nat.le_of_ble_eq_true rfl, Nat.le_of_ble_eq_true rfl⟩ ⟨Nat.le_of_ble_eq_true rfl, Nat.le_of_ble_eq_true rfl⟩ dX8_rootOf_19 (fun H locs hM hS => ?_)
    obtain ⟨q5, hq5, h⟩ := gbind_e h
    refine g_callS (As := [.int q4]) (rest := []) hx hb (hml.trans hl.1.symm) hown E hM hS hy_X8_lowest kw_1687 (c_X8_lowest hq5) rfl rfl (Nat.le_of_ble_eq_true rfl) ⟨Nat.le_of_ble_eq_true rfl, Nat.le_of_ble_eq_true rfl⟩ ⟨Nat.le_of_ble_eq_true rfl, Nat.le_of_ble_eq_true rfl⟩ dX8_rootOf_22 (fun H locs hM hS => ?_)
    obtain rfl := Option.some.inj h
    exact g_iret hx hb hr hlocks hM hS dX8_rootOf_25
  · replace h := gif_f c3 h
    refine lv_iconst (v := (0 : Int32)) hx hb dX8_rootOf_12 (by decide) ?_
    refine lv_goto (tgt := 25) hx hb dX8_rootOf_13 (by decide) ?_
    obtain rfl := Option.some.inj h
    exact g_iret hx hb hr hlocks hM hS dX8_rootOf_25
def b_X8_partCount_9 (x1 : Int32) (x2 : Int32) (μ : gM) : Option ((Int32 × Int32) ⊕ (Int32)) :=
  Option.bind (f_X8_count (1 : Int32) μ) (fun q1 => if (q1 ≤ x2) then some (.inr x1) else Option.bind (f_X8_part x2 (-1 : Int32) μ) (fun q3 => Option.bind (f_X8_lowest q3 μ) (fun q4 => if (q4 = x2) then some (.inl ((x1 + (1 : Int32)), (x2 + (1 : Int32)))) else some (.inl ((x1 + (0 : Int32)), (x2 + (1 : Int32)))))))
set_option maxHeartbeats 4000000 in
set_option maxRecDepth 100000 in
theorem wb_X8_partCount_9 {p : Program} {l : Launch} {e : Env} {s : State} {m : MethodId} {args : Array Value} {below : List Frame} {meth : Method} {c : Code} {D : va_G} {cy : Nat → ClassId} {ad : Nat → Nat} {base : Nat} {x1 : Int32} {x2 : Int32} {μ : gM} {o : (Int32 × Int32) ⊕ (Int32)} {RES : Int32 × gM} (h : b_X8_partCount_9 x1 x2 μ = some o) (F : gF p s m meth c cX8_partCount RX8 3 (some .int)) (E : gEnv l D cy ad base s) (kc : ∀ (t : Int32 × Int32) {H : Heap} {locs : List Loc} {ls : Array Slot}, o = .inl t → gW gFull D cy ad base μ H → va_S (gA base) s.heap H locs → lv_has ls 3 [(0, .ref (ad 60)), (1, .int t.1), (2, .int t.2)] → W p l e ({ frames := 2, cells := 0, slots := 0, locals := 46 } : Room) s m args below meth c H locs 0 0 (MQ below (gQ (some (.int RES.1)) gFull D cy ad base RES.2) args s 0 0 (gA base)) (F0 m 9 ls [])) (kx : ∀ (t : Int32) {H : Heap} {locs : List Loc} {ls : Array Slot}, o = .inr t → gW gFull D cy ad base μ H → va_S (gA base) s.heap H locs → lv_has ls 3 [(1, .int t)] → W p l e ({ frames := 2, cells := 0, slots := 0, locals := 46 } : Room) s m args below meth c H locs 0 0 (MQ below (gQ (some (.int RES.1)) gFull D cy ad base RES.2) args s 0 0 (gA base)) (F0 m 45 ls []))  {H : Heap} {locs : List Loc} {ls : Array Slot} (hM : gW gFull D cy ad base μ H) (hS : va_S (gA base) s.heap H locs) (hl : lv_has ls 3 [(0, .ref (ad 60)), (1, .int x1), (2, .int x2)]) : W p l e ({ frames := 2, cells := 0, slots := 0, locals := 46 } : Room) s m args below meth c H locs 0 0 (MQ below (gQ (some (.int RES.1)) gFull D cy ad base RES.2) args s 0 0 (gA base)) (F0 m 9 ls []) := by
  obtain ⟨hx, hb, hml, hown, hlocks, hr⟩ := id F
  unfold b_X8_partCount_9 at h
  refine lv_iload_n hx hb dX8_partCount_9 rfl (lv_at hl 2 rfl) ?_
  refine lv_aload_n hx hb dX8_partCount_10 rfl (lv_at hl 0 rfl) ?_
  refine lv_iconst (v := (1 : Int32)) hx hb dX8_partCount_11 (by decide) ?_
  obtain ⟨q1, hq1, h⟩ := gbind_e h
  refine g_callV (As := [.int (1 : Int32)]) (rest := [.int x2]) hx hb (hml.trans hl.1.symm) hown E hM hS hy_X8_count kw_1498 (c_X8_count hq1) hk_60 dd_60 rfl rfl rfl (Nat.le_of_ble_eq_true rfl) ⟨Nat.le_of_ble_eq_true rfl, Nat.le_of_ble_eq_true rfl⟩ ⟨Nat.le_of_ble_eq_true rfl, Nat.le_of_ble_eq_true rfl⟩ dX8_partCount_12 (fun H locs hM hS => ?_)
  refine lv_icmp_ge (tgt := 45) hx hb dX8_partCount_15 (by decide) (fun c2 => ?_) (fun c2 => ?_)
  · replace h := gif_t c2 h
    exact kx _ (Option.some.inj h).symm hM hS (lv_sub hl [1] rfl)
  · replace h := gif_f c2 h
    refine lv_iload_n hx hb dX8_partCount_18 rfl (lv_at hl 1 rfl) ?_
    refine lv_aload_n hx hb dX8_partCount_19 rfl (lv_at hl 0 rfl) ?_
    refine lv_iload_n hx hb dX8_partCount_20 rfl (lv_at hl 2 rfl) ?_
    refine lv_iconst (v := (-1 : Int32)) hx hb dX8_partCount_21 (by decide) ?_
    obtain ⟨q3, hq3, h⟩ := gbind_e h
    refine g_callV (As := [.int x2, .int (-1 : Int32)]) (rest := [.int x1]) hx hb (hml.trans hl.1.symm) hown E hM hS hy_X8_part kw_1683 (c_X8_part hq3) hk_60 dd_60 rfl rfl rfl (Nat.le_of_ble_eq_true rfl) ⟨Nat.le_of_ble_eq_true rfl, Nat.le_of_ble_eq_true rfl⟩ ⟨Nat.le_of_ble_eq_true rfl, Nat.le_of_ble_eq_true rfl⟩ dX8_partCount_22 (fun H locs hM hS => ?_)
    obtain ⟨q4, hq4, h⟩ := gbind_e h
    refine g_callS (As := [.int q3]) (rest := [.int x1]) hx hb (hml.trans hl.1.symm) hown E hM hS hy_X8_lowest kw_1687 (c_X8_lowest hq4) rfl rfl (Nat.le_of_ble_eq_true rfl) ⟨Nat.le_of_ble_eq_true rfl, Nat.le_of_ble_eq_true rfl⟩ ⟨Nat.le_of_ble_eq_true rfl, Nat.le_of_ble_eq_true rfl⟩ dX8_partCount_25 (fun H locs hM hS => ?_)
    refine lv_iload_n hx hb dX8_partCount_28 rfl (lv_at hl 2 rfl) ?_
    refine lv_icmp_ne (tgt := 36) hx hb dX8_partCount_29 (by decide) (fun c5 => ?_) (fun c5 => ?_)
    · replace h := gif_f c5 h
      refine lv_iconst (v := (0 : Int32)) hx hb dX8_partCount_36 (by decide) ?_
      refine lv_iadd hx hb dX8_partCount_37 ?_
      refine lv_istore_n (lv' := [(1, .int (x1 + (0 : Int32))), (0, .ref (ad 60)), (2, .int x2)]) hx hb dX8_partCount_38 rfl hl (by decide) rfl (fun ls hl => ?_)
      refine lv_iinc (v := (x2 + (1 : Int32))) (lv' := [(2, .int (x2 + (1 : Int32))), (1, .int (x1 + (0 : Int32))), (0, .ref (ad 60))]) hx hb dX8_partCount_39 hl (k := 2) rfl rfl (by decide) rfl (fun ls hl => ?_)
      refine lv_goto (tgt := 9) hx hb dX8_partCount_42 (by decide) ?_
      exact kc _ (Option.some.inj h).symm hM hS (lv_sub hl [2, 1, 0] rfl)
    · replace h := gif_t c5 h
      refine lv_iconst (v := (1 : Int32)) hx hb dX8_partCount_32 (by decide) ?_
      refine lv_goto (tgt := 37) hx hb dX8_partCount_33 (by decide) ?_
      refine lv_iadd hx hb dX8_partCount_37 ?_
      refine lv_istore_n (lv' := [(1, .int (x1 + (1 : Int32))), (0, .ref (ad 60)), (2, .int x2)]) hx hb dX8_partCount_38 rfl hl (by decide) rfl (fun ls hl => ?_)
      refine lv_iinc (v := (x2 + (1 : Int32))) (lv' := [(2, .int (x2 + (1 : Int32))), (1, .int (x1 + (1 : Int32))), (0, .ref (ad 60))]) hx hb dX8_partCount_39 hl (k := 2) rfl rfl (by decide) rfl (fun ls hl => ?_)
      refine lv_goto (tgt := 9) hx hb dX8_partCount_42 (by decide) ?_
      exact kc _ (Option.some.inj h).symm hM hS (lv_sub hl [2, 1, 0] rfl)
set_option maxHeartbeats 4000000 in
theorem wl_X8_partCount_9 {p : Program} {l : Launch} {e : Env} {s : State} {m : MethodId} {args : Array Value} {below : List Frame} {meth : Method} {c : Code} {D : va_G} {cy : Nat → ClassId} {ad : Nat → Nat} {base : Nat}  {μ : gM} {r : Int32} {RES : Int32 × gM} (F : gF p s m meth c cX8_partCount RX8 3 (some .int)) (E : gEnv l D cy ad base s) (kx : ∀ (t : Int32) {H : Heap} {locs : List Loc} {ls : Array Slot}, r = t → gW gFull D cy ad base μ H → va_S (gA base) s.heap H locs → lv_has ls 3 [(1, .int t)] → W p l e ({ frames := 2, cells := 0, slots := 0, locals := 46 } : Room) s m args below meth c H locs 0 0 (MQ below (gQ (some (.int RES.1)) gFull D cy ad base RES.2) args s 0 0 (gA base)) (F0 m 45 ls []))  : ∀ (n : Nat) (x1 : Int32) (x2 : Int32), gloop (fun t => b_X8_partCount_9  t.1 t.2 μ) n (x1, x2) = some r → ∀ {H : Heap} {locs : List Loc} {ls : Array Slot}, gW gFull D cy ad base μ H → va_S (gA base) s.heap H locs → lv_has ls 3 [(0, .ref (ad 60)), (1, .int x1), (2, .int x2)] → W p l e ({ frames := 2, cells := 0, slots := 0, locals := 46 } : Room) s m args below meth c H locs 0 0 (MQ below (gQ (some (.int RES.1)) gFull D cy ad base RES.2) args s 0 0 (gA base)) (F0 m 9 ls []) := by
  intro n
  induction n with
  | zero =>
    intro x1 x2 h
    exact (gloop_0 h).elim
  | succ n ih =>
    intro x1 x2 h H locs ls hM hS hl
    obtain ⟨o, h0, hc, hq⟩ := gloop_s h
    have h1 : b_X8_partCount_9 x1 x2 μ = some o := h0
    exact wb_X8_partCount_9 h1 F E (fun t H locs ls ho hM hS hl => ih t.1 t.2 (hc t ho) hM hS hl) (fun t H locs ls ho hM hS hl => kx t (hq _ ho).symm hM hS hl) hM hS hl
def f_X8_partCount (μ : gM) : Option (Int32 × gM) :=
  Option.bind (gloop (fun t => b_X8_partCount_9  t.1 t.2 (si μ 60 6 (0 : Int32))) gFuel ((0 : Int32), (0 : Int32))) (fun q6 => some (q6, (si μ 60 6 (0 : Int32))))
set_option maxHeartbeats 4000000 in
set_option maxRecDepth 100000 in
theorem c_X8_partCount {l : Launch} {D : va_G} {cy : Nat → ClassId} {ad : Nat → Nat} {base : Nat}  {μ : gM} {RES : Int32 × gM} (h : f_X8_partCount  μ = some RES) : Met l yX8_partCount [.code yX8_partCount cX8_partCount 3 (some .int)] ({ frames := 2, cells := 0, slots := 0, locals := 46 } : Room) (va_Pc [.ref (ad 60)] (gB l gFull D cy ad base μ)) (gQ (some (.int RES.1)) gFull D cy ad base RES.2) 0 0 (gA base) := by
  refine Met.ofW (cc := cX8_partCount) (maxL := 3) (ret := (some .int)) (by decide) rfl ?_
  intro p e s m args below meth c s₁ B hml0 hv
  obtain ⟨rfl, E, hM⟩ := hv
  have F : gF p s m meth c cX8_partCount RX8 3 (some .int) := gF_of B hml0
  obtain ⟨hx, hb, hml, hown, hlocks, hr⟩ := id F
  have hS : va_S (gA base) s.heap s.heap [] := va_S.rf
  have hl := lv_entry ([.ref (ad 60)]) (n := 3) (Nat.le_of_ble_eq_true rfl)
  rw [lg_entry_eq]
  generalize (lg_sl ([.ref (ad 60)]) ++ List.replicate (3 - (lg_sl ([.ref (ad 60)])).length) Slot.unset).toArray = ls at hl ⊢
  have hl : lv_has ls 3 [(0, .ref (ad 60))] := hl
  unfold f_X8_partCount at h
  refine lv_aload_n hx hb dX8_partCount_0 rfl (lv_at hl 0 rfl) ?_
  refine lv_iconst (v := (0 : Int32)) hx hb dX8_partCount_1 (by decide) ?_
  refine gp_60_6 hx hb hown E hM hS hk_60 kw_1248 dX8_partCount_2 (fun H locs hM hS => ?_)
  refine lv_iconst (v := (0 : Int32)) hx hb dX8_partCount_5 (by decide) ?_
  refine lv_istore_n (lv' := [(1, .int (0 : Int32)), (0, .ref (ad 60))]) hx hb dX8_partCount_6 rfl hl (by decide) rfl (fun ls hl => ?_)
  refine lv_iconst (v := (0 : Int32)) hx hb dX8_partCount_7 (by decide) ?_
  refine lv_istore_n (lv' := [(2, .int (0 : Int32)), (1, .int (0 : Int32)), (0, .ref (ad 60))]) hx hb dX8_partCount_8 rfl hl (by decide) rfl (fun ls hl => ?_)
  obtain ⟨z7, h1, h⟩ := gbind_e h
  refine wl_X8_partCount_9 F E (r := z7) (fun q6 H locs ls e1 hM hS hl => ?_) gFuel (0 : Int32) (0 : Int32) h1 hM hS (lv_sub hl [2, 1, 0] rfl)
  replace e1 : z7 = q6 := e1
  rw [e1] at h
  refine lv_iload_n hx hb dX8_partCount_45 rfl (lv_at hl 0 rfl) ?_
  obtain rfl := Option.some.inj h
  exact g_iret hx hb hr hlocks hM hS dX8_partCount_46
def b_X8_bridges_9 (x1 : Int32) (x2 : Int32) (μ : gM) : Option ((Int32 × Int32) ⊕ (Int32)) :=
  Option.bind (f_X8_count (2 : Int32) μ) (fun q1 => if (q1 ≤ x2) then some (.inr x1) else Option.bind (f_X8_isActive x2 μ) (fun q3 => if ((b2i q3) = 0) then some (.inl ((x1 ||| (0 : Int32)), (x2 + (1 : Int32)))) else Option.bind (f_X8_first x2 μ) (fun q5 => Option.bind (f_X8_part q5 x2 μ) (fun q6 => Option.bind (f_X8_second x2 μ) (fun q7 => Option.bind (f_X8_has q6 q7 μ) (fun q8 => if ((b2i q8) = 0) then some (.inl ((x1 ||| ((1 : Int32) <<< (x2 &&& 31))), (x2 + (1 : Int32)))) else some (.inl ((x1 ||| (0 : Int32)), (x2 + (1 : Int32))))))))))
set_option maxHeartbeats 4000000 in
set_option maxRecDepth 100000 in
theorem wb_X8_bridges_9 {p : Program} {l : Launch} {e : Env} {s : State} {m : MethodId} {args : Array Value} {below : List Frame} {meth : Method} {c : Code} {D : va_G} {cy : Nat → ClassId} {ad : Nat → Nat} {base : Nat} {x1 : Int32} {x2 : Int32} {μ : gM} {o : (Int32 × Int32) ⊕ (Int32)} {RES : Int32 × gM} (h : b_X8_bridges_9 x1 x2 μ = some o) (F : gF p s m meth c cX8_bridges RX8 3 (some .int)) (E : gEnv l D cy ad base s) (kc : ∀ (t : Int32 × Int32) {H : Heap} {locs : List Loc} {ls : Array Slot}, o = .inl t → gW gFull D cy ad base μ H → va_S (gA base) s.heap H locs → lv_has ls 3 [(0, .ref (ad 60)), (1, .int t.1), (2, .int t.2)] → W p l e ({ frames := 2, cells := 0, slots := 0, locals := 46 } : Room) s m args below meth c H locs 0 0 (MQ below (gQ (some (.int RES.1)) gFull D cy ad base RES.2) args s 0 0 (gA base)) (F0 m 9 ls [])) (kx : ∀ (t : Int32) {H : Heap} {locs : List Loc} {ls : Array Slot}, o = .inr t → gW gFull D cy ad base μ H → va_S (gA base) s.heap H locs → lv_has ls 3 [(1, .int t)] → W p l e ({ frames := 2, cells := 0, slots := 0, locals := 46 } : Room) s m args below meth c H locs 0 0 (MQ below (gQ (some (.int RES.1)) gFull D cy ad base RES.2) args s 0 0 (gA base)) (F0 m 63 ls []))  {H : Heap} {locs : List Loc} {ls : Array Slot} (hM : gW gFull D cy ad base μ H) (hS : va_S (gA base) s.heap H locs) (hl : lv_has ls 3 [(0, .ref (ad 60)), (1, .int x1), (2, .int x2)]) : W p l e ({ frames := 2, cells := 0, slots := 0, locals := 46 } : Room) s m args below meth c H locs 0 0 (MQ below (gQ (some (.int RES.1)) gFull D cy ad base RES.2) args s 0 0 (gA base)) (F0 m 9 ls []) := by
  obtain ⟨hx, hb, hml, hown, hlocks, hr⟩ := id F
  unfold b_X8_bridges_9 at h
  refine lv_iload_n hx hb dX8_bridges_9 rfl (lv_at hl 2 rfl) ?_
  refine lv_aload_n hx hb dX8_bridges_10 rfl (lv_at hl 0 rfl) ?_
  refine lv_iconst (v := (2 : Int32)) hx hb dX8_bridges_11 (by decide) ?_
  obtain ⟨q1, hq1, h⟩ := gbind_e h
  refine g_callV (As := [.int (2 : Int32)]) (rest := [.int x2]) hx hb (hml.trans hl.1.symm) hown E hM hS hy_X8_count kw_1498 (c_X8_count hq1) hk_60 dd_60 rfl rfl rfl (Nat.le_of_ble_eq_true rfl) ⟨Nat.le_of_ble_eq_true rfl, Nat.le_of_ble_eq_true rfl⟩ ⟨Nat.le_of_ble_eq_true rfl, Nat.le_of_ble_eq_true rfl⟩ dX8_bridges_12 (fun H locs hM hS => ?_)
  refine lv_icmp_ge (tgt := 63) hx hb dX8_bridges_15 (by decide) (fun c2 => ?_) (fun c2 => ?_)
  · replace h := gif_t c2 h
    exact kx _ (Option.some.inj h).symm hM hS (lv_sub hl [1] rfl)
  · replace h := gif_f c2 h
    refine lv_iload_n hx hb dX8_bridges_18 rfl (lv_at hl 1 rfl) ?_
    refine lv_aload_n hx hb dX8_bridges_19 rfl (lv_at hl 0 rfl) ?_
    refine lv_iload_n hx hb dX8_bridges_20 rfl (lv_at hl 2 rfl) ?_
    obtain ⟨q3, hq3, h⟩ := gbind_e h
    refine g_callV (As := [.int x2]) (rest := [.int x1]) hx hb (hml.trans hl.1.symm) hown E hM hS hy_X8_isActive kw_1671 (c_X8_isActive hq3) hk_60 dd_60 rfl rfl rfl (Nat.le_of_ble_eq_true rfl) ⟨Nat.le_of_ble_eq_true rfl, Nat.le_of_ble_eq_true rfl⟩ ⟨Nat.le_of_ble_eq_true rfl, Nat.le_of_ble_eq_true rfl⟩ dX8_bridges_21 (fun H locs hM hS => ?_)
    refine lv_if_eq (tgt := 54) hx hb dX8_bridges_24 (by decide) (fun c4 => ?_) (fun c4 => ?_)
    · replace h := gif_t c4 h
      refine lv_iconst (v := (0 : Int32)) hx hb dX8_bridges_54 (by decide) ?_
      refine lv_ior hx hb dX8_bridges_55 ?_
      refine lv_istore_n (lv' := [(1, .int (x1 ||| (0 : Int32))), (0, .ref (ad 60)), (2, .int x2)]) hx hb dX8_bridges_56 rfl hl (by decide) rfl (fun ls hl => ?_)
      refine lv_iinc (v := (x2 + (1 : Int32))) (lv' := [(2, .int (x2 + (1 : Int32))), (1, .int (x1 ||| (0 : Int32))), (0, .ref (ad 60))]) hx hb dX8_bridges_57 hl (k := 2) rfl rfl (by decide) rfl (fun ls hl => ?_)
      refine lv_goto (tgt := 9) hx hb dX8_bridges_60 (by decide) ?_
      exact kc _ (Option.some.inj h).symm hM hS (lv_sub hl [2, 1, 0] rfl)
    · replace h := gif_f c4 h
      refine lv_aload_n hx hb dX8_bridges_27 rfl (lv_at hl 0 rfl) ?_
      refine lv_aload_n hx hb dX8_bridges_28 rfl (lv_at hl 0 rfl) ?_
      refine lv_iload_n hx hb dX8_bridges_29 rfl (lv_at hl 2 rfl) ?_
      obtain ⟨q5, hq5, h⟩ := gbind_e h
      refine g_callV (As := [.int x2]) (rest := [.ref (ad 60), .int x1]) hx hb (hml.trans hl.1.symm) hown E hM hS hy_X8_first kw_1575 (c_X8_first hq5) hk_60 dd_60 rfl rfl rfl (Nat.le_of_ble_eq_true rfl) ⟨Nat.le_of_ble_eq_true rfl, Nat.le_of_ble_eq_true rfl⟩ ⟨Nat.le_of_ble_eq_true rfl, Nat.le_of_ble_eq_true rfl⟩ dX8_bridges_30 (fun H locs hM hS => ?_)
      refine lv_iload_n hx hb dX8_bridges_33 rfl (lv_at hl 2 rfl) ?_
      obtain ⟨q6, hq6, h⟩ := gbind_e h
      refine g_callV (As := [.int q5, .int x2]) (rest := [.int x1]) hx hb (hml.trans hl.1.symm) hown E hM hS hy_X8_part kw_1683 (c_X8_part hq6) hk_60 dd_60 rfl rfl rfl (Nat.le_of_ble_eq_true rfl) ⟨Nat.le_of_ble_eq_true rfl, Nat.le_of_ble_eq_true rfl⟩ ⟨Nat.le_of_ble_eq_true rfl, Nat.le_of_ble_eq_true rfl⟩ dX8_bridges_34 (fun H locs hM hS => ?_)
      refine lv_aload_n hx hb dX8_bridges_37 rfl (lv_at hl 0 rfl) ?_
      refine lv_iload_n hx hb dX8_bridges_38 rfl (lv_at hl 2 rfl) ?_
      obtain ⟨q7, hq7, h⟩ := gbind_e h
      refine g_callV (As := [.int x2]) (rest := [.int q6, .int x1]) hx hb (hml.trans hl.1.symm) hown E hM hS hy_X8_second kw_1579 (c_X8_second hq7) hk_60 dd_60 rfl rfl rfl (Nat.le_of_ble_eq_true rfl) ⟨Nat.le_of_ble_eq_true rfl, Nat.le_of_ble_eq_true rfl⟩ ⟨Nat.le_of_ble_eq_true rfl, Nat.le_of_ble_eq_true rfl⟩ dX8_bridges_39 (fun H locs hM hS => ?_)
      obtain ⟨q8, hq8, h⟩ := gbind_e h
      refine g_callS (As := [.int q6, .int q7]) (rest := [.int x1]) hx hb (hml.trans hl.1.symm) hown E hM hS hy_X8_has kw_1485 (c_X8_has hq8) rfl rfl (Nat.le_of_ble_eq_true rfl) ⟨Nat.le_of_ble_eq_true rfl, Nat.le_of_ble_eq_true rfl⟩ ⟨Nat.le_of_ble_eq_true rfl, Nat.le_of_ble_eq_true rfl⟩ dX8_bridges_42 (fun H locs hM hS => ?_)
      refine lv_if_ne (tgt := 54) hx hb dX8_bridges_45 (by decide) (fun c9 => ?_) (fun c9 => ?_)
      · replace h := gif_f c9 h
        refine lv_iconst (v := (0 : Int32)) hx hb dX8_bridges_54 (by decide) ?_
        refine lv_ior hx hb dX8_bridges_55 ?_
        refine lv_istore_n (lv' := [(1, .int (x1 ||| (0 : Int32))), (0, .ref (ad 60)), (2, .int x2)]) hx hb dX8_bridges_56 rfl hl (by decide) rfl (fun ls hl => ?_)
        refine lv_iinc (v := (x2 + (1 : Int32))) (lv' := [(2, .int (x2 + (1 : Int32))), (1, .int (x1 ||| (0 : Int32))), (0, .ref (ad 60))]) hx hb dX8_bridges_57 hl (k := 2) rfl rfl (by decide) rfl (fun ls hl => ?_)
        refine lv_goto (tgt := 9) hx hb dX8_bridges_60 (by decide) ?_
        exact kc _ (Option.some.inj h).symm hM hS (lv_sub hl [2, 1, 0] rfl)
      · replace h := gif_t c9 h
        refine lv_iconst (v := (1 : Int32)) hx hb dX8_bridges_48 (by decide) ?_
        refine lv_iload_n hx hb dX8_bridges_49 rfl (lv_at hl 2 rfl) ?_
        refine lv_ishl hx hb dX8_bridges_50 ?_
        refine lv_goto (tgt := 55) hx hb dX8_bridges_51 (by decide) ?_
        refine lv_ior hx hb dX8_bridges_55 ?_
        refine lv_istore_n (lv' := [(1, .int (x1 ||| ((1 : Int32) <<< (x2 &&& 31)))), (0, .ref (ad 60)), (2, .int x2)]) hx hb dX8_bridges_56 rfl hl (by decide) rfl (fun ls hl => ?_)
        refine lv_iinc (v := (x2 + (1 : Int32))) (lv' := [(2, .int (x2 + (1 : Int32))), (1, .int (x1 ||| ((1 : Int32) <<< (x2 &&& 31)))), (0, .ref (ad 60))]) hx hb dX8_bridges_57 hl (k := 2) rfl rfl (by decide) rfl (fun ls hl => ?_)
        refine lv_goto (tgt := 9) hx hb dX8_bridges_60 (by decide) ?_
        exact kc _ (Option.some.inj h).symm hM hS (lv_sub hl [2, 1, 0] rfl)
set_option maxHeartbeats 4000000 in
theorem wl_X8_bridges_9 {p : Program} {l : Launch} {e : Env} {s : State} {m : MethodId} {args : Array Value} {below : List Frame} {meth : Method} {c : Code} {D : va_G} {cy : Nat → ClassId} {ad : Nat → Nat} {base : Nat}  {μ : gM} {r : Int32} {RES : Int32 × gM} (F : gF p s m meth c cX8_bridges RX8 3 (some .int)) (E : gEnv l D cy ad base s) (kx : ∀ (t : Int32) {H : Heap} {locs : List Loc} {ls : Array Slot}, r = t → gW gFull D cy ad base μ H → va_S (gA base) s.heap H locs → lv_has ls 3 [(1, .int t)] → W p l e ({ frames := 2, cells := 0, slots := 0, locals := 46 } : Room) s m args below meth c H locs 0 0 (MQ below (gQ (some (.int RES.1)) gFull D cy ad base RES.2) args s 0 0 (gA base)) (F0 m 63 ls []))  : ∀ (n : Nat) (x1 : Int32) (x2 : Int32), gloop (fun t => b_X8_bridges_9  t.1 t.2 μ) n (x1, x2) = some r → ∀ {H : Heap} {locs : List Loc} {ls : Array Slot}, gW gFull D cy ad base μ H → va_S (gA base) s.heap H locs → lv_has ls 3 [(0, .ref (ad 60)), (1, .int x1), (2, .int x2)] → W p l e ({ frames := 2, cells := 0, slots := 0, locals := 46 } : Room) s m args below meth c H locs 0 0 (MQ below (gQ (some (.int RES.1)) gFull D cy ad base RES.2) args s 0 0 (gA base)) (F0 m 9 ls []) := by
  intro n
  induction n with
  | zero =>
    intro x1 x2 h
    exact (gloop_0 h).elim
  | succ n ih =>
    intro x1 x2 h H locs ls hM hS hl
    obtain ⟨o, h0, hc, hq⟩ := gloop_s h
    have h1 : b_X8_bridges_9 x1 x2 μ = some o := h0
    exact wb_X8_bridges_9 h1 F E (fun t H locs ls ho hM hS hl => ih t.1 t.2 (hc t ho) hM hS hl) (fun t H locs ls ho hM hS hl => kx t (hq _ ho).symm hM hS hl) hM hS hl
def f_X8_bridges (μ : gM) : Option (Int32 × gM) :=
  Option.bind (gloop (fun t => b_X8_bridges_9  t.1 t.2 (si μ 60 6 (0 : Int32))) gFuel ((0 : Int32), (0 : Int32))) (fun q10 => some (q10, (si μ 60 6 (0 : Int32))))
set_option maxHeartbeats 4000000 in
set_option maxRecDepth 100000 in
theorem c_X8_bridges {l : Launch} {D : va_G} {cy : Nat → ClassId} {ad : Nat → Nat} {base : Nat}  {μ : gM} {RES : Int32 × gM} (h : f_X8_bridges  μ = some RES) : Met l yX8_bridges [.code yX8_bridges cX8_bridges 3 (some .int)] ({ frames := 2, cells := 0, slots := 0, locals := 46 } : Room) (va_Pc [.ref (ad 60)] (gB l gFull D cy ad base μ)) (gQ (some (.int RES.1)) gFull D cy ad base RES.2) 0 0 (gA base) := by
  refine Met.ofW (cc := cX8_bridges) (maxL := 3) (ret := (some .int)) (by decide) rfl ?_
  intro p e s m args below meth c s₁ B hml0 hv
  obtain ⟨rfl, E, hM⟩ := hv
  have F : gF p s m meth c cX8_bridges RX8 3 (some .int) := gF_of B hml0
  obtain ⟨hx, hb, hml, hown, hlocks, hr⟩ := id F
  have hS : va_S (gA base) s.heap s.heap [] := va_S.rf
  have hl := lv_entry ([.ref (ad 60)]) (n := 3) (Nat.le_of_ble_eq_true rfl)
  rw [lg_entry_eq]
  generalize (lg_sl ([.ref (ad 60)]) ++ List.replicate (3 - (lg_sl ([.ref (ad 60)])).length) Slot.unset).toArray = ls at hl ⊢
  have hl : lv_has ls 3 [(0, .ref (ad 60))] := hl
  unfold f_X8_bridges at h
  refine lv_aload_n hx hb dX8_bridges_0 rfl (lv_at hl 0 rfl) ?_
  refine lv_iconst (v := (0 : Int32)) hx hb dX8_bridges_1 (by decide) ?_
  refine gp_60_6 hx hb hown E hM hS hk_60 kw_1248 dX8_bridges_2 (fun H locs hM hS => ?_)
  refine lv_iconst (v := (0 : Int32)) hx hb dX8_bridges_5 (by decide) ?_
  refine lv_istore_n (lv' := [(1, .int (0 : Int32)), (0, .ref (ad 60))]) hx hb dX8_bridges_6 rfl hl (by decide) rfl (fun ls hl => ?_)
  refine lv_iconst (v := (0 : Int32)) hx hb dX8_bridges_7 (by decide) ?_
  refine lv_istore_n (lv' := [(2, .int (0 : Int32)), (1, .int (0 : Int32)), (0, .ref (ad 60))]) hx hb dX8_bridges_8 rfl hl (by decide) rfl (fun ls hl => ?_)
  obtain ⟨z11, h1, h⟩ := gbind_e h
  refine wl_X8_bridges_9 F E (r := z11) (fun q10 H locs ls e1 hM hS hl => ?_) gFuel (0 : Int32) (0 : Int32) h1 hM hS (lv_sub hl [2, 1, 0] rfl)
  replace e1 : z11 = q10 := e1
  rw [e1] at h
  refine lv_iload_n hx hb dX8_bridges_63 rfl (lv_at hl 0 rfl) ?_
  obtain rfl := Option.some.inj h
  exact g_iret hx hb hr hlocks hM hS dX8_bridges_64
def j_X8_relaxes_41 (x1 : Int32) (x2 : Int32) (x3 : Int32) (μ : gM) : Option (Bool × gM) :=
  gchk (gIn x1 16) (Option.bind (f_X8_length x3 μ) (fun q6 => gchk (gIn x2 16) (some (true, (si μ 69 x2.toNatClampNeg ((gi μ 69 x1.toNatClampNeg) + q6))))))
set_option maxHeartbeats 4000000 in
set_option maxRecDepth 100000 in
theorem wj_X8_relaxes_41 {p : Program} {l : Launch} {e : Env} {s : State} {m : MethodId} {args : Array Value} {below : List Frame} {meth : Method} {c : Code} {D : va_G} {cy : Nat → ClassId} {ad : Nat → Nat} {base : Nat} {x1 : Int32} {x2 : Int32} {x3 : Int32} {μ : gM} {o : Bool × gM} (h : j_X8_relaxes_41 x1 x2 x3 μ = some o) (F : gF p s m meth c cX8_relaxes RX8 4 (some .boolean)) (E : gEnv l D cy ad base s)  {H : Heap} {locs : List Loc} {ls : Array Slot} (hM : gW gFull D cy ad base μ H) (hS : va_S (gA base) s.heap H locs) (hl : lv_has ls 4 [(0, .ref (ad 60)), (1, .int x1), (2, .int x2), (3, .int x3)]) : W p l e ({ frames := 4, cells := 0, slots := 0, locals := 90 } : Room) s m args below meth c H locs 0 0 (MQ below (gQ (some (.int (b2i o.1))) gFull D cy ad base o.2) args s 0 0 (gA base)) (F0 m 41 ls []) := by
  obtain ⟨hx, hb, hml, hown, hlocks, hr⟩ := id F
  unfold j_X8_relaxes_41 at h
  refine lv_aload_n hx hb dX8_relaxes_41 rfl (lv_at hl 0 rfl) ?_
  refine gg_60_21 hx hb hown E hM hk_60 kw_1263 dX8_relaxes_42 ?_
  refine lv_iload_n hx hb dX8_relaxes_45 rfl (lv_at hl 2 rfl) ?_
  refine lv_aload_n hx hb dX8_relaxes_46 rfl (lv_at hl 0 rfl) ?_
  refine gg_60_21 hx hb hown E hM hk_60 kw_1263 dX8_relaxes_47 ?_
  refine lv_iload_n hx hb dX8_relaxes_50 rfl (lv_at hl 1 rfl) ?_
  obtain ⟨c5, h⟩ := gchk_e h
  refine g_iald hx hb E hM hk_69 dd_69 c5 dX8_relaxes_51 ?_
  refine lv_aload_n hx hb dX8_relaxes_52 rfl (lv_at hl 0 rfl) ?_
  refine lv_iload_n hx hb dX8_relaxes_53 rfl (lv_at hl 3 rfl) ?_
  obtain ⟨q6, hq6, h⟩ := gbind_e h
  refine g_callV (As := [.int x3]) (rest := [.int (gi μ 69 x1.toNatClampNeg), .int x2, .ref (ad 69)]) hx hb (hml.trans hl.1.symm) hown E hM hS hy_X8_length kw_1587 (c_X8_length hq6) hk_60 dd_60 rfl rfl rfl (Nat.le_of_ble_eq_true rfl) ⟨Nat.le_of_ble_eq_true rfl, Nat.le_of_ble_eq_true rfl⟩ ⟨Nat.le_of_ble_eq_true rfl, Nat.le_of_ble_eq_true rfl⟩ dX8_relaxes_54 (fun H locs hM hS => ?_)
  refine lv_iadd hx hb dX8_relaxes_57 ?_
  obtain ⟨c7, h⟩ := gchk_e h
  refine g_iast hx hb E hM hS hk_69 dd_69 c7 dX8_relaxes_58 (fun H locs hM hS => ?_)
  refine lv_iconst (v := (1 : Int32)) hx hb dX8_relaxes_59 (by decide) ?_
  obtain rfl := Option.some.inj h
  exact g_zret (v := b2i true) hx hb hr hlocks (b2i_nar true) hM hS dX8_relaxes_60
def f_X8_relaxes (p1 : Int32) (p2 : Int32) (p3 : Int32) (μ : gM) : Option (Bool × gM) :=
  gchk (gIn p1 16) (if ((gi μ 69 p1.toNatClampNeg) < 0) then some (false, μ) else gchk (gIn p2 16) (if ((gi μ 69 p2.toNatClampNeg) < 0) then j_X8_relaxes_41 p1 p2 p3 μ else gchk (gIn p2 16) (gchk (gIn p1 16) (Option.bind (f_X8_length p3 μ) (fun q10 => if (((gi μ 69 p1.toNatClampNeg) + q10) < (gi μ 69 p2.toNatClampNeg)) then j_X8_relaxes_41 p1 p2 p3 μ else some (false, μ))))))
set_option maxHeartbeats 4000000 in
set_option maxRecDepth 100000 in
theorem c_X8_relaxes {l : Launch} {D : va_G} {cy : Nat → ClassId} {ad : Nat → Nat} {base : Nat} {p1 : Int32} {p2 : Int32} {p3 : Int32} {μ : gM} {RES : Bool × gM} (h : f_X8_relaxes p1 p2 p3 μ = some RES) : Met l yX8_relaxes [.code yX8_relaxes cX8_relaxes 4 (some .boolean)] ({ frames := 4, cells := 0, slots := 0, locals := 90 } : Room) (va_Pc [.ref (ad 60), .int p1, .int p2, .int p3] (gB l gFull D cy ad base μ)) (gQ (some (.int (b2i RES.1))) gFull D cy ad base RES.2) 0 0 (gA base) := by
  refine Met.ofW (cc := cX8_relaxes) (maxL := 4) (ret := (some .boolean)) (by decide) rfl ?_
  intro p e s m args below meth c s₁ B hml0 hv
  obtain ⟨rfl, E, hM⟩ := hv
  have F : gF p s m meth c cX8_relaxes RX8 4 (some .boolean) := gF_of B hml0
  obtain ⟨hx, hb, hml, hown, hlocks, hr⟩ := id F
  have hS : va_S (gA base) s.heap s.heap [] := va_S.rf
  have hl := lv_entry ([.ref (ad 60), .int p1, .int p2, .int p3]) (n := 4) (Nat.le_of_ble_eq_true rfl)
  rw [lg_entry_eq]
  generalize (lg_sl ([.ref (ad 60), .int p1, .int p2, .int p3]) ++ List.replicate (4 - (lg_sl ([.ref (ad 60), .int p1, .int p2, .int p3])).length) Slot.unset).toArray = ls at hl ⊢
  have hl : lv_has ls 4 [(0, .ref (ad 60)), (1, .int p1), (2, .int p2), (3, .int p3)] := hl
  unfold f_X8_relaxes at h
  refine lv_aload_n hx hb dX8_relaxes_0 rfl (lv_at hl 0 rfl) ?_
  refine gg_60_21 hx hb hown E hM hk_60 kw_1263 dX8_relaxes_1 ?_
  refine lv_iload_n hx hb dX8_relaxes_4 rfl (lv_at hl 1 rfl) ?_
  obtain ⟨c1, h⟩ := gchk_e h
  refine g_iald hx hb E hM hk_69 dd_69 c1 dX8_relaxes_5 ?_
  refine lv_if_lt (tgt := 39) hx hb dX8_relaxes_6 (by decide) (fun c2 => ?_) (fun c2 => ?_)
  · replace h := gif_t c2 h
    refine lv_iconst (v := (0 : Int32)) hx hb dX8_relaxes_39 (by decide) ?_
    obtain rfl := Option.some.inj h
    exact g_zret (v := b2i false) hx hb hr hlocks (b2i_nar false) hM hS dX8_relaxes_40
  · replace h := gif_f c2 h
    refine lv_aload_n hx hb dX8_relaxes_9 rfl (lv_at hl 0 rfl) ?_
    refine gg_60_21 hx hb hown E hM hk_60 kw_1263 dX8_relaxes_10 ?_
    refine lv_iload_n hx hb dX8_relaxes_13 rfl (lv_at hl 2 rfl) ?_
    obtain ⟨c3, h⟩ := gchk_e h
    refine g_iald hx hb E hM hk_69 dd_69 c3 dX8_relaxes_14 ?_
    refine lv_if_lt (tgt := 41) hx hb dX8_relaxes_15 (by decide) (fun c4 => ?_) (fun c4 => ?_)
    · replace h := gif_t c4 h
      exact wj_X8_relaxes_41 h F E hM hS hl
    · replace h := gif_f c4 h
      refine lv_aload_n hx hb dX8_relaxes_18 rfl (lv_at hl 0 rfl) ?_
      refine gg_60_21 hx hb hown E hM hk_60 kw_1263 dX8_relaxes_19 ?_
      refine lv_iload_n hx hb dX8_relaxes_22 rfl (lv_at hl 2 rfl) ?_
      obtain ⟨c8, h⟩ := gchk_e h
      refine g_iald hx hb E hM hk_69 dd_69 c8 dX8_relaxes_23 ?_
      refine lv_aload_n hx hb dX8_relaxes_24 rfl (lv_at hl 0 rfl) ?_
      refine gg_60_21 hx hb hown E hM hk_60 kw_1263 dX8_relaxes_25 ?_
      refine lv_iload_n hx hb dX8_relaxes_28 rfl (lv_at hl 1 rfl) ?_
      obtain ⟨c9, h⟩ := gchk_e h
      refine g_iald hx hb E hM hk_69 dd_69 c9 dX8_relaxes_29 ?_
      refine lv_aload_n hx hb dX8_relaxes_30 rfl (lv_at hl 0 rfl) ?_
      refine lv_iload_n hx hb dX8_relaxes_31 rfl (lv_at hl 3 rfl) ?_
      obtain ⟨q10, hq10, h⟩ := gbind_e h
      refine g_callV (As := [.int p3]) (rest := [.int (gi μ 69 p1.toNatClampNeg), .int (gi μ 69 p2.toNatClampNeg)]) hx hb (hml.trans hl.1.symm) hown E hM hS hy_X8_length kw_1587 (c_X8_length hq10) hk_60 dd_60 rfl rfl rfl (Nat.le_of_ble_eq_true rfl) ⟨Nat.le_of_ble_eq_true rfl, Nat.le_of_ble_eq_true rfl⟩ ⟨Nat.le_of_ble_eq_true rfl, Nat.le_of_ble_eq_true rfl⟩ dX8_relaxes_32 (fun H locs hM hS => ?_)
      refine lv_iadd hx hb dX8_relaxes_35 ?_
      refine lv_icmp_gt (tgt := 41) hx hb dX8_relaxes_36 (by decide) (fun c11 => ?_) (fun c11 => ?_)
      · replace h := gif_t c11 h
        exact wj_X8_relaxes_41 h F E hM hS hl
      · replace h := gif_f c11 h
        refine lv_iconst (v := (0 : Int32)) hx hb dX8_relaxes_39 (by decide) ?_
        obtain rfl := Option.some.inj h
        exact g_zret (v := b2i false) hx hb hr hlocks (b2i_nar false) hM hS dX8_relaxes_40
def b_X8_layFar_2 (x1 : Int32) (x2 : Int32) (μ : gM) : Option ((Int32 × gM) ⊕ (gM)) :=
  if ((16 : Int32) ≤ x2) then some (.inr μ) else gchk (gIn x2 16) (some (.inl ((x2 + (1 : Int32)), (si μ 69 x2.toNatClampNeg (-1 : Int32)))))
set_option maxHeartbeats 4000000 in
set_option maxRecDepth 100000 in
theorem wb_X8_layFar_2 {p : Program} {l : Launch} {e : Env} {s : State} {m : MethodId} {args : Array Value} {below : List Frame} {meth : Method} {c : Code} {D : va_G} {cy : Nat → ClassId} {ad : Nat → Nat} {base : Nat} {x1 : Int32} {x2 : Int32} {μ : gM} {o : (Int32 × gM) ⊕ (gM)} {RES : gM} (h : b_X8_layFar_2 x1 x2 μ = some o) (F : gF p s m meth c cX8_layFar RX8 6 none) (E : gEnv l D cy ad base s) (kc : ∀ (t : Int32 × gM) {H : Heap} {locs : List Loc} {ls : Array Slot}, o = .inl t → gW gFull D cy ad base t.2 H → va_S (gA base) s.heap H locs → lv_has ls 6 [(0, .ref (ad 60)), (1, .int x1), (2, .int t.1)] → W p l e ({ frames := 5, cells := 0, slots := 0, locals := 113 } : Room) s m args below meth c H locs 0 0 (MQ below (gQ none gFull D cy ad base RES) args s 0 0 (gA base)) (F0 m 2 ls [])) (kx : ∀ (t : gM) {H : Heap} {locs : List Loc} {ls : Array Slot}, o = .inr t → gW gFull D cy ad base t H → va_S (gA base) s.heap H locs → lv_has ls 6 [(0, .ref (ad 60)), (1, .int x1)] → W p l e ({ frames := 5, cells := 0, slots := 0, locals := 113 } : Room) s m args below meth c H locs 0 0 (MQ below (gQ none gFull D cy ad base RES) args s 0 0 (gA base)) (F0 m 21 ls []))  {H : Heap} {locs : List Loc} {ls : Array Slot} (hM : gW gFull D cy ad base μ H) (hS : va_S (gA base) s.heap H locs) (hl : lv_has ls 6 [(0, .ref (ad 60)), (1, .int x1), (2, .int x2)]) : W p l e ({ frames := 5, cells := 0, slots := 0, locals := 113 } : Room) s m args below meth c H locs 0 0 (MQ below (gQ none gFull D cy ad base RES) args s 0 0 (gA base)) (F0 m 2 ls []) := by
  obtain ⟨hx, hb, hml, hown, hlocks, hr⟩ := id F
  unfold b_X8_layFar_2 at h
  refine lv_iload_n hx hb dX8_layFar_2 rfl (lv_at hl 2 rfl) ?_
  refine lv_bipush (v := (16 : Int32)) hx hb dX8_layFar_3 (by decide) ?_
  refine lv_icmp_ge (tgt := 21) hx hb dX8_layFar_5 (by decide) (fun c1 => ?_) (fun c1 => ?_)
  · replace h := gif_t c1 h
    exact kx _ (Option.some.inj h).symm hM hS (lv_sub hl [0, 1] rfl)
  · replace h := gif_f c1 h
    refine lv_aload_n hx hb dX8_layFar_8 rfl (lv_at hl 0 rfl) ?_
    refine gg_60_21 hx hb hown E hM hk_60 kw_1263 dX8_layFar_9 ?_
    refine lv_iload_n hx hb dX8_layFar_12 rfl (lv_at hl 2 rfl) ?_
    refine lv_iconst (v := (-1 : Int32)) hx hb dX8_layFar_13 (by decide) ?_
    obtain ⟨c2, h⟩ := gchk_e h
    refine g_iast hx hb E hM hS hk_69 dd_69 c2 dX8_layFar_14 (fun H locs hM hS => ?_)
    refine lv_iinc (v := (x2 + (1 : Int32))) (lv' := [(2, .int (x2 + (1 : Int32))), (0, .ref (ad 60)), (1, .int x1)]) hx hb dX8_layFar_15 hl (k := 2) rfl rfl (by decide) rfl (fun ls hl => ?_)
    refine lv_goto (tgt := 2) hx hb dX8_layFar_18 (by decide) ?_
    exact kc _ (Option.some.inj h).symm hM hS (lv_sub hl [1, 2, 0] rfl)
set_option maxHeartbeats 4000000 in
theorem wl_X8_layFar_2 {p : Program} {l : Launch} {e : Env} {s : State} {m : MethodId} {args : Array Value} {below : List Frame} {meth : Method} {c : Code} {D : va_G} {cy : Nat → ClassId} {ad : Nat → Nat} {base : Nat} {x1 : Int32} {r : gM} {RES : gM} (F : gF p s m meth c cX8_layFar RX8 6 none) (E : gEnv l D cy ad base s) (kx : ∀ (t : gM) {H : Heap} {locs : List Loc} {ls : Array Slot}, r = t → gW gFull D cy ad base t H → va_S (gA base) s.heap H locs → lv_has ls 6 [(0, .ref (ad 60)), (1, .int x1)] → W p l e ({ frames := 5, cells := 0, slots := 0, locals := 113 } : Room) s m args below meth c H locs 0 0 (MQ below (gQ none gFull D cy ad base RES) args s 0 0 (gA base)) (F0 m 21 ls []))  : ∀ (n : Nat) (x2 : Int32) (μ : gM), gloop (fun t => b_X8_layFar_2 x1 t.1 t.2) n (x2, μ) = some r → ∀ {H : Heap} {locs : List Loc} {ls : Array Slot}, gW gFull D cy ad base μ H → va_S (gA base) s.heap H locs → lv_has ls 6 [(0, .ref (ad 60)), (1, .int x1), (2, .int x2)] → W p l e ({ frames := 5, cells := 0, slots := 0, locals := 113 } : Room) s m args below meth c H locs 0 0 (MQ below (gQ none gFull D cy ad base RES) args s 0 0 (gA base)) (F0 m 2 ls []) := by
  intro n
  induction n with
  | zero =>
    intro x2 μ h
    exact (gloop_0 h).elim
  | succ n ih =>
    intro x2 μ h H locs ls hM hS hl
    obtain ⟨o, h0, hc, hq⟩ := gloop_s h
    have h1 : b_X8_layFar_2 x1 x2 μ = some o := h0
    exact wb_X8_layFar_2 h1 F E (fun t H locs ls ho hM hS hl => ih t.1 t.2 (hc t ho) hM hS hl) (fun t H locs ls ho hM hS hl => kx t (hq _ ho).symm hM hS hl) hM hS hl
def b_X8_layFar_38 (x2 : Int32) (x3 : Int32) (μ : gM) : Option ((Int32 × Int32 × gM) ⊕ (Int32 × gM)) :=
  Option.bind (f_X8_count (2 : Int32) μ) (fun q6 => if (q6 ≤ x3) then some (.inr (x2, μ)) else Option.bind (f_X8_isActive x3 μ) (fun q8 => if ((b2i q8) = 0) then some (.inl (x2, (x3 + (1 : Int32)), μ)) else Option.bind (f_X8_first x3 μ) (fun q10 => Option.bind (f_X8_second x3 μ) (fun q11 => Option.bind (f_X8_relaxes q10 q11 x3 μ) (fun q12 => Option.bind (f_X8_second x3 q12.2) (fun q13 => Option.bind (f_X8_first x3 q12.2) (fun q14 => Option.bind (f_X8_relaxes q13 q14 x3 q12.2) (fun q15 => if (x2 = 0) then if ((b2i q12.1) = 0) then if ((b2i q15.1) = 0) then some (.inl ((0 : Int32), (x3 + (1 : Int32)), q15.2)) else some (.inl ((1 : Int32), (x3 + (1 : Int32)), q15.2)) else some (.inl ((1 : Int32), (x3 + (1 : Int32)), q15.2)) else some (.inl ((1 : Int32), (x3 + (1 : Int32)), q15.2))))))))))
set_option maxHeartbeats 4000000 in
set_option maxRecDepth 100000 in
theorem wb_X8_layFar_38 {p : Program} {l : Launch} {e : Env} {s : State} {m : MethodId} {args : Array Value} {below : List Frame} {meth : Method} {c : Code} {D : va_G} {cy : Nat → ClassId} {ad : Nat → Nat} {base : Nat} {x2 : Int32} {x3 : Int32} {μ : gM} {o : (Int32 × Int32 × gM) ⊕ (Int32 × gM)} {RES : gM} (h : b_X8_layFar_38 x2 x3 μ = some o) (F : gF p s m meth c cX8_layFar RX8 6 none) (E : gEnv l D cy ad base s) (kc : ∀ (t : Int32 × Int32 × gM) {H : Heap} {locs : List Loc} {ls : Array Slot}, o = .inl t → gW gFull D cy ad base t.2.2 H → va_S (gA base) s.heap H locs → lv_has ls 6 [(0, .ref (ad 60)), (2, .int t.1), (3, .int t.2.1)] → W p l e ({ frames := 5, cells := 0, slots := 0, locals := 113 } : Room) s m args below meth c H locs 0 0 (MQ below (gQ none gFull D cy ad base RES) args s 0 0 (gA base)) (F0 m 38 ls [])) (kx : ∀ (t : Int32 × gM) {H : Heap} {locs : List Loc} {ls : Array Slot}, o = .inr t → gW gFull D cy ad base t.2 H → va_S (gA base) s.heap H locs → lv_has ls 6 [(0, .ref (ad 60)), (2, .int t.1)] → W p l e ({ frames := 5, cells := 0, slots := 0, locals := 113 } : Room) s m args below meth c H locs 0 0 (MQ below (gQ none gFull D cy ad base RES) args s 0 0 (gA base)) (F0 m 118 ls []))  {H : Heap} {locs : List Loc} {ls : Array Slot} (hM : gW gFull D cy ad base μ H) (hS : va_S (gA base) s.heap H locs) (hl : lv_has ls 6 [(0, .ref (ad 60)), (2, .int x2), (3, .int x3)]) : W p l e ({ frames := 5, cells := 0, slots := 0, locals := 113 } : Room) s m args below meth c H locs 0 0 (MQ below (gQ none gFull D cy ad base RES) args s 0 0 (gA base)) (F0 m 38 ls []) := by
  obtain ⟨hx, hb, hml, hown, hlocks, hr⟩ := id F
  unfold b_X8_layFar_38 at h
  refine lv_iload_n hx hb dX8_layFar_38 rfl (lv_at hl 2 rfl) ?_
  refine lv_aload_n hx hb dX8_layFar_39 rfl (lv_at hl 0 rfl) ?_
  refine lv_iconst (v := (2 : Int32)) hx hb dX8_layFar_40 (by decide) ?_
  obtain ⟨q6, hq6, h⟩ := gbind_e h
  refine g_callV (As := [.int (2 : Int32)]) (rest := [.int x3]) hx hb (hml.trans hl.1.symm) hown E hM hS hy_X8_count kw_1498 (c_X8_count hq6) hk_60 dd_60 rfl rfl rfl (Nat.le_of_ble_eq_true rfl) ⟨Nat.le_of_ble_eq_true rfl, Nat.le_of_ble_eq_true rfl⟩ ⟨Nat.le_of_ble_eq_true rfl, Nat.le_of_ble_eq_true rfl⟩ dX8_layFar_41 (fun H locs hM hS => ?_)
  refine lv_icmp_ge (tgt := 118) hx hb dX8_layFar_44 (by decide) (fun c7 => ?_) (fun c7 => ?_)
  · replace h := gif_t c7 h
    exact kx _ (Option.some.inj h).symm hM hS (lv_sub hl [0, 1] rfl)
  · replace h := gif_f c7 h
    refine lv_aload_n hx hb dX8_layFar_47 rfl (lv_at hl 0 rfl) ?_
    refine lv_iload_n hx hb dX8_layFar_48 rfl (lv_at hl 2 rfl) ?_
    obtain ⟨q8, hq8, h⟩ := gbind_e h
    refine g_callV (As := [.int x3]) (rest := []) hx hb (hml.trans hl.1.symm) hown E hM hS hy_X8_isActive kw_1671 (c_X8_isActive hq8) hk_60 dd_60 rfl rfl rfl (Nat.le_of_ble_eq_true rfl) ⟨Nat.le_of_ble_eq_true rfl, Nat.le_of_ble_eq_true rfl⟩ ⟨Nat.le_of_ble_eq_true rfl, Nat.le_of_ble_eq_true rfl⟩ dX8_layFar_49 (fun H locs hM hS => ?_)
    refine lv_if_ne (tgt := 58) hx hb dX8_layFar_52 (by decide) (fun c9 => ?_) (fun c9 => ?_)
    · replace h := gif_f c9 h
      refine lv_aload_n hx hb dX8_layFar_58 rfl (lv_at hl 0 rfl) ?_
      refine lv_aload_n hx hb dX8_layFar_59 rfl (lv_at hl 0 rfl) ?_
      refine lv_iload_n hx hb dX8_layFar_60 rfl (lv_at hl 2 rfl) ?_
      obtain ⟨q10, hq10, h⟩ := gbind_e h
      refine g_callV (As := [.int x3]) (rest := [.ref (ad 60)]) hx hb (hml.trans hl.1.symm) hown E hM hS hy_X8_first kw_1575 (c_X8_first hq10) hk_60 dd_60 rfl rfl rfl (Nat.le_of_ble_eq_true rfl) ⟨Nat.le_of_ble_eq_true rfl, Nat.le_of_ble_eq_true rfl⟩ ⟨Nat.le_of_ble_eq_true rfl, Nat.le_of_ble_eq_true rfl⟩ dX8_layFar_61 (fun H locs hM hS => ?_)
      refine lv_aload_n hx hb dX8_layFar_64 rfl (lv_at hl 0 rfl) ?_
      refine lv_iload_n hx hb dX8_layFar_65 rfl (lv_at hl 2 rfl) ?_
      obtain ⟨q11, hq11, h⟩ := gbind_e h
      refine g_callV (As := [.int x3]) (rest := [.int q10, .ref (ad 60)]) hx hb (hml.trans hl.1.symm) hown E hM hS hy_X8_second kw_1579 (c_X8_second hq11) hk_60 dd_60 rfl rfl rfl (Nat.le_of_ble_eq_true rfl) ⟨Nat.le_of_ble_eq_true rfl, Nat.le_of_ble_eq_true rfl⟩ ⟨Nat.le_of_ble_eq_true rfl, Nat.le_of_ble_eq_true rfl⟩ dX8_layFar_66 (fun H locs hM hS => ?_)
      refine lv_iload_n hx hb dX8_layFar_69 rfl (lv_at hl 2 rfl) ?_
      obtain ⟨q12, hq12, h⟩ := gbind_e h
      refine g_callV (As := [.int q10, .int q11, .int x3]) (rest := []) hx hb (hml.trans hl.1.symm) hown E hM hS hy_X8_relaxes kw_1710 (c_X8_relaxes hq12) hk_60 dd_60 rfl rfl rfl (Nat.le_of_ble_eq_true rfl) ⟨Nat.le_of_ble_eq_true rfl, Nat.le_of_ble_eq_true rfl⟩ ⟨Nat.le_of_ble_eq_true rfl, Nat.le_of_ble_eq_true rfl⟩ dX8_layFar_70 (fun H locs hM hS => ?_)
      refine lv_istore (lv' := [(4, .int (b2i q12.1)), (0, .ref (ad 60)), (2, .int x2), (3, .int x3)]) hx hb dX8_layFar_73 hl (by decide) rfl (fun ls hl => ?_)
      refine lv_aload_n hx hb dX8_layFar_75 rfl (lv_at hl 1 rfl) ?_
      refine lv_aload_n hx hb dX8_layFar_76 rfl (lv_at hl 1 rfl) ?_
      refine lv_iload_n hx hb dX8_layFar_77 rfl (lv_at hl 3 rfl) ?_
      obtain ⟨q13, hq13, h⟩ := gbind_e h
      refine g_callV (As := [.int x3]) (rest := [.ref (ad 60)]) hx hb (hml.trans hl.1.symm) hown E hM hS hy_X8_second kw_1579 (c_X8_second hq13) hk_60 dd_60 rfl rfl rfl (Nat.le_of_ble_eq_true rfl) ⟨Nat.le_of_ble_eq_true rfl, Nat.le_of_ble_eq_true rfl⟩ ⟨Nat.le_of_ble_eq_true rfl, Nat.le_of_ble_eq_true rfl⟩ dX8_layFar_78 (fun H locs hM hS => ?_)
      refine lv_aload_n hx hb dX8_layFar_81 rfl (lv_at hl 1 rfl) ?_
      refine lv_iload_n hx hb dX8_layFar_82 rfl (lv_at hl 3 rfl) ?_
      obtain ⟨q14, hq14, h⟩ := gbind_e h
      refine g_callV (As := [.int x3]) (rest := [.int q13, .ref (ad 60)]) hx hb (hml.trans hl.1.symm) hown E hM hS hy_X8_first kw_1575 (c_X8_first hq14) hk_60 dd_60 rfl rfl rfl (Nat.le_of_ble_eq_true rfl) ⟨Nat.le_of_ble_eq_true rfl, Nat.le_of_ble_eq_true rfl⟩ ⟨Nat.le_of_ble_eq_true rfl, Nat.le_of_ble_eq_true rfl⟩ dX8_layFar_83 (fun H locs hM hS => ?_)
      refine lv_iload_n hx hb dX8_layFar_86 rfl (lv_at hl 3 rfl) ?_
      obtain ⟨q15, hq15, h⟩ := gbind_e h
      refine g_callV (As := [.int q13, .int q14, .int x3]) (rest := []) hx hb (hml.trans hl.1.symm) hown E hM hS hy_X8_relaxes kw_1710 (c_X8_relaxes hq15) hk_60 dd_60 rfl rfl rfl (Nat.le_of_ble_eq_true rfl) ⟨Nat.le_of_ble_eq_true rfl, Nat.le_of_ble_eq_true rfl⟩ ⟨Nat.le_of_ble_eq_true rfl, Nat.le_of_ble_eq_true rfl⟩ dX8_layFar_87 (fun H locs hM hS => ?_)
      refine lv_istore (lv' := [(5, .int (b2i q15.1)), (4, .int (b2i q12.1)), (0, .ref (ad 60)), (2, .int x2), (3, .int x3)]) hx hb dX8_layFar_90 hl (by decide) rfl (fun ls hl => ?_)
      refine lv_iload_n hx hb dX8_layFar_92 rfl (lv_at hl 3 rfl) ?_
      refine lv_if_ne (tgt := 106) hx hb dX8_layFar_93 (by decide) (fun c16 => ?_) (fun c16 => ?_)
      · replace h := gif_f c16 h
        refine lv_iconst (v := (1 : Int32)) hx hb dX8_layFar_106 (by decide) ?_
        refine lv_goto (tgt := 111) hx hb dX8_layFar_107 (by decide) ?_
        refine lv_istore_n (lv' := [(2, .int (1 : Int32)), (5, .int (b2i q15.1)), (4, .int (b2i q12.1)), (0, .ref (ad 60)), (3, .int x3)]) hx hb dX8_layFar_111 rfl hl (by decide) rfl (fun ls hl => ?_)
        refine lv_iinc (v := (x3 + (1 : Int32))) (lv' := [(3, .int (x3 + (1 : Int32))), (2, .int (1 : Int32)), (5, .int (b2i q15.1)), (4, .int (b2i q12.1)), (0, .ref (ad 60))]) hx hb dX8_layFar_112 hl (k := 4) rfl rfl (by decide) rfl (fun ls hl => ?_)
        refine lv_goto (tgt := 38) hx hb dX8_layFar_115 (by decide) ?_
        exact kc _ (Option.some.inj h).symm hM hS (lv_sub hl [4, 1, 0] rfl)
      · replace h := gif_t c16 h
        refine lv_iload hx hb dX8_layFar_96 (lv_at hl 1 rfl) ?_
        refine lv_if_ne (tgt := 106) hx hb dX8_layFar_98 (by decide) (fun c17 => ?_) (fun c17 => ?_)
        · replace h := gif_f c17 h
          refine lv_iconst (v := (1 : Int32)) hx hb dX8_layFar_106 (by decide) ?_
          refine lv_goto (tgt := 111) hx hb dX8_layFar_107 (by decide) ?_
          refine lv_istore_n (lv' := [(2, .int (1 : Int32)), (5, .int (b2i q15.1)), (4, .int (b2i q12.1)), (0, .ref (ad 60)), (3, .int x3)]) hx hb dX8_layFar_111 rfl hl (by decide) rfl (fun ls hl => ?_)
          refine lv_iinc (v := (x3 + (1 : Int32))) (lv' := [(3, .int (x3 + (1 : Int32))), (2, .int (1 : Int32)), (5, .int (b2i q15.1)), (4, .int (b2i q12.1)), (0, .ref (ad 60))]) hx hb dX8_layFar_112 hl (k := 4) rfl rfl (by decide) rfl (fun ls hl => ?_)
          refine lv_goto (tgt := 38) hx hb dX8_layFar_115 (by decide) ?_
          exact kc _ (Option.some.inj h).symm hM hS (lv_sub hl [4, 1, 0] rfl)
        · replace h := gif_t c17 h
          refine lv_iload hx hb dX8_layFar_101 (lv_at hl 0 rfl) ?_
          refine lv_if_eq (tgt := 110) hx hb dX8_layFar_103 (by decide) (fun c18 => ?_) (fun c18 => ?_)
          · replace h := gif_t c18 h
            refine lv_iconst (v := (0 : Int32)) hx hb dX8_layFar_110 (by decide) ?_
            refine lv_istore_n (lv' := [(2, .int (0 : Int32)), (5, .int (b2i q15.1)), (4, .int (b2i q12.1)), (0, .ref (ad 60)), (3, .int x3)]) hx hb dX8_layFar_111 rfl hl (by decide) rfl (fun ls hl => ?_)
            refine lv_iinc (v := (x3 + (1 : Int32))) (lv' := [(3, .int (x3 + (1 : Int32))), (2, .int (0 : Int32)), (5, .int (b2i q15.1)), (4, .int (b2i q12.1)), (0, .ref (ad 60))]) hx hb dX8_layFar_112 hl (k := 4) rfl rfl (by decide) rfl (fun ls hl => ?_)
            refine lv_goto (tgt := 38) hx hb dX8_layFar_115 (by decide) ?_
            exact kc _ (Option.some.inj h).symm hM hS (lv_sub hl [4, 1, 0] rfl)
          · replace h := gif_f c18 h
            refine lv_iconst (v := (1 : Int32)) hx hb dX8_layFar_106 (by decide) ?_
            refine lv_goto (tgt := 111) hx hb dX8_layFar_107 (by decide) ?_
            refine lv_istore_n (lv' := [(2, .int (1 : Int32)), (5, .int (b2i q15.1)), (4, .int (b2i q12.1)), (0, .ref (ad 60)), (3, .int x3)]) hx hb dX8_layFar_111 rfl hl (by decide) rfl (fun ls hl => ?_)
            refine lv_iinc (v := (x3 + (1 : Int32))) (lv' := [(3, .int (x3 + (1 : Int32))), (2, .int (1 : Int32)), (5, .int (b2i q15.1)), (4, .int (b2i q12.1)), (0, .ref (ad 60))]) hx hb dX8_layFar_112 hl (k := 4) rfl rfl (by decide) rfl (fun ls hl => ?_)
            refine lv_goto (tgt := 38) hx hb dX8_layFar_115 (by decide) ?_
            exact kc _ (Option.some.inj h).symm hM hS (lv_sub hl [4, 1, 0] rfl)
    · replace h := gif_t c9 h
      refine lv_goto (tgt := 112) hx hb dX8_layFar_55 (by decide) ?_
      refine lv_iinc (v := (x3 + (1 : Int32))) (lv' := [(3, .int (x3 + (1 : Int32))), (0, .ref (ad 60)), (2, .int x2)]) hx hb dX8_layFar_112 hl (k := 2) rfl rfl (by decide) rfl (fun ls hl => ?_)
      refine lv_goto (tgt := 38) hx hb dX8_layFar_115 (by decide) ?_
      exact kc _ (Option.some.inj h).symm hM hS (lv_sub hl [1, 2, 0] rfl)
set_option maxHeartbeats 4000000 in
theorem wl_X8_layFar_38 {p : Program} {l : Launch} {e : Env} {s : State} {m : MethodId} {args : Array Value} {below : List Frame} {meth : Method} {c : Code} {D : va_G} {cy : Nat → ClassId} {ad : Nat → Nat} {base : Nat}  {r : Int32 × gM} {RES : gM} (F : gF p s m meth c cX8_layFar RX8 6 none) (E : gEnv l D cy ad base s) (kx : ∀ (t : Int32 × gM) {H : Heap} {locs : List Loc} {ls : Array Slot}, r = t → gW gFull D cy ad base t.2 H → va_S (gA base) s.heap H locs → lv_has ls 6 [(0, .ref (ad 60)), (2, .int t.1)] → W p l e ({ frames := 5, cells := 0, slots := 0, locals := 113 } : Room) s m args below meth c H locs 0 0 (MQ below (gQ none gFull D cy ad base RES) args s 0 0 (gA base)) (F0 m 118 ls []))  : ∀ (n : Nat) (x2 : Int32) (x3 : Int32) (μ : gM), gloop (fun t => b_X8_layFar_38  t.1 t.2.1 t.2.2) n (x2, x3, μ) = some r → ∀ {H : Heap} {locs : List Loc} {ls : Array Slot}, gW gFull D cy ad base μ H → va_S (gA base) s.heap H locs → lv_has ls 6 [(0, .ref (ad 60)), (2, .int x2), (3, .int x3)] → W p l e ({ frames := 5, cells := 0, slots := 0, locals := 113 } : Room) s m args below meth c H locs 0 0 (MQ below (gQ none gFull D cy ad base RES) args s 0 0 (gA base)) (F0 m 38 ls []) := by
  intro n
  induction n with
  | zero =>
    intro x2 x3 μ h
    exact (gloop_0 h).elim
  | succ n ih =>
    intro x2 x3 μ h H locs ls hM hS hl
    obtain ⟨o, h0, hc, hq⟩ := gloop_s h
    have h1 : b_X8_layFar_38 x2 x3 μ = some o := h0
    exact wb_X8_layFar_38 h1 F E (fun t H locs ls ho hM hS hl => ih t.1 t.2.1 t.2.2 (hc t ho) hM hS hl) (fun t H locs ls ho hM hS hl => kx t (hq _ ho).symm hM hS hl) hM hS hl
def b_X8_layFar_30 (x2 : Int32) (μ : gM) : Option ((Int32 × gM) ⊕ (gM)) :=
  if (x2 = 0) then some (.inr μ) else Option.bind (gloop (fun t => b_X8_layFar_38  t.1 t.2.1 t.2.2) gFuel ((0 : Int32), (0 : Int32), μ)) (fun q19 => some (.inl (q19.1, q19.2)))
set_option maxHeartbeats 4000000 in
set_option maxRecDepth 100000 in
theorem wb_X8_layFar_30 {p : Program} {l : Launch} {e : Env} {s : State} {m : MethodId} {args : Array Value} {below : List Frame} {meth : Method} {c : Code} {D : va_G} {cy : Nat → ClassId} {ad : Nat → Nat} {base : Nat} {x2 : Int32} {μ : gM} {o : (Int32 × gM) ⊕ (gM)} {RES : gM} (h : b_X8_layFar_30 x2 μ = some o) (F : gF p s m meth c cX8_layFar RX8 6 none) (E : gEnv l D cy ad base s) (kc : ∀ (t : Int32 × gM) {H : Heap} {locs : List Loc} {ls : Array Slot}, o = .inl t → gW gFull D cy ad base t.2 H → va_S (gA base) s.heap H locs → lv_has ls 6 [(0, .ref (ad 60)), (2, .int t.1)] → W p l e ({ frames := 5, cells := 0, slots := 0, locals := 113 } : Room) s m args below meth c H locs 0 0 (MQ below (gQ none gFull D cy ad base RES) args s 0 0 (gA base)) (F0 m 30 ls [])) (kx : ∀ (t : gM) {H : Heap} {locs : List Loc} {ls : Array Slot}, o = .inr t → gW gFull D cy ad base t H → va_S (gA base) s.heap H locs → lv_has ls 6 [] → W p l e ({ frames := 5, cells := 0, slots := 0, locals := 113 } : Room) s m args below meth c H locs 0 0 (MQ below (gQ none gFull D cy ad base RES) args s 0 0 (gA base)) (F0 m 121 ls []))  {H : Heap} {locs : List Loc} {ls : Array Slot} (hM : gW gFull D cy ad base μ H) (hS : va_S (gA base) s.heap H locs) (hl : lv_has ls 6 [(0, .ref (ad 60)), (2, .int x2)]) : W p l e ({ frames := 5, cells := 0, slots := 0, locals := 113 } : Room) s m args below meth c H locs 0 0 (MQ below (gQ none gFull D cy ad base RES) args s 0 0 (gA base)) (F0 m 30 ls []) := by
  obtain ⟨hx, hb, hml, hown, hlocks, hr⟩ := id F
  unfold b_X8_layFar_30 at h
  refine lv_iload_n hx hb dX8_layFar_30 rfl (lv_at hl 1 rfl) ?_
  refine lv_if_eq (tgt := 121) hx hb dX8_layFar_31 (by decide) (fun c5 => ?_) (fun c5 => ?_)
  · replace h := gif_t c5 h
    exact kx _ (Option.some.inj h).symm hM hS (lv_sub hl [] rfl)
  · replace h := gif_f c5 h
    refine lv_iconst (v := (0 : Int32)) hx hb dX8_layFar_34 (by decide) ?_
    refine lv_istore_n (lv' := [(2, .int (0 : Int32)), (0, .ref (ad 60))]) hx hb dX8_layFar_35 rfl hl (by decide) rfl (fun ls hl => ?_)
    refine lv_iconst (v := (0 : Int32)) hx hb dX8_layFar_36 (by decide) ?_
    refine lv_istore_n (lv' := [(3, .int (0 : Int32)), (2, .int (0 : Int32)), (0, .ref (ad 60))]) hx hb dX8_layFar_37 rfl hl (by decide) rfl (fun ls hl => ?_)
    obtain ⟨z20, h1, h⟩ := gbind_e h
    refine wl_X8_layFar_38 F E (r := z20) (fun q19 H locs ls e1 hM hS hl => ?_) gFuel (0 : Int32) (0 : Int32) μ h1 hM hS (lv_sub hl [2, 1, 0] rfl)
    replace e1 : z20 = q19 := e1
    rw [e1] at h
    refine lv_goto (tgt := 30) hx hb dX8_layFar_118 (by decide) ?_
    exact kc _ (Option.some.inj h).symm hM hS hl
set_option maxHeartbeats 4000000 in
theorem wl_X8_layFar_30 {p : Program} {l : Launch} {e : Env} {s : State} {m : MethodId} {args : Array Value} {below : List Frame} {meth : Method} {c : Code} {D : va_G} {cy : Nat → ClassId} {ad : Nat → Nat} {base : Nat}  {r : gM} {RES : gM} (F : gF p s m meth c cX8_layFar RX8 6 none) (E : gEnv l D cy ad base s) (kx : ∀ (t : gM) {H : Heap} {locs : List Loc} {ls : Array Slot}, r = t → gW gFull D cy ad base t H → va_S (gA base) s.heap H locs → lv_has ls 6 [] → W p l e ({ frames := 5, cells := 0, slots := 0, locals := 113 } : Room) s m args below meth c H locs 0 0 (MQ below (gQ none gFull D cy ad base RES) args s 0 0 (gA base)) (F0 m 121 ls []))  : ∀ (n : Nat) (x2 : Int32) (μ : gM), gloop (fun t => b_X8_layFar_30  t.1 t.2) n (x2, μ) = some r → ∀ {H : Heap} {locs : List Loc} {ls : Array Slot}, gW gFull D cy ad base μ H → va_S (gA base) s.heap H locs → lv_has ls 6 [(0, .ref (ad 60)), (2, .int x2)] → W p l e ({ frames := 5, cells := 0, slots := 0, locals := 113 } : Room) s m args below meth c H locs 0 0 (MQ below (gQ none gFull D cy ad base RES) args s 0 0 (gA base)) (F0 m 30 ls []) := by
  intro n
  induction n with
  | zero =>
    intro x2 μ h
    exact (gloop_0 h).elim
  | succ n ih =>
    intro x2 μ h H locs ls hM hS hl
    obtain ⟨o, h0, hc, hq⟩ := gloop_s h
    have h1 : b_X8_layFar_30 x2 μ = some o := h0
    exact wb_X8_layFar_30 h1 F E (fun t H locs ls ho hM hS hl => ih t.1 t.2 (hc t ho) hM hS hl) (fun t H locs ls ho hM hS hl => kx t (hq _ ho).symm hM hS hl) hM hS hl
def f_X8_layFar (p1 : Int32) (μ : gM) : Option (gM) :=
  Option.bind (gloop (fun t => b_X8_layFar_2 p1 t.1 t.2) gFuel ((0 : Int32), μ)) (fun q3 => gchk (gIn p1 16) (Option.bind (gloop (fun t => b_X8_layFar_30  t.1 t.2) gFuel ((1 : Int32), (si q3 69 p1.toNatClampNeg (0 : Int32)))) (fun q21 => some q21)))
set_option maxHeartbeats 4000000 in
set_option maxRecDepth 100000 in
theorem c_X8_layFar {l : Launch} {D : va_G} {cy : Nat → ClassId} {ad : Nat → Nat} {base : Nat} {p1 : Int32} {μ : gM} {RES : gM} (h : f_X8_layFar p1 μ = some RES) : Met l yX8_layFar [.code yX8_layFar cX8_layFar 6 none] ({ frames := 5, cells := 0, slots := 0, locals := 113 } : Room) (va_Pc [.ref (ad 60), .int p1] (gB l gFull D cy ad base μ)) (gQ none gFull D cy ad base RES) 0 0 (gA base) := by
  refine Met.ofW (cc := cX8_layFar) (maxL := 6) (ret := none) (by decide) rfl ?_
  intro p e s m args below meth c s₁ B hml0 hv
  obtain ⟨rfl, E, hM⟩ := hv
  have F : gF p s m meth c cX8_layFar RX8 6 none := gF_of B hml0
  obtain ⟨hx, hb, hml, hown, hlocks, hr⟩ := id F
  have hS : va_S (gA base) s.heap s.heap [] := va_S.rf
  have hl := lv_entry ([.ref (ad 60), .int p1]) (n := 6) (Nat.le_of_ble_eq_true rfl)
  rw [lg_entry_eq]
  generalize (lg_sl ([.ref (ad 60), .int p1]) ++ List.replicate (6 - (lg_sl ([.ref (ad 60), .int p1])).length) Slot.unset).toArray = ls at hl ⊢
  have hl : lv_has ls 6 [(0, .ref (ad 60)), (1, .int p1)] := hl
  unfold f_X8_layFar at h
  refine lv_iconst (v := (0 : Int32)) hx hb dX8_layFar_0 (by decide) ?_
  refine lv_istore_n (lv' := [(2, .int (0 : Int32)), (0, .ref (ad 60)), (1, .int p1)]) hx hb dX8_layFar_1 rfl hl (by decide) rfl (fun ls hl => ?_)
  obtain ⟨z23, h1, h⟩ := gbind_e h
  refine wl_X8_layFar_2 F E (r := z23) (fun q3 H locs ls e1 hM hS hl => ?_) gFuel (0 : Int32) μ h1 hM hS (lv_sub hl [1, 2, 0] rfl)
  replace e1 : z23 = q3 := e1
  rw [e1] at h
  refine lv_aload_n hx hb dX8_layFar_21 rfl (lv_at hl 0 rfl) ?_
  refine gg_60_21 hx hb hown E hM hk_60 kw_1263 dX8_layFar_22 ?_
  refine lv_iload_n hx hb dX8_layFar_25 rfl (lv_at hl 1 rfl) ?_
  refine lv_iconst (v := (0 : Int32)) hx hb dX8_layFar_26 (by decide) ?_
  obtain ⟨c4, h⟩ := gchk_e h
  refine g_iast hx hb E hM hS hk_69 dd_69 c4 dX8_layFar_27 (fun H locs hM hS => ?_)
  refine lv_iconst (v := (1 : Int32)) hx hb dX8_layFar_28 (by decide) ?_
  refine lv_istore_n (lv' := [(2, .int (1 : Int32)), (0, .ref (ad 60)), (1, .int p1)]) hx hb dX8_layFar_29 rfl hl (by decide) rfl (fun ls hl => ?_)
  obtain ⟨z22, h1, h⟩ := gbind_e h
  refine wl_X8_layFar_30 F E (r := z22) (fun q21 H locs ls e1 hM hS hl => ?_) gFuel (1 : Int32) (si q3 69 p1.toNatClampNeg (0 : Int32)) h1 hM hS (lv_sub hl [1, 0] rfl)
  replace e1 : z22 = q21 := e1
  rw [e1] at h
  obtain rfl := Option.some.inj h
  exact g_vret hx hb hr hlocks hM hS dX8_layFar_121
def b_X8_layWay_38 (x1 : Int32) (x3 : Int32) (x4 : Int32) (μ : gM) : Option ((Int32) ⊕ (Int32)) :=
  Option.bind (f_X8_touches x4 x3 μ) (fun q5 => if ((b2i q5) = 0) then some (.inl (x4 + (1 : Int32))) else Option.bind (f_X8_otherOf x4 x3 μ) (fun q7 => gchk (gIn q7 16) (gchk (gIn x3 16) (Option.bind (f_X8_length x4 μ) (fun q10 => if ((gi μ 69 q7.toNatClampNeg) = ((gi μ 69 x3.toNatClampNeg) - q10)) then some (.inr x4) else some (.inl (x4 + (1 : Int32))))))))
set_option maxHeartbeats 4000000 in
set_option maxRecDepth 100000 in
theorem wb_X8_layWay_38 {p : Program} {l : Launch} {e : Env} {s : State} {m : MethodId} {args : Array Value} {below : List Frame} {meth : Method} {c : Code} {D : va_G} {cy : Nat → ClassId} {ad : Nat → Nat} {base : Nat} {x1 : Int32} {x3 : Int32} {x4 : Int32} {μ : gM} {o : (Int32) ⊕ (Int32)} {RES : gM} (h : b_X8_layWay_38 x1 x3 x4 μ = some o) (F : gF p s m meth c cX8_layWay RX8 5 none) (E : gEnv l D cy ad base s) (kc : ∀ (t : Int32) {H : Heap} {locs : List Loc} {ls : Array Slot}, o = .inl t → gW gFull D cy ad base μ H → va_S (gA base) s.heap H locs → lv_has ls 5 [(0, .ref (ad 60)), (1, .int x1), (3, .int x3), (4, .int t)] → W p l e ({ frames := 6, cells := 0, slots := 0, locals := 138 } : Room) s m args below meth c H locs 0 0 (MQ below (gQ none gFull D cy ad base RES) args s 0 0 (gA base)) (F0 m 38 ls [])) (kx : ∀ (t : Int32) {H : Heap} {locs : List Loc} {ls : Array Slot}, o = .inr t → gW gFull D cy ad base μ H → va_S (gA base) s.heap H locs → lv_has ls 5 [(0, .ref (ad 60)), (1, .int x1), (3, .int x3), (4, .int t)] → W p l e ({ frames := 6, cells := 0, slots := 0, locals := 138 } : Room) s m args below meth c H locs 0 0 (MQ below (gQ none gFull D cy ad base RES) args s 0 0 (gA base)) (F0 m 82 ls []))  {H : Heap} {locs : List Loc} {ls : Array Slot} (hM : gW gFull D cy ad base μ H) (hS : va_S (gA base) s.heap H locs) (hl : lv_has ls 5 [(0, .ref (ad 60)), (1, .int x1), (3, .int x3), (4, .int x4)]) : W p l e ({ frames := 6, cells := 0, slots := 0, locals := 138 } : Room) s m args below meth c H locs 0 0 (MQ below (gQ none gFull D cy ad base RES) args s 0 0 (gA base)) (F0 m 38 ls []) := by
  obtain ⟨hx, hb, hml, hown, hlocks, hr⟩ := id F
  unfold b_X8_layWay_38 at h
  refine lv_aload_n hx hb dX8_layWay_38 rfl (lv_at hl 0 rfl) ?_
  refine lv_iload hx hb dX8_layWay_39 (lv_at hl 3 rfl) ?_
  refine lv_iload_n hx hb dX8_layWay_41 rfl (lv_at hl 2 rfl) ?_
  obtain ⟨q5, hq5, h⟩ := gbind_e h
  refine g_callV (As := [.int x4, .int x3]) (rest := []) hx hb (hml.trans hl.1.symm) hown E hM hS hy_X8_touches kw_1667 (c_X8_touches hq5) hk_60 dd_60 rfl rfl rfl (Nat.le_of_ble_eq_true rfl) ⟨Nat.le_of_ble_eq_true rfl, Nat.le_of_ble_eq_true rfl⟩ ⟨Nat.le_of_ble_eq_true rfl, Nat.le_of_ble_eq_true rfl⟩ dX8_layWay_42 (fun H locs hM hS => ?_)
  refine lv_if_eq (tgt := 76) hx hb dX8_layWay_45 (by decide) (fun c6 => ?_) (fun c6 => ?_)
  · replace h := gif_t c6 h
    refine lv_iinc (v := (x4 + (1 : Int32))) (lv' := [(4, .int (x4 + (1 : Int32))), (0, .ref (ad 60)), (1, .int x1), (3, .int x3)]) hx hb dX8_layWay_76 hl (k := 3) rfl rfl (by decide) rfl (fun ls hl => ?_)
    refine lv_goto (tgt := 38) hx hb dX8_layWay_79 (by decide) ?_
    exact kc _ (Option.some.inj h).symm hM hS (lv_sub hl [1, 2, 3, 0] rfl)
  · replace h := gif_f c6 h
    refine lv_aload_n hx hb dX8_layWay_48 rfl (lv_at hl 0 rfl) ?_
    refine gg_60_21 hx hb hown E hM hk_60 kw_1263 dX8_layWay_49 ?_
    refine lv_aload_n hx hb dX8_layWay_52 rfl (lv_at hl 0 rfl) ?_
    refine lv_iload hx hb dX8_layWay_53 (lv_at hl 3 rfl) ?_
    refine lv_iload_n hx hb dX8_layWay_55 rfl (lv_at hl 2 rfl) ?_
    obtain ⟨q7, hq7, h⟩ := gbind_e h
    refine g_callV (As := [.int x4, .int x3]) (rest := [.ref (ad 69)]) hx hb (hml.trans hl.1.symm) hown E hM hS hy_X8_otherOf kw_1722 (c_X8_otherOf hq7) hk_60 dd_60 rfl rfl rfl (Nat.le_of_ble_eq_true rfl) ⟨Nat.le_of_ble_eq_true rfl, Nat.le_of_ble_eq_true rfl⟩ ⟨Nat.le_of_ble_eq_true rfl, Nat.le_of_ble_eq_true rfl⟩ dX8_layWay_56 (fun H locs hM hS => ?_)
    obtain ⟨c8, h⟩ := gchk_e h
    refine g_iald hx hb E hM hk_69 dd_69 c8 dX8_layWay_59 ?_
    refine lv_aload_n hx hb dX8_layWay_60 rfl (lv_at hl 0 rfl) ?_
    refine gg_60_21 hx hb hown E hM hk_60 kw_1263 dX8_layWay_61 ?_
    refine lv_iload_n hx hb dX8_layWay_64 rfl (lv_at hl 2 rfl) ?_
    obtain ⟨c9, h⟩ := gchk_e h
    refine g_iald hx hb E hM hk_69 dd_69 c9 dX8_layWay_65 ?_
    refine lv_aload_n hx hb dX8_layWay_66 rfl (lv_at hl 0 rfl) ?_
    refine lv_iload hx hb dX8_layWay_67 (lv_at hl 3 rfl) ?_
    obtain ⟨q10, hq10, h⟩ := gbind_e h
    refine g_callV (As := [.int x4]) (rest := [.int (gi μ 69 x3.toNatClampNeg), .int (gi μ 69 q7.toNatClampNeg)]) hx hb (hml.trans hl.1.symm) hown E hM hS hy_X8_length kw_1587 (c_X8_length hq10) hk_60 dd_60 rfl rfl rfl (Nat.le_of_ble_eq_true rfl) ⟨Nat.le_of_ble_eq_true rfl, Nat.le_of_ble_eq_true rfl⟩ ⟨Nat.le_of_ble_eq_true rfl, Nat.le_of_ble_eq_true rfl⟩ dX8_layWay_69 (fun H locs hM hS => ?_)
    refine lv_isub hx hb dX8_layWay_72 ?_
    refine lv_icmp_eq (tgt := 82) hx hb dX8_layWay_73 (by decide) (fun c11 => ?_) (fun c11 => ?_)
    · replace h := gif_t c11 h
      exact kx _ (Option.some.inj h).symm hM hS hl
    · replace h := gif_f c11 h
      refine lv_iinc (v := (x4 + (1 : Int32))) (lv' := [(4, .int (x4 + (1 : Int32))), (0, .ref (ad 60)), (1, .int x1), (3, .int x3)]) hx hb dX8_layWay_76 hl (k := 3) rfl rfl (by decide) rfl (fun ls hl => ?_)
      refine lv_goto (tgt := 38) hx hb dX8_layWay_79 (by decide) ?_
      exact kc _ (Option.some.inj h).symm hM hS (lv_sub hl [1, 2, 3, 0] rfl)
set_option maxHeartbeats 4000000 in
theorem wl_X8_layWay_38 {p : Program} {l : Launch} {e : Env} {s : State} {m : MethodId} {args : Array Value} {below : List Frame} {meth : Method} {c : Code} {D : va_G} {cy : Nat → ClassId} {ad : Nat → Nat} {base : Nat} {x1 : Int32} {x3 : Int32} {μ : gM} {r : Int32} {RES : gM} (F : gF p s m meth c cX8_layWay RX8 5 none) (E : gEnv l D cy ad base s) (kx : ∀ (t : Int32) {H : Heap} {locs : List Loc} {ls : Array Slot}, r = t → gW gFull D cy ad base μ H → va_S (gA base) s.heap H locs → lv_has ls 5 [(0, .ref (ad 60)), (1, .int x1), (3, .int x3), (4, .int t)] → W p l e ({ frames := 6, cells := 0, slots := 0, locals := 138 } : Room) s m args below meth c H locs 0 0 (MQ below (gQ none gFull D cy ad base RES) args s 0 0 (gA base)) (F0 m 82 ls []))  : ∀ (n : Nat) (x4 : Int32), gloop (fun t => b_X8_layWay_38 x1 x3 t μ) n x4 = some r → ∀ {H : Heap} {locs : List Loc} {ls : Array Slot}, gW gFull D cy ad base μ H → va_S (gA base) s.heap H locs → lv_has ls 5 [(0, .ref (ad 60)), (1, .int x1), (3, .int x3), (4, .int x4)] → W p l e ({ frames := 6, cells := 0, slots := 0, locals := 138 } : Room) s m args below meth c H locs 0 0 (MQ below (gQ none gFull D cy ad base RES) args s 0 0 (gA base)) (F0 m 38 ls []) := by
  intro n
  induction n with
  | zero =>
    intro x4 h
    exact (gloop_0 h).elim
  | succ n ih =>
    intro x4 h H locs ls hM hS hl
    obtain ⟨o, h0, hc, hq⟩ := gloop_s h
    have h1 : b_X8_layWay_38 x1 x3 x4 μ = some o := h0
    exact wb_X8_layWay_38 h1 F E (fun t H locs ls ho hM hS hl => ih t (hc t ho) hM hS hl) (fun t H locs ls ho hM hS hl => kx t (hq _ ho).symm hM hS hl) hM hS hl
def b_X8_layWay_30 (x1 : Int32) (x3 : Int32) (μ : gM) : Option ((Int32 × gM) ⊕ (gM)) :=
  if (x3 = x1) then some (.inr μ) else Option.bind (gloop (fun t => b_X8_layWay_38 x1 x3 t μ) gFuel (0 : Int32)) (fun q12 => Option.bind (f_X8_otherOf q12 x3 (si μ 60 22 ((gi μ 60 22) ||| ((1 : Int32) <<< (q12 &&& 31))))) (fun q13 => Option.bind (f_X8_riseFrom q12 q13 (si μ 60 22 ((gi μ 60 22) ||| ((1 : Int32) <<< (q12 &&& 31))))) (fun q14 => some (.inl (q13, (si (si μ 60 22 ((gi μ 60 22) ||| ((1 : Int32) <<< (q12 &&& 31)))) 60 23 ((gi (si μ 60 22 ((gi μ 60 22) ||| ((1 : Int32) <<< (q12 &&& 31)))) 60 23) + q14)))))))
set_option maxHeartbeats 4000000 in
set_option maxRecDepth 100000 in
theorem wb_X8_layWay_30 {p : Program} {l : Launch} {e : Env} {s : State} {m : MethodId} {args : Array Value} {below : List Frame} {meth : Method} {c : Code} {D : va_G} {cy : Nat → ClassId} {ad : Nat → Nat} {base : Nat} {x1 : Int32} {x3 : Int32} {μ : gM} {o : (Int32 × gM) ⊕ (gM)} {RES : gM} (h : b_X8_layWay_30 x1 x3 μ = some o) (F : gF p s m meth c cX8_layWay RX8 5 none) (E : gEnv l D cy ad base s) (kc : ∀ (t : Int32 × gM) {H : Heap} {locs : List Loc} {ls : Array Slot}, o = .inl t → gW gFull D cy ad base t.2 H → va_S (gA base) s.heap H locs → lv_has ls 5 [(0, .ref (ad 60)), (1, .int x1), (3, .int t.1)] → W p l e ({ frames := 6, cells := 0, slots := 0, locals := 138 } : Room) s m args below meth c H locs 0 0 (MQ below (gQ none gFull D cy ad base RES) args s 0 0 (gA base)) (F0 m 30 ls [])) (kx : ∀ (t : gM) {H : Heap} {locs : List Loc} {ls : Array Slot}, o = .inr t → gW gFull D cy ad base t H → va_S (gA base) s.heap H locs → lv_has ls 5 [] → W p l e ({ frames := 6, cells := 0, slots := 0, locals := 138 } : Room) s m args below meth c H locs 0 0 (MQ below (gQ none gFull D cy ad base RES) args s 0 0 (gA base)) (F0 m 122 ls []))  {H : Heap} {locs : List Loc} {ls : Array Slot} (hM : gW gFull D cy ad base μ H) (hS : va_S (gA base) s.heap H locs) (hl : lv_has ls 5 [(0, .ref (ad 60)), (1, .int x1), (3, .int x3)]) : W p l e ({ frames := 6, cells := 0, slots := 0, locals := 138 } : Room) s m args below meth c H locs 0 0 (MQ below (gQ none gFull D cy ad base RES) args s 0 0 (gA base)) (F0 m 30 ls []) := by
  obtain ⟨hx, hb, hml, hown, hlocks, hr⟩ := id F
  unfold b_X8_layWay_30 at h
  refine lv_iload_n hx hb dX8_layWay_30 rfl (lv_at hl 2 rfl) ?_
  refine lv_iload_n hx hb dX8_layWay_31 rfl (lv_at hl 1 rfl) ?_
  refine lv_icmp_eq (tgt := 122) hx hb dX8_layWay_32 (by decide) (fun c4 => ?_) (fun c4 => ?_)
  · replace h := gif_t c4 h
    exact kx _ (Option.some.inj h).symm hM hS (lv_sub hl [] rfl)
  · replace h := gif_f c4 h
    refine lv_iconst (v := (0 : Int32)) hx hb dX8_layWay_35 (by decide) ?_
    refine lv_istore (lv' := [(4, .int (0 : Int32)), (0, .ref (ad 60)), (1, .int x1), (3, .int x3)]) hx hb dX8_layWay_36 hl (by decide) rfl (fun ls hl => ?_)
    obtain ⟨z15, h1, h⟩ := gbind_e h
    refine wl_X8_layWay_38 F E (r := z15) (fun q12 H locs ls e1 hM hS hl => ?_) gFuel (0 : Int32) h1 hM hS (lv_sub hl [1, 2, 3, 0] rfl)
    replace e1 : z15 = q12 := e1
    rw [e1] at h
    refine lv_aload_n hx hb dX8_layWay_82 rfl (lv_at hl 0 rfl) ?_
    refine lv_dup hx hb dX8_layWay_83 rfl ?_
    refine gg_60_22 hx hb hown E hM hk_60 kw_1264 dX8_layWay_84 ?_
    refine lv_iconst (v := (1 : Int32)) hx hb dX8_layWay_87 (by decide) ?_
    refine lv_iload hx hb dX8_layWay_88 (lv_at hl 3 rfl) ?_
    refine lv_ishl hx hb dX8_layWay_90 ?_
    refine lv_ior hx hb dX8_layWay_91 ?_
    refine gp_60_22 hx hb hown E hM hS hk_60 kw_1264 dX8_layWay_92 (fun H locs hM hS => ?_)
    refine lv_aload_n hx hb dX8_layWay_95 rfl (lv_at hl 0 rfl) ?_
    refine lv_iload hx hb dX8_layWay_96 (lv_at hl 3 rfl) ?_
    refine lv_iload_n hx hb dX8_layWay_98 rfl (lv_at hl 2 rfl) ?_
    obtain ⟨q13, hq13, h⟩ := gbind_e h
    refine g_callV (As := [.int q12, .int x3]) (rest := []) hx hb (hml.trans hl.1.symm) hown E hM hS hy_X8_otherOf kw_1722 (c_X8_otherOf hq13) hk_60 dd_60 rfl rfl rfl (Nat.le_of_ble_eq_true rfl) ⟨Nat.le_of_ble_eq_true rfl, Nat.le_of_ble_eq_true rfl⟩ ⟨Nat.le_of_ble_eq_true rfl, Nat.le_of_ble_eq_true rfl⟩ dX8_layWay_99 (fun H locs hM hS => ?_)
    refine lv_istore_n (lv' := [(3, .int q13), (0, .ref (ad 60)), (1, .int x1), (4, .int q12)]) hx hb dX8_layWay_102 rfl hl (by decide) rfl (fun ls hl => ?_)
    refine lv_aload_n hx hb dX8_layWay_103 rfl (lv_at hl 1 rfl) ?_
    refine lv_dup hx hb dX8_layWay_104 rfl ?_
    refine gg_60_23 hx hb hown E hM hk_60 kw_1265 dX8_layWay_105 ?_
    refine lv_aload_n hx hb dX8_layWay_108 rfl (lv_at hl 1 rfl) ?_
    refine lv_iload hx hb dX8_layWay_109 (lv_at hl 3 rfl) ?_
    refine lv_iload_n hx hb dX8_layWay_111 rfl (lv_at hl 0 rfl) ?_
    obtain ⟨q14, hq14, h⟩ := gbind_e h
    refine g_callV (As := [.int q12, .int q13]) (rest := [.int (gi (si μ 60 22 ((gi μ 60 22) ||| ((1 : Int32) <<< (q12 &&& 31)))) 60 23), .ref (ad 60)]) hx hb (hml.trans hl.1.symm) hown E hM hS hy_X8_riseFrom kw_1659 (c_X8_riseFrom hq14) hk_60 dd_60 rfl rfl rfl (Nat.le_of_ble_eq_true rfl) ⟨Nat.le_of_ble_eq_true rfl, Nat.le_of_ble_eq_true rfl⟩ ⟨Nat.le_of_ble_eq_true rfl, Nat.le_of_ble_eq_true rfl⟩ dX8_layWay_112 (fun H locs hM hS => ?_)
    refine lv_iadd hx hb dX8_layWay_115 ?_
    refine gp_60_23 hx hb hown E hM hS hk_60 kw_1265 dX8_layWay_116 (fun H locs hM hS => ?_)
    refine lv_goto (tgt := 30) hx hb dX8_layWay_119 (by decide) ?_
    exact kc _ (Option.some.inj h).symm hM hS (lv_sub hl [1, 2, 0] rfl)
set_option maxHeartbeats 4000000 in
theorem wl_X8_layWay_30 {p : Program} {l : Launch} {e : Env} {s : State} {m : MethodId} {args : Array Value} {below : List Frame} {meth : Method} {c : Code} {D : va_G} {cy : Nat → ClassId} {ad : Nat → Nat} {base : Nat} {x1 : Int32} {r : gM} {RES : gM} (F : gF p s m meth c cX8_layWay RX8 5 none) (E : gEnv l D cy ad base s) (kx : ∀ (t : gM) {H : Heap} {locs : List Loc} {ls : Array Slot}, r = t → gW gFull D cy ad base t H → va_S (gA base) s.heap H locs → lv_has ls 5 [] → W p l e ({ frames := 6, cells := 0, slots := 0, locals := 138 } : Room) s m args below meth c H locs 0 0 (MQ below (gQ none gFull D cy ad base RES) args s 0 0 (gA base)) (F0 m 122 ls []))  : ∀ (n : Nat) (x3 : Int32) (μ : gM), gloop (fun t => b_X8_layWay_30 x1 t.1 t.2) n (x3, μ) = some r → ∀ {H : Heap} {locs : List Loc} {ls : Array Slot}, gW gFull D cy ad base μ H → va_S (gA base) s.heap H locs → lv_has ls 5 [(0, .ref (ad 60)), (1, .int x1), (3, .int x3)] → W p l e ({ frames := 6, cells := 0, slots := 0, locals := 138 } : Room) s m args below meth c H locs 0 0 (MQ below (gQ none gFull D cy ad base RES) args s 0 0 (gA base)) (F0 m 30 ls []) := by
  intro n
  induction n with
  | zero =>
    intro x3 μ h
    exact (gloop_0 h).elim
  | succ n ih =>
    intro x3 μ h H locs ls hM hS hl
    obtain ⟨o, h0, hc, hq⟩ := gloop_s h
    have h1 : b_X8_layWay_30 x1 x3 μ = some o := h0
    exact wb_X8_layWay_30 h1 F E (fun t H locs ls ho hM hS hl => ih t.1 t.2 (hc t ho) hM hS hl) (fun t H locs ls ho hM hS hl => kx t (hq _ ho).symm hM hS hl) hM hS hl
def j_X8_layWay_29 (x1 : Int32) (y0 : Int32) (μ : gM) : Option (gM) :=
  Option.bind (gloop (fun t => b_X8_layWay_30 x1 t.1 t.2) gFuel (y0, μ)) (fun q16 => some q16)
set_option maxHeartbeats 4000000 in
set_option maxRecDepth 100000 in
theorem wj_X8_layWay_29 {p : Program} {l : Launch} {e : Env} {s : State} {m : MethodId} {args : Array Value} {below : List Frame} {meth : Method} {c : Code} {D : va_G} {cy : Nat → ClassId} {ad : Nat → Nat} {base : Nat} {x1 : Int32} {y0 : Int32} {μ : gM} {o : gM} (h : j_X8_layWay_29 x1 y0 μ = some o) (F : gF p s m meth c cX8_layWay RX8 5 none) (E : gEnv l D cy ad base s)  {H : Heap} {locs : List Loc} {ls : Array Slot} (hM : gW gFull D cy ad base μ H) (hS : va_S (gA base) s.heap H locs) (hl : lv_has ls 5 [(0, .ref (ad 60)), (1, .int x1)]) : W p l e ({ frames := 6, cells := 0, slots := 0, locals := 138 } : Room) s m args below meth c H locs 0 0 (MQ below (gQ none gFull D cy ad base o) args s 0 0 (gA base)) (F0 m 29 ls [.int y0]) := by
  obtain ⟨hx, hb, hml, hown, hlocks, hr⟩ := id F
  unfold j_X8_layWay_29 at h
  refine lv_istore_n (lv' := [(3, .int y0), (0, .ref (ad 60)), (1, .int x1)]) hx hb dX8_layWay_29 rfl hl (by decide) rfl (fun ls hl => ?_)
  obtain ⟨z17, h1, h⟩ := gbind_e h
  refine wl_X8_layWay_30 F E (r := z17) (fun q16 H locs ls e1 hM hS hl => ?_) gFuel y0 μ h1 hM hS (lv_sub hl [1, 2, 0] rfl)
  replace e1 : z17 = q16 := e1
  rw [e1] at h
  obtain rfl := Option.some.inj h
  exact g_vret hx hb hr hlocks hM hS dX8_layWay_122
def f_X8_layWay (p1 : Int32) (p2 : Int32) (μ : gM) : Option (gM) :=
  Option.bind (f_X8_layFar p1 μ) (fun q1 => gchk (gIn p2 16) (if (0 ≤ (gi (si (si q1 60 22 (0 : Int32)) 60 23 (0 : Int32)) 69 p2.toNatClampNeg)) then j_X8_layWay_29 p1 p2 (si (si q1 60 22 (0 : Int32)) 60 23 (0 : Int32)) else j_X8_layWay_29 p1 p1 (si (si q1 60 22 (0 : Int32)) 60 23 (0 : Int32))))
set_option maxHeartbeats 4000000 in
set_option maxRecDepth 100000 in
theorem c_X8_layWay {l : Launch} {D : va_G} {cy : Nat → ClassId} {ad : Nat → Nat} {base : Nat} {p1 : Int32} {p2 : Int32} {μ : gM} {RES : gM} (h : f_X8_layWay p1 p2 μ = some RES) : Met l yX8_layWay [.code yX8_layWay cX8_layWay 5 none] ({ frames := 6, cells := 0, slots := 0, locals := 138 } : Room) (va_Pc [.ref (ad 60), .int p1, .int p2] (gB l gFull D cy ad base μ)) (gQ none gFull D cy ad base RES) 0 0 (gA base) := by
  refine Met.ofW (cc := cX8_layWay) (maxL := 5) (ret := none) (by decide) rfl ?_
  intro p e s m args below meth c s₁ B hml0 hv
  obtain ⟨rfl, E, hM⟩ := hv
  have F : gF p s m meth c cX8_layWay RX8 5 none := gF_of B hml0
  obtain ⟨hx, hb, hml, hown, hlocks, hr⟩ := id F
  have hS : va_S (gA base) s.heap s.heap [] := va_S.rf
  have hl := lv_entry ([.ref (ad 60), .int p1, .int p2]) (n := 5) (Nat.le_of_ble_eq_true rfl)
  rw [lg_entry_eq]
  generalize (lg_sl ([.ref (ad 60), .int p1, .int p2]) ++ List.replicate (5 - (lg_sl ([.ref (ad 60), .int p1, .int p2])).length) Slot.unset).toArray = ls at hl ⊢
  have hl : lv_has ls 5 [(0, .ref (ad 60)), (1, .int p1), (2, .int p2)] := hl
  unfold f_X8_layWay at h
  refine lv_aload_n hx hb dX8_layWay_0 rfl (lv_at hl 0 rfl) ?_
  refine lv_iload_n hx hb dX8_layWay_1 rfl (lv_at hl 1 rfl) ?_
  obtain ⟨q1, hq1, h⟩ := gbind_e h
  refine g_callV (As := [.int p1]) (rest := []) hx hb (hml.trans hl.1.symm) hown E hM hS hy_X8_layFar kw_1706 (c_X8_layFar hq1) hk_60 dd_60 rfl rfl rfl (Nat.le_of_ble_eq_true rfl) ⟨Nat.le_of_ble_eq_true rfl, Nat.le_of_ble_eq_true rfl⟩ ⟨Nat.le_of_ble_eq_true rfl, Nat.le_of_ble_eq_true rfl⟩ dX8_layWay_2 (fun H locs hM hS => ?_)
  refine lv_aload_n hx hb dX8_layWay_5 rfl (lv_at hl 0 rfl) ?_
  refine lv_iconst (v := (0 : Int32)) hx hb dX8_layWay_6 (by decide) ?_
  refine gp_60_22 hx hb hown E hM hS hk_60 kw_1264 dX8_layWay_7 (fun H locs hM hS => ?_)
  refine lv_aload_n hx hb dX8_layWay_10 rfl (lv_at hl 0 rfl) ?_
  refine lv_iconst (v := (0 : Int32)) hx hb dX8_layWay_11 (by decide) ?_
  refine gp_60_23 hx hb hown E hM hS hk_60 kw_1265 dX8_layWay_12 (fun H locs hM hS => ?_)
  refine lv_aload_n hx hb dX8_layWay_15 rfl (lv_at hl 0 rfl) ?_
  refine gg_60_21 hx hb hown E hM hk_60 kw_1263 dX8_layWay_16 ?_
  refine lv_iload_n hx hb dX8_layWay_19 rfl (lv_at hl 2 rfl) ?_
  obtain ⟨c2, h⟩ := gchk_e h
  refine g_iald hx hb E hM hk_69 dd_69 c2 dX8_layWay_20 ?_
  refine lv_if_ge (tgt := 28) hx hb dX8_layWay_21 (by decide) (fun c3 => ?_) (fun c3 => ?_)
  · replace h := gif_t c3 h
    refine lv_iload_n hx hb dX8_layWay_28 rfl (lv_at hl 2 rfl) ?_
    exact wj_X8_layWay_29 h F E hM hS (lv_sub hl [0, 1] rfl)
  · replace h := gif_f c3 h
    refine lv_iload_n hx hb dX8_layWay_24 rfl (lv_at hl 1 rfl) ?_
    refine lv_goto (tgt := 29) hx hb dX8_layWay_25 (by decide) ?_
    exact wj_X8_layWay_29 h F E hM hS (lv_sub hl [0, 1] rfl)
def f_X8_arePoints (p1 : Int32) (p2 : Int32) (μ : gM) : Option (Bool) :=
  Option.bind (f_X8_isPoint p1 μ) (fun q1 => if ((b2i q1) = 0) then some false else Option.bind (f_X8_isPoint p2 μ) (fun q3 => if ((b2i q3) = 0) then some false else some true))
set_option maxHeartbeats 4000000 in
set_option maxRecDepth 100000 in
theorem c_X8_arePoints {l : Launch} {D : va_G} {cy : Nat → ClassId} {ad : Nat → Nat} {base : Nat} {p1 : Int32} {p2 : Int32} {μ : gM} {RES : Bool} (h : f_X8_arePoints p1 p2 μ = some RES) : Met l yX8_arePoints [.code yX8_arePoints cX8_arePoints 3 (some .boolean)] ({ frames := 2, cells := 0, slots := 0, locals := 43 } : Room) (va_Pc [.ref (ad 60), .int p1, .int p2] (gB l gFull D cy ad base μ)) (gQ (some (.int (b2i RES))) gFull D cy ad base μ) 0 0 (gA base) := by
  refine Met.ofW (cc := cX8_arePoints) (maxL := 3) (ret := (some .boolean)) (by decide) rfl ?_
  intro p e s m args below meth c s₁ B hml0 hv
  obtain ⟨rfl, E, hM⟩ := hv
  have F : gF p s m meth c cX8_arePoints RX8 3 (some .boolean) := gF_of B hml0
  obtain ⟨hx, hb, hml, hown, hlocks, hr⟩ := id F
  have hS : va_S (gA base) s.heap s.heap [] := va_S.rf
  have hl := lv_entry ([.ref (ad 60), .int p1, .int p2]) (n := 3) (Nat.le_of_ble_eq_true rfl)
  rw [lg_entry_eq]
  generalize (lg_sl ([.ref (ad 60), .int p1, .int p2]) ++ List.replicate (3 - (lg_sl ([.ref (ad 60), .int p1, .int p2])).length) Slot.unset).toArray = ls at hl ⊢
  have hl : lv_has ls 3 [(0, .ref (ad 60)), (1, .int p1), (2, .int p2)] := hl
  unfold f_X8_arePoints at h
  refine lv_aload_n hx hb dX8_arePoints_0 rfl (lv_at hl 0 rfl) ?_
  refine lv_iload_n hx hb dX8_arePoints_1 rfl (lv_at hl 1 rfl) ?_
  obtain ⟨q1, hq1, h⟩ := gbind_e h
  refine g_callV (As := [.int p1]) (rest := []) hx hb (hml.trans hl.1.symm) hown E hM hS hy_X8_isPoint kw_1563 (c_X8_isPoint hq1) hk_60 dd_60 rfl rfl rfl (Nat.le_of_ble_eq_true rfl) ⟨Nat.le_of_ble_eq_true rfl, Nat.le_of_ble_eq_true rfl⟩ ⟨Nat.le_of_ble_eq_true rfl, Nat.le_of_ble_eq_true rfl⟩ dX8_arePoints_2 (fun H locs hM hS => ?_)
  refine lv_if_eq (tgt := 20) hx hb dX8_arePoints_5 (by decide) (fun c2 => ?_) (fun c2 => ?_)
  · replace h := gif_t c2 h
    refine lv_iconst (v := (0 : Int32)) hx hb dX8_arePoints_20 (by decide) ?_
    obtain rfl := Option.some.inj h
    exact g_zret (v := b2i false) hx hb hr hlocks (b2i_nar false) hM hS dX8_arePoints_21
  · replace h := gif_f c2 h
    refine lv_aload_n hx hb dX8_arePoints_8 rfl (lv_at hl 0 rfl) ?_
    refine lv_iload_n hx hb dX8_arePoints_9 rfl (lv_at hl 2 rfl) ?_
    obtain ⟨q3, hq3, h⟩ := gbind_e h
    refine g_callV (As := [.int p2]) (rest := []) hx hb (hml.trans hl.1.symm) hown E hM hS hy_X8_isPoint kw_1563 (c_X8_isPoint hq3) hk_60 dd_60 rfl rfl rfl (Nat.le_of_ble_eq_true rfl) ⟨Nat.le_of_ble_eq_true rfl, Nat.le_of_ble_eq_true rfl⟩ ⟨Nat.le_of_ble_eq_true rfl, Nat.le_of_ble_eq_true rfl⟩ dX8_arePoints_10 (fun H locs hM hS => ?_)
    refine lv_if_eq (tgt := 20) hx hb dX8_arePoints_13 (by decide) (fun c4 => ?_) (fun c4 => ?_)
    · replace h := gif_t c4 h
      refine lv_iconst (v := (0 : Int32)) hx hb dX8_arePoints_20 (by decide) ?_
      obtain rfl := Option.some.inj h
      exact g_zret (v := b2i false) hx hb hr hlocks (b2i_nar false) hM hS dX8_arePoints_21
    · replace h := gif_f c4 h
      refine lv_iconst (v := (1 : Int32)) hx hb dX8_arePoints_16 (by decide) ?_
      refine lv_goto (tgt := 21) hx hb dX8_arePoints_17 (by decide) ?_
      obtain rfl := Option.some.inj h
      exact g_zret (v := b2i true) hx hb hr hlocks (b2i_nar true) hM hS dX8_arePoints_21
def f_X8_distance (p1 : Int32) (p2 : Int32) (μ : gM) : Option (Int32 × gM) :=
  Option.bind (f_X8_arePoints p1 p2 μ) (fun q1 => Option.bind (f_X8_fails (b2i q1) μ) (fun q2 => if ((b2i q2.1) = 0) then Option.bind (f_X8_layFar p1 q2.2) (fun q4 => gchk (gIn p2 16) (some ((gi q4 69 p2.toNatClampNeg), q4))) else some ((0 : Int32), q2.2)))
set_option maxHeartbeats 4000000 in
set_option maxRecDepth 100000 in
theorem c_X8_distance {l : Launch} {D : va_G} {cy : Nat → ClassId} {ad : Nat → Nat} {base : Nat} {p1 : Int32} {p2 : Int32} {μ : gM} {RES : Int32 × gM} (h : f_X8_distance p1 p2 μ = some RES) : Met l yX8_distance [.code yX8_distance cX8_distance 3 (some .int)] ({ frames := 6, cells := 0, slots := 0, locals := 138 } : Room) (va_Pc [.ref (ad 60), .int p1, .int p2] (gB l gFull D cy ad base μ)) (gQ (some (.int RES.1)) gFull D cy ad base RES.2) 0 0 (gA base) := by
  refine Met.ofW (cc := cX8_distance) (maxL := 3) (ret := (some .int)) (by decide) rfl ?_
  intro p e s m args below meth c s₁ B hml0 hv
  obtain ⟨rfl, E, hM⟩ := hv
  have F : gF p s m meth c cX8_distance RX8 3 (some .int) := gF_of B hml0
  obtain ⟨hx, hb, hml, hown, hlocks, hr⟩ := id F
  have hS : va_S (gA base) s.heap s.heap [] := va_S.rf
  have hl := lv_entry ([.ref (ad 60), .int p1, .int p2]) (n := 3) (Nat.le_of_ble_eq_true rfl)
  rw [lg_entry_eq]
  generalize (lg_sl ([.ref (ad 60), .int p1, .int p2]) ++ List.replicate (3 - (lg_sl ([.ref (ad 60), .int p1, .int p2])).length) Slot.unset).toArray = ls at hl ⊢
  have hl : lv_has ls 3 [(0, .ref (ad 60)), (1, .int p1), (2, .int p2)] := hl
  unfold f_X8_distance at h
  refine lv_aload_n hx hb dX8_distance_0 rfl (lv_at hl 0 rfl) ?_
  refine lv_aload_n hx hb dX8_distance_1 rfl (lv_at hl 0 rfl) ?_
  refine lv_iload_n hx hb dX8_distance_2 rfl (lv_at hl 1 rfl) ?_
  refine lv_iload_n hx hb dX8_distance_3 rfl (lv_at hl 2 rfl) ?_
  obtain ⟨q1, hq1, h⟩ := gbind_e h
  refine g_callV (As := [.int p1, .int p2]) (rest := [.ref (ad 60)]) hx hb (hml.trans hl.1.symm) hown E hM hS hy_X8_arePoints kw_1702 (c_X8_arePoints hq1) hk_60 dd_60 rfl rfl rfl (Nat.le_of_ble_eq_true rfl) ⟨Nat.le_of_ble_eq_true rfl, Nat.le_of_ble_eq_true rfl⟩ ⟨Nat.le_of_ble_eq_true rfl, Nat.le_of_ble_eq_true rfl⟩ dX8_distance_4 (fun H locs hM hS => ?_)
  obtain ⟨q2, hq2, h⟩ := gbind_e h
  refine g_callV (As := [.int (b2i q1)]) (rest := []) hx hb (hml.trans hl.1.symm) hown E hM hS hy_X8_fails kw_1534 (c_X8_fails hq2) hk_60 dd_60 rfl rfl rfl (Nat.le_of_ble_eq_true rfl) ⟨Nat.le_of_ble_eq_true rfl, Nat.le_of_ble_eq_true rfl⟩ ⟨Nat.le_of_ble_eq_true rfl, Nat.le_of_ble_eq_true rfl⟩ dX8_distance_7 (fun H locs hM hS => ?_)
  refine lv_if_eq (tgt := 15) hx hb dX8_distance_10 (by decide) (fun c3 => ?_) (fun c3 => ?_)
  · replace h := gif_t c3 h
    refine lv_aload_n hx hb dX8_distance_15 rfl (lv_at hl 0 rfl) ?_
    refine lv_iload_n hx hb dX8_distance_16 rfl (lv_at hl 1 rfl) ?_
    obtain ⟨q4, hq4, h⟩ := gbind_e h
    refine g_callV (As := [.int p1]) (rest := []) hx hb (hml.trans hl.1.symm) hown E hM hS hy_X8_layFar kw_1706 (c_X8_layFar hq4) hk_60 dd_60 rfl rfl rfl (Nat.le_of_ble_eq_true rfl) ⟨Nat.le_of_ble_eq_true rfl, Nat.le_of_ble_eq_true rfl⟩ ⟨Nat.le_of_ble_eq_true rfl, Nat.le_of_ble_eq_true rfl⟩ dX8_distance_17 (fun H locs hM hS => ?_)
    refine lv_aload_n hx hb dX8_distance_20 rfl (lv_at hl 0 rfl) ?_
    refine gg_60_21 hx hb hown E hM hk_60 kw_1263 dX8_distance_21 ?_
    refine lv_iload_n hx hb dX8_distance_24 rfl (lv_at hl 2 rfl) ?_
    obtain ⟨c5, h⟩ := gchk_e h
    refine g_iald hx hb E hM hk_69 dd_69 c5 dX8_distance_25 ?_
    obtain rfl := Option.some.inj h
    exact g_iret hx hb hr hlocks hM hS dX8_distance_26
  · replace h := gif_f c3 h
    refine lv_iconst (v := (0 : Int32)) hx hb dX8_distance_13 (by decide) ?_
    obtain rfl := Option.some.inj h
    exact g_iret hx hb hr hlocks hM hS dX8_distance_14
def f_X8_riseBetween (p1 : Int32) (p2 : Int32) (μ : gM) : Option (Int32 × gM) :=
  Option.bind (f_X8_arePoints p1 p2 μ) (fun q1 => Option.bind (f_X8_fails (b2i q1) μ) (fun q2 => if ((b2i q2.1) = 0) then Option.bind (f_X8_layWay p1 p2 q2.2) (fun q4 => gchk (gIn p2 16) (if (0 ≤ (gi q4 69 p2.toNatClampNeg)) then some ((gi q4 60 23), q4) else some ((-2147483648 : Int32), q4))) else some ((0 : Int32), q2.2)))
set_option maxHeartbeats 4000000 in
set_option maxRecDepth 100000 in
theorem c_X8_riseBetween {l : Launch} {D : va_G} {cy : Nat → ClassId} {ad : Nat → Nat} {base : Nat} {p1 : Int32} {p2 : Int32} {μ : gM} {RES : Int32 × gM} (h : f_X8_riseBetween p1 p2 μ = some RES) : Met l yX8_riseBetween [.code yX8_riseBetween cX8_riseBetween 3 (some .int)] ({ frames := 7, cells := 0, slots := 0, locals := 162 } : Room) (va_Pc [.ref (ad 60), .int p1, .int p2] (gB l gFull D cy ad base μ)) (gQ (some (.int RES.1)) gFull D cy ad base RES.2) 0 0 (gA base) := by
  refine Met.ofW (cc := cX8_riseBetween) (maxL := 3) (ret := (some .int)) (by decide) rfl ?_
  intro p e s m args below meth c s₁ B hml0 hv
  obtain ⟨rfl, E, hM⟩ := hv
  have F : gF p s m meth c cX8_riseBetween RX8 3 (some .int) := gF_of B hml0
  obtain ⟨hx, hb, hml, hown, hlocks, hr⟩ := id F
  have hS : va_S (gA base) s.heap s.heap [] := va_S.rf
  have hl := lv_entry ([.ref (ad 60), .int p1, .int p2]) (n := 3) (Nat.le_of_ble_eq_true rfl)
  rw [lg_entry_eq]
  generalize (lg_sl ([.ref (ad 60), .int p1, .int p2]) ++ List.replicate (3 - (lg_sl ([.ref (ad 60), .int p1, .int p2])).length) Slot.unset).toArray = ls at hl ⊢
  have hl : lv_has ls 3 [(0, .ref (ad 60)), (1, .int p1), (2, .int p2)] := hl
  unfold f_X8_riseBetween at h
  refine lv_aload_n hx hb dX8_riseBetween_0 rfl (lv_at hl 0 rfl) ?_
  refine lv_aload_n hx hb dX8_riseBetween_1 rfl (lv_at hl 0 rfl) ?_
  refine lv_iload_n hx hb dX8_riseBetween_2 rfl (lv_at hl 1 rfl) ?_
  refine lv_iload_n hx hb dX8_riseBetween_3 rfl (lv_at hl 2 rfl) ?_
  obtain ⟨q1, hq1, h⟩ := gbind_e h
  refine g_callV (As := [.int p1, .int p2]) (rest := [.ref (ad 60)]) hx hb (hml.trans hl.1.symm) hown E hM hS hy_X8_arePoints kw_1702 (c_X8_arePoints hq1) hk_60 dd_60 rfl rfl rfl (Nat.le_of_ble_eq_true rfl) ⟨Nat.le_of_ble_eq_true rfl, Nat.le_of_ble_eq_true rfl⟩ ⟨Nat.le_of_ble_eq_true rfl, Nat.le_of_ble_eq_true rfl⟩ dX8_riseBetween_4 (fun H locs hM hS => ?_)
  obtain ⟨q2, hq2, h⟩ := gbind_e h
  refine g_callV (As := [.int (b2i q1)]) (rest := []) hx hb (hml.trans hl.1.symm) hown E hM hS hy_X8_fails kw_1534 (c_X8_fails hq2) hk_60 dd_60 rfl rfl rfl (Nat.le_of_ble_eq_true rfl) ⟨Nat.le_of_ble_eq_true rfl, Nat.le_of_ble_eq_true rfl⟩ ⟨Nat.le_of_ble_eq_true rfl, Nat.le_of_ble_eq_true rfl⟩ dX8_riseBetween_7 (fun H locs hM hS => ?_)
  refine lv_if_eq (tgt := 15) hx hb dX8_riseBetween_10 (by decide) (fun c3 => ?_) (fun c3 => ?_)
  · replace h := gif_t c3 h
    refine lv_aload_n hx hb dX8_riseBetween_15 rfl (lv_at hl 0 rfl) ?_
    refine lv_iload_n hx hb dX8_riseBetween_16 rfl (lv_at hl 1 rfl) ?_
    refine lv_iload_n hx hb dX8_riseBetween_17 rfl (lv_at hl 2 rfl) ?_
    obtain ⟨q4, hq4, h⟩ := gbind_e h
    refine g_callV (As := [.int p1, .int p2]) (rest := []) hx hb (hml.trans hl.1.symm) hown E hM hS hy_X8_layWay kw_1718 (c_X8_layWay hq4) hk_60 dd_60 rfl rfl rfl (Nat.le_of_ble_eq_true rfl) ⟨Nat.le_of_ble_eq_true rfl, Nat.le_of_ble_eq_true rfl⟩ ⟨Nat.le_of_ble_eq_true rfl, Nat.le_of_ble_eq_true rfl⟩ dX8_riseBetween_18 (fun H locs hM hS => ?_)
    refine lv_aload_n hx hb dX8_riseBetween_21 rfl (lv_at hl 0 rfl) ?_
    refine gg_60_21 hx hb hown E hM hk_60 kw_1263 dX8_riseBetween_22 ?_
    refine lv_iload_n hx hb dX8_riseBetween_25 rfl (lv_at hl 2 rfl) ?_
    obtain ⟨c5, h⟩ := gchk_e h
    refine g_iald hx hb E hM hk_69 dd_69 c5 dX8_riseBetween_26 ?_
    refine lv_if_ge (tgt := 35) hx hb dX8_riseBetween_27 (by decide) (fun c6 => ?_) (fun c6 => ?_)
    · replace h := gif_t c6 h
      refine lv_aload_n hx hb dX8_riseBetween_35 rfl (lv_at hl 0 rfl) ?_
      refine gg_60_23 hx hb hown E hM hk_60 kw_1265 dX8_riseBetween_36 ?_
      obtain rfl := Option.some.inj h
      exact g_iret hx hb hr hlocks hM hS dX8_riseBetween_39
    · replace h := gif_f c6 h
      refine lv_ldc hx hb hown (v := (-2147483648 : Int32)) (E.kw kw_1554) dX8_riseBetween_30 ?_
      refine lv_goto (tgt := 39) hx hb dX8_riseBetween_32 (by decide) ?_
      obtain rfl := Option.some.inj h
      exact g_iret hx hb hr hlocks hM hS dX8_riseBetween_39
  · replace h := gif_f c3 h
    refine lv_iconst (v := (0 : Int32)) hx hb dX8_riseBetween_13 (by decide) ?_
    obtain rfl := Option.some.inj h
    exact g_iret hx hb hr hlocks hM hS dX8_riseBetween_14
def f_X8_wayBetween (p1 : Int32) (p2 : Int32) (μ : gM) : Option (Int32 × gM) :=
  Option.bind (f_X8_arePoints p1 p2 μ) (fun q1 => Option.bind (f_X8_fails (b2i q1) μ) (fun q2 => if ((b2i q2.1) = 0) then Option.bind (f_X8_layWay p1 p2 q2.2) (fun q4 => some ((gi q4 60 22), q4)) else some ((0 : Int32), q2.2)))
set_option maxHeartbeats 4000000 in
set_option maxRecDepth 100000 in
theorem c_X8_wayBetween {l : Launch} {D : va_G} {cy : Nat → ClassId} {ad : Nat → Nat} {base : Nat} {p1 : Int32} {p2 : Int32} {μ : gM} {RES : Int32 × gM} (h : f_X8_wayBetween p1 p2 μ = some RES) : Met l yX8_wayBetween [.code yX8_wayBetween cX8_wayBetween 3 (some .int)] ({ frames := 7, cells := 0, slots := 0, locals := 162 } : Room) (va_Pc [.ref (ad 60), .int p1, .int p2] (gB l gFull D cy ad base μ)) (gQ (some (.int RES.1)) gFull D cy ad base RES.2) 0 0 (gA base) := by
  refine Met.ofW (cc := cX8_wayBetween) (maxL := 3) (ret := (some .int)) (by decide) rfl ?_
  intro p e s m args below meth c s₁ B hml0 hv
  obtain ⟨rfl, E, hM⟩ := hv
  have F : gF p s m meth c cX8_wayBetween RX8 3 (some .int) := gF_of B hml0
  obtain ⟨hx, hb, hml, hown, hlocks, hr⟩ := id F
  have hS : va_S (gA base) s.heap s.heap [] := va_S.rf
  have hl := lv_entry ([.ref (ad 60), .int p1, .int p2]) (n := 3) (Nat.le_of_ble_eq_true rfl)
  rw [lg_entry_eq]
  generalize (lg_sl ([.ref (ad 60), .int p1, .int p2]) ++ List.replicate (3 - (lg_sl ([.ref (ad 60), .int p1, .int p2])).length) Slot.unset).toArray = ls at hl ⊢
  have hl : lv_has ls 3 [(0, .ref (ad 60)), (1, .int p1), (2, .int p2)] := hl
  unfold f_X8_wayBetween at h
  refine lv_aload_n hx hb dX8_wayBetween_0 rfl (lv_at hl 0 rfl) ?_
  refine lv_aload_n hx hb dX8_wayBetween_1 rfl (lv_at hl 0 rfl) ?_
  refine lv_iload_n hx hb dX8_wayBetween_2 rfl (lv_at hl 1 rfl) ?_
  refine lv_iload_n hx hb dX8_wayBetween_3 rfl (lv_at hl 2 rfl) ?_
  obtain ⟨q1, hq1, h⟩ := gbind_e h
  refine g_callV (As := [.int p1, .int p2]) (rest := [.ref (ad 60)]) hx hb (hml.trans hl.1.symm) hown E hM hS hy_X8_arePoints kw_1702 (c_X8_arePoints hq1) hk_60 dd_60 rfl rfl rfl (Nat.le_of_ble_eq_true rfl) ⟨Nat.le_of_ble_eq_true rfl, Nat.le_of_ble_eq_true rfl⟩ ⟨Nat.le_of_ble_eq_true rfl, Nat.le_of_ble_eq_true rfl⟩ dX8_wayBetween_4 (fun H locs hM hS => ?_)
  obtain ⟨q2, hq2, h⟩ := gbind_e h
  refine g_callV (As := [.int (b2i q1)]) (rest := []) hx hb (hml.trans hl.1.symm) hown E hM hS hy_X8_fails kw_1534 (c_X8_fails hq2) hk_60 dd_60 rfl rfl rfl (Nat.le_of_ble_eq_true rfl) ⟨Nat.le_of_ble_eq_true rfl, Nat.le_of_ble_eq_true rfl⟩ ⟨Nat.le_of_ble_eq_true rfl, Nat.le_of_ble_eq_true rfl⟩ dX8_wayBetween_7 (fun H locs hM hS => ?_)
  refine lv_if_eq (tgt := 15) hx hb dX8_wayBetween_10 (by decide) (fun c3 => ?_) (fun c3 => ?_)
  · replace h := gif_t c3 h
    refine lv_aload_n hx hb dX8_wayBetween_15 rfl (lv_at hl 0 rfl) ?_
    refine lv_iload_n hx hb dX8_wayBetween_16 rfl (lv_at hl 1 rfl) ?_
    refine lv_iload_n hx hb dX8_wayBetween_17 rfl (lv_at hl 2 rfl) ?_
    obtain ⟨q4, hq4, h⟩ := gbind_e h
    refine g_callV (As := [.int p1, .int p2]) (rest := []) hx hb (hml.trans hl.1.symm) hown E hM hS hy_X8_layWay kw_1718 (c_X8_layWay hq4) hk_60 dd_60 rfl rfl rfl (Nat.le_of_ble_eq_true rfl) ⟨Nat.le_of_ble_eq_true rfl, Nat.le_of_ble_eq_true rfl⟩ ⟨Nat.le_of_ble_eq_true rfl, Nat.le_of_ble_eq_true rfl⟩ dX8_wayBetween_18 (fun H locs hM hS => ?_)
    refine lv_aload_n hx hb dX8_wayBetween_21 rfl (lv_at hl 0 rfl) ?_
    refine gg_60_22 hx hb hown E hM hk_60 kw_1264 dX8_wayBetween_22 ?_
    obtain rfl := Option.some.inj h
    exact g_iret hx hb hr hlocks hM hS dX8_wayBetween_25
  · replace h := gif_f c3 h
    refine lv_iconst (v := (0 : Int32)) hx hb dX8_wayBetween_13 (by decide) ?_
    obtain rfl := Option.some.inj h
    exact g_iret hx hb hr hlocks hM hS dX8_wayBetween_14
def f_X8_benchGap (p1 : Int32) (p2 : Int32) (μ : gM) : Option (Int32 × gM) :=
  Option.bind (f_X8_arePoints p1 p2 μ) (fun q1 => Option.bind (f_X8_fails (b2i q1) μ) (fun q2 => if ((b2i q2.1) = 0) then gchk (gIn ((6 : Int32) + p1) 703) (if ((gi q2.2 61 ((6 : Int32) + p1).toNatClampNeg) < 0) then some ((-2147483648 : Int32), q2.2) else gchk (gIn ((6 : Int32) + p2) 703) (if (0 ≤ (gi q2.2 61 ((6 : Int32) + p2).toNatClampNeg)) then Option.bind (f_X8_layWay p1 p2 q2.2) (fun q8 => gchk (gIn p2 16) (if (0 ≤ (gi q8 69 p2.toNatClampNeg)) then gchk (gIn ((6 : Int32) + p2) 703) (gchk (gIn ((6 : Int32) + p1) 703) (some (((gi q8 60 23) - ((100 : Int32) * ((gi q8 61 ((6 : Int32) + p2).toNatClampNeg) - (gi q8 61 ((6 : Int32) + p1).toNatClampNeg)))), q8))) else some ((-2147483648 : Int32), q8))) else some ((-2147483648 : Int32), q2.2))) else some ((0 : Int32), q2.2)))
set_option maxHeartbeats 4000000 in
set_option maxRecDepth 100000 in
theorem c_X8_benchGap {l : Launch} {D : va_G} {cy : Nat → ClassId} {ad : Nat → Nat} {base : Nat} {p1 : Int32} {p2 : Int32} {μ : gM} {RES : Int32 × gM} (h : f_X8_benchGap p1 p2 μ = some RES) : Met l yX8_benchGap [.code yX8_benchGap cX8_benchGap 3 (some .int)] ({ frames := 7, cells := 0, slots := 0, locals := 162 } : Room) (va_Pc [.ref (ad 60), .int p1, .int p2] (gB l gFull D cy ad base μ)) (gQ (some (.int RES.1)) gFull D cy ad base RES.2) 0 0 (gA base) := by
  refine Met.ofW (cc := cX8_benchGap) (maxL := 3) (ret := (some .int)) (by decide) rfl ?_
  intro p e s m args below meth c s₁ B hml0 hv
  obtain ⟨rfl, E, hM⟩ := hv
  have F : gF p s m meth c cX8_benchGap RX8 3 (some .int) := gF_of B hml0
  obtain ⟨hx, hb, hml, hown, hlocks, hr⟩ := id F
  have hS : va_S (gA base) s.heap s.heap [] := va_S.rf
  have hl := lv_entry ([.ref (ad 60), .int p1, .int p2]) (n := 3) (Nat.le_of_ble_eq_true rfl)
  rw [lg_entry_eq]
  generalize (lg_sl ([.ref (ad 60), .int p1, .int p2]) ++ List.replicate (3 - (lg_sl ([.ref (ad 60), .int p1, .int p2])).length) Slot.unset).toArray = ls at hl ⊢
  have hl : lv_has ls 3 [(0, .ref (ad 60)), (1, .int p1), (2, .int p2)] := hl
  unfold f_X8_benchGap at h
  refine lv_aload_n hx hb dX8_benchGap_0 rfl (lv_at hl 0 rfl) ?_
  refine lv_aload_n hx hb dX8_benchGap_1 rfl (lv_at hl 0 rfl) ?_
  refine lv_iload_n hx hb dX8_benchGap_2 rfl (lv_at hl 1 rfl) ?_
  refine lv_iload_n hx hb dX8_benchGap_3 rfl (lv_at hl 2 rfl) ?_
  obtain ⟨q1, hq1, h⟩ := gbind_e h
  refine g_callV (As := [.int p1, .int p2]) (rest := [.ref (ad 60)]) hx hb (hml.trans hl.1.symm) hown E hM hS hy_X8_arePoints kw_1702 (c_X8_arePoints hq1) hk_60 dd_60 rfl rfl rfl (Nat.le_of_ble_eq_true rfl) ⟨Nat.le_of_ble_eq_true rfl, Nat.le_of_ble_eq_true rfl⟩ ⟨Nat.le_of_ble_eq_true rfl, Nat.le_of_ble_eq_true rfl⟩ dX8_benchGap_4 (fun H locs hM hS => ?_)
  obtain ⟨q2, hq2, h⟩ := gbind_e h
  refine g_callV (As := [.int (b2i q1)]) (rest := []) hx hb (hml.trans hl.1.symm) hown E hM hS hy_X8_fails kw_1534 (c_X8_fails hq2) hk_60 dd_60 rfl rfl rfl (Nat.le_of_ble_eq_true rfl) ⟨Nat.le_of_ble_eq_true rfl, Nat.le_of_ble_eq_true rfl⟩ ⟨Nat.le_of_ble_eq_true rfl, Nat.le_of_ble_eq_true rfl⟩ dX8_benchGap_7 (fun H locs hM hS => ?_)
  refine lv_if_eq (tgt := 15) hx hb dX8_benchGap_10 (by decide) (fun c3 => ?_) (fun c3 => ?_)
  · replace h := gif_t c3 h
    refine lv_aload_n hx hb dX8_benchGap_15 rfl (lv_at hl 0 rfl) ?_
    refine gg_60_0 hx hb hown E hM hk_60 kw_1242 dX8_benchGap_16 ?_
    refine lv_bipush (v := (6 : Int32)) hx hb dX8_benchGap_19 (by decide) ?_
    refine lv_iload_n hx hb dX8_benchGap_21 rfl (lv_at hl 1 rfl) ?_
    refine lv_iadd hx hb dX8_benchGap_22 ?_
    obtain ⟨c4, h⟩ := gchk_e h
    refine g_iald hx hb E hM hk_61 dd_61 c4 dX8_benchGap_23 ?_
    refine lv_if_lt (tgt := 39) hx hb dX8_benchGap_24 (by decide) (fun c5 => ?_) (fun c5 => ?_)
    · replace h := gif_t c5 h
      refine lv_ldc hx hb hown (v := (-2147483648 : Int32)) (E.kw kw_1554) dX8_benchGap_39 ?_
      obtain rfl := Option.some.inj h
      exact g_iret hx hb hr hlocks hM hS dX8_benchGap_41
    · replace h := gif_f c5 h
      refine lv_aload_n hx hb dX8_benchGap_27 rfl (lv_at hl 0 rfl) ?_
      refine gg_60_0 hx hb hown E hM hk_60 kw_1242 dX8_benchGap_28 ?_
      refine lv_bipush (v := (6 : Int32)) hx hb dX8_benchGap_31 (by decide) ?_
      refine lv_iload_n hx hb dX8_benchGap_33 rfl (lv_at hl 2 rfl) ?_
      refine lv_iadd hx hb dX8_benchGap_34 ?_
      obtain ⟨c6, h⟩ := gchk_e h
      refine g_iald hx hb E hM hk_61 dd_61 c6 dX8_benchGap_35 ?_
      refine lv_if_ge (tgt := 42) hx hb dX8_benchGap_36 (by decide) (fun c7 => ?_) (fun c7 => ?_)
      · replace h := gif_t c7 h
        refine lv_aload_n hx hb dX8_benchGap_42 rfl (lv_at hl 0 rfl) ?_
        refine lv_iload_n hx hb dX8_benchGap_43 rfl (lv_at hl 1 rfl) ?_
        refine lv_iload_n hx hb dX8_benchGap_44 rfl (lv_at hl 2 rfl) ?_
        obtain ⟨q8, hq8, h⟩ := gbind_e h
        refine g_callV (As := [.int p1, .int p2]) (rest := []) hx hb (hml.trans hl.1.symm) hown E hM hS hy_X8_layWay kw_1718 (c_X8_layWay hq8) hk_60 dd_60 rfl rfl rfl (Nat.le_of_ble_eq_true rfl) ⟨Nat.le_of_ble_eq_true rfl, Nat.le_of_ble_eq_true rfl⟩ ⟨Nat.le_of_ble_eq_true rfl, Nat.le_of_ble_eq_true rfl⟩ dX8_benchGap_45 (fun H locs hM hS => ?_)
        refine lv_aload_n hx hb dX8_benchGap_48 rfl (lv_at hl 0 rfl) ?_
        refine gg_60_21 hx hb hown E hM hk_60 kw_1263 dX8_benchGap_49 ?_
        refine lv_iload_n hx hb dX8_benchGap_52 rfl (lv_at hl 2 rfl) ?_
        obtain ⟨c9, h⟩ := gchk_e h
        refine g_iald hx hb E hM hk_69 dd_69 c9 dX8_benchGap_53 ?_
        refine lv_if_ge (tgt := 62) hx hb dX8_benchGap_54 (by decide) (fun c10 => ?_) (fun c10 => ?_)
        · replace h := gif_t c10 h
          refine lv_aload_n hx hb dX8_benchGap_62 rfl (lv_at hl 0 rfl) ?_
          refine gg_60_23 hx hb hown E hM hk_60 kw_1265 dX8_benchGap_63 ?_
          refine lv_bipush (v := (100 : Int32)) hx hb dX8_benchGap_66 (by decide) ?_
          refine lv_aload_n hx hb dX8_benchGap_68 rfl (lv_at hl 0 rfl) ?_
          refine gg_60_0 hx hb hown E hM hk_60 kw_1242 dX8_benchGap_69 ?_
          refine lv_bipush (v := (6 : Int32)) hx hb dX8_benchGap_72 (by decide) ?_
          refine lv_iload_n hx hb dX8_benchGap_74 rfl (lv_at hl 2 rfl) ?_
          refine lv_iadd hx hb dX8_benchGap_75 ?_
          obtain ⟨c11, h⟩ := gchk_e h
          refine g_iald hx hb E hM hk_61 dd_61 c11 dX8_benchGap_76 ?_
          refine lv_aload_n hx hb dX8_benchGap_77 rfl (lv_at hl 0 rfl) ?_
          refine gg_60_0 hx hb hown E hM hk_60 kw_1242 dX8_benchGap_78 ?_
          refine lv_bipush (v := (6 : Int32)) hx hb dX8_benchGap_81 (by decide) ?_
          refine lv_iload_n hx hb dX8_benchGap_83 rfl (lv_at hl 1 rfl) ?_
          refine lv_iadd hx hb dX8_benchGap_84 ?_
          obtain ⟨c12, h⟩ := gchk_e h
          refine g_iald hx hb E hM hk_61 dd_61 c12 dX8_benchGap_85 ?_
          refine lv_isub hx hb dX8_benchGap_86 ?_
          refine lv_imul hx hb dX8_benchGap_87 ?_
          refine lv_isub hx hb dX8_benchGap_88 ?_
          obtain rfl := Option.some.inj h
          exact g_iret hx hb hr hlocks hM hS dX8_benchGap_89
        · replace h := gif_f c10 h
          refine lv_ldc hx hb hown (v := (-2147483648 : Int32)) (E.kw kw_1554) dX8_benchGap_57 ?_
          refine lv_goto (tgt := 89) hx hb dX8_benchGap_59 (by decide) ?_
          obtain rfl := Option.some.inj h
          exact g_iret hx hb hr hlocks hM hS dX8_benchGap_89
      · replace h := gif_f c7 h
        refine lv_ldc hx hb hown (v := (-2147483648 : Int32)) (E.kw kw_1554) dX8_benchGap_39 ?_
        obtain rfl := Option.some.inj h
        exact g_iret hx hb hr hlocks hM hS dX8_benchGap_41
  · replace h := gif_f c3 h
    refine lv_iconst (v := (0 : Int32)) hx hb dX8_benchGap_13 (by decide) ?_
    obtain rfl := Option.some.inj h
    exact g_iret hx hb hr hlocks hM hS dX8_benchGap_14
def b_X8_grow_37 (x2 : Int32) (x4 : Int32) (x3 : Int32) (x5 : Int32) (μ : gM) : Option ((Int32 × Int32 × gM) ⊕ (Int32 × gM)) :=
  Option.bind (f_X8_count (2 : Int32) μ) (fun q5 => if (q5 ≤ x5) then some (.inr (x3, μ)) else Option.bind (f_X8_touches x5 x4 μ) (fun q7 => if ((b2i q7) = 0) then some (.inl (x3, (x5 + (1 : Int32)), μ)) else Option.bind (f_X8_otherOf x5 x4 μ) (fun q9 => gchk (gIn q9 16) (if ((gi μ 72 q9.toNatClampNeg) < 0) then Option.bind (f_X8_otherOf x5 x4 μ) (fun q12 => gchk (gIn q12 16) (gchk (gIn x4 16) (gchk (gIn q12 16) (gchk (gIn x3 16) (some (.inl ((x3 + (1 : Int32)), (x5 + (1 : Int32)), (si (si (si (si μ 60 28 ((gi μ 60 28) ||| ((1 : Int32) <<< (x5 &&& 31)))) 71 q12.toNatClampNeg x5) 72 q12.toNatClampNeg ((gi (si (si μ 60 28 ((gi μ 60 28) ||| ((1 : Int32) <<< (x5 &&& 31)))) 71 q12.toNatClampNeg x5) 72 x4.toNatClampNeg) + (1 : Int32))) 70 x3.toNatClampNeg q12)))))))) else some (.inl (x3, (x5 + (1 : Int32)), μ))))))
set_option maxHeartbeats 4000000 in
set_option maxRecDepth 100000 in
theorem wb_X8_grow_37 {p : Program} {l : Launch} {e : Env} {s : State} {m : MethodId} {args : Array Value} {below : List Frame} {meth : Method} {c : Code} {D : va_G} {cy : Nat → ClassId} {ad : Nat → Nat} {base : Nat} {x2 : Int32} {x4 : Int32} {x3 : Int32} {x5 : Int32} {μ : gM} {o : (Int32 × Int32 × gM) ⊕ (Int32 × gM)} {RES : gM} (h : b_X8_grow_37 x2 x4 x3 x5 μ = some o) (F : gF p s m meth c cX8_grow RX8 7 none) (E : gEnv l D cy ad base s) (kc : ∀ (t : Int32 × Int32 × gM) {H : Heap} {locs : List Loc} {ls : Array Slot}, o = .inl t → gW gFull D cy ad base t.2.2 H → va_S (gA base) s.heap H locs → lv_has ls 7 [(0, .ref (ad 60)), (2, .int x2), (3, .int t.1), (4, .int x4), (5, .int t.2.1)] → W p l e ({ frames := 2, cells := 0, slots := 0, locals := 43 } : Room) s m args below meth c H locs 0 0 (MQ below (gQ none gFull D cy ad base RES) args s 0 0 (gA base)) (F0 m 37 ls [])) (kx : ∀ (t : Int32 × gM) {H : Heap} {locs : List Loc} {ls : Array Slot}, o = .inr t → gW gFull D cy ad base t.2 H → va_S (gA base) s.heap H locs → lv_has ls 7 [(0, .ref (ad 60)), (2, .int x2), (3, .int t.1)] → W p l e ({ frames := 2, cells := 0, slots := 0, locals := 43 } : Room) s m args below meth c H locs 0 0 (MQ below (gQ none gFull D cy ad base RES) args s 0 0 (gA base)) (F0 m 142 ls []))  {H : Heap} {locs : List Loc} {ls : Array Slot} (hM : gW gFull D cy ad base μ H) (hS : va_S (gA base) s.heap H locs) (hl : lv_has ls 7 [(0, .ref (ad 60)), (2, .int x2), (3, .int x3), (4, .int x4), (5, .int x5)]) : W p l e ({ frames := 2, cells := 0, slots := 0, locals := 43 } : Room) s m args below meth c H locs 0 0 (MQ below (gQ none gFull D cy ad base RES) args s 0 0 (gA base)) (F0 m 37 ls []) := by
  obtain ⟨hx, hb, hml, hown, hlocks, hr⟩ := id F
  unfold b_X8_grow_37 at h
  refine lv_iload hx hb dX8_grow_37 (lv_at hl 4 rfl) ?_
  refine lv_aload_n hx hb dX8_grow_39 rfl (lv_at hl 0 rfl) ?_
  refine lv_iconst (v := (2 : Int32)) hx hb dX8_grow_40 (by decide) ?_
  obtain ⟨q5, hq5, h⟩ := gbind_e h
  refine g_callV (As := [.int (2 : Int32)]) (rest := [.int x5]) hx hb (hml.trans hl.1.symm) hown E hM hS hy_X8_count kw_1498 (c_X8_count hq5) hk_60 dd_60 rfl rfl rfl (Nat.le_of_ble_eq_true rfl) ⟨Nat.le_of_ble_eq_true rfl, Nat.le_of_ble_eq_true rfl⟩ ⟨Nat.le_of_ble_eq_true rfl, Nat.le_of_ble_eq_true rfl⟩ dX8_grow_41 (fun H locs hM hS => ?_)
  refine lv_icmp_ge (tgt := 142) hx hb dX8_grow_44 (by decide) (fun c6 => ?_) (fun c6 => ?_)
  · replace h := gif_t c6 h
    exact kx _ (Option.some.inj h).symm hM hS (lv_sub hl [0, 1, 2] rfl)
  · replace h := gif_f c6 h
    refine lv_aload_n hx hb dX8_grow_47 rfl (lv_at hl 0 rfl) ?_
    refine lv_iload hx hb dX8_grow_48 (lv_at hl 4 rfl) ?_
    refine lv_iload hx hb dX8_grow_50 (lv_at hl 3 rfl) ?_
    obtain ⟨q7, hq7, h⟩ := gbind_e h
    refine g_callV (As := [.int x5, .int x4]) (rest := []) hx hb (hml.trans hl.1.symm) hown E hM hS hy_X8_touches kw_1667 (c_X8_touches hq7) hk_60 dd_60 rfl rfl rfl (Nat.le_of_ble_eq_true rfl) ⟨Nat.le_of_ble_eq_true rfl, Nat.le_of_ble_eq_true rfl⟩ ⟨Nat.le_of_ble_eq_true rfl, Nat.le_of_ble_eq_true rfl⟩ dX8_grow_52 (fun H locs hM hS => ?_)
    refine lv_if_eq (tgt := 136) hx hb dX8_grow_55 (by decide) (fun c8 => ?_) (fun c8 => ?_)
    · replace h := gif_t c8 h
      refine lv_iinc (v := (x5 + (1 : Int32))) (lv' := [(5, .int (x5 + (1 : Int32))), (0, .ref (ad 60)), (2, .int x2), (3, .int x3), (4, .int x4)]) hx hb dX8_grow_136 hl (k := 4) rfl rfl (by decide) rfl (fun ls hl => ?_)
      refine lv_goto (tgt := 37) hx hb dX8_grow_139 (by decide) ?_
      exact kc _ (Option.some.inj h).symm hM hS (lv_sub hl [1, 2, 3, 4, 0] rfl)
    · replace h := gif_f c8 h
      refine lv_aload_n hx hb dX8_grow_58 rfl (lv_at hl 0 rfl) ?_
      refine gg_60_26 hx hb hown E hM hk_60 kw_1268 dX8_grow_59 ?_
      refine lv_aload_n hx hb dX8_grow_62 rfl (lv_at hl 0 rfl) ?_
      refine lv_iload hx hb dX8_grow_63 (lv_at hl 4 rfl) ?_
      refine lv_iload hx hb dX8_grow_65 (lv_at hl 3 rfl) ?_
      obtain ⟨q9, hq9, h⟩ := gbind_e h
      refine g_callV (As := [.int x5, .int x4]) (rest := [.ref (ad 72)]) hx hb (hml.trans hl.1.symm) hown E hM hS hy_X8_otherOf kw_1722 (c_X8_otherOf hq9) hk_60 dd_60 rfl rfl rfl (Nat.le_of_ble_eq_true rfl) ⟨Nat.le_of_ble_eq_true rfl, Nat.le_of_ble_eq_true rfl⟩ ⟨Nat.le_of_ble_eq_true rfl, Nat.le_of_ble_eq_true rfl⟩ dX8_grow_67 (fun H locs hM hS => ?_)
      obtain ⟨c10, h⟩ := gchk_e h
      refine g_iald hx hb E hM hk_72 dd_72 c10 dX8_grow_70 ?_
      refine lv_if_lt (tgt := 77) hx hb dX8_grow_71 (by decide) (fun c11 => ?_) (fun c11 => ?_)
      · replace h := gif_t c11 h
        refine lv_aload_n hx hb dX8_grow_77 rfl (lv_at hl 0 rfl) ?_
        refine lv_iload hx hb dX8_grow_78 (lv_at hl 4 rfl) ?_
        refine lv_iload hx hb dX8_grow_80 (lv_at hl 3 rfl) ?_
        obtain ⟨q12, hq12, h⟩ := gbind_e h
        refine g_callV (As := [.int x5, .int x4]) (rest := []) hx hb (hml.trans hl.1.symm) hown E hM hS hy_X8_otherOf kw_1722 (c_X8_otherOf hq12) hk_60 dd_60 rfl rfl rfl (Nat.le_of_ble_eq_true rfl) ⟨Nat.le_of_ble_eq_true rfl, Nat.le_of_ble_eq_true rfl⟩ ⟨Nat.le_of_ble_eq_true rfl, Nat.le_of_ble_eq_true rfl⟩ dX8_grow_82 (fun H locs hM hS => ?_)
        refine lv_istore (lv' := [(6, .int q12), (0, .ref (ad 60)), (2, .int x2), (3, .int x3), (4, .int x4), (5, .int x5)]) hx hb dX8_grow_85 hl (by decide) rfl (fun ls hl => ?_)
        refine lv_aload_n hx hb dX8_grow_87 rfl (lv_at hl 1 rfl) ?_
        refine lv_dup hx hb dX8_grow_88 rfl ?_
        refine gg_60_28 hx hb hown E hM hk_60 kw_1270 dX8_grow_89 ?_
        refine lv_iconst (v := (1 : Int32)) hx hb dX8_grow_92 (by decide) ?_
        refine lv_iload hx hb dX8_grow_93 (lv_at hl 5 rfl) ?_
        refine lv_ishl hx hb dX8_grow_95 ?_
        refine lv_ior hx hb dX8_grow_96 ?_
        refine gp_60_28 hx hb hown E hM hS hk_60 kw_1270 dX8_grow_97 (fun H locs hM hS => ?_)
        refine lv_aload_n hx hb dX8_grow_100 rfl (lv_at hl 1 rfl) ?_
        refine gg_60_25 hx hb hown E hM hk_60 kw_1267 dX8_grow_101 ?_
        refine lv_iload hx hb dX8_grow_104 (lv_at hl 0 rfl) ?_
        refine lv_iload hx hb dX8_grow_106 (lv_at hl 5 rfl) ?_
        obtain ⟨c13, h⟩ := gchk_e h
        refine g_iast hx hb E hM hS hk_71 dd_71 c13 dX8_grow_108 (fun H locs hM hS => ?_)
        refine lv_aload_n hx hb dX8_grow_109 rfl (lv_at hl 1 rfl) ?_
        refine gg_60_26 hx hb hown E hM hk_60 kw_1268 dX8_grow_110 ?_
        refine lv_iload hx hb dX8_grow_113 (lv_at hl 0 rfl) ?_
        refine lv_aload_n hx hb dX8_grow_115 rfl (lv_at hl 1 rfl) ?_
        refine gg_60_26 hx hb hown E hM hk_60 kw_1268 dX8_grow_116 ?_
        refine lv_iload hx hb dX8_grow_119 (lv_at hl 4 rfl) ?_
        obtain ⟨c14, h⟩ := gchk_e h
        refine g_iald hx hb E hM hk_72 dd_72 c14 dX8_grow_121 ?_
        refine lv_iconst (v := (1 : Int32)) hx hb dX8_grow_122 (by decide) ?_
        refine lv_iadd hx hb dX8_grow_123 ?_
        obtain ⟨c15, h⟩ := gchk_e h
        refine g_iast hx hb E hM hS hk_72 dd_72 c15 dX8_grow_124 (fun H locs hM hS => ?_)
        refine lv_aload_n hx hb dX8_grow_125 rfl (lv_at hl 1 rfl) ?_
        refine gg_60_24 hx hb hown E hM hk_60 kw_1266 dX8_grow_126 ?_
        refine lv_iload_n hx hb dX8_grow_129 rfl (lv_at hl 3 rfl) ?_
        refine lv_iload hx hb dX8_grow_130 (lv_at hl 0 rfl) ?_
        obtain ⟨c16, h⟩ := gchk_e h
        refine g_iast hx hb E hM hS hk_70 dd_70 c16 dX8_grow_132 (fun H locs hM hS => ?_)
        refine lv_iinc (v := (x3 + (1 : Int32))) (lv' := [(3, .int (x3 + (1 : Int32))), (6, .int q12), (0, .ref (ad 60)), (2, .int x2), (4, .int x4), (5, .int x5)]) hx hb dX8_grow_133 hl (k := 3) rfl rfl (by decide) rfl (fun ls hl => ?_)
        refine lv_iinc (v := (x5 + (1 : Int32))) (lv' := [(5, .int (x5 + (1 : Int32))), (3, .int (x3 + (1 : Int32))), (6, .int q12), (0, .ref (ad 60)), (2, .int x2), (4, .int x4)]) hx hb dX8_grow_136 hl (k := 5) rfl rfl (by decide) rfl (fun ls hl => ?_)
        refine lv_goto (tgt := 37) hx hb dX8_grow_139 (by decide) ?_
        exact kc _ (Option.some.inj h).symm hM hS (lv_sub hl [3, 4, 1, 5, 0] rfl)
      · replace h := gif_f c11 h
        refine lv_goto (tgt := 136) hx hb dX8_grow_74 (by decide) ?_
        refine lv_iinc (v := (x5 + (1 : Int32))) (lv' := [(5, .int (x5 + (1 : Int32))), (0, .ref (ad 60)), (2, .int x2), (3, .int x3), (4, .int x4)]) hx hb dX8_grow_136 hl (k := 4) rfl rfl (by decide) rfl (fun ls hl => ?_)
        refine lv_goto (tgt := 37) hx hb dX8_grow_139 (by decide) ?_
        exact kc _ (Option.some.inj h).symm hM hS (lv_sub hl [1, 2, 3, 4, 0] rfl)
set_option maxHeartbeats 4000000 in
theorem wl_X8_grow_37 {p : Program} {l : Launch} {e : Env} {s : State} {m : MethodId} {args : Array Value} {below : List Frame} {meth : Method} {c : Code} {D : va_G} {cy : Nat → ClassId} {ad : Nat → Nat} {base : Nat} {x2 : Int32} {x4 : Int32} {r : Int32 × gM} {RES : gM} (F : gF p s m meth c cX8_grow RX8 7 none) (E : gEnv l D cy ad base s) (kx : ∀ (t : Int32 × gM) {H : Heap} {locs : List Loc} {ls : Array Slot}, r = t → gW gFull D cy ad base t.2 H → va_S (gA base) s.heap H locs → lv_has ls 7 [(0, .ref (ad 60)), (2, .int x2), (3, .int t.1)] → W p l e ({ frames := 2, cells := 0, slots := 0, locals := 43 } : Room) s m args below meth c H locs 0 0 (MQ below (gQ none gFull D cy ad base RES) args s 0 0 (gA base)) (F0 m 142 ls []))  : ∀ (n : Nat) (x3 : Int32) (x5 : Int32) (μ : gM), gloop (fun t => b_X8_grow_37 x2 x4 t.1 t.2.1 t.2.2) n (x3, x5, μ) = some r → ∀ {H : Heap} {locs : List Loc} {ls : Array Slot}, gW gFull D cy ad base μ H → va_S (gA base) s.heap H locs → lv_has ls 7 [(0, .ref (ad 60)), (2, .int x2), (3, .int x3), (4, .int x4), (5, .int x5)] → W p l e ({ frames := 2, cells := 0, slots := 0, locals := 43 } : Room) s m args below meth c H locs 0 0 (MQ below (gQ none gFull D cy ad base RES) args s 0 0 (gA base)) (F0 m 37 ls []) := by
  intro n
  induction n with
  | zero =>
    intro x3 x5 μ h
    exact (gloop_0 h).elim
  | succ n ih =>
    intro x3 x5 μ h H locs ls hM hS hl
    obtain ⟨o, h0, hc, hq⟩ := gloop_s h
    have h1 : b_X8_grow_37 x2 x4 x3 x5 μ = some o := h0
    exact wb_X8_grow_37 h1 F E (fun t H locs ls ho hM hS hl => ih t.1 t.2.1 t.2.2 (hc t ho) hM hS hl) (fun t H locs ls ho hM hS hl => kx t (hq _ ho).symm hM hS hl) hM hS hl
def b_X8_grow_18 (x2 : Int32) (x3 : Int32) (μ : gM) : Option ((Int32 × Int32 × gM) ⊕ (gM)) :=
  if (x3 ≤ x2) then some (.inr μ) else gchk (gIn x2 16) (Option.bind (gloop (fun t => b_X8_grow_37 (x2 + (1 : Int32)) (gi μ 70 x2.toNatClampNeg) t.1 t.2.1 t.2.2) gFuel (x3, (0 : Int32), μ)) (fun q17 => some (.inl ((x2 + (1 : Int32)), q17.1, q17.2))))
set_option maxHeartbeats 4000000 in
set_option maxRecDepth 100000 in
theorem wb_X8_grow_18 {p : Program} {l : Launch} {e : Env} {s : State} {m : MethodId} {args : Array Value} {below : List Frame} {meth : Method} {c : Code} {D : va_G} {cy : Nat → ClassId} {ad : Nat → Nat} {base : Nat} {x2 : Int32} {x3 : Int32} {μ : gM} {o : (Int32 × Int32 × gM) ⊕ (gM)} {RES : gM} (h : b_X8_grow_18 x2 x3 μ = some o) (F : gF p s m meth c cX8_grow RX8 7 none) (E : gEnv l D cy ad base s) (kc : ∀ (t : Int32 × Int32 × gM) {H : Heap} {locs : List Loc} {ls : Array Slot}, o = .inl t → gW gFull D cy ad base t.2.2 H → va_S (gA base) s.heap H locs → lv_has ls 7 [(0, .ref (ad 60)), (2, .int t.1), (3, .int t.2.1)] → W p l e ({ frames := 2, cells := 0, slots := 0, locals := 43 } : Room) s m args below meth c H locs 0 0 (MQ below (gQ none gFull D cy ad base RES) args s 0 0 (gA base)) (F0 m 18 ls [])) (kx : ∀ (t : gM) {H : Heap} {locs : List Loc} {ls : Array Slot}, o = .inr t → gW gFull D cy ad base t H → va_S (gA base) s.heap H locs → lv_has ls 7 [] → W p l e ({ frames := 2, cells := 0, slots := 0, locals := 43 } : Room) s m args below meth c H locs 0 0 (MQ below (gQ none gFull D cy ad base RES) args s 0 0 (gA base)) (F0 m 145 ls []))  {H : Heap} {locs : List Loc} {ls : Array Slot} (hM : gW gFull D cy ad base μ H) (hS : va_S (gA base) s.heap H locs) (hl : lv_has ls 7 [(0, .ref (ad 60)), (2, .int x2), (3, .int x3)]) : W p l e ({ frames := 2, cells := 0, slots := 0, locals := 43 } : Room) s m args below meth c H locs 0 0 (MQ below (gQ none gFull D cy ad base RES) args s 0 0 (gA base)) (F0 m 18 ls []) := by
  obtain ⟨hx, hb, hml, hown, hlocks, hr⟩ := id F
  unfold b_X8_grow_18 at h
  refine lv_iload_n hx hb dX8_grow_18 rfl (lv_at hl 1 rfl) ?_
  refine lv_iload_n hx hb dX8_grow_19 rfl (lv_at hl 2 rfl) ?_
  refine lv_icmp_ge (tgt := 145) hx hb dX8_grow_20 (by decide) (fun c3 => ?_) (fun c3 => ?_)
  · replace h := gif_t c3 h
    exact kx _ (Option.some.inj h).symm hM hS (lv_sub hl [] rfl)
  · replace h := gif_f c3 h
    refine lv_aload_n hx hb dX8_grow_23 rfl (lv_at hl 0 rfl) ?_
    refine gg_60_24 hx hb hown E hM hk_60 kw_1266 dX8_grow_24 ?_
    refine lv_iload_n hx hb dX8_grow_27 rfl (lv_at hl 1 rfl) ?_
    obtain ⟨c4, h⟩ := gchk_e h
    refine g_iald hx hb E hM hk_70 dd_70 c4 dX8_grow_28 ?_
    refine lv_istore (lv' := [(4, .int (gi μ 70 x2.toNatClampNeg)), (0, .ref (ad 60)), (2, .int x2), (3, .int x3)]) hx hb dX8_grow_29 hl (by decide) rfl (fun ls hl => ?_)
    refine lv_iinc (v := (x2 + (1 : Int32))) (lv' := [(2, .int (x2 + (1 : Int32))), (4, .int (gi μ 70 x2.toNatClampNeg)), (0, .ref (ad 60)), (3, .int x3)]) hx hb dX8_grow_31 hl (k := 2) rfl rfl (by decide) rfl (fun ls hl => ?_)
    refine lv_iconst (v := (0 : Int32)) hx hb dX8_grow_34 (by decide) ?_
    refine lv_istore (lv' := [(5, .int (0 : Int32)), (2, .int (x2 + (1 : Int32))), (4, .int (gi μ 70 x2.toNatClampNeg)), (0, .ref (ad 60)), (3, .int x3)]) hx hb dX8_grow_35 hl (by decide) rfl (fun ls hl => ?_)
    obtain ⟨z18, h1, h⟩ := gbind_e h
    refine wl_X8_grow_37 F E (r := z18) (fun q17 H locs ls e1 hM hS hl => ?_) gFuel x3 (0 : Int32) μ h1 hM hS (lv_sub hl [3, 1, 4, 2, 0] rfl)
    replace e1 : z18 = q17 := e1
    rw [e1] at h
    refine lv_goto (tgt := 18) hx hb dX8_grow_142 (by decide) ?_
    exact kc _ (Option.some.inj h).symm hM hS hl
set_option maxHeartbeats 4000000 in
theorem wl_X8_grow_18 {p : Program} {l : Launch} {e : Env} {s : State} {m : MethodId} {args : Array Value} {below : List Frame} {meth : Method} {c : Code} {D : va_G} {cy : Nat → ClassId} {ad : Nat → Nat} {base : Nat}  {r : gM} {RES : gM} (F : gF p s m meth c cX8_grow RX8 7 none) (E : gEnv l D cy ad base s) (kx : ∀ (t : gM) {H : Heap} {locs : List Loc} {ls : Array Slot}, r = t → gW gFull D cy ad base t H → va_S (gA base) s.heap H locs → lv_has ls 7 [] → W p l e ({ frames := 2, cells := 0, slots := 0, locals := 43 } : Room) s m args below meth c H locs 0 0 (MQ below (gQ none gFull D cy ad base RES) args s 0 0 (gA base)) (F0 m 145 ls []))  : ∀ (n : Nat) (x2 : Int32) (x3 : Int32) (μ : gM), gloop (fun t => b_X8_grow_18  t.1 t.2.1 t.2.2) n (x2, x3, μ) = some r → ∀ {H : Heap} {locs : List Loc} {ls : Array Slot}, gW gFull D cy ad base μ H → va_S (gA base) s.heap H locs → lv_has ls 7 [(0, .ref (ad 60)), (2, .int x2), (3, .int x3)] → W p l e ({ frames := 2, cells := 0, slots := 0, locals := 43 } : Room) s m args below meth c H locs 0 0 (MQ below (gQ none gFull D cy ad base RES) args s 0 0 (gA base)) (F0 m 18 ls []) := by
  intro n
  induction n with
  | zero =>
    intro x2 x3 μ h
    exact (gloop_0 h).elim
  | succ n ih =>
    intro x2 x3 μ h H locs ls hM hS hl
    obtain ⟨o, h0, hc, hq⟩ := gloop_s h
    have h1 : b_X8_grow_18 x2 x3 μ = some o := h0
    exact wb_X8_grow_18 h1 F E (fun t H locs ls ho hM hS hl => ih t.1 t.2.1 t.2.2 (hc t ho) hM hS hl) (fun t H locs ls ho hM hS hl => kx t (hq _ ho).symm hM hS hl) hM hS hl
def f_X8_grow (p1 : Int32) (μ : gM) : Option (gM) :=
  gchk (gIn (0 : Int32) 16) (gchk (gIn p1 16) (Option.bind (gloop (fun t => b_X8_grow_18  t.1 t.2.1 t.2.2) gFuel ((0 : Int32), (1 : Int32), (si (si μ 70 (0 : Int32).toNatClampNeg p1) 72 p1.toNatClampNeg (0 : Int32)))) (fun q19 => some q19)))
set_option maxHeartbeats 4000000 in
set_option maxRecDepth 100000 in
theorem c_X8_grow {l : Launch} {D : va_G} {cy : Nat → ClassId} {ad : Nat → Nat} {base : Nat} {p1 : Int32} {μ : gM} {RES : gM} (h : f_X8_grow p1 μ = some RES) : Met l yX8_grow [.code yX8_grow cX8_grow 7 none] ({ frames := 2, cells := 0, slots := 0, locals := 43 } : Room) (va_Pc [.ref (ad 60), .int p1] (gB l gFull D cy ad base μ)) (gQ none gFull D cy ad base RES) 0 0 (gA base) := by
  refine Met.ofW (cc := cX8_grow) (maxL := 7) (ret := none) (by decide) rfl ?_
  intro p e s m args below meth c s₁ B hml0 hv
  obtain ⟨rfl, E, hM⟩ := hv
  have F : gF p s m meth c cX8_grow RX8 7 none := gF_of B hml0
  obtain ⟨hx, hb, hml, hown, hlocks, hr⟩ := id F
  have hS : va_S (gA base) s.heap s.heap [] := va_S.rf
  have hl := lv_entry ([.ref (ad 60), .int p1]) (n := 7) (Nat.le_of_ble_eq_true rfl)
  rw [lg_entry_eq]
  generalize (lg_sl ([.ref (ad 60), .int p1]) ++ List.replicate (7 - (lg_sl ([.ref (ad 60), .int p1])).length) Slot.unset).toArray = ls at hl ⊢
  have hl : lv_has ls 7 [(0, .ref (ad 60)), (1, .int p1)] := hl
  unfold f_X8_grow at h
  refine lv_iconst (v := (0 : Int32)) hx hb dX8_grow_0 (by decide) ?_
  refine lv_istore_n (lv' := [(2, .int (0 : Int32)), (0, .ref (ad 60)), (1, .int p1)]) hx hb dX8_grow_1 rfl hl (by decide) rfl (fun ls hl => ?_)
  refine lv_iconst (v := (1 : Int32)) hx hb dX8_grow_2 (by decide) ?_
  refine lv_istore_n (lv' := [(3, .int (1 : Int32)), (2, .int (0 : Int32)), (0, .ref (ad 60)), (1, .int p1)]) hx hb dX8_grow_3 rfl hl (by decide) rfl (fun ls hl => ?_)
  refine lv_aload_n hx hb dX8_grow_4 rfl (lv_at hl 2 rfl) ?_
  refine gg_60_24 hx hb hown E hM hk_60 kw_1266 dX8_grow_5 ?_
  refine lv_iconst (v := (0 : Int32)) hx hb dX8_grow_8 (by decide) ?_
  refine lv_iload_n hx hb dX8_grow_9 rfl (lv_at hl 3 rfl) ?_
  obtain ⟨c1, h⟩ := gchk_e h
  refine g_iast hx hb E hM hS hk_70 dd_70 c1 dX8_grow_10 (fun H locs hM hS => ?_)
  refine lv_aload_n hx hb dX8_grow_11 rfl (lv_at hl 2 rfl) ?_
  refine gg_60_26 hx hb hown E hM hk_60 kw_1268 dX8_grow_12 ?_
  refine lv_iload_n hx hb dX8_grow_15 rfl (lv_at hl 3 rfl) ?_
  refine lv_iconst (v := (0 : Int32)) hx hb dX8_grow_16 (by decide) ?_
  obtain ⟨c2, h⟩ := gchk_e h
  refine g_iast hx hb E hM hS hk_72 dd_72 c2 dX8_grow_17 (fun H locs hM hS => ?_)
  obtain ⟨z20, h1, h⟩ := gbind_e h
  refine wl_X8_grow_18 F E (r := z20) (fun q19 H locs ls e1 hM hS hl => ?_) gFuel (0 : Int32) (1 : Int32) (si (si μ 70 (0 : Int32).toNatClampNeg p1) 72 p1.toNatClampNeg (0 : Int32)) h1 hM hS (lv_sub hl [2, 1, 0] rfl)
  replace e1 : z20 = q19 := e1
  rw [e1] at h
  obtain rfl := Option.some.inj h
  exact g_vret hx hb hr hlocks hM hS dX8_grow_145
def b_X8_layLoops_12 (x1 : Int32) (μ : gM) : Option ((Int32 × gM) ⊕ (gM)) :=
  if ((16 : Int32) ≤ x1) then some (.inr μ) else gchk (gIn x1 16) (gchk (gIn x1 16) (some (.inl ((x1 + (1 : Int32)), (si (si μ 72 x1.toNatClampNeg (-1 : Int32)) 71 x1.toNatClampNeg (-1 : Int32))))))
set_option maxHeartbeats 4000000 in
set_option maxRecDepth 100000 in
theorem wb_X8_layLoops_12 {p : Program} {l : Launch} {e : Env} {s : State} {m : MethodId} {args : Array Value} {below : List Frame} {meth : Method} {c : Code} {D : va_G} {cy : Nat → ClassId} {ad : Nat → Nat} {base : Nat} {x1 : Int32} {μ : gM} {o : (Int32 × gM) ⊕ (gM)} {RES : gM} (h : b_X8_layLoops_12 x1 μ = some o) (F : gF p s m meth c cX8_layLoops RX8 2 none) (E : gEnv l D cy ad base s) (kc : ∀ (t : Int32 × gM) {H : Heap} {locs : List Loc} {ls : Array Slot}, o = .inl t → gW gFull D cy ad base t.2 H → va_S (gA base) s.heap H locs → lv_has ls 2 [(0, .ref (ad 60)), (1, .int t.1)] → W p l e ({ frames := 3, cells := 0, slots := 0, locals := 69 } : Room) s m args below meth c H locs 0 0 (MQ below (gQ none gFull D cy ad base RES) args s 0 0 (gA base)) (F0 m 12 ls [])) (kx : ∀ (t : gM) {H : Heap} {locs : List Loc} {ls : Array Slot}, o = .inr t → gW gFull D cy ad base t H → va_S (gA base) s.heap H locs → lv_has ls 2 [(0, .ref (ad 60))] → W p l e ({ frames := 3, cells := 0, slots := 0, locals := 69 } : Room) s m args below meth c H locs 0 0 (MQ below (gQ none gFull D cy ad base RES) args s 0 0 (gA base)) (F0 m 38 ls []))  {H : Heap} {locs : List Loc} {ls : Array Slot} (hM : gW gFull D cy ad base μ H) (hS : va_S (gA base) s.heap H locs) (hl : lv_has ls 2 [(0, .ref (ad 60)), (1, .int x1)]) : W p l e ({ frames := 3, cells := 0, slots := 0, locals := 69 } : Room) s m args below meth c H locs 0 0 (MQ below (gQ none gFull D cy ad base RES) args s 0 0 (gA base)) (F0 m 12 ls []) := by
  obtain ⟨hx, hb, hml, hown, hlocks, hr⟩ := id F
  unfold b_X8_layLoops_12 at h
  refine lv_iload_n hx hb dX8_layLoops_12 rfl (lv_at hl 1 rfl) ?_
  refine lv_bipush (v := (16 : Int32)) hx hb dX8_layLoops_13 (by decide) ?_
  refine lv_icmp_ge (tgt := 38) hx hb dX8_layLoops_15 (by decide) (fun c1 => ?_) (fun c1 => ?_)
  · replace h := gif_t c1 h
    exact kx _ (Option.some.inj h).symm hM hS (lv_sub hl [0] rfl)
  · replace h := gif_f c1 h
    refine lv_aload_n hx hb dX8_layLoops_18 rfl (lv_at hl 0 rfl) ?_
    refine gg_60_26 hx hb hown E hM hk_60 kw_1268 dX8_layLoops_19 ?_
    refine lv_iload_n hx hb dX8_layLoops_22 rfl (lv_at hl 1 rfl) ?_
    refine lv_iconst (v := (-1 : Int32)) hx hb dX8_layLoops_23 (by decide) ?_
    obtain ⟨c2, h⟩ := gchk_e h
    refine g_iast hx hb E hM hS hk_72 dd_72 c2 dX8_layLoops_24 (fun H locs hM hS => ?_)
    refine lv_aload_n hx hb dX8_layLoops_25 rfl (lv_at hl 0 rfl) ?_
    refine gg_60_25 hx hb hown E hM hk_60 kw_1267 dX8_layLoops_26 ?_
    refine lv_iload_n hx hb dX8_layLoops_29 rfl (lv_at hl 1 rfl) ?_
    refine lv_iconst (v := (-1 : Int32)) hx hb dX8_layLoops_30 (by decide) ?_
    obtain ⟨c3, h⟩ := gchk_e h
    refine g_iast hx hb E hM hS hk_71 dd_71 c3 dX8_layLoops_31 (fun H locs hM hS => ?_)
    refine lv_iinc (v := (x1 + (1 : Int32))) (lv' := [(1, .int (x1 + (1 : Int32))), (0, .ref (ad 60))]) hx hb dX8_layLoops_32 hl (k := 1) rfl rfl (by decide) rfl (fun ls hl => ?_)
    refine lv_goto (tgt := 12) hx hb dX8_layLoops_35 (by decide) ?_
    exact kc _ (Option.some.inj h).symm hM hS (lv_sub hl [1, 0] rfl)
set_option maxHeartbeats 4000000 in
theorem wl_X8_layLoops_12 {p : Program} {l : Launch} {e : Env} {s : State} {m : MethodId} {args : Array Value} {below : List Frame} {meth : Method} {c : Code} {D : va_G} {cy : Nat → ClassId} {ad : Nat → Nat} {base : Nat}  {r : gM} {RES : gM} (F : gF p s m meth c cX8_layLoops RX8 2 none) (E : gEnv l D cy ad base s) (kx : ∀ (t : gM) {H : Heap} {locs : List Loc} {ls : Array Slot}, r = t → gW gFull D cy ad base t H → va_S (gA base) s.heap H locs → lv_has ls 2 [(0, .ref (ad 60))] → W p l e ({ frames := 3, cells := 0, slots := 0, locals := 69 } : Room) s m args below meth c H locs 0 0 (MQ below (gQ none gFull D cy ad base RES) args s 0 0 (gA base)) (F0 m 38 ls []))  : ∀ (n : Nat) (x1 : Int32) (μ : gM), gloop (fun t => b_X8_layLoops_12  t.1 t.2) n (x1, μ) = some r → ∀ {H : Heap} {locs : List Loc} {ls : Array Slot}, gW gFull D cy ad base μ H → va_S (gA base) s.heap H locs → lv_has ls 2 [(0, .ref (ad 60)), (1, .int x1)] → W p l e ({ frames := 3, cells := 0, slots := 0, locals := 69 } : Room) s m args below meth c H locs 0 0 (MQ below (gQ none gFull D cy ad base RES) args s 0 0 (gA base)) (F0 m 12 ls []) := by
  intro n
  induction n with
  | zero =>
    intro x1 μ h
    exact (gloop_0 h).elim
  | succ n ih =>
    intro x1 μ h H locs ls hM hS hl
    obtain ⟨o, h0, hc, hq⟩ := gloop_s h
    have h1 : b_X8_layLoops_12 x1 μ = some o := h0
    exact wb_X8_layLoops_12 h1 F E (fun t H locs ls ho hM hS hl => ih t.1 t.2 (hc t ho) hM hS hl) (fun t H locs ls ho hM hS hl => kx t (hq _ ho).symm hM hS hl) hM hS hl
def b_X8_layLoops_40 (x1 : Int32) (μ : gM) : Option ((Int32 × gM) ⊕ (gM)) :=
  Option.bind (f_X8_count (1 : Int32) μ) (fun q5 => if (q5 ≤ x1) then some (.inr μ) else gchk (gIn x1 16) (if (0 ≤ (gi μ 72 x1.toNatClampNeg)) then some (.inl ((x1 + (1 : Int32)), μ)) else Option.bind (f_X8_grow x1 μ) (fun q9 => some (.inl ((x1 + (1 : Int32)), q9)))))
set_option maxHeartbeats 4000000 in
set_option maxRecDepth 100000 in
theorem wb_X8_layLoops_40 {p : Program} {l : Launch} {e : Env} {s : State} {m : MethodId} {args : Array Value} {below : List Frame} {meth : Method} {c : Code} {D : va_G} {cy : Nat → ClassId} {ad : Nat → Nat} {base : Nat} {x1 : Int32} {μ : gM} {o : (Int32 × gM) ⊕ (gM)} {RES : gM} (h : b_X8_layLoops_40 x1 μ = some o) (F : gF p s m meth c cX8_layLoops RX8 2 none) (E : gEnv l D cy ad base s) (kc : ∀ (t : Int32 × gM) {H : Heap} {locs : List Loc} {ls : Array Slot}, o = .inl t → gW gFull D cy ad base t.2 H → va_S (gA base) s.heap H locs → lv_has ls 2 [(0, .ref (ad 60)), (1, .int t.1)] → W p l e ({ frames := 3, cells := 0, slots := 0, locals := 69 } : Room) s m args below meth c H locs 0 0 (MQ below (gQ none gFull D cy ad base RES) args s 0 0 (gA base)) (F0 m 40 ls [])) (kx : ∀ (t : gM) {H : Heap} {locs : List Loc} {ls : Array Slot}, o = .inr t → gW gFull D cy ad base t H → va_S (gA base) s.heap H locs → lv_has ls 2 [(0, .ref (ad 60))] → W p l e ({ frames := 3, cells := 0, slots := 0, locals := 69 } : Room) s m args below meth c H locs 0 0 (MQ below (gQ none gFull D cy ad base RES) args s 0 0 (gA base)) (F0 m 69 ls []))  {H : Heap} {locs : List Loc} {ls : Array Slot} (hM : gW gFull D cy ad base μ H) (hS : va_S (gA base) s.heap H locs) (hl : lv_has ls 2 [(0, .ref (ad 60)), (1, .int x1)]) : W p l e ({ frames := 3, cells := 0, slots := 0, locals := 69 } : Room) s m args below meth c H locs 0 0 (MQ below (gQ none gFull D cy ad base RES) args s 0 0 (gA base)) (F0 m 40 ls []) := by
  obtain ⟨hx, hb, hml, hown, hlocks, hr⟩ := id F
  unfold b_X8_layLoops_40 at h
  refine lv_iload_n hx hb dX8_layLoops_40 rfl (lv_at hl 1 rfl) ?_
  refine lv_aload_n hx hb dX8_layLoops_41 rfl (lv_at hl 0 rfl) ?_
  refine lv_iconst (v := (1 : Int32)) hx hb dX8_layLoops_42 (by decide) ?_
  obtain ⟨q5, hq5, h⟩ := gbind_e h
  refine g_callV (As := [.int (1 : Int32)]) (rest := [.int x1]) hx hb (hml.trans hl.1.symm) hown E hM hS hy_X8_count kw_1498 (c_X8_count hq5) hk_60 dd_60 rfl rfl rfl (Nat.le_of_ble_eq_true rfl) ⟨Nat.le_of_ble_eq_true rfl, Nat.le_of_ble_eq_true rfl⟩ ⟨Nat.le_of_ble_eq_true rfl, Nat.le_of_ble_eq_true rfl⟩ dX8_layLoops_43 (fun H locs hM hS => ?_)
  refine lv_icmp_ge (tgt := 69) hx hb dX8_layLoops_46 (by decide) (fun c6 => ?_) (fun c6 => ?_)
  · replace h := gif_t c6 h
    exact kx _ (Option.some.inj h).symm hM hS (lv_sub hl [0] rfl)
  · replace h := gif_f c6 h
    refine lv_aload_n hx hb dX8_layLoops_49 rfl (lv_at hl 0 rfl) ?_
    refine gg_60_26 hx hb hown E hM hk_60 kw_1268 dX8_layLoops_50 ?_
    refine lv_iload_n hx hb dX8_layLoops_53 rfl (lv_at hl 1 rfl) ?_
    obtain ⟨c7, h⟩ := gchk_e h
    refine g_iald hx hb E hM hk_72 dd_72 c7 dX8_layLoops_54 ?_
    refine lv_if_ge (tgt := 63) hx hb dX8_layLoops_55 (by decide) (fun c8 => ?_) (fun c8 => ?_)
    · replace h := gif_t c8 h
      refine lv_iinc (v := (x1 + (1 : Int32))) (lv' := [(1, .int (x1 + (1 : Int32))), (0, .ref (ad 60))]) hx hb dX8_layLoops_63 hl (k := 1) rfl rfl (by decide) rfl (fun ls hl => ?_)
      refine lv_goto (tgt := 40) hx hb dX8_layLoops_66 (by decide) ?_
      exact kc _ (Option.some.inj h).symm hM hS (lv_sub hl [1, 0] rfl)
    · replace h := gif_f c8 h
      refine lv_aload_n hx hb dX8_layLoops_58 rfl (lv_at hl 0 rfl) ?_
      refine lv_iload_n hx hb dX8_layLoops_59 rfl (lv_at hl 1 rfl) ?_
      obtain ⟨q9, hq9, h⟩ := gbind_e h
      refine g_callV (As := [.int x1]) (rest := []) hx hb (hml.trans hl.1.symm) hown E hM hS hy_X8_grow kw_1742 (c_X8_grow hq9) hk_60 dd_60 rfl rfl rfl (Nat.le_of_ble_eq_true rfl) ⟨Nat.le_of_ble_eq_true rfl, Nat.le_of_ble_eq_true rfl⟩ ⟨Nat.le_of_ble_eq_true rfl, Nat.le_of_ble_eq_true rfl⟩ dX8_layLoops_60 (fun H locs hM hS => ?_)
      refine lv_iinc (v := (x1 + (1 : Int32))) (lv' := [(1, .int (x1 + (1 : Int32))), (0, .ref (ad 60))]) hx hb dX8_layLoops_63 hl (k := 1) rfl rfl (by decide) rfl (fun ls hl => ?_)
      refine lv_goto (tgt := 40) hx hb dX8_layLoops_66 (by decide) ?_
      exact kc _ (Option.some.inj h).symm hM hS (lv_sub hl [1, 0] rfl)
set_option maxHeartbeats 4000000 in
theorem wl_X8_layLoops_40 {p : Program} {l : Launch} {e : Env} {s : State} {m : MethodId} {args : Array Value} {below : List Frame} {meth : Method} {c : Code} {D : va_G} {cy : Nat → ClassId} {ad : Nat → Nat} {base : Nat}  {r : gM} {RES : gM} (F : gF p s m meth c cX8_layLoops RX8 2 none) (E : gEnv l D cy ad base s) (kx : ∀ (t : gM) {H : Heap} {locs : List Loc} {ls : Array Slot}, r = t → gW gFull D cy ad base t H → va_S (gA base) s.heap H locs → lv_has ls 2 [(0, .ref (ad 60))] → W p l e ({ frames := 3, cells := 0, slots := 0, locals := 69 } : Room) s m args below meth c H locs 0 0 (MQ below (gQ none gFull D cy ad base RES) args s 0 0 (gA base)) (F0 m 69 ls []))  : ∀ (n : Nat) (x1 : Int32) (μ : gM), gloop (fun t => b_X8_layLoops_40  t.1 t.2) n (x1, μ) = some r → ∀ {H : Heap} {locs : List Loc} {ls : Array Slot}, gW gFull D cy ad base μ H → va_S (gA base) s.heap H locs → lv_has ls 2 [(0, .ref (ad 60)), (1, .int x1)] → W p l e ({ frames := 3, cells := 0, slots := 0, locals := 69 } : Room) s m args below meth c H locs 0 0 (MQ below (gQ none gFull D cy ad base RES) args s 0 0 (gA base)) (F0 m 40 ls []) := by
  intro n
  induction n with
  | zero =>
    intro x1 μ h
    exact (gloop_0 h).elim
  | succ n ih =>
    intro x1 μ h H locs ls hM hS hl
    obtain ⟨o, h0, hc, hq⟩ := gloop_s h
    have h1 : b_X8_layLoops_40 x1 μ = some o := h0
    exact wb_X8_layLoops_40 h1 F E (fun t H locs ls ho hM hS hl => ih t.1 t.2 (hc t ho) hM hS hl) (fun t H locs ls ho hM hS hl => kx t (hq _ ho).symm hM hS hl) hM hS hl
def b_X8_layLoops_71 (x1 : Int32) (μ : gM) : Option ((Int32 × gM) ⊕ (gM)) :=
  Option.bind (f_X8_count (2 : Int32) μ) (fun q11 => if (q11 ≤ x1) then some (.inr μ) else Option.bind (f_X8_isActive x1 μ) (fun q13 => if ((b2i q13) = 0) then some (.inl ((x1 + (1 : Int32)), μ)) else Option.bind (f_X8_has (gi μ 60 28) x1 μ) (fun q15 => if ((b2i q15) = 0) then gchk (gIn (gi μ 60 29) 20) (some (.inl ((x1 + (1 : Int32)), (si (si μ 73 (gi μ 60 29).toNatClampNeg x1) 60 29 ((gi (si μ 73 (gi μ 60 29).toNatClampNeg x1) 60 29) + (1 : Int32)))))) else some (.inl ((x1 + (1 : Int32)), μ)))))
set_option maxHeartbeats 4000000 in
set_option maxRecDepth 100000 in
theorem wb_X8_layLoops_71 {p : Program} {l : Launch} {e : Env} {s : State} {m : MethodId} {args : Array Value} {below : List Frame} {meth : Method} {c : Code} {D : va_G} {cy : Nat → ClassId} {ad : Nat → Nat} {base : Nat} {x1 : Int32} {μ : gM} {o : (Int32 × gM) ⊕ (gM)} {RES : gM} (h : b_X8_layLoops_71 x1 μ = some o) (F : gF p s m meth c cX8_layLoops RX8 2 none) (E : gEnv l D cy ad base s) (kc : ∀ (t : Int32 × gM) {H : Heap} {locs : List Loc} {ls : Array Slot}, o = .inl t → gW gFull D cy ad base t.2 H → va_S (gA base) s.heap H locs → lv_has ls 2 [(0, .ref (ad 60)), (1, .int t.1)] → W p l e ({ frames := 3, cells := 0, slots := 0, locals := 69 } : Room) s m args below meth c H locs 0 0 (MQ below (gQ none gFull D cy ad base RES) args s 0 0 (gA base)) (F0 m 71 ls [])) (kx : ∀ (t : gM) {H : Heap} {locs : List Loc} {ls : Array Slot}, o = .inr t → gW gFull D cy ad base t H → va_S (gA base) s.heap H locs → lv_has ls 2 [] → W p l e ({ frames := 3, cells := 0, slots := 0, locals := 69 } : Room) s m args below meth c H locs 0 0 (MQ below (gQ none gFull D cy ad base RES) args s 0 0 (gA base)) (F0 m 128 ls []))  {H : Heap} {locs : List Loc} {ls : Array Slot} (hM : gW gFull D cy ad base μ H) (hS : va_S (gA base) s.heap H locs) (hl : lv_has ls 2 [(0, .ref (ad 60)), (1, .int x1)]) : W p l e ({ frames := 3, cells := 0, slots := 0, locals := 69 } : Room) s m args below meth c H locs 0 0 (MQ below (gQ none gFull D cy ad base RES) args s 0 0 (gA base)) (F0 m 71 ls []) := by
  obtain ⟨hx, hb, hml, hown, hlocks, hr⟩ := id F
  unfold b_X8_layLoops_71 at h
  refine lv_iload_n hx hb dX8_layLoops_71 rfl (lv_at hl 1 rfl) ?_
  refine lv_aload_n hx hb dX8_layLoops_72 rfl (lv_at hl 0 rfl) ?_
  refine lv_iconst (v := (2 : Int32)) hx hb dX8_layLoops_73 (by decide) ?_
  obtain ⟨q11, hq11, h⟩ := gbind_e h
  refine g_callV (As := [.int (2 : Int32)]) (rest := [.int x1]) hx hb (hml.trans hl.1.symm) hown E hM hS hy_X8_count kw_1498 (c_X8_count hq11) hk_60 dd_60 rfl rfl rfl (Nat.le_of_ble_eq_true rfl) ⟨Nat.le_of_ble_eq_true rfl, Nat.le_of_ble_eq_true rfl⟩ ⟨Nat.le_of_ble_eq_true rfl, Nat.le_of_ble_eq_true rfl⟩ dX8_layLoops_74 (fun H locs hM hS => ?_)
  refine lv_icmp_ge (tgt := 128) hx hb dX8_layLoops_77 (by decide) (fun c12 => ?_) (fun c12 => ?_)
  · replace h := gif_t c12 h
    exact kx _ (Option.some.inj h).symm hM hS (lv_sub hl [] rfl)
  · replace h := gif_f c12 h
    refine lv_aload_n hx hb dX8_layLoops_80 rfl (lv_at hl 0 rfl) ?_
    refine lv_iload_n hx hb dX8_layLoops_81 rfl (lv_at hl 1 rfl) ?_
    obtain ⟨q13, hq13, h⟩ := gbind_e h
    refine g_callV (As := [.int x1]) (rest := []) hx hb (hml.trans hl.1.symm) hown E hM hS hy_X8_isActive kw_1671 (c_X8_isActive hq13) hk_60 dd_60 rfl rfl rfl (Nat.le_of_ble_eq_true rfl) ⟨Nat.le_of_ble_eq_true rfl, Nat.le_of_ble_eq_true rfl⟩ ⟨Nat.le_of_ble_eq_true rfl, Nat.le_of_ble_eq_true rfl⟩ dX8_layLoops_82 (fun H locs hM hS => ?_)
    refine lv_if_eq (tgt := 122) hx hb dX8_layLoops_85 (by decide) (fun c14 => ?_) (fun c14 => ?_)
    · replace h := gif_t c14 h
      refine lv_iinc (v := (x1 + (1 : Int32))) (lv' := [(1, .int (x1 + (1 : Int32))), (0, .ref (ad 60))]) hx hb dX8_layLoops_122 hl (k := 1) rfl rfl (by decide) rfl (fun ls hl => ?_)
      refine lv_goto (tgt := 71) hx hb dX8_layLoops_125 (by decide) ?_
      exact kc _ (Option.some.inj h).symm hM hS (lv_sub hl [1, 0] rfl)
    · replace h := gif_f c14 h
      refine lv_aload_n hx hb dX8_layLoops_88 rfl (lv_at hl 0 rfl) ?_
      refine gg_60_28 hx hb hown E hM hk_60 kw_1270 dX8_layLoops_89 ?_
      refine lv_iload_n hx hb dX8_layLoops_92 rfl (lv_at hl 1 rfl) ?_
      obtain ⟨q15, hq15, h⟩ := gbind_e h
      refine g_callS (As := [.int (gi μ 60 28), .int x1]) (rest := []) hx hb (hml.trans hl.1.symm) hown E hM hS hy_X8_has kw_1485 (c_X8_has hq15) rfl rfl (Nat.le_of_ble_eq_true rfl) ⟨Nat.le_of_ble_eq_true rfl, Nat.le_of_ble_eq_true rfl⟩ ⟨Nat.le_of_ble_eq_true rfl, Nat.le_of_ble_eq_true rfl⟩ dX8_layLoops_93 (fun H locs hM hS => ?_)
      refine lv_if_eq (tgt := 102) hx hb dX8_layLoops_96 (by decide) (fun c16 => ?_) (fun c16 => ?_)
      · replace h := gif_t c16 h
        refine lv_aload_n hx hb dX8_layLoops_102 rfl (lv_at hl 0 rfl) ?_
        refine gg_60_27 hx hb hown E hM hk_60 kw_1269 dX8_layLoops_103 ?_
        refine lv_aload_n hx hb dX8_layLoops_106 rfl (lv_at hl 0 rfl) ?_
        refine gg_60_29 hx hb hown E hM hk_60 kw_1271 dX8_layLoops_107 ?_
        refine lv_iload_n hx hb dX8_layLoops_110 rfl (lv_at hl 1 rfl) ?_
        obtain ⟨c17, h⟩ := gchk_e h
        refine g_iast hx hb E hM hS hk_73 dd_73 c17 dX8_layLoops_111 (fun H locs hM hS => ?_)
        refine lv_aload_n hx hb dX8_layLoops_112 rfl (lv_at hl 0 rfl) ?_
        refine lv_dup hx hb dX8_layLoops_113 rfl ?_
        refine gg_60_29 hx hb hown E hM hk_60 kw_1271 dX8_layLoops_114 ?_
        refine lv_iconst (v := (1 : Int32)) hx hb dX8_layLoops_117 (by decide) ?_
        refine lv_iadd hx hb dX8_layLoops_118 ?_
        refine gp_60_29 hx hb hown E hM hS hk_60 kw_1271 dX8_layLoops_119 (fun H locs hM hS => ?_)
        refine lv_iinc (v := (x1 + (1 : Int32))) (lv' := [(1, .int (x1 + (1 : Int32))), (0, .ref (ad 60))]) hx hb dX8_layLoops_122 hl (k := 1) rfl rfl (by decide) rfl (fun ls hl => ?_)
        refine lv_goto (tgt := 71) hx hb dX8_layLoops_125 (by decide) ?_
        exact kc _ (Option.some.inj h).symm hM hS (lv_sub hl [1, 0] rfl)
      · replace h := gif_f c16 h
        refine lv_goto (tgt := 122) hx hb dX8_layLoops_99 (by decide) ?_
        refine lv_iinc (v := (x1 + (1 : Int32))) (lv' := [(1, .int (x1 + (1 : Int32))), (0, .ref (ad 60))]) hx hb dX8_layLoops_122 hl (k := 1) rfl rfl (by decide) rfl (fun ls hl => ?_)
        refine lv_goto (tgt := 71) hx hb dX8_layLoops_125 (by decide) ?_
        exact kc _ (Option.some.inj h).symm hM hS (lv_sub hl [1, 0] rfl)
set_option maxHeartbeats 4000000 in
theorem wl_X8_layLoops_71 {p : Program} {l : Launch} {e : Env} {s : State} {m : MethodId} {args : Array Value} {below : List Frame} {meth : Method} {c : Code} {D : va_G} {cy : Nat → ClassId} {ad : Nat → Nat} {base : Nat}  {r : gM} {RES : gM} (F : gF p s m meth c cX8_layLoops RX8 2 none) (E : gEnv l D cy ad base s) (kx : ∀ (t : gM) {H : Heap} {locs : List Loc} {ls : Array Slot}, r = t → gW gFull D cy ad base t H → va_S (gA base) s.heap H locs → lv_has ls 2 [] → W p l e ({ frames := 3, cells := 0, slots := 0, locals := 69 } : Room) s m args below meth c H locs 0 0 (MQ below (gQ none gFull D cy ad base RES) args s 0 0 (gA base)) (F0 m 128 ls []))  : ∀ (n : Nat) (x1 : Int32) (μ : gM), gloop (fun t => b_X8_layLoops_71  t.1 t.2) n (x1, μ) = some r → ∀ {H : Heap} {locs : List Loc} {ls : Array Slot}, gW gFull D cy ad base μ H → va_S (gA base) s.heap H locs → lv_has ls 2 [(0, .ref (ad 60)), (1, .int x1)] → W p l e ({ frames := 3, cells := 0, slots := 0, locals := 69 } : Room) s m args below meth c H locs 0 0 (MQ below (gQ none gFull D cy ad base RES) args s 0 0 (gA base)) (F0 m 71 ls []) := by
  intro n
  induction n with
  | zero =>
    intro x1 μ h
    exact (gloop_0 h).elim
  | succ n ih =>
    intro x1 μ h H locs ls hM hS hl
    obtain ⟨o, h0, hc, hq⟩ := gloop_s h
    have h1 : b_X8_layLoops_71 x1 μ = some o := h0
    exact wb_X8_layLoops_71 h1 F E (fun t H locs ls ho hM hS hl => ih t.1 t.2 (hc t ho) hM hS hl) (fun t H locs ls ho hM hS hl => kx t (hq _ ho).symm hM hS hl) hM hS hl
def f_X8_layLoops (μ : gM) : Option (gM) :=
  Option.bind (gloop (fun t => b_X8_layLoops_12  t.1 t.2) gFuel ((0 : Int32), (si (si μ 60 28 (0 : Int32)) 60 29 (0 : Int32)))) (fun q4 => Option.bind (gloop (fun t => b_X8_layLoops_40  t.1 t.2) gFuel ((0 : Int32), q4)) (fun q10 => Option.bind (gloop (fun t => b_X8_layLoops_71  t.1 t.2) gFuel ((0 : Int32), q10)) (fun q18 => some q18)))
set_option maxHeartbeats 4000000 in
set_option maxRecDepth 100000 in
theorem c_X8_layLoops {l : Launch} {D : va_G} {cy : Nat → ClassId} {ad : Nat → Nat} {base : Nat}  {μ : gM} {RES : gM} (h : f_X8_layLoops  μ = some RES) : Met l yX8_layLoops [.code yX8_layLoops cX8_layLoops 2 none] ({ frames := 3, cells := 0, slots := 0, locals := 69 } : Room) (va_Pc [.ref (ad 60)] (gB l gFull D cy ad base μ)) (gQ none gFull D cy ad base RES) 0 0 (gA base) := by
  refine Met.ofW (cc := cX8_layLoops) (maxL := 2) (ret := none) (by decide) rfl ?_
  intro p e s m args below meth c s₁ B hml0 hv
  obtain ⟨rfl, E, hM⟩ := hv
  have F : gF p s m meth c cX8_layLoops RX8 2 none := gF_of B hml0
  obtain ⟨hx, hb, hml, hown, hlocks, hr⟩ := id F
  have hS : va_S (gA base) s.heap s.heap [] := va_S.rf
  have hl := lv_entry ([.ref (ad 60)]) (n := 2) (Nat.le_of_ble_eq_true rfl)
  rw [lg_entry_eq]
  generalize (lg_sl ([.ref (ad 60)]) ++ List.replicate (2 - (lg_sl ([.ref (ad 60)])).length) Slot.unset).toArray = ls at hl ⊢
  have hl : lv_has ls 2 [(0, .ref (ad 60))] := hl
  unfold f_X8_layLoops at h
  refine lv_aload_n hx hb dX8_layLoops_0 rfl (lv_at hl 0 rfl) ?_
  refine lv_iconst (v := (0 : Int32)) hx hb dX8_layLoops_1 (by decide) ?_
  refine gp_60_28 hx hb hown E hM hS hk_60 kw_1270 dX8_layLoops_2 (fun H locs hM hS => ?_)
  refine lv_aload_n hx hb dX8_layLoops_5 rfl (lv_at hl 0 rfl) ?_
  refine lv_iconst (v := (0 : Int32)) hx hb dX8_layLoops_6 (by decide) ?_
  refine gp_60_29 hx hb hown E hM hS hk_60 kw_1271 dX8_layLoops_7 (fun H locs hM hS => ?_)
  refine lv_iconst (v := (0 : Int32)) hx hb dX8_layLoops_10 (by decide) ?_
  refine lv_istore_n (lv' := [(1, .int (0 : Int32)), (0, .ref (ad 60))]) hx hb dX8_layLoops_11 rfl hl (by decide) rfl (fun ls hl => ?_)
  obtain ⟨z21, h1, h⟩ := gbind_e h
  refine wl_X8_layLoops_12 F E (r := z21) (fun q4 H locs ls e1 hM hS hl => ?_) gFuel (0 : Int32) (si (si μ 60 28 (0 : Int32)) 60 29 (0 : Int32)) h1 hM hS (lv_sub hl [1, 0] rfl)
  replace e1 : z21 = q4 := e1
  rw [e1] at h
  refine lv_iconst (v := (0 : Int32)) hx hb dX8_layLoops_38 (by decide) ?_
  refine lv_istore_n (lv' := [(1, .int (0 : Int32)), (0, .ref (ad 60))]) hx hb dX8_layLoops_39 rfl hl (by decide) rfl (fun ls hl => ?_)
  obtain ⟨z20, h1, h⟩ := gbind_e h
  refine wl_X8_layLoops_40 F E (r := z20) (fun q10 H locs ls e1 hM hS hl => ?_) gFuel (0 : Int32) q4 h1 hM hS (lv_sub hl [1, 0] rfl)
  replace e1 : z20 = q10 := e1
  rw [e1] at h
  refine lv_iconst (v := (0 : Int32)) hx hb dX8_layLoops_69 (by decide) ?_
  refine lv_istore_n (lv' := [(1, .int (0 : Int32)), (0, .ref (ad 60))]) hx hb dX8_layLoops_70 rfl hl (by decide) rfl (fun ls hl => ?_)
  obtain ⟨z19, h1, h⟩ := gbind_e h
  refine wl_X8_layLoops_71 F E (r := z19) (fun q18 H locs ls e1 hM hS hl => ?_) gFuel (0 : Int32) q10 h1 hM hS (lv_sub hl [1, 0] rfl)
  replace e1 : z19 = q18 := e1
  rw [e1] at h
  obtain rfl := Option.some.inj h
  exact g_vret hx hb hr hlocks hM hS dX8_layLoops_128
def j_X8_goes_25 (x1 : Int32) (x2 : Int32) (y1 : Int32) (y2 : Int32) (μ : gM) : Option (gM) :=
  gchk (gIn y1 20) (Option.bind (f_X8_riseFrom x1 x2 (si (si μ 74 y1.toNatClampNeg y2) 60 31 ((gi (si μ 74 y1.toNatClampNeg y2) 60 31) + (1 : Int32)))) (fun q4 => Option.bind (f_X8_length x1 (si (si (si μ 74 y1.toNatClampNeg y2) 60 31 ((gi (si μ 74 y1.toNatClampNeg y2) 60 31) + (1 : Int32))) 60 32 ((gi (si (si μ 74 y1.toNatClampNeg y2) 60 31 ((gi (si μ 74 y1.toNatClampNeg y2) 60 31) + (1 : Int32))) 60 32) + q4))) (fun q5 => some (si (si (si (si μ 74 y1.toNatClampNeg y2) 60 31 ((gi (si μ 74 y1.toNatClampNeg y2) 60 31) + (1 : Int32))) 60 32 ((gi (si (si μ 74 y1.toNatClampNeg y2) 60 31 ((gi (si μ 74 y1.toNatClampNeg y2) 60 31) + (1 : Int32))) 60 32) + q4)) 60 33 ((gi (si (si (si μ 74 y1.toNatClampNeg y2) 60 31 ((gi (si μ 74 y1.toNatClampNeg y2) 60 31) + (1 : Int32))) 60 32 ((gi (si (si μ 74 y1.toNatClampNeg y2) 60 31 ((gi (si μ 74 y1.toNatClampNeg y2) 60 31) + (1 : Int32))) 60 32) + q4)) 60 33) + q5)))))
set_option maxHeartbeats 4000000 in
set_option maxRecDepth 100000 in
theorem wj_X8_goes_25 {p : Program} {l : Launch} {e : Env} {s : State} {m : MethodId} {args : Array Value} {below : List Frame} {meth : Method} {c : Code} {D : va_G} {cy : Nat → ClassId} {ad : Nat → Nat} {base : Nat} {x1 : Int32} {x2 : Int32} {y1 : Int32} {y2 : Int32} {μ : gM} {o : gM} (h : j_X8_goes_25 x1 x2 y1 y2 μ = some o) (F : gF p s m meth c cX8_goes RX8 3 none) (E : gEnv l D cy ad base s)  {H : Heap} {locs : List Loc} {ls : Array Slot} (hM : gW gFull D cy ad base μ H) (hS : va_S (gA base) s.heap H locs) (hl : lv_has ls 3 [(0, .ref (ad 60)), (1, .int x1), (2, .int x2)]) : W p l e ({ frames := 5, cells := 0, slots := 0, locals := 112 } : Room) s m args below meth c H locs 0 0 (MQ below (gQ none gFull D cy ad base o) args s 0 0 (gA base)) (F0 m 25 ls [.int y2, .int y1, .ref (ad 74)]) := by
  obtain ⟨hx, hb, hml, hown, hlocks, hr⟩ := id F
  unfold j_X8_goes_25 at h
  obtain ⟨c3, h⟩ := gchk_e h
  refine g_iast hx hb E hM hS hk_74 dd_74 c3 dX8_goes_25 (fun H locs hM hS => ?_)
  refine lv_aload_n hx hb dX8_goes_26 rfl (lv_at hl 0 rfl) ?_
  refine lv_dup hx hb dX8_goes_27 rfl ?_
  refine gg_60_31 hx hb hown E hM hk_60 kw_1273 dX8_goes_28 ?_
  refine lv_iconst (v := (1 : Int32)) hx hb dX8_goes_31 (by decide) ?_
  refine lv_iadd hx hb dX8_goes_32 ?_
  refine gp_60_31 hx hb hown E hM hS hk_60 kw_1273 dX8_goes_33 (fun H locs hM hS => ?_)
  refine lv_aload_n hx hb dX8_goes_36 rfl (lv_at hl 0 rfl) ?_
  refine lv_dup hx hb dX8_goes_37 rfl ?_
  refine gg_60_32 hx hb hown E hM hk_60 kw_1274 dX8_goes_38 ?_
  refine lv_aload_n hx hb dX8_goes_41 rfl (lv_at hl 0 rfl) ?_
  refine lv_iload_n hx hb dX8_goes_42 rfl (lv_at hl 1 rfl) ?_
  refine lv_iload_n hx hb dX8_goes_43 rfl (lv_at hl 2 rfl) ?_
  obtain ⟨q4, hq4, h⟩ := gbind_e h
  refine g_callV (As := [.int x1, .int x2]) (rest := [.int (gi (si (si μ 74 y1.toNatClampNeg y2) 60 31 ((gi (si μ 74 y1.toNatClampNeg y2) 60 31) + (1 : Int32))) 60 32), .ref (ad 60)]) hx hb (hml.trans hl.1.symm) hown E hM hS hy_X8_riseFrom kw_1659 (c_X8_riseFrom hq4) hk_60 dd_60 rfl rfl rfl (Nat.le_of_ble_eq_true rfl) ⟨Nat.le_of_ble_eq_true rfl, Nat.le_of_ble_eq_true rfl⟩ ⟨Nat.le_of_ble_eq_true rfl, Nat.le_of_ble_eq_true rfl⟩ dX8_goes_44 (fun H locs hM hS => ?_)
  refine lv_iadd hx hb dX8_goes_47 ?_
  refine gp_60_32 hx hb hown E hM hS hk_60 kw_1274 dX8_goes_48 (fun H locs hM hS => ?_)
  refine lv_aload_n hx hb dX8_goes_51 rfl (lv_at hl 0 rfl) ?_
  refine lv_dup hx hb dX8_goes_52 rfl ?_
  refine gg_60_33 hx hb hown E hM hk_60 kw_1275 dX8_goes_53 ?_
  refine lv_aload_n hx hb dX8_goes_56 rfl (lv_at hl 0 rfl) ?_
  refine lv_iload_n hx hb dX8_goes_57 rfl (lv_at hl 1 rfl) ?_
  obtain ⟨q5, hq5, h⟩ := gbind_e h
  refine g_callV (As := [.int x1]) (rest := [.int (gi (si (si (si μ 74 y1.toNatClampNeg y2) 60 31 ((gi (si μ 74 y1.toNatClampNeg y2) 60 31) + (1 : Int32))) 60 32 ((gi (si (si μ 74 y1.toNatClampNeg y2) 60 31 ((gi (si μ 74 y1.toNatClampNeg y2) 60 31) + (1 : Int32))) 60 32) + q4)) 60 33), .ref (ad 60)]) hx hb (hml.trans hl.1.symm) hown E hM hS hy_X8_length kw_1587 (c_X8_length hq5) hk_60 dd_60 rfl rfl rfl (Nat.le_of_ble_eq_true rfl) ⟨Nat.le_of_ble_eq_true rfl, Nat.le_of_ble_eq_true rfl⟩ ⟨Nat.le_of_ble_eq_true rfl, Nat.le_of_ble_eq_true rfl⟩ dX8_goes_58 (fun H locs hM hS => ?_)
  refine lv_iadd hx hb dX8_goes_61 ?_
  refine gp_60_33 hx hb hown E hM hS hk_60 kw_1275 dX8_goes_62 (fun H locs hM hS => ?_)
  obtain rfl := Option.some.inj h
  exact g_vret hx hb hr hlocks hM hS dX8_goes_65
def f_X8_goes (p1 : Int32) (p2 : Int32) (μ : gM) : Option (gM) :=
  Option.bind (f_X8_first p1 μ) (fun q1 => if (q1 = p2) then j_X8_goes_25 p1 p2 (gi μ 60 31) p1 μ else j_X8_goes_25 p1 p2 (gi μ 60 31) ((100 : Int32) + p1) μ)
set_option maxHeartbeats 4000000 in
set_option maxRecDepth 100000 in
theorem c_X8_goes {l : Launch} {D : va_G} {cy : Nat → ClassId} {ad : Nat → Nat} {base : Nat} {p1 : Int32} {p2 : Int32} {μ : gM} {RES : gM} (h : f_X8_goes p1 p2 μ = some RES) : Met l yX8_goes [.code yX8_goes cX8_goes 3 none] ({ frames := 5, cells := 0, slots := 0, locals := 112 } : Room) (va_Pc [.ref (ad 60), .int p1, .int p2] (gB l gFull D cy ad base μ)) (gQ none gFull D cy ad base RES) 0 0 (gA base) := by
  refine Met.ofW (cc := cX8_goes) (maxL := 3) (ret := none) (by decide) rfl ?_
  intro p e s m args below meth c s₁ B hml0 hv
  obtain ⟨rfl, E, hM⟩ := hv
  have F : gF p s m meth c cX8_goes RX8 3 none := gF_of B hml0
  obtain ⟨hx, hb, hml, hown, hlocks, hr⟩ := id F
  have hS : va_S (gA base) s.heap s.heap [] := va_S.rf
  have hl := lv_entry ([.ref (ad 60), .int p1, .int p2]) (n := 3) (Nat.le_of_ble_eq_true rfl)
  rw [lg_entry_eq]
  generalize (lg_sl ([.ref (ad 60), .int p1, .int p2]) ++ List.replicate (3 - (lg_sl ([.ref (ad 60), .int p1, .int p2])).length) Slot.unset).toArray = ls at hl ⊢
  have hl : lv_has ls 3 [(0, .ref (ad 60)), (1, .int p1), (2, .int p2)] := hl
  unfold f_X8_goes at h
  refine lv_aload_n hx hb dX8_goes_0 rfl (lv_at hl 0 rfl) ?_
  refine gg_60_30 hx hb hown E hM hk_60 kw_1272 dX8_goes_1 ?_
  refine lv_aload_n hx hb dX8_goes_4 rfl (lv_at hl 0 rfl) ?_
  refine gg_60_31 hx hb hown E hM hk_60 kw_1273 dX8_goes_5 ?_
  refine lv_aload_n hx hb dX8_goes_8 rfl (lv_at hl 0 rfl) ?_
  refine lv_iload_n hx hb dX8_goes_9 rfl (lv_at hl 1 rfl) ?_
  obtain ⟨q1, hq1, h⟩ := gbind_e h
  refine g_callV (As := [.int p1]) (rest := [.int (gi μ 60 31), .ref (ad 74)]) hx hb (hml.trans hl.1.symm) hown E hM hS hy_X8_first kw_1575 (c_X8_first hq1) hk_60 dd_60 rfl rfl rfl (Nat.le_of_ble_eq_true rfl) ⟨Nat.le_of_ble_eq_true rfl, Nat.le_of_ble_eq_true rfl⟩ ⟨Nat.le_of_ble_eq_true rfl, Nat.le_of_ble_eq_true rfl⟩ dX8_goes_10 (fun H locs hM hS => ?_)
  refine lv_iload_n hx hb dX8_goes_13 rfl (lv_at hl 2 rfl) ?_
  refine lv_icmp_ne (tgt := 21) hx hb dX8_goes_14 (by decide) (fun c2 => ?_) (fun c2 => ?_)
  · replace h := gif_f c2 h
    refine lv_bipush (v := (100 : Int32)) hx hb dX8_goes_21 (by decide) ?_
    refine lv_iload_n hx hb dX8_goes_23 rfl (lv_at hl 1 rfl) ?_
    refine lv_iadd hx hb dX8_goes_24 ?_
    exact wj_X8_goes_25 h F E hM hS hl
  · replace h := gif_t c2 h
    refine lv_iload_n hx hb dX8_goes_17 rfl (lv_at hl 1 rfl) ?_
    refine lv_goto (tgt := 25) hx hb dX8_goes_18 (by decide) ?_
    exact wj_X8_goes_25 h F E hM hS hl
def b_X8_layLoop_48 (x3 : Int32) (x4 : Int32) (x5 : Int32) (μ : gM) : Option ((Int32 × Int32 × Int32 × gM) ⊕ (Int32 × Int32 × gM)) :=
  if (x3 = x4) then some (.inr (x3, x5, μ)) else gchk (gIn x3 16) (gchk (gIn x4 16) (if ((gi μ 72 x3.toNatClampNeg) < (gi μ 72 x4.toNatClampNeg)) then gchk (gIn x4 16) (gchk (gIn x5 20) (gchk (gIn x4 16) (Option.bind (f_X8_otherOf (gi (si μ 75 x5.toNatClampNeg (gi μ 71 x4.toNatClampNeg)) 71 x4.toNatClampNeg) x4 (si μ 75 x5.toNatClampNeg (gi μ 71 x4.toNatClampNeg))) (fun q13 => some (.inl (x3, q13, (x5 + (1 : Int32)), (si μ 75 x5.toNatClampNeg (gi μ 71 x4.toNatClampNeg)))))))) else gchk (gIn x3 16) (Option.bind (f_X8_goes (gi μ 71 x3.toNatClampNeg) x3 μ) (fun q15 => Option.bind (f_X8_otherOf (gi μ 71 x3.toNatClampNeg) x3 q15) (fun q16 => some (.inl (q16, x4, x5, q15)))))))
set_option maxHeartbeats 4000000 in
set_option maxRecDepth 100000 in
theorem wb_X8_layLoop_48 {p : Program} {l : Launch} {e : Env} {s : State} {m : MethodId} {args : Array Value} {below : List Frame} {meth : Method} {c : Code} {D : va_G} {cy : Nat → ClassId} {ad : Nat → Nat} {base : Nat} {x3 : Int32} {x4 : Int32} {x5 : Int32} {μ : gM} {o : (Int32 × Int32 × Int32 × gM) ⊕ (Int32 × Int32 × gM)} {RES : gM} (h : b_X8_layLoop_48 x3 x4 x5 μ = some o) (F : gF p s m meth c cX8_layLoop RX8 7 none) (E : gEnv l D cy ad base s) (kc : ∀ (t : Int32 × Int32 × Int32 × gM) {H : Heap} {locs : List Loc} {ls : Array Slot}, o = .inl t → gW gFull D cy ad base t.2.2.2 H → va_S (gA base) s.heap H locs → lv_has ls 7 [(0, .ref (ad 60)), (3, .int t.1), (4, .int t.2.1), (5, .int t.2.2.1)] → W p l e ({ frames := 6, cells := 0, slots := 0, locals := 134 } : Room) s m args below meth c H locs 0 0 (MQ below (gQ none gFull D cy ad base RES) args s 0 0 (gA base)) (F0 m 48 ls [])) (kx : ∀ (t : Int32 × Int32 × gM) {H : Heap} {locs : List Loc} {ls : Array Slot}, o = .inr t → gW gFull D cy ad base t.2.2 H → va_S (gA base) s.heap H locs → lv_has ls 7 [(0, .ref (ad 60)), (3, .int t.1), (5, .int t.2.1)] → W p l e ({ frames := 6, cells := 0, slots := 0, locals := 134 } : Room) s m args below meth c H locs 0 0 (MQ below (gQ none gFull D cy ad base RES) args s 0 0 (gA base)) (F0 m 131 ls []))  {H : Heap} {locs : List Loc} {ls : Array Slot} (hM : gW gFull D cy ad base μ H) (hS : va_S (gA base) s.heap H locs) (hl : lv_has ls 7 [(0, .ref (ad 60)), (3, .int x3), (4, .int x4), (5, .int x5)]) : W p l e ({ frames := 6, cells := 0, slots := 0, locals := 134 } : Room) s m args below meth c H locs 0 0 (MQ below (gQ none gFull D cy ad base RES) args s 0 0 (gA base)) (F0 m 48 ls []) := by
  obtain ⟨hx, hb, hml, hown, hlocks, hr⟩ := id F
  unfold b_X8_layLoop_48 at h
  refine lv_iload_n hx hb dX8_layLoop_48 rfl (lv_at hl 1 rfl) ?_
  refine lv_iload hx hb dX8_layLoop_49 (lv_at hl 2 rfl) ?_
  refine lv_icmp_eq (tgt := 131) hx hb dX8_layLoop_51 (by decide) (fun c6 => ?_) (fun c6 => ?_)
  · replace h := gif_t c6 h
    exact kx _ (Option.some.inj h).symm hM hS (lv_sub hl [0, 1, 3] rfl)
  · replace h := gif_f c6 h
    refine lv_aload_n hx hb dX8_layLoop_54 rfl (lv_at hl 0 rfl) ?_
    refine gg_60_26 hx hb hown E hM hk_60 kw_1268 dX8_layLoop_55 ?_
    refine lv_iload_n hx hb dX8_layLoop_58 rfl (lv_at hl 1 rfl) ?_
    obtain ⟨c7, h⟩ := gchk_e h
    refine g_iald hx hb E hM hk_72 dd_72 c7 dX8_layLoop_59 ?_
    refine lv_aload_n hx hb dX8_layLoop_60 rfl (lv_at hl 0 rfl) ?_
    refine gg_60_26 hx hb hown E hM hk_60 kw_1268 dX8_layLoop_61 ?_
    refine lv_iload hx hb dX8_layLoop_64 (lv_at hl 2 rfl) ?_
    obtain ⟨c8, h⟩ := gchk_e h
    refine g_iald hx hb E hM hk_72 dd_72 c8 dX8_layLoop_66 ?_
    refine lv_icmp_lt (tgt := 96) hx hb dX8_layLoop_67 (by decide) (fun c9 => ?_) (fun c9 => ?_)
    · replace h := gif_t c9 h
      refine lv_aload_n hx hb dX8_layLoop_96 rfl (lv_at hl 0 rfl) ?_
      refine gg_60_34 hx hb hown E hM hk_60 kw_1276 dX8_layLoop_97 ?_
      refine lv_iload hx hb dX8_layLoop_100 (lv_at hl 3 rfl) ?_
      refine lv_aload_n hx hb dX8_layLoop_102 rfl (lv_at hl 0 rfl) ?_
      refine gg_60_25 hx hb hown E hM hk_60 kw_1267 dX8_layLoop_103 ?_
      refine lv_iload hx hb dX8_layLoop_106 (lv_at hl 2 rfl) ?_
      obtain ⟨c10, h⟩ := gchk_e h
      refine g_iald hx hb E hM hk_71 dd_71 c10 dX8_layLoop_108 ?_
      obtain ⟨c11, h⟩ := gchk_e h
      refine g_iast hx hb E hM hS hk_75 dd_75 c11 dX8_layLoop_109 (fun H locs hM hS => ?_)
      refine lv_iinc (v := (x5 + (1 : Int32))) (lv' := [(5, .int (x5 + (1 : Int32))), (0, .ref (ad 60)), (3, .int x3), (4, .int x4)]) hx hb dX8_layLoop_110 hl (k := 3) rfl rfl (by decide) rfl (fun ls hl => ?_)
      refine lv_aload_n hx hb dX8_layLoop_113 rfl (lv_at hl 1 rfl) ?_
      refine lv_aload_n hx hb dX8_layLoop_114 rfl (lv_at hl 1 rfl) ?_
      refine gg_60_25 hx hb hown E hM hk_60 kw_1267 dX8_layLoop_115 ?_
      refine lv_iload hx hb dX8_layLoop_118 (lv_at hl 3 rfl) ?_
      obtain ⟨c12, h⟩ := gchk_e h
      refine g_iald hx hb E hM hk_71 dd_71 c12 dX8_layLoop_120 ?_
      refine lv_iload hx hb dX8_layLoop_121 (lv_at hl 3 rfl) ?_
      obtain ⟨q13, hq13, h⟩ := gbind_e h
      refine g_callV (As := [.int (gi (si μ 75 x5.toNatClampNeg (gi μ 71 x4.toNatClampNeg)) 71 x4.toNatClampNeg), .int x4]) (rest := []) hx hb (hml.trans hl.1.symm) hown E hM hS hy_X8_otherOf kw_1722 (c_X8_otherOf hq13) hk_60 dd_60 rfl rfl rfl (Nat.le_of_ble_eq_true rfl) ⟨Nat.le_of_ble_eq_true rfl, Nat.le_of_ble_eq_true rfl⟩ ⟨Nat.le_of_ble_eq_true rfl, Nat.le_of_ble_eq_true rfl⟩ dX8_layLoop_123 (fun H locs hM hS => ?_)
      refine lv_istore (lv' := [(4, .int q13), (5, .int (x5 + (1 : Int32))), (0, .ref (ad 60)), (3, .int x3)]) hx hb dX8_layLoop_126 hl (by decide) rfl (fun ls hl => ?_)
      refine lv_goto (tgt := 48) hx hb dX8_layLoop_128 (by decide) ?_
      exact kc _ (Option.some.inj h).symm hM hS (lv_sub hl [2, 3, 0, 1] rfl)
    · replace h := gif_f c9 h
      refine lv_aload_n hx hb dX8_layLoop_70 rfl (lv_at hl 0 rfl) ?_
      refine gg_60_25 hx hb hown E hM hk_60 kw_1267 dX8_layLoop_71 ?_
      refine lv_iload_n hx hb dX8_layLoop_74 rfl (lv_at hl 1 rfl) ?_
      obtain ⟨c14, h⟩ := gchk_e h
      refine g_iald hx hb E hM hk_71 dd_71 c14 dX8_layLoop_75 ?_
      refine lv_istore (lv' := [(6, .int (gi μ 71 x3.toNatClampNeg)), (0, .ref (ad 60)), (3, .int x3), (4, .int x4), (5, .int x5)]) hx hb dX8_layLoop_76 hl (by decide) rfl (fun ls hl => ?_)
      refine lv_aload_n hx hb dX8_layLoop_78 rfl (lv_at hl 1 rfl) ?_
      refine lv_iload hx hb dX8_layLoop_79 (lv_at hl 0 rfl) ?_
      refine lv_iload_n hx hb dX8_layLoop_81 rfl (lv_at hl 2 rfl) ?_
      obtain ⟨q15, hq15, h⟩ := gbind_e h
      refine g_callV (As := [.int (gi μ 71 x3.toNatClampNeg), .int x3]) (rest := []) hx hb (hml.trans hl.1.symm) hown E hM hS hy_X8_goes kw_1766 (c_X8_goes hq15) hk_60 dd_60 rfl rfl rfl (Nat.le_of_ble_eq_true rfl) ⟨Nat.le_of_ble_eq_true rfl, Nat.le_of_ble_eq_true rfl⟩ ⟨Nat.le_of_ble_eq_true rfl, Nat.le_of_ble_eq_true rfl⟩ dX8_layLoop_82 (fun H locs hM hS => ?_)
      refine lv_aload_n hx hb dX8_layLoop_85 rfl (lv_at hl 1 rfl) ?_
      refine lv_iload hx hb dX8_layLoop_86 (lv_at hl 0 rfl) ?_
      refine lv_iload_n hx hb dX8_layLoop_88 rfl (lv_at hl 2 rfl) ?_
      obtain ⟨q16, hq16, h⟩ := gbind_e h
      refine g_callV (As := [.int (gi μ 71 x3.toNatClampNeg), .int x3]) (rest := []) hx hb (hml.trans hl.1.symm) hown E hM hS hy_X8_otherOf kw_1722 (c_X8_otherOf hq16) hk_60 dd_60 rfl rfl rfl (Nat.le_of_ble_eq_true rfl) ⟨Nat.le_of_ble_eq_true rfl, Nat.le_of_ble_eq_true rfl⟩ ⟨Nat.le_of_ble_eq_true rfl, Nat.le_of_ble_eq_true rfl⟩ dX8_layLoop_89 (fun H locs hM hS => ?_)
      refine lv_istore_n (lv' := [(3, .int q16), (6, .int (gi μ 71 x3.toNatClampNeg)), (0, .ref (ad 60)), (4, .int x4), (5, .int x5)]) hx hb dX8_layLoop_92 rfl hl (by decide) rfl (fun ls hl => ?_)
      refine lv_goto (tgt := 48) hx hb dX8_layLoop_93 (by decide) ?_
      exact kc _ (Option.some.inj h).symm hM hS (lv_sub hl [2, 0, 3, 4] rfl)
set_option maxHeartbeats 4000000 in
theorem wl_X8_layLoop_48 {p : Program} {l : Launch} {e : Env} {s : State} {m : MethodId} {args : Array Value} {below : List Frame} {meth : Method} {c : Code} {D : va_G} {cy : Nat → ClassId} {ad : Nat → Nat} {base : Nat}  {r : Int32 × Int32 × gM} {RES : gM} (F : gF p s m meth c cX8_layLoop RX8 7 none) (E : gEnv l D cy ad base s) (kx : ∀ (t : Int32 × Int32 × gM) {H : Heap} {locs : List Loc} {ls : Array Slot}, r = t → gW gFull D cy ad base t.2.2 H → va_S (gA base) s.heap H locs → lv_has ls 7 [(0, .ref (ad 60)), (3, .int t.1), (5, .int t.2.1)] → W p l e ({ frames := 6, cells := 0, slots := 0, locals := 134 } : Room) s m args below meth c H locs 0 0 (MQ below (gQ none gFull D cy ad base RES) args s 0 0 (gA base)) (F0 m 131 ls []))  : ∀ (n : Nat) (x3 : Int32) (x4 : Int32) (x5 : Int32) (μ : gM), gloop (fun t => b_X8_layLoop_48  t.1 t.2.1 t.2.2.1 t.2.2.2) n (x3, x4, x5, μ) = some r → ∀ {H : Heap} {locs : List Loc} {ls : Array Slot}, gW gFull D cy ad base μ H → va_S (gA base) s.heap H locs → lv_has ls 7 [(0, .ref (ad 60)), (3, .int x3), (4, .int x4), (5, .int x5)] → W p l e ({ frames := 6, cells := 0, slots := 0, locals := 134 } : Room) s m args below meth c H locs 0 0 (MQ below (gQ none gFull D cy ad base RES) args s 0 0 (gA base)) (F0 m 48 ls []) := by
  intro n
  induction n with
  | zero =>
    intro x3 x4 x5 μ h
    exact (gloop_0 h).elim
  | succ n ih =>
    intro x3 x4 x5 μ h H locs ls hM hS hl
    obtain ⟨o, h0, hc, hq⟩ := gloop_s h
    have h1 : b_X8_layLoop_48 x3 x4 x5 μ = some o := h0
    exact wb_X8_layLoop_48 h1 F E (fun t H locs ls ho hM hS hl => ih t.1 t.2.1 t.2.2.1 t.2.2.2 (hc t ho) hM hS hl) (fun t H locs ls ho hM hS hl => kx t (hq _ ho).symm hM hS hl) hM hS hl
def b_X8_layLoop_137 (x3 : Int32) (x6 : Int32) (μ : gM) : Option ((Int32 × Int32 × gM) ⊕ (gM)) :=
  if (x6 < 0) then some (.inr μ) else gchk (gIn x6 20) (Option.bind (f_X8_goes (gi μ 75 x6.toNatClampNeg) x3 μ) (fun q20 => gchk (gIn x6 20) (Option.bind (f_X8_otherOf (gi q20 75 x6.toNatClampNeg) x3 q20) (fun q22 => some (.inl (q22, (x6 + (-1 : Int32)), q20))))))
set_option maxHeartbeats 4000000 in
set_option maxRecDepth 100000 in
theorem wb_X8_layLoop_137 {p : Program} {l : Launch} {e : Env} {s : State} {m : MethodId} {args : Array Value} {below : List Frame} {meth : Method} {c : Code} {D : va_G} {cy : Nat → ClassId} {ad : Nat → Nat} {base : Nat} {x3 : Int32} {x6 : Int32} {μ : gM} {o : (Int32 × Int32 × gM) ⊕ (gM)} {RES : gM} (h : b_X8_layLoop_137 x3 x6 μ = some o) (F : gF p s m meth c cX8_layLoop RX8 7 none) (E : gEnv l D cy ad base s) (kc : ∀ (t : Int32 × Int32 × gM) {H : Heap} {locs : List Loc} {ls : Array Slot}, o = .inl t → gW gFull D cy ad base t.2.2 H → va_S (gA base) s.heap H locs → lv_has ls 7 [(0, .ref (ad 60)), (3, .int t.1), (6, .int t.2.1)] → W p l e ({ frames := 6, cells := 0, slots := 0, locals := 134 } : Room) s m args below meth c H locs 0 0 (MQ below (gQ none gFull D cy ad base RES) args s 0 0 (gA base)) (F0 m 137 ls [])) (kx : ∀ (t : gM) {H : Heap} {locs : List Loc} {ls : Array Slot}, o = .inr t → gW gFull D cy ad base t H → va_S (gA base) s.heap H locs → lv_has ls 7 [] → W p l e ({ frames := 6, cells := 0, slots := 0, locals := 134 } : Room) s m args below meth c H locs 0 0 (MQ below (gQ none gFull D cy ad base RES) args s 0 0 (gA base)) (F0 m 173 ls []))  {H : Heap} {locs : List Loc} {ls : Array Slot} (hM : gW gFull D cy ad base μ H) (hS : va_S (gA base) s.heap H locs) (hl : lv_has ls 7 [(0, .ref (ad 60)), (3, .int x3), (6, .int x6)]) : W p l e ({ frames := 6, cells := 0, slots := 0, locals := 134 } : Room) s m args below meth c H locs 0 0 (MQ below (gQ none gFull D cy ad base RES) args s 0 0 (gA base)) (F0 m 137 ls []) := by
  obtain ⟨hx, hb, hml, hown, hlocks, hr⟩ := id F
  unfold b_X8_layLoop_137 at h
  refine lv_iload hx hb dX8_layLoop_137 (lv_at hl 2 rfl) ?_
  refine lv_if_lt (tgt := 173) hx hb dX8_layLoop_139 (by decide) (fun c18 => ?_) (fun c18 => ?_)
  · replace h := gif_t c18 h
    exact kx _ (Option.some.inj h).symm hM hS (lv_sub hl [] rfl)
  · replace h := gif_f c18 h
    refine lv_aload_n hx hb dX8_layLoop_142 rfl (lv_at hl 0 rfl) ?_
    refine lv_aload_n hx hb dX8_layLoop_143 rfl (lv_at hl 0 rfl) ?_
    refine gg_60_34 hx hb hown E hM hk_60 kw_1276 dX8_layLoop_144 ?_
    refine lv_iload hx hb dX8_layLoop_147 (lv_at hl 2 rfl) ?_
    obtain ⟨c19, h⟩ := gchk_e h
    refine g_iald hx hb E hM hk_75 dd_75 c19 dX8_layLoop_149 ?_
    refine lv_iload_n hx hb dX8_layLoop_150 rfl (lv_at hl 1 rfl) ?_
    obtain ⟨q20, hq20, h⟩ := gbind_e h
    refine g_callV (As := [.int (gi μ 75 x6.toNatClampNeg), .int x3]) (rest := []) hx hb (hml.trans hl.1.symm) hown E hM hS hy_X8_goes kw_1766 (c_X8_goes hq20) hk_60 dd_60 rfl rfl rfl (Nat.le_of_ble_eq_true rfl) ⟨Nat.le_of_ble_eq_true rfl, Nat.le_of_ble_eq_true rfl⟩ ⟨Nat.le_of_ble_eq_true rfl, Nat.le_of_ble_eq_true rfl⟩ dX8_layLoop_151 (fun H locs hM hS => ?_)
    refine lv_aload_n hx hb dX8_layLoop_154 rfl (lv_at hl 0 rfl) ?_
    refine lv_aload_n hx hb dX8_layLoop_155 rfl (lv_at hl 0 rfl) ?_
    refine gg_60_34 hx hb hown E hM hk_60 kw_1276 dX8_layLoop_156 ?_
    refine lv_iload hx hb dX8_layLoop_159 (lv_at hl 2 rfl) ?_
    obtain ⟨c21, h⟩ := gchk_e h
    refine g_iald hx hb E hM hk_75 dd_75 c21 dX8_layLoop_161 ?_
    refine lv_iload_n hx hb dX8_layLoop_162 rfl (lv_at hl 1 rfl) ?_
    obtain ⟨q22, hq22, h⟩ := gbind_e h
    refine g_callV (As := [.int (gi q20 75 x6.toNatClampNeg), .int x3]) (rest := []) hx hb (hml.trans hl.1.symm) hown E hM hS hy_X8_otherOf kw_1722 (c_X8_otherOf hq22) hk_60 dd_60 rfl rfl rfl (Nat.le_of_ble_eq_true rfl) ⟨Nat.le_of_ble_eq_true rfl, Nat.le_of_ble_eq_true rfl⟩ ⟨Nat.le_of_ble_eq_true rfl, Nat.le_of_ble_eq_true rfl⟩ dX8_layLoop_163 (fun H locs hM hS => ?_)
    refine lv_istore_n (lv' := [(3, .int q22), (0, .ref (ad 60)), (6, .int x6)]) hx hb dX8_layLoop_166 rfl hl (by decide) rfl (fun ls hl => ?_)
    refine lv_iinc (v := (x6 + (-1 : Int32))) (lv' := [(6, .int (x6 + (-1 : Int32))), (3, .int q22), (0, .ref (ad 60))]) hx hb dX8_layLoop_167 hl (k := 2) rfl rfl (by decide) rfl (fun ls hl => ?_)
    refine lv_goto (tgt := 137) hx hb dX8_layLoop_170 (by decide) ?_
    exact kc _ (Option.some.inj h).symm hM hS (lv_sub hl [2, 1, 0] rfl)
set_option maxHeartbeats 4000000 in
theorem wl_X8_layLoop_137 {p : Program} {l : Launch} {e : Env} {s : State} {m : MethodId} {args : Array Value} {below : List Frame} {meth : Method} {c : Code} {D : va_G} {cy : Nat → ClassId} {ad : Nat → Nat} {base : Nat}  {r : gM} {RES : gM} (F : gF p s m meth c cX8_layLoop RX8 7 none) (E : gEnv l D cy ad base s) (kx : ∀ (t : gM) {H : Heap} {locs : List Loc} {ls : Array Slot}, r = t → gW gFull D cy ad base t H → va_S (gA base) s.heap H locs → lv_has ls 7 [] → W p l e ({ frames := 6, cells := 0, slots := 0, locals := 134 } : Room) s m args below meth c H locs 0 0 (MQ below (gQ none gFull D cy ad base RES) args s 0 0 (gA base)) (F0 m 173 ls []))  : ∀ (n : Nat) (x3 : Int32) (x6 : Int32) (μ : gM), gloop (fun t => b_X8_layLoop_137  t.1 t.2.1 t.2.2) n (x3, x6, μ) = some r → ∀ {H : Heap} {locs : List Loc} {ls : Array Slot}, gW gFull D cy ad base μ H → va_S (gA base) s.heap H locs → lv_has ls 7 [(0, .ref (ad 60)), (3, .int x3), (6, .int x6)] → W p l e ({ frames := 6, cells := 0, slots := 0, locals := 134 } : Room) s m args below meth c H locs 0 0 (MQ below (gQ none gFull D cy ad base RES) args s 0 0 (gA base)) (F0 m 137 ls []) := by
  intro n
  induction n with
  | zero =>
    intro x3 x6 μ h
    exact (gloop_0 h).elim
  | succ n ih =>
    intro x3 x6 μ h H locs ls hM hS hl
    obtain ⟨o, h0, hc, hq⟩ := gloop_s h
    have h1 : b_X8_layLoop_137 x3 x6 μ = some o := h0
    exact wb_X8_layLoop_137 h1 F E (fun t H locs ls ho hM hS hl => ih t.1 t.2.1 t.2.2 (hc t ho) hM hS hl) (fun t H locs ls ho hM hS hl => kx t (hq _ ho).symm hM hS hl) hM hS hl
def f_X8_layLoop (p1 : Int32) (μ : gM) : Option (gM) :=
  gchk (gIn p1 20) (Option.bind (f_X8_first (gi μ 73 p1.toNatClampNeg) (si (si (si μ 60 31 (0 : Int32)) 60 32 (0 : Int32)) 60 33 (0 : Int32))) (fun q2 => Option.bind (f_X8_goes (gi μ 73 p1.toNatClampNeg) q2 (si (si (si μ 60 31 (0 : Int32)) 60 32 (0 : Int32)) 60 33 (0 : Int32))) (fun q3 => Option.bind (f_X8_second (gi μ 73 p1.toNatClampNeg) q3) (fun q4 => Option.bind (f_X8_first (gi μ 73 p1.toNatClampNeg) q3) (fun q5 => Option.bind (gloop (fun t => b_X8_layLoop_48  t.1 t.2.1 t.2.2.1 t.2.2.2) gFuel (q4, q5, (0 : Int32), q3)) (fun q17 => Option.bind (gloop (fun t => b_X8_layLoop_137  t.1 t.2.1 t.2.2) gFuel (q17.1, (q17.2.1 - (1 : Int32)), q17.2.2)) (fun q23 => some q23)))))))
set_option maxHeartbeats 4000000 in
set_option maxRecDepth 100000 in
theorem c_X8_layLoop {l : Launch} {D : va_G} {cy : Nat → ClassId} {ad : Nat → Nat} {base : Nat} {p1 : Int32} {μ : gM} {RES : gM} (h : f_X8_layLoop p1 μ = some RES) : Met l yX8_layLoop [.code yX8_layLoop cX8_layLoop 7 none] ({ frames := 6, cells := 0, slots := 0, locals := 134 } : Room) (va_Pc [.ref (ad 60), .int p1] (gB l gFull D cy ad base μ)) (gQ none gFull D cy ad base RES) 0 0 (gA base) := by
  refine Met.ofW (cc := cX8_layLoop) (maxL := 7) (ret := none) (by decide) rfl ?_
  intro p e s m args below meth c s₁ B hml0 hv
  obtain ⟨rfl, E, hM⟩ := hv
  have F : gF p s m meth c cX8_layLoop RX8 7 none := gF_of B hml0
  obtain ⟨hx, hb, hml, hown, hlocks, hr⟩ := id F
  have hS : va_S (gA base) s.heap s.heap [] := va_S.rf
  have hl := lv_entry ([.ref (ad 60), .int p1]) (n := 7) (Nat.le_of_ble_eq_true rfl)
  rw [lg_entry_eq]
  generalize (lg_sl ([.ref (ad 60), .int p1]) ++ List.replicate (7 - (lg_sl ([.ref (ad 60), .int p1])).length) Slot.unset).toArray = ls at hl ⊢
  have hl : lv_has ls 7 [(0, .ref (ad 60)), (1, .int p1)] := hl
  unfold f_X8_layLoop at h
  refine lv_aload_n hx hb dX8_layLoop_0 rfl (lv_at hl 0 rfl) ?_
  refine gg_60_27 hx hb hown E hM hk_60 kw_1269 dX8_layLoop_1 ?_
  refine lv_iload_n hx hb dX8_layLoop_4 rfl (lv_at hl 1 rfl) ?_
  obtain ⟨c1, h⟩ := gchk_e h
  refine g_iald hx hb E hM hk_73 dd_73 c1 dX8_layLoop_5 ?_
  refine lv_istore_n (lv' := [(2, .int (gi μ 73 p1.toNatClampNeg)), (0, .ref (ad 60)), (1, .int p1)]) hx hb dX8_layLoop_6 rfl hl (by decide) rfl (fun ls hl => ?_)
  refine lv_aload_n hx hb dX8_layLoop_7 rfl (lv_at hl 1 rfl) ?_
  refine lv_iconst (v := (0 : Int32)) hx hb dX8_layLoop_8 (by decide) ?_
  refine gp_60_31 hx hb hown E hM hS hk_60 kw_1273 dX8_layLoop_9 (fun H locs hM hS => ?_)
  refine lv_aload_n hx hb dX8_layLoop_12 rfl (lv_at hl 1 rfl) ?_
  refine lv_iconst (v := (0 : Int32)) hx hb dX8_layLoop_13 (by decide) ?_
  refine gp_60_32 hx hb hown E hM hS hk_60 kw_1274 dX8_layLoop_14 (fun H locs hM hS => ?_)
  refine lv_aload_n hx hb dX8_layLoop_17 rfl (lv_at hl 1 rfl) ?_
  refine lv_iconst (v := (0 : Int32)) hx hb dX8_layLoop_18 (by decide) ?_
  refine gp_60_33 hx hb hown E hM hS hk_60 kw_1275 dX8_layLoop_19 (fun H locs hM hS => ?_)
  refine lv_aload_n hx hb dX8_layLoop_22 rfl (lv_at hl 1 rfl) ?_
  refine lv_iload_n hx hb dX8_layLoop_23 rfl (lv_at hl 0 rfl) ?_
  refine lv_aload_n hx hb dX8_layLoop_24 rfl (lv_at hl 1 rfl) ?_
  refine lv_iload_n hx hb dX8_layLoop_25 rfl (lv_at hl 0 rfl) ?_
  obtain ⟨q2, hq2, h⟩ := gbind_e h
  refine g_callV (As := [.int (gi μ 73 p1.toNatClampNeg)]) (rest := [.int (gi μ 73 p1.toNatClampNeg), .ref (ad 60)]) hx hb (hml.trans hl.1.symm) hown E hM hS hy_X8_first kw_1575 (c_X8_first hq2) hk_60 dd_60 rfl rfl rfl (Nat.le_of_ble_eq_true rfl) ⟨Nat.le_of_ble_eq_true rfl, Nat.le_of_ble_eq_true rfl⟩ ⟨Nat.le_of_ble_eq_true rfl, Nat.le_of_ble_eq_true rfl⟩ dX8_layLoop_26 (fun H locs hM hS => ?_)
  obtain ⟨q3, hq3, h⟩ := gbind_e h
  refine g_callV (As := [.int (gi μ 73 p1.toNatClampNeg), .int q2]) (rest := []) hx hb (hml.trans hl.1.symm) hown E hM hS hy_X8_goes kw_1766 (c_X8_goes hq3) hk_60 dd_60 rfl rfl rfl (Nat.le_of_ble_eq_true rfl) ⟨Nat.le_of_ble_eq_true rfl, Nat.le_of_ble_eq_true rfl⟩ ⟨Nat.le_of_ble_eq_true rfl, Nat.le_of_ble_eq_true rfl⟩ dX8_layLoop_29 (fun H locs hM hS => ?_)
  refine lv_aload_n hx hb dX8_layLoop_32 rfl (lv_at hl 1 rfl) ?_
  refine lv_iload_n hx hb dX8_layLoop_33 rfl (lv_at hl 0 rfl) ?_
  obtain ⟨q4, hq4, h⟩ := gbind_e h
  refine g_callV (As := [.int (gi μ 73 p1.toNatClampNeg)]) (rest := []) hx hb (hml.trans hl.1.symm) hown E hM hS hy_X8_second kw_1579 (c_X8_second hq4) hk_60 dd_60 rfl rfl rfl (Nat.le_of_ble_eq_true rfl) ⟨Nat.le_of_ble_eq_true rfl, Nat.le_of_ble_eq_true rfl⟩ ⟨Nat.le_of_ble_eq_true rfl, Nat.le_of_ble_eq_true rfl⟩ dX8_layLoop_34 (fun H locs hM hS => ?_)
  refine lv_istore_n (lv' := [(3, .int q4), (2, .int (gi μ 73 p1.toNatClampNeg)), (0, .ref (ad 60)), (1, .int p1)]) hx hb dX8_layLoop_37 rfl hl (by decide) rfl (fun ls hl => ?_)
  refine lv_aload_n hx hb dX8_layLoop_38 rfl (lv_at hl 2 rfl) ?_
  refine lv_iload_n hx hb dX8_layLoop_39 rfl (lv_at hl 1 rfl) ?_
  obtain ⟨q5, hq5, h⟩ := gbind_e h
  refine g_callV (As := [.int (gi μ 73 p1.toNatClampNeg)]) (rest := []) hx hb (hml.trans hl.1.symm) hown E hM hS hy_X8_first kw_1575 (c_X8_first hq5) hk_60 dd_60 rfl rfl rfl (Nat.le_of_ble_eq_true rfl) ⟨Nat.le_of_ble_eq_true rfl, Nat.le_of_ble_eq_true rfl⟩ ⟨Nat.le_of_ble_eq_true rfl, Nat.le_of_ble_eq_true rfl⟩ dX8_layLoop_40 (fun H locs hM hS => ?_)
  refine lv_istore (lv' := [(4, .int q5), (3, .int q4), (2, .int (gi μ 73 p1.toNatClampNeg)), (0, .ref (ad 60)), (1, .int p1)]) hx hb dX8_layLoop_43 hl (by decide) rfl (fun ls hl => ?_)
  refine lv_iconst (v := (0 : Int32)) hx hb dX8_layLoop_45 (by decide) ?_
  refine lv_istore (lv' := [(5, .int (0 : Int32)), (4, .int q5), (3, .int q4), (2, .int (gi μ 73 p1.toNatClampNeg)), (0, .ref (ad 60)), (1, .int p1)]) hx hb dX8_layLoop_46 hl (by decide) rfl (fun ls hl => ?_)
  obtain ⟨z25, h1, h⟩ := gbind_e h
  refine wl_X8_layLoop_48 F E (r := z25) (fun q17 H locs ls e1 hM hS hl => ?_) gFuel q4 q5 (0 : Int32) q3 h1 hM hS (lv_sub hl [4, 2, 1, 0] rfl)
  replace e1 : z25 = q17 := e1
  rw [e1] at h
  refine lv_iload hx hb dX8_layLoop_131 (lv_at hl 2 rfl) ?_
  refine lv_iconst (v := (1 : Int32)) hx hb dX8_layLoop_133 (by decide) ?_
  refine lv_isub hx hb dX8_layLoop_134 ?_
  refine lv_istore (lv' := [(6, .int (q17.2.1 - (1 : Int32))), (0, .ref (ad 60)), (3, .int q17.1), (5, .int q17.2.1)]) hx hb dX8_layLoop_135 hl (by decide) rfl (fun ls hl => ?_)
  obtain ⟨z24, h1, h⟩ := gbind_e h
  refine wl_X8_layLoop_137 F E (r := z24) (fun q23 H locs ls e1 hM hS hl => ?_) gFuel q17.1 (q17.2.1 - (1 : Int32)) q17.2.2 h1 hM hS (lv_sub hl [1, 2, 0] rfl)
  replace e1 : z24 = q23 := e1
  rw [e1] at h
  obtain rfl := Option.some.inj h
  exact g_vret hx hb hr hlocks hM hS dX8_layLoop_173
def b_X8_root_7 (x0 : Int64) (x2 : Int64) (x4 : Int64) (μ : gM) : Option ((Int64 × Int64) ⊕ (Int64)) :=
  if (x4 ≤ x2) then some (.inr x2) else gchk (¬ (2 : Int64) = 0) (if (x0 < ((((x2 + x4) + (1 : Int64)) / (2 : Int64)) * (((x2 + x4) + (1 : Int64)) / (2 : Int64)))) then some (.inl (x2, ((((x2 + x4) + (1 : Int64)) / (2 : Int64)) - (1 : Int64)))) else some (.inl ((((x2 + x4) + (1 : Int64)) / (2 : Int64)), x4)))
set_option maxHeartbeats 4000000 in
set_option maxRecDepth 100000 in
theorem wb_X8_root_7 {p : Program} {l : Launch} {e : Env} {s : State} {m : MethodId} {args : Array Value} {below : List Frame} {meth : Method} {c : Code} {D : va_G} {cy : Nat → ClassId} {ad : Nat → Nat} {base : Nat} {x0 : Int64} {x2 : Int64} {x4 : Int64} {μ : gM} {o : (Int64 × Int64) ⊕ (Int64)} {RES : Int64} (h : b_X8_root_7 x0 x2 x4 μ = some o) (F : gF p s m meth c cX8_root RX8 8 (some .long)) (E : gEnv l D cy ad base s) (kc : ∀ (t : Int64 × Int64) {H : Heap} {locs : List Loc} {ls : Array Slot}, o = .inl t → gW gFull D cy ad base μ H → va_S (gA base) s.heap H locs → lv_has ls 8 [(0, .long x0), (2, .long t.1), (4, .long t.2)] → W p l e ({ frames := 0, cells := 0, slots := 0, locals := 0 } : Room) s m args below meth c H locs 0 0 (MQ below (gQ (some (.long RES)) gFull D cy ad base μ) args s 0 0 (gA base)) (F0 m 7 ls [])) (kx : ∀ (t : Int64) {H : Heap} {locs : List Loc} {ls : Array Slot}, o = .inr t → gW gFull D cy ad base μ H → va_S (gA base) s.heap H locs → lv_has ls 8 [(2, .long t)] → W p l e ({ frames := 0, cells := 0, slots := 0, locals := 0 } : Room) s m args below meth c H locs 0 0 (MQ below (gQ (some (.long RES)) gFull D cy ad base μ) args s 0 0 (gA base)) (F0 m 51 ls []))  {H : Heap} {locs : List Loc} {ls : Array Slot} (hM : gW gFull D cy ad base μ H) (hS : va_S (gA base) s.heap H locs) (hl : lv_has ls 8 [(0, .long x0), (2, .long x2), (4, .long x4)]) : W p l e ({ frames := 0, cells := 0, slots := 0, locals := 0 } : Room) s m args below meth c H locs 0 0 (MQ below (gQ (some (.long RES)) gFull D cy ad base μ) args s 0 0 (gA base)) (F0 m 7 ls []) := by
  obtain ⟨hx, hb, hml, hown, hlocks, hr⟩ := id F
  unfold b_X8_root_7 at h
  refine lv_lload_n hx hb dX8_root_7 rfl (lv_at hl 1 rfl) ?_
  refine lv_lload hx hb dX8_root_8 (lv_at hl 2 rfl) ?_
  refine W.lcmp hx hb dX8_root_10 ?_
  refine lv_if_ge (tgt := 51) hx hb dX8_root_11 (by decide) (fun c1 => ?_) (fun c1 => ?_)
  · replace c1 := (lg_cmp_ge _ _).mp c1
    replace h := gif_t c1 h
    exact kx _ (Option.some.inj h).symm hM hS (lv_sub hl [1] rfl)
  · replace c1 := fun w => c1 ((lg_cmp_ge _ _).mpr w)
    replace h := gif_f c1 h
    refine lv_lload_n hx hb dX8_root_14 rfl (lv_at hl 1 rfl) ?_
    refine lv_lload hx hb dX8_root_15 (lv_at hl 2 rfl) ?_
    refine lv_ladd hx hb dX8_root_17 ?_
    refine lv_lconst (v := (1 : Int64)) hx hb dX8_root_18 (by decide) ?_
    refine lv_ladd hx hb dX8_root_19 ?_
    refine lv_ldc2 hx hb hown (v := (2 : Int64)) (E.kw kw_1791) dX8_root_20 ?_
    obtain ⟨c3, h⟩ := gchk_e h
    refine lv_ldiv hx hb dX8_root_23 c3 ?_
    refine lv_lstore (lv' := [(6, .long (((x2 + x4) + (1 : Int64)) / (2 : Int64))), (0, .long x0), (2, .long x2), (4, .long x4)]) hx hb dX8_root_24 hl (by decide) rfl (fun ls hl => ?_)
    refine lv_lload hx hb dX8_root_26 (lv_at hl 0 rfl) ?_
    refine lv_lload hx hb dX8_root_28 (lv_at hl 0 rfl) ?_
    refine lv_lmul hx hb dX8_root_30 ?_
    refine lv_lload_n hx hb dX8_root_31 rfl (lv_at hl 1 rfl) ?_
    refine W.lcmp hx hb dX8_root_32 ?_
    refine lv_if_gt (tgt := 42) hx hb dX8_root_33 (by decide) (fun c2 => ?_) (fun c2 => ?_)
    · replace c2 := (lg_cmp_gt _ _).mp c2
      replace h := gif_t c2 h
      refine lv_lload hx hb dX8_root_42 (lv_at hl 0 rfl) ?_
      refine lv_lconst (v := (1 : Int64)) hx hb dX8_root_44 (by decide) ?_
      refine lv_lsub hx hb dX8_root_45 ?_
      refine lv_lstore (lv' := [(4, .long ((((x2 + x4) + (1 : Int64)) / (2 : Int64)) - (1 : Int64))), (6, .long (((x2 + x4) + (1 : Int64)) / (2 : Int64))), (0, .long x0), (2, .long x2)]) hx hb dX8_root_46 hl (by decide) rfl (fun ls hl => ?_)
      refine lv_goto (tgt := 7) hx hb dX8_root_48 (by decide) ?_
      exact kc _ (Option.some.inj h).symm hM hS (lv_sub hl [2, 3, 0] rfl)
    · replace c2 := fun w => c2 ((lg_cmp_gt _ _).mpr w)
      replace h := gif_f c2 h
      refine lv_lload hx hb dX8_root_36 (lv_at hl 0 rfl) ?_
      refine lv_lstore_n (lv' := [(2, .long (((x2 + x4) + (1 : Int64)) / (2 : Int64))), (6, .long (((x2 + x4) + (1 : Int64)) / (2 : Int64))), (0, .long x0), (4, .long x4)]) hx hb dX8_root_38 rfl hl (by decide) rfl (fun ls hl => ?_)
      refine lv_goto (tgt := 48) hx hb dX8_root_39 (by decide) ?_
      refine lv_goto (tgt := 7) hx hb dX8_root_48 (by decide) ?_
      exact kc _ (Option.some.inj h).symm hM hS (lv_sub hl [2, 0, 3] rfl)
set_option maxHeartbeats 4000000 in
theorem wl_X8_root_7 {p : Program} {l : Launch} {e : Env} {s : State} {m : MethodId} {args : Array Value} {below : List Frame} {meth : Method} {c : Code} {D : va_G} {cy : Nat → ClassId} {ad : Nat → Nat} {base : Nat} {x0 : Int64} {μ : gM} {r : Int64} {RES : Int64} (F : gF p s m meth c cX8_root RX8 8 (some .long)) (E : gEnv l D cy ad base s) (kx : ∀ (t : Int64) {H : Heap} {locs : List Loc} {ls : Array Slot}, r = t → gW gFull D cy ad base μ H → va_S (gA base) s.heap H locs → lv_has ls 8 [(2, .long t)] → W p l e ({ frames := 0, cells := 0, slots := 0, locals := 0 } : Room) s m args below meth c H locs 0 0 (MQ below (gQ (some (.long RES)) gFull D cy ad base μ) args s 0 0 (gA base)) (F0 m 51 ls []))  : ∀ (n : Nat) (x2 : Int64) (x4 : Int64), gloop (fun t => b_X8_root_7 x0 t.1 t.2 μ) n (x2, x4) = some r → ∀ {H : Heap} {locs : List Loc} {ls : Array Slot}, gW gFull D cy ad base μ H → va_S (gA base) s.heap H locs → lv_has ls 8 [(0, .long x0), (2, .long x2), (4, .long x4)] → W p l e ({ frames := 0, cells := 0, slots := 0, locals := 0 } : Room) s m args below meth c H locs 0 0 (MQ below (gQ (some (.long RES)) gFull D cy ad base μ) args s 0 0 (gA base)) (F0 m 7 ls []) := by
  intro n
  induction n with
  | zero =>
    intro x2 x4 h
    exact (gloop_0 h).elim
  | succ n ih =>
    intro x2 x4 h H locs ls hM hS hl
    obtain ⟨o, h0, hc, hq⟩ := gloop_s h
    have h1 : b_X8_root_7 x0 x2 x4 μ = some o := h0
    exact wb_X8_root_7 h1 F E (fun t H locs ls ho hM hS hl => ih t.1 t.2 (hc t ho) hM hS hl) (fun t H locs ls ho hM hS hl => kx t (hq _ ho).symm hM hS hl) hM hS hl
def f_X8_root (p1 : Int64) (μ : gM) : Option (Int64) :=
  Option.bind (gloop (fun t => b_X8_root_7 p1 t.1 t.2 μ) gFuel ((0 : Int64), (3000000 : Int64))) (fun q4 => some q4)
set_option maxHeartbeats 4000000 in
set_option maxRecDepth 100000 in
theorem c_X8_root {l : Launch} {D : va_G} {cy : Nat → ClassId} {ad : Nat → Nat} {base : Nat} {p1 : Int64} {μ : gM} {RES : Int64} (h : f_X8_root p1 μ = some RES) : Met l yX8_root [.code yX8_root cX8_root 8 (some .long)] ({ frames := 0, cells := 0, slots := 0, locals := 0 } : Room) (va_Pc [.long p1] (gB l gFull D cy ad base μ)) (gQ (some (.long RES)) gFull D cy ad base μ) 0 0 (gA base) := by
  refine Met.ofW (cc := cX8_root) (maxL := 8) (ret := (some .long)) (by decide) rfl ?_
  intro p e s m args below meth c s₁ B hml0 hv
  obtain ⟨rfl, E, hM⟩ := hv
  have F : gF p s m meth c cX8_root RX8 8 (some .long) := gF_of B hml0
  obtain ⟨hx, hb, hml, hown, hlocks, hr⟩ := id F
  have hS : va_S (gA base) s.heap s.heap [] := va_S.rf
  have hl := lv_entry ([.long p1]) (n := 8) (Nat.le_of_ble_eq_true rfl)
  rw [lg_entry_eq]
  generalize (lg_sl ([.long p1]) ++ List.replicate (8 - (lg_sl ([.long p1])).length) Slot.unset).toArray = ls at hl ⊢
  have hl : lv_has ls 8 [(0, .long p1)] := hl
  unfold f_X8_root at h
  refine lv_lconst (v := (0 : Int64)) hx hb dX8_root_0 (by decide) ?_
  refine lv_lstore_n (lv' := [(2, .long (0 : Int64)), (0, .long p1)]) hx hb dX8_root_1 rfl hl (by decide) rfl (fun ls hl => ?_)
  refine lv_ldc2 hx hb hown (v := (3000000 : Int64)) (E.kw kw_1790) dX8_root_2 ?_
  refine lv_lstore (lv' := [(4, .long (3000000 : Int64)), (2, .long (0 : Int64)), (0, .long p1)]) hx hb dX8_root_5 hl (by decide) rfl (fun ls hl => ?_)
  obtain ⟨z5, h1, h⟩ := gbind_e h
  refine wl_X8_root_7 F E (r := z5) (fun q4 H locs ls e1 hM hS hl => ?_) gFuel (0 : Int64) (3000000 : Int64) h1 hM hS (lv_sub hl [2, 1, 0] rfl)
  replace e1 : z5 = q4 := e1
  rw [e1] at h
  refine lv_lload_n hx hb dX8_root_51 rfl (lv_at hl 0 rfl) ?_
  obtain rfl := Option.some.inj h
  exact g_lret hx hb hr hlocks hM hS dX8_root_52
def f_X8_allowedNow (μ : gM) : Option (Int32) :=
  gchk (gIn (0 : Int32) 703) (gchk (gIn (0 : Int32) 703) (Option.bind (f_X8_root ((((10 : Int64) * (gi μ 61 (0 : Int32).toNatClampNeg).toInt64) * (gi μ 61 (0 : Int32).toNatClampNeg).toInt64) * (gi μ 60 33).toInt64) μ) (fun q3 => some q3.toInt32)))
set_option maxHeartbeats 4000000 in
set_option maxRecDepth 100000 in
theorem c_X8_allowedNow {l : Launch} {D : va_G} {cy : Nat → ClassId} {ad : Nat → Nat} {base : Nat}  {μ : gM} {RES : Int32} (h : f_X8_allowedNow  μ = some RES) : Met l yX8_allowedNow [.code yX8_allowedNow cX8_allowedNow 1 (some .int)] ({ frames := 1, cells := 0, slots := 0, locals := 27 } : Room) (va_Pc [.ref (ad 60)] (gB l gFull D cy ad base μ)) (gQ (some (.int RES)) gFull D cy ad base μ) 0 0 (gA base) := by
  refine Met.ofW (cc := cX8_allowedNow) (maxL := 1) (ret := (some .int)) (by decide) rfl ?_
  intro p e s m args below meth c s₁ B hml0 hv
  obtain ⟨rfl, E, hM⟩ := hv
  have F : gF p s m meth c cX8_allowedNow RX8 1 (some .int) := gF_of B hml0
  obtain ⟨hx, hb, hml, hown, hlocks, hr⟩ := id F
  have hS : va_S (gA base) s.heap s.heap [] := va_S.rf
  have hl := lv_entry ([.ref (ad 60)]) (n := 1) (Nat.le_of_ble_eq_true rfl)
  rw [lg_entry_eq]
  generalize (lg_sl ([.ref (ad 60)]) ++ List.replicate (1 - (lg_sl ([.ref (ad 60)])).length) Slot.unset).toArray = ls at hl ⊢
  have hl : lv_has ls 1 [(0, .ref (ad 60))] := hl
  unfold f_X8_allowedNow at h
  refine lv_ldc2 hx hb hown (v := (10 : Int64)) (E.kw kw_1786) dX8_allowedNow_0 ?_
  refine lv_aload_n hx hb dX8_allowedNow_3 rfl (lv_at hl 0 rfl) ?_
  refine gg_60_0 hx hb hown E hM hk_60 kw_1242 dX8_allowedNow_4 ?_
  refine lv_iconst (v := (0 : Int32)) hx hb dX8_allowedNow_7 (by decide) ?_
  obtain ⟨c1, h⟩ := gchk_e h
  refine g_iald hx hb E hM hk_61 dd_61 c1 dX8_allowedNow_8 ?_
  refine lv_i2l (v := (gi μ 61 (0 : Int32).toNatClampNeg).toInt64) hx hb dX8_allowedNow_9 rfl ?_
  refine lv_lmul hx hb dX8_allowedNow_10 ?_
  refine lv_aload_n hx hb dX8_allowedNow_11 rfl (lv_at hl 0 rfl) ?_
  refine gg_60_0 hx hb hown E hM hk_60 kw_1242 dX8_allowedNow_12 ?_
  refine lv_iconst (v := (0 : Int32)) hx hb dX8_allowedNow_15 (by decide) ?_
  obtain ⟨c2, h⟩ := gchk_e h
  refine g_iald hx hb E hM hk_61 dd_61 c2 dX8_allowedNow_16 ?_
  refine lv_i2l (v := (gi μ 61 (0 : Int32).toNatClampNeg).toInt64) hx hb dX8_allowedNow_17 rfl ?_
  refine lv_lmul hx hb dX8_allowedNow_18 ?_
  refine lv_aload_n hx hb dX8_allowedNow_19 rfl (lv_at hl 0 rfl) ?_
  refine gg_60_33 hx hb hown E hM hk_60 kw_1275 dX8_allowedNow_20 ?_
  refine lv_i2l (v := (gi μ 60 33).toInt64) hx hb dX8_allowedNow_23 rfl ?_
  refine lv_lmul hx hb dX8_allowedNow_24 ?_
  obtain ⟨q3, hq3, h⟩ := gbind_e h
  refine g_callS (As := [.long ((((10 : Int64) * (gi μ 61 (0 : Int32).toNatClampNeg).toInt64) * (gi μ 61 (0 : Int32).toNatClampNeg).toInt64) * (gi μ 60 33).toInt64)]) (rest := []) hx hb (hml.trans hl.1.symm) hown E hM hS hy_X8_root kw_1787 (c_X8_root hq3) rfl rfl (Nat.le_of_ble_eq_true rfl) ⟨Nat.le_of_ble_eq_true rfl, Nat.le_of_ble_eq_true rfl⟩ ⟨Nat.le_of_ble_eq_true rfl, Nat.le_of_ble_eq_true rfl⟩ dX8_allowedNow_25 (fun H locs hM hS => ?_)
  refine lv_l2i (v := q3.toInt32) hx hb dX8_allowedNow_28 rfl ?_
  obtain rfl := Option.some.inj h
  exact g_iret hx hb hr hlocks hM hS dX8_allowedNow_29
def f_X8_isBad (p1 : Int32) (μ : gM) : Option (Bool × gM) :=
  Option.bind (f_X8_layLoop p1 μ) (fun q1 => Option.bind (f_X8_size ((gi q1 60 32).toInt64) q1) (fun q2 => Option.bind (f_X8_allowedNow  q1) (fun q3 => if (q2 ≤ q3.toInt64) then some (false, q1) else some (true, q1))))
set_option maxHeartbeats 4000000 in
set_option maxRecDepth 100000 in
theorem c_X8_isBad {l : Launch} {D : va_G} {cy : Nat → ClassId} {ad : Nat → Nat} {base : Nat} {p1 : Int32} {μ : gM} {RES : Bool × gM} (h : f_X8_isBad p1 μ = some RES) : Met l yX8_isBad [.code yX8_isBad cX8_isBad 2 (some .boolean)] ({ frames := 7, cells := 0, slots := 0, locals := 160 } : Room) (va_Pc [.ref (ad 60), .int p1] (gB l gFull D cy ad base μ)) (gQ (some (.int (b2i RES.1))) gFull D cy ad base RES.2) 0 0 (gA base) := by
  refine Met.ofW (cc := cX8_isBad) (maxL := 2) (ret := (some .boolean)) (by decide) rfl ?_
  intro p e s m args below meth c s₁ B hml0 hv
  obtain ⟨rfl, E, hM⟩ := hv
  have F : gF p s m meth c cX8_isBad RX8 2 (some .boolean) := gF_of B hml0
  obtain ⟨hx, hb, hml, hown, hlocks, hr⟩ := id F
  have hS : va_S (gA base) s.heap s.heap [] := va_S.rf
  have hl := lv_entry ([.ref (ad 60), .int p1]) (n := 2) (Nat.le_of_ble_eq_true rfl)
  rw [lg_entry_eq]
  generalize (lg_sl ([.ref (ad 60), .int p1]) ++ List.replicate (2 - (lg_sl ([.ref (ad 60), .int p1])).length) Slot.unset).toArray = ls at hl ⊢
  have hl : lv_has ls 2 [(0, .ref (ad 60)), (1, .int p1)] := hl
  unfold f_X8_isBad at h
  refine lv_aload_n hx hb dX8_isBad_0 rfl (lv_at hl 0 rfl) ?_
  refine lv_iload_n hx hb dX8_isBad_1 rfl (lv_at hl 1 rfl) ?_
  obtain ⟨q1, hq1, h⟩ := gbind_e h
  refine g_callV (As := [.int p1]) (rest := []) hx hb (hml.trans hl.1.symm) hown E hM hS hy_X8_layLoop kw_1762 (c_X8_layLoop hq1) hk_60 dd_60 rfl rfl rfl (Nat.le_of_ble_eq_true rfl) ⟨Nat.le_of_ble_eq_true rfl, Nat.le_of_ble_eq_true rfl⟩ ⟨Nat.le_of_ble_eq_true rfl, Nat.le_of_ble_eq_true rfl⟩ dX8_isBad_2 (fun H locs hM hS => ?_)
  refine lv_aload_n hx hb dX8_isBad_5 rfl (lv_at hl 0 rfl) ?_
  refine gg_60_32 hx hb hown E hM hk_60 kw_1274 dX8_isBad_6 ?_
  refine lv_i2l (v := (gi q1 60 32).toInt64) hx hb dX8_isBad_9 rfl ?_
  obtain ⟨q2, hq2, h⟩ := gbind_e h
  refine g_callS (As := [.long ((gi q1 60 32).toInt64)]) (rest := []) hx hb (hml.trans hl.1.symm) hown E hM hS hy_X8_size kw_1644 (c_X8_size hq2) rfl rfl (Nat.le_of_ble_eq_true rfl) ⟨Nat.le_of_ble_eq_true rfl, Nat.le_of_ble_eq_true rfl⟩ ⟨Nat.le_of_ble_eq_true rfl, Nat.le_of_ble_eq_true rfl⟩ dX8_isBad_10 (fun H locs hM hS => ?_)
  refine lv_aload_n hx hb dX8_isBad_13 rfl (lv_at hl 0 rfl) ?_
  obtain ⟨q3, hq3, h⟩ := gbind_e h
  refine g_callV (As := []) (rest := [.long q2]) hx hb (hml.trans hl.1.symm) hown E hM hS hy_X8_allowedNow kw_1782 (c_X8_allowedNow hq3) hk_60 dd_60 rfl rfl rfl (Nat.le_of_ble_eq_true rfl) ⟨Nat.le_of_ble_eq_true rfl, Nat.le_of_ble_eq_true rfl⟩ ⟨Nat.le_of_ble_eq_true rfl, Nat.le_of_ble_eq_true rfl⟩ dX8_isBad_14 (fun H locs hM hS => ?_)
  refine lv_i2l (v := q3.toInt64) hx hb dX8_isBad_17 rfl ?_
  refine W.lcmp hx hb dX8_isBad_18 ?_
  refine lv_if_le (tgt := 26) hx hb dX8_isBad_19 (by decide) (fun c4 => ?_) (fun c4 => ?_)
  · replace c4 := (lg_cmp_le _ _).mp c4
    replace h := gif_t c4 h
    refine lv_iconst (v := (0 : Int32)) hx hb dX8_isBad_26 (by decide) ?_
    obtain rfl := Option.some.inj h
    exact g_zret (v := b2i false) hx hb hr hlocks (b2i_nar false) hM hS dX8_isBad_27
  · replace c4 := fun w => c4 ((lg_cmp_le _ _).mpr w)
    replace h := gif_f c4 h
    refine lv_iconst (v := (1 : Int32)) hx hb dX8_isBad_22 (by decide) ?_
    refine lv_goto (tgt := 27) hx hb dX8_isBad_23 (by decide) ?_
    obtain rfl := Option.some.inj h
    exact g_zret (v := b2i true) hx hb hr hlocks (b2i_nar true) hM hS dX8_isBad_27
def f_X8_failsLoop (p1 : Int32) (μ : gM) : Option (Bool × gM) :=
  Option.bind (f_X8_layLoops  μ) (fun q1 => Option.bind (f_X8_inRange p1 (0 : Int32) ((gi q1 60 29) - (1 : Int32)) q1) (fun q2 => Option.bind (f_X8_fails (b2i q2) q1) (fun q3 => some (q3.1, q3.2))))
set_option maxHeartbeats 4000000 in
set_option maxRecDepth 100000 in
theorem c_X8_failsLoop {l : Launch} {D : va_G} {cy : Nat → ClassId} {ad : Nat → Nat} {base : Nat} {p1 : Int32} {μ : gM} {RES : Bool × gM} (h : f_X8_failsLoop p1 μ = some RES) : Met l yX8_failsLoop [.code yX8_failsLoop cX8_failsLoop 2 (some .boolean)] ({ frames := 4, cells := 0, slots := 0, locals := 90 } : Room) (va_Pc [.ref (ad 60), .int p1] (gB l gFull D cy ad base μ)) (gQ (some (.int (b2i RES.1))) gFull D cy ad base RES.2) 0 0 (gA base) := by
  refine Met.ofW (cc := cX8_failsLoop) (maxL := 2) (ret := (some .boolean)) (by decide) rfl ?_
  intro p e s m args below meth c s₁ B hml0 hv
  obtain ⟨rfl, E, hM⟩ := hv
  have F : gF p s m meth c cX8_failsLoop RX8 2 (some .boolean) := gF_of B hml0
  obtain ⟨hx, hb, hml, hown, hlocks, hr⟩ := id F
  have hS : va_S (gA base) s.heap s.heap [] := va_S.rf
  have hl := lv_entry ([.ref (ad 60), .int p1]) (n := 2) (Nat.le_of_ble_eq_true rfl)
  rw [lg_entry_eq]
  generalize (lg_sl ([.ref (ad 60), .int p1]) ++ List.replicate (2 - (lg_sl ([.ref (ad 60), .int p1])).length) Slot.unset).toArray = ls at hl ⊢
  have hl : lv_has ls 2 [(0, .ref (ad 60)), (1, .int p1)] := hl
  unfold f_X8_failsLoop at h
  refine lv_aload_n hx hb dX8_failsLoop_0 rfl (lv_at hl 0 rfl) ?_
  obtain ⟨q1, hq1, h⟩ := gbind_e h
  refine g_callV (As := []) (rest := []) hx hb (hml.trans hl.1.symm) hown E hM hS hy_X8_layLoops kw_1738 (c_X8_layLoops hq1) hk_60 dd_60 rfl rfl rfl (Nat.le_of_ble_eq_true rfl) ⟨Nat.le_of_ble_eq_true rfl, Nat.le_of_ble_eq_true rfl⟩ ⟨Nat.le_of_ble_eq_true rfl, Nat.le_of_ble_eq_true rfl⟩ dX8_failsLoop_1 (fun H locs hM hS => ?_)
  refine lv_aload_n hx hb dX8_failsLoop_4 rfl (lv_at hl 0 rfl) ?_
  refine lv_iload_n hx hb dX8_failsLoop_5 rfl (lv_at hl 1 rfl) ?_
  refine lv_iconst (v := (0 : Int32)) hx hb dX8_failsLoop_6 (by decide) ?_
  refine lv_aload_n hx hb dX8_failsLoop_7 rfl (lv_at hl 0 rfl) ?_
  refine gg_60_29 hx hb hown E hM hk_60 kw_1271 dX8_failsLoop_8 ?_
  refine lv_iconst (v := (1 : Int32)) hx hb dX8_failsLoop_11 (by decide) ?_
  refine lv_isub hx hb dX8_failsLoop_12 ?_
  obtain ⟨q2, hq2, h⟩ := gbind_e h
  refine g_callS (As := [.int p1, .int (0 : Int32), .int ((gi q1 60 29) - (1 : Int32))]) (rest := [.ref (ad 60)]) hx hb (hml.trans hl.1.symm) hown E hM hS hy_X8_inRange kw_1379 (c_X8_inRange hq2) rfl rfl (Nat.le_of_ble_eq_true rfl) ⟨Nat.le_of_ble_eq_true rfl, Nat.le_of_ble_eq_true rfl⟩ ⟨Nat.le_of_ble_eq_true rfl, Nat.le_of_ble_eq_true rfl⟩ dX8_failsLoop_13 (fun H locs hM hS => ?_)
  obtain ⟨q3, hq3, h⟩ := gbind_e h
  refine g_callV (As := [.int (b2i q2)]) (rest := []) hx hb (hml.trans hl.1.symm) hown E hM hS hy_X8_fails kw_1534 (c_X8_fails hq3) hk_60 dd_60 rfl rfl rfl (Nat.le_of_ble_eq_true rfl) ⟨Nat.le_of_ble_eq_true rfl, Nat.le_of_ble_eq_true rfl⟩ ⟨Nat.le_of_ble_eq_true rfl, Nat.le_of_ble_eq_true rfl⟩ dX8_failsLoop_16 (fun H locs hM hS => ?_)
  obtain rfl := Option.some.inj h
  exact g_zret hx hb hr hlocks (b2i_nar _) hM hS dX8_failsLoop_19
def f_X8_treeLines (μ : gM) : Option (Int32 × gM) :=
  Option.bind (f_X8_layLoops  (si μ 60 6 (0 : Int32))) (fun q1 => some ((gi q1 60 28), q1))
set_option maxHeartbeats 4000000 in
set_option maxRecDepth 100000 in
theorem c_X8_treeLines {l : Launch} {D : va_G} {cy : Nat → ClassId} {ad : Nat → Nat} {base : Nat}  {μ : gM} {RES : Int32 × gM} (h : f_X8_treeLines  μ = some RES) : Met l yX8_treeLines [.code yX8_treeLines cX8_treeLines 1 (some .int)] ({ frames := 4, cells := 0, slots := 0, locals := 90 } : Room) (va_Pc [.ref (ad 60)] (gB l gFull D cy ad base μ)) (gQ (some (.int RES.1)) gFull D cy ad base RES.2) 0 0 (gA base) := by
  refine Met.ofW (cc := cX8_treeLines) (maxL := 1) (ret := (some .int)) (by decide) rfl ?_
  intro p e s m args below meth c s₁ B hml0 hv
  obtain ⟨rfl, E, hM⟩ := hv
  have F : gF p s m meth c cX8_treeLines RX8 1 (some .int) := gF_of B hml0
  obtain ⟨hx, hb, hml, hown, hlocks, hr⟩ := id F
  have hS : va_S (gA base) s.heap s.heap [] := va_S.rf
  have hl := lv_entry ([.ref (ad 60)]) (n := 1) (Nat.le_of_ble_eq_true rfl)
  rw [lg_entry_eq]
  generalize (lg_sl ([.ref (ad 60)]) ++ List.replicate (1 - (lg_sl ([.ref (ad 60)])).length) Slot.unset).toArray = ls at hl ⊢
  have hl : lv_has ls 1 [(0, .ref (ad 60))] := hl
  unfold f_X8_treeLines at h
  refine lv_aload_n hx hb dX8_treeLines_0 rfl (lv_at hl 0 rfl) ?_
  refine lv_iconst (v := (0 : Int32)) hx hb dX8_treeLines_1 (by decide) ?_
  refine gp_60_6 hx hb hown E hM hS hk_60 kw_1248 dX8_treeLines_2 (fun H locs hM hS => ?_)
  refine lv_aload_n hx hb dX8_treeLines_5 rfl (lv_at hl 0 rfl) ?_
  obtain ⟨q1, hq1, h⟩ := gbind_e h
  refine g_callV (As := []) (rest := []) hx hb (hml.trans hl.1.symm) hown E hM hS hy_X8_layLoops kw_1738 (c_X8_layLoops hq1) hk_60 dd_60 rfl rfl rfl (Nat.le_of_ble_eq_true rfl) ⟨Nat.le_of_ble_eq_true rfl, Nat.le_of_ble_eq_true rfl⟩ ⟨Nat.le_of_ble_eq_true rfl, Nat.le_of_ble_eq_true rfl⟩ dX8_treeLines_6 (fun H locs hM hS => ?_)
  refine lv_aload_n hx hb dX8_treeLines_9 rfl (lv_at hl 0 rfl) ?_
  refine gg_60_28 hx hb hown E hM hk_60 kw_1270 dX8_treeLines_10 ?_
  obtain rfl := Option.some.inj h
  exact g_iret hx hb hr hlocks hM hS dX8_treeLines_13
def f_X8_loopsNow (μ : gM) : Option (Int32 × gM) :=
  Option.bind (f_X8_layLoops  μ) (fun q1 => some ((gi q1 60 29), q1))
set_option maxHeartbeats 4000000 in
set_option maxRecDepth 100000 in
theorem c_X8_loopsNow {l : Launch} {D : va_G} {cy : Nat → ClassId} {ad : Nat → Nat} {base : Nat}  {μ : gM} {RES : Int32 × gM} (h : f_X8_loopsNow  μ = some RES) : Met l yX8_loopsNow [.code yX8_loopsNow cX8_loopsNow 1 (some .int)] ({ frames := 4, cells := 0, slots := 0, locals := 90 } : Room) (va_Pc [.ref (ad 60)] (gB l gFull D cy ad base μ)) (gQ (some (.int RES.1)) gFull D cy ad base RES.2) 0 0 (gA base) := by
  refine Met.ofW (cc := cX8_loopsNow) (maxL := 1) (ret := (some .int)) (by decide) rfl ?_
  intro p e s m args below meth c s₁ B hml0 hv
  obtain ⟨rfl, E, hM⟩ := hv
  have F : gF p s m meth c cX8_loopsNow RX8 1 (some .int) := gF_of B hml0
  obtain ⟨hx, hb, hml, hown, hlocks, hr⟩ := id F
  have hS : va_S (gA base) s.heap s.heap [] := va_S.rf
  have hl := lv_entry ([.ref (ad 60)]) (n := 1) (Nat.le_of_ble_eq_true rfl)
  rw [lg_entry_eq]
  generalize (lg_sl ([.ref (ad 60)]) ++ List.replicate (1 - (lg_sl ([.ref (ad 60)])).length) Slot.unset).toArray = ls at hl ⊢
  have hl : lv_has ls 1 [(0, .ref (ad 60))] := hl
  unfold f_X8_loopsNow at h
  refine lv_aload_n hx hb dX8_loopsNow_0 rfl (lv_at hl 0 rfl) ?_
  obtain ⟨q1, hq1, h⟩ := gbind_e h
  refine g_callV (As := []) (rest := []) hx hb (hml.trans hl.1.symm) hown E hM hS hy_X8_layLoops kw_1738 (c_X8_layLoops hq1) hk_60 dd_60 rfl rfl rfl (Nat.le_of_ble_eq_true rfl) ⟨Nat.le_of_ble_eq_true rfl, Nat.le_of_ble_eq_true rfl⟩ ⟨Nat.le_of_ble_eq_true rfl, Nat.le_of_ble_eq_true rfl⟩ dX8_loopsNow_1 (fun H locs hM hS => ?_)
  refine lv_aload_n hx hb dX8_loopsNow_4 rfl (lv_at hl 0 rfl) ?_
  refine gg_60_29 hx hb hown E hM hk_60 kw_1271 dX8_loopsNow_5 ?_
  obtain rfl := Option.some.inj h
  exact g_iret hx hb hr hlocks hM hS dX8_loopsNow_8
def f_X8_loopCount (μ : gM) : Option (Int32 × gM) :=
  Option.bind (f_X8_loopsNow  (si μ 60 6 (0 : Int32))) (fun q1 => some (q1.1, q1.2))
set_option maxHeartbeats 4000000 in
set_option maxRecDepth 100000 in
theorem c_X8_loopCount {l : Launch} {D : va_G} {cy : Nat → ClassId} {ad : Nat → Nat} {base : Nat}  {μ : gM} {RES : Int32 × gM} (h : f_X8_loopCount  μ = some RES) : Met l yX8_loopCount [.code yX8_loopCount cX8_loopCount 1 (some .int)] ({ frames := 5, cells := 0, slots := 0, locals := 110 } : Room) (va_Pc [.ref (ad 60)] (gB l gFull D cy ad base μ)) (gQ (some (.int RES.1)) gFull D cy ad base RES.2) 0 0 (gA base) := by
  refine Met.ofW (cc := cX8_loopCount) (maxL := 1) (ret := (some .int)) (by decide) rfl ?_
  intro p e s m args below meth c s₁ B hml0 hv
  obtain ⟨rfl, E, hM⟩ := hv
  have F : gF p s m meth c cX8_loopCount RX8 1 (some .int) := gF_of B hml0
  obtain ⟨hx, hb, hml, hown, hlocks, hr⟩ := id F
  have hS : va_S (gA base) s.heap s.heap [] := va_S.rf
  have hl := lv_entry ([.ref (ad 60)]) (n := 1) (Nat.le_of_ble_eq_true rfl)
  rw [lg_entry_eq]
  generalize (lg_sl ([.ref (ad 60)]) ++ List.replicate (1 - (lg_sl ([.ref (ad 60)])).length) Slot.unset).toArray = ls at hl ⊢
  have hl : lv_has ls 1 [(0, .ref (ad 60))] := hl
  unfold f_X8_loopCount at h
  refine lv_aload_n hx hb dX8_loopCount_0 rfl (lv_at hl 0 rfl) ?_
  refine lv_iconst (v := (0 : Int32)) hx hb dX8_loopCount_1 (by decide) ?_
  refine gp_60_6 hx hb hown E hM hS hk_60 kw_1248 dX8_loopCount_2 (fun H locs hM hS => ?_)
  refine lv_aload_n hx hb dX8_loopCount_5 rfl (lv_at hl 0 rfl) ?_
  obtain ⟨q1, hq1, h⟩ := gbind_e h
  refine g_callV (As := []) (rest := []) hx hb (hml.trans hl.1.symm) hown E hM hS hy_X8_loopsNow kw_1750 (c_X8_loopsNow hq1) hk_60 dd_60 rfl rfl rfl (Nat.le_of_ble_eq_true rfl) ⟨Nat.le_of_ble_eq_true rfl, Nat.le_of_ble_eq_true rfl⟩ ⟨Nat.le_of_ble_eq_true rfl, Nat.le_of_ble_eq_true rfl⟩ dX8_loopCount_6 (fun H locs hM hS => ?_)
  obtain rfl := Option.some.inj h
  exact g_iret hx hb hr hlocks hM hS dX8_loopCount_9
def f_X8_loopLine (p1 : Int32) (p2 : Int32) (μ : gM) : Option (Int32 × gM) :=
  Option.bind (f_X8_failsLoop p1 μ) (fun q1 => if ((b2i q1.1) = 0) then Option.bind (f_X8_layLoop p1 q1.2) (fun q3 => Option.bind (f_X8_inRange p2 (0 : Int32) ((gi q3 60 31) - (1 : Int32)) q3) (fun q4 => if ((b2i q4) = 0) then some ((-1 : Int32), q3) else gchk (gIn p2 20) (some ((gi q3 74 p2.toNatClampNeg), q3)))) else some ((0 : Int32), q1.2))
set_option maxHeartbeats 4000000 in
set_option maxRecDepth 100000 in
theorem c_X8_loopLine {l : Launch} {D : va_G} {cy : Nat → ClassId} {ad : Nat → Nat} {base : Nat} {p1 : Int32} {p2 : Int32} {μ : gM} {RES : Int32 × gM} (h : f_X8_loopLine p1 p2 μ = some RES) : Met l yX8_loopLine [.code yX8_loopLine cX8_loopLine 3 (some .int)] ({ frames := 7, cells := 0, slots := 0, locals := 160 } : Room) (va_Pc [.ref (ad 60), .int p1, .int p2] (gB l gFull D cy ad base μ)) (gQ (some (.int RES.1)) gFull D cy ad base RES.2) 0 0 (gA base) := by
  refine Met.ofW (cc := cX8_loopLine) (maxL := 3) (ret := (some .int)) (by decide) rfl ?_
  intro p e s m args below meth c s₁ B hml0 hv
  obtain ⟨rfl, E, hM⟩ := hv
  have F : gF p s m meth c cX8_loopLine RX8 3 (some .int) := gF_of B hml0
  obtain ⟨hx, hb, hml, hown, hlocks, hr⟩ := id F
  have hS : va_S (gA base) s.heap s.heap [] := va_S.rf
  have hl := lv_entry ([.ref (ad 60), .int p1, .int p2]) (n := 3) (Nat.le_of_ble_eq_true rfl)
  rw [lg_entry_eq]
  generalize (lg_sl ([.ref (ad 60), .int p1, .int p2]) ++ List.replicate (3 - (lg_sl ([.ref (ad 60), .int p1, .int p2])).length) Slot.unset).toArray = ls at hl ⊢
  have hl : lv_has ls 3 [(0, .ref (ad 60)), (1, .int p1), (2, .int p2)] := hl
  unfold f_X8_loopLine at h
  refine lv_aload_n hx hb dX8_loopLine_0 rfl (lv_at hl 0 rfl) ?_
  refine lv_iload_n hx hb dX8_loopLine_1 rfl (lv_at hl 1 rfl) ?_
  obtain ⟨q1, hq1, h⟩ := gbind_e h
  refine g_callV (As := [.int p1]) (rest := []) hx hb (hml.trans hl.1.symm) hown E hM hS hy_X8_failsLoop kw_1758 (c_X8_failsLoop hq1) hk_60 dd_60 rfl rfl rfl (Nat.le_of_ble_eq_true rfl) ⟨Nat.le_of_ble_eq_true rfl, Nat.le_of_ble_eq_true rfl⟩ ⟨Nat.le_of_ble_eq_true rfl, Nat.le_of_ble_eq_true rfl⟩ dX8_loopLine_2 (fun H locs hM hS => ?_)
  refine lv_if_eq (tgt := 10) hx hb dX8_loopLine_5 (by decide) (fun c2 => ?_) (fun c2 => ?_)
  · replace h := gif_t c2 h
    refine lv_aload_n hx hb dX8_loopLine_10 rfl (lv_at hl 0 rfl) ?_
    refine lv_iload_n hx hb dX8_loopLine_11 rfl (lv_at hl 1 rfl) ?_
    obtain ⟨q3, hq3, h⟩ := gbind_e h
    refine g_callV (As := [.int p1]) (rest := []) hx hb (hml.trans hl.1.symm) hown E hM hS hy_X8_layLoop kw_1762 (c_X8_layLoop hq3) hk_60 dd_60 rfl rfl rfl (Nat.le_of_ble_eq_true rfl) ⟨Nat.le_of_ble_eq_true rfl, Nat.le_of_ble_eq_true rfl⟩ ⟨Nat.le_of_ble_eq_true rfl, Nat.le_of_ble_eq_true rfl⟩ dX8_loopLine_12 (fun H locs hM hS => ?_)
    refine lv_iload_n hx hb dX8_loopLine_15 rfl (lv_at hl 2 rfl) ?_
    refine lv_iconst (v := (0 : Int32)) hx hb dX8_loopLine_16 (by decide) ?_
    refine lv_aload_n hx hb dX8_loopLine_17 rfl (lv_at hl 0 rfl) ?_
    refine gg_60_31 hx hb hown E hM hk_60 kw_1273 dX8_loopLine_18 ?_
    refine lv_iconst (v := (1 : Int32)) hx hb dX8_loopLine_21 (by decide) ?_
    refine lv_isub hx hb dX8_loopLine_22 ?_
    obtain ⟨q4, hq4, h⟩ := gbind_e h
    refine g_callS (As := [.int p2, .int (0 : Int32), .int ((gi q3 60 31) - (1 : Int32))]) (rest := []) hx hb (hml.trans hl.1.symm) hown E hM hS hy_X8_inRange kw_1379 (c_X8_inRange hq4) rfl rfl (Nat.le_of_ble_eq_true rfl) ⟨Nat.le_of_ble_eq_true rfl, Nat.le_of_ble_eq_true rfl⟩ ⟨Nat.le_of_ble_eq_true rfl, Nat.le_of_ble_eq_true rfl⟩ dX8_loopLine_23 (fun H locs hM hS => ?_)
    refine lv_if_eq (tgt := 38) hx hb dX8_loopLine_26 (by decide) (fun c5 => ?_) (fun c5 => ?_)
    · replace h := gif_t c5 h
      refine lv_iconst (v := (-1 : Int32)) hx hb dX8_loopLine_38 (by decide) ?_
      obtain rfl := Option.some.inj h
      exact g_iret hx hb hr hlocks hM hS dX8_loopLine_39
    · replace h := gif_f c5 h
      refine lv_aload_n hx hb dX8_loopLine_29 rfl (lv_at hl 0 rfl) ?_
      refine gg_60_30 hx hb hown E hM hk_60 kw_1272 dX8_loopLine_30 ?_
      refine lv_iload_n hx hb dX8_loopLine_33 rfl (lv_at hl 2 rfl) ?_
      obtain ⟨c6, h⟩ := gchk_e h
      refine g_iald hx hb E hM hk_74 dd_74 c6 dX8_loopLine_34 ?_
      refine lv_goto (tgt := 39) hx hb dX8_loopLine_35 (by decide) ?_
      obtain rfl := Option.some.inj h
      exact g_iret hx hb hr hlocks hM hS dX8_loopLine_39
  · replace h := gif_f c2 h
    refine lv_iconst (v := (0 : Int32)) hx hb dX8_loopLine_8 (by decide) ?_
    obtain rfl := Option.some.inj h
    exact g_iret hx hb hr hlocks hM hS dX8_loopLine_9
def f_X8_loopLength (p1 : Int32) (μ : gM) : Option (Int32 × gM) :=
  Option.bind (f_X8_failsLoop p1 μ) (fun q1 => if ((b2i q1.1) = 0) then Option.bind (f_X8_layLoop p1 q1.2) (fun q3 => some ((gi q3 60 33), q3)) else some ((0 : Int32), q1.2))
set_option maxHeartbeats 4000000 in
set_option maxRecDepth 100000 in
theorem c_X8_loopLength {l : Launch} {D : va_G} {cy : Nat → ClassId} {ad : Nat → Nat} {base : Nat} {p1 : Int32} {μ : gM} {RES : Int32 × gM} (h : f_X8_loopLength p1 μ = some RES) : Met l yX8_loopLength [.code yX8_loopLength cX8_loopLength 2 (some .int)] ({ frames := 7, cells := 0, slots := 0, locals := 160 } : Room) (va_Pc [.ref (ad 60), .int p1] (gB l gFull D cy ad base μ)) (gQ (some (.int RES.1)) gFull D cy ad base RES.2) 0 0 (gA base) := by
  refine Met.ofW (cc := cX8_loopLength) (maxL := 2) (ret := (some .int)) (by decide) rfl ?_
  intro p e s m args below meth c s₁ B hml0 hv
  obtain ⟨rfl, E, hM⟩ := hv
  have F : gF p s m meth c cX8_loopLength RX8 2 (some .int) := gF_of B hml0
  obtain ⟨hx, hb, hml, hown, hlocks, hr⟩ := id F
  have hS : va_S (gA base) s.heap s.heap [] := va_S.rf
  have hl := lv_entry ([.ref (ad 60), .int p1]) (n := 2) (Nat.le_of_ble_eq_true rfl)
  rw [lg_entry_eq]
  generalize (lg_sl ([.ref (ad 60), .int p1]) ++ List.replicate (2 - (lg_sl ([.ref (ad 60), .int p1])).length) Slot.unset).toArray = ls at hl ⊢
  have hl : lv_has ls 2 [(0, .ref (ad 60)), (1, .int p1)] := hl
  unfold f_X8_loopLength at h
  refine lv_aload_n hx hb dX8_loopLength_0 rfl (lv_at hl 0 rfl) ?_
  refine lv_iload_n hx hb dX8_loopLength_1 rfl (lv_at hl 1 rfl) ?_
  obtain ⟨q1, hq1, h⟩ := gbind_e h
  refine g_callV (As := [.int p1]) (rest := []) hx hb (hml.trans hl.1.symm) hown E hM hS hy_X8_failsLoop kw_1758 (c_X8_failsLoop hq1) hk_60 dd_60 rfl rfl rfl (Nat.le_of_ble_eq_true rfl) ⟨Nat.le_of_ble_eq_true rfl, Nat.le_of_ble_eq_true rfl⟩ ⟨Nat.le_of_ble_eq_true rfl, Nat.le_of_ble_eq_true rfl⟩ dX8_loopLength_2 (fun H locs hM hS => ?_)
  refine lv_if_eq (tgt := 10) hx hb dX8_loopLength_5 (by decide) (fun c2 => ?_) (fun c2 => ?_)
  · replace h := gif_t c2 h
    refine lv_aload_n hx hb dX8_loopLength_10 rfl (lv_at hl 0 rfl) ?_
    refine lv_iload_n hx hb dX8_loopLength_11 rfl (lv_at hl 1 rfl) ?_
    obtain ⟨q3, hq3, h⟩ := gbind_e h
    refine g_callV (As := [.int p1]) (rest := []) hx hb (hml.trans hl.1.symm) hown E hM hS hy_X8_layLoop kw_1762 (c_X8_layLoop hq3) hk_60 dd_60 rfl rfl rfl (Nat.le_of_ble_eq_true rfl) ⟨Nat.le_of_ble_eq_true rfl, Nat.le_of_ble_eq_true rfl⟩ ⟨Nat.le_of_ble_eq_true rfl, Nat.le_of_ble_eq_true rfl⟩ dX8_loopLength_12 (fun H locs hM hS => ?_)
    refine lv_aload_n hx hb dX8_loopLength_15 rfl (lv_at hl 0 rfl) ?_
    refine gg_60_33 hx hb hown E hM hk_60 kw_1275 dX8_loopLength_16 ?_
    obtain rfl := Option.some.inj h
    exact g_iret hx hb hr hlocks hM hS dX8_loopLength_19
  · replace h := gif_f c2 h
    refine lv_iconst (v := (0 : Int32)) hx hb dX8_loopLength_8 (by decide) ?_
    obtain rfl := Option.some.inj h
    exact g_iret hx hb hr hlocks hM hS dX8_loopLength_9
def f_X8_misclosure (p1 : Int32) (μ : gM) : Option (Int32 × gM) :=
  Option.bind (f_X8_failsLoop p1 μ) (fun q1 => if ((b2i q1.1) = 0) then Option.bind (f_X8_layLoop p1 q1.2) (fun q3 => some ((gi q3 60 32), q3)) else some ((0 : Int32), q1.2))
set_option maxHeartbeats 4000000 in
set_option maxRecDepth 100000 in
theorem c_X8_misclosure {l : Launch} {D : va_G} {cy : Nat → ClassId} {ad : Nat → Nat} {base : Nat} {p1 : Int32} {μ : gM} {RES : Int32 × gM} (h : f_X8_misclosure p1 μ = some RES) : Met l yX8_misclosure [.code yX8_misclosure cX8_misclosure 2 (some .int)] ({ frames := 7, cells := 0, slots := 0, locals := 160 } : Room) (va_Pc [.ref (ad 60), .int p1] (gB l gFull D cy ad base μ)) (gQ (some (.int RES.1)) gFull D cy ad base RES.2) 0 0 (gA base) := by
  refine Met.ofW (cc := cX8_misclosure) (maxL := 2) (ret := (some .int)) (by decide) rfl ?_
  intro p e s m args below meth c s₁ B hml0 hv
  obtain ⟨rfl, E, hM⟩ := hv
  have F : gF p s m meth c cX8_misclosure RX8 2 (some .int) := gF_of B hml0
  obtain ⟨hx, hb, hml, hown, hlocks, hr⟩ := id F
  have hS : va_S (gA base) s.heap s.heap [] := va_S.rf
  have hl := lv_entry ([.ref (ad 60), .int p1]) (n := 2) (Nat.le_of_ble_eq_true rfl)
  rw [lg_entry_eq]
  generalize (lg_sl ([.ref (ad 60), .int p1]) ++ List.replicate (2 - (lg_sl ([.ref (ad 60), .int p1])).length) Slot.unset).toArray = ls at hl ⊢
  have hl : lv_has ls 2 [(0, .ref (ad 60)), (1, .int p1)] := hl
  unfold f_X8_misclosure at h
  refine lv_aload_n hx hb dX8_misclosure_0 rfl (lv_at hl 0 rfl) ?_
  refine lv_iload_n hx hb dX8_misclosure_1 rfl (lv_at hl 1 rfl) ?_
  obtain ⟨q1, hq1, h⟩ := gbind_e h
  refine g_callV (As := [.int p1]) (rest := []) hx hb (hml.trans hl.1.symm) hown E hM hS hy_X8_failsLoop kw_1758 (c_X8_failsLoop hq1) hk_60 dd_60 rfl rfl rfl (Nat.le_of_ble_eq_true rfl) ⟨Nat.le_of_ble_eq_true rfl, Nat.le_of_ble_eq_true rfl⟩ ⟨Nat.le_of_ble_eq_true rfl, Nat.le_of_ble_eq_true rfl⟩ dX8_misclosure_2 (fun H locs hM hS => ?_)
  refine lv_if_eq (tgt := 10) hx hb dX8_misclosure_5 (by decide) (fun c2 => ?_) (fun c2 => ?_)
  · replace h := gif_t c2 h
    refine lv_aload_n hx hb dX8_misclosure_10 rfl (lv_at hl 0 rfl) ?_
    refine lv_iload_n hx hb dX8_misclosure_11 rfl (lv_at hl 1 rfl) ?_
    obtain ⟨q3, hq3, h⟩ := gbind_e h
    refine g_callV (As := [.int p1]) (rest := []) hx hb (hml.trans hl.1.symm) hown E hM hS hy_X8_layLoop kw_1762 (c_X8_layLoop hq3) hk_60 dd_60 rfl rfl rfl (Nat.le_of_ble_eq_true rfl) ⟨Nat.le_of_ble_eq_true rfl, Nat.le_of_ble_eq_true rfl⟩ ⟨Nat.le_of_ble_eq_true rfl, Nat.le_of_ble_eq_true rfl⟩ dX8_misclosure_12 (fun H locs hM hS => ?_)
    refine lv_aload_n hx hb dX8_misclosure_15 rfl (lv_at hl 0 rfl) ?_
    refine gg_60_32 hx hb hown E hM hk_60 kw_1274 dX8_misclosure_16 ?_
    obtain rfl := Option.some.inj h
    exact g_iret hx hb hr hlocks hM hS dX8_misclosure_19
  · replace h := gif_f c2 h
    refine lv_iconst (v := (0 : Int32)) hx hb dX8_misclosure_8 (by decide) ?_
    obtain rfl := Option.some.inj h
    exact g_iret hx hb hr hlocks hM hS dX8_misclosure_9
def f_X8_allowed (p1 : Int32) (μ : gM) : Option (Int32 × gM) :=
  Option.bind (f_X8_failsLoop p1 μ) (fun q1 => if ((b2i q1.1) = 0) then Option.bind (f_X8_layLoop p1 q1.2) (fun q3 => Option.bind (f_X8_allowedNow  q3) (fun q4 => some (q4, q3))) else some ((0 : Int32), q1.2))
set_option maxHeartbeats 4000000 in
set_option maxRecDepth 100000 in
theorem c_X8_allowed {l : Launch} {D : va_G} {cy : Nat → ClassId} {ad : Nat → Nat} {base : Nat} {p1 : Int32} {μ : gM} {RES : Int32 × gM} (h : f_X8_allowed p1 μ = some RES) : Met l yX8_allowed [.code yX8_allowed cX8_allowed 2 (some .int)] ({ frames := 7, cells := 0, slots := 0, locals := 160 } : Room) (va_Pc [.ref (ad 60), .int p1] (gB l gFull D cy ad base μ)) (gQ (some (.int RES.1)) gFull D cy ad base RES.2) 0 0 (gA base) := by
  refine Met.ofW (cc := cX8_allowed) (maxL := 2) (ret := (some .int)) (by decide) rfl ?_
  intro p e s m args below meth c s₁ B hml0 hv
  obtain ⟨rfl, E, hM⟩ := hv
  have F : gF p s m meth c cX8_allowed RX8 2 (some .int) := gF_of B hml0
  obtain ⟨hx, hb, hml, hown, hlocks, hr⟩ := id F
  have hS : va_S (gA base) s.heap s.heap [] := va_S.rf
  have hl := lv_entry ([.ref (ad 60), .int p1]) (n := 2) (Nat.le_of_ble_eq_true rfl)
  rw [lg_entry_eq]
  generalize (lg_sl ([.ref (ad 60), .int p1]) ++ List.replicate (2 - (lg_sl ([.ref (ad 60), .int p1])).length) Slot.unset).toArray = ls at hl ⊢
  have hl : lv_has ls 2 [(0, .ref (ad 60)), (1, .int p1)] := hl
  unfold f_X8_allowed at h
  refine lv_aload_n hx hb dX8_allowed_0 rfl (lv_at hl 0 rfl) ?_
  refine lv_iload_n hx hb dX8_allowed_1 rfl (lv_at hl 1 rfl) ?_
  obtain ⟨q1, hq1, h⟩ := gbind_e h
  refine g_callV (As := [.int p1]) (rest := []) hx hb (hml.trans hl.1.symm) hown E hM hS hy_X8_failsLoop kw_1758 (c_X8_failsLoop hq1) hk_60 dd_60 rfl rfl rfl (Nat.le_of_ble_eq_true rfl) ⟨Nat.le_of_ble_eq_true rfl, Nat.le_of_ble_eq_true rfl⟩ ⟨Nat.le_of_ble_eq_true rfl, Nat.le_of_ble_eq_true rfl⟩ dX8_allowed_2 (fun H locs hM hS => ?_)
  refine lv_if_eq (tgt := 10) hx hb dX8_allowed_5 (by decide) (fun c2 => ?_) (fun c2 => ?_)
  · replace h := gif_t c2 h
    refine lv_aload_n hx hb dX8_allowed_10 rfl (lv_at hl 0 rfl) ?_
    refine lv_iload_n hx hb dX8_allowed_11 rfl (lv_at hl 1 rfl) ?_
    obtain ⟨q3, hq3, h⟩ := gbind_e h
    refine g_callV (As := [.int p1]) (rest := []) hx hb (hml.trans hl.1.symm) hown E hM hS hy_X8_layLoop kw_1762 (c_X8_layLoop hq3) hk_60 dd_60 rfl rfl rfl (Nat.le_of_ble_eq_true rfl) ⟨Nat.le_of_ble_eq_true rfl, Nat.le_of_ble_eq_true rfl⟩ ⟨Nat.le_of_ble_eq_true rfl, Nat.le_of_ble_eq_true rfl⟩ dX8_allowed_12 (fun H locs hM hS => ?_)
    refine lv_aload_n hx hb dX8_allowed_15 rfl (lv_at hl 0 rfl) ?_
    obtain ⟨q4, hq4, h⟩ := gbind_e h
    refine g_callV (As := []) (rest := []) hx hb (hml.trans hl.1.symm) hown E hM hS hy_X8_allowedNow kw_1782 (c_X8_allowedNow hq4) hk_60 dd_60 rfl rfl rfl (Nat.le_of_ble_eq_true rfl) ⟨Nat.le_of_ble_eq_true rfl, Nat.le_of_ble_eq_true rfl⟩ ⟨Nat.le_of_ble_eq_true rfl, Nat.le_of_ble_eq_true rfl⟩ dX8_allowed_16 (fun H locs hM hS => ?_)
    obtain rfl := Option.some.inj h
    exact g_iret hx hb hr hlocks hM hS dX8_allowed_19
  · replace h := gif_f c2 h
    refine lv_iconst (v := (0 : Int32)) hx hb dX8_allowed_8 (by decide) ?_
    obtain rfl := Option.some.inj h
    exact g_iret hx hb hr hlocks hM hS dX8_allowed_9
def b_X8_bad_8 (x1 : Int32) (x2 : Int32) (μ : gM) : Option ((Int32 × Int32 × gM) ⊕ (Int32 × gM)) :=
  if ((gi μ 60 29) ≤ x2) then some (.inr (x1, μ)) else Option.bind (f_X8_isBad x2 μ) (fun q3 => if ((b2i q3.1) = 0) then some (.inl ((x1 ||| (0 : Int32)), (x2 + (1 : Int32)), q3.2)) else some (.inl ((x1 ||| ((1 : Int32) <<< (x2 &&& 31))), (x2 + (1 : Int32)), q3.2)))
set_option maxHeartbeats 4000000 in
set_option maxRecDepth 100000 in
theorem wb_X8_bad_8 {p : Program} {l : Launch} {e : Env} {s : State} {m : MethodId} {args : Array Value} {below : List Frame} {meth : Method} {c : Code} {D : va_G} {cy : Nat → ClassId} {ad : Nat → Nat} {base : Nat} {x1 : Int32} {x2 : Int32} {μ : gM} {o : (Int32 × Int32 × gM) ⊕ (Int32 × gM)} {RES : Int32 × gM} (h : b_X8_bad_8 x1 x2 μ = some o) (F : gF p s m meth c cX8_bad RX8 3 (some .int)) (E : gEnv l D cy ad base s) (kc : ∀ (t : Int32 × Int32 × gM) {H : Heap} {locs : List Loc} {ls : Array Slot}, o = .inl t → gW gFull D cy ad base t.2.2 H → va_S (gA base) s.heap H locs → lv_has ls 3 [(0, .ref (ad 60)), (1, .int t.1), (2, .int t.2.1)] → W p l e ({ frames := 8, cells := 0, slots := 0, locals := 181 } : Room) s m args below meth c H locs 0 0 (MQ below (gQ (some (.int RES.1)) gFull D cy ad base RES.2) args s 0 0 (gA base)) (F0 m 8 ls [])) (kx : ∀ (t : Int32 × gM) {H : Heap} {locs : List Loc} {ls : Array Slot}, o = .inr t → gW gFull D cy ad base t.2 H → va_S (gA base) s.heap H locs → lv_has ls 3 [(1, .int t.1)] → W p l e ({ frames := 8, cells := 0, slots := 0, locals := 181 } : Room) s m args below meth c H locs 0 0 (MQ below (gQ (some (.int RES.1)) gFull D cy ad base RES.2) args s 0 0 (gA base)) (F0 m 40 ls []))  {H : Heap} {locs : List Loc} {ls : Array Slot} (hM : gW gFull D cy ad base μ H) (hS : va_S (gA base) s.heap H locs) (hl : lv_has ls 3 [(0, .ref (ad 60)), (1, .int x1), (2, .int x2)]) : W p l e ({ frames := 8, cells := 0, slots := 0, locals := 181 } : Room) s m args below meth c H locs 0 0 (MQ below (gQ (some (.int RES.1)) gFull D cy ad base RES.2) args s 0 0 (gA base)) (F0 m 8 ls []) := by
  obtain ⟨hx, hb, hml, hown, hlocks, hr⟩ := id F
  unfold b_X8_bad_8 at h
  refine lv_iload_n hx hb dX8_bad_8 rfl (lv_at hl 2 rfl) ?_
  refine lv_aload_n hx hb dX8_bad_9 rfl (lv_at hl 0 rfl) ?_
  refine gg_60_29 hx hb hown E hM hk_60 kw_1271 dX8_bad_10 ?_
  refine lv_icmp_ge (tgt := 40) hx hb dX8_bad_13 (by decide) (fun c2 => ?_) (fun c2 => ?_)
  · replace h := gif_t c2 h
    exact kx _ (Option.some.inj h).symm hM hS (lv_sub hl [1] rfl)
  · replace h := gif_f c2 h
    refine lv_iload_n hx hb dX8_bad_16 rfl (lv_at hl 1 rfl) ?_
    refine lv_aload_n hx hb dX8_bad_17 rfl (lv_at hl 0 rfl) ?_
    refine lv_iload_n hx hb dX8_bad_18 rfl (lv_at hl 2 rfl) ?_
    obtain ⟨q3, hq3, h⟩ := gbind_e h
    refine g_callV (As := [.int x2]) (rest := [.int x1]) hx hb (hml.trans hl.1.symm) hown E hM hS hy_X8_isBad kw_1800 (c_X8_isBad hq3) hk_60 dd_60 rfl rfl rfl (Nat.le_of_ble_eq_true rfl) ⟨Nat.le_of_ble_eq_true rfl, Nat.le_of_ble_eq_true rfl⟩ ⟨Nat.le_of_ble_eq_true rfl, Nat.le_of_ble_eq_true rfl⟩ dX8_bad_19 (fun H locs hM hS => ?_)
    refine lv_if_eq (tgt := 31) hx hb dX8_bad_22 (by decide) (fun c4 => ?_) (fun c4 => ?_)
    · replace h := gif_t c4 h
      refine lv_iconst (v := (0 : Int32)) hx hb dX8_bad_31 (by decide) ?_
      refine lv_ior hx hb dX8_bad_32 ?_
      refine lv_istore_n (lv' := [(1, .int (x1 ||| (0 : Int32))), (0, .ref (ad 60)), (2, .int x2)]) hx hb dX8_bad_33 rfl hl (by decide) rfl (fun ls hl => ?_)
      refine lv_iinc (v := (x2 + (1 : Int32))) (lv' := [(2, .int (x2 + (1 : Int32))), (1, .int (x1 ||| (0 : Int32))), (0, .ref (ad 60))]) hx hb dX8_bad_34 hl (k := 2) rfl rfl (by decide) rfl (fun ls hl => ?_)
      refine lv_goto (tgt := 8) hx hb dX8_bad_37 (by decide) ?_
      exact kc _ (Option.some.inj h).symm hM hS (lv_sub hl [2, 1, 0] rfl)
    · replace h := gif_f c4 h
      refine lv_iconst (v := (1 : Int32)) hx hb dX8_bad_25 (by decide) ?_
      refine lv_iload_n hx hb dX8_bad_26 rfl (lv_at hl 2 rfl) ?_
      refine lv_ishl hx hb dX8_bad_27 ?_
      refine lv_goto (tgt := 32) hx hb dX8_bad_28 (by decide) ?_
      refine lv_ior hx hb dX8_bad_32 ?_
      refine lv_istore_n (lv' := [(1, .int (x1 ||| ((1 : Int32) <<< (x2 &&& 31)))), (0, .ref (ad 60)), (2, .int x2)]) hx hb dX8_bad_33 rfl hl (by decide) rfl (fun ls hl => ?_)
      refine lv_iinc (v := (x2 + (1 : Int32))) (lv' := [(2, .int (x2 + (1 : Int32))), (1, .int (x1 ||| ((1 : Int32) <<< (x2 &&& 31)))), (0, .ref (ad 60))]) hx hb dX8_bad_34 hl (k := 2) rfl rfl (by decide) rfl (fun ls hl => ?_)
      refine lv_goto (tgt := 8) hx hb dX8_bad_37 (by decide) ?_
      exact kc _ (Option.some.inj h).symm hM hS (lv_sub hl [2, 1, 0] rfl)
set_option maxHeartbeats 4000000 in
theorem wl_X8_bad_8 {p : Program} {l : Launch} {e : Env} {s : State} {m : MethodId} {args : Array Value} {below : List Frame} {meth : Method} {c : Code} {D : va_G} {cy : Nat → ClassId} {ad : Nat → Nat} {base : Nat}  {r : Int32 × gM} {RES : Int32 × gM} (F : gF p s m meth c cX8_bad RX8 3 (some .int)) (E : gEnv l D cy ad base s) (kx : ∀ (t : Int32 × gM) {H : Heap} {locs : List Loc} {ls : Array Slot}, r = t → gW gFull D cy ad base t.2 H → va_S (gA base) s.heap H locs → lv_has ls 3 [(1, .int t.1)] → W p l e ({ frames := 8, cells := 0, slots := 0, locals := 181 } : Room) s m args below meth c H locs 0 0 (MQ below (gQ (some (.int RES.1)) gFull D cy ad base RES.2) args s 0 0 (gA base)) (F0 m 40 ls []))  : ∀ (n : Nat) (x1 : Int32) (x2 : Int32) (μ : gM), gloop (fun t => b_X8_bad_8  t.1 t.2.1 t.2.2) n (x1, x2, μ) = some r → ∀ {H : Heap} {locs : List Loc} {ls : Array Slot}, gW gFull D cy ad base μ H → va_S (gA base) s.heap H locs → lv_has ls 3 [(0, .ref (ad 60)), (1, .int x1), (2, .int x2)] → W p l e ({ frames := 8, cells := 0, slots := 0, locals := 181 } : Room) s m args below meth c H locs 0 0 (MQ below (gQ (some (.int RES.1)) gFull D cy ad base RES.2) args s 0 0 (gA base)) (F0 m 8 ls []) := by
  intro n
  induction n with
  | zero =>
    intro x1 x2 μ h
    exact (gloop_0 h).elim
  | succ n ih =>
    intro x1 x2 μ h H locs ls hM hS hl
    obtain ⟨o, h0, hc, hq⟩ := gloop_s h
    have h1 : b_X8_bad_8 x1 x2 μ = some o := h0
    exact wb_X8_bad_8 h1 F E (fun t H locs ls ho hM hS hl => ih t.1 t.2.1 t.2.2 (hc t ho) hM hS hl) (fun t H locs ls ho hM hS hl => kx t (hq _ ho).symm hM hS hl) hM hS hl
def f_X8_bad (μ : gM) : Option (Int32 × gM) :=
  Option.bind (f_X8_layLoops  μ) (fun q1 => Option.bind (gloop (fun t => b_X8_bad_8  t.1 t.2.1 t.2.2) gFuel ((0 : Int32), (0 : Int32), q1)) (fun q5 => some (q5.1, q5.2)))
set_option maxHeartbeats 4000000 in
set_option maxRecDepth 100000 in
theorem c_X8_bad {l : Launch} {D : va_G} {cy : Nat → ClassId} {ad : Nat → Nat} {base : Nat}  {μ : gM} {RES : Int32 × gM} (h : f_X8_bad  μ = some RES) : Met l yX8_bad [.code yX8_bad cX8_bad 3 (some .int)] ({ frames := 8, cells := 0, slots := 0, locals := 181 } : Room) (va_Pc [.ref (ad 60)] (gB l gFull D cy ad base μ)) (gQ (some (.int RES.1)) gFull D cy ad base RES.2) 0 0 (gA base) := by
  refine Met.ofW (cc := cX8_bad) (maxL := 3) (ret := (some .int)) (by decide) rfl ?_
  intro p e s m args below meth c s₁ B hml0 hv
  obtain ⟨rfl, E, hM⟩ := hv
  have F : gF p s m meth c cX8_bad RX8 3 (some .int) := gF_of B hml0
  obtain ⟨hx, hb, hml, hown, hlocks, hr⟩ := id F
  have hS : va_S (gA base) s.heap s.heap [] := va_S.rf
  have hl := lv_entry ([.ref (ad 60)]) (n := 3) (Nat.le_of_ble_eq_true rfl)
  rw [lg_entry_eq]
  generalize (lg_sl ([.ref (ad 60)]) ++ List.replicate (3 - (lg_sl ([.ref (ad 60)])).length) Slot.unset).toArray = ls at hl ⊢
  have hl : lv_has ls 3 [(0, .ref (ad 60))] := hl
  unfold f_X8_bad at h
  refine lv_aload_n hx hb dX8_bad_0 rfl (lv_at hl 0 rfl) ?_
  obtain ⟨q1, hq1, h⟩ := gbind_e h
  refine g_callV (As := []) (rest := []) hx hb (hml.trans hl.1.symm) hown E hM hS hy_X8_layLoops kw_1738 (c_X8_layLoops hq1) hk_60 dd_60 rfl rfl rfl (Nat.le_of_ble_eq_true rfl) ⟨Nat.le_of_ble_eq_true rfl, Nat.le_of_ble_eq_true rfl⟩ ⟨Nat.le_of_ble_eq_true rfl, Nat.le_of_ble_eq_true rfl⟩ dX8_bad_1 (fun H locs hM hS => ?_)
  refine lv_iconst (v := (0 : Int32)) hx hb dX8_bad_4 (by decide) ?_
  refine lv_istore_n (lv' := [(1, .int (0 : Int32)), (0, .ref (ad 60))]) hx hb dX8_bad_5 rfl hl (by decide) rfl (fun ls hl => ?_)
  refine lv_iconst (v := (0 : Int32)) hx hb dX8_bad_6 (by decide) ?_
  refine lv_istore_n (lv' := [(2, .int (0 : Int32)), (1, .int (0 : Int32)), (0, .ref (ad 60))]) hx hb dX8_bad_7 rfl hl (by decide) rfl (fun ls hl => ?_)
  obtain ⟨z6, h1, h⟩ := gbind_e h
  refine wl_X8_bad_8 F E (r := z6) (fun q5 H locs ls e1 hM hS hl => ?_) gFuel (0 : Int32) (0 : Int32) q1 h1 hM hS (lv_sub hl [2, 1, 0] rfl)
  replace e1 : z6 = q5 := e1
  rw [e1] at h
  refine lv_iload_n hx hb dX8_bad_40 rfl (lv_at hl 0 rfl) ?_
  obtain rfl := Option.some.inj h
  exact g_iret hx hb hr hlocks hM hS dX8_bad_41
def f_X8_badLoops (μ : gM) : Option (Int32 × gM) :=
  Option.bind (f_X8_bad  (si μ 60 6 (0 : Int32))) (fun q1 => some (q1.1, q1.2))
set_option maxHeartbeats 4000000 in
set_option maxRecDepth 100000 in
theorem c_X8_badLoops {l : Launch} {D : va_G} {cy : Nat → ClassId} {ad : Nat → Nat} {base : Nat}  {μ : gM} {RES : Int32 × gM} (h : f_X8_badLoops  μ = some RES) : Met l yX8_badLoops [.code yX8_badLoops cX8_badLoops 1 (some .int)] ({ frames := 9, cells := 0, slots := 0, locals := 203 } : Room) (va_Pc [.ref (ad 60)] (gB l gFull D cy ad base μ)) (gQ (some (.int RES.1)) gFull D cy ad base RES.2) 0 0 (gA base) := by
  refine Met.ofW (cc := cX8_badLoops) (maxL := 1) (ret := (some .int)) (by decide) rfl ?_
  intro p e s m args below meth c s₁ B hml0 hv
  obtain ⟨rfl, E, hM⟩ := hv
  have F : gF p s m meth c cX8_badLoops RX8 1 (some .int) := gF_of B hml0
  obtain ⟨hx, hb, hml, hown, hlocks, hr⟩ := id F
  have hS : va_S (gA base) s.heap s.heap [] := va_S.rf
  have hl := lv_entry ([.ref (ad 60)]) (n := 1) (Nat.le_of_ble_eq_true rfl)
  rw [lg_entry_eq]
  generalize (lg_sl ([.ref (ad 60)]) ++ List.replicate (1 - (lg_sl ([.ref (ad 60)])).length) Slot.unset).toArray = ls at hl ⊢
  have hl : lv_has ls 1 [(0, .ref (ad 60))] := hl
  unfold f_X8_badLoops at h
  refine lv_aload_n hx hb dX8_badLoops_0 rfl (lv_at hl 0 rfl) ?_
  refine lv_iconst (v := (0 : Int32)) hx hb dX8_badLoops_1 (by decide) ?_
  refine gp_60_6 hx hb hown E hM hS hk_60 kw_1248 dX8_badLoops_2 (fun H locs hM hS => ?_)
  refine lv_aload_n hx hb dX8_badLoops_5 rfl (lv_at hl 0 rfl) ?_
  obtain ⟨q1, hq1, h⟩ := gbind_e h
  refine g_callV (As := []) (rest := []) hx hb (hml.trans hl.1.symm) hown E hM hS hy_X8_bad kw_1796 (c_X8_bad hq1) hk_60 dd_60 rfl rfl rfl (Nat.le_of_ble_eq_true rfl) ⟨Nat.le_of_ble_eq_true rfl, Nat.le_of_ble_eq_true rfl⟩ ⟨Nat.le_of_ble_eq_true rfl, Nat.le_of_ble_eq_true rfl⟩ dX8_badLoops_6 (fun H locs hM hS => ?_)
  obtain rfl := Option.some.inj h
  exact g_iret hx hb hr hlocks hM hS dX8_badLoops_9
def b_X8_worstLoop_16 (x1 : Int32) (x2 : Int64) (x4 : Int32) (μ : gM) : Option ((Int32 × Int64 × Int32 × gM) ⊕ (Int32 × gM)) :=
  if ((gi μ 60 29) ≤ x4) then some (.inr (x1, μ)) else Option.bind (f_X8_isBad x4 μ) (fun q3 => if ((b2i q3.1) = 0) then some (.inl (x1, x2, (x4 + (1 : Int32)), q3.2)) else Option.bind (f_X8_size ((gi q3.2 60 32).toInt64) q3.2) (fun q5 => Option.bind (f_X8_allowedNow  q3.2) (fun q6 => if (x1 < 0) then some (.inl (x4, (q5 - q6.toInt64), (x4 + (1 : Int32)), q3.2)) else if (x2 < (q5 - q6.toInt64)) then some (.inl (x4, (q5 - q6.toInt64), (x4 + (1 : Int32)), q3.2)) else some (.inl (x1, x2, (x4 + (1 : Int32)), q3.2)))))
set_option maxHeartbeats 4000000 in
set_option maxRecDepth 100000 in
theorem wb_X8_worstLoop_16 {p : Program} {l : Launch} {e : Env} {s : State} {m : MethodId} {args : Array Value} {below : List Frame} {meth : Method} {c : Code} {D : va_G} {cy : Nat → ClassId} {ad : Nat → Nat} {base : Nat} {x1 : Int32} {x2 : Int64} {x4 : Int32} {μ : gM} {o : (Int32 × Int64 × Int32 × gM) ⊕ (Int32 × gM)} {RES : Int32 × gM} (h : b_X8_worstLoop_16 x1 x2 x4 μ = some o) (F : gF p s m meth c cX8_worstLoop RX8 7 (some .int)) (E : gEnv l D cy ad base s) (kc : ∀ (t : Int32 × Int64 × Int32 × gM) {H : Heap} {locs : List Loc} {ls : Array Slot}, o = .inl t → gW gFull D cy ad base t.2.2.2 H → va_S (gA base) s.heap H locs → lv_has ls 7 [(0, .ref (ad 60)), (1, .int t.1), (2, .long t.2.1), (4, .int t.2.2.1)] → W p l e ({ frames := 8, cells := 0, slots := 0, locals := 181 } : Room) s m args below meth c H locs 0 0 (MQ below (gQ (some (.int RES.1)) gFull D cy ad base RES.2) args s 0 0 (gA base)) (F0 m 16 ls [])) (kx : ∀ (t : Int32 × gM) {H : Heap} {locs : List Loc} {ls : Array Slot}, o = .inr t → gW gFull D cy ad base t.2 H → va_S (gA base) s.heap H locs → lv_has ls 7 [(1, .int t.1)] → W p l e ({ frames := 8, cells := 0, slots := 0, locals := 181 } : Room) s m args below meth c H locs 0 0 (MQ below (gQ (some (.int RES.1)) gFull D cy ad base RES.2) args s 0 0 (gA base)) (F0 m 79 ls []))  {H : Heap} {locs : List Loc} {ls : Array Slot} (hM : gW gFull D cy ad base μ H) (hS : va_S (gA base) s.heap H locs) (hl : lv_has ls 7 [(0, .ref (ad 60)), (1, .int x1), (2, .long x2), (4, .int x4)]) : W p l e ({ frames := 8, cells := 0, slots := 0, locals := 181 } : Room) s m args below meth c H locs 0 0 (MQ below (gQ (some (.int RES.1)) gFull D cy ad base RES.2) args s 0 0 (gA base)) (F0 m 16 ls []) := by
  obtain ⟨hx, hb, hml, hown, hlocks, hr⟩ := id F
  unfold b_X8_worstLoop_16 at h
  refine lv_iload hx hb dX8_worstLoop_16 (lv_at hl 3 rfl) ?_
  refine lv_aload_n hx hb dX8_worstLoop_18 rfl (lv_at hl 0 rfl) ?_
  refine gg_60_29 hx hb hown E hM hk_60 kw_1271 dX8_worstLoop_19 ?_
  refine lv_icmp_ge (tgt := 79) hx hb dX8_worstLoop_22 (by decide) (fun c2 => ?_) (fun c2 => ?_)
  · replace h := gif_t c2 h
    exact kx _ (Option.some.inj h).symm hM hS (lv_sub hl [1] rfl)
  · replace h := gif_f c2 h
    refine lv_aload_n hx hb dX8_worstLoop_25 rfl (lv_at hl 0 rfl) ?_
    refine lv_iload hx hb dX8_worstLoop_26 (lv_at hl 3 rfl) ?_
    obtain ⟨q3, hq3, h⟩ := gbind_e h
    refine g_callV (As := [.int x4]) (rest := []) hx hb (hml.trans hl.1.symm) hown E hM hS hy_X8_isBad kw_1800 (c_X8_isBad hq3) hk_60 dd_60 rfl rfl rfl (Nat.le_of_ble_eq_true rfl) ⟨Nat.le_of_ble_eq_true rfl, Nat.le_of_ble_eq_true rfl⟩ ⟨Nat.le_of_ble_eq_true rfl, Nat.le_of_ble_eq_true rfl⟩ dX8_worstLoop_28 (fun H locs hM hS => ?_)
    refine lv_if_ne (tgt := 37) hx hb dX8_worstLoop_31 (by decide) (fun c4 => ?_) (fun c4 => ?_)
    · replace h := gif_f c4 h
      refine lv_aload_n hx hb dX8_worstLoop_37 rfl (lv_at hl 0 rfl) ?_
      refine gg_60_32 hx hb hown E hM hk_60 kw_1274 dX8_worstLoop_38 ?_
      refine lv_i2l (v := (gi q3.2 60 32).toInt64) hx hb dX8_worstLoop_41 rfl ?_
      obtain ⟨q5, hq5, h⟩ := gbind_e h
      refine g_callS (As := [.long ((gi q3.2 60 32).toInt64)]) (rest := []) hx hb (hml.trans hl.1.symm) hown E hM hS hy_X8_size kw_1644 (c_X8_size hq5) rfl rfl (Nat.le_of_ble_eq_true rfl) ⟨Nat.le_of_ble_eq_true rfl, Nat.le_of_ble_eq_true rfl⟩ ⟨Nat.le_of_ble_eq_true rfl, Nat.le_of_ble_eq_true rfl⟩ dX8_worstLoop_42 (fun H locs hM hS => ?_)
      refine lv_aload_n hx hb dX8_worstLoop_45 rfl (lv_at hl 0 rfl) ?_
      obtain ⟨q6, hq6, h⟩ := gbind_e h
      refine g_callV (As := []) (rest := [.long q5]) hx hb (hml.trans hl.1.symm) hown E hM hS hy_X8_allowedNow kw_1782 (c_X8_allowedNow hq6) hk_60 dd_60 rfl rfl rfl (Nat.le_of_ble_eq_true rfl) ⟨Nat.le_of_ble_eq_true rfl, Nat.le_of_ble_eq_true rfl⟩ ⟨Nat.le_of_ble_eq_true rfl, Nat.le_of_ble_eq_true rfl⟩ dX8_worstLoop_46 (fun H locs hM hS => ?_)
      refine lv_i2l (v := q6.toInt64) hx hb dX8_worstLoop_49 rfl ?_
      refine lv_lsub hx hb dX8_worstLoop_50 ?_
      refine lv_lstore (lv' := [(5, .long (q5 - q6.toInt64)), (0, .ref (ad 60)), (1, .int x1), (2, .long x2), (4, .int x4)]) hx hb dX8_worstLoop_51 hl (by decide) rfl (fun ls hl => ?_)
      refine lv_iload_n hx hb dX8_worstLoop_53 rfl (lv_at hl 2 rfl) ?_
      refine lv_if_lt (tgt := 67) hx hb dX8_worstLoop_54 (by decide) (fun c7 => ?_) (fun c7 => ?_)
      · replace h := gif_t c7 h
        refine lv_iload hx hb dX8_worstLoop_67 (lv_at hl 4 rfl) ?_
        refine lv_istore_n (lv' := [(1, .int x4), (5, .long (q5 - q6.toInt64)), (0, .ref (ad 60)), (2, .long x2), (4, .int x4)]) hx hb dX8_worstLoop_69 rfl hl (by decide) rfl (fun ls hl => ?_)
        refine lv_lload hx hb dX8_worstLoop_70 (lv_at hl 1 rfl) ?_
        refine lv_lstore_n (lv' := [(2, .long (q5 - q6.toInt64)), (1, .int x4), (5, .long (q5 - q6.toInt64)), (0, .ref (ad 60)), (4, .int x4)]) hx hb dX8_worstLoop_72 rfl hl (by decide) rfl (fun ls hl => ?_)
        refine lv_iinc (v := (x4 + (1 : Int32))) (lv' := [(4, .int (x4 + (1 : Int32))), (2, .long (q5 - q6.toInt64)), (1, .int x4), (5, .long (q5 - q6.toInt64)), (0, .ref (ad 60))]) hx hb dX8_worstLoop_73 hl (k := 4) rfl rfl (by decide) rfl (fun ls hl => ?_)
        refine lv_goto (tgt := 16) hx hb dX8_worstLoop_76 (by decide) ?_
        exact kc _ (Option.some.inj h).symm hM hS (lv_sub hl [4, 2, 1, 0] rfl)
      · replace h := gif_f c7 h
        refine lv_lload hx hb dX8_worstLoop_57 (lv_at hl 0 rfl) ?_
        refine lv_lload_n hx hb dX8_worstLoop_59 rfl (lv_at hl 3 rfl) ?_
        refine W.lcmp hx hb dX8_worstLoop_60 ?_
        refine lv_if_gt (tgt := 67) hx hb dX8_worstLoop_61 (by decide) (fun c8 => ?_) (fun c8 => ?_)
        · replace c8 := (lg_cmp_gt _ _).mp c8
          replace h := gif_t c8 h
          refine lv_iload hx hb dX8_worstLoop_67 (lv_at hl 4 rfl) ?_
          refine lv_istore_n (lv' := [(1, .int x4), (5, .long (q5 - q6.toInt64)), (0, .ref (ad 60)), (2, .long x2), (4, .int x4)]) hx hb dX8_worstLoop_69 rfl hl (by decide) rfl (fun ls hl => ?_)
          refine lv_lload hx hb dX8_worstLoop_70 (lv_at hl 1 rfl) ?_
          refine lv_lstore_n (lv' := [(2, .long (q5 - q6.toInt64)), (1, .int x4), (5, .long (q5 - q6.toInt64)), (0, .ref (ad 60)), (4, .int x4)]) hx hb dX8_worstLoop_72 rfl hl (by decide) rfl (fun ls hl => ?_)
          refine lv_iinc (v := (x4 + (1 : Int32))) (lv' := [(4, .int (x4 + (1 : Int32))), (2, .long (q5 - q6.toInt64)), (1, .int x4), (5, .long (q5 - q6.toInt64)), (0, .ref (ad 60))]) hx hb dX8_worstLoop_73 hl (k := 4) rfl rfl (by decide) rfl (fun ls hl => ?_)
          refine lv_goto (tgt := 16) hx hb dX8_worstLoop_76 (by decide) ?_
          exact kc _ (Option.some.inj h).symm hM hS (lv_sub hl [4, 2, 1, 0] rfl)
        · replace c8 := fun w => c8 ((lg_cmp_gt _ _).mpr w)
          replace h := gif_f c8 h
          refine lv_goto (tgt := 73) hx hb dX8_worstLoop_64 (by decide) ?_
          refine lv_iinc (v := (x4 + (1 : Int32))) (lv' := [(4, .int (x4 + (1 : Int32))), (5, .long (q5 - q6.toInt64)), (0, .ref (ad 60)), (1, .int x1), (2, .long x2)]) hx hb dX8_worstLoop_73 hl (k := 4) rfl rfl (by decide) rfl (fun ls hl => ?_)
          refine lv_goto (tgt := 16) hx hb dX8_worstLoop_76 (by decide) ?_
          exact kc _ (Option.some.inj h).symm hM hS (lv_sub hl [2, 3, 4, 0] rfl)
    · replace h := gif_t c4 h
      refine lv_goto (tgt := 73) hx hb dX8_worstLoop_34 (by decide) ?_
      refine lv_iinc (v := (x4 + (1 : Int32))) (lv' := [(4, .int (x4 + (1 : Int32))), (0, .ref (ad 60)), (1, .int x1), (2, .long x2)]) hx hb dX8_worstLoop_73 hl (k := 3) rfl rfl (by decide) rfl (fun ls hl => ?_)
      refine lv_goto (tgt := 16) hx hb dX8_worstLoop_76 (by decide) ?_
      exact kc _ (Option.some.inj h).symm hM hS (lv_sub hl [1, 2, 3, 0] rfl)
set_option maxHeartbeats 4000000 in
theorem wl_X8_worstLoop_16 {p : Program} {l : Launch} {e : Env} {s : State} {m : MethodId} {args : Array Value} {below : List Frame} {meth : Method} {c : Code} {D : va_G} {cy : Nat → ClassId} {ad : Nat → Nat} {base : Nat}  {r : Int32 × gM} {RES : Int32 × gM} (F : gF p s m meth c cX8_worstLoop RX8 7 (some .int)) (E : gEnv l D cy ad base s) (kx : ∀ (t : Int32 × gM) {H : Heap} {locs : List Loc} {ls : Array Slot}, r = t → gW gFull D cy ad base t.2 H → va_S (gA base) s.heap H locs → lv_has ls 7 [(1, .int t.1)] → W p l e ({ frames := 8, cells := 0, slots := 0, locals := 181 } : Room) s m args below meth c H locs 0 0 (MQ below (gQ (some (.int RES.1)) gFull D cy ad base RES.2) args s 0 0 (gA base)) (F0 m 79 ls []))  : ∀ (n : Nat) (x1 : Int32) (x2 : Int64) (x4 : Int32) (μ : gM), gloop (fun t => b_X8_worstLoop_16  t.1 t.2.1 t.2.2.1 t.2.2.2) n (x1, x2, x4, μ) = some r → ∀ {H : Heap} {locs : List Loc} {ls : Array Slot}, gW gFull D cy ad base μ H → va_S (gA base) s.heap H locs → lv_has ls 7 [(0, .ref (ad 60)), (1, .int x1), (2, .long x2), (4, .int x4)] → W p l e ({ frames := 8, cells := 0, slots := 0, locals := 181 } : Room) s m args below meth c H locs 0 0 (MQ below (gQ (some (.int RES.1)) gFull D cy ad base RES.2) args s 0 0 (gA base)) (F0 m 16 ls []) := by
  intro n
  induction n with
  | zero =>
    intro x1 x2 x4 μ h
    exact (gloop_0 h).elim
  | succ n ih =>
    intro x1 x2 x4 μ h H locs ls hM hS hl
    obtain ⟨o, h0, hc, hq⟩ := gloop_s h
    have h1 : b_X8_worstLoop_16 x1 x2 x4 μ = some o := h0
    exact wb_X8_worstLoop_16 h1 F E (fun t H locs ls ho hM hS hl => ih t.1 t.2.1 t.2.2.1 t.2.2.2 (hc t ho) hM hS hl) (fun t H locs ls ho hM hS hl => kx t (hq _ ho).symm hM hS hl) hM hS hl
def f_X8_worstLoop (μ : gM) : Option (Int32 × gM) :=
  Option.bind (f_X8_layLoops  (si μ 60 6 (0 : Int32))) (fun q1 => Option.bind (gloop (fun t => b_X8_worstLoop_16  t.1 t.2.1 t.2.2.1 t.2.2.2) gFuel ((-1 : Int32), (0 : Int64), (0 : Int32), q1)) (fun q9 => some (q9.1, q9.2)))
set_option maxHeartbeats 4000000 in
set_option maxRecDepth 100000 in
theorem c_X8_worstLoop {l : Launch} {D : va_G} {cy : Nat → ClassId} {ad : Nat → Nat} {base : Nat}  {μ : gM} {RES : Int32 × gM} (h : f_X8_worstLoop  μ = some RES) : Met l yX8_worstLoop [.code yX8_worstLoop cX8_worstLoop 7 (some .int)] ({ frames := 8, cells := 0, slots := 0, locals := 181 } : Room) (va_Pc [.ref (ad 60)] (gB l gFull D cy ad base μ)) (gQ (some (.int RES.1)) gFull D cy ad base RES.2) 0 0 (gA base) := by
  refine Met.ofW (cc := cX8_worstLoop) (maxL := 7) (ret := (some .int)) (by decide) rfl ?_
  intro p e s m args below meth c s₁ B hml0 hv
  obtain ⟨rfl, E, hM⟩ := hv
  have F : gF p s m meth c cX8_worstLoop RX8 7 (some .int) := gF_of B hml0
  obtain ⟨hx, hb, hml, hown, hlocks, hr⟩ := id F
  have hS : va_S (gA base) s.heap s.heap [] := va_S.rf
  have hl := lv_entry ([.ref (ad 60)]) (n := 7) (Nat.le_of_ble_eq_true rfl)
  rw [lg_entry_eq]
  generalize (lg_sl ([.ref (ad 60)]) ++ List.replicate (7 - (lg_sl ([.ref (ad 60)])).length) Slot.unset).toArray = ls at hl ⊢
  have hl : lv_has ls 7 [(0, .ref (ad 60))] := hl
  unfold f_X8_worstLoop at h
  refine lv_aload_n hx hb dX8_worstLoop_0 rfl (lv_at hl 0 rfl) ?_
  refine lv_iconst (v := (0 : Int32)) hx hb dX8_worstLoop_1 (by decide) ?_
  refine gp_60_6 hx hb hown E hM hS hk_60 kw_1248 dX8_worstLoop_2 (fun H locs hM hS => ?_)
  refine lv_aload_n hx hb dX8_worstLoop_5 rfl (lv_at hl 0 rfl) ?_
  obtain ⟨q1, hq1, h⟩ := gbind_e h
  refine g_callV (As := []) (rest := []) hx hb (hml.trans hl.1.symm) hown E hM hS hy_X8_layLoops kw_1738 (c_X8_layLoops hq1) hk_60 dd_60 rfl rfl rfl (Nat.le_of_ble_eq_true rfl) ⟨Nat.le_of_ble_eq_true rfl, Nat.le_of_ble_eq_true rfl⟩ ⟨Nat.le_of_ble_eq_true rfl, Nat.le_of_ble_eq_true rfl⟩ dX8_worstLoop_6 (fun H locs hM hS => ?_)
  refine lv_iconst (v := (-1 : Int32)) hx hb dX8_worstLoop_9 (by decide) ?_
  refine lv_istore_n (lv' := [(1, .int (-1 : Int32)), (0, .ref (ad 60))]) hx hb dX8_worstLoop_10 rfl hl (by decide) rfl (fun ls hl => ?_)
  refine lv_lconst (v := (0 : Int64)) hx hb dX8_worstLoop_11 (by decide) ?_
  refine lv_lstore_n (lv' := [(2, .long (0 : Int64)), (1, .int (-1 : Int32)), (0, .ref (ad 60))]) hx hb dX8_worstLoop_12 rfl hl (by decide) rfl (fun ls hl => ?_)
  refine lv_iconst (v := (0 : Int32)) hx hb dX8_worstLoop_13 (by decide) ?_
  refine lv_istore (lv' := [(4, .int (0 : Int32)), (2, .long (0 : Int64)), (1, .int (-1 : Int32)), (0, .ref (ad 60))]) hx hb dX8_worstLoop_14 hl (by decide) rfl (fun ls hl => ?_)
  obtain ⟨z10, h1, h⟩ := gbind_e h
  refine wl_X8_worstLoop_16 F E (r := z10) (fun q9 H locs ls e1 hM hS hl => ?_) gFuel (-1 : Int32) (0 : Int64) (0 : Int32) q1 h1 hM hS (lv_sub hl [3, 2, 1, 0] rfl)
  replace e1 : z10 = q9 := e1
  rw [e1] at h
  refine lv_iload_n hx hb dX8_worstLoop_79 rfl (lv_at hl 0 rfl) ?_
  obtain rfl := Option.some.inj h
  exact g_iret hx hb hr hlocks hM hS dX8_worstLoop_80
def b_X8_holdsLine_2 (x1 : Int32) (x2 : Int32) (μ : gM) : Option ((Int32) ⊕ ((Unit) ⊕ (Bool))) :=
  if ((gi μ 60 31) ≤ x2) then some (.inr (.inl ())) else gchk (gIn x2 20) (gchk (¬ (100 : Int32) = 0) (if (((gi μ 74 x2.toNatClampNeg) - (gi μ 74 x2.toNatClampNeg) / (100 : Int32) * (100 : Int32)) = x1) then some (.inr (.inr true)) else some (.inl (x2 + (1 : Int32)))))
set_option maxHeartbeats 4000000 in
set_option maxRecDepth 100000 in
theorem wb_X8_holdsLine_2 {p : Program} {l : Launch} {e : Env} {s : State} {m : MethodId} {args : Array Value} {below : List Frame} {meth : Method} {c : Code} {D : va_G} {cy : Nat → ClassId} {ad : Nat → Nat} {base : Nat} {x1 : Int32} {x2 : Int32} {μ : gM} {o : (Int32) ⊕ ((Unit) ⊕ (Bool))} {RES : Bool} (h : b_X8_holdsLine_2 x1 x2 μ = some o) (F : gF p s m meth c cX8_holdsLine RX8 3 (some .boolean)) (E : gEnv l D cy ad base s) (kc : ∀ (t : Int32) {H : Heap} {locs : List Loc} {ls : Array Slot}, o = .inl t → gW gFull D cy ad base μ H → va_S (gA base) s.heap H locs → lv_has ls 3 [(0, .ref (ad 60)), (1, .int x1), (2, .int t)] → W p l e ({ frames := 0, cells := 0, slots := 0, locals := 0 } : Room) s m args below meth c H locs 0 0 (MQ below (gQ (some (.int (b2i RES))) gFull D cy ad base μ) args s 0 0 (gA base)) (F0 m 2 ls [])) (kx : ∀ (t : Unit) {H : Heap} {locs : List Loc} {ls : Array Slot}, o = .inr (.inl t) → gW gFull D cy ad base μ H → va_S (gA base) s.heap H locs → lv_has ls 3 [] → W p l e ({ frames := 0, cells := 0, slots := 0, locals := 0 } : Room) s m args below meth c H locs 0 0 (MQ below (gQ (some (.int (b2i RES))) gFull D cy ad base μ) args s 0 0 (gA base)) (F0 m 31 ls [])) (kr : ∀ x : Bool, o = .inr (.inr x) → x = RES) {H : Heap} {locs : List Loc} {ls : Array Slot} (hM : gW gFull D cy ad base μ H) (hS : va_S (gA base) s.heap H locs) (hl : lv_has ls 3 [(0, .ref (ad 60)), (1, .int x1), (2, .int x2)]) : W p l e ({ frames := 0, cells := 0, slots := 0, locals := 0 } : Room) s m args below meth c H locs 0 0 (MQ below (gQ (some (.int (b2i RES))) gFull D cy ad base μ) args s 0 0 (gA base)) (F0 m 2 ls []) := by
  obtain ⟨hx, hb, hml, hown, hlocks, hr⟩ := id F
  unfold b_X8_holdsLine_2 at h
  refine lv_iload_n hx hb dX8_holdsLine_2 rfl (lv_at hl 2 rfl) ?_
  refine lv_aload_n hx hb dX8_holdsLine_3 rfl (lv_at hl 0 rfl) ?_
  refine gg_60_31 hx hb hown E hM hk_60 kw_1273 dX8_holdsLine_4 ?_
  refine lv_icmp_ge (tgt := 31) hx hb dX8_holdsLine_7 (by decide) (fun c1 => ?_) (fun c1 => ?_)
  · replace h := gif_t c1 h
    exact kx _ (Option.some.inj h).symm hM hS (lv_sub hl [] rfl)
  · replace h := gif_f c1 h
    refine lv_aload_n hx hb dX8_holdsLine_10 rfl (lv_at hl 0 rfl) ?_
    refine gg_60_30 hx hb hown E hM hk_60 kw_1272 dX8_holdsLine_11 ?_
    refine lv_iload_n hx hb dX8_holdsLine_14 rfl (lv_at hl 2 rfl) ?_
    obtain ⟨c2, h⟩ := gchk_e h
    refine g_iald hx hb E hM hk_74 dd_74 c2 dX8_holdsLine_15 ?_
    refine lv_bipush (v := (100 : Int32)) hx hb dX8_holdsLine_16 (by decide) ?_
    obtain ⟨c4, h⟩ := gchk_e h
    refine lv_irem hx hb dX8_holdsLine_18 c4 ?_
    refine lv_iload_n hx hb dX8_holdsLine_19 rfl (lv_at hl 1 rfl) ?_
    refine lv_icmp_ne (tgt := 25) hx hb dX8_holdsLine_20 (by decide) (fun c3 => ?_) (fun c3 => ?_)
    · replace h := gif_f c3 h
      refine lv_iinc (v := (x2 + (1 : Int32))) (lv' := [(2, .int (x2 + (1 : Int32))), (0, .ref (ad 60)), (1, .int x1)]) hx hb dX8_holdsLine_25 hl (k := 2) rfl rfl (by decide) rfl (fun ls hl => ?_)
      refine lv_goto (tgt := 2) hx hb dX8_holdsLine_28 (by decide) ?_
      exact kc _ (Option.some.inj h).symm hM hS (lv_sub hl [1, 2, 0] rfl)
    · replace h := gif_t c3 h
      refine lv_iconst (v := (1 : Int32)) hx hb dX8_holdsLine_23 (by decide) ?_
      obtain rfl := kr _ (Option.some.inj h).symm
      exact g_zret (v := b2i true) hx hb hr hlocks (b2i_nar true) hM hS dX8_holdsLine_24
set_option maxHeartbeats 4000000 in
theorem wl_X8_holdsLine_2 {p : Program} {l : Launch} {e : Env} {s : State} {m : MethodId} {args : Array Value} {below : List Frame} {meth : Method} {c : Code} {D : va_G} {cy : Nat → ClassId} {ad : Nat → Nat} {base : Nat} {x1 : Int32} {μ : gM} {r : (Unit) ⊕ (Bool)} {RES : Bool} (F : gF p s m meth c cX8_holdsLine RX8 3 (some .boolean)) (E : gEnv l D cy ad base s) (kx : ∀ (t : Unit) {H : Heap} {locs : List Loc} {ls : Array Slot}, r = .inl t → gW gFull D cy ad base μ H → va_S (gA base) s.heap H locs → lv_has ls 3 [] → W p l e ({ frames := 0, cells := 0, slots := 0, locals := 0 } : Room) s m args below meth c H locs 0 0 (MQ below (gQ (some (.int (b2i RES))) gFull D cy ad base μ) args s 0 0 (gA base)) (F0 m 31 ls [])) (kr : ∀ x : Bool, r = .inr x → x = RES) : ∀ (n : Nat) (x2 : Int32), gloop (fun t => b_X8_holdsLine_2 x1 t μ) n x2 = some r → ∀ {H : Heap} {locs : List Loc} {ls : Array Slot}, gW gFull D cy ad base μ H → va_S (gA base) s.heap H locs → lv_has ls 3 [(0, .ref (ad 60)), (1, .int x1), (2, .int x2)] → W p l e ({ frames := 0, cells := 0, slots := 0, locals := 0 } : Room) s m args below meth c H locs 0 0 (MQ below (gQ (some (.int (b2i RES))) gFull D cy ad base μ) args s 0 0 (gA base)) (F0 m 2 ls []) := by
  intro n
  induction n with
  | zero =>
    intro x2 h
    exact (gloop_0 h).elim
  | succ n ih =>
    intro x2 h H locs ls hM hS hl
    obtain ⟨o, h0, hc, hq⟩ := gloop_s h
    have h1 : b_X8_holdsLine_2 x1 x2 μ = some o := h0
    exact wb_X8_holdsLine_2 h1 F E (fun t H locs ls ho hM hS hl => ih t (hc t ho) hM hS hl) (fun t H locs ls ho hM hS hl => kx t (hq _ ho).symm hM hS hl) (fun x ho => kr x (hq _ ho).symm) hM hS hl
def f_X8_holdsLine (p1 : Int32) (μ : gM) : Option (Bool) :=
  Option.bind (gloop (fun t => b_X8_holdsLine_2 p1 t μ) gFuel (0 : Int32)) (fun q5 => Sum.elim (fun t6 => some false) (fun x => some x) q5)
set_option maxHeartbeats 4000000 in
set_option maxRecDepth 100000 in
theorem c_X8_holdsLine {l : Launch} {D : va_G} {cy : Nat → ClassId} {ad : Nat → Nat} {base : Nat} {p1 : Int32} {μ : gM} {RES : Bool} (h : f_X8_holdsLine p1 μ = some RES) : Met l yX8_holdsLine [.code yX8_holdsLine cX8_holdsLine 3 (some .boolean)] ({ frames := 0, cells := 0, slots := 0, locals := 0 } : Room) (va_Pc [.ref (ad 60), .int p1] (gB l gFull D cy ad base μ)) (gQ (some (.int (b2i RES))) gFull D cy ad base μ) 0 0 (gA base) := by
  refine Met.ofW (cc := cX8_holdsLine) (maxL := 3) (ret := (some .boolean)) (by decide) rfl ?_
  intro p e s m args below meth c s₁ B hml0 hv
  obtain ⟨rfl, E, hM⟩ := hv
  have F : gF p s m meth c cX8_holdsLine RX8 3 (some .boolean) := gF_of B hml0
  obtain ⟨hx, hb, hml, hown, hlocks, hr⟩ := id F
  have hS : va_S (gA base) s.heap s.heap [] := va_S.rf
  have hl := lv_entry ([.ref (ad 60), .int p1]) (n := 3) (Nat.le_of_ble_eq_true rfl)
  rw [lg_entry_eq]
  generalize (lg_sl ([.ref (ad 60), .int p1]) ++ List.replicate (3 - (lg_sl ([.ref (ad 60), .int p1])).length) Slot.unset).toArray = ls at hl ⊢
  have hl : lv_has ls 3 [(0, .ref (ad 60)), (1, .int p1)] := hl
  unfold f_X8_holdsLine at h
  refine lv_iconst (v := (0 : Int32)) hx hb dX8_holdsLine_0 (by decide) ?_
  refine lv_istore_n (lv' := [(2, .int (0 : Int32)), (0, .ref (ad 60)), (1, .int p1)]) hx hb dX8_holdsLine_1 rfl hl (by decide) rfl (fun ls hl => ?_)
  obtain ⟨q5, h1, h⟩ := gbind_e h
  refine wl_X8_holdsLine_2 F E (r := q5) (fun t6 H locs ls e1 hM hS hl => ?_) (fun x ex => ?_) gFuel (0 : Int32) h1 hM hS (lv_sub hl [1, 2, 0] rfl)
  · replace h := gsum_l e1 h
    refine lv_iconst (v := (0 : Int32)) hx hb dX8_holdsLine_31 (by decide) ?_
    obtain rfl := Option.some.inj h
    exact g_zret (v := b2i false) hx hb hr hlocks (b2i_nar false) hM hS dX8_holdsLine_32
  · exact Option.some.inj (gsum_r ex h)
def b_X8_blame_4 (x1 : Int32) (x2 : Int32) (x3 : Int32) (μ : gM) : Option ((Int32 × Int32 × gM) ⊕ ((Int32 × gM) ⊕ (Int32 × gM))) :=
  if ((gi μ 60 29) ≤ x3) then some (.inr (.inl (x2, μ))) else Option.bind (f_X8_isBad x3 μ) (fun q2 => Option.bind (f_X8_holdsLine x1 q2.2) (fun q3 => if ((b2i q3) = 0) then some (.inl (x2, (x3 + (1 : Int32)), q2.2)) else if ((b2i q2.1) = 0) then some (.inr (.inr ((0 : Int32), q2.2))) else some (.inl ((x2 + (1 : Int32)), (x3 + (1 : Int32)), q2.2))))
set_option maxHeartbeats 4000000 in
set_option maxRecDepth 100000 in
theorem wb_X8_blame_4 {p : Program} {l : Launch} {e : Env} {s : State} {m : MethodId} {args : Array Value} {below : List Frame} {meth : Method} {c : Code} {D : va_G} {cy : Nat → ClassId} {ad : Nat → Nat} {base : Nat} {x1 : Int32} {x2 : Int32} {x3 : Int32} {μ : gM} {o : (Int32 × Int32 × gM) ⊕ ((Int32 × gM) ⊕ (Int32 × gM))} {RES : Int32 × gM} (h : b_X8_blame_4 x1 x2 x3 μ = some o) (F : gF p s m meth c cX8_blame RX8 5 (some .int)) (E : gEnv l D cy ad base s) (kc : ∀ (t : Int32 × Int32 × gM) {H : Heap} {locs : List Loc} {ls : Array Slot}, o = .inl t → gW gFull D cy ad base t.2.2 H → va_S (gA base) s.heap H locs → lv_has ls 5 [(0, .ref (ad 60)), (1, .int x1), (2, .int t.1), (3, .int t.2.1)] → W p l e ({ frames := 8, cells := 0, slots := 0, locals := 181 } : Room) s m args below meth c H locs 0 0 (MQ below (gQ (some (.int RES.1)) gFull D cy ad base RES.2) args s 0 0 (gA base)) (F0 m 4 ls [])) (kx : ∀ (t : Int32 × gM) {H : Heap} {locs : List Loc} {ls : Array Slot}, o = .inr (.inl t) → gW gFull D cy ad base t.2 H → va_S (gA base) s.heap H locs → lv_has ls 5 [(2, .int t.1)] → W p l e ({ frames := 8, cells := 0, slots := 0, locals := 181 } : Room) s m args below meth c H locs 0 0 (MQ below (gQ (some (.int RES.1)) gFull D cy ad base RES.2) args s 0 0 (gA base)) (F0 m 46 ls [])) (kr : ∀ x : Int32 × gM, o = .inr (.inr x) → x = RES) {H : Heap} {locs : List Loc} {ls : Array Slot} (hM : gW gFull D cy ad base μ H) (hS : va_S (gA base) s.heap H locs) (hl : lv_has ls 5 [(0, .ref (ad 60)), (1, .int x1), (2, .int x2), (3, .int x3)]) : W p l e ({ frames := 8, cells := 0, slots := 0, locals := 181 } : Room) s m args below meth c H locs 0 0 (MQ below (gQ (some (.int RES.1)) gFull D cy ad base RES.2) args s 0 0 (gA base)) (F0 m 4 ls []) := by
  obtain ⟨hx, hb, hml, hown, hlocks, hr⟩ := id F
  unfold b_X8_blame_4 at h
  refine lv_iload_n hx hb dX8_blame_4 rfl (lv_at hl 3 rfl) ?_
  refine lv_aload_n hx hb dX8_blame_5 rfl (lv_at hl 0 rfl) ?_
  refine gg_60_29 hx hb hown E hM hk_60 kw_1271 dX8_blame_6 ?_
  refine lv_icmp_ge (tgt := 46) hx hb dX8_blame_9 (by decide) (fun c1 => ?_) (fun c1 => ?_)
  · replace h := gif_t c1 h
    exact kx _ (Option.some.inj h).symm hM hS (lv_sub hl [2] rfl)
  · replace h := gif_f c1 h
    refine lv_aload_n hx hb dX8_blame_12 rfl (lv_at hl 0 rfl) ?_
    refine lv_iload_n hx hb dX8_blame_13 rfl (lv_at hl 3 rfl) ?_
    obtain ⟨q2, hq2, h⟩ := gbind_e h
    refine g_callV (As := [.int x3]) (rest := []) hx hb (hml.trans hl.1.symm) hown E hM hS hy_X8_isBad kw_1800 (c_X8_isBad hq2) hk_60 dd_60 rfl rfl rfl (Nat.le_of_ble_eq_true rfl) ⟨Nat.le_of_ble_eq_true rfl, Nat.le_of_ble_eq_true rfl⟩ ⟨Nat.le_of_ble_eq_true rfl, Nat.le_of_ble_eq_true rfl⟩ dX8_blame_14 (fun H locs hM hS => ?_)
    refine lv_istore (lv' := [(4, .int (b2i q2.1)), (0, .ref (ad 60)), (1, .int x1), (2, .int x2), (3, .int x3)]) hx hb dX8_blame_17 hl (by decide) rfl (fun ls hl => ?_)
    refine lv_aload_n hx hb dX8_blame_19 rfl (lv_at hl 1 rfl) ?_
    refine lv_iload_n hx hb dX8_blame_20 rfl (lv_at hl 2 rfl) ?_
    obtain ⟨q3, hq3, h⟩ := gbind_e h
    refine g_callV (As := [.int x1]) (rest := []) hx hb (hml.trans hl.1.symm) hown E hM hS hy_X8_holdsLine kw_1816 (c_X8_holdsLine hq3) hk_60 dd_60 rfl rfl rfl (Nat.le_of_ble_eq_true rfl) ⟨Nat.le_of_ble_eq_true rfl, Nat.le_of_ble_eq_true rfl⟩ ⟨Nat.le_of_ble_eq_true rfl, Nat.le_of_ble_eq_true rfl⟩ dX8_blame_21 (fun H locs hM hS => ?_)
    refine lv_if_ne (tgt := 30) hx hb dX8_blame_24 (by decide) (fun c4 => ?_) (fun c4 => ?_)
    · replace h := gif_f c4 h
      refine lv_iload hx hb dX8_blame_30 (lv_at hl 0 rfl) ?_
      refine lv_if_ne (tgt := 37) hx hb dX8_blame_32 (by decide) (fun c5 => ?_) (fun c5 => ?_)
      · replace h := gif_f c5 h
        refine lv_iinc (v := (x2 + (1 : Int32))) (lv' := [(2, .int (x2 + (1 : Int32))), (4, .int (b2i q2.1)), (0, .ref (ad 60)), (1, .int x1), (3, .int x3)]) hx hb dX8_blame_37 hl (k := 3) rfl rfl (by decide) rfl (fun ls hl => ?_)
        refine lv_iinc (v := (x3 + (1 : Int32))) (lv' := [(3, .int (x3 + (1 : Int32))), (2, .int (x2 + (1 : Int32))), (4, .int (b2i q2.1)), (0, .ref (ad 60)), (1, .int x1)]) hx hb dX8_blame_40 hl (k := 4) rfl rfl (by decide) rfl (fun ls hl => ?_)
        refine lv_goto (tgt := 4) hx hb dX8_blame_43 (by decide) ?_
        exact kc _ (Option.some.inj h).symm hM hS (lv_sub hl [3, 4, 1, 0] rfl)
      · replace h := gif_t c5 h
        refine lv_iconst (v := (0 : Int32)) hx hb dX8_blame_35 (by decide) ?_
        obtain rfl := kr _ (Option.some.inj h).symm
        exact g_iret hx hb hr hlocks hM hS dX8_blame_36
    · replace h := gif_t c4 h
      refine lv_goto (tgt := 40) hx hb dX8_blame_27 (by decide) ?_
      refine lv_iinc (v := (x3 + (1 : Int32))) (lv' := [(3, .int (x3 + (1 : Int32))), (4, .int (b2i q2.1)), (0, .ref (ad 60)), (1, .int x1), (2, .int x2)]) hx hb dX8_blame_40 hl (k := 4) rfl rfl (by decide) rfl (fun ls hl => ?_)
      refine lv_goto (tgt := 4) hx hb dX8_blame_43 (by decide) ?_
      exact kc _ (Option.some.inj h).symm hM hS (lv_sub hl [2, 3, 4, 0] rfl)
set_option maxHeartbeats 4000000 in
theorem wl_X8_blame_4 {p : Program} {l : Launch} {e : Env} {s : State} {m : MethodId} {args : Array Value} {below : List Frame} {meth : Method} {c : Code} {D : va_G} {cy : Nat → ClassId} {ad : Nat → Nat} {base : Nat} {x1 : Int32} {r : (Int32 × gM) ⊕ (Int32 × gM)} {RES : Int32 × gM} (F : gF p s m meth c cX8_blame RX8 5 (some .int)) (E : gEnv l D cy ad base s) (kx : ∀ (t : Int32 × gM) {H : Heap} {locs : List Loc} {ls : Array Slot}, r = .inl t → gW gFull D cy ad base t.2 H → va_S (gA base) s.heap H locs → lv_has ls 5 [(2, .int t.1)] → W p l e ({ frames := 8, cells := 0, slots := 0, locals := 181 } : Room) s m args below meth c H locs 0 0 (MQ below (gQ (some (.int RES.1)) gFull D cy ad base RES.2) args s 0 0 (gA base)) (F0 m 46 ls [])) (kr : ∀ x : Int32 × gM, r = .inr x → x = RES) : ∀ (n : Nat) (x2 : Int32) (x3 : Int32) (μ : gM), gloop (fun t => b_X8_blame_4 x1 t.1 t.2.1 t.2.2) n (x2, x3, μ) = some r → ∀ {H : Heap} {locs : List Loc} {ls : Array Slot}, gW gFull D cy ad base μ H → va_S (gA base) s.heap H locs → lv_has ls 5 [(0, .ref (ad 60)), (1, .int x1), (2, .int x2), (3, .int x3)] → W p l e ({ frames := 8, cells := 0, slots := 0, locals := 181 } : Room) s m args below meth c H locs 0 0 (MQ below (gQ (some (.int RES.1)) gFull D cy ad base RES.2) args s 0 0 (gA base)) (F0 m 4 ls []) := by
  intro n
  induction n with
  | zero =>
    intro x2 x3 μ h
    exact (gloop_0 h).elim
  | succ n ih =>
    intro x2 x3 μ h H locs ls hM hS hl
    obtain ⟨o, h0, hc, hq⟩ := gloop_s h
    have h1 : b_X8_blame_4 x1 x2 x3 μ = some o := h0
    exact wb_X8_blame_4 h1 F E (fun t H locs ls ho hM hS hl => ih t.1 t.2.1 t.2.2 (hc t ho) hM hS hl) (fun t H locs ls ho hM hS hl => kx t (hq _ ho).symm hM hS hl) (fun x ho => kr x (hq _ ho).symm) hM hS hl
def f_X8_blame (p1 : Int32) (μ : gM) : Option (Int32 × gM) :=
  Option.bind (gloop (fun t => b_X8_blame_4 p1 t.1 t.2.1 t.2.2) gFuel ((0 : Int32), (0 : Int32), μ)) (fun q6 => Sum.elim (fun t7 => some (t7.1, t7.2)) (fun x => some x) q6)
set_option maxHeartbeats 4000000 in
set_option maxRecDepth 100000 in
theorem c_X8_blame {l : Launch} {D : va_G} {cy : Nat → ClassId} {ad : Nat → Nat} {base : Nat} {p1 : Int32} {μ : gM} {RES : Int32 × gM} (h : f_X8_blame p1 μ = some RES) : Met l yX8_blame [.code yX8_blame cX8_blame 5 (some .int)] ({ frames := 8, cells := 0, slots := 0, locals := 181 } : Room) (va_Pc [.ref (ad 60), .int p1] (gB l gFull D cy ad base μ)) (gQ (some (.int RES.1)) gFull D cy ad base RES.2) 0 0 (gA base) := by
  refine Met.ofW (cc := cX8_blame) (maxL := 5) (ret := (some .int)) (by decide) rfl ?_
  intro p e s m args below meth c s₁ B hml0 hv
  obtain ⟨rfl, E, hM⟩ := hv
  have F : gF p s m meth c cX8_blame RX8 5 (some .int) := gF_of B hml0
  obtain ⟨hx, hb, hml, hown, hlocks, hr⟩ := id F
  have hS : va_S (gA base) s.heap s.heap [] := va_S.rf
  have hl := lv_entry ([.ref (ad 60), .int p1]) (n := 5) (Nat.le_of_ble_eq_true rfl)
  rw [lg_entry_eq]
  generalize (lg_sl ([.ref (ad 60), .int p1]) ++ List.replicate (5 - (lg_sl ([.ref (ad 60), .int p1])).length) Slot.unset).toArray = ls at hl ⊢
  have hl : lv_has ls 5 [(0, .ref (ad 60)), (1, .int p1)] := hl
  unfold f_X8_blame at h
  refine lv_iconst (v := (0 : Int32)) hx hb dX8_blame_0 (by decide) ?_
  refine lv_istore_n (lv' := [(2, .int (0 : Int32)), (0, .ref (ad 60)), (1, .int p1)]) hx hb dX8_blame_1 rfl hl (by decide) rfl (fun ls hl => ?_)
  refine lv_iconst (v := (0 : Int32)) hx hb dX8_blame_2 (by decide) ?_
  refine lv_istore_n (lv' := [(3, .int (0 : Int32)), (2, .int (0 : Int32)), (0, .ref (ad 60)), (1, .int p1)]) hx hb dX8_blame_3 rfl hl (by decide) rfl (fun ls hl => ?_)
  obtain ⟨q6, h1, h⟩ := gbind_e h
  refine wl_X8_blame_4 F E (r := q6) (fun t7 H locs ls e1 hM hS hl => ?_) (fun x ex => ?_) gFuel (0 : Int32) (0 : Int32) μ h1 hM hS (lv_sub hl [2, 3, 1, 0] rfl)
  · replace h := gsum_l e1 h
    refine lv_iload_n hx hb dX8_blame_46 rfl (lv_at hl 0 rfl) ?_
    obtain rfl := Option.some.inj h
    exact g_iret hx hb hr hlocks hM hS dX8_blame_47
  · exact Option.some.inj (gsum_r ex h)
def j_X8_suspectLine_40 (x1 : Int32) (x2 : Int32) (y0 : Int32) (y1 : Int32) (μ : gM) : Option ((Int32 × Int32 × gM) ⊕ (Int32 × gM)) :=
  if (y0 ≤ y1) then some (.inl (x1, (x2 + (1 : Int32)), μ)) else some (.inl (x2, (x2 + (1 : Int32)), μ))
set_option maxHeartbeats 4000000 in
set_option maxRecDepth 100000 in
theorem wj_X8_suspectLine_40 {p : Program} {l : Launch} {e : Env} {s : State} {m : MethodId} {args : Array Value} {below : List Frame} {meth : Method} {c : Code} {D : va_G} {cy : Nat → ClassId} {ad : Nat → Nat} {base : Nat} {x1 : Int32} {x2 : Int32} {y0 : Int32} {y1 : Int32} {μ : gM} {o : (Int32 × Int32 × gM) ⊕ (Int32 × gM)} {RES : Int32 × gM} (h : j_X8_suspectLine_40 x1 x2 y0 y1 μ = some o) (F : gF p s m meth c cX8_suspectLine RX8 3 (some .int)) (E : gEnv l D cy ad base s) (kc : ∀ (t : Int32 × Int32 × gM) {H : Heap} {locs : List Loc} {ls : Array Slot}, o = .inl t → gW gFull D cy ad base t.2.2 H → va_S (gA base) s.heap H locs → lv_has ls 3 [(0, .ref (ad 60)), (1, .int t.1), (2, .int t.2.1)] → W p l e ({ frames := 9, cells := 0, slots := 0, locals := 205 } : Room) s m args below meth c H locs 0 0 (MQ below (gQ (some (.int RES.1)) gFull D cy ad base RES.2) args s 0 0 (gA base)) (F0 m 13 ls [])) (kx : ∀ (t : Int32 × gM) {H : Heap} {locs : List Loc} {ls : Array Slot}, o = .inr t → gW gFull D cy ad base t.2 H → va_S (gA base) s.heap H locs → lv_has ls 3 [(1, .int t.1)] → W p l e ({ frames := 9, cells := 0, slots := 0, locals := 205 } : Room) s m args below meth c H locs 0 0 (MQ below (gQ (some (.int RES.1)) gFull D cy ad base RES.2) args s 0 0 (gA base)) (F0 m 51 ls []))  {H : Heap} {locs : List Loc} {ls : Array Slot} (hM : gW gFull D cy ad base μ H) (hS : va_S (gA base) s.heap H locs) (hl : lv_has ls 3 [(0, .ref (ad 60)), (1, .int x1), (2, .int x2)]) : W p l e ({ frames := 9, cells := 0, slots := 0, locals := 205 } : Room) s m args below meth c H locs 0 0 (MQ below (gQ (some (.int RES.1)) gFull D cy ad base RES.2) args s 0 0 (gA base)) (F0 m 40 ls [.int y1, .int y0]) := by
  obtain ⟨hx, hb, hml, hown, hlocks, hr⟩ := id F
  unfold j_X8_suspectLine_40 at h
  refine lv_icmp_le (tgt := 45) hx hb dX8_suspectLine_40 (by decide) (fun c7 => ?_) (fun c7 => ?_)
  · replace h := gif_t c7 h
    refine lv_iinc (v := (x2 + (1 : Int32))) (lv' := [(2, .int (x2 + (1 : Int32))), (0, .ref (ad 60)), (1, .int x1)]) hx hb dX8_suspectLine_45 hl (k := 2) rfl rfl (by decide) rfl (fun ls hl => ?_)
    refine lv_goto (tgt := 13) hx hb dX8_suspectLine_48 (by decide) ?_
    exact kc _ (Option.some.inj h).symm hM hS (lv_sub hl [1, 2, 0] rfl)
  · replace h := gif_f c7 h
    refine lv_iload_n hx hb dX8_suspectLine_43 rfl (lv_at hl 2 rfl) ?_
    refine lv_istore_n (lv' := [(1, .int x2), (0, .ref (ad 60)), (2, .int x2)]) hx hb dX8_suspectLine_44 rfl hl (by decide) rfl (fun ls hl => ?_)
    refine lv_iinc (v := (x2 + (1 : Int32))) (lv' := [(2, .int (x2 + (1 : Int32))), (1, .int x2), (0, .ref (ad 60))]) hx hb dX8_suspectLine_45 hl (k := 2) rfl rfl (by decide) rfl (fun ls hl => ?_)
    refine lv_goto (tgt := 13) hx hb dX8_suspectLine_48 (by decide) ?_
    exact kc _ (Option.some.inj h).symm hM hS (lv_sub hl [2, 1, 0] rfl)
def b_X8_suspectLine_13 (x1 : Int32) (x2 : Int32) (μ : gM) : Option ((Int32 × Int32 × gM) ⊕ (Int32 × gM)) :=
  Option.bind (f_X8_count (2 : Int32) μ) (fun q2 => if (q2 ≤ x2) then some (.inr (x1, μ)) else Option.bind (f_X8_blame x2 μ) (fun q4 => if (0 ≤ x1) then Option.bind (f_X8_blame x1 q4.2) (fun q6 => j_X8_suspectLine_40 x1 x2 q4.1 q6.1 q6.2) else j_X8_suspectLine_40 x1 x2 q4.1 (0 : Int32) q4.2))
set_option maxHeartbeats 4000000 in
set_option maxRecDepth 100000 in
theorem wb_X8_suspectLine_13 {p : Program} {l : Launch} {e : Env} {s : State} {m : MethodId} {args : Array Value} {below : List Frame} {meth : Method} {c : Code} {D : va_G} {cy : Nat → ClassId} {ad : Nat → Nat} {base : Nat} {x1 : Int32} {x2 : Int32} {μ : gM} {o : (Int32 × Int32 × gM) ⊕ (Int32 × gM)} {RES : Int32 × gM} (h : b_X8_suspectLine_13 x1 x2 μ = some o) (F : gF p s m meth c cX8_suspectLine RX8 3 (some .int)) (E : gEnv l D cy ad base s) (kc : ∀ (t : Int32 × Int32 × gM) {H : Heap} {locs : List Loc} {ls : Array Slot}, o = .inl t → gW gFull D cy ad base t.2.2 H → va_S (gA base) s.heap H locs → lv_has ls 3 [(0, .ref (ad 60)), (1, .int t.1), (2, .int t.2.1)] → W p l e ({ frames := 9, cells := 0, slots := 0, locals := 205 } : Room) s m args below meth c H locs 0 0 (MQ below (gQ (some (.int RES.1)) gFull D cy ad base RES.2) args s 0 0 (gA base)) (F0 m 13 ls [])) (kx : ∀ (t : Int32 × gM) {H : Heap} {locs : List Loc} {ls : Array Slot}, o = .inr t → gW gFull D cy ad base t.2 H → va_S (gA base) s.heap H locs → lv_has ls 3 [(1, .int t.1)] → W p l e ({ frames := 9, cells := 0, slots := 0, locals := 205 } : Room) s m args below meth c H locs 0 0 (MQ below (gQ (some (.int RES.1)) gFull D cy ad base RES.2) args s 0 0 (gA base)) (F0 m 51 ls []))  {H : Heap} {locs : List Loc} {ls : Array Slot} (hM : gW gFull D cy ad base μ H) (hS : va_S (gA base) s.heap H locs) (hl : lv_has ls 3 [(0, .ref (ad 60)), (1, .int x1), (2, .int x2)]) : W p l e ({ frames := 9, cells := 0, slots := 0, locals := 205 } : Room) s m args below meth c H locs 0 0 (MQ below (gQ (some (.int RES.1)) gFull D cy ad base RES.2) args s 0 0 (gA base)) (F0 m 13 ls []) := by
  obtain ⟨hx, hb, hml, hown, hlocks, hr⟩ := id F
  unfold b_X8_suspectLine_13 at h
  refine lv_iload_n hx hb dX8_suspectLine_13 rfl (lv_at hl 2 rfl) ?_
  refine lv_aload_n hx hb dX8_suspectLine_14 rfl (lv_at hl 0 rfl) ?_
  refine lv_iconst (v := (2 : Int32)) hx hb dX8_suspectLine_15 (by decide) ?_
  obtain ⟨q2, hq2, h⟩ := gbind_e h
  refine g_callV (As := [.int (2 : Int32)]) (rest := [.int x2]) hx hb (hml.trans hl.1.symm) hown E hM hS hy_X8_count kw_1498 (c_X8_count hq2) hk_60 dd_60 rfl rfl rfl (Nat.le_of_ble_eq_true rfl) ⟨Nat.le_of_ble_eq_true rfl, Nat.le_of_ble_eq_true rfl⟩ ⟨Nat.le_of_ble_eq_true rfl, Nat.le_of_ble_eq_true rfl⟩ dX8_suspectLine_16 (fun H locs hM hS => ?_)
  refine lv_icmp_ge (tgt := 51) hx hb dX8_suspectLine_19 (by decide) (fun c3 => ?_) (fun c3 => ?_)
  · replace h := gif_t c3 h
    exact kx _ (Option.some.inj h).symm hM hS (lv_sub hl [1] rfl)
  · replace h := gif_f c3 h
    refine lv_aload_n hx hb dX8_suspectLine_22 rfl (lv_at hl 0 rfl) ?_
    refine lv_iload_n hx hb dX8_suspectLine_23 rfl (lv_at hl 2 rfl) ?_
    obtain ⟨q4, hq4, h⟩ := gbind_e h
    refine g_callV (As := [.int x2]) (rest := []) hx hb (hml.trans hl.1.symm) hown E hM hS hy_X8_blame kw_1812 (c_X8_blame hq4) hk_60 dd_60 rfl rfl rfl (Nat.le_of_ble_eq_true rfl) ⟨Nat.le_of_ble_eq_true rfl, Nat.le_of_ble_eq_true rfl⟩ ⟨Nat.le_of_ble_eq_true rfl, Nat.le_of_ble_eq_true rfl⟩ dX8_suspectLine_24 (fun H locs hM hS => ?_)
    refine lv_iload_n hx hb dX8_suspectLine_27 rfl (lv_at hl 1 rfl) ?_
    refine lv_if_ge (tgt := 35) hx hb dX8_suspectLine_28 (by decide) (fun c5 => ?_) (fun c5 => ?_)
    · replace h := gif_t c5 h
      refine lv_aload_n hx hb dX8_suspectLine_35 rfl (lv_at hl 0 rfl) ?_
      refine lv_iload_n hx hb dX8_suspectLine_36 rfl (lv_at hl 1 rfl) ?_
      obtain ⟨q6, hq6, h⟩ := gbind_e h
      refine g_callV (As := [.int x1]) (rest := [.int q4.1]) hx hb (hml.trans hl.1.symm) hown E hM hS hy_X8_blame kw_1812 (c_X8_blame hq6) hk_60 dd_60 rfl rfl rfl (Nat.le_of_ble_eq_true rfl) ⟨Nat.le_of_ble_eq_true rfl, Nat.le_of_ble_eq_true rfl⟩ ⟨Nat.le_of_ble_eq_true rfl, Nat.le_of_ble_eq_true rfl⟩ dX8_suspectLine_37 (fun H locs hM hS => ?_)
      exact wj_X8_suspectLine_40 h F E kc kx hM hS hl
    · replace h := gif_f c5 h
      refine lv_iconst (v := (0 : Int32)) hx hb dX8_suspectLine_31 (by decide) ?_
      refine lv_goto (tgt := 40) hx hb dX8_suspectLine_32 (by decide) ?_
      exact wj_X8_suspectLine_40 h F E kc kx hM hS hl
set_option maxHeartbeats 4000000 in
theorem wl_X8_suspectLine_13 {p : Program} {l : Launch} {e : Env} {s : State} {m : MethodId} {args : Array Value} {below : List Frame} {meth : Method} {c : Code} {D : va_G} {cy : Nat → ClassId} {ad : Nat → Nat} {base : Nat}  {r : Int32 × gM} {RES : Int32 × gM} (F : gF p s m meth c cX8_suspectLine RX8 3 (some .int)) (E : gEnv l D cy ad base s) (kx : ∀ (t : Int32 × gM) {H : Heap} {locs : List Loc} {ls : Array Slot}, r = t → gW gFull D cy ad base t.2 H → va_S (gA base) s.heap H locs → lv_has ls 3 [(1, .int t.1)] → W p l e ({ frames := 9, cells := 0, slots := 0, locals := 205 } : Room) s m args below meth c H locs 0 0 (MQ below (gQ (some (.int RES.1)) gFull D cy ad base RES.2) args s 0 0 (gA base)) (F0 m 51 ls []))  : ∀ (n : Nat) (x1 : Int32) (x2 : Int32) (μ : gM), gloop (fun t => b_X8_suspectLine_13  t.1 t.2.1 t.2.2) n (x1, x2, μ) = some r → ∀ {H : Heap} {locs : List Loc} {ls : Array Slot}, gW gFull D cy ad base μ H → va_S (gA base) s.heap H locs → lv_has ls 3 [(0, .ref (ad 60)), (1, .int x1), (2, .int x2)] → W p l e ({ frames := 9, cells := 0, slots := 0, locals := 205 } : Room) s m args below meth c H locs 0 0 (MQ below (gQ (some (.int RES.1)) gFull D cy ad base RES.2) args s 0 0 (gA base)) (F0 m 13 ls []) := by
  intro n
  induction n with
  | zero =>
    intro x1 x2 μ h
    exact (gloop_0 h).elim
  | succ n ih =>
    intro x1 x2 μ h H locs ls hM hS hl
    obtain ⟨o, h0, hc, hq⟩ := gloop_s h
    have h1 : b_X8_suspectLine_13 x1 x2 μ = some o := h0
    exact wb_X8_suspectLine_13 h1 F E (fun t H locs ls ho hM hS hl => ih t.1 t.2.1 t.2.2 (hc t ho) hM hS hl) (fun t H locs ls ho hM hS hl => kx t (hq _ ho).symm hM hS hl) hM hS hl
def f_X8_suspectLine (μ : gM) : Option (Int32 × gM) :=
  Option.bind (f_X8_layLoops  (si μ 60 6 (0 : Int32))) (fun q1 => Option.bind (gloop (fun t => b_X8_suspectLine_13  t.1 t.2.1 t.2.2) gFuel ((-1 : Int32), (0 : Int32), q1)) (fun q8 => some (q8.1, q8.2)))
set_option maxHeartbeats 4000000 in
set_option maxRecDepth 100000 in
theorem c_X8_suspectLine {l : Launch} {D : va_G} {cy : Nat → ClassId} {ad : Nat → Nat} {base : Nat}  {μ : gM} {RES : Int32 × gM} (h : f_X8_suspectLine  μ = some RES) : Met l yX8_suspectLine [.code yX8_suspectLine cX8_suspectLine 3 (some .int)] ({ frames := 9, cells := 0, slots := 0, locals := 205 } : Room) (va_Pc [.ref (ad 60)] (gB l gFull D cy ad base μ)) (gQ (some (.int RES.1)) gFull D cy ad base RES.2) 0 0 (gA base) := by
  refine Met.ofW (cc := cX8_suspectLine) (maxL := 3) (ret := (some .int)) (by decide) rfl ?_
  intro p e s m args below meth c s₁ B hml0 hv
  obtain ⟨rfl, E, hM⟩ := hv
  have F : gF p s m meth c cX8_suspectLine RX8 3 (some .int) := gF_of B hml0
  obtain ⟨hx, hb, hml, hown, hlocks, hr⟩ := id F
  have hS : va_S (gA base) s.heap s.heap [] := va_S.rf
  have hl := lv_entry ([.ref (ad 60)]) (n := 3) (Nat.le_of_ble_eq_true rfl)
  rw [lg_entry_eq]
  generalize (lg_sl ([.ref (ad 60)]) ++ List.replicate (3 - (lg_sl ([.ref (ad 60)])).length) Slot.unset).toArray = ls at hl ⊢
  have hl : lv_has ls 3 [(0, .ref (ad 60))] := hl
  unfold f_X8_suspectLine at h
  refine lv_aload_n hx hb dX8_suspectLine_0 rfl (lv_at hl 0 rfl) ?_
  refine lv_iconst (v := (0 : Int32)) hx hb dX8_suspectLine_1 (by decide) ?_
  refine gp_60_6 hx hb hown E hM hS hk_60 kw_1248 dX8_suspectLine_2 (fun H locs hM hS => ?_)
  refine lv_aload_n hx hb dX8_suspectLine_5 rfl (lv_at hl 0 rfl) ?_
  obtain ⟨q1, hq1, h⟩ := gbind_e h
  refine g_callV (As := []) (rest := []) hx hb (hml.trans hl.1.symm) hown E hM hS hy_X8_layLoops kw_1738 (c_X8_layLoops hq1) hk_60 dd_60 rfl rfl rfl (Nat.le_of_ble_eq_true rfl) ⟨Nat.le_of_ble_eq_true rfl, Nat.le_of_ble_eq_true rfl⟩ ⟨Nat.le_of_ble_eq_true rfl, Nat.le_of_ble_eq_true rfl⟩ dX8_suspectLine_6 (fun H locs hM hS => ?_)
  refine lv_iconst (v := (-1 : Int32)) hx hb dX8_suspectLine_9 (by decide) ?_
  refine lv_istore_n (lv' := [(1, .int (-1 : Int32)), (0, .ref (ad 60))]) hx hb dX8_suspectLine_10 rfl hl (by decide) rfl (fun ls hl => ?_)
  refine lv_iconst (v := (0 : Int32)) hx hb dX8_suspectLine_11 (by decide) ?_
  refine lv_istore_n (lv' := [(2, .int (0 : Int32)), (1, .int (-1 : Int32)), (0, .ref (ad 60))]) hx hb dX8_suspectLine_12 rfl hl (by decide) rfl (fun ls hl => ?_)
  obtain ⟨z9, h1, h⟩ := gbind_e h
  refine wl_X8_suspectLine_13 F E (r := z9) (fun q8 H locs ls e1 hM hS hl => ?_) gFuel (-1 : Int32) (0 : Int32) q1 h1 hM hS (lv_sub hl [2, 1, 0] rfl)
  replace e1 : z9 = q8 := e1
  rw [e1] at h
  refine lv_iload_n hx hb dX8_suspectLine_51 rfl (lv_at hl 0 rfl) ?_
  obtain rfl := Option.some.inj h
  exact g_iret hx hb hr hlocks hM hS dX8_suspectLine_52
def b_X8_bits_4 (x0 : Int32) (x1 : Int32) (x2 : Int32) (μ : gM) : Option ((Int32 × Int32) ⊕ (Int32)) :=
  if ((20 : Int32) ≤ x2) then some (.inr x1) else some (.inl ((x1 + ((x0 >>> (x2 &&& 31)) &&& (1 : Int32))), (x2 + (1 : Int32))))
set_option maxHeartbeats 4000000 in
set_option maxRecDepth 100000 in
theorem wb_X8_bits_4 {p : Program} {l : Launch} {e : Env} {s : State} {m : MethodId} {args : Array Value} {below : List Frame} {meth : Method} {c : Code} {D : va_G} {cy : Nat → ClassId} {ad : Nat → Nat} {base : Nat} {x0 : Int32} {x1 : Int32} {x2 : Int32} {μ : gM} {o : (Int32 × Int32) ⊕ (Int32)} {RES : Int32} (h : b_X8_bits_4 x0 x1 x2 μ = some o) (F : gF p s m meth c cX8_bits RX8 3 (some .int)) (E : gEnv l D cy ad base s) (kc : ∀ (t : Int32 × Int32) {H : Heap} {locs : List Loc} {ls : Array Slot}, o = .inl t → gW gFull D cy ad base μ H → va_S (gA base) s.heap H locs → lv_has ls 3 [(0, .int x0), (1, .int t.1), (2, .int t.2)] → W p l e ({ frames := 0, cells := 0, slots := 0, locals := 0 } : Room) s m args below meth c H locs 0 0 (MQ below (gQ (some (.int RES)) gFull D cy ad base μ) args s 0 0 (gA base)) (F0 m 4 ls [])) (kx : ∀ (t : Int32) {H : Heap} {locs : List Loc} {ls : Array Slot}, o = .inr t → gW gFull D cy ad base μ H → va_S (gA base) s.heap H locs → lv_has ls 3 [(1, .int t)] → W p l e ({ frames := 0, cells := 0, slots := 0, locals := 0 } : Room) s m args below meth c H locs 0 0 (MQ below (gQ (some (.int RES)) gFull D cy ad base μ) args s 0 0 (gA base)) (F0 m 24 ls []))  {H : Heap} {locs : List Loc} {ls : Array Slot} (hM : gW gFull D cy ad base μ H) (hS : va_S (gA base) s.heap H locs) (hl : lv_has ls 3 [(0, .int x0), (1, .int x1), (2, .int x2)]) : W p l e ({ frames := 0, cells := 0, slots := 0, locals := 0 } : Room) s m args below meth c H locs 0 0 (MQ below (gQ (some (.int RES)) gFull D cy ad base μ) args s 0 0 (gA base)) (F0 m 4 ls []) := by
  obtain ⟨hx, hb, hml, hown, hlocks, hr⟩ := id F
  unfold b_X8_bits_4 at h
  refine lv_iload_n hx hb dX8_bits_4 rfl (lv_at hl 2 rfl) ?_
  refine lv_bipush (v := (20 : Int32)) hx hb dX8_bits_5 (by decide) ?_
  refine lv_icmp_ge (tgt := 24) hx hb dX8_bits_7 (by decide) (fun c1 => ?_) (fun c1 => ?_)
  · replace h := gif_t c1 h
    exact kx _ (Option.some.inj h).symm hM hS (lv_sub hl [1] rfl)
  · replace h := gif_f c1 h
    refine lv_iload_n hx hb dX8_bits_10 rfl (lv_at hl 1 rfl) ?_
    refine lv_iload_n hx hb dX8_bits_11 rfl (lv_at hl 0 rfl) ?_
    refine lv_iload_n hx hb dX8_bits_12 rfl (lv_at hl 2 rfl) ?_
    refine lv_ishr hx hb dX8_bits_13 ?_
    refine lv_iconst (v := (1 : Int32)) hx hb dX8_bits_14 (by decide) ?_
    refine lv_iand hx hb dX8_bits_15 ?_
    refine lv_iadd hx hb dX8_bits_16 ?_
    refine lv_istore_n (lv' := [(1, .int (x1 + ((x0 >>> (x2 &&& 31)) &&& (1 : Int32)))), (0, .int x0), (2, .int x2)]) hx hb dX8_bits_17 rfl hl (by decide) rfl (fun ls hl => ?_)
    refine lv_iinc (v := (x2 + (1 : Int32))) (lv' := [(2, .int (x2 + (1 : Int32))), (1, .int (x1 + ((x0 >>> (x2 &&& 31)) &&& (1 : Int32)))), (0, .int x0)]) hx hb dX8_bits_18 hl (k := 2) rfl rfl (by decide) rfl (fun ls hl => ?_)
    refine lv_goto (tgt := 4) hx hb dX8_bits_21 (by decide) ?_
    exact kc _ (Option.some.inj h).symm hM hS (lv_sub hl [2, 1, 0] rfl)
set_option maxHeartbeats 4000000 in
theorem wl_X8_bits_4 {p : Program} {l : Launch} {e : Env} {s : State} {m : MethodId} {args : Array Value} {below : List Frame} {meth : Method} {c : Code} {D : va_G} {cy : Nat → ClassId} {ad : Nat → Nat} {base : Nat} {x0 : Int32} {μ : gM} {r : Int32} {RES : Int32} (F : gF p s m meth c cX8_bits RX8 3 (some .int)) (E : gEnv l D cy ad base s) (kx : ∀ (t : Int32) {H : Heap} {locs : List Loc} {ls : Array Slot}, r = t → gW gFull D cy ad base μ H → va_S (gA base) s.heap H locs → lv_has ls 3 [(1, .int t)] → W p l e ({ frames := 0, cells := 0, slots := 0, locals := 0 } : Room) s m args below meth c H locs 0 0 (MQ below (gQ (some (.int RES)) gFull D cy ad base μ) args s 0 0 (gA base)) (F0 m 24 ls []))  : ∀ (n : Nat) (x1 : Int32) (x2 : Int32), gloop (fun t => b_X8_bits_4 x0 t.1 t.2 μ) n (x1, x2) = some r → ∀ {H : Heap} {locs : List Loc} {ls : Array Slot}, gW gFull D cy ad base μ H → va_S (gA base) s.heap H locs → lv_has ls 3 [(0, .int x0), (1, .int x1), (2, .int x2)] → W p l e ({ frames := 0, cells := 0, slots := 0, locals := 0 } : Room) s m args below meth c H locs 0 0 (MQ below (gQ (some (.int RES)) gFull D cy ad base μ) args s 0 0 (gA base)) (F0 m 4 ls []) := by
  intro n
  induction n with
  | zero =>
    intro x1 x2 h
    exact (gloop_0 h).elim
  | succ n ih =>
    intro x1 x2 h H locs ls hM hS hl
    obtain ⟨o, h0, hc, hq⟩ := gloop_s h
    have h1 : b_X8_bits_4 x0 x1 x2 μ = some o := h0
    exact wb_X8_bits_4 h1 F E (fun t H locs ls ho hM hS hl => ih t.1 t.2 (hc t ho) hM hS hl) (fun t H locs ls ho hM hS hl => kx t (hq _ ho).symm hM hS hl) hM hS hl
def f_X8_bits (p1 : Int32) (μ : gM) : Option (Int32) :=
  Option.bind (gloop (fun t => b_X8_bits_4 p1 t.1 t.2 μ) gFuel ((0 : Int32), (0 : Int32))) (fun q2 => some q2)
set_option maxHeartbeats 4000000 in
set_option maxRecDepth 100000 in
theorem c_X8_bits {l : Launch} {D : va_G} {cy : Nat → ClassId} {ad : Nat → Nat} {base : Nat} {p1 : Int32} {μ : gM} {RES : Int32} (h : f_X8_bits p1 μ = some RES) : Met l yX8_bits [.code yX8_bits cX8_bits 3 (some .int)] ({ frames := 0, cells := 0, slots := 0, locals := 0 } : Room) (va_Pc [.int p1] (gB l gFull D cy ad base μ)) (gQ (some (.int RES)) gFull D cy ad base μ) 0 0 (gA base) := by
  refine Met.ofW (cc := cX8_bits) (maxL := 3) (ret := (some .int)) (by decide) rfl ?_
  intro p e s m args below meth c s₁ B hml0 hv
  obtain ⟨rfl, E, hM⟩ := hv
  have F : gF p s m meth c cX8_bits RX8 3 (some .int) := gF_of B hml0
  obtain ⟨hx, hb, hml, hown, hlocks, hr⟩ := id F
  have hS : va_S (gA base) s.heap s.heap [] := va_S.rf
  have hl := lv_entry ([.int p1]) (n := 3) (Nat.le_of_ble_eq_true rfl)
  rw [lg_entry_eq]
  generalize (lg_sl ([.int p1]) ++ List.replicate (3 - (lg_sl ([.int p1])).length) Slot.unset).toArray = ls at hl ⊢
  have hl : lv_has ls 3 [(0, .int p1)] := hl
  unfold f_X8_bits at h
  refine lv_iconst (v := (0 : Int32)) hx hb dX8_bits_0 (by decide) ?_
  refine lv_istore_n (lv' := [(1, .int (0 : Int32)), (0, .int p1)]) hx hb dX8_bits_1 rfl hl (by decide) rfl (fun ls hl => ?_)
  refine lv_iconst (v := (0 : Int32)) hx hb dX8_bits_2 (by decide) ?_
  refine lv_istore_n (lv' := [(2, .int (0 : Int32)), (1, .int (0 : Int32)), (0, .int p1)]) hx hb dX8_bits_3 rfl hl (by decide) rfl (fun ls hl => ?_)
  obtain ⟨z3, h1, h⟩ := gbind_e h
  refine wl_X8_bits_4 F E (r := z3) (fun q2 H locs ls e1 hM hS hl => ?_) gFuel (0 : Int32) (0 : Int32) h1 hM hS (lv_sub hl [2, 1, 0] rfl)
  replace e1 : z3 = q2 := e1
  rw [e1] at h
  refine lv_iload_n hx hb dX8_bits_24 rfl (lv_at hl 0 rfl) ?_
  obtain rfl := Option.some.inj h
  exact g_iret hx hb hr hlocks hM hS dX8_bits_25
def f_X8_badWithout (p1 : Int32) (μ : gM) : Option (Int32 × gM) :=
  Option.bind (f_X8_isLine p1 μ) (fun q1 => Option.bind (f_X8_fails (b2i q1) μ) (fun q2 => if ((b2i q2.1) = 0) then gchk (gIn ((22 : Int32) + p1) 703) (gchk (gIn ((22 : Int32) + p1) 703) (Option.bind (f_X8_bad  (si q2.2 61 ((22 : Int32) + p1).toNatClampNeg (0 : Int32))) (fun q6 => Option.bind (f_X8_bits q6.1 q6.2) (fun q7 => gchk (gIn ((22 : Int32) + p1) 703) (some (q7, (si q6.2 61 ((22 : Int32) + p1).toNatClampNeg (gi q2.2 61 ((22 : Int32) + p1).toNatClampNeg)))))))) else some ((0 : Int32), q2.2)))
set_option maxHeartbeats 4000000 in
set_option maxRecDepth 100000 in
theorem c_X8_badWithout {l : Launch} {D : va_G} {cy : Nat → ClassId} {ad : Nat → Nat} {base : Nat} {p1 : Int32} {μ : gM} {RES : Int32 × gM} (h : f_X8_badWithout p1 μ = some RES) : Met l yX8_badWithout [.code yX8_badWithout cX8_badWithout 4 (some .int)] ({ frames := 9, cells := 0, slots := 0, locals := 203 } : Room) (va_Pc [.ref (ad 60), .int p1] (gB l gFull D cy ad base μ)) (gQ (some (.int RES.1)) gFull D cy ad base RES.2) 0 0 (gA base) := by
  refine Met.ofW (cc := cX8_badWithout) (maxL := 4) (ret := (some .int)) (by decide) rfl ?_
  intro p e s m args below meth c s₁ B hml0 hv
  obtain ⟨rfl, E, hM⟩ := hv
  have F : gF p s m meth c cX8_badWithout RX8 4 (some .int) := gF_of B hml0
  obtain ⟨hx, hb, hml, hown, hlocks, hr⟩ := id F
  have hS : va_S (gA base) s.heap s.heap [] := va_S.rf
  have hl := lv_entry ([.ref (ad 60), .int p1]) (n := 4) (Nat.le_of_ble_eq_true rfl)
  rw [lg_entry_eq]
  generalize (lg_sl ([.ref (ad 60), .int p1]) ++ List.replicate (4 - (lg_sl ([.ref (ad 60), .int p1])).length) Slot.unset).toArray = ls at hl ⊢
  have hl : lv_has ls 4 [(0, .ref (ad 60)), (1, .int p1)] := hl
  unfold f_X8_badWithout at h
  refine lv_aload_n hx hb dX8_badWithout_0 rfl (lv_at hl 0 rfl) ?_
  refine lv_aload_n hx hb dX8_badWithout_1 rfl (lv_at hl 0 rfl) ?_
  refine lv_iload_n hx hb dX8_badWithout_2 rfl (lv_at hl 1 rfl) ?_
  obtain ⟨q1, hq1, h⟩ := gbind_e h
  refine g_callV (As := [.int p1]) (rest := [.ref (ad 60)]) hx hb (hml.trans hl.1.symm) hown E hM hS hy_X8_isLine kw_1571 (c_X8_isLine hq1) hk_60 dd_60 rfl rfl rfl (Nat.le_of_ble_eq_true rfl) ⟨Nat.le_of_ble_eq_true rfl, Nat.le_of_ble_eq_true rfl⟩ ⟨Nat.le_of_ble_eq_true rfl, Nat.le_of_ble_eq_true rfl⟩ dX8_badWithout_3 (fun H locs hM hS => ?_)
  obtain ⟨q2, hq2, h⟩ := gbind_e h
  refine g_callV (As := [.int (b2i q1)]) (rest := []) hx hb (hml.trans hl.1.symm) hown E hM hS hy_X8_fails kw_1534 (c_X8_fails hq2) hk_60 dd_60 rfl rfl rfl (Nat.le_of_ble_eq_true rfl) ⟨Nat.le_of_ble_eq_true rfl, Nat.le_of_ble_eq_true rfl⟩ ⟨Nat.le_of_ble_eq_true rfl, Nat.le_of_ble_eq_true rfl⟩ dX8_badWithout_6 (fun H locs hM hS => ?_)
  refine lv_if_eq (tgt := 14) hx hb dX8_badWithout_9 (by decide) (fun c3 => ?_) (fun c3 => ?_)
  · replace h := gif_t c3 h
    refine lv_aload_n hx hb dX8_badWithout_14 rfl (lv_at hl 0 rfl) ?_
    refine gg_60_0 hx hb hown E hM hk_60 kw_1242 dX8_badWithout_15 ?_
    refine lv_bipush (v := (22 : Int32)) hx hb dX8_badWithout_18 (by decide) ?_
    refine lv_iload_n hx hb dX8_badWithout_20 rfl (lv_at hl 1 rfl) ?_
    refine lv_iadd hx hb dX8_badWithout_21 ?_
    obtain ⟨c4, h⟩ := gchk_e h
    refine g_iald hx hb E hM hk_61 dd_61 c4 dX8_badWithout_22 ?_
    refine lv_istore_n (lv' := [(2, .int (gi q2.2 61 ((22 : Int32) + p1).toNatClampNeg)), (0, .ref (ad 60)), (1, .int p1)]) hx hb dX8_badWithout_23 rfl hl (by decide) rfl (fun ls hl => ?_)
    refine lv_aload_n hx hb dX8_badWithout_24 rfl (lv_at hl 1 rfl) ?_
    refine gg_60_0 hx hb hown E hM hk_60 kw_1242 dX8_badWithout_25 ?_
    refine lv_bipush (v := (22 : Int32)) hx hb dX8_badWithout_28 (by decide) ?_
    refine lv_iload_n hx hb dX8_badWithout_30 rfl (lv_at hl 2 rfl) ?_
    refine lv_iadd hx hb dX8_badWithout_31 ?_
    refine lv_iconst (v := (0 : Int32)) hx hb dX8_badWithout_32 (by decide) ?_
    obtain ⟨c5, h⟩ := gchk_e h
    refine g_iast hx hb E hM hS hk_61 dd_61 c5 dX8_badWithout_33 (fun H locs hM hS => ?_)
    refine lv_aload_n hx hb dX8_badWithout_34 rfl (lv_at hl 1 rfl) ?_
    obtain ⟨q6, hq6, h⟩ := gbind_e h
    refine g_callV (As := []) (rest := []) hx hb (hml.trans hl.1.symm) hown E hM hS hy_X8_bad kw_1796 (c_X8_bad hq6) hk_60 dd_60 rfl rfl rfl (Nat.le_of_ble_eq_true rfl) ⟨Nat.le_of_ble_eq_true rfl, Nat.le_of_ble_eq_true rfl⟩ ⟨Nat.le_of_ble_eq_true rfl, Nat.le_of_ble_eq_true rfl⟩ dX8_badWithout_35 (fun H locs hM hS => ?_)
    obtain ⟨q7, hq7, h⟩ := gbind_e h
    refine g_callS (As := [.int q6.1]) (rest := []) hx hb (hml.trans hl.1.symm) hown E hM hS hy_X8_bits kw_1824 (c_X8_bits hq7) rfl rfl (Nat.le_of_ble_eq_true rfl) ⟨Nat.le_of_ble_eq_true rfl, Nat.le_of_ble_eq_true rfl⟩ ⟨Nat.le_of_ble_eq_true rfl, Nat.le_of_ble_eq_true rfl⟩ dX8_badWithout_38 (fun H locs hM hS => ?_)
    refine lv_istore_n (lv' := [(3, .int q7), (2, .int (gi q2.2 61 ((22 : Int32) + p1).toNatClampNeg)), (0, .ref (ad 60)), (1, .int p1)]) hx hb dX8_badWithout_41 rfl hl (by decide) rfl (fun ls hl => ?_)
    refine lv_aload_n hx hb dX8_badWithout_42 rfl (lv_at hl 2 rfl) ?_
    refine gg_60_0 hx hb hown E hM hk_60 kw_1242 dX8_badWithout_43 ?_
    refine lv_bipush (v := (22 : Int32)) hx hb dX8_badWithout_46 (by decide) ?_
    refine lv_iload_n hx hb dX8_badWithout_48 rfl (lv_at hl 3 rfl) ?_
    refine lv_iadd hx hb dX8_badWithout_49 ?_
    refine lv_iload_n hx hb dX8_badWithout_50 rfl (lv_at hl 1 rfl) ?_
    obtain ⟨c8, h⟩ := gchk_e h
    refine g_iast hx hb E hM hS hk_61 dd_61 c8 dX8_badWithout_51 (fun H locs hM hS => ?_)
    refine lv_iload_n hx hb dX8_badWithout_52 rfl (lv_at hl 0 rfl) ?_
    obtain rfl := Option.some.inj h
    exact g_iret hx hb hr hlocks hM hS dX8_badWithout_53
  · replace h := gif_f c3 h
    refine lv_iconst (v := (0 : Int32)) hx hb dX8_badWithout_12 (by decide) ?_
    obtain rfl := Option.some.inj h
    exact g_iret hx hb hr hlocks hM hS dX8_badWithout_13
def b_X8_layProvisional_4 (x1 : Int32) (x2 : Int32) (μ : gM) : Option ((Int32 × Int32 × gM) ⊕ (Int32 × gM)) :=
  if ((16 : Int32) ≤ x2) then some (.inr (x1, μ)) else gchk (gIn x2 16) (Option.bind (f_X8_count (1 : Int32) (sl μ 76 x2.toNatClampNeg (-9223372036854775808 : Int64))) (fun q3 => if (q3 ≤ x2) then some (.inl (x1, (x2 + (1 : Int32)), (sl μ 76 x2.toNatClampNeg (-9223372036854775808 : Int64)))) else gchk (gIn ((6 : Int32) + x2) 703) (if (0 ≤ (gi (sl μ 76 x2.toNatClampNeg (-9223372036854775808 : Int64)) 61 ((6 : Int32) + x2).toNatClampNeg)) then gchk (gIn ((6 : Int32) + x2) 703) (gchk (gIn x2 16) (gchk (gIn x1 16) (some (.inl ((x1 + (1 : Int32)), (x2 + (1 : Int32)), (si (sl (sl μ 76 x2.toNatClampNeg (-9223372036854775808 : Int64)) 76 x2.toNatClampNeg ((100 : Int64) * (gi (sl μ 76 x2.toNatClampNeg (-9223372036854775808 : Int64)) 61 ((6 : Int32) + x2).toNatClampNeg).toInt64)) 70 x1.toNatClampNeg x2)))))) else some (.inl (x1, (x2 + (1 : Int32)), (sl μ 76 x2.toNatClampNeg (-9223372036854775808 : Int64)))))))
set_option maxHeartbeats 4000000 in
set_option maxRecDepth 100000 in
theorem wb_X8_layProvisional_4 {p : Program} {l : Launch} {e : Env} {s : State} {m : MethodId} {args : Array Value} {below : List Frame} {meth : Method} {c : Code} {D : va_G} {cy : Nat → ClassId} {ad : Nat → Nat} {base : Nat} {x1 : Int32} {x2 : Int32} {μ : gM} {o : (Int32 × Int32 × gM) ⊕ (Int32 × gM)} {RES : gM} (h : b_X8_layProvisional_4 x1 x2 μ = some o) (F : gF p s m meth c cX8_layProvisional RX8 5 none) (E : gEnv l D cy ad base s) (kc : ∀ (t : Int32 × Int32 × gM) {H : Heap} {locs : List Loc} {ls : Array Slot}, o = .inl t → gW gFull D cy ad base t.2.2 H → va_S (gA base) s.heap H locs → lv_has ls 5 [(0, .ref (ad 60)), (1, .int t.1), (2, .int t.2.1)] → W p l e ({ frames := 5, cells := 0, slots := 0, locals := 112 } : Room) s m args below meth c H locs 0 0 (MQ below (gQ none gFull D cy ad base RES) args s 0 0 (gA base)) (F0 m 4 ls [])) (kx : ∀ (t : Int32 × gM) {H : Heap} {locs : List Loc} {ls : Array Slot}, o = .inr t → gW gFull D cy ad base t.2 H → va_S (gA base) s.heap H locs → lv_has ls 5 [(0, .ref (ad 60)), (1, .int t.1)] → W p l e ({ frames := 5, cells := 0, slots := 0, locals := 112 } : Room) s m args below meth c H locs 0 0 (MQ below (gQ none gFull D cy ad base RES) args s 0 0 (gA base)) (F0 m 79 ls []))  {H : Heap} {locs : List Loc} {ls : Array Slot} (hM : gW gFull D cy ad base μ H) (hS : va_S (gA base) s.heap H locs) (hl : lv_has ls 5 [(0, .ref (ad 60)), (1, .int x1), (2, .int x2)]) : W p l e ({ frames := 5, cells := 0, slots := 0, locals := 112 } : Room) s m args below meth c H locs 0 0 (MQ below (gQ none gFull D cy ad base RES) args s 0 0 (gA base)) (F0 m 4 ls []) := by
  obtain ⟨hx, hb, hml, hown, hlocks, hr⟩ := id F
  unfold b_X8_layProvisional_4 at h
  refine lv_iload_n hx hb dX8_layProvisional_4 rfl (lv_at hl 2 rfl) ?_
  refine lv_bipush (v := (16 : Int32)) hx hb dX8_layProvisional_5 (by decide) ?_
  refine lv_icmp_ge (tgt := 79) hx hb dX8_layProvisional_7 (by decide) (fun c1 => ?_) (fun c1 => ?_)
  · replace h := gif_t c1 h
    exact kx _ (Option.some.inj h).symm hM hS (lv_sub hl [0, 1] rfl)
  · replace h := gif_f c1 h
    refine lv_aload_n hx hb dX8_layProvisional_10 rfl (lv_at hl 0 rfl) ?_
    refine gg_60_35 hx hb hown E hM hk_60 kw_1277 dX8_layProvisional_11 ?_
    refine lv_iload_n hx hb dX8_layProvisional_14 rfl (lv_at hl 2 rfl) ?_
    refine lv_ldc2 hx hb hown (v := (-9223372036854775808 : Int64)) (E.kw kw_1835) dX8_layProvisional_15 ?_
    obtain ⟨c2, h⟩ := gchk_e h
    refine g_last hx hb E hM hS hk_76 dd_76 c2 dX8_layProvisional_18 (fun H locs hM hS => ?_)
    refine lv_iload_n hx hb dX8_layProvisional_19 rfl (lv_at hl 2 rfl) ?_
    refine lv_aload_n hx hb dX8_layProvisional_20 rfl (lv_at hl 0 rfl) ?_
    refine lv_iconst (v := (1 : Int32)) hx hb dX8_layProvisional_21 (by decide) ?_
    obtain ⟨q3, hq3, h⟩ := gbind_e h
    refine g_callV (As := [.int (1 : Int32)]) (rest := [.int x2]) hx hb (hml.trans hl.1.symm) hown E hM hS hy_X8_count kw_1498 (c_X8_count hq3) hk_60 dd_60 rfl rfl rfl (Nat.le_of_ble_eq_true rfl) ⟨Nat.le_of_ble_eq_true rfl, Nat.le_of_ble_eq_true rfl⟩ ⟨Nat.le_of_ble_eq_true rfl, Nat.le_of_ble_eq_true rfl⟩ dX8_layProvisional_22 (fun H locs hM hS => ?_)
    refine lv_icmp_ge (tgt := 73) hx hb dX8_layProvisional_25 (by decide) (fun c4 => ?_) (fun c4 => ?_)
    · replace h := gif_t c4 h
      refine lv_iinc (v := (x2 + (1 : Int32))) (lv' := [(2, .int (x2 + (1 : Int32))), (0, .ref (ad 60)), (1, .int x1)]) hx hb dX8_layProvisional_73 hl (k := 2) rfl rfl (by decide) rfl (fun ls hl => ?_)
      refine lv_goto (tgt := 4) hx hb dX8_layProvisional_76 (by decide) ?_
      exact kc _ (Option.some.inj h).symm hM hS (lv_sub hl [1, 2, 0] rfl)
    · replace h := gif_f c4 h
      refine lv_aload_n hx hb dX8_layProvisional_28 rfl (lv_at hl 0 rfl) ?_
      refine gg_60_0 hx hb hown E hM hk_60 kw_1242 dX8_layProvisional_29 ?_
      refine lv_bipush (v := (6 : Int32)) hx hb dX8_layProvisional_32 (by decide) ?_
      refine lv_iload_n hx hb dX8_layProvisional_34 rfl (lv_at hl 2 rfl) ?_
      refine lv_iadd hx hb dX8_layProvisional_35 ?_
      obtain ⟨c5, h⟩ := gchk_e h
      refine g_iald hx hb E hM hk_61 dd_61 c5 dX8_layProvisional_36 ?_
      refine lv_if_ge (tgt := 43) hx hb dX8_layProvisional_37 (by decide) (fun c6 => ?_) (fun c6 => ?_)
      · replace h := gif_t c6 h
        refine lv_aload_n hx hb dX8_layProvisional_43 rfl (lv_at hl 0 rfl) ?_
        refine gg_60_35 hx hb hown E hM hk_60 kw_1277 dX8_layProvisional_44 ?_
        refine lv_iload_n hx hb dX8_layProvisional_47 rfl (lv_at hl 2 rfl) ?_
        refine lv_ldc2 hx hb hown (v := (100 : Int64)) (E.kw kw_1836) dX8_layProvisional_48 ?_
        refine lv_aload_n hx hb dX8_layProvisional_51 rfl (lv_at hl 0 rfl) ?_
        refine gg_60_0 hx hb hown E hM hk_60 kw_1242 dX8_layProvisional_52 ?_
        refine lv_bipush (v := (6 : Int32)) hx hb dX8_layProvisional_55 (by decide) ?_
        refine lv_iload_n hx hb dX8_layProvisional_57 rfl (lv_at hl 2 rfl) ?_
        refine lv_iadd hx hb dX8_layProvisional_58 ?_
        obtain ⟨c7, h⟩ := gchk_e h
        refine g_iald hx hb E hM hk_61 dd_61 c7 dX8_layProvisional_59 ?_
        refine lv_i2l (v := (gi (sl μ 76 x2.toNatClampNeg (-9223372036854775808 : Int64)) 61 ((6 : Int32) + x2).toNatClampNeg).toInt64) hx hb dX8_layProvisional_60 rfl ?_
        refine lv_lmul hx hb dX8_layProvisional_61 ?_
        obtain ⟨c8, h⟩ := gchk_e h
        refine g_last hx hb E hM hS hk_76 dd_76 c8 dX8_layProvisional_62 (fun H locs hM hS => ?_)
        refine lv_aload_n hx hb dX8_layProvisional_63 rfl (lv_at hl 0 rfl) ?_
        refine gg_60_24 hx hb hown E hM hk_60 kw_1266 dX8_layProvisional_64 ?_
        refine lv_iload_n hx hb dX8_layProvisional_67 rfl (lv_at hl 1 rfl) ?_
        refine lv_iload_n hx hb dX8_layProvisional_68 rfl (lv_at hl 2 rfl) ?_
        obtain ⟨c9, h⟩ := gchk_e h
        refine g_iast hx hb E hM hS hk_70 dd_70 c9 dX8_layProvisional_69 (fun H locs hM hS => ?_)
        refine lv_iinc (v := (x1 + (1 : Int32))) (lv' := [(1, .int (x1 + (1 : Int32))), (0, .ref (ad 60)), (2, .int x2)]) hx hb dX8_layProvisional_70 hl (k := 1) rfl rfl (by decide) rfl (fun ls hl => ?_)
        refine lv_iinc (v := (x2 + (1 : Int32))) (lv' := [(2, .int (x2 + (1 : Int32))), (1, .int (x1 + (1 : Int32))), (0, .ref (ad 60))]) hx hb dX8_layProvisional_73 hl (k := 2) rfl rfl (by decide) rfl (fun ls hl => ?_)
        refine lv_goto (tgt := 4) hx hb dX8_layProvisional_76 (by decide) ?_
        exact kc _ (Option.some.inj h).symm hM hS (lv_sub hl [2, 1, 0] rfl)
      · replace h := gif_f c6 h
        refine lv_goto (tgt := 73) hx hb dX8_layProvisional_40 (by decide) ?_
        refine lv_iinc (v := (x2 + (1 : Int32))) (lv' := [(2, .int (x2 + (1 : Int32))), (0, .ref (ad 60)), (1, .int x1)]) hx hb dX8_layProvisional_73 hl (k := 2) rfl rfl (by decide) rfl (fun ls hl => ?_)
        refine lv_goto (tgt := 4) hx hb dX8_layProvisional_76 (by decide) ?_
        exact kc _ (Option.some.inj h).symm hM hS (lv_sub hl [1, 2, 0] rfl)
set_option maxHeartbeats 4000000 in
theorem wl_X8_layProvisional_4 {p : Program} {l : Launch} {e : Env} {s : State} {m : MethodId} {args : Array Value} {below : List Frame} {meth : Method} {c : Code} {D : va_G} {cy : Nat → ClassId} {ad : Nat → Nat} {base : Nat}  {r : Int32 × gM} {RES : gM} (F : gF p s m meth c cX8_layProvisional RX8 5 none) (E : gEnv l D cy ad base s) (kx : ∀ (t : Int32 × gM) {H : Heap} {locs : List Loc} {ls : Array Slot}, r = t → gW gFull D cy ad base t.2 H → va_S (gA base) s.heap H locs → lv_has ls 5 [(0, .ref (ad 60)), (1, .int t.1)] → W p l e ({ frames := 5, cells := 0, slots := 0, locals := 112 } : Room) s m args below meth c H locs 0 0 (MQ below (gQ none gFull D cy ad base RES) args s 0 0 (gA base)) (F0 m 79 ls []))  : ∀ (n : Nat) (x1 : Int32) (x2 : Int32) (μ : gM), gloop (fun t => b_X8_layProvisional_4  t.1 t.2.1 t.2.2) n (x1, x2, μ) = some r → ∀ {H : Heap} {locs : List Loc} {ls : Array Slot}, gW gFull D cy ad base μ H → va_S (gA base) s.heap H locs → lv_has ls 5 [(0, .ref (ad 60)), (1, .int x1), (2, .int x2)] → W p l e ({ frames := 5, cells := 0, slots := 0, locals := 112 } : Room) s m args below meth c H locs 0 0 (MQ below (gQ none gFull D cy ad base RES) args s 0 0 (gA base)) (F0 m 4 ls []) := by
  intro n
  induction n with
  | zero =>
    intro x1 x2 μ h
    exact (gloop_0 h).elim
  | succ n ih =>
    intro x1 x2 μ h H locs ls hM hS hl
    obtain ⟨o, h0, hc, hq⟩ := gloop_s h
    have h1 : b_X8_layProvisional_4 x1 x2 μ = some o := h0
    exact wb_X8_layProvisional_4 h1 F E (fun t H locs ls ho hM hS hl => ih t.1 t.2.1 t.2.2 (hc t ho) hM hS hl) (fun t H locs ls ho hM hS hl => kx t (hq _ ho).symm hM hS hl) hM hS hl
def b_X8_layProvisional_96 (x2 : Int32) (x3 : Int32) (x1 : Int32) (x4 : Int32) (μ : gM) : Option ((Int32 × Int32 × gM) ⊕ (Int32 × gM)) :=
  Option.bind (f_X8_count (2 : Int32) μ) (fun q13 => if (q13 ≤ x4) then some (.inr (x1, μ)) else Option.bind (f_X8_touches x4 x3 μ) (fun q15 => if ((b2i q15) = 0) then some (.inl (x1, (x4 + (1 : Int32)), μ)) else Option.bind (f_X8_otherOf x4 x3 μ) (fun q17 => gchk (gIn q17 16) (if ((gl μ 76 q17.toNatClampNeg) = (-9223372036854775808 : Int64)) then Option.bind (f_X8_otherOf x4 x3 μ) (fun q20 => gchk (gIn x3 16) (Option.bind (f_X8_riseFrom x4 x3 μ) (fun q22 => gchk (gIn q20 16) (Option.bind (f_X8_otherOf x4 x3 (sl μ 76 q20.toNatClampNeg ((gl μ 76 x3.toNatClampNeg) + q22.toInt64))) (fun q24 => gchk (gIn x1 16) (some (.inl ((x1 + (1 : Int32)), (x4 + (1 : Int32)), (si (sl μ 76 q20.toNatClampNeg ((gl μ 76 x3.toNatClampNeg) + q22.toInt64)) 70 x1.toNatClampNeg q24))))))))) else some (.inl (x1, (x4 + (1 : Int32)), μ))))))
set_option maxHeartbeats 4000000 in
set_option maxRecDepth 100000 in
theorem wb_X8_layProvisional_96 {p : Program} {l : Launch} {e : Env} {s : State} {m : MethodId} {args : Array Value} {below : List Frame} {meth : Method} {c : Code} {D : va_G} {cy : Nat → ClassId} {ad : Nat → Nat} {base : Nat} {x2 : Int32} {x3 : Int32} {x1 : Int32} {x4 : Int32} {μ : gM} {o : (Int32 × Int32 × gM) ⊕ (Int32 × gM)} {RES : gM} (h : b_X8_layProvisional_96 x2 x3 x1 x4 μ = some o) (F : gF p s m meth c cX8_layProvisional RX8 5 none) (E : gEnv l D cy ad base s) (kc : ∀ (t : Int32 × Int32 × gM) {H : Heap} {locs : List Loc} {ls : Array Slot}, o = .inl t → gW gFull D cy ad base t.2.2 H → va_S (gA base) s.heap H locs → lv_has ls 5 [(0, .ref (ad 60)), (1, .int t.1), (2, .int x2), (3, .int x3), (4, .int t.2.1)] → W p l e ({ frames := 5, cells := 0, slots := 0, locals := 112 } : Room) s m args below meth c H locs 0 0 (MQ below (gQ none gFull D cy ad base RES) args s 0 0 (gA base)) (F0 m 96 ls [])) (kx : ∀ (t : Int32 × gM) {H : Heap} {locs : List Loc} {ls : Array Slot}, o = .inr t → gW gFull D cy ad base t.2 H → va_S (gA base) s.heap H locs → lv_has ls 5 [(0, .ref (ad 60)), (1, .int t.1), (2, .int x2)] → W p l e ({ frames := 5, cells := 0, slots := 0, locals := 112 } : Room) s m args below meth c H locs 0 0 (MQ below (gQ none gFull D cy ad base RES) args s 0 0 (gA base)) (F0 m 187 ls []))  {H : Heap} {locs : List Loc} {ls : Array Slot} (hM : gW gFull D cy ad base μ H) (hS : va_S (gA base) s.heap H locs) (hl : lv_has ls 5 [(0, .ref (ad 60)), (1, .int x1), (2, .int x2), (3, .int x3), (4, .int x4)]) : W p l e ({ frames := 5, cells := 0, slots := 0, locals := 112 } : Room) s m args below meth c H locs 0 0 (MQ below (gQ none gFull D cy ad base RES) args s 0 0 (gA base)) (F0 m 96 ls []) := by
  obtain ⟨hx, hb, hml, hown, hlocks, hr⟩ := id F
  unfold b_X8_layProvisional_96 at h
  refine lv_iload hx hb dX8_layProvisional_96 (lv_at hl 4 rfl) ?_
  refine lv_aload_n hx hb dX8_layProvisional_98 rfl (lv_at hl 0 rfl) ?_
  refine lv_iconst (v := (2 : Int32)) hx hb dX8_layProvisional_99 (by decide) ?_
  obtain ⟨q13, hq13, h⟩ := gbind_e h
  refine g_callV (As := [.int (2 : Int32)]) (rest := [.int x4]) hx hb (hml.trans hl.1.symm) hown E hM hS hy_X8_count kw_1498 (c_X8_count hq13) hk_60 dd_60 rfl rfl rfl (Nat.le_of_ble_eq_true rfl) ⟨Nat.le_of_ble_eq_true rfl, Nat.le_of_ble_eq_true rfl⟩ ⟨Nat.le_of_ble_eq_true rfl, Nat.le_of_ble_eq_true rfl⟩ dX8_layProvisional_100 (fun H locs hM hS => ?_)
  refine lv_icmp_ge (tgt := 187) hx hb dX8_layProvisional_103 (by decide) (fun c14 => ?_) (fun c14 => ?_)
  · replace h := gif_t c14 h
    exact kx _ (Option.some.inj h).symm hM hS (lv_sub hl [0, 1, 2] rfl)
  · replace h := gif_f c14 h
    refine lv_aload_n hx hb dX8_layProvisional_106 rfl (lv_at hl 0 rfl) ?_
    refine lv_iload hx hb dX8_layProvisional_107 (lv_at hl 4 rfl) ?_
    refine lv_iload_n hx hb dX8_layProvisional_109 rfl (lv_at hl 3 rfl) ?_
    obtain ⟨q15, hq15, h⟩ := gbind_e h
    refine g_callV (As := [.int x4, .int x3]) (rest := []) hx hb (hml.trans hl.1.symm) hown E hM hS hy_X8_touches kw_1667 (c_X8_touches hq15) hk_60 dd_60 rfl rfl rfl (Nat.le_of_ble_eq_true rfl) ⟨Nat.le_of_ble_eq_true rfl, Nat.le_of_ble_eq_true rfl⟩ ⟨Nat.le_of_ble_eq_true rfl, Nat.le_of_ble_eq_true rfl⟩ dX8_layProvisional_110 (fun H locs hM hS => ?_)
    refine lv_if_eq (tgt := 181) hx hb dX8_layProvisional_113 (by decide) (fun c16 => ?_) (fun c16 => ?_)
    · replace h := gif_t c16 h
      refine lv_iinc (v := (x4 + (1 : Int32))) (lv' := [(4, .int (x4 + (1 : Int32))), (0, .ref (ad 60)), (1, .int x1), (2, .int x2), (3, .int x3)]) hx hb dX8_layProvisional_181 hl (k := 4) rfl rfl (by decide) rfl (fun ls hl => ?_)
      refine lv_goto (tgt := 96) hx hb dX8_layProvisional_184 (by decide) ?_
      exact kc _ (Option.some.inj h).symm hM hS (lv_sub hl [1, 2, 3, 4, 0] rfl)
    · replace h := gif_f c16 h
      refine lv_aload_n hx hb dX8_layProvisional_116 rfl (lv_at hl 0 rfl) ?_
      refine gg_60_35 hx hb hown E hM hk_60 kw_1277 dX8_layProvisional_117 ?_
      refine lv_aload_n hx hb dX8_layProvisional_120 rfl (lv_at hl 0 rfl) ?_
      refine lv_iload hx hb dX8_layProvisional_121 (lv_at hl 4 rfl) ?_
      refine lv_iload_n hx hb dX8_layProvisional_123 rfl (lv_at hl 3 rfl) ?_
      obtain ⟨q17, hq17, h⟩ := gbind_e h
      refine g_callV (As := [.int x4, .int x3]) (rest := [.ref (ad 76)]) hx hb (hml.trans hl.1.symm) hown E hM hS hy_X8_otherOf kw_1722 (c_X8_otherOf hq17) hk_60 dd_60 rfl rfl rfl (Nat.le_of_ble_eq_true rfl) ⟨Nat.le_of_ble_eq_true rfl, Nat.le_of_ble_eq_true rfl⟩ ⟨Nat.le_of_ble_eq_true rfl, Nat.le_of_ble_eq_true rfl⟩ dX8_layProvisional_124 (fun H locs hM hS => ?_)
      obtain ⟨c18, h⟩ := gchk_e h
      refine g_lald hx hb E hM hk_76 dd_76 c18 dX8_layProvisional_127 ?_
      refine lv_ldc2 hx hb hown (v := (-9223372036854775808 : Int64)) (E.kw kw_1835) dX8_layProvisional_128 ?_
      refine W.lcmp hx hb dX8_layProvisional_131 ?_
      refine lv_if_eq (tgt := 138) hx hb dX8_layProvisional_132 (by decide) (fun c19 => ?_) (fun c19 => ?_)
      · replace c19 := (lg_cmp_eq _ _).mp c19
        replace h := gif_t c19 h
        refine lv_aload_n hx hb dX8_layProvisional_138 rfl (lv_at hl 0 rfl) ?_
        refine gg_60_35 hx hb hown E hM hk_60 kw_1277 dX8_layProvisional_139 ?_
        refine lv_aload_n hx hb dX8_layProvisional_142 rfl (lv_at hl 0 rfl) ?_
        refine lv_iload hx hb dX8_layProvisional_143 (lv_at hl 4 rfl) ?_
        refine lv_iload_n hx hb dX8_layProvisional_145 rfl (lv_at hl 3 rfl) ?_
        obtain ⟨q20, hq20, h⟩ := gbind_e h
        refine g_callV (As := [.int x4, .int x3]) (rest := [.ref (ad 76)]) hx hb (hml.trans hl.1.symm) hown E hM hS hy_X8_otherOf kw_1722 (c_X8_otherOf hq20) hk_60 dd_60 rfl rfl rfl (Nat.le_of_ble_eq_true rfl) ⟨Nat.le_of_ble_eq_true rfl, Nat.le_of_ble_eq_true rfl⟩ ⟨Nat.le_of_ble_eq_true rfl, Nat.le_of_ble_eq_true rfl⟩ dX8_layProvisional_146 (fun H locs hM hS => ?_)
        refine lv_aload_n hx hb dX8_layProvisional_149 rfl (lv_at hl 0 rfl) ?_
        refine gg_60_35 hx hb hown E hM hk_60 kw_1277 dX8_layProvisional_150 ?_
        refine lv_iload_n hx hb dX8_layProvisional_153 rfl (lv_at hl 3 rfl) ?_
        obtain ⟨c21, h⟩ := gchk_e h
        refine g_lald hx hb E hM hk_76 dd_76 c21 dX8_layProvisional_154 ?_
        refine lv_aload_n hx hb dX8_layProvisional_155 rfl (lv_at hl 0 rfl) ?_
        refine lv_iload hx hb dX8_layProvisional_156 (lv_at hl 4 rfl) ?_
        refine lv_iload_n hx hb dX8_layProvisional_158 rfl (lv_at hl 3 rfl) ?_
        obtain ⟨q22, hq22, h⟩ := gbind_e h
        refine g_callV (As := [.int x4, .int x3]) (rest := [.long (gl μ 76 x3.toNatClampNeg), .int q20, .ref (ad 76)]) hx hb (hml.trans hl.1.symm) hown E hM hS hy_X8_riseFrom kw_1659 (c_X8_riseFrom hq22) hk_60 dd_60 rfl rfl rfl (Nat.le_of_ble_eq_true rfl) ⟨Nat.le_of_ble_eq_true rfl, Nat.le_of_ble_eq_true rfl⟩ ⟨Nat.le_of_ble_eq_true rfl, Nat.le_of_ble_eq_true rfl⟩ dX8_layProvisional_159 (fun H locs hM hS => ?_)
        refine lv_i2l (v := q22.toInt64) hx hb dX8_layProvisional_162 rfl ?_
        refine lv_ladd hx hb dX8_layProvisional_163 ?_
        obtain ⟨c23, h⟩ := gchk_e h
        refine g_last hx hb E hM hS hk_76 dd_76 c23 dX8_layProvisional_164 (fun H locs hM hS => ?_)
        refine lv_aload_n hx hb dX8_layProvisional_165 rfl (lv_at hl 0 rfl) ?_
        refine gg_60_24 hx hb hown E hM hk_60 kw_1266 dX8_layProvisional_166 ?_
        refine lv_iload_n hx hb dX8_layProvisional_169 rfl (lv_at hl 1 rfl) ?_
        refine lv_aload_n hx hb dX8_layProvisional_170 rfl (lv_at hl 0 rfl) ?_
        refine lv_iload hx hb dX8_layProvisional_171 (lv_at hl 4 rfl) ?_
        refine lv_iload_n hx hb dX8_layProvisional_173 rfl (lv_at hl 3 rfl) ?_
        obtain ⟨q24, hq24, h⟩ := gbind_e h
        refine g_callV (As := [.int x4, .int x3]) (rest := [.int x1, .ref (ad 70)]) hx hb (hml.trans hl.1.symm) hown E hM hS hy_X8_otherOf kw_1722 (c_X8_otherOf hq24) hk_60 dd_60 rfl rfl rfl (Nat.le_of_ble_eq_true rfl) ⟨Nat.le_of_ble_eq_true rfl, Nat.le_of_ble_eq_true rfl⟩ ⟨Nat.le_of_ble_eq_true rfl, Nat.le_of_ble_eq_true rfl⟩ dX8_layProvisional_174 (fun H locs hM hS => ?_)
        obtain ⟨c25, h⟩ := gchk_e h
        refine g_iast hx hb E hM hS hk_70 dd_70 c25 dX8_layProvisional_177 (fun H locs hM hS => ?_)
        refine lv_iinc (v := (x1 + (1 : Int32))) (lv' := [(1, .int (x1 + (1 : Int32))), (0, .ref (ad 60)), (2, .int x2), (3, .int x3), (4, .int x4)]) hx hb dX8_layProvisional_178 hl (k := 1) rfl rfl (by decide) rfl (fun ls hl => ?_)
        refine lv_iinc (v := (x4 + (1 : Int32))) (lv' := [(4, .int (x4 + (1 : Int32))), (1, .int (x1 + (1 : Int32))), (0, .ref (ad 60)), (2, .int x2), (3, .int x3)]) hx hb dX8_layProvisional_181 hl (k := 4) rfl rfl (by decide) rfl (fun ls hl => ?_)
        refine lv_goto (tgt := 96) hx hb dX8_layProvisional_184 (by decide) ?_
        exact kc _ (Option.some.inj h).symm hM hS (lv_sub hl [2, 1, 3, 4, 0] rfl)
      · replace c19 := fun w => c19 ((lg_cmp_eq _ _).mpr w)
        replace h := gif_f c19 h
        refine lv_goto (tgt := 181) hx hb dX8_layProvisional_135 (by decide) ?_
        refine lv_iinc (v := (x4 + (1 : Int32))) (lv' := [(4, .int (x4 + (1 : Int32))), (0, .ref (ad 60)), (1, .int x1), (2, .int x2), (3, .int x3)]) hx hb dX8_layProvisional_181 hl (k := 4) rfl rfl (by decide) rfl (fun ls hl => ?_)
        refine lv_goto (tgt := 96) hx hb dX8_layProvisional_184 (by decide) ?_
        exact kc _ (Option.some.inj h).symm hM hS (lv_sub hl [1, 2, 3, 4, 0] rfl)
set_option maxHeartbeats 4000000 in
theorem wl_X8_layProvisional_96 {p : Program} {l : Launch} {e : Env} {s : State} {m : MethodId} {args : Array Value} {below : List Frame} {meth : Method} {c : Code} {D : va_G} {cy : Nat → ClassId} {ad : Nat → Nat} {base : Nat} {x2 : Int32} {x3 : Int32} {r : Int32 × gM} {RES : gM} (F : gF p s m meth c cX8_layProvisional RX8 5 none) (E : gEnv l D cy ad base s) (kx : ∀ (t : Int32 × gM) {H : Heap} {locs : List Loc} {ls : Array Slot}, r = t → gW gFull D cy ad base t.2 H → va_S (gA base) s.heap H locs → lv_has ls 5 [(0, .ref (ad 60)), (1, .int t.1), (2, .int x2)] → W p l e ({ frames := 5, cells := 0, slots := 0, locals := 112 } : Room) s m args below meth c H locs 0 0 (MQ below (gQ none gFull D cy ad base RES) args s 0 0 (gA base)) (F0 m 187 ls []))  : ∀ (n : Nat) (x1 : Int32) (x4 : Int32) (μ : gM), gloop (fun t => b_X8_layProvisional_96 x2 x3 t.1 t.2.1 t.2.2) n (x1, x4, μ) = some r → ∀ {H : Heap} {locs : List Loc} {ls : Array Slot}, gW gFull D cy ad base μ H → va_S (gA base) s.heap H locs → lv_has ls 5 [(0, .ref (ad 60)), (1, .int x1), (2, .int x2), (3, .int x3), (4, .int x4)] → W p l e ({ frames := 5, cells := 0, slots := 0, locals := 112 } : Room) s m args below meth c H locs 0 0 (MQ below (gQ none gFull D cy ad base RES) args s 0 0 (gA base)) (F0 m 96 ls []) := by
  intro n
  induction n with
  | zero =>
    intro x1 x4 μ h
    exact (gloop_0 h).elim
  | succ n ih =>
    intro x1 x4 μ h H locs ls hM hS hl
    obtain ⟨o, h0, hc, hq⟩ := gloop_s h
    have h1 : b_X8_layProvisional_96 x2 x3 x1 x4 μ = some o := h0
    exact wb_X8_layProvisional_96 h1 F E (fun t H locs ls ho hM hS hl => ih t.1 t.2.1 t.2.2 (hc t ho) hM hS hl) (fun t H locs ls ho hM hS hl => kx t (hq _ ho).symm hM hS hl) hM hS hl
def b_X8_layProvisional_81 (x1 : Int32) (x2 : Int32) (μ : gM) : Option ((Int32 × Int32 × gM) ⊕ (gM)) :=
  if (x1 ≤ x2) then some (.inr μ) else gchk (gIn x2 16) (Option.bind (gloop (fun t => b_X8_layProvisional_96 x2 (gi μ 70 x2.toNatClampNeg) t.1 t.2.1 t.2.2) gFuel (x1, (0 : Int32), μ)) (fun q26 => some (.inl (q26.1, (x2 + (1 : Int32)), q26.2))))
set_option maxHeartbeats 4000000 in
set_option maxRecDepth 100000 in
theorem wb_X8_layProvisional_81 {p : Program} {l : Launch} {e : Env} {s : State} {m : MethodId} {args : Array Value} {below : List Frame} {meth : Method} {c : Code} {D : va_G} {cy : Nat → ClassId} {ad : Nat → Nat} {base : Nat} {x1 : Int32} {x2 : Int32} {μ : gM} {o : (Int32 × Int32 × gM) ⊕ (gM)} {RES : gM} (h : b_X8_layProvisional_81 x1 x2 μ = some o) (F : gF p s m meth c cX8_layProvisional RX8 5 none) (E : gEnv l D cy ad base s) (kc : ∀ (t : Int32 × Int32 × gM) {H : Heap} {locs : List Loc} {ls : Array Slot}, o = .inl t → gW gFull D cy ad base t.2.2 H → va_S (gA base) s.heap H locs → lv_has ls 5 [(0, .ref (ad 60)), (1, .int t.1), (2, .int t.2.1)] → W p l e ({ frames := 5, cells := 0, slots := 0, locals := 112 } : Room) s m args below meth c H locs 0 0 (MQ below (gQ none gFull D cy ad base RES) args s 0 0 (gA base)) (F0 m 81 ls [])) (kx : ∀ (t : gM) {H : Heap} {locs : List Loc} {ls : Array Slot}, o = .inr t → gW gFull D cy ad base t H → va_S (gA base) s.heap H locs → lv_has ls 5 [] → W p l e ({ frames := 5, cells := 0, slots := 0, locals := 112 } : Room) s m args below meth c H locs 0 0 (MQ below (gQ none gFull D cy ad base RES) args s 0 0 (gA base)) (F0 m 193 ls []))  {H : Heap} {locs : List Loc} {ls : Array Slot} (hM : gW gFull D cy ad base μ H) (hS : va_S (gA base) s.heap H locs) (hl : lv_has ls 5 [(0, .ref (ad 60)), (1, .int x1), (2, .int x2)]) : W p l e ({ frames := 5, cells := 0, slots := 0, locals := 112 } : Room) s m args below meth c H locs 0 0 (MQ below (gQ none gFull D cy ad base RES) args s 0 0 (gA base)) (F0 m 81 ls []) := by
  obtain ⟨hx, hb, hml, hown, hlocks, hr⟩ := id F
  unfold b_X8_layProvisional_81 at h
  refine lv_iload_n hx hb dX8_layProvisional_81 rfl (lv_at hl 2 rfl) ?_
  refine lv_iload_n hx hb dX8_layProvisional_82 rfl (lv_at hl 1 rfl) ?_
  refine lv_icmp_ge (tgt := 193) hx hb dX8_layProvisional_83 (by decide) (fun c11 => ?_) (fun c11 => ?_)
  · replace h := gif_t c11 h
    exact kx _ (Option.some.inj h).symm hM hS (lv_sub hl [] rfl)
  · replace h := gif_f c11 h
    refine lv_aload_n hx hb dX8_layProvisional_86 rfl (lv_at hl 0 rfl) ?_
    refine gg_60_24 hx hb hown E hM hk_60 kw_1266 dX8_layProvisional_87 ?_
    refine lv_iload_n hx hb dX8_layProvisional_90 rfl (lv_at hl 2 rfl) ?_
    obtain ⟨c12, h⟩ := gchk_e h
    refine g_iald hx hb E hM hk_70 dd_70 c12 dX8_layProvisional_91 ?_
    refine lv_istore_n (lv' := [(3, .int (gi μ 70 x2.toNatClampNeg)), (0, .ref (ad 60)), (1, .int x1), (2, .int x2)]) hx hb dX8_layProvisional_92 rfl hl (by decide) rfl (fun ls hl => ?_)
    refine lv_iconst (v := (0 : Int32)) hx hb dX8_layProvisional_93 (by decide) ?_
    refine lv_istore (lv' := [(4, .int (0 : Int32)), (3, .int (gi μ 70 x2.toNatClampNeg)), (0, .ref (ad 60)), (1, .int x1), (2, .int x2)]) hx hb dX8_layProvisional_94 hl (by decide) rfl (fun ls hl => ?_)
    obtain ⟨z27, h1, h⟩ := gbind_e h
    refine wl_X8_layProvisional_96 F E (r := z27) (fun q26 H locs ls e1 hM hS hl => ?_) gFuel x1 (0 : Int32) μ h1 hM hS (lv_sub hl [2, 3, 4, 1, 0] rfl)
    replace e1 : z27 = q26 := e1
    rw [e1] at h
    refine lv_iinc (v := (x2 + (1 : Int32))) (lv' := [(2, .int (x2 + (1 : Int32))), (0, .ref (ad 60)), (1, .int q26.1)]) hx hb dX8_layProvisional_187 hl (k := 2) rfl rfl (by decide) rfl (fun ls hl => ?_)
    refine lv_goto (tgt := 81) hx hb dX8_layProvisional_190 (by decide) ?_
    exact kc _ (Option.some.inj h).symm hM hS (lv_sub hl [1, 2, 0] rfl)
set_option maxHeartbeats 4000000 in
theorem wl_X8_layProvisional_81 {p : Program} {l : Launch} {e : Env} {s : State} {m : MethodId} {args : Array Value} {below : List Frame} {meth : Method} {c : Code} {D : va_G} {cy : Nat → ClassId} {ad : Nat → Nat} {base : Nat}  {r : gM} {RES : gM} (F : gF p s m meth c cX8_layProvisional RX8 5 none) (E : gEnv l D cy ad base s) (kx : ∀ (t : gM) {H : Heap} {locs : List Loc} {ls : Array Slot}, r = t → gW gFull D cy ad base t H → va_S (gA base) s.heap H locs → lv_has ls 5 [] → W p l e ({ frames := 5, cells := 0, slots := 0, locals := 112 } : Room) s m args below meth c H locs 0 0 (MQ below (gQ none gFull D cy ad base RES) args s 0 0 (gA base)) (F0 m 193 ls []))  : ∀ (n : Nat) (x1 : Int32) (x2 : Int32) (μ : gM), gloop (fun t => b_X8_layProvisional_81  t.1 t.2.1 t.2.2) n (x1, x2, μ) = some r → ∀ {H : Heap} {locs : List Loc} {ls : Array Slot}, gW gFull D cy ad base μ H → va_S (gA base) s.heap H locs → lv_has ls 5 [(0, .ref (ad 60)), (1, .int x1), (2, .int x2)] → W p l e ({ frames := 5, cells := 0, slots := 0, locals := 112 } : Room) s m args below meth c H locs 0 0 (MQ below (gQ none gFull D cy ad base RES) args s 0 0 (gA base)) (F0 m 81 ls []) := by
  intro n
  induction n with
  | zero =>
    intro x1 x2 μ h
    exact (gloop_0 h).elim
  | succ n ih =>
    intro x1 x2 μ h H locs ls hM hS hl
    obtain ⟨o, h0, hc, hq⟩ := gloop_s h
    have h1 : b_X8_layProvisional_81 x1 x2 μ = some o := h0
    exact wb_X8_layProvisional_81 h1 F E (fun t H locs ls ho hM hS hl => ih t.1 t.2.1 t.2.2 (hc t ho) hM hS hl) (fun t H locs ls ho hM hS hl => kx t (hq _ ho).symm hM hS hl) hM hS hl
def f_X8_layProvisional (μ : gM) : Option (gM) :=
  Option.bind (gloop (fun t => b_X8_layProvisional_4  t.1 t.2.1 t.2.2) gFuel ((0 : Int32), (0 : Int32), μ)) (fun q10 => Option.bind (gloop (fun t => b_X8_layProvisional_81  t.1 t.2.1 t.2.2) gFuel (q10.1, (0 : Int32), q10.2)) (fun q28 => some q28))
set_option maxHeartbeats 4000000 in
set_option maxRecDepth 100000 in
theorem c_X8_layProvisional {l : Launch} {D : va_G} {cy : Nat → ClassId} {ad : Nat → Nat} {base : Nat}  {μ : gM} {RES : gM} (h : f_X8_layProvisional  μ = some RES) : Met l yX8_layProvisional [.code yX8_layProvisional cX8_layProvisional 5 none] ({ frames := 5, cells := 0, slots := 0, locals := 112 } : Room) (va_Pc [.ref (ad 60)] (gB l gFull D cy ad base μ)) (gQ none gFull D cy ad base RES) 0 0 (gA base) := by
  refine Met.ofW (cc := cX8_layProvisional) (maxL := 5) (ret := none) (by decide) rfl ?_
  intro p e s m args below meth c s₁ B hml0 hv
  obtain ⟨rfl, E, hM⟩ := hv
  have F : gF p s m meth c cX8_layProvisional RX8 5 none := gF_of B hml0
  obtain ⟨hx, hb, hml, hown, hlocks, hr⟩ := id F
  have hS : va_S (gA base) s.heap s.heap [] := va_S.rf
  have hl := lv_entry ([.ref (ad 60)]) (n := 5) (Nat.le_of_ble_eq_true rfl)
  rw [lg_entry_eq]
  generalize (lg_sl ([.ref (ad 60)]) ++ List.replicate (5 - (lg_sl ([.ref (ad 60)])).length) Slot.unset).toArray = ls at hl ⊢
  have hl : lv_has ls 5 [(0, .ref (ad 60))] := hl
  unfold f_X8_layProvisional at h
  refine lv_iconst (v := (0 : Int32)) hx hb dX8_layProvisional_0 (by decide) ?_
  refine lv_istore_n (lv' := [(1, .int (0 : Int32)), (0, .ref (ad 60))]) hx hb dX8_layProvisional_1 rfl hl (by decide) rfl (fun ls hl => ?_)
  refine lv_iconst (v := (0 : Int32)) hx hb dX8_layProvisional_2 (by decide) ?_
  refine lv_istore_n (lv' := [(2, .int (0 : Int32)), (1, .int (0 : Int32)), (0, .ref (ad 60))]) hx hb dX8_layProvisional_3 rfl hl (by decide) rfl (fun ls hl => ?_)
  obtain ⟨z30, h1, h⟩ := gbind_e h
  refine wl_X8_layProvisional_4 F E (r := z30) (fun q10 H locs ls e1 hM hS hl => ?_) gFuel (0 : Int32) (0 : Int32) μ h1 hM hS (lv_sub hl [2, 1, 0] rfl)
  replace e1 : z30 = q10 := e1
  rw [e1] at h
  refine lv_iconst (v := (0 : Int32)) hx hb dX8_layProvisional_79 (by decide) ?_
  refine lv_istore_n (lv' := [(2, .int (0 : Int32)), (0, .ref (ad 60)), (1, .int q10.1)]) hx hb dX8_layProvisional_80 rfl hl (by decide) rfl (fun ls hl => ?_)
  obtain ⟨z29, h1, h⟩ := gbind_e h
  refine wl_X8_layProvisional_81 F E (r := z29) (fun q28 H locs ls e1 hM hS hl => ?_) gFuel q10.1 (0 : Int32) q10.2 h1 hM hS (lv_sub hl [1, 2, 0] rfl)
  replace e1 : z29 = q28 := e1
  rw [e1] at h
  obtain rfl := Option.some.inj h
  exact g_vret hx hb hr hlocks hM hS dX8_layProvisional_193
def f_X8_provisional (p1 : Int32) (μ : gM) : Option (Int64 × gM) :=
  Option.bind (f_X8_isPoint p1 μ) (fun q1 => Option.bind (f_X8_fails (b2i q1) μ) (fun q2 => if ((b2i q2.1) = 0) then Option.bind (f_X8_layProvisional  q2.2) (fun q4 => gchk (gIn p1 16) (some ((gl q4 76 p1.toNatClampNeg), q4))) else some ((0 : Int64), q2.2)))
set_option maxHeartbeats 4000000 in
set_option maxRecDepth 100000 in
theorem c_X8_provisional {l : Launch} {D : va_G} {cy : Nat → ClassId} {ad : Nat → Nat} {base : Nat} {p1 : Int32} {μ : gM} {RES : Int64 × gM} (h : f_X8_provisional p1 μ = some RES) : Met l yX8_provisional [.code yX8_provisional cX8_provisional 2 (some .long)] ({ frames := 6, cells := 0, slots := 0, locals := 136 } : Room) (va_Pc [.ref (ad 60), .int p1] (gB l gFull D cy ad base μ)) (gQ (some (.long RES.1)) gFull D cy ad base RES.2) 0 0 (gA base) := by
  refine Met.ofW (cc := cX8_provisional) (maxL := 2) (ret := (some .long)) (by decide) rfl ?_
  intro p e s m args below meth c s₁ B hml0 hv
  obtain ⟨rfl, E, hM⟩ := hv
  have F : gF p s m meth c cX8_provisional RX8 2 (some .long) := gF_of B hml0
  obtain ⟨hx, hb, hml, hown, hlocks, hr⟩ := id F
  have hS : va_S (gA base) s.heap s.heap [] := va_S.rf
  have hl := lv_entry ([.ref (ad 60), .int p1]) (n := 2) (Nat.le_of_ble_eq_true rfl)
  rw [lg_entry_eq]
  generalize (lg_sl ([.ref (ad 60), .int p1]) ++ List.replicate (2 - (lg_sl ([.ref (ad 60), .int p1])).length) Slot.unset).toArray = ls at hl ⊢
  have hl : lv_has ls 2 [(0, .ref (ad 60)), (1, .int p1)] := hl
  unfold f_X8_provisional at h
  refine lv_aload_n hx hb dX8_provisional_0 rfl (lv_at hl 0 rfl) ?_
  refine lv_aload_n hx hb dX8_provisional_1 rfl (lv_at hl 0 rfl) ?_
  refine lv_iload_n hx hb dX8_provisional_2 rfl (lv_at hl 1 rfl) ?_
  obtain ⟨q1, hq1, h⟩ := gbind_e h
  refine g_callV (As := [.int p1]) (rest := [.ref (ad 60)]) hx hb (hml.trans hl.1.symm) hown E hM hS hy_X8_isPoint kw_1563 (c_X8_isPoint hq1) hk_60 dd_60 rfl rfl rfl (Nat.le_of_ble_eq_true rfl) ⟨Nat.le_of_ble_eq_true rfl, Nat.le_of_ble_eq_true rfl⟩ ⟨Nat.le_of_ble_eq_true rfl, Nat.le_of_ble_eq_true rfl⟩ dX8_provisional_3 (fun H locs hM hS => ?_)
  obtain ⟨q2, hq2, h⟩ := gbind_e h
  refine g_callV (As := [.int (b2i q1)]) (rest := []) hx hb (hml.trans hl.1.symm) hown E hM hS hy_X8_fails kw_1534 (c_X8_fails hq2) hk_60 dd_60 rfl rfl rfl (Nat.le_of_ble_eq_true rfl) ⟨Nat.le_of_ble_eq_true rfl, Nat.le_of_ble_eq_true rfl⟩ ⟨Nat.le_of_ble_eq_true rfl, Nat.le_of_ble_eq_true rfl⟩ dX8_provisional_6 (fun H locs hM hS => ?_)
  refine lv_if_eq (tgt := 14) hx hb dX8_provisional_9 (by decide) (fun c3 => ?_) (fun c3 => ?_)
  · replace h := gif_t c3 h
    refine lv_aload_n hx hb dX8_provisional_14 rfl (lv_at hl 0 rfl) ?_
    obtain ⟨q4, hq4, h⟩ := gbind_e h
    refine g_callV (As := []) (rest := []) hx hb (hml.trans hl.1.symm) hown E hM hS hy_X8_layProvisional kw_1831 (c_X8_layProvisional hq4) hk_60 dd_60 rfl rfl rfl (Nat.le_of_ble_eq_true rfl) ⟨Nat.le_of_ble_eq_true rfl, Nat.le_of_ble_eq_true rfl⟩ ⟨Nat.le_of_ble_eq_true rfl, Nat.le_of_ble_eq_true rfl⟩ dX8_provisional_15 (fun H locs hM hS => ?_)
    refine lv_aload_n hx hb dX8_provisional_18 rfl (lv_at hl 0 rfl) ?_
    refine gg_60_35 hx hb hown E hM hk_60 kw_1277 dX8_provisional_19 ?_
    refine lv_iload_n hx hb dX8_provisional_22 rfl (lv_at hl 1 rfl) ?_
    obtain ⟨c5, h⟩ := gchk_e h
    refine g_lald hx hb E hM hk_76 dd_76 c5 dX8_provisional_23 ?_
    obtain rfl := Option.some.inj h
    exact g_lret hx hb hr hlocks hM hS dX8_provisional_24
  · replace h := gif_f c3 h
    refine lv_lconst (v := (0 : Int64)) hx hb dX8_provisional_12 (by decide) ?_
    obtain rfl := Option.some.inj h
    exact g_lret hx hb hr hlocks hM hS dX8_provisional_13
def b_X8_turningHeight_68 (x1 : Int32) (x2 : Int32) (x3 : Int64) (x5 : Int32) (μ : gM) : Option ((Int64 × Int32) ⊕ (Int64)) :=
  if (x2 < x5) then some (.inr x3) else Option.bind (f_X8_step x1 x5 μ) (fun q14 => some (.inl ((x3 + q14.toInt64), (x5 + (1 : Int32)))))
set_option maxHeartbeats 4000000 in
set_option maxRecDepth 100000 in
theorem wb_X8_turningHeight_68 {p : Program} {l : Launch} {e : Env} {s : State} {m : MethodId} {args : Array Value} {below : List Frame} {meth : Method} {c : Code} {D : va_G} {cy : Nat → ClassId} {ad : Nat → Nat} {base : Nat} {x1 : Int32} {x2 : Int32} {x3 : Int64} {x5 : Int32} {μ : gM} {o : (Int64 × Int32) ⊕ (Int64)} {RES : Int64 × gM} (h : b_X8_turningHeight_68 x1 x2 x3 x5 μ = some o) (F : gF p s m meth c cX8_turningHeight RX8 6 (some .long)) (E : gEnv l D cy ad base s) (kc : ∀ (t : Int64 × Int32) {H : Heap} {locs : List Loc} {ls : Array Slot}, o = .inl t → gW gFull D cy ad base μ H → va_S (gA base) s.heap H locs → lv_has ls 6 [(0, .ref (ad 60)), (1, .int x1), (2, .int x2), (3, .long t.1), (5, .int t.2)] → W p l e ({ frames := 6, cells := 0, slots := 0, locals := 136 } : Room) s m args below meth c H locs 0 0 (MQ below (gQ (some (.long RES.1)) gFull D cy ad base RES.2) args s 0 0 (gA base)) (F0 m 68 ls [])) (kx : ∀ (t : Int64) {H : Heap} {locs : List Loc} {ls : Array Slot}, o = .inr t → gW gFull D cy ad base μ H → va_S (gA base) s.heap H locs → lv_has ls 6 [(3, .long t)] → W p l e ({ frames := 6, cells := 0, slots := 0, locals := 136 } : Room) s m args below meth c H locs 0 0 (MQ below (gQ (some (.long RES.1)) gFull D cy ad base RES.2) args s 0 0 (gA base)) (F0 m 91 ls []))  {H : Heap} {locs : List Loc} {ls : Array Slot} (hM : gW gFull D cy ad base μ H) (hS : va_S (gA base) s.heap H locs) (hl : lv_has ls 6 [(0, .ref (ad 60)), (1, .int x1), (2, .int x2), (3, .long x3), (5, .int x5)]) : W p l e ({ frames := 6, cells := 0, slots := 0, locals := 136 } : Room) s m args below meth c H locs 0 0 (MQ below (gQ (some (.long RES.1)) gFull D cy ad base RES.2) args s 0 0 (gA base)) (F0 m 68 ls []) := by
  obtain ⟨hx, hb, hml, hown, hlocks, hr⟩ := id F
  unfold b_X8_turningHeight_68 at h
  refine lv_iload hx hb dX8_turningHeight_68 (lv_at hl 4 rfl) ?_
  refine lv_iload_n hx hb dX8_turningHeight_70 rfl (lv_at hl 2 rfl) ?_
  refine lv_icmp_gt (tgt := 91) hx hb dX8_turningHeight_71 (by decide) (fun c13 => ?_) (fun c13 => ?_)
  · replace h := gif_t c13 h
    exact kx _ (Option.some.inj h).symm hM hS (lv_sub hl [3] rfl)
  · replace h := gif_f c13 h
    refine lv_lload_n hx hb dX8_turningHeight_74 rfl (lv_at hl 3 rfl) ?_
    refine lv_aload_n hx hb dX8_turningHeight_75 rfl (lv_at hl 0 rfl) ?_
    refine lv_iload_n hx hb dX8_turningHeight_76 rfl (lv_at hl 1 rfl) ?_
    refine lv_iload hx hb dX8_turningHeight_77 (lv_at hl 4 rfl) ?_
    obtain ⟨q14, hq14, h⟩ := gbind_e h
    refine g_callV (As := [.int x1, .int x5]) (rest := [.long x3]) hx hb (hml.trans hl.1.symm) hown E hM hS hy_X8_step kw_1612 (c_X8_step hq14) hk_60 dd_60 rfl rfl rfl (Nat.le_of_ble_eq_true rfl) ⟨Nat.le_of_ble_eq_true rfl, Nat.le_of_ble_eq_true rfl⟩ ⟨Nat.le_of_ble_eq_true rfl, Nat.le_of_ble_eq_true rfl⟩ dX8_turningHeight_79 (fun H locs hM hS => ?_)
    refine lv_i2l (v := q14.toInt64) hx hb dX8_turningHeight_82 rfl ?_
    refine lv_ladd hx hb dX8_turningHeight_83 ?_
    refine lv_lstore_n (lv' := [(3, .long (x3 + q14.toInt64)), (0, .ref (ad 60)), (1, .int x1), (2, .int x2), (5, .int x5)]) hx hb dX8_turningHeight_84 rfl hl (by decide) rfl (fun ls hl => ?_)
    refine lv_iinc (v := (x5 + (1 : Int32))) (lv' := [(5, .int (x5 + (1 : Int32))), (3, .long (x3 + q14.toInt64)), (0, .ref (ad 60)), (1, .int x1), (2, .int x2)]) hx hb dX8_turningHeight_85 hl (k := 4) rfl rfl (by decide) rfl (fun ls hl => ?_)
    refine lv_goto (tgt := 68) hx hb dX8_turningHeight_88 (by decide) ?_
    exact kc _ (Option.some.inj h).symm hM hS (lv_sub hl [2, 3, 4, 1, 0] rfl)
set_option maxHeartbeats 4000000 in
theorem wl_X8_turningHeight_68 {p : Program} {l : Launch} {e : Env} {s : State} {m : MethodId} {args : Array Value} {below : List Frame} {meth : Method} {c : Code} {D : va_G} {cy : Nat → ClassId} {ad : Nat → Nat} {base : Nat} {x1 : Int32} {x2 : Int32} {μ : gM} {r : Int64} {RES : Int64 × gM} (F : gF p s m meth c cX8_turningHeight RX8 6 (some .long)) (E : gEnv l D cy ad base s) (kx : ∀ (t : Int64) {H : Heap} {locs : List Loc} {ls : Array Slot}, r = t → gW gFull D cy ad base μ H → va_S (gA base) s.heap H locs → lv_has ls 6 [(3, .long t)] → W p l e ({ frames := 6, cells := 0, slots := 0, locals := 136 } : Room) s m args below meth c H locs 0 0 (MQ below (gQ (some (.long RES.1)) gFull D cy ad base RES.2) args s 0 0 (gA base)) (F0 m 91 ls []))  : ∀ (n : Nat) (x3 : Int64) (x5 : Int32), gloop (fun t => b_X8_turningHeight_68 x1 x2 t.1 t.2 μ) n (x3, x5) = some r → ∀ {H : Heap} {locs : List Loc} {ls : Array Slot}, gW gFull D cy ad base μ H → va_S (gA base) s.heap H locs → lv_has ls 6 [(0, .ref (ad 60)), (1, .int x1), (2, .int x2), (3, .long x3), (5, .int x5)] → W p l e ({ frames := 6, cells := 0, slots := 0, locals := 136 } : Room) s m args below meth c H locs 0 0 (MQ below (gQ (some (.long RES.1)) gFull D cy ad base RES.2) args s 0 0 (gA base)) (F0 m 68 ls []) := by
  intro n
  induction n with
  | zero =>
    intro x3 x5 h
    exact (gloop_0 h).elim
  | succ n ih =>
    intro x3 x5 h H locs ls hM hS hl
    obtain ⟨o, h0, hc, hq⟩ := gloop_s h
    have h1 : b_X8_turningHeight_68 x1 x2 x3 x5 μ = some o := h0
    exact wb_X8_turningHeight_68 h1 F E (fun t H locs ls ho hM hS hl => ih t.1 t.2 (hc t ho) hM hS hl) (fun t H locs ls ho hM hS hl => kx t (hq _ ho).symm hM hS hl) hM hS hl
def f_X8_turningHeight (p1 : Int32) (p2 : Int32) (μ : gM) : Option (Int64 × gM) :=
  Option.bind (f_X8_isLine p1 μ) (fun q1 => Option.bind (f_X8_fails (b2i q1) μ) (fun q2 => if ((b2i q2.1) = 0) then Option.bind (f_X8_layProvisional  q2.2) (fun q4 => Option.bind (f_X8_setups p1 q4) (fun q5 => Option.bind (f_X8_inRange p2 (0 : Int32) (q5 - (1 : Int32)) q4) (fun q6 => if ((b2i q6) = 0) then some ((-9223372036854775808 : Int64), q4) else Option.bind (f_X8_first p1 q4) (fun q8 => gchk (gIn q8 16) (if ((gl q4 76 q8.toNatClampNeg) = (-9223372036854775808 : Int64)) then some ((-9223372036854775808 : Int64), q4) else Option.bind (f_X8_first p1 q4) (fun q11 => gchk (gIn q11 16) (Option.bind (gloop (fun t => b_X8_turningHeight_68 p1 p2 t.1 t.2 q4) gFuel ((gl q4 76 q11.toNatClampNeg), (0 : Int32))) (fun q15 => some (q15, q4))))))))) else some ((0 : Int64), q2.2)))
set_option maxHeartbeats 4000000 in
set_option maxRecDepth 100000 in
theorem c_X8_turningHeight {l : Launch} {D : va_G} {cy : Nat → ClassId} {ad : Nat → Nat} {base : Nat} {p1 : Int32} {p2 : Int32} {μ : gM} {RES : Int64 × gM} (h : f_X8_turningHeight p1 p2 μ = some RES) : Met l yX8_turningHeight [.code yX8_turningHeight cX8_turningHeight 6 (some .long)] ({ frames := 6, cells := 0, slots := 0, locals := 136 } : Room) (va_Pc [.ref (ad 60), .int p1, .int p2] (gB l gFull D cy ad base μ)) (gQ (some (.long RES.1)) gFull D cy ad base RES.2) 0 0 (gA base) := by
  refine Met.ofW (cc := cX8_turningHeight) (maxL := 6) (ret := (some .long)) (by decide) rfl ?_
  intro p e s m args below meth c s₁ B hml0 hv
  obtain ⟨rfl, E, hM⟩ := hv
  have F : gF p s m meth c cX8_turningHeight RX8 6 (some .long) := gF_of B hml0
  obtain ⟨hx, hb, hml, hown, hlocks, hr⟩ := id F
  have hS : va_S (gA base) s.heap s.heap [] := va_S.rf
  have hl := lv_entry ([.ref (ad 60), .int p1, .int p2]) (n := 6) (Nat.le_of_ble_eq_true rfl)
  rw [lg_entry_eq]
  generalize (lg_sl ([.ref (ad 60), .int p1, .int p2]) ++ List.replicate (6 - (lg_sl ([.ref (ad 60), .int p1, .int p2])).length) Slot.unset).toArray = ls at hl ⊢
  have hl : lv_has ls 6 [(0, .ref (ad 60)), (1, .int p1), (2, .int p2)] := hl
  unfold f_X8_turningHeight at h
  refine lv_aload_n hx hb dX8_turningHeight_0 rfl (lv_at hl 0 rfl) ?_
  refine lv_aload_n hx hb dX8_turningHeight_1 rfl (lv_at hl 0 rfl) ?_
  refine lv_iload_n hx hb dX8_turningHeight_2 rfl (lv_at hl 1 rfl) ?_
  obtain ⟨q1, hq1, h⟩ := gbind_e h
  refine g_callV (As := [.int p1]) (rest := [.ref (ad 60)]) hx hb (hml.trans hl.1.symm) hown E hM hS hy_X8_isLine kw_1571 (c_X8_isLine hq1) hk_60 dd_60 rfl rfl rfl (Nat.le_of_ble_eq_true rfl) ⟨Nat.le_of_ble_eq_true rfl, Nat.le_of_ble_eq_true rfl⟩ ⟨Nat.le_of_ble_eq_true rfl, Nat.le_of_ble_eq_true rfl⟩ dX8_turningHeight_3 (fun H locs hM hS => ?_)
  obtain ⟨q2, hq2, h⟩ := gbind_e h
  refine g_callV (As := [.int (b2i q1)]) (rest := []) hx hb (hml.trans hl.1.symm) hown E hM hS hy_X8_fails kw_1534 (c_X8_fails hq2) hk_60 dd_60 rfl rfl rfl (Nat.le_of_ble_eq_true rfl) ⟨Nat.le_of_ble_eq_true rfl, Nat.le_of_ble_eq_true rfl⟩ ⟨Nat.le_of_ble_eq_true rfl, Nat.le_of_ble_eq_true rfl⟩ dX8_turningHeight_6 (fun H locs hM hS => ?_)
  refine lv_if_eq (tgt := 14) hx hb dX8_turningHeight_9 (by decide) (fun c3 => ?_) (fun c3 => ?_)
  · replace h := gif_t c3 h
    refine lv_aload_n hx hb dX8_turningHeight_14 rfl (lv_at hl 0 rfl) ?_
    obtain ⟨q4, hq4, h⟩ := gbind_e h
    refine g_callV (As := []) (rest := []) hx hb (hml.trans hl.1.symm) hown E hM hS hy_X8_layProvisional kw_1831 (c_X8_layProvisional hq4) hk_60 dd_60 rfl rfl rfl (Nat.le_of_ble_eq_true rfl) ⟨Nat.le_of_ble_eq_true rfl, Nat.le_of_ble_eq_true rfl⟩ ⟨Nat.le_of_ble_eq_true rfl, Nat.le_of_ble_eq_true rfl⟩ dX8_turningHeight_15 (fun H locs hM hS => ?_)
    refine lv_iload_n hx hb dX8_turningHeight_18 rfl (lv_at hl 2 rfl) ?_
    refine lv_iconst (v := (0 : Int32)) hx hb dX8_turningHeight_19 (by decide) ?_
    refine lv_aload_n hx hb dX8_turningHeight_20 rfl (lv_at hl 0 rfl) ?_
    refine lv_iload_n hx hb dX8_turningHeight_21 rfl (lv_at hl 1 rfl) ?_
    obtain ⟨q5, hq5, h⟩ := gbind_e h
    refine g_callV (As := [.int p1]) (rest := [.int (0 : Int32), .int p2]) hx hb (hml.trans hl.1.symm) hown E hM hS hy_X8_setups kw_1583 (c_X8_setups hq5) hk_60 dd_60 rfl rfl rfl (Nat.le_of_ble_eq_true rfl) ⟨Nat.le_of_ble_eq_true rfl, Nat.le_of_ble_eq_true rfl⟩ ⟨Nat.le_of_ble_eq_true rfl, Nat.le_of_ble_eq_true rfl⟩ dX8_turningHeight_22 (fun H locs hM hS => ?_)
    refine lv_iconst (v := (1 : Int32)) hx hb dX8_turningHeight_25 (by decide) ?_
    refine lv_isub hx hb dX8_turningHeight_26 ?_
    obtain ⟨q6, hq6, h⟩ := gbind_e h
    refine g_callS (As := [.int p2, .int (0 : Int32), .int (q5 - (1 : Int32))]) (rest := []) hx hb (hml.trans hl.1.symm) hown E hM hS hy_X8_inRange kw_1379 (c_X8_inRange hq6) rfl rfl (Nat.le_of_ble_eq_true rfl) ⟨Nat.le_of_ble_eq_true rfl, Nat.le_of_ble_eq_true rfl⟩ ⟨Nat.le_of_ble_eq_true rfl, Nat.le_of_ble_eq_true rfl⟩ dX8_turningHeight_27 (fun H locs hM hS => ?_)
    refine lv_if_eq (tgt := 50) hx hb dX8_turningHeight_30 (by decide) (fun c7 => ?_) (fun c7 => ?_)
    · replace h := gif_t c7 h
      refine lv_ldc2 hx hb hown (v := (-9223372036854775808 : Int64)) (E.kw kw_1835) dX8_turningHeight_50 ?_
      obtain rfl := Option.some.inj h
      exact g_lret hx hb hr hlocks hM hS dX8_turningHeight_53
    · replace h := gif_f c7 h
      refine lv_aload_n hx hb dX8_turningHeight_33 rfl (lv_at hl 0 rfl) ?_
      refine gg_60_35 hx hb hown E hM hk_60 kw_1277 dX8_turningHeight_34 ?_
      refine lv_aload_n hx hb dX8_turningHeight_37 rfl (lv_at hl 0 rfl) ?_
      refine lv_iload_n hx hb dX8_turningHeight_38 rfl (lv_at hl 1 rfl) ?_
      obtain ⟨q8, hq8, h⟩ := gbind_e h
      refine g_callV (As := [.int p1]) (rest := [.ref (ad 76)]) hx hb (hml.trans hl.1.symm) hown E hM hS hy_X8_first kw_1575 (c_X8_first hq8) hk_60 dd_60 rfl rfl rfl (Nat.le_of_ble_eq_true rfl) ⟨Nat.le_of_ble_eq_true rfl, Nat.le_of_ble_eq_true rfl⟩ ⟨Nat.le_of_ble_eq_true rfl, Nat.le_of_ble_eq_true rfl⟩ dX8_turningHeight_39 (fun H locs hM hS => ?_)
      obtain ⟨c9, h⟩ := gchk_e h
      refine g_lald hx hb E hM hk_76 dd_76 c9 dX8_turningHeight_42 ?_
      refine lv_ldc2 hx hb hown (v := (-9223372036854775808 : Int64)) (E.kw kw_1835) dX8_turningHeight_43 ?_
      refine W.lcmp hx hb dX8_turningHeight_46 ?_
      refine lv_if_ne (tgt := 54) hx hb dX8_turningHeight_47 (by decide) (fun c10 => ?_) (fun c10 => ?_)
      · replace c10 := fun w => c10 ((lg_cmp_eq _ _).mpr w)
        replace h := gif_f c10 h
        refine lv_aload_n hx hb dX8_turningHeight_54 rfl (lv_at hl 0 rfl) ?_
        refine gg_60_35 hx hb hown E hM hk_60 kw_1277 dX8_turningHeight_55 ?_
        refine lv_aload_n hx hb dX8_turningHeight_58 rfl (lv_at hl 0 rfl) ?_
        refine lv_iload_n hx hb dX8_turningHeight_59 rfl (lv_at hl 1 rfl) ?_
        obtain ⟨q11, hq11, h⟩ := gbind_e h
        refine g_callV (As := [.int p1]) (rest := [.ref (ad 76)]) hx hb (hml.trans hl.1.symm) hown E hM hS hy_X8_first kw_1575 (c_X8_first hq11) hk_60 dd_60 rfl rfl rfl (Nat.le_of_ble_eq_true rfl) ⟨Nat.le_of_ble_eq_true rfl, Nat.le_of_ble_eq_true rfl⟩ ⟨Nat.le_of_ble_eq_true rfl, Nat.le_of_ble_eq_true rfl⟩ dX8_turningHeight_60 (fun H locs hM hS => ?_)
        obtain ⟨c12, h⟩ := gchk_e h
        refine g_lald hx hb E hM hk_76 dd_76 c12 dX8_turningHeight_63 ?_
        refine lv_lstore_n (lv' := [(3, .long (gl q4 76 q11.toNatClampNeg)), (0, .ref (ad 60)), (1, .int p1), (2, .int p2)]) hx hb dX8_turningHeight_64 rfl hl (by decide) rfl (fun ls hl => ?_)
        refine lv_iconst (v := (0 : Int32)) hx hb dX8_turningHeight_65 (by decide) ?_
        refine lv_istore (lv' := [(5, .int (0 : Int32)), (3, .long (gl q4 76 q11.toNatClampNeg)), (0, .ref (ad 60)), (1, .int p1), (2, .int p2)]) hx hb dX8_turningHeight_66 hl (by decide) rfl (fun ls hl => ?_)
        obtain ⟨z16, h1, h⟩ := gbind_e h
        refine wl_X8_turningHeight_68 F E (r := z16) (fun q15 H locs ls e1 hM hS hl => ?_) gFuel (gl q4 76 q11.toNatClampNeg) (0 : Int32) h1 hM hS (lv_sub hl [2, 3, 4, 1, 0] rfl)
        replace e1 : z16 = q15 := e1
        rw [e1] at h
        refine lv_lload_n hx hb dX8_turningHeight_91 rfl (lv_at hl 0 rfl) ?_
        obtain rfl := Option.some.inj h
        exact g_lret hx hb hr hlocks hM hS dX8_turningHeight_92
      · replace c10 := (lg_cmp_eq _ _).mp c10
        replace h := gif_t c10 h
        refine lv_ldc2 hx hb hown (v := (-9223372036854775808 : Int64)) (E.kw kw_1835) dX8_turningHeight_50 ?_
        obtain rfl := Option.some.inj h
        exact g_lret hx hb hr hlocks hM hS dX8_turningHeight_53
  · replace h := gif_f c3 h
    refine lv_lconst (v := (0 : Int64)) hx hb dX8_turningHeight_12 (by decide) ?_
    obtain rfl := Option.some.inj h
    exact g_lret hx hb hr hlocks hM hS dX8_turningHeight_13
def b_X8_reached_13 (x1 : Int32) (x2 : Int32) (μ : gM) : Option ((Int32 × Int32) ⊕ (Int32)) :=
  Option.bind (f_X8_count (1 : Int32) μ) (fun q2 => if (q2 ≤ x2) then some (.inr x1) else gchk (gIn x2 16) (if ((gl μ 76 x2.toNatClampNeg) = (-9223372036854775808 : Int64)) then some (.inl ((x1 ||| (0 : Int32)), (x2 + (1 : Int32)))) else some (.inl ((x1 ||| ((1 : Int32) <<< (x2 &&& 31))), (x2 + (1 : Int32))))))
set_option maxHeartbeats 4000000 in
set_option maxRecDepth 100000 in
theorem wb_X8_reached_13 {p : Program} {l : Launch} {e : Env} {s : State} {m : MethodId} {args : Array Value} {below : List Frame} {meth : Method} {c : Code} {D : va_G} {cy : Nat → ClassId} {ad : Nat → Nat} {base : Nat} {x1 : Int32} {x2 : Int32} {μ : gM} {o : (Int32 × Int32) ⊕ (Int32)} {RES : Int32 × gM} (h : b_X8_reached_13 x1 x2 μ = some o) (F : gF p s m meth c cX8_reached RX8 3 (some .int)) (E : gEnv l D cy ad base s) (kc : ∀ (t : Int32 × Int32) {H : Heap} {locs : List Loc} {ls : Array Slot}, o = .inl t → gW gFull D cy ad base μ H → va_S (gA base) s.heap H locs → lv_has ls 3 [(0, .ref (ad 60)), (1, .int t.1), (2, .int t.2)] → W p l e ({ frames := 6, cells := 0, slots := 0, locals := 136 } : Room) s m args below meth c H locs 0 0 (MQ below (gQ (some (.int RES.1)) gFull D cy ad base RES.2) args s 0 0 (gA base)) (F0 m 13 ls [])) (kx : ∀ (t : Int32) {H : Heap} {locs : List Loc} {ls : Array Slot}, o = .inr t → gW gFull D cy ad base μ H → va_S (gA base) s.heap H locs → lv_has ls 3 [(1, .int t)] → W p l e ({ frames := 6, cells := 0, slots := 0, locals := 136 } : Room) s m args below meth c H locs 0 0 (MQ below (gQ (some (.int RES.1)) gFull D cy ad base RES.2) args s 0 0 (gA base)) (F0 m 51 ls []))  {H : Heap} {locs : List Loc} {ls : Array Slot} (hM : gW gFull D cy ad base μ H) (hS : va_S (gA base) s.heap H locs) (hl : lv_has ls 3 [(0, .ref (ad 60)), (1, .int x1), (2, .int x2)]) : W p l e ({ frames := 6, cells := 0, slots := 0, locals := 136 } : Room) s m args below meth c H locs 0 0 (MQ below (gQ (some (.int RES.1)) gFull D cy ad base RES.2) args s 0 0 (gA base)) (F0 m 13 ls []) := by
  obtain ⟨hx, hb, hml, hown, hlocks, hr⟩ := id F
  unfold b_X8_reached_13 at h
  refine lv_iload_n hx hb dX8_reached_13 rfl (lv_at hl 2 rfl) ?_
  refine lv_aload_n hx hb dX8_reached_14 rfl (lv_at hl 0 rfl) ?_
  refine lv_iconst (v := (1 : Int32)) hx hb dX8_reached_15 (by decide) ?_
  obtain ⟨q2, hq2, h⟩ := gbind_e h
  refine g_callV (As := [.int (1 : Int32)]) (rest := [.int x2]) hx hb (hml.trans hl.1.symm) hown E hM hS hy_X8_count kw_1498 (c_X8_count hq2) hk_60 dd_60 rfl rfl rfl (Nat.le_of_ble_eq_true rfl) ⟨Nat.le_of_ble_eq_true rfl, Nat.le_of_ble_eq_true rfl⟩ ⟨Nat.le_of_ble_eq_true rfl, Nat.le_of_ble_eq_true rfl⟩ dX8_reached_16 (fun H locs hM hS => ?_)
  refine lv_icmp_ge (tgt := 51) hx hb dX8_reached_19 (by decide) (fun c3 => ?_) (fun c3 => ?_)
  · replace h := gif_t c3 h
    exact kx _ (Option.some.inj h).symm hM hS (lv_sub hl [1] rfl)
  · replace h := gif_f c3 h
    refine lv_iload_n hx hb dX8_reached_22 rfl (lv_at hl 1 rfl) ?_
    refine lv_aload_n hx hb dX8_reached_23 rfl (lv_at hl 0 rfl) ?_
    refine gg_60_35 hx hb hown E hM hk_60 kw_1277 dX8_reached_24 ?_
    refine lv_iload_n hx hb dX8_reached_27 rfl (lv_at hl 2 rfl) ?_
    obtain ⟨c4, h⟩ := gchk_e h
    refine g_lald hx hb E hM hk_76 dd_76 c4 dX8_reached_28 ?_
    refine lv_ldc2 hx hb hown (v := (-9223372036854775808 : Int64)) (E.kw kw_1835) dX8_reached_29 ?_
    refine W.lcmp hx hb dX8_reached_32 ?_
    refine lv_if_eq (tgt := 42) hx hb dX8_reached_33 (by decide) (fun c5 => ?_) (fun c5 => ?_)
    · replace c5 := (lg_cmp_eq _ _).mp c5
      replace h := gif_t c5 h
      refine lv_iconst (v := (0 : Int32)) hx hb dX8_reached_42 (by decide) ?_
      refine lv_ior hx hb dX8_reached_43 ?_
      refine lv_istore_n (lv' := [(1, .int (x1 ||| (0 : Int32))), (0, .ref (ad 60)), (2, .int x2)]) hx hb dX8_reached_44 rfl hl (by decide) rfl (fun ls hl => ?_)
      refine lv_iinc (v := (x2 + (1 : Int32))) (lv' := [(2, .int (x2 + (1 : Int32))), (1, .int (x1 ||| (0 : Int32))), (0, .ref (ad 60))]) hx hb dX8_reached_45 hl (k := 2) rfl rfl (by decide) rfl (fun ls hl => ?_)
      refine lv_goto (tgt := 13) hx hb dX8_reached_48 (by decide) ?_
      exact kc _ (Option.some.inj h).symm hM hS (lv_sub hl [2, 1, 0] rfl)
    · replace c5 := fun w => c5 ((lg_cmp_eq _ _).mpr w)
      replace h := gif_f c5 h
      refine lv_iconst (v := (1 : Int32)) hx hb dX8_reached_36 (by decide) ?_
      refine lv_iload_n hx hb dX8_reached_37 rfl (lv_at hl 2 rfl) ?_
      refine lv_ishl hx hb dX8_reached_38 ?_
      refine lv_goto (tgt := 43) hx hb dX8_reached_39 (by decide) ?_
      refine lv_ior hx hb dX8_reached_43 ?_
      refine lv_istore_n (lv' := [(1, .int (x1 ||| ((1 : Int32) <<< (x2 &&& 31)))), (0, .ref (ad 60)), (2, .int x2)]) hx hb dX8_reached_44 rfl hl (by decide) rfl (fun ls hl => ?_)
      refine lv_iinc (v := (x2 + (1 : Int32))) (lv' := [(2, .int (x2 + (1 : Int32))), (1, .int (x1 ||| ((1 : Int32) <<< (x2 &&& 31)))), (0, .ref (ad 60))]) hx hb dX8_reached_45 hl (k := 2) rfl rfl (by decide) rfl (fun ls hl => ?_)
      refine lv_goto (tgt := 13) hx hb dX8_reached_48 (by decide) ?_
      exact kc _ (Option.some.inj h).symm hM hS (lv_sub hl [2, 1, 0] rfl)
set_option maxHeartbeats 4000000 in
theorem wl_X8_reached_13 {p : Program} {l : Launch} {e : Env} {s : State} {m : MethodId} {args : Array Value} {below : List Frame} {meth : Method} {c : Code} {D : va_G} {cy : Nat → ClassId} {ad : Nat → Nat} {base : Nat}  {μ : gM} {r : Int32} {RES : Int32 × gM} (F : gF p s m meth c cX8_reached RX8 3 (some .int)) (E : gEnv l D cy ad base s) (kx : ∀ (t : Int32) {H : Heap} {locs : List Loc} {ls : Array Slot}, r = t → gW gFull D cy ad base μ H → va_S (gA base) s.heap H locs → lv_has ls 3 [(1, .int t)] → W p l e ({ frames := 6, cells := 0, slots := 0, locals := 136 } : Room) s m args below meth c H locs 0 0 (MQ below (gQ (some (.int RES.1)) gFull D cy ad base RES.2) args s 0 0 (gA base)) (F0 m 51 ls []))  : ∀ (n : Nat) (x1 : Int32) (x2 : Int32), gloop (fun t => b_X8_reached_13  t.1 t.2 μ) n (x1, x2) = some r → ∀ {H : Heap} {locs : List Loc} {ls : Array Slot}, gW gFull D cy ad base μ H → va_S (gA base) s.heap H locs → lv_has ls 3 [(0, .ref (ad 60)), (1, .int x1), (2, .int x2)] → W p l e ({ frames := 6, cells := 0, slots := 0, locals := 136 } : Room) s m args below meth c H locs 0 0 (MQ below (gQ (some (.int RES.1)) gFull D cy ad base RES.2) args s 0 0 (gA base)) (F0 m 13 ls []) := by
  intro n
  induction n with
  | zero =>
    intro x1 x2 h
    exact (gloop_0 h).elim
  | succ n ih =>
    intro x1 x2 h H locs ls hM hS hl
    obtain ⟨o, h0, hc, hq⟩ := gloop_s h
    have h1 : b_X8_reached_13 x1 x2 μ = some o := h0
    exact wb_X8_reached_13 h1 F E (fun t H locs ls ho hM hS hl => ih t.1 t.2 (hc t ho) hM hS hl) (fun t H locs ls ho hM hS hl => kx t (hq _ ho).symm hM hS hl) hM hS hl
def f_X8_reached (μ : gM) : Option (Int32 × gM) :=
  Option.bind (f_X8_layProvisional  (si μ 60 6 (0 : Int32))) (fun q1 => Option.bind (gloop (fun t => b_X8_reached_13  t.1 t.2 q1) gFuel ((0 : Int32), (0 : Int32))) (fun q6 => some (q6, q1)))
set_option maxHeartbeats 4000000 in
set_option maxRecDepth 100000 in
theorem c_X8_reached {l : Launch} {D : va_G} {cy : Nat → ClassId} {ad : Nat → Nat} {base : Nat}  {μ : gM} {RES : Int32 × gM} (h : f_X8_reached  μ = some RES) : Met l yX8_reached [.code yX8_reached cX8_reached 3 (some .int)] ({ frames := 6, cells := 0, slots := 0, locals := 136 } : Room) (va_Pc [.ref (ad 60)] (gB l gFull D cy ad base μ)) (gQ (some (.int RES.1)) gFull D cy ad base RES.2) 0 0 (gA base) := by
  refine Met.ofW (cc := cX8_reached) (maxL := 3) (ret := (some .int)) (by decide) rfl ?_
  intro p e s m args below meth c s₁ B hml0 hv
  obtain ⟨rfl, E, hM⟩ := hv
  have F : gF p s m meth c cX8_reached RX8 3 (some .int) := gF_of B hml0
  obtain ⟨hx, hb, hml, hown, hlocks, hr⟩ := id F
  have hS : va_S (gA base) s.heap s.heap [] := va_S.rf
  have hl := lv_entry ([.ref (ad 60)]) (n := 3) (Nat.le_of_ble_eq_true rfl)
  rw [lg_entry_eq]
  generalize (lg_sl ([.ref (ad 60)]) ++ List.replicate (3 - (lg_sl ([.ref (ad 60)])).length) Slot.unset).toArray = ls at hl ⊢
  have hl : lv_has ls 3 [(0, .ref (ad 60))] := hl
  unfold f_X8_reached at h
  refine lv_aload_n hx hb dX8_reached_0 rfl (lv_at hl 0 rfl) ?_
  refine lv_iconst (v := (0 : Int32)) hx hb dX8_reached_1 (by decide) ?_
  refine gp_60_6 hx hb hown E hM hS hk_60 kw_1248 dX8_reached_2 (fun H locs hM hS => ?_)
  refine lv_aload_n hx hb dX8_reached_5 rfl (lv_at hl 0 rfl) ?_
  obtain ⟨q1, hq1, h⟩ := gbind_e h
  refine g_callV (As := []) (rest := []) hx hb (hml.trans hl.1.symm) hown E hM hS hy_X8_layProvisional kw_1831 (c_X8_layProvisional hq1) hk_60 dd_60 rfl rfl rfl (Nat.le_of_ble_eq_true rfl) ⟨Nat.le_of_ble_eq_true rfl, Nat.le_of_ble_eq_true rfl⟩ ⟨Nat.le_of_ble_eq_true rfl, Nat.le_of_ble_eq_true rfl⟩ dX8_reached_6 (fun H locs hM hS => ?_)
  refine lv_iconst (v := (0 : Int32)) hx hb dX8_reached_9 (by decide) ?_
  refine lv_istore_n (lv' := [(1, .int (0 : Int32)), (0, .ref (ad 60))]) hx hb dX8_reached_10 rfl hl (by decide) rfl (fun ls hl => ?_)
  refine lv_iconst (v := (0 : Int32)) hx hb dX8_reached_11 (by decide) ?_
  refine lv_istore_n (lv' := [(2, .int (0 : Int32)), (1, .int (0 : Int32)), (0, .ref (ad 60))]) hx hb dX8_reached_12 rfl hl (by decide) rfl (fun ls hl => ?_)
  obtain ⟨z7, h1, h⟩ := gbind_e h
  refine wl_X8_reached_13 F E (r := z7) (fun q6 H locs ls e1 hM hS hl => ?_) gFuel (0 : Int32) (0 : Int32) h1 hM hS (lv_sub hl [2, 1, 0] rfl)
  replace e1 : z7 = q6 := e1
  rw [e1] at h
  refine lv_iload_n hx hb dX8_reached_51 rfl (lv_at hl 0 rfl) ?_
  obtain rfl := Option.some.inj h
  exact g_iret hx hb hr hlocks hM hS dX8_reached_52
def b_X8_redundancy_13 (x1 : Int32) (x2 : Int32) (μ : gM) : Option ((Int32 × Int32) ⊕ (Int32)) :=
  Option.bind (f_X8_count (2 : Int32) μ) (fun q2 => if (q2 ≤ x2) then some (.inr x1) else Option.bind (f_X8_isActive x2 μ) (fun q4 => if ((b2i q4) = 0) then some (.inl ((x1 + (0 : Int32)), (x2 + (1 : Int32)))) else Option.bind (f_X8_first x2 μ) (fun q6 => gchk (gIn q6 16) (if ((gl μ 76 q6.toNatClampNeg) = (-9223372036854775808 : Int64)) then some (.inl ((x1 + (0 : Int32)), (x2 + (1 : Int32)))) else Option.bind (f_X8_second x2 μ) (fun q9 => gchk (gIn q9 16) (if ((gl μ 76 q9.toNatClampNeg) = (-9223372036854775808 : Int64)) then some (.inl ((x1 + (0 : Int32)), (x2 + (1 : Int32)))) else some (.inl ((x1 + (1 : Int32)), (x2 + (1 : Int32))))))))))
set_option maxHeartbeats 4000000 in
set_option maxRecDepth 100000 in
theorem wb_X8_redundancy_13 {p : Program} {l : Launch} {e : Env} {s : State} {m : MethodId} {args : Array Value} {below : List Frame} {meth : Method} {c : Code} {D : va_G} {cy : Nat → ClassId} {ad : Nat → Nat} {base : Nat} {x1 : Int32} {x2 : Int32} {μ : gM} {o : (Int32 × Int32) ⊕ (Int32)} {RES : Int32 × gM} (h : b_X8_redundancy_13 x1 x2 μ = some o) (F : gF p s m meth c cX8_redundancy RX8 3 (some .int)) (E : gEnv l D cy ad base s) (kc : ∀ (t : Int32 × Int32) {H : Heap} {locs : List Loc} {ls : Array Slot}, o = .inl t → gW gFull D cy ad base μ H → va_S (gA base) s.heap H locs → lv_has ls 3 [(0, .ref (ad 60)), (1, .int t.1), (2, .int t.2)] → W p l e ({ frames := 6, cells := 0, slots := 0, locals := 136 } : Room) s m args below meth c H locs 0 0 (MQ below (gQ (some (.int RES.1)) gFull D cy ad base RES.2) args s 0 0 (gA base)) (F0 m 13 ls [])) (kx : ∀ (t : Int32) {H : Heap} {locs : List Loc} {ls : Array Slot}, o = .inr t → gW gFull D cy ad base μ H → va_S (gA base) s.heap H locs → lv_has ls 3 [(0, .ref (ad 60)), (1, .int t)] → W p l e ({ frames := 6, cells := 0, slots := 0, locals := 136 } : Room) s m args below meth c H locs 0 0 (MQ below (gQ (some (.int RES.1)) gFull D cy ad base RES.2) args s 0 0 (gA base)) (F0 m 78 ls []))  {H : Heap} {locs : List Loc} {ls : Array Slot} (hM : gW gFull D cy ad base μ H) (hS : va_S (gA base) s.heap H locs) (hl : lv_has ls 3 [(0, .ref (ad 60)), (1, .int x1), (2, .int x2)]) : W p l e ({ frames := 6, cells := 0, slots := 0, locals := 136 } : Room) s m args below meth c H locs 0 0 (MQ below (gQ (some (.int RES.1)) gFull D cy ad base RES.2) args s 0 0 (gA base)) (F0 m 13 ls []) := by
  obtain ⟨hx, hb, hml, hown, hlocks, hr⟩ := id F
  unfold b_X8_redundancy_13 at h
  refine lv_iload_n hx hb dX8_redundancy_13 rfl (lv_at hl 2 rfl) ?_
  refine lv_aload_n hx hb dX8_redundancy_14 rfl (lv_at hl 0 rfl) ?_
  refine lv_iconst (v := (2 : Int32)) hx hb dX8_redundancy_15 (by decide) ?_
  obtain ⟨q2, hq2, h⟩ := gbind_e h
  refine g_callV (As := [.int (2 : Int32)]) (rest := [.int x2]) hx hb (hml.trans hl.1.symm) hown E hM hS hy_X8_count kw_1498 (c_X8_count hq2) hk_60 dd_60 rfl rfl rfl (Nat.le_of_ble_eq_true rfl) ⟨Nat.le_of_ble_eq_true rfl, Nat.le_of_ble_eq_true rfl⟩ ⟨Nat.le_of_ble_eq_true rfl, Nat.le_of_ble_eq_true rfl⟩ dX8_redundancy_16 (fun H locs hM hS => ?_)
  refine lv_icmp_ge (tgt := 78) hx hb dX8_redundancy_19 (by decide) (fun c3 => ?_) (fun c3 => ?_)
  · replace h := gif_t c3 h
    exact kx _ (Option.some.inj h).symm hM hS (lv_sub hl [0, 1] rfl)
  · replace h := gif_f c3 h
    refine lv_iload_n hx hb dX8_redundancy_22 rfl (lv_at hl 1 rfl) ?_
    refine lv_aload_n hx hb dX8_redundancy_23 rfl (lv_at hl 0 rfl) ?_
    refine lv_iload_n hx hb dX8_redundancy_24 rfl (lv_at hl 2 rfl) ?_
    obtain ⟨q4, hq4, h⟩ := gbind_e h
    refine g_callV (As := [.int x2]) (rest := [.int x1]) hx hb (hml.trans hl.1.symm) hown E hM hS hy_X8_isActive kw_1671 (c_X8_isActive hq4) hk_60 dd_60 rfl rfl rfl (Nat.le_of_ble_eq_true rfl) ⟨Nat.le_of_ble_eq_true rfl, Nat.le_of_ble_eq_true rfl⟩ ⟨Nat.le_of_ble_eq_true rfl, Nat.le_of_ble_eq_true rfl⟩ dX8_redundancy_25 (fun H locs hM hS => ?_)
    refine lv_if_eq (tgt := 69) hx hb dX8_redundancy_28 (by decide) (fun c5 => ?_) (fun c5 => ?_)
    · replace h := gif_t c5 h
      refine lv_iconst (v := (0 : Int32)) hx hb dX8_redundancy_69 (by decide) ?_
      refine lv_iadd hx hb dX8_redundancy_70 ?_
      refine lv_istore_n (lv' := [(1, .int (x1 + (0 : Int32))), (0, .ref (ad 60)), (2, .int x2)]) hx hb dX8_redundancy_71 rfl hl (by decide) rfl (fun ls hl => ?_)
      refine lv_iinc (v := (x2 + (1 : Int32))) (lv' := [(2, .int (x2 + (1 : Int32))), (1, .int (x1 + (0 : Int32))), (0, .ref (ad 60))]) hx hb dX8_redundancy_72 hl (k := 2) rfl rfl (by decide) rfl (fun ls hl => ?_)
      refine lv_goto (tgt := 13) hx hb dX8_redundancy_75 (by decide) ?_
      exact kc _ (Option.some.inj h).symm hM hS (lv_sub hl [2, 1, 0] rfl)
    · replace h := gif_f c5 h
      refine lv_aload_n hx hb dX8_redundancy_31 rfl (lv_at hl 0 rfl) ?_
      refine gg_60_35 hx hb hown E hM hk_60 kw_1277 dX8_redundancy_32 ?_
      refine lv_aload_n hx hb dX8_redundancy_35 rfl (lv_at hl 0 rfl) ?_
      refine lv_iload_n hx hb dX8_redundancy_36 rfl (lv_at hl 2 rfl) ?_
      obtain ⟨q6, hq6, h⟩ := gbind_e h
      refine g_callV (As := [.int x2]) (rest := [.ref (ad 76), .int x1]) hx hb (hml.trans hl.1.symm) hown E hM hS hy_X8_first kw_1575 (c_X8_first hq6) hk_60 dd_60 rfl rfl rfl (Nat.le_of_ble_eq_true rfl) ⟨Nat.le_of_ble_eq_true rfl, Nat.le_of_ble_eq_true rfl⟩ ⟨Nat.le_of_ble_eq_true rfl, Nat.le_of_ble_eq_true rfl⟩ dX8_redundancy_37 (fun H locs hM hS => ?_)
      obtain ⟨c7, h⟩ := gchk_e h
      refine g_lald hx hb E hM hk_76 dd_76 c7 dX8_redundancy_40 ?_
      refine lv_ldc2 hx hb hown (v := (-9223372036854775808 : Int64)) (E.kw kw_1835) dX8_redundancy_41 ?_
      refine W.lcmp hx hb dX8_redundancy_44 ?_
      refine lv_if_eq (tgt := 69) hx hb dX8_redundancy_45 (by decide) (fun c8 => ?_) (fun c8 => ?_)
      · replace c8 := (lg_cmp_eq _ _).mp c8
        replace h := gif_t c8 h
        refine lv_iconst (v := (0 : Int32)) hx hb dX8_redundancy_69 (by decide) ?_
        refine lv_iadd hx hb dX8_redundancy_70 ?_
        refine lv_istore_n (lv' := [(1, .int (x1 + (0 : Int32))), (0, .ref (ad 60)), (2, .int x2)]) hx hb dX8_redundancy_71 rfl hl (by decide) rfl (fun ls hl => ?_)
        refine lv_iinc (v := (x2 + (1 : Int32))) (lv' := [(2, .int (x2 + (1 : Int32))), (1, .int (x1 + (0 : Int32))), (0, .ref (ad 60))]) hx hb dX8_redundancy_72 hl (k := 2) rfl rfl (by decide) rfl (fun ls hl => ?_)
        refine lv_goto (tgt := 13) hx hb dX8_redundancy_75 (by decide) ?_
        exact kc _ (Option.some.inj h).symm hM hS (lv_sub hl [2, 1, 0] rfl)
      · replace c8 := fun w => c8 ((lg_cmp_eq _ _).mpr w)
        replace h := gif_f c8 h
        refine lv_aload_n hx hb dX8_redundancy_48 rfl (lv_at hl 0 rfl) ?_
        refine gg_60_35 hx hb hown E hM hk_60 kw_1277 dX8_redundancy_49 ?_
        refine lv_aload_n hx hb dX8_redundancy_52 rfl (lv_at hl 0 rfl) ?_
        refine lv_iload_n hx hb dX8_redundancy_53 rfl (lv_at hl 2 rfl) ?_
        obtain ⟨q9, hq9, h⟩ := gbind_e h
        refine g_callV (As := [.int x2]) (rest := [.ref (ad 76), .int x1]) hx hb (hml.trans hl.1.symm) hown E hM hS hy_X8_second kw_1579 (c_X8_second hq9) hk_60 dd_60 rfl rfl rfl (Nat.le_of_ble_eq_true rfl) ⟨Nat.le_of_ble_eq_true rfl, Nat.le_of_ble_eq_true rfl⟩ ⟨Nat.le_of_ble_eq_true rfl, Nat.le_of_ble_eq_true rfl⟩ dX8_redundancy_54 (fun H locs hM hS => ?_)
        obtain ⟨c10, h⟩ := gchk_e h
        refine g_lald hx hb E hM hk_76 dd_76 c10 dX8_redundancy_57 ?_
        refine lv_ldc2 hx hb hown (v := (-9223372036854775808 : Int64)) (E.kw kw_1835) dX8_redundancy_58 ?_
        refine W.lcmp hx hb dX8_redundancy_61 ?_
        refine lv_if_eq (tgt := 69) hx hb dX8_redundancy_62 (by decide) (fun c11 => ?_) (fun c11 => ?_)
        · replace c11 := (lg_cmp_eq _ _).mp c11
          replace h := gif_t c11 h
          refine lv_iconst (v := (0 : Int32)) hx hb dX8_redundancy_69 (by decide) ?_
          refine lv_iadd hx hb dX8_redundancy_70 ?_
          refine lv_istore_n (lv' := [(1, .int (x1 + (0 : Int32))), (0, .ref (ad 60)), (2, .int x2)]) hx hb dX8_redundancy_71 rfl hl (by decide) rfl (fun ls hl => ?_)
          refine lv_iinc (v := (x2 + (1 : Int32))) (lv' := [(2, .int (x2 + (1 : Int32))), (1, .int (x1 + (0 : Int32))), (0, .ref (ad 60))]) hx hb dX8_redundancy_72 hl (k := 2) rfl rfl (by decide) rfl (fun ls hl => ?_)
          refine lv_goto (tgt := 13) hx hb dX8_redundancy_75 (by decide) ?_
          exact kc _ (Option.some.inj h).symm hM hS (lv_sub hl [2, 1, 0] rfl)
        · replace c11 := fun w => c11 ((lg_cmp_eq _ _).mpr w)
          replace h := gif_f c11 h
          refine lv_iconst (v := (1 : Int32)) hx hb dX8_redundancy_65 (by decide) ?_
          refine lv_goto (tgt := 70) hx hb dX8_redundancy_66 (by decide) ?_
          refine lv_iadd hx hb dX8_redundancy_70 ?_
          refine lv_istore_n (lv' := [(1, .int (x1 + (1 : Int32))), (0, .ref (ad 60)), (2, .int x2)]) hx hb dX8_redundancy_71 rfl hl (by decide) rfl (fun ls hl => ?_)
          refine lv_iinc (v := (x2 + (1 : Int32))) (lv' := [(2, .int (x2 + (1 : Int32))), (1, .int (x1 + (1 : Int32))), (0, .ref (ad 60))]) hx hb dX8_redundancy_72 hl (k := 2) rfl rfl (by decide) rfl (fun ls hl => ?_)
          refine lv_goto (tgt := 13) hx hb dX8_redundancy_75 (by decide) ?_
          exact kc _ (Option.some.inj h).symm hM hS (lv_sub hl [2, 1, 0] rfl)
set_option maxHeartbeats 4000000 in
theorem wl_X8_redundancy_13 {p : Program} {l : Launch} {e : Env} {s : State} {m : MethodId} {args : Array Value} {below : List Frame} {meth : Method} {c : Code} {D : va_G} {cy : Nat → ClassId} {ad : Nat → Nat} {base : Nat}  {μ : gM} {r : Int32} {RES : Int32 × gM} (F : gF p s m meth c cX8_redundancy RX8 3 (some .int)) (E : gEnv l D cy ad base s) (kx : ∀ (t : Int32) {H : Heap} {locs : List Loc} {ls : Array Slot}, r = t → gW gFull D cy ad base μ H → va_S (gA base) s.heap H locs → lv_has ls 3 [(0, .ref (ad 60)), (1, .int t)] → W p l e ({ frames := 6, cells := 0, slots := 0, locals := 136 } : Room) s m args below meth c H locs 0 0 (MQ below (gQ (some (.int RES.1)) gFull D cy ad base RES.2) args s 0 0 (gA base)) (F0 m 78 ls []))  : ∀ (n : Nat) (x1 : Int32) (x2 : Int32), gloop (fun t => b_X8_redundancy_13  t.1 t.2 μ) n (x1, x2) = some r → ∀ {H : Heap} {locs : List Loc} {ls : Array Slot}, gW gFull D cy ad base μ H → va_S (gA base) s.heap H locs → lv_has ls 3 [(0, .ref (ad 60)), (1, .int x1), (2, .int x2)] → W p l e ({ frames := 6, cells := 0, slots := 0, locals := 136 } : Room) s m args below meth c H locs 0 0 (MQ below (gQ (some (.int RES.1)) gFull D cy ad base RES.2) args s 0 0 (gA base)) (F0 m 13 ls []) := by
  intro n
  induction n with
  | zero =>
    intro x1 x2 h
    exact (gloop_0 h).elim
  | succ n ih =>
    intro x1 x2 h H locs ls hM hS hl
    obtain ⟨o, h0, hc, hq⟩ := gloop_s h
    have h1 : b_X8_redundancy_13 x1 x2 μ = some o := h0
    exact wb_X8_redundancy_13 h1 F E (fun t H locs ls ho hM hS hl => ih t.1 t.2 (hc t ho) hM hS hl) (fun t H locs ls ho hM hS hl => kx t (hq _ ho).symm hM hS hl) hM hS hl
def b_X8_redundancy_80 (x1 : Int32) (x2 : Int32) (μ : gM) : Option ((Int32 × Int32) ⊕ (Int32)) :=
  Option.bind (f_X8_count (1 : Int32) μ) (fun q13 => if (q13 ≤ x2) then some (.inr x1) else gchk (gIn x2 16) (if ((gl μ 76 x2.toNatClampNeg) = (-9223372036854775808 : Int64)) then some (.inl ((x1 - (0 : Int32)), (x2 + (1 : Int32)))) else gchk (gIn ((6 : Int32) + x2) 703) (if (0 ≤ (gi μ 61 ((6 : Int32) + x2).toNatClampNeg)) then some (.inl ((x1 - (0 : Int32)), (x2 + (1 : Int32)))) else some (.inl ((x1 - (1 : Int32)), (x2 + (1 : Int32)))))))
set_option maxHeartbeats 4000000 in
set_option maxRecDepth 100000 in
theorem wb_X8_redundancy_80 {p : Program} {l : Launch} {e : Env} {s : State} {m : MethodId} {args : Array Value} {below : List Frame} {meth : Method} {c : Code} {D : va_G} {cy : Nat → ClassId} {ad : Nat → Nat} {base : Nat} {x1 : Int32} {x2 : Int32} {μ : gM} {o : (Int32 × Int32) ⊕ (Int32)} {RES : Int32 × gM} (h : b_X8_redundancy_80 x1 x2 μ = some o) (F : gF p s m meth c cX8_redundancy RX8 3 (some .int)) (E : gEnv l D cy ad base s) (kc : ∀ (t : Int32 × Int32) {H : Heap} {locs : List Loc} {ls : Array Slot}, o = .inl t → gW gFull D cy ad base μ H → va_S (gA base) s.heap H locs → lv_has ls 3 [(0, .ref (ad 60)), (1, .int t.1), (2, .int t.2)] → W p l e ({ frames := 6, cells := 0, slots := 0, locals := 136 } : Room) s m args below meth c H locs 0 0 (MQ below (gQ (some (.int RES.1)) gFull D cy ad base RES.2) args s 0 0 (gA base)) (F0 m 80 ls [])) (kx : ∀ (t : Int32) {H : Heap} {locs : List Loc} {ls : Array Slot}, o = .inr t → gW gFull D cy ad base μ H → va_S (gA base) s.heap H locs → lv_has ls 3 [(1, .int t)] → W p l e ({ frames := 6, cells := 0, slots := 0, locals := 136 } : Room) s m args below meth c H locs 0 0 (MQ below (gQ (some (.int RES.1)) gFull D cy ad base RES.2) args s 0 0 (gA base)) (F0 m 128 ls []))  {H : Heap} {locs : List Loc} {ls : Array Slot} (hM : gW gFull D cy ad base μ H) (hS : va_S (gA base) s.heap H locs) (hl : lv_has ls 3 [(0, .ref (ad 60)), (1, .int x1), (2, .int x2)]) : W p l e ({ frames := 6, cells := 0, slots := 0, locals := 136 } : Room) s m args below meth c H locs 0 0 (MQ below (gQ (some (.int RES.1)) gFull D cy ad base RES.2) args s 0 0 (gA base)) (F0 m 80 ls []) := by
  obtain ⟨hx, hb, hml, hown, hlocks, hr⟩ := id F
  unfold b_X8_redundancy_80 at h
  refine lv_iload_n hx hb dX8_redundancy_80 rfl (lv_at hl 2 rfl) ?_
  refine lv_aload_n hx hb dX8_redundancy_81 rfl (lv_at hl 0 rfl) ?_
  refine lv_iconst (v := (1 : Int32)) hx hb dX8_redundancy_82 (by decide) ?_
  obtain ⟨q13, hq13, h⟩ := gbind_e h
  refine g_callV (As := [.int (1 : Int32)]) (rest := [.int x2]) hx hb (hml.trans hl.1.symm) hown E hM hS hy_X8_count kw_1498 (c_X8_count hq13) hk_60 dd_60 rfl rfl rfl (Nat.le_of_ble_eq_true rfl) ⟨Nat.le_of_ble_eq_true rfl, Nat.le_of_ble_eq_true rfl⟩ ⟨Nat.le_of_ble_eq_true rfl, Nat.le_of_ble_eq_true rfl⟩ dX8_redundancy_83 (fun H locs hM hS => ?_)
  refine lv_icmp_ge (tgt := 128) hx hb dX8_redundancy_86 (by decide) (fun c14 => ?_) (fun c14 => ?_)
  · replace h := gif_t c14 h
    exact kx _ (Option.some.inj h).symm hM hS (lv_sub hl [1] rfl)
  · replace h := gif_f c14 h
    refine lv_iload_n hx hb dX8_redundancy_89 rfl (lv_at hl 1 rfl) ?_
    refine lv_aload_n hx hb dX8_redundancy_90 rfl (lv_at hl 0 rfl) ?_
    refine gg_60_35 hx hb hown E hM hk_60 kw_1277 dX8_redundancy_91 ?_
    refine lv_iload_n hx hb dX8_redundancy_94 rfl (lv_at hl 2 rfl) ?_
    obtain ⟨c15, h⟩ := gchk_e h
    refine g_lald hx hb E hM hk_76 dd_76 c15 dX8_redundancy_95 ?_
    refine lv_ldc2 hx hb hown (v := (-9223372036854775808 : Int64)) (E.kw kw_1835) dX8_redundancy_96 ?_
    refine W.lcmp hx hb dX8_redundancy_99 ?_
    refine lv_if_eq (tgt := 119) hx hb dX8_redundancy_100 (by decide) (fun c16 => ?_) (fun c16 => ?_)
    · replace c16 := (lg_cmp_eq _ _).mp c16
      replace h := gif_t c16 h
      refine lv_iconst (v := (0 : Int32)) hx hb dX8_redundancy_119 (by decide) ?_
      refine lv_isub hx hb dX8_redundancy_120 ?_
      refine lv_istore_n (lv' := [(1, .int (x1 - (0 : Int32))), (0, .ref (ad 60)), (2, .int x2)]) hx hb dX8_redundancy_121 rfl hl (by decide) rfl (fun ls hl => ?_)
      refine lv_iinc (v := (x2 + (1 : Int32))) (lv' := [(2, .int (x2 + (1 : Int32))), (1, .int (x1 - (0 : Int32))), (0, .ref (ad 60))]) hx hb dX8_redundancy_122 hl (k := 2) rfl rfl (by decide) rfl (fun ls hl => ?_)
      refine lv_goto (tgt := 80) hx hb dX8_redundancy_125 (by decide) ?_
      exact kc _ (Option.some.inj h).symm hM hS (lv_sub hl [2, 1, 0] rfl)
    · replace c16 := fun w => c16 ((lg_cmp_eq _ _).mpr w)
      replace h := gif_f c16 h
      refine lv_aload_n hx hb dX8_redundancy_103 rfl (lv_at hl 0 rfl) ?_
      refine gg_60_0 hx hb hown E hM hk_60 kw_1242 dX8_redundancy_104 ?_
      refine lv_bipush (v := (6 : Int32)) hx hb dX8_redundancy_107 (by decide) ?_
      refine lv_iload_n hx hb dX8_redundancy_109 rfl (lv_at hl 2 rfl) ?_
      refine lv_iadd hx hb dX8_redundancy_110 ?_
      obtain ⟨c17, h⟩ := gchk_e h
      refine g_iald hx hb E hM hk_61 dd_61 c17 dX8_redundancy_111 ?_
      refine lv_if_ge (tgt := 119) hx hb dX8_redundancy_112 (by decide) (fun c18 => ?_) (fun c18 => ?_)
      · replace h := gif_t c18 h
        refine lv_iconst (v := (0 : Int32)) hx hb dX8_redundancy_119 (by decide) ?_
        refine lv_isub hx hb dX8_redundancy_120 ?_
        refine lv_istore_n (lv' := [(1, .int (x1 - (0 : Int32))), (0, .ref (ad 60)), (2, .int x2)]) hx hb dX8_redundancy_121 rfl hl (by decide) rfl (fun ls hl => ?_)
        refine lv_iinc (v := (x2 + (1 : Int32))) (lv' := [(2, .int (x2 + (1 : Int32))), (1, .int (x1 - (0 : Int32))), (0, .ref (ad 60))]) hx hb dX8_redundancy_122 hl (k := 2) rfl rfl (by decide) rfl (fun ls hl => ?_)
        refine lv_goto (tgt := 80) hx hb dX8_redundancy_125 (by decide) ?_
        exact kc _ (Option.some.inj h).symm hM hS (lv_sub hl [2, 1, 0] rfl)
      · replace h := gif_f c18 h
        refine lv_iconst (v := (1 : Int32)) hx hb dX8_redundancy_115 (by decide) ?_
        refine lv_goto (tgt := 120) hx hb dX8_redundancy_116 (by decide) ?_
        refine lv_isub hx hb dX8_redundancy_120 ?_
        refine lv_istore_n (lv' := [(1, .int (x1 - (1 : Int32))), (0, .ref (ad 60)), (2, .int x2)]) hx hb dX8_redundancy_121 rfl hl (by decide) rfl (fun ls hl => ?_)
        refine lv_iinc (v := (x2 + (1 : Int32))) (lv' := [(2, .int (x2 + (1 : Int32))), (1, .int (x1 - (1 : Int32))), (0, .ref (ad 60))]) hx hb dX8_redundancy_122 hl (k := 2) rfl rfl (by decide) rfl (fun ls hl => ?_)
        refine lv_goto (tgt := 80) hx hb dX8_redundancy_125 (by decide) ?_
        exact kc _ (Option.some.inj h).symm hM hS (lv_sub hl [2, 1, 0] rfl)
set_option maxHeartbeats 4000000 in
theorem wl_X8_redundancy_80 {p : Program} {l : Launch} {e : Env} {s : State} {m : MethodId} {args : Array Value} {below : List Frame} {meth : Method} {c : Code} {D : va_G} {cy : Nat → ClassId} {ad : Nat → Nat} {base : Nat}  {μ : gM} {r : Int32} {RES : Int32 × gM} (F : gF p s m meth c cX8_redundancy RX8 3 (some .int)) (E : gEnv l D cy ad base s) (kx : ∀ (t : Int32) {H : Heap} {locs : List Loc} {ls : Array Slot}, r = t → gW gFull D cy ad base μ H → va_S (gA base) s.heap H locs → lv_has ls 3 [(1, .int t)] → W p l e ({ frames := 6, cells := 0, slots := 0, locals := 136 } : Room) s m args below meth c H locs 0 0 (MQ below (gQ (some (.int RES.1)) gFull D cy ad base RES.2) args s 0 0 (gA base)) (F0 m 128 ls []))  : ∀ (n : Nat) (x1 : Int32) (x2 : Int32), gloop (fun t => b_X8_redundancy_80  t.1 t.2 μ) n (x1, x2) = some r → ∀ {H : Heap} {locs : List Loc} {ls : Array Slot}, gW gFull D cy ad base μ H → va_S (gA base) s.heap H locs → lv_has ls 3 [(0, .ref (ad 60)), (1, .int x1), (2, .int x2)] → W p l e ({ frames := 6, cells := 0, slots := 0, locals := 136 } : Room) s m args below meth c H locs 0 0 (MQ below (gQ (some (.int RES.1)) gFull D cy ad base RES.2) args s 0 0 (gA base)) (F0 m 80 ls []) := by
  intro n
  induction n with
  | zero =>
    intro x1 x2 h
    exact (gloop_0 h).elim
  | succ n ih =>
    intro x1 x2 h H locs ls hM hS hl
    obtain ⟨o, h0, hc, hq⟩ := gloop_s h
    have h1 : b_X8_redundancy_80 x1 x2 μ = some o := h0
    exact wb_X8_redundancy_80 h1 F E (fun t H locs ls ho hM hS hl => ih t.1 t.2 (hc t ho) hM hS hl) (fun t H locs ls ho hM hS hl => kx t (hq _ ho).symm hM hS hl) hM hS hl
def f_X8_redundancy (μ : gM) : Option (Int32 × gM) :=
  Option.bind (f_X8_layProvisional  (si μ 60 6 (0 : Int32))) (fun q1 => Option.bind (gloop (fun t => b_X8_redundancy_13  t.1 t.2 q1) gFuel ((0 : Int32), (0 : Int32))) (fun q12 => Option.bind (gloop (fun t => b_X8_redundancy_80  t.1 t.2 q1) gFuel (q12, (0 : Int32))) (fun q19 => some (q19, q1))))
set_option maxHeartbeats 4000000 in
set_option maxRecDepth 100000 in
theorem c_X8_redundancy {l : Launch} {D : va_G} {cy : Nat → ClassId} {ad : Nat → Nat} {base : Nat}  {μ : gM} {RES : Int32 × gM} (h : f_X8_redundancy  μ = some RES) : Met l yX8_redundancy [.code yX8_redundancy cX8_redundancy 3 (some .int)] ({ frames := 6, cells := 0, slots := 0, locals := 136 } : Room) (va_Pc [.ref (ad 60)] (gB l gFull D cy ad base μ)) (gQ (some (.int RES.1)) gFull D cy ad base RES.2) 0 0 (gA base) := by
  refine Met.ofW (cc := cX8_redundancy) (maxL := 3) (ret := (some .int)) (by decide) rfl ?_
  intro p e s m args below meth c s₁ B hml0 hv
  obtain ⟨rfl, E, hM⟩ := hv
  have F : gF p s m meth c cX8_redundancy RX8 3 (some .int) := gF_of B hml0
  obtain ⟨hx, hb, hml, hown, hlocks, hr⟩ := id F
  have hS : va_S (gA base) s.heap s.heap [] := va_S.rf
  have hl := lv_entry ([.ref (ad 60)]) (n := 3) (Nat.le_of_ble_eq_true rfl)
  rw [lg_entry_eq]
  generalize (lg_sl ([.ref (ad 60)]) ++ List.replicate (3 - (lg_sl ([.ref (ad 60)])).length) Slot.unset).toArray = ls at hl ⊢
  have hl : lv_has ls 3 [(0, .ref (ad 60))] := hl
  unfold f_X8_redundancy at h
  refine lv_aload_n hx hb dX8_redundancy_0 rfl (lv_at hl 0 rfl) ?_
  refine lv_iconst (v := (0 : Int32)) hx hb dX8_redundancy_1 (by decide) ?_
  refine gp_60_6 hx hb hown E hM hS hk_60 kw_1248 dX8_redundancy_2 (fun H locs hM hS => ?_)
  refine lv_aload_n hx hb dX8_redundancy_5 rfl (lv_at hl 0 rfl) ?_
  obtain ⟨q1, hq1, h⟩ := gbind_e h
  refine g_callV (As := []) (rest := []) hx hb (hml.trans hl.1.symm) hown E hM hS hy_X8_layProvisional kw_1831 (c_X8_layProvisional hq1) hk_60 dd_60 rfl rfl rfl (Nat.le_of_ble_eq_true rfl) ⟨Nat.le_of_ble_eq_true rfl, Nat.le_of_ble_eq_true rfl⟩ ⟨Nat.le_of_ble_eq_true rfl, Nat.le_of_ble_eq_true rfl⟩ dX8_redundancy_6 (fun H locs hM hS => ?_)
  refine lv_iconst (v := (0 : Int32)) hx hb dX8_redundancy_9 (by decide) ?_
  refine lv_istore_n (lv' := [(1, .int (0 : Int32)), (0, .ref (ad 60))]) hx hb dX8_redundancy_10 rfl hl (by decide) rfl (fun ls hl => ?_)
  refine lv_iconst (v := (0 : Int32)) hx hb dX8_redundancy_11 (by decide) ?_
  refine lv_istore_n (lv' := [(2, .int (0 : Int32)), (1, .int (0 : Int32)), (0, .ref (ad 60))]) hx hb dX8_redundancy_12 rfl hl (by decide) rfl (fun ls hl => ?_)
  obtain ⟨z21, h1, h⟩ := gbind_e h
  refine wl_X8_redundancy_13 F E (r := z21) (fun q12 H locs ls e1 hM hS hl => ?_) gFuel (0 : Int32) (0 : Int32) h1 hM hS (lv_sub hl [2, 1, 0] rfl)
  replace e1 : z21 = q12 := e1
  rw [e1] at h
  refine lv_iconst (v := (0 : Int32)) hx hb dX8_redundancy_78 (by decide) ?_
  refine lv_istore_n (lv' := [(2, .int (0 : Int32)), (0, .ref (ad 60)), (1, .int q12)]) hx hb dX8_redundancy_79 rfl hl (by decide) rfl (fun ls hl => ?_)
  obtain ⟨z20, h1, h⟩ := gbind_e h
  refine wl_X8_redundancy_80 F E (r := z20) (fun q19 H locs ls e1 hM hS hl => ?_) gFuel q12 (0 : Int32) h1 hM hS (lv_sub hl [1, 2, 0] rfl)
  replace e1 : z20 = q19 := e1
  rw [e1] at h
  refine lv_iload_n hx hb dX8_redundancy_128 rfl (lv_at hl 0 rfl) ?_
  obtain rfl := Option.some.inj h
  exact g_iret hx hb hr hlocks hM hS dX8_redundancy_129
def f_X8_isAdjusted (μ : gM) : Option (Bool × gM) :=
  gchk (gIn (702 : Int32) 703) (if ((gi (si μ 60 6 (0 : Int32)) 61 (702 : Int32).toNatClampNeg) = (1 : Int32)) then some (true, (si μ 60 6 (0 : Int32))) else some (false, (si μ 60 6 (0 : Int32))))
set_option maxHeartbeats 4000000 in
set_option maxRecDepth 100000 in
theorem c_X8_isAdjusted {l : Launch} {D : va_G} {cy : Nat → ClassId} {ad : Nat → Nat} {base : Nat}  {μ : gM} {RES : Bool × gM} (h : f_X8_isAdjusted  μ = some RES) : Met l yX8_isAdjusted [.code yX8_isAdjusted cX8_isAdjusted 1 (some .boolean)] ({ frames := 0, cells := 0, slots := 0, locals := 0 } : Room) (va_Pc [.ref (ad 60)] (gB l gFull D cy ad base μ)) (gQ (some (.int (b2i RES.1))) gFull D cy ad base RES.2) 0 0 (gA base) := by
  refine Met.ofW (cc := cX8_isAdjusted) (maxL := 1) (ret := (some .boolean)) (by decide) rfl ?_
  intro p e s m args below meth c s₁ B hml0 hv
  obtain ⟨rfl, E, hM⟩ := hv
  have F : gF p s m meth c cX8_isAdjusted RX8 1 (some .boolean) := gF_of B hml0
  obtain ⟨hx, hb, hml, hown, hlocks, hr⟩ := id F
  have hS : va_S (gA base) s.heap s.heap [] := va_S.rf
  have hl := lv_entry ([.ref (ad 60)]) (n := 1) (Nat.le_of_ble_eq_true rfl)
  rw [lg_entry_eq]
  generalize (lg_sl ([.ref (ad 60)]) ++ List.replicate (1 - (lg_sl ([.ref (ad 60)])).length) Slot.unset).toArray = ls at hl ⊢
  have hl : lv_has ls 1 [(0, .ref (ad 60))] := hl
  unfold f_X8_isAdjusted at h
  refine lv_aload_n hx hb dX8_isAdjusted_0 rfl (lv_at hl 0 rfl) ?_
  refine lv_iconst (v := (0 : Int32)) hx hb dX8_isAdjusted_1 (by decide) ?_
  refine gp_60_6 hx hb hown E hM hS hk_60 kw_1248 dX8_isAdjusted_2 (fun H locs hM hS => ?_)
  refine lv_aload_n hx hb dX8_isAdjusted_5 rfl (lv_at hl 0 rfl) ?_
  refine gg_60_0 hx hb hown E hM hk_60 kw_1242 dX8_isAdjusted_6 ?_
  refine lv_sipush (v := (702 : Int32)) hx hb dX8_isAdjusted_9 (by decide) ?_
  obtain ⟨c1, h⟩ := gchk_e h
  refine g_iald hx hb E hM hk_61 dd_61 c1 dX8_isAdjusted_12 ?_
  refine lv_iconst (v := (1 : Int32)) hx hb dX8_isAdjusted_13 (by decide) ?_
  refine lv_icmp_ne (tgt := 21) hx hb dX8_isAdjusted_14 (by decide) (fun c2 => ?_) (fun c2 => ?_)
  · replace h := gif_f c2 h
    refine lv_iconst (v := (0 : Int32)) hx hb dX8_isAdjusted_21 (by decide) ?_
    obtain rfl := Option.some.inj h
    exact g_zret (v := b2i false) hx hb hr hlocks (b2i_nar false) hM hS dX8_isAdjusted_22
  · replace h := gif_t c2 h
    refine lv_iconst (v := (1 : Int32)) hx hb dX8_isAdjusted_17 (by decide) ?_
    refine lv_goto (tgt := 22) hx hb dX8_isAdjusted_18 (by decide) ?_
    obtain rfl := Option.some.inj h
    exact g_zret (v := b2i true) hx hb hr hlocks (b2i_nar true) hM hS dX8_isAdjusted_22
def f_X8_adjusted (p1 : Int32) (μ : gM) : Option (Int64) :=
  gchk (gIn (702 : Int32) 703) (if ((gi μ 61 (702 : Int32).toNatClampNeg) = (1 : Int32)) then gchk (gIn p1 16) (some (gl μ 64 p1.toNatClampNeg)) else some (-9223372036854775808 : Int64))
set_option maxHeartbeats 4000000 in
set_option maxRecDepth 100000 in
theorem c_X8_adjusted {l : Launch} {D : va_G} {cy : Nat → ClassId} {ad : Nat → Nat} {base : Nat} {p1 : Int32} {μ : gM} {RES : Int64} (h : f_X8_adjusted p1 μ = some RES) : Met l yX8_adjusted [.code yX8_adjusted cX8_adjusted 2 (some .long)] ({ frames := 0, cells := 0, slots := 0, locals := 0 } : Room) (va_Pc [.ref (ad 60), .int p1] (gB l gFull D cy ad base μ)) (gQ (some (.long RES)) gFull D cy ad base μ) 0 0 (gA base) := by
  refine Met.ofW (cc := cX8_adjusted) (maxL := 2) (ret := (some .long)) (by decide) rfl ?_
  intro p e s m args below meth c s₁ B hml0 hv
  obtain ⟨rfl, E, hM⟩ := hv
  have F : gF p s m meth c cX8_adjusted RX8 2 (some .long) := gF_of B hml0
  obtain ⟨hx, hb, hml, hown, hlocks, hr⟩ := id F
  have hS : va_S (gA base) s.heap s.heap [] := va_S.rf
  have hl := lv_entry ([.ref (ad 60), .int p1]) (n := 2) (Nat.le_of_ble_eq_true rfl)
  rw [lg_entry_eq]
  generalize (lg_sl ([.ref (ad 60), .int p1]) ++ List.replicate (2 - (lg_sl ([.ref (ad 60), .int p1])).length) Slot.unset).toArray = ls at hl ⊢
  have hl : lv_has ls 2 [(0, .ref (ad 60)), (1, .int p1)] := hl
  unfold f_X8_adjusted at h
  refine lv_aload_n hx hb dX8_adjusted_0 rfl (lv_at hl 0 rfl) ?_
  refine gg_60_0 hx hb hown E hM hk_60 kw_1242 dX8_adjusted_1 ?_
  refine lv_sipush (v := (702 : Int32)) hx hb dX8_adjusted_4 (by decide) ?_
  obtain ⟨c1, h⟩ := gchk_e h
  refine g_iald hx hb E hM hk_61 dd_61 c1 dX8_adjusted_7 ?_
  refine lv_iconst (v := (1 : Int32)) hx hb dX8_adjusted_8 (by decide) ?_
  refine lv_icmp_ne (tgt := 21) hx hb dX8_adjusted_9 (by decide) (fun c2 => ?_) (fun c2 => ?_)
  · replace h := gif_f c2 h
    refine lv_ldc2 hx hb hown (v := (-9223372036854775808 : Int64)) (E.kw kw_1835) dX8_adjusted_21 ?_
    obtain rfl := Option.some.inj h
    exact g_lret hx hb hr hlocks hM hS dX8_adjusted_24
  · replace h := gif_t c2 h
    refine lv_aload_n hx hb dX8_adjusted_12 rfl (lv_at hl 0 rfl) ?_
    refine gg_60_3 hx hb hown E hM hk_60 kw_1245 dX8_adjusted_13 ?_
    refine lv_iload_n hx hb dX8_adjusted_16 rfl (lv_at hl 1 rfl) ?_
    obtain ⟨c3, h⟩ := gchk_e h
    refine g_lald hx hb E hM hk_64 dd_64 c3 dX8_adjusted_17 ?_
    refine lv_goto (tgt := 24) hx hb dX8_adjusted_18 (by decide) ?_
    obtain rfl := Option.some.inj h
    exact g_lret hx hb hr hlocks hM hS dX8_adjusted_24
def f_X8_heightOf (p1 : Int32) (μ : gM) : Option (Int64 × gM) :=
  Option.bind (f_X8_isPoint p1 μ) (fun q1 => Option.bind (f_X8_fails (b2i q1) μ) (fun q2 => if ((b2i q2.1) = 0) then Option.bind (f_X8_adjusted p1 q2.2) (fun q4 => some (q4, q2.2)) else some ((0 : Int64), q2.2)))
set_option maxHeartbeats 4000000 in
set_option maxRecDepth 100000 in
theorem c_X8_heightOf {l : Launch} {D : va_G} {cy : Nat → ClassId} {ad : Nat → Nat} {base : Nat} {p1 : Int32} {μ : gM} {RES : Int64 × gM} (h : f_X8_heightOf p1 μ = some RES) : Met l yX8_heightOf [.code yX8_heightOf cX8_heightOf 2 (some .long)] ({ frames := 2, cells := 0, slots := 0, locals := 43 } : Room) (va_Pc [.ref (ad 60), .int p1] (gB l gFull D cy ad base μ)) (gQ (some (.long RES.1)) gFull D cy ad base RES.2) 0 0 (gA base) := by
  refine Met.ofW (cc := cX8_heightOf) (maxL := 2) (ret := (some .long)) (by decide) rfl ?_
  intro p e s m args below meth c s₁ B hml0 hv
  obtain ⟨rfl, E, hM⟩ := hv
  have F : gF p s m meth c cX8_heightOf RX8 2 (some .long) := gF_of B hml0
  obtain ⟨hx, hb, hml, hown, hlocks, hr⟩ := id F
  have hS : va_S (gA base) s.heap s.heap [] := va_S.rf
  have hl := lv_entry ([.ref (ad 60), .int p1]) (n := 2) (Nat.le_of_ble_eq_true rfl)
  rw [lg_entry_eq]
  generalize (lg_sl ([.ref (ad 60), .int p1]) ++ List.replicate (2 - (lg_sl ([.ref (ad 60), .int p1])).length) Slot.unset).toArray = ls at hl ⊢
  have hl : lv_has ls 2 [(0, .ref (ad 60)), (1, .int p1)] := hl
  unfold f_X8_heightOf at h
  refine lv_aload_n hx hb dX8_heightOf_0 rfl (lv_at hl 0 rfl) ?_
  refine lv_aload_n hx hb dX8_heightOf_1 rfl (lv_at hl 0 rfl) ?_
  refine lv_iload_n hx hb dX8_heightOf_2 rfl (lv_at hl 1 rfl) ?_
  obtain ⟨q1, hq1, h⟩ := gbind_e h
  refine g_callV (As := [.int p1]) (rest := [.ref (ad 60)]) hx hb (hml.trans hl.1.symm) hown E hM hS hy_X8_isPoint kw_1563 (c_X8_isPoint hq1) hk_60 dd_60 rfl rfl rfl (Nat.le_of_ble_eq_true rfl) ⟨Nat.le_of_ble_eq_true rfl, Nat.le_of_ble_eq_true rfl⟩ ⟨Nat.le_of_ble_eq_true rfl, Nat.le_of_ble_eq_true rfl⟩ dX8_heightOf_3 (fun H locs hM hS => ?_)
  obtain ⟨q2, hq2, h⟩ := gbind_e h
  refine g_callV (As := [.int (b2i q1)]) (rest := []) hx hb (hml.trans hl.1.symm) hown E hM hS hy_X8_fails kw_1534 (c_X8_fails hq2) hk_60 dd_60 rfl rfl rfl (Nat.le_of_ble_eq_true rfl) ⟨Nat.le_of_ble_eq_true rfl, Nat.le_of_ble_eq_true rfl⟩ ⟨Nat.le_of_ble_eq_true rfl, Nat.le_of_ble_eq_true rfl⟩ dX8_heightOf_6 (fun H locs hM hS => ?_)
  refine lv_if_eq (tgt := 16) hx hb dX8_heightOf_9 (by decide) (fun c3 => ?_) (fun c3 => ?_)
  · replace h := gif_t c3 h
    refine lv_aload_n hx hb dX8_heightOf_16 rfl (lv_at hl 0 rfl) ?_
    refine lv_iload_n hx hb dX8_heightOf_17 rfl (lv_at hl 1 rfl) ?_
    obtain ⟨q4, hq4, h⟩ := gbind_e h
    refine g_callV (As := [.int p1]) (rest := []) hx hb (hml.trans hl.1.symm) hown E hM hS hy_X8_adjusted kw_1857 (c_X8_adjusted hq4) hk_60 dd_60 rfl rfl rfl (Nat.le_of_ble_eq_true rfl) ⟨Nat.le_of_ble_eq_true rfl, Nat.le_of_ble_eq_true rfl⟩ ⟨Nat.le_of_ble_eq_true rfl, Nat.le_of_ble_eq_true rfl⟩ dX8_heightOf_18 (fun H locs hM hS => ?_)
    obtain rfl := Option.some.inj h
    exact g_lret hx hb hr hlocks hM hS dX8_heightOf_21
  · replace h := gif_f c3 h
    refine lv_lconst (v := (0 : Int64)) hx hb dX8_heightOf_12 (by decide) ?_
    refine lv_goto (tgt := 21) hx hb dX8_heightOf_13 (by decide) ?_
    obtain rfl := Option.some.inj h
    exact g_lret hx hb hr hlocks hM hS dX8_heightOf_21
def f_X8_floorOf (p1 : Int64) (p2 : Int64) (μ : gM) : Option (Int64) :=
  gchk (¬ p2 = 0) (gchk (¬ p2 = 0) (if ((0 : Int64) ≤ (p1 - p1 / p2 * p2)) then some (p1 / p2) else some ((p1 / p2) - (1 : Int64))))
set_option maxHeartbeats 4000000 in
set_option maxRecDepth 100000 in
theorem c_X8_floorOf {l : Launch} {D : va_G} {cy : Nat → ClassId} {ad : Nat → Nat} {base : Nat} {p1 : Int64} {p2 : Int64} {μ : gM} {RES : Int64} (h : f_X8_floorOf p1 p2 μ = some RES) : Met l yX8_floorOf [.code yX8_floorOf cX8_floorOf 6 (some .long)] ({ frames := 0, cells := 0, slots := 0, locals := 0 } : Room) (va_Pc [.long p1, .long p2] (gB l gFull D cy ad base μ)) (gQ (some (.long RES)) gFull D cy ad base μ) 0 0 (gA base) := by
  refine Met.ofW (cc := cX8_floorOf) (maxL := 6) (ret := (some .long)) (by decide) rfl ?_
  intro p e s m args below meth c s₁ B hml0 hv
  obtain ⟨rfl, E, hM⟩ := hv
  have F : gF p s m meth c cX8_floorOf RX8 6 (some .long) := gF_of B hml0
  obtain ⟨hx, hb, hml, hown, hlocks, hr⟩ := id F
  have hS : va_S (gA base) s.heap s.heap [] := va_S.rf
  have hl := lv_entry ([.long p1, .long p2]) (n := 6) (Nat.le_of_ble_eq_true rfl)
  rw [lg_entry_eq]
  generalize (lg_sl ([.long p1, .long p2]) ++ List.replicate (6 - (lg_sl ([.long p1, .long p2])).length) Slot.unset).toArray = ls at hl ⊢
  have hl : lv_has ls 6 [(0, .long p1), (2, .long p2)] := hl
  unfold f_X8_floorOf at h
  refine lv_lload_n hx hb dX8_floorOf_0 rfl (lv_at hl 0 rfl) ?_
  refine lv_lload_n hx hb dX8_floorOf_1 rfl (lv_at hl 1 rfl) ?_
  obtain ⟨c3, h⟩ := gchk_e h
  refine lv_ldiv hx hb dX8_floorOf_2 c3 ?_
  refine lv_lstore (lv' := [(4, .long (p1 / p2)), (0, .long p1), (2, .long p2)]) hx hb dX8_floorOf_3 hl (by decide) rfl (fun ls hl => ?_)
  refine lv_lload_n hx hb dX8_floorOf_5 rfl (lv_at hl 1 rfl) ?_
  refine lv_lload_n hx hb dX8_floorOf_6 rfl (lv_at hl 2 rfl) ?_
  obtain ⟨c2, h⟩ := gchk_e h
  refine lv_lrem hx hb dX8_floorOf_7 c2 ?_
  refine lv_lconst (v := (0 : Int64)) hx hb dX8_floorOf_8 (by decide) ?_
  refine W.lcmp hx hb dX8_floorOf_9 ?_
  refine lv_if_ge (tgt := 20) hx hb dX8_floorOf_10 (by decide) (fun c1 => ?_) (fun c1 => ?_)
  · replace c1 := (lg_cmp_ge _ _).mp c1
    replace h := gif_t c1 h
    refine lv_lload hx hb dX8_floorOf_20 (lv_at hl 0 rfl) ?_
    obtain rfl := Option.some.inj h
    exact g_lret hx hb hr hlocks hM hS dX8_floorOf_22
  · replace c1 := fun w => c1 ((lg_cmp_ge _ _).mpr w)
    replace h := gif_f c1 h
    refine lv_lload hx hb dX8_floorOf_13 (lv_at hl 0 rfl) ?_
    refine lv_lconst (v := (1 : Int64)) hx hb dX8_floorOf_15 (by decide) ?_
    refine lv_lsub hx hb dX8_floorOf_16 ?_
    refine lv_goto (tgt := 22) hx hb dX8_floorOf_17 (by decide) ?_
    obtain rfl := Option.some.inj h
    exact g_lret hx hb hr hlocks hM hS dX8_floorOf_22
def b_X8_mean_8 (x1 : Int32) (x2 : Int64) (x4 : Int64) (x6 : Int32) (μ : gM) : Option ((Int64 × Int64 × Int32) ⊕ (Int64 × Int64)) :=
  Option.bind (f_X8_count (2 : Int32) μ) (fun q1 => if (q1 ≤ x6) then some (.inr (x2, x4)) else Option.bind (f_X8_touches x6 x1 μ) (fun q3 => if ((b2i q3) = 0) then some (.inl (x2, x4, (x6 + (1 : Int32)))) else Option.bind (f_X8_otherOf x6 x1 μ) (fun q5 => Option.bind (f_X8_weight x6 μ) (fun q6 => gchk (gIn q5 16) (Option.bind (f_X8_riseFrom x6 q5 μ) (fun q8 => Option.bind (f_X8_weight x6 μ) (fun q9 => some (.inl ((x2 + (q6.toInt64 * ((gl μ 64 q5.toNatClampNeg) + q8.toInt64))), (x4 + q9.toInt64), (x6 + (1 : Int32)))))))))))
set_option maxHeartbeats 4000000 in
set_option maxRecDepth 100000 in
theorem wb_X8_mean_8 {p : Program} {l : Launch} {e : Env} {s : State} {m : MethodId} {args : Array Value} {below : List Frame} {meth : Method} {c : Code} {D : va_G} {cy : Nat → ClassId} {ad : Nat → Nat} {base : Nat} {x1 : Int32} {x2 : Int64} {x4 : Int64} {x6 : Int32} {μ : gM} {o : (Int64 × Int64 × Int32) ⊕ (Int64 × Int64)} {RES : Int64} (h : b_X8_mean_8 x1 x2 x4 x6 μ = some o) (F : gF p s m meth c cX8_mean RX8 8 (some .long)) (E : gEnv l D cy ad base s) (kc : ∀ (t : Int64 × Int64 × Int32) {H : Heap} {locs : List Loc} {ls : Array Slot}, o = .inl t → gW gFull D cy ad base μ H → va_S (gA base) s.heap H locs → lv_has ls 8 [(0, .ref (ad 60)), (1, .int x1), (2, .long t.1), (4, .long t.2.1), (6, .int t.2.2)] → W p l e ({ frames := 5, cells := 0, slots := 0, locals := 112 } : Room) s m args below meth c H locs 0 0 (MQ below (gQ (some (.long RES)) gFull D cy ad base μ) args s 0 0 (gA base)) (F0 m 8 ls [])) (kx : ∀ (t : Int64 × Int64) {H : Heap} {locs : List Loc} {ls : Array Slot}, o = .inr t → gW gFull D cy ad base μ H → va_S (gA base) s.heap H locs → lv_has ls 8 [(2, .long t.1), (4, .long t.2)] → W p l e ({ frames := 5, cells := 0, slots := 0, locals := 112 } : Room) s m args below meth c H locs 0 0 (MQ below (gQ (some (.long RES)) gFull D cy ad base μ) args s 0 0 (gA base)) (F0 m 86 ls []))  {H : Heap} {locs : List Loc} {ls : Array Slot} (hM : gW gFull D cy ad base μ H) (hS : va_S (gA base) s.heap H locs) (hl : lv_has ls 8 [(0, .ref (ad 60)), (1, .int x1), (2, .long x2), (4, .long x4), (6, .int x6)]) : W p l e ({ frames := 5, cells := 0, slots := 0, locals := 112 } : Room) s m args below meth c H locs 0 0 (MQ below (gQ (some (.long RES)) gFull D cy ad base μ) args s 0 0 (gA base)) (F0 m 8 ls []) := by
  obtain ⟨hx, hb, hml, hown, hlocks, hr⟩ := id F
  unfold b_X8_mean_8 at h
  refine lv_iload hx hb dX8_mean_8 (lv_at hl 4 rfl) ?_
  refine lv_aload_n hx hb dX8_mean_10 rfl (lv_at hl 0 rfl) ?_
  refine lv_iconst (v := (2 : Int32)) hx hb dX8_mean_11 (by decide) ?_
  obtain ⟨q1, hq1, h⟩ := gbind_e h
  refine g_callV (As := [.int (2 : Int32)]) (rest := [.int x6]) hx hb (hml.trans hl.1.symm) hown E hM hS hy_X8_count kw_1498 (c_X8_count hq1) hk_60 dd_60 rfl rfl rfl (Nat.le_of_ble_eq_true rfl) ⟨Nat.le_of_ble_eq_true rfl, Nat.le_of_ble_eq_true rfl⟩ ⟨Nat.le_of_ble_eq_true rfl, Nat.le_of_ble_eq_true rfl⟩ dX8_mean_12 (fun H locs hM hS => ?_)
  refine lv_icmp_ge (tgt := 86) hx hb dX8_mean_15 (by decide) (fun c2 => ?_) (fun c2 => ?_)
  · replace h := gif_t c2 h
    exact kx _ (Option.some.inj h).symm hM hS (lv_sub hl [2, 3] rfl)
  · replace h := gif_f c2 h
    refine lv_aload_n hx hb dX8_mean_18 rfl (lv_at hl 0 rfl) ?_
    refine lv_iload hx hb dX8_mean_19 (lv_at hl 4 rfl) ?_
    refine lv_iload_n hx hb dX8_mean_21 rfl (lv_at hl 1 rfl) ?_
    obtain ⟨q3, hq3, h⟩ := gbind_e h
    refine g_callV (As := [.int x6, .int x1]) (rest := []) hx hb (hml.trans hl.1.symm) hown E hM hS hy_X8_touches kw_1667 (c_X8_touches hq3) hk_60 dd_60 rfl rfl rfl (Nat.le_of_ble_eq_true rfl) ⟨Nat.le_of_ble_eq_true rfl, Nat.le_of_ble_eq_true rfl⟩ ⟨Nat.le_of_ble_eq_true rfl, Nat.le_of_ble_eq_true rfl⟩ dX8_mean_22 (fun H locs hM hS => ?_)
    refine lv_if_ne (tgt := 31) hx hb dX8_mean_25 (by decide) (fun c4 => ?_) (fun c4 => ?_)
    · replace h := gif_f c4 h
      refine lv_aload_n hx hb dX8_mean_31 rfl (lv_at hl 0 rfl) ?_
      refine lv_iload hx hb dX8_mean_32 (lv_at hl 4 rfl) ?_
      refine lv_iload_n hx hb dX8_mean_34 rfl (lv_at hl 1 rfl) ?_
      obtain ⟨q5, hq5, h⟩ := gbind_e h
      refine g_callV (As := [.int x6, .int x1]) (rest := []) hx hb (hml.trans hl.1.symm) hown E hM hS hy_X8_otherOf kw_1722 (c_X8_otherOf hq5) hk_60 dd_60 rfl rfl rfl (Nat.le_of_ble_eq_true rfl) ⟨Nat.le_of_ble_eq_true rfl, Nat.le_of_ble_eq_true rfl⟩ ⟨Nat.le_of_ble_eq_true rfl, Nat.le_of_ble_eq_true rfl⟩ dX8_mean_35 (fun H locs hM hS => ?_)
      refine lv_istore (lv' := [(7, .int q5), (0, .ref (ad 60)), (1, .int x1), (2, .long x2), (4, .long x4), (6, .int x6)]) hx hb dX8_mean_38 hl (by decide) rfl (fun ls hl => ?_)
      refine lv_lload_n hx hb dX8_mean_40 rfl (lv_at hl 3 rfl) ?_
      refine lv_aload_n hx hb dX8_mean_41 rfl (lv_at hl 1 rfl) ?_
      refine lv_iload hx hb dX8_mean_42 (lv_at hl 5 rfl) ?_
      obtain ⟨q6, hq6, h⟩ := gbind_e h
      refine g_callV (As := [.int x6]) (rest := [.long x2]) hx hb (hml.trans hl.1.symm) hown E hM hS hy_X8_weight kw_1599 (c_X8_weight hq6) hk_60 dd_60 rfl rfl rfl (Nat.le_of_ble_eq_true rfl) ⟨Nat.le_of_ble_eq_true rfl, Nat.le_of_ble_eq_true rfl⟩ ⟨Nat.le_of_ble_eq_true rfl, Nat.le_of_ble_eq_true rfl⟩ dX8_mean_44 (fun H locs hM hS => ?_)
      refine lv_i2l (v := q6.toInt64) hx hb dX8_mean_47 rfl ?_
      refine lv_aload_n hx hb dX8_mean_48 rfl (lv_at hl 1 rfl) ?_
      refine gg_60_3 hx hb hown E hM hk_60 kw_1245 dX8_mean_49 ?_
      refine lv_iload hx hb dX8_mean_52 (lv_at hl 0 rfl) ?_
      obtain ⟨c7, h⟩ := gchk_e h
      refine g_lald hx hb E hM hk_64 dd_64 c7 dX8_mean_54 ?_
      refine lv_aload_n hx hb dX8_mean_55 rfl (lv_at hl 1 rfl) ?_
      refine lv_iload hx hb dX8_mean_56 (lv_at hl 5 rfl) ?_
      refine lv_iload hx hb dX8_mean_58 (lv_at hl 0 rfl) ?_
      obtain ⟨q8, hq8, h⟩ := gbind_e h
      refine g_callV (As := [.int x6, .int q5]) (rest := [.long (gl μ 64 q5.toNatClampNeg), .long q6.toInt64, .long x2]) hx hb (hml.trans hl.1.symm) hown E hM hS hy_X8_riseFrom kw_1659 (c_X8_riseFrom hq8) hk_60 dd_60 rfl rfl rfl (Nat.le_of_ble_eq_true rfl) ⟨Nat.le_of_ble_eq_true rfl, Nat.le_of_ble_eq_true rfl⟩ ⟨Nat.le_of_ble_eq_true rfl, Nat.le_of_ble_eq_true rfl⟩ dX8_mean_60 (fun H locs hM hS => ?_)
      refine lv_i2l (v := q8.toInt64) hx hb dX8_mean_63 rfl ?_
      refine lv_ladd hx hb dX8_mean_64 ?_
      refine lv_lmul hx hb dX8_mean_65 ?_
      refine lv_ladd hx hb dX8_mean_66 ?_
      refine lv_lstore_n (lv' := [(2, .long (x2 + (q6.toInt64 * ((gl μ 64 q5.toNatClampNeg) + q8.toInt64)))), (7, .int q5), (0, .ref (ad 60)), (1, .int x1), (4, .long x4), (6, .int x6)]) hx hb dX8_mean_67 rfl hl (by decide) rfl (fun ls hl => ?_)
      refine lv_lload hx hb dX8_mean_68 (lv_at hl 4 rfl) ?_
      refine lv_aload_n hx hb dX8_mean_70 rfl (lv_at hl 2 rfl) ?_
      refine lv_iload hx hb dX8_mean_71 (lv_at hl 5 rfl) ?_
      obtain ⟨q9, hq9, h⟩ := gbind_e h
      refine g_callV (As := [.int x6]) (rest := [.long x4]) hx hb (hml.trans hl.1.symm) hown E hM hS hy_X8_weight kw_1599 (c_X8_weight hq9) hk_60 dd_60 rfl rfl rfl (Nat.le_of_ble_eq_true rfl) ⟨Nat.le_of_ble_eq_true rfl, Nat.le_of_ble_eq_true rfl⟩ ⟨Nat.le_of_ble_eq_true rfl, Nat.le_of_ble_eq_true rfl⟩ dX8_mean_73 (fun H locs hM hS => ?_)
      refine lv_i2l (v := q9.toInt64) hx hb dX8_mean_76 rfl ?_
      refine lv_ladd hx hb dX8_mean_77 ?_
      refine lv_lstore (lv' := [(4, .long (x4 + q9.toInt64)), (2, .long (x2 + (q6.toInt64 * ((gl μ 64 q5.toNatClampNeg) + q8.toInt64)))), (7, .int q5), (0, .ref (ad 60)), (1, .int x1), (6, .int x6)]) hx hb dX8_mean_78 hl (by decide) rfl (fun ls hl => ?_)
      refine lv_iinc (v := (x6 + (1 : Int32))) (lv' := [(6, .int (x6 + (1 : Int32))), (4, .long (x4 + q9.toInt64)), (2, .long (x2 + (q6.toInt64 * ((gl μ 64 q5.toNatClampNeg) + q8.toInt64)))), (7, .int q5), (0, .ref (ad 60)), (1, .int x1)]) hx hb dX8_mean_80 hl (k := 5) rfl rfl (by decide) rfl (fun ls hl => ?_)
      refine lv_goto (tgt := 8) hx hb dX8_mean_83 (by decide) ?_
      exact kc _ (Option.some.inj h).symm hM hS (lv_sub hl [4, 5, 2, 1, 0] rfl)
    · replace h := gif_t c4 h
      refine lv_goto (tgt := 80) hx hb dX8_mean_28 (by decide) ?_
      refine lv_iinc (v := (x6 + (1 : Int32))) (lv' := [(6, .int (x6 + (1 : Int32))), (0, .ref (ad 60)), (1, .int x1), (2, .long x2), (4, .long x4)]) hx hb dX8_mean_80 hl (k := 4) rfl rfl (by decide) rfl (fun ls hl => ?_)
      refine lv_goto (tgt := 8) hx hb dX8_mean_83 (by decide) ?_
      exact kc _ (Option.some.inj h).symm hM hS (lv_sub hl [1, 2, 3, 4, 0] rfl)
set_option maxHeartbeats 4000000 in
theorem wl_X8_mean_8 {p : Program} {l : Launch} {e : Env} {s : State} {m : MethodId} {args : Array Value} {below : List Frame} {meth : Method} {c : Code} {D : va_G} {cy : Nat → ClassId} {ad : Nat → Nat} {base : Nat} {x1 : Int32} {μ : gM} {r : Int64 × Int64} {RES : Int64} (F : gF p s m meth c cX8_mean RX8 8 (some .long)) (E : gEnv l D cy ad base s) (kx : ∀ (t : Int64 × Int64) {H : Heap} {locs : List Loc} {ls : Array Slot}, r = t → gW gFull D cy ad base μ H → va_S (gA base) s.heap H locs → lv_has ls 8 [(2, .long t.1), (4, .long t.2)] → W p l e ({ frames := 5, cells := 0, slots := 0, locals := 112 } : Room) s m args below meth c H locs 0 0 (MQ below (gQ (some (.long RES)) gFull D cy ad base μ) args s 0 0 (gA base)) (F0 m 86 ls []))  : ∀ (n : Nat) (x2 : Int64) (x4 : Int64) (x6 : Int32), gloop (fun t => b_X8_mean_8 x1 t.1 t.2.1 t.2.2 μ) n (x2, x4, x6) = some r → ∀ {H : Heap} {locs : List Loc} {ls : Array Slot}, gW gFull D cy ad base μ H → va_S (gA base) s.heap H locs → lv_has ls 8 [(0, .ref (ad 60)), (1, .int x1), (2, .long x2), (4, .long x4), (6, .int x6)] → W p l e ({ frames := 5, cells := 0, slots := 0, locals := 112 } : Room) s m args below meth c H locs 0 0 (MQ below (gQ (some (.long RES)) gFull D cy ad base μ) args s 0 0 (gA base)) (F0 m 8 ls []) := by
  intro n
  induction n with
  | zero =>
    intro x2 x4 x6 h
    exact (gloop_0 h).elim
  | succ n ih =>
    intro x2 x4 x6 h H locs ls hM hS hl
    obtain ⟨o, h0, hc, hq⟩ := gloop_s h
    have h1 : b_X8_mean_8 x1 x2 x4 x6 μ = some o := h0
    exact wb_X8_mean_8 h1 F E (fun t H locs ls ho hM hS hl => ih t.1 t.2.1 t.2.2 (hc t ho) hM hS hl) (fun t H locs ls ho hM hS hl => kx t (hq _ ho).symm hM hS hl) hM hS hl
def f_X8_mean (p1 : Int32) (μ : gM) : Option (Int64) :=
  Option.bind (gloop (fun t => b_X8_mean_8 p1 t.1 t.2.1 t.2.2 μ) gFuel ((0 : Int64), (0 : Int64), (0 : Int32))) (fun q10 => Option.bind (f_X8_floorOf (((2 : Int64) * q10.1) + q10.2) ((2 : Int64) * q10.2) μ) (fun q11 => some q11))
set_option maxHeartbeats 4000000 in
set_option maxRecDepth 100000 in
theorem c_X8_mean {l : Launch} {D : va_G} {cy : Nat → ClassId} {ad : Nat → Nat} {base : Nat} {p1 : Int32} {μ : gM} {RES : Int64} (h : f_X8_mean p1 μ = some RES) : Met l yX8_mean [.code yX8_mean cX8_mean 8 (some .long)] ({ frames := 5, cells := 0, slots := 0, locals := 112 } : Room) (va_Pc [.ref (ad 60), .int p1] (gB l gFull D cy ad base μ)) (gQ (some (.long RES)) gFull D cy ad base μ) 0 0 (gA base) := by
  refine Met.ofW (cc := cX8_mean) (maxL := 8) (ret := (some .long)) (by decide) rfl ?_
  intro p e s m args below meth c s₁ B hml0 hv
  obtain ⟨rfl, E, hM⟩ := hv
  have F : gF p s m meth c cX8_mean RX8 8 (some .long) := gF_of B hml0
  obtain ⟨hx, hb, hml, hown, hlocks, hr⟩ := id F
  have hS : va_S (gA base) s.heap s.heap [] := va_S.rf
  have hl := lv_entry ([.ref (ad 60), .int p1]) (n := 8) (Nat.le_of_ble_eq_true rfl)
  rw [lg_entry_eq]
  generalize (lg_sl ([.ref (ad 60), .int p1]) ++ List.replicate (8 - (lg_sl ([.ref (ad 60), .int p1])).length) Slot.unset).toArray = ls at hl ⊢
  have hl : lv_has ls 8 [(0, .ref (ad 60)), (1, .int p1)] := hl
  unfold f_X8_mean at h
  refine lv_lconst (v := (0 : Int64)) hx hb dX8_mean_0 (by decide) ?_
  refine lv_lstore_n (lv' := [(2, .long (0 : Int64)), (0, .ref (ad 60)), (1, .int p1)]) hx hb dX8_mean_1 rfl hl (by decide) rfl (fun ls hl => ?_)
  refine lv_lconst (v := (0 : Int64)) hx hb dX8_mean_2 (by decide) ?_
  refine lv_lstore (lv' := [(4, .long (0 : Int64)), (2, .long (0 : Int64)), (0, .ref (ad 60)), (1, .int p1)]) hx hb dX8_mean_3 hl (by decide) rfl (fun ls hl => ?_)
  refine lv_iconst (v := (0 : Int32)) hx hb dX8_mean_5 (by decide) ?_
  refine lv_istore (lv' := [(6, .int (0 : Int32)), (4, .long (0 : Int64)), (2, .long (0 : Int64)), (0, .ref (ad 60)), (1, .int p1)]) hx hb dX8_mean_6 hl (by decide) rfl (fun ls hl => ?_)
  obtain ⟨z12, h1, h⟩ := gbind_e h
  refine wl_X8_mean_8 F E (r := z12) (fun q10 H locs ls e1 hM hS hl => ?_) gFuel (0 : Int64) (0 : Int64) (0 : Int32) h1 hM hS (lv_sub hl [3, 4, 2, 1, 0] rfl)
  replace e1 : z12 = q10 := e1
  rw [e1] at h
  refine lv_ldc2 hx hb hown (v := (2 : Int64)) (E.kw kw_1791) dX8_mean_86 ?_
  refine lv_lload_n hx hb dX8_mean_89 rfl (lv_at hl 0 rfl) ?_
  refine lv_lmul hx hb dX8_mean_90 ?_
  refine lv_lload hx hb dX8_mean_91 (lv_at hl 1 rfl) ?_
  refine lv_ladd hx hb dX8_mean_93 ?_
  refine lv_ldc2 hx hb hown (v := (2 : Int64)) (E.kw kw_1791) dX8_mean_94 ?_
  refine lv_lload hx hb dX8_mean_97 (lv_at hl 1 rfl) ?_
  refine lv_lmul hx hb dX8_mean_99 ?_
  obtain ⟨q11, hq11, h⟩ := gbind_e h
  refine g_callS (As := [.long (((2 : Int64) * q10.1) + q10.2), .long ((2 : Int64) * q10.2)]) (rest := []) hx hb (hml.trans hl.1.symm) hown E hM hS hy_X8_floorOf kw_1877 (c_X8_floorOf hq11) rfl rfl (Nat.le_of_ble_eq_true rfl) ⟨Nat.le_of_ble_eq_true rfl, Nat.le_of_ble_eq_true rfl⟩ ⟨Nat.le_of_ble_eq_true rfl, Nat.le_of_ble_eq_true rfl⟩ dX8_mean_100 (fun H locs hM hS => ?_)
  obtain rfl := Option.some.inj h
  exact g_lret hx hb hr hlocks hM hS dX8_mean_103
def j_X8_goesRound_67 (x2 : Int32) (x3 : Int64) (y0 : Int32) (μ : gM) : Option ((Int32 × Int32 × gM) ⊕ (Int32 × gM)) :=
  gchk (gIn x2 16) (some (.inl (y0, (x2 + (1 : Int32)), (sl μ 64 x2.toNatClampNeg x3))))
set_option maxHeartbeats 4000000 in
set_option maxRecDepth 100000 in
theorem wj_X8_goesRound_67 {p : Program} {l : Launch} {e : Env} {s : State} {m : MethodId} {args : Array Value} {below : List Frame} {meth : Method} {c : Code} {D : va_G} {cy : Nat → ClassId} {ad : Nat → Nat} {base : Nat} {x2 : Int32} {x3 : Int64} {y0 : Int32} {μ : gM} {o : (Int32 × Int32 × gM) ⊕ (Int32 × gM)} {RES : Bool × gM} (h : j_X8_goesRound_67 x2 x3 y0 μ = some o) (F : gF p s m meth c cX8_goesRound RX8 5 (some .boolean)) (E : gEnv l D cy ad base s) (kc : ∀ (t : Int32 × Int32 × gM) {H : Heap} {locs : List Loc} {ls : Array Slot}, o = .inl t → gW gFull D cy ad base t.2.2 H → va_S (gA base) s.heap H locs → lv_has ls 5 [(0, .ref (ad 60)), (1, .int t.1), (2, .int t.2.1)] → W p l e ({ frames := 6, cells := 0, slots := 0, locals := 139 } : Room) s m args below meth c H locs 0 0 (MQ below (gQ (some (.int (b2i RES.1))) gFull D cy ad base RES.2) args s 0 0 (gA base)) (F0 m 4 ls [])) (kx : ∀ (t : Int32 × gM) {H : Heap} {locs : List Loc} {ls : Array Slot}, o = .inr t → gW gFull D cy ad base t.2 H → va_S (gA base) s.heap H locs → lv_has ls 5 [(1, .int t.1)] → W p l e ({ frames := 6, cells := 0, slots := 0, locals := 139 } : Room) s m args below meth c H locs 0 0 (MQ below (gQ (some (.int (b2i RES.1))) gFull D cy ad base RES.2) args s 0 0 (gA base)) (F0 m 81 ls []))  {H : Heap} {locs : List Loc} {ls : Array Slot} (hM : gW gFull D cy ad base μ H) (hS : va_S (gA base) s.heap H locs) (hl : lv_has ls 5 [(0, .ref (ad 60)), (2, .int x2), (3, .long x3)]) : W p l e ({ frames := 6, cells := 0, slots := 0, locals := 139 } : Room) s m args below meth c H locs 0 0 (MQ below (gQ (some (.int (b2i RES.1))) gFull D cy ad base RES.2) args s 0 0 (gA base)) (F0 m 67 ls [.int y0]) := by
  obtain ⟨hx, hb, hml, hown, hlocks, hr⟩ := id F
  unfold j_X8_goesRound_67 at h
  refine lv_istore_n (lv' := [(1, .int y0), (0, .ref (ad 60)), (2, .int x2), (3, .long x3)]) hx hb dX8_goesRound_67 rfl hl (by decide) rfl (fun ls hl => ?_)
  refine lv_aload_n hx hb dX8_goesRound_68 rfl (lv_at hl 1 rfl) ?_
  refine gg_60_3 hx hb hown E hM hk_60 kw_1245 dX8_goesRound_69 ?_
  refine lv_iload_n hx hb dX8_goesRound_72 rfl (lv_at hl 2 rfl) ?_
  refine lv_lload_n hx hb dX8_goesRound_73 rfl (lv_at hl 3 rfl) ?_
  obtain ⟨c9, h⟩ := gchk_e h
  refine g_last hx hb E hM hS hk_64 dd_64 c9 dX8_goesRound_74 (fun H locs hM hS => ?_)
  refine lv_iinc (v := (x2 + (1 : Int32))) (lv' := [(2, .int (x2 + (1 : Int32))), (1, .int y0), (0, .ref (ad 60)), (3, .long x3)]) hx hb dX8_goesRound_75 hl (k := 2) rfl rfl (by decide) rfl (fun ls hl => ?_)
  refine lv_goto (tgt := 4) hx hb dX8_goesRound_78 (by decide) ?_
  exact kc _ (Option.some.inj h).symm hM hS (lv_sub hl [2, 1, 0] rfl)
def j_X8_goesRound_62 (x2 : Int32) (x3 : Int64) (μ : gM) : Option ((Int32 × Int32 × gM) ⊕ (Int32 × gM)) :=
  j_X8_goesRound_67 x2 x3 (1 : Int32) μ
set_option maxHeartbeats 4000000 in
set_option maxRecDepth 100000 in
theorem wj_X8_goesRound_62 {p : Program} {l : Launch} {e : Env} {s : State} {m : MethodId} {args : Array Value} {below : List Frame} {meth : Method} {c : Code} {D : va_G} {cy : Nat → ClassId} {ad : Nat → Nat} {base : Nat} {x2 : Int32} {x3 : Int64} {μ : gM} {o : (Int32 × Int32 × gM) ⊕ (Int32 × gM)} {RES : Bool × gM} (h : j_X8_goesRound_62 x2 x3 μ = some o) (F : gF p s m meth c cX8_goesRound RX8 5 (some .boolean)) (E : gEnv l D cy ad base s) (kc : ∀ (t : Int32 × Int32 × gM) {H : Heap} {locs : List Loc} {ls : Array Slot}, o = .inl t → gW gFull D cy ad base t.2.2 H → va_S (gA base) s.heap H locs → lv_has ls 5 [(0, .ref (ad 60)), (1, .int t.1), (2, .int t.2.1)] → W p l e ({ frames := 6, cells := 0, slots := 0, locals := 139 } : Room) s m args below meth c H locs 0 0 (MQ below (gQ (some (.int (b2i RES.1))) gFull D cy ad base RES.2) args s 0 0 (gA base)) (F0 m 4 ls [])) (kx : ∀ (t : Int32 × gM) {H : Heap} {locs : List Loc} {ls : Array Slot}, o = .inr t → gW gFull D cy ad base t.2 H → va_S (gA base) s.heap H locs → lv_has ls 5 [(1, .int t.1)] → W p l e ({ frames := 6, cells := 0, slots := 0, locals := 139 } : Room) s m args below meth c H locs 0 0 (MQ below (gQ (some (.int (b2i RES.1))) gFull D cy ad base RES.2) args s 0 0 (gA base)) (F0 m 81 ls []))  {H : Heap} {locs : List Loc} {ls : Array Slot} (hM : gW gFull D cy ad base μ H) (hS : va_S (gA base) s.heap H locs) (hl : lv_has ls 5 [(0, .ref (ad 60)), (2, .int x2), (3, .long x3)]) : W p l e ({ frames := 6, cells := 0, slots := 0, locals := 139 } : Room) s m args below meth c H locs 0 0 (MQ below (gQ (some (.int (b2i RES.1))) gFull D cy ad base RES.2) args s 0 0 (gA base)) (F0 m 62 ls []) := by
  obtain ⟨hx, hb, hml, hown, hlocks, hr⟩ := id F
  unfold j_X8_goesRound_62 at h
  refine lv_iconst (v := (1 : Int32)) hx hb dX8_goesRound_62 (by decide) ?_
  refine lv_goto (tgt := 67) hx hb dX8_goesRound_63 (by decide) ?_
  exact wj_X8_goesRound_67 h F E kc kx hM hS hl
def b_X8_goesRound_4 (x1 : Int32) (x2 : Int32) (μ : gM) : Option ((Int32 × Int32 × gM) ⊕ (Int32 × gM)) :=
  Option.bind (f_X8_count (1 : Int32) μ) (fun q1 => if (q1 ≤ x2) then some (.inr (x1, μ)) else gchk (gIn x2 16) (if ((gl μ 64 x2.toNatClampNeg) = (-9223372036854775808 : Int64)) then some (.inl (x1, (x2 + (1 : Int32)), μ)) else gchk (gIn ((6 : Int32) + x2) 703) (if ((gi μ 61 ((6 : Int32) + x2).toNatClampNeg) < 0) then Option.bind (f_X8_mean x2 μ) (fun q7 => if (x1 = 0) then gchk (gIn x2 16) (if (q7 = (gl μ 64 x2.toNatClampNeg)) then j_X8_goesRound_67 x2 q7 (0 : Int32) μ else j_X8_goesRound_62 x2 q7 μ) else j_X8_goesRound_62 x2 q7 μ) else some (.inl (x1, (x2 + (1 : Int32)), μ)))))
set_option maxHeartbeats 4000000 in
set_option maxRecDepth 100000 in
theorem wb_X8_goesRound_4 {p : Program} {l : Launch} {e : Env} {s : State} {m : MethodId} {args : Array Value} {below : List Frame} {meth : Method} {c : Code} {D : va_G} {cy : Nat → ClassId} {ad : Nat → Nat} {base : Nat} {x1 : Int32} {x2 : Int32} {μ : gM} {o : (Int32 × Int32 × gM) ⊕ (Int32 × gM)} {RES : Bool × gM} (h : b_X8_goesRound_4 x1 x2 μ = some o) (F : gF p s m meth c cX8_goesRound RX8 5 (some .boolean)) (E : gEnv l D cy ad base s) (kc : ∀ (t : Int32 × Int32 × gM) {H : Heap} {locs : List Loc} {ls : Array Slot}, o = .inl t → gW gFull D cy ad base t.2.2 H → va_S (gA base) s.heap H locs → lv_has ls 5 [(0, .ref (ad 60)), (1, .int t.1), (2, .int t.2.1)] → W p l e ({ frames := 6, cells := 0, slots := 0, locals := 139 } : Room) s m args below meth c H locs 0 0 (MQ below (gQ (some (.int (b2i RES.1))) gFull D cy ad base RES.2) args s 0 0 (gA base)) (F0 m 4 ls [])) (kx : ∀ (t : Int32 × gM) {H : Heap} {locs : List Loc} {ls : Array Slot}, o = .inr t → gW gFull D cy ad base t.2 H → va_S (gA base) s.heap H locs → lv_has ls 5 [(1, .int t.1)] → W p l e ({ frames := 6, cells := 0, slots := 0, locals := 139 } : Room) s m args below meth c H locs 0 0 (MQ below (gQ (some (.int (b2i RES.1))) gFull D cy ad base RES.2) args s 0 0 (gA base)) (F0 m 81 ls []))  {H : Heap} {locs : List Loc} {ls : Array Slot} (hM : gW gFull D cy ad base μ H) (hS : va_S (gA base) s.heap H locs) (hl : lv_has ls 5 [(0, .ref (ad 60)), (1, .int x1), (2, .int x2)]) : W p l e ({ frames := 6, cells := 0, slots := 0, locals := 139 } : Room) s m args below meth c H locs 0 0 (MQ below (gQ (some (.int (b2i RES.1))) gFull D cy ad base RES.2) args s 0 0 (gA base)) (F0 m 4 ls []) := by
  obtain ⟨hx, hb, hml, hown, hlocks, hr⟩ := id F
  unfold b_X8_goesRound_4 at h
  refine lv_iload_n hx hb dX8_goesRound_4 rfl (lv_at hl 2 rfl) ?_
  refine lv_aload_n hx hb dX8_goesRound_5 rfl (lv_at hl 0 rfl) ?_
  refine lv_iconst (v := (1 : Int32)) hx hb dX8_goesRound_6 (by decide) ?_
  obtain ⟨q1, hq1, h⟩ := gbind_e h
  refine g_callV (As := [.int (1 : Int32)]) (rest := [.int x2]) hx hb (hml.trans hl.1.symm) hown E hM hS hy_X8_count kw_1498 (c_X8_count hq1) hk_60 dd_60 rfl rfl rfl (Nat.le_of_ble_eq_true rfl) ⟨Nat.le_of_ble_eq_true rfl, Nat.le_of_ble_eq_true rfl⟩ ⟨Nat.le_of_ble_eq_true rfl, Nat.le_of_ble_eq_true rfl⟩ dX8_goesRound_7 (fun H locs hM hS => ?_)
  refine lv_icmp_ge (tgt := 81) hx hb dX8_goesRound_10 (by decide) (fun c2 => ?_) (fun c2 => ?_)
  · replace h := gif_t c2 h
    exact kx _ (Option.some.inj h).symm hM hS (lv_sub hl [1] rfl)
  · replace h := gif_f c2 h
    refine lv_aload_n hx hb dX8_goesRound_13 rfl (lv_at hl 0 rfl) ?_
    refine gg_60_3 hx hb hown E hM hk_60 kw_1245 dX8_goesRound_14 ?_
    refine lv_iload_n hx hb dX8_goesRound_17 rfl (lv_at hl 2 rfl) ?_
    obtain ⟨c3, h⟩ := gchk_e h
    refine g_lald hx hb E hM hk_64 dd_64 c3 dX8_goesRound_18 ?_
    refine lv_ldc2 hx hb hown (v := (-9223372036854775808 : Int64)) (E.kw kw_1835) dX8_goesRound_19 ?_
    refine W.lcmp hx hb dX8_goesRound_22 ?_
    refine lv_if_eq (tgt := 75) hx hb dX8_goesRound_23 (by decide) (fun c4 => ?_) (fun c4 => ?_)
    · replace c4 := (lg_cmp_eq _ _).mp c4
      replace h := gif_t c4 h
      refine lv_iinc (v := (x2 + (1 : Int32))) (lv' := [(2, .int (x2 + (1 : Int32))), (0, .ref (ad 60)), (1, .int x1)]) hx hb dX8_goesRound_75 hl (k := 2) rfl rfl (by decide) rfl (fun ls hl => ?_)
      refine lv_goto (tgt := 4) hx hb dX8_goesRound_78 (by decide) ?_
      exact kc _ (Option.some.inj h).symm hM hS (lv_sub hl [1, 2, 0] rfl)
    · replace c4 := fun w => c4 ((lg_cmp_eq _ _).mpr w)
      replace h := gif_f c4 h
      refine lv_aload_n hx hb dX8_goesRound_26 rfl (lv_at hl 0 rfl) ?_
      refine gg_60_0 hx hb hown E hM hk_60 kw_1242 dX8_goesRound_27 ?_
      refine lv_bipush (v := (6 : Int32)) hx hb dX8_goesRound_30 (by decide) ?_
      refine lv_iload_n hx hb dX8_goesRound_32 rfl (lv_at hl 2 rfl) ?_
      refine lv_iadd hx hb dX8_goesRound_33 ?_
      obtain ⟨c5, h⟩ := gchk_e h
      refine g_iald hx hb E hM hk_61 dd_61 c5 dX8_goesRound_34 ?_
      refine lv_if_lt (tgt := 41) hx hb dX8_goesRound_35 (by decide) (fun c6 => ?_) (fun c6 => ?_)
      · replace h := gif_t c6 h
        refine lv_aload_n hx hb dX8_goesRound_41 rfl (lv_at hl 0 rfl) ?_
        refine lv_iload_n hx hb dX8_goesRound_42 rfl (lv_at hl 2 rfl) ?_
        obtain ⟨q7, hq7, h⟩ := gbind_e h
        refine g_callV (As := [.int x2]) (rest := []) hx hb (hml.trans hl.1.symm) hown E hM hS hy_X8_mean kw_1873 (c_X8_mean hq7) hk_60 dd_60 rfl rfl rfl (Nat.le_of_ble_eq_true rfl) ⟨Nat.le_of_ble_eq_true rfl, Nat.le_of_ble_eq_true rfl⟩ ⟨Nat.le_of_ble_eq_true rfl, Nat.le_of_ble_eq_true rfl⟩ dX8_goesRound_43 (fun H locs hM hS => ?_)
        refine lv_lstore_n (lv' := [(3, .long q7), (0, .ref (ad 60)), (1, .int x1), (2, .int x2)]) hx hb dX8_goesRound_46 rfl hl (by decide) rfl (fun ls hl => ?_)
        refine lv_iload_n hx hb dX8_goesRound_47 rfl (lv_at hl 2 rfl) ?_
        refine lv_if_ne (tgt := 62) hx hb dX8_goesRound_48 (by decide) (fun c8 => ?_) (fun c8 => ?_)
        · replace h := gif_f c8 h
          exact wj_X8_goesRound_62 h F E kc kx hM hS (lv_sub hl [1, 3, 0] rfl)
        · replace h := gif_t c8 h
          refine lv_lload_n hx hb dX8_goesRound_51 rfl (lv_at hl 0 rfl) ?_
          refine lv_aload_n hx hb dX8_goesRound_52 rfl (lv_at hl 1 rfl) ?_
          refine gg_60_3 hx hb hown E hM hk_60 kw_1245 dX8_goesRound_53 ?_
          refine lv_iload_n hx hb dX8_goesRound_56 rfl (lv_at hl 3 rfl) ?_
          obtain ⟨c10, h⟩ := gchk_e h
          refine g_lald hx hb E hM hk_64 dd_64 c10 dX8_goesRound_57 ?_
          refine W.lcmp hx hb dX8_goesRound_58 ?_
          refine lv_if_eq (tgt := 66) hx hb dX8_goesRound_59 (by decide) (fun c11 => ?_) (fun c11 => ?_)
          · replace c11 := (lg_cmp_eq _ _).mp c11
            replace h := gif_t c11 h
            refine lv_iconst (v := (0 : Int32)) hx hb dX8_goesRound_66 (by decide) ?_
            exact wj_X8_goesRound_67 h F E kc kx hM hS (lv_sub hl [1, 3, 0] rfl)
          · replace c11 := fun w => c11 ((lg_cmp_eq _ _).mpr w)
            replace h := gif_f c11 h
            exact wj_X8_goesRound_62 h F E kc kx hM hS (lv_sub hl [1, 3, 0] rfl)
      · replace h := gif_f c6 h
        refine lv_goto (tgt := 75) hx hb dX8_goesRound_38 (by decide) ?_
        refine lv_iinc (v := (x2 + (1 : Int32))) (lv' := [(2, .int (x2 + (1 : Int32))), (0, .ref (ad 60)), (1, .int x1)]) hx hb dX8_goesRound_75 hl (k := 2) rfl rfl (by decide) rfl (fun ls hl => ?_)
        refine lv_goto (tgt := 4) hx hb dX8_goesRound_78 (by decide) ?_
        exact kc _ (Option.some.inj h).symm hM hS (lv_sub hl [1, 2, 0] rfl)
set_option maxHeartbeats 4000000 in
theorem wl_X8_goesRound_4 {p : Program} {l : Launch} {e : Env} {s : State} {m : MethodId} {args : Array Value} {below : List Frame} {meth : Method} {c : Code} {D : va_G} {cy : Nat → ClassId} {ad : Nat → Nat} {base : Nat}  {r : Int32 × gM} {RES : Bool × gM} (F : gF p s m meth c cX8_goesRound RX8 5 (some .boolean)) (E : gEnv l D cy ad base s) (kx : ∀ (t : Int32 × gM) {H : Heap} {locs : List Loc} {ls : Array Slot}, r = t → gW gFull D cy ad base t.2 H → va_S (gA base) s.heap H locs → lv_has ls 5 [(1, .int t.1)] → W p l e ({ frames := 6, cells := 0, slots := 0, locals := 139 } : Room) s m args below meth c H locs 0 0 (MQ below (gQ (some (.int (b2i RES.1))) gFull D cy ad base RES.2) args s 0 0 (gA base)) (F0 m 81 ls []))  : ∀ (n : Nat) (x1 : Int32) (x2 : Int32) (μ : gM), gloop (fun t => b_X8_goesRound_4  t.1 t.2.1 t.2.2) n (x1, x2, μ) = some r → ∀ {H : Heap} {locs : List Loc} {ls : Array Slot}, gW gFull D cy ad base μ H → va_S (gA base) s.heap H locs → lv_has ls 5 [(0, .ref (ad 60)), (1, .int x1), (2, .int x2)] → W p l e ({ frames := 6, cells := 0, slots := 0, locals := 139 } : Room) s m args below meth c H locs 0 0 (MQ below (gQ (some (.int (b2i RES.1))) gFull D cy ad base RES.2) args s 0 0 (gA base)) (F0 m 4 ls []) := by
  intro n
  induction n with
  | zero =>
    intro x1 x2 μ h
    exact (gloop_0 h).elim
  | succ n ih =>
    intro x1 x2 μ h H locs ls hM hS hl
    obtain ⟨o, h0, hc, hq⟩ := gloop_s h
    have h1 : b_X8_goesRound_4 x1 x2 μ = some o := h0
    exact wb_X8_goesRound_4 h1 F E (fun t H locs ls ho hM hS hl => ih t.1 t.2.1 t.2.2 (hc t ho) hM hS hl) (fun t H locs ls ho hM hS hl => kx t (hq _ ho).symm hM hS hl) hM hS hl
def f_X8_goesRound (μ : gM) : Option (Bool × gM) :=
  Option.bind (gloop (fun t => b_X8_goesRound_4  t.1 t.2.1 t.2.2) gFuel ((0 : Int32), (0 : Int32), μ)) (fun q12 => Option.bind (i2b q12.1) (fun b13 => some (b13, q12.2)))
set_option maxHeartbeats 4000000 in
set_option maxRecDepth 100000 in
theorem c_X8_goesRound {l : Launch} {D : va_G} {cy : Nat → ClassId} {ad : Nat → Nat} {base : Nat}  {μ : gM} {RES : Bool × gM} (h : f_X8_goesRound  μ = some RES) : Met l yX8_goesRound [.code yX8_goesRound cX8_goesRound 5 (some .boolean)] ({ frames := 6, cells := 0, slots := 0, locals := 139 } : Room) (va_Pc [.ref (ad 60)] (gB l gFull D cy ad base μ)) (gQ (some (.int (b2i RES.1))) gFull D cy ad base RES.2) 0 0 (gA base) := by
  refine Met.ofW (cc := cX8_goesRound) (maxL := 5) (ret := (some .boolean)) (by decide) rfl ?_
  intro p e s m args below meth c s₁ B hml0 hv
  obtain ⟨rfl, E, hM⟩ := hv
  have F : gF p s m meth c cX8_goesRound RX8 5 (some .boolean) := gF_of B hml0
  obtain ⟨hx, hb, hml, hown, hlocks, hr⟩ := id F
  have hS : va_S (gA base) s.heap s.heap [] := va_S.rf
  have hl := lv_entry ([.ref (ad 60)]) (n := 5) (Nat.le_of_ble_eq_true rfl)
  rw [lg_entry_eq]
  generalize (lg_sl ([.ref (ad 60)]) ++ List.replicate (5 - (lg_sl ([.ref (ad 60)])).length) Slot.unset).toArray = ls at hl ⊢
  have hl : lv_has ls 5 [(0, .ref (ad 60))] := hl
  unfold f_X8_goesRound at h
  refine lv_iconst (v := (0 : Int32)) hx hb dX8_goesRound_0 (by decide) ?_
  refine lv_istore_n (lv' := [(1, .int (0 : Int32)), (0, .ref (ad 60))]) hx hb dX8_goesRound_1 rfl hl (by decide) rfl (fun ls hl => ?_)
  refine lv_iconst (v := (0 : Int32)) hx hb dX8_goesRound_2 (by decide) ?_
  refine lv_istore_n (lv' := [(2, .int (0 : Int32)), (1, .int (0 : Int32)), (0, .ref (ad 60))]) hx hb dX8_goesRound_3 rfl hl (by decide) rfl (fun ls hl => ?_)
  obtain ⟨z14, h1, h⟩ := gbind_e h
  refine wl_X8_goesRound_4 F E (r := z14) (fun q12 H locs ls e1 hM hS hl => ?_) gFuel (0 : Int32) (0 : Int32) μ h1 hM hS (lv_sub hl [2, 1, 0] rfl)
  replace e1 : z14 = q12 := e1
  rw [e1] at h
  refine lv_iload_n hx hb dX8_goesRound_81 rfl (lv_at hl 0 rfl) ?_
  obtain ⟨b13, hi, h⟩ := gbind_e h
  rw [i2b_e hi]
  obtain rfl := Option.some.inj h
  exact g_zret hx hb hr hlocks (b2i_nar _) hM hS dX8_goesRound_82
def b_X8_adjust_29 (x1 : Int32) (x2 : Int32) (μ : gM) : Option ((Int32 × gM) ⊕ (gM)) :=
  if ((16 : Int32) ≤ x2) then some (.inr μ) else gchk (gIn x2 16) (gchk (gIn x2 16) (some (.inl ((x2 + (1 : Int32)), (sl μ 64 x2.toNatClampNeg (gl μ 76 x2.toNatClampNeg))))))
set_option maxHeartbeats 4000000 in
set_option maxRecDepth 100000 in
theorem wb_X8_adjust_29 {p : Program} {l : Launch} {e : Env} {s : State} {m : MethodId} {args : Array Value} {below : List Frame} {meth : Method} {c : Code} {D : va_G} {cy : Nat → ClassId} {ad : Nat → Nat} {base : Nat} {x1 : Int32} {x2 : Int32} {μ : gM} {o : (Int32 × gM) ⊕ (gM)} {RES : Int32 × gM} (h : b_X8_adjust_29 x1 x2 μ = some o) (F : gF p s m meth c cX8_adjust RX8 4 (some .int)) (E : gEnv l D cy ad base s) (kc : ∀ (t : Int32 × gM) {H : Heap} {locs : List Loc} {ls : Array Slot}, o = .inl t → gW gFull D cy ad base t.2 H → va_S (gA base) s.heap H locs → lv_has ls 4 [(0, .ref (ad 60)), (1, .int x1), (2, .int t.1)] → W p l e ({ frames := 7, cells := 0, slots := 0, locals := 163 } : Room) s m args below meth c H locs 0 0 (MQ below (gQ (some (.int RES.1)) gFull D cy ad base RES.2) args s 0 0 (gA base)) (F0 m 29 ls [])) (kx : ∀ (t : gM) {H : Heap} {locs : List Loc} {ls : Array Slot}, o = .inr t → gW gFull D cy ad base t H → va_S (gA base) s.heap H locs → lv_has ls 4 [(0, .ref (ad 60)), (1, .int x1)] → W p l e ({ frames := 7, cells := 0, slots := 0, locals := 163 } : Room) s m args below meth c H locs 0 0 (MQ below (gQ (some (.int RES.1)) gFull D cy ad base RES.2) args s 0 0 (gA base)) (F0 m 53 ls []))  {H : Heap} {locs : List Loc} {ls : Array Slot} (hM : gW gFull D cy ad base μ H) (hS : va_S (gA base) s.heap H locs) (hl : lv_has ls 4 [(0, .ref (ad 60)), (1, .int x1), (2, .int x2)]) : W p l e ({ frames := 7, cells := 0, slots := 0, locals := 163 } : Room) s m args below meth c H locs 0 0 (MQ below (gQ (some (.int RES.1)) gFull D cy ad base RES.2) args s 0 0 (gA base)) (F0 m 29 ls []) := by
  obtain ⟨hx, hb, hml, hown, hlocks, hr⟩ := id F
  unfold b_X8_adjust_29 at h
  refine lv_iload_n hx hb dX8_adjust_29 rfl (lv_at hl 2 rfl) ?_
  refine lv_bipush (v := (16 : Int32)) hx hb dX8_adjust_30 (by decide) ?_
  refine lv_icmp_ge (tgt := 53) hx hb dX8_adjust_32 (by decide) (fun c5 => ?_) (fun c5 => ?_)
  · replace h := gif_t c5 h
    exact kx _ (Option.some.inj h).symm hM hS (lv_sub hl [0, 1] rfl)
  · replace h := gif_f c5 h
    refine lv_aload_n hx hb dX8_adjust_35 rfl (lv_at hl 0 rfl) ?_
    refine gg_60_3 hx hb hown E hM hk_60 kw_1245 dX8_adjust_36 ?_
    refine lv_iload_n hx hb dX8_adjust_39 rfl (lv_at hl 2 rfl) ?_
    refine lv_aload_n hx hb dX8_adjust_40 rfl (lv_at hl 0 rfl) ?_
    refine gg_60_35 hx hb hown E hM hk_60 kw_1277 dX8_adjust_41 ?_
    refine lv_iload_n hx hb dX8_adjust_44 rfl (lv_at hl 2 rfl) ?_
    obtain ⟨c6, h⟩ := gchk_e h
    refine g_lald hx hb E hM hk_76 dd_76 c6 dX8_adjust_45 ?_
    obtain ⟨c7, h⟩ := gchk_e h
    refine g_last hx hb E hM hS hk_64 dd_64 c7 dX8_adjust_46 (fun H locs hM hS => ?_)
    refine lv_iinc (v := (x2 + (1 : Int32))) (lv' := [(2, .int (x2 + (1 : Int32))), (0, .ref (ad 60)), (1, .int x1)]) hx hb dX8_adjust_47 hl (k := 2) rfl rfl (by decide) rfl (fun ls hl => ?_)
    refine lv_goto (tgt := 29) hx hb dX8_adjust_50 (by decide) ?_
    exact kc _ (Option.some.inj h).symm hM hS (lv_sub hl [1, 2, 0] rfl)
set_option maxHeartbeats 4000000 in
theorem wl_X8_adjust_29 {p : Program} {l : Launch} {e : Env} {s : State} {m : MethodId} {args : Array Value} {below : List Frame} {meth : Method} {c : Code} {D : va_G} {cy : Nat → ClassId} {ad : Nat → Nat} {base : Nat} {x1 : Int32} {r : gM} {RES : Int32 × gM} (F : gF p s m meth c cX8_adjust RX8 4 (some .int)) (E : gEnv l D cy ad base s) (kx : ∀ (t : gM) {H : Heap} {locs : List Loc} {ls : Array Slot}, r = t → gW gFull D cy ad base t H → va_S (gA base) s.heap H locs → lv_has ls 4 [(0, .ref (ad 60)), (1, .int x1)] → W p l e ({ frames := 7, cells := 0, slots := 0, locals := 163 } : Room) s m args below meth c H locs 0 0 (MQ below (gQ (some (.int RES.1)) gFull D cy ad base RES.2) args s 0 0 (gA base)) (F0 m 53 ls []))  : ∀ (n : Nat) (x2 : Int32) (μ : gM), gloop (fun t => b_X8_adjust_29 x1 t.1 t.2) n (x2, μ) = some r → ∀ {H : Heap} {locs : List Loc} {ls : Array Slot}, gW gFull D cy ad base μ H → va_S (gA base) s.heap H locs → lv_has ls 4 [(0, .ref (ad 60)), (1, .int x1), (2, .int x2)] → W p l e ({ frames := 7, cells := 0, slots := 0, locals := 163 } : Room) s m args below meth c H locs 0 0 (MQ below (gQ (some (.int RES.1)) gFull D cy ad base RES.2) args s 0 0 (gA base)) (F0 m 29 ls []) := by
  intro n
  induction n with
  | zero =>
    intro x2 μ h
    exact (gloop_0 h).elim
  | succ n ih =>
    intro x2 μ h H locs ls hM hS hl
    obtain ⟨o, h0, hc, hq⟩ := gloop_s h
    have h1 : b_X8_adjust_29 x1 x2 μ = some o := h0
    exact wb_X8_adjust_29 h1 F E (fun t H locs ls ho hM hS hl => ih t.1 t.2 (hc t ho) hM hS hl) (fun t H locs ls ho hM hS hl => kx t (hq _ ho).symm hM hS hl) hM hS hl
def b_X8_adjust_66 (x1 : Int32) (x2 : Int32) (x3 : Int32) (μ : gM) : Option ((Int32 × Int32 × gM) ⊕ (Int32 × gM)) :=
  if (x3 = 0) then some (.inr (x2, μ)) else if (x1 ≤ x2) then some (.inr (x2, μ)) else Option.bind (f_X8_goesRound  μ) (fun q12 => some (.inl ((x2 + (1 : Int32)), (b2i q12.1), q12.2)))
set_option maxHeartbeats 4000000 in
set_option maxRecDepth 100000 in
theorem wb_X8_adjust_66 {p : Program} {l : Launch} {e : Env} {s : State} {m : MethodId} {args : Array Value} {below : List Frame} {meth : Method} {c : Code} {D : va_G} {cy : Nat → ClassId} {ad : Nat → Nat} {base : Nat} {x1 : Int32} {x2 : Int32} {x3 : Int32} {μ : gM} {o : (Int32 × Int32 × gM) ⊕ (Int32 × gM)} {RES : Int32 × gM} (h : b_X8_adjust_66 x1 x2 x3 μ = some o) (F : gF p s m meth c cX8_adjust RX8 4 (some .int)) (E : gEnv l D cy ad base s) (kc : ∀ (t : Int32 × Int32 × gM) {H : Heap} {locs : List Loc} {ls : Array Slot}, o = .inl t → gW gFull D cy ad base t.2.2 H → va_S (gA base) s.heap H locs → lv_has ls 4 [(0, .ref (ad 60)), (1, .int x1), (2, .int t.1), (3, .int t.2.1)] → W p l e ({ frames := 7, cells := 0, slots := 0, locals := 163 } : Room) s m args below meth c H locs 0 0 (MQ below (gQ (some (.int RES.1)) gFull D cy ad base RES.2) args s 0 0 (gA base)) (F0 m 66 ls [])) (kx : ∀ (t : Int32 × gM) {H : Heap} {locs : List Loc} {ls : Array Slot}, o = .inr t → gW gFull D cy ad base t.2 H → va_S (gA base) s.heap H locs → lv_has ls 4 [(2, .int t.1)] → W p l e ({ frames := 7, cells := 0, slots := 0, locals := 163 } : Room) s m args below meth c H locs 0 0 (MQ below (gQ (some (.int RES.1)) gFull D cy ad base RES.2) args s 0 0 (gA base)) (F0 m 86 ls []))  {H : Heap} {locs : List Loc} {ls : Array Slot} (hM : gW gFull D cy ad base μ H) (hS : va_S (gA base) s.heap H locs) (hl : lv_has ls 4 [(0, .ref (ad 60)), (1, .int x1), (2, .int x2), (3, .int x3)]) : W p l e ({ frames := 7, cells := 0, slots := 0, locals := 163 } : Room) s m args below meth c H locs 0 0 (MQ below (gQ (some (.int RES.1)) gFull D cy ad base RES.2) args s 0 0 (gA base)) (F0 m 66 ls []) := by
  obtain ⟨hx, hb, hml, hown, hlocks, hr⟩ := id F
  unfold b_X8_adjust_66 at h
  refine lv_iload_n hx hb dX8_adjust_66 rfl (lv_at hl 3 rfl) ?_
  refine lv_if_eq (tgt := 86) hx hb dX8_adjust_67 (by decide) (fun c10 => ?_) (fun c10 => ?_)
  · replace h := gif_t c10 h
    exact kx _ (Option.some.inj h).symm hM hS (lv_sub hl [2] rfl)
  · replace h := gif_f c10 h
    refine lv_iload_n hx hb dX8_adjust_70 rfl (lv_at hl 2 rfl) ?_
    refine lv_iload_n hx hb dX8_adjust_71 rfl (lv_at hl 1 rfl) ?_
    refine lv_icmp_ge (tgt := 86) hx hb dX8_adjust_72 (by decide) (fun c11 => ?_) (fun c11 => ?_)
    · replace h := gif_t c11 h
      exact kx _ (Option.some.inj h).symm hM hS (lv_sub hl [2] rfl)
    · replace h := gif_f c11 h
      refine lv_aload_n hx hb dX8_adjust_75 rfl (lv_at hl 0 rfl) ?_
      obtain ⟨q12, hq12, h⟩ := gbind_e h
      refine g_callV (As := []) (rest := []) hx hb (hml.trans hl.1.symm) hown E hM hS hy_X8_goesRound kw_1869 (c_X8_goesRound hq12) hk_60 dd_60 rfl rfl rfl (Nat.le_of_ble_eq_true rfl) ⟨Nat.le_of_ble_eq_true rfl, Nat.le_of_ble_eq_true rfl⟩ ⟨Nat.le_of_ble_eq_true rfl, Nat.le_of_ble_eq_true rfl⟩ dX8_adjust_76 (fun H locs hM hS => ?_)
      refine lv_istore_n (lv' := [(3, .int (b2i q12.1)), (0, .ref (ad 60)), (1, .int x1), (2, .int x2)]) hx hb dX8_adjust_79 rfl hl (by decide) rfl (fun ls hl => ?_)
      refine lv_iinc (v := (x2 + (1 : Int32))) (lv' := [(2, .int (x2 + (1 : Int32))), (3, .int (b2i q12.1)), (0, .ref (ad 60)), (1, .int x1)]) hx hb dX8_adjust_80 hl (k := 3) rfl rfl (by decide) rfl (fun ls hl => ?_)
      refine lv_goto (tgt := 66) hx hb dX8_adjust_83 (by decide) ?_
      exact kc _ (Option.some.inj h).symm hM hS (lv_sub hl [2, 3, 0, 1] rfl)
set_option maxHeartbeats 4000000 in
theorem wl_X8_adjust_66 {p : Program} {l : Launch} {e : Env} {s : State} {m : MethodId} {args : Array Value} {below : List Frame} {meth : Method} {c : Code} {D : va_G} {cy : Nat → ClassId} {ad : Nat → Nat} {base : Nat} {x1 : Int32} {r : Int32 × gM} {RES : Int32 × gM} (F : gF p s m meth c cX8_adjust RX8 4 (some .int)) (E : gEnv l D cy ad base s) (kx : ∀ (t : Int32 × gM) {H : Heap} {locs : List Loc} {ls : Array Slot}, r = t → gW gFull D cy ad base t.2 H → va_S (gA base) s.heap H locs → lv_has ls 4 [(2, .int t.1)] → W p l e ({ frames := 7, cells := 0, slots := 0, locals := 163 } : Room) s m args below meth c H locs 0 0 (MQ below (gQ (some (.int RES.1)) gFull D cy ad base RES.2) args s 0 0 (gA base)) (F0 m 86 ls []))  : ∀ (n : Nat) (x2 : Int32) (x3 : Int32) (μ : gM), gloop (fun t => b_X8_adjust_66 x1 t.1 t.2.1 t.2.2) n (x2, x3, μ) = some r → ∀ {H : Heap} {locs : List Loc} {ls : Array Slot}, gW gFull D cy ad base μ H → va_S (gA base) s.heap H locs → lv_has ls 4 [(0, .ref (ad 60)), (1, .int x1), (2, .int x2), (3, .int x3)] → W p l e ({ frames := 7, cells := 0, slots := 0, locals := 163 } : Room) s m args below meth c H locs 0 0 (MQ below (gQ (some (.int RES.1)) gFull D cy ad base RES.2) args s 0 0 (gA base)) (F0 m 66 ls []) := by
  intro n
  induction n with
  | zero =>
    intro x2 x3 μ h
    exact (gloop_0 h).elim
  | succ n ih =>
    intro x2 x3 μ h H locs ls hM hS hl
    obtain ⟨o, h0, hc, hq⟩ := gloop_s h
    have h1 : b_X8_adjust_66 x1 x2 x3 μ = some o := h0
    exact wb_X8_adjust_66 h1 F E (fun t H locs ls ho hM hS hl => ih t.1 t.2.1 t.2.2 (hc t ho) hM hS hl) (fun t H locs ls ho hM hS hl => kx t (hq _ ho).symm hM hS hl) hM hS hl
def f_X8_adjust (p1 : Int32) (μ : gM) : Option (Int32 × gM) :=
  Option.bind (f_X8_inRange p1 (1 : Int32) (200 : Int32) (si μ 60 6 (0 : Int32))) (fun q1 => if ((b2i q1) = 0) then some ((-2 : Int32), (si μ 60 6 (0 : Int32))) else Option.bind (f_X8_remember  (si μ 60 6 (0 : Int32))) (fun q3 => Option.bind (f_X8_layProvisional  q3) (fun q4 => Option.bind (gloop (fun t => b_X8_adjust_29 p1 t.1 t.2) gFuel ((0 : Int32), q4)) (fun q8 => gchk (gIn (702 : Int32) 703) (Option.bind (gloop (fun t => b_X8_adjust_66 p1 t.1 t.2.1 t.2.2) gFuel ((0 : Int32), (1 : Int32), (si q8 61 (702 : Int32).toNatClampNeg (1 : Int32)))) (fun q13 => some (q13.1, q13.2)))))))
set_option maxHeartbeats 4000000 in
set_option maxRecDepth 100000 in
theorem c_X8_adjust {l : Launch} {D : va_G} {cy : Nat → ClassId} {ad : Nat → Nat} {base : Nat} {p1 : Int32} {μ : gM} {RES : Int32 × gM} (h : f_X8_adjust p1 μ = some RES) : Met l yX8_adjust [.code yX8_adjust cX8_adjust 4 (some .int)] ({ frames := 7, cells := 0, slots := 0, locals := 163 } : Room) (va_Pc [.ref (ad 60), .int p1] (gB l gFull D cy ad base μ)) (gQ (some (.int RES.1)) gFull D cy ad base RES.2) 0 0 (gA base) := by
  refine Met.ofW (cc := cX8_adjust) (maxL := 4) (ret := (some .int)) (by decide) rfl ?_
  intro p e s m args below meth c s₁ B hml0 hv
  obtain ⟨rfl, E, hM⟩ := hv
  have F : gF p s m meth c cX8_adjust RX8 4 (some .int) := gF_of B hml0
  obtain ⟨hx, hb, hml, hown, hlocks, hr⟩ := id F
  have hS : va_S (gA base) s.heap s.heap [] := va_S.rf
  have hl := lv_entry ([.ref (ad 60), .int p1]) (n := 4) (Nat.le_of_ble_eq_true rfl)
  rw [lg_entry_eq]
  generalize (lg_sl ([.ref (ad 60), .int p1]) ++ List.replicate (4 - (lg_sl ([.ref (ad 60), .int p1])).length) Slot.unset).toArray = ls at hl ⊢
  have hl : lv_has ls 4 [(0, .ref (ad 60)), (1, .int p1)] := hl
  unfold f_X8_adjust at h
  refine lv_aload_n hx hb dX8_adjust_0 rfl (lv_at hl 0 rfl) ?_
  refine lv_iconst (v := (0 : Int32)) hx hb dX8_adjust_1 (by decide) ?_
  refine gp_60_6 hx hb hown E hM hS hk_60 kw_1248 dX8_adjust_2 (fun H locs hM hS => ?_)
  refine lv_iload_n hx hb dX8_adjust_5 rfl (lv_at hl 1 rfl) ?_
  refine lv_iconst (v := (1 : Int32)) hx hb dX8_adjust_6 (by decide) ?_
  refine lv_sipush (v := (200 : Int32)) hx hb dX8_adjust_7 (by decide) ?_
  obtain ⟨q1, hq1, h⟩ := gbind_e h
  refine g_callS (As := [.int p1, .int (1 : Int32), .int (200 : Int32)]) (rest := []) hx hb (hml.trans hl.1.symm) hown E hM hS hy_X8_inRange kw_1379 (c_X8_inRange hq1) rfl rfl (Nat.le_of_ble_eq_true rfl) ⟨Nat.le_of_ble_eq_true rfl, Nat.le_of_ble_eq_true rfl⟩ ⟨Nat.le_of_ble_eq_true rfl, Nat.le_of_ble_eq_true rfl⟩ dX8_adjust_10 (fun H locs hM hS => ?_)
  refine lv_if_ne (tgt := 19) hx hb dX8_adjust_13 (by decide) (fun c2 => ?_) (fun c2 => ?_)
  · replace h := gif_f c2 h
    refine lv_aload_n hx hb dX8_adjust_19 rfl (lv_at hl 0 rfl) ?_
    obtain ⟨q3, hq3, h⟩ := gbind_e h
    refine g_callV (As := []) (rest := []) hx hb (hml.trans hl.1.symm) hown E hM hS hy_X8_remember kw_1865 (c_X8_remember hq3) hk_60 dd_60 rfl rfl rfl (Nat.le_of_ble_eq_true rfl) ⟨Nat.le_of_ble_eq_true rfl, Nat.le_of_ble_eq_true rfl⟩ ⟨Nat.le_of_ble_eq_true rfl, Nat.le_of_ble_eq_true rfl⟩ dX8_adjust_20 (fun H locs hM hS => ?_)
    refine lv_aload_n hx hb dX8_adjust_23 rfl (lv_at hl 0 rfl) ?_
    obtain ⟨q4, hq4, h⟩ := gbind_e h
    refine g_callV (As := []) (rest := []) hx hb (hml.trans hl.1.symm) hown E hM hS hy_X8_layProvisional kw_1831 (c_X8_layProvisional hq4) hk_60 dd_60 rfl rfl rfl (Nat.le_of_ble_eq_true rfl) ⟨Nat.le_of_ble_eq_true rfl, Nat.le_of_ble_eq_true rfl⟩ ⟨Nat.le_of_ble_eq_true rfl, Nat.le_of_ble_eq_true rfl⟩ dX8_adjust_24 (fun H locs hM hS => ?_)
    refine lv_iconst (v := (0 : Int32)) hx hb dX8_adjust_27 (by decide) ?_
    refine lv_istore_n (lv' := [(2, .int (0 : Int32)), (0, .ref (ad 60)), (1, .int p1)]) hx hb dX8_adjust_28 rfl hl (by decide) rfl (fun ls hl => ?_)
    obtain ⟨z15, h1, h⟩ := gbind_e h
    refine wl_X8_adjust_29 F E (r := z15) (fun q8 H locs ls e1 hM hS hl => ?_) gFuel (0 : Int32) q4 h1 hM hS (lv_sub hl [1, 2, 0] rfl)
    replace e1 : z15 = q8 := e1
    rw [e1] at h
    refine lv_aload_n hx hb dX8_adjust_53 rfl (lv_at hl 0 rfl) ?_
    refine gg_60_0 hx hb hown E hM hk_60 kw_1242 dX8_adjust_54 ?_
    refine lv_sipush (v := (702 : Int32)) hx hb dX8_adjust_57 (by decide) ?_
    refine lv_iconst (v := (1 : Int32)) hx hb dX8_adjust_60 (by decide) ?_
    obtain ⟨c9, h⟩ := gchk_e h
    refine g_iast hx hb E hM hS hk_61 dd_61 c9 dX8_adjust_61 (fun H locs hM hS => ?_)
    refine lv_iconst (v := (0 : Int32)) hx hb dX8_adjust_62 (by decide) ?_
    refine lv_istore_n (lv' := [(2, .int (0 : Int32)), (0, .ref (ad 60)), (1, .int p1)]) hx hb dX8_adjust_63 rfl hl (by decide) rfl (fun ls hl => ?_)
    refine lv_iconst (v := (1 : Int32)) hx hb dX8_adjust_64 (by decide) ?_
    refine lv_istore_n (lv' := [(3, .int (1 : Int32)), (2, .int (0 : Int32)), (0, .ref (ad 60)), (1, .int p1)]) hx hb dX8_adjust_65 rfl hl (by decide) rfl (fun ls hl => ?_)
    obtain ⟨z14, h1, h⟩ := gbind_e h
    refine wl_X8_adjust_66 F E (r := z14) (fun q13 H locs ls e1 hM hS hl => ?_) gFuel (0 : Int32) (1 : Int32) (si q8 61 (702 : Int32).toNatClampNeg (1 : Int32)) h1 hM hS (lv_sub hl [2, 3, 1, 0] rfl)
    replace e1 : z14 = q13 := e1
    rw [e1] at h
    refine lv_iload_n hx hb dX8_adjust_86 rfl (lv_at hl 0 rfl) ?_
    obtain rfl := Option.some.inj h
    exact g_iret hx hb hr hlocks hM hS dX8_adjust_87
  · replace h := gif_t c2 h
    refine lv_bipush (v := (-2 : Int32)) hx hb dX8_adjust_16 (by decide) ?_
    obtain rfl := Option.some.inj h
    exact g_iret hx hb hr hlocks hM hS dX8_adjust_18
def f_X8_hasResidual (p1 : Int32) (μ : gM) : Option (Bool) :=
  Option.bind (f_X8_isActive p1 μ) (fun q1 => if ((b2i q1) = 0) then some false else Option.bind (f_X8_first p1 μ) (fun q3 => Option.bind (f_X8_adjusted q3 μ) (fun q4 => if (q4 = (-9223372036854775808 : Int64)) then some false else Option.bind (f_X8_second p1 μ) (fun q6 => Option.bind (f_X8_adjusted q6 μ) (fun q7 => if (q7 = (-9223372036854775808 : Int64)) then some false else some true)))))
set_option maxHeartbeats 4000000 in
set_option maxRecDepth 100000 in
theorem c_X8_hasResidual {l : Launch} {D : va_G} {cy : Nat → ClassId} {ad : Nat → Nat} {base : Nat} {p1 : Int32} {μ : gM} {RES : Bool} (h : f_X8_hasResidual p1 μ = some RES) : Met l yX8_hasResidual [.code yX8_hasResidual cX8_hasResidual 2 (some .boolean)] ({ frames := 1, cells := 0, slots := 0, locals := 21 } : Room) (va_Pc [.ref (ad 60), .int p1] (gB l gFull D cy ad base μ)) (gQ (some (.int (b2i RES))) gFull D cy ad base μ) 0 0 (gA base) := by
  refine Met.ofW (cc := cX8_hasResidual) (maxL := 2) (ret := (some .boolean)) (by decide) rfl ?_
  intro p e s m args below meth c s₁ B hml0 hv
  obtain ⟨rfl, E, hM⟩ := hv
  have F : gF p s m meth c cX8_hasResidual RX8 2 (some .boolean) := gF_of B hml0
  obtain ⟨hx, hb, hml, hown, hlocks, hr⟩ := id F
  have hS : va_S (gA base) s.heap s.heap [] := va_S.rf
  have hl := lv_entry ([.ref (ad 60), .int p1]) (n := 2) (Nat.le_of_ble_eq_true rfl)
  rw [lg_entry_eq]
  generalize (lg_sl ([.ref (ad 60), .int p1]) ++ List.replicate (2 - (lg_sl ([.ref (ad 60), .int p1])).length) Slot.unset).toArray = ls at hl ⊢
  have hl : lv_has ls 2 [(0, .ref (ad 60)), (1, .int p1)] := hl
  unfold f_X8_hasResidual at h
  refine lv_aload_n hx hb dX8_hasResidual_0 rfl (lv_at hl 0 rfl) ?_
  refine lv_iload_n hx hb dX8_hasResidual_1 rfl (lv_at hl 1 rfl) ?_
  obtain ⟨q1, hq1, h⟩ := gbind_e h
  refine g_callV (As := [.int p1]) (rest := []) hx hb (hml.trans hl.1.symm) hown E hM hS hy_X8_isActive kw_1671 (c_X8_isActive hq1) hk_60 dd_60 rfl rfl rfl (Nat.le_of_ble_eq_true rfl) ⟨Nat.le_of_ble_eq_true rfl, Nat.le_of_ble_eq_true rfl⟩ ⟨Nat.le_of_ble_eq_true rfl, Nat.le_of_ble_eq_true rfl⟩ dX8_hasResidual_2 (fun H locs hM hS => ?_)
  refine lv_if_eq (tgt := 44) hx hb dX8_hasResidual_5 (by decide) (fun c2 => ?_) (fun c2 => ?_)
  · replace h := gif_t c2 h
    refine lv_iconst (v := (0 : Int32)) hx hb dX8_hasResidual_44 (by decide) ?_
    obtain rfl := Option.some.inj h
    exact g_zret (v := b2i false) hx hb hr hlocks (b2i_nar false) hM hS dX8_hasResidual_45
  · replace h := gif_f c2 h
    refine lv_aload_n hx hb dX8_hasResidual_8 rfl (lv_at hl 0 rfl) ?_
    refine lv_aload_n hx hb dX8_hasResidual_9 rfl (lv_at hl 0 rfl) ?_
    refine lv_iload_n hx hb dX8_hasResidual_10 rfl (lv_at hl 1 rfl) ?_
    obtain ⟨q3, hq3, h⟩ := gbind_e h
    refine g_callV (As := [.int p1]) (rest := [.ref (ad 60)]) hx hb (hml.trans hl.1.symm) hown E hM hS hy_X8_first kw_1575 (c_X8_first hq3) hk_60 dd_60 rfl rfl rfl (Nat.le_of_ble_eq_true rfl) ⟨Nat.le_of_ble_eq_true rfl, Nat.le_of_ble_eq_true rfl⟩ ⟨Nat.le_of_ble_eq_true rfl, Nat.le_of_ble_eq_true rfl⟩ dX8_hasResidual_11 (fun H locs hM hS => ?_)
    obtain ⟨q4, hq4, h⟩ := gbind_e h
    refine g_callV (As := [.int q3]) (rest := []) hx hb (hml.trans hl.1.symm) hown E hM hS hy_X8_adjusted kw_1857 (c_X8_adjusted hq4) hk_60 dd_60 rfl rfl rfl (Nat.le_of_ble_eq_true rfl) ⟨Nat.le_of_ble_eq_true rfl, Nat.le_of_ble_eq_true rfl⟩ ⟨Nat.le_of_ble_eq_true rfl, Nat.le_of_ble_eq_true rfl⟩ dX8_hasResidual_14 (fun H locs hM hS => ?_)
    refine lv_ldc2 hx hb hown (v := (-9223372036854775808 : Int64)) (E.kw kw_1835) dX8_hasResidual_17 ?_
    refine W.lcmp hx hb dX8_hasResidual_20 ?_
    refine lv_if_eq (tgt := 44) hx hb dX8_hasResidual_21 (by decide) (fun c5 => ?_) (fun c5 => ?_)
    · replace c5 := (lg_cmp_eq _ _).mp c5
      replace h := gif_t c5 h
      refine lv_iconst (v := (0 : Int32)) hx hb dX8_hasResidual_44 (by decide) ?_
      obtain rfl := Option.some.inj h
      exact g_zret (v := b2i false) hx hb hr hlocks (b2i_nar false) hM hS dX8_hasResidual_45
    · replace c5 := fun w => c5 ((lg_cmp_eq _ _).mpr w)
      replace h := gif_f c5 h
      refine lv_aload_n hx hb dX8_hasResidual_24 rfl (lv_at hl 0 rfl) ?_
      refine lv_aload_n hx hb dX8_hasResidual_25 rfl (lv_at hl 0 rfl) ?_
      refine lv_iload_n hx hb dX8_hasResidual_26 rfl (lv_at hl 1 rfl) ?_
      obtain ⟨q6, hq6, h⟩ := gbind_e h
      refine g_callV (As := [.int p1]) (rest := [.ref (ad 60)]) hx hb (hml.trans hl.1.symm) hown E hM hS hy_X8_second kw_1579 (c_X8_second hq6) hk_60 dd_60 rfl rfl rfl (Nat.le_of_ble_eq_true rfl) ⟨Nat.le_of_ble_eq_true rfl, Nat.le_of_ble_eq_true rfl⟩ ⟨Nat.le_of_ble_eq_true rfl, Nat.le_of_ble_eq_true rfl⟩ dX8_hasResidual_27 (fun H locs hM hS => ?_)
      obtain ⟨q7, hq7, h⟩ := gbind_e h
      refine g_callV (As := [.int q6]) (rest := []) hx hb (hml.trans hl.1.symm) hown E hM hS hy_X8_adjusted kw_1857 (c_X8_adjusted hq7) hk_60 dd_60 rfl rfl rfl (Nat.le_of_ble_eq_true rfl) ⟨Nat.le_of_ble_eq_true rfl, Nat.le_of_ble_eq_true rfl⟩ ⟨Nat.le_of_ble_eq_true rfl, Nat.le_of_ble_eq_true rfl⟩ dX8_hasResidual_30 (fun H locs hM hS => ?_)
      refine lv_ldc2 hx hb hown (v := (-9223372036854775808 : Int64)) (E.kw kw_1835) dX8_hasResidual_33 ?_
      refine W.lcmp hx hb dX8_hasResidual_36 ?_
      refine lv_if_eq (tgt := 44) hx hb dX8_hasResidual_37 (by decide) (fun c8 => ?_) (fun c8 => ?_)
      · replace c8 := (lg_cmp_eq _ _).mp c8
        replace h := gif_t c8 h
        refine lv_iconst (v := (0 : Int32)) hx hb dX8_hasResidual_44 (by decide) ?_
        obtain rfl := Option.some.inj h
        exact g_zret (v := b2i false) hx hb hr hlocks (b2i_nar false) hM hS dX8_hasResidual_45
      · replace c8 := fun w => c8 ((lg_cmp_eq _ _).mpr w)
        replace h := gif_f c8 h
        refine lv_iconst (v := (1 : Int32)) hx hb dX8_hasResidual_40 (by decide) ?_
        refine lv_goto (tgt := 45) hx hb dX8_hasResidual_41 (by decide) ?_
        obtain rfl := Option.some.inj h
        exact g_zret (v := b2i true) hx hb hr hlocks (b2i_nar true) hM hS dX8_hasResidual_45
def f_X8_residualOf (p1 : Int32) (μ : gM) : Option (Int64) :=
  Option.bind (f_X8_second p1 μ) (fun q1 => gchk (gIn q1 16) (Option.bind (f_X8_first p1 μ) (fun q3 => gchk (gIn q3 16) (Option.bind (f_X8_rise p1 μ) (fun q5 => some (((gl μ 64 q1.toNatClampNeg) - (gl μ 64 q3.toNatClampNeg)) - q5.toInt64))))))
set_option maxHeartbeats 4000000 in
set_option maxRecDepth 100000 in
theorem c_X8_residualOf {l : Launch} {D : va_G} {cy : Nat → ClassId} {ad : Nat → Nat} {base : Nat} {p1 : Int32} {μ : gM} {RES : Int64} (h : f_X8_residualOf p1 μ = some RES) : Met l yX8_residualOf [.code yX8_residualOf cX8_residualOf 2 (some .long)] ({ frames := 4, cells := 0, slots := 0, locals := 90 } : Room) (va_Pc [.ref (ad 60), .int p1] (gB l gFull D cy ad base μ)) (gQ (some (.long RES)) gFull D cy ad base μ) 0 0 (gA base) := by
  refine Met.ofW (cc := cX8_residualOf) (maxL := 2) (ret := (some .long)) (by decide) rfl ?_
  intro p e s m args below meth c s₁ B hml0 hv
  obtain ⟨rfl, E, hM⟩ := hv
  have F : gF p s m meth c cX8_residualOf RX8 2 (some .long) := gF_of B hml0
  obtain ⟨hx, hb, hml, hown, hlocks, hr⟩ := id F
  have hS : va_S (gA base) s.heap s.heap [] := va_S.rf
  have hl := lv_entry ([.ref (ad 60), .int p1]) (n := 2) (Nat.le_of_ble_eq_true rfl)
  rw [lg_entry_eq]
  generalize (lg_sl ([.ref (ad 60), .int p1]) ++ List.replicate (2 - (lg_sl ([.ref (ad 60), .int p1])).length) Slot.unset).toArray = ls at hl ⊢
  have hl : lv_has ls 2 [(0, .ref (ad 60)), (1, .int p1)] := hl
  unfold f_X8_residualOf at h
  refine lv_aload_n hx hb dX8_residualOf_0 rfl (lv_at hl 0 rfl) ?_
  refine gg_60_3 hx hb hown E hM hk_60 kw_1245 dX8_residualOf_1 ?_
  refine lv_aload_n hx hb dX8_residualOf_4 rfl (lv_at hl 0 rfl) ?_
  refine lv_iload_n hx hb dX8_residualOf_5 rfl (lv_at hl 1 rfl) ?_
  obtain ⟨q1, hq1, h⟩ := gbind_e h
  refine g_callV (As := [.int p1]) (rest := [.ref (ad 64)]) hx hb (hml.trans hl.1.symm) hown E hM hS hy_X8_second kw_1579 (c_X8_second hq1) hk_60 dd_60 rfl rfl rfl (Nat.le_of_ble_eq_true rfl) ⟨Nat.le_of_ble_eq_true rfl, Nat.le_of_ble_eq_true rfl⟩ ⟨Nat.le_of_ble_eq_true rfl, Nat.le_of_ble_eq_true rfl⟩ dX8_residualOf_6 (fun H locs hM hS => ?_)
  obtain ⟨c2, h⟩ := gchk_e h
  refine g_lald hx hb E hM hk_64 dd_64 c2 dX8_residualOf_9 ?_
  refine lv_aload_n hx hb dX8_residualOf_10 rfl (lv_at hl 0 rfl) ?_
  refine gg_60_3 hx hb hown E hM hk_60 kw_1245 dX8_residualOf_11 ?_
  refine lv_aload_n hx hb dX8_residualOf_14 rfl (lv_at hl 0 rfl) ?_
  refine lv_iload_n hx hb dX8_residualOf_15 rfl (lv_at hl 1 rfl) ?_
  obtain ⟨q3, hq3, h⟩ := gbind_e h
  refine g_callV (As := [.int p1]) (rest := [.ref (ad 64), .long (gl μ 64 q1.toNatClampNeg)]) hx hb (hml.trans hl.1.symm) hown E hM hS hy_X8_first kw_1575 (c_X8_first hq3) hk_60 dd_60 rfl rfl rfl (Nat.le_of_ble_eq_true rfl) ⟨Nat.le_of_ble_eq_true rfl, Nat.le_of_ble_eq_true rfl⟩ ⟨Nat.le_of_ble_eq_true rfl, Nat.le_of_ble_eq_true rfl⟩ dX8_residualOf_16 (fun H locs hM hS => ?_)
  obtain ⟨c4, h⟩ := gchk_e h
  refine g_lald hx hb E hM hk_64 dd_64 c4 dX8_residualOf_19 ?_
  refine lv_lsub hx hb dX8_residualOf_20 ?_
  refine lv_aload_n hx hb dX8_residualOf_21 rfl (lv_at hl 0 rfl) ?_
  refine lv_iload_n hx hb dX8_residualOf_22 rfl (lv_at hl 1 rfl) ?_
  obtain ⟨q5, hq5, h⟩ := gbind_e h
  refine g_callV (As := [.int p1]) (rest := [.long ((gl μ 64 q1.toNatClampNeg) - (gl μ 64 q3.toNatClampNeg))]) hx hb (hml.trans hl.1.symm) hown E hM hS hy_X8_rise kw_1624 (c_X8_rise hq5) hk_60 dd_60 rfl rfl rfl (Nat.le_of_ble_eq_true rfl) ⟨Nat.le_of_ble_eq_true rfl, Nat.le_of_ble_eq_true rfl⟩ ⟨Nat.le_of_ble_eq_true rfl, Nat.le_of_ble_eq_true rfl⟩ dX8_residualOf_23 (fun H locs hM hS => ?_)
  refine lv_i2l (v := q5.toInt64) hx hb dX8_residualOf_26 rfl ?_
  refine lv_lsub hx hb dX8_residualOf_27 ?_
  obtain rfl := Option.some.inj h
  exact g_lret hx hb hr hlocks hM hS dX8_residualOf_28
def f_X8_residual (p1 : Int32) (μ : gM) : Option (Int64 × gM) :=
  Option.bind (f_X8_isLine p1 μ) (fun q1 => Option.bind (f_X8_fails (b2i q1) μ) (fun q2 => if ((b2i q2.1) = 0) then Option.bind (f_X8_hasResidual p1 q2.2) (fun q4 => if ((b2i q4) = 0) then some ((-9223372036854775808 : Int64), q2.2) else Option.bind (f_X8_residualOf p1 q2.2) (fun q6 => some (q6, q2.2))) else some ((0 : Int64), q2.2)))
set_option maxHeartbeats 4000000 in
set_option maxRecDepth 100000 in
theorem c_X8_residual {l : Launch} {D : va_G} {cy : Nat → ClassId} {ad : Nat → Nat} {base : Nat} {p1 : Int32} {μ : gM} {RES : Int64 × gM} (h : f_X8_residual p1 μ = some RES) : Met l yX8_residual [.code yX8_residual cX8_residual 2 (some .long)] ({ frames := 5, cells := 0, slots := 0, locals := 111 } : Room) (va_Pc [.ref (ad 60), .int p1] (gB l gFull D cy ad base μ)) (gQ (some (.long RES.1)) gFull D cy ad base RES.2) 0 0 (gA base) := by
  refine Met.ofW (cc := cX8_residual) (maxL := 2) (ret := (some .long)) (by decide) rfl ?_
  intro p e s m args below meth c s₁ B hml0 hv
  obtain ⟨rfl, E, hM⟩ := hv
  have F : gF p s m meth c cX8_residual RX8 2 (some .long) := gF_of B hml0
  obtain ⟨hx, hb, hml, hown, hlocks, hr⟩ := id F
  have hS : va_S (gA base) s.heap s.heap [] := va_S.rf
  have hl := lv_entry ([.ref (ad 60), .int p1]) (n := 2) (Nat.le_of_ble_eq_true rfl)
  rw [lg_entry_eq]
  generalize (lg_sl ([.ref (ad 60), .int p1]) ++ List.replicate (2 - (lg_sl ([.ref (ad 60), .int p1])).length) Slot.unset).toArray = ls at hl ⊢
  have hl : lv_has ls 2 [(0, .ref (ad 60)), (1, .int p1)] := hl
  unfold f_X8_residual at h
  refine lv_aload_n hx hb dX8_residual_0 rfl (lv_at hl 0 rfl) ?_
  refine lv_aload_n hx hb dX8_residual_1 rfl (lv_at hl 0 rfl) ?_
  refine lv_iload_n hx hb dX8_residual_2 rfl (lv_at hl 1 rfl) ?_
  obtain ⟨q1, hq1, h⟩ := gbind_e h
  refine g_callV (As := [.int p1]) (rest := [.ref (ad 60)]) hx hb (hml.trans hl.1.symm) hown E hM hS hy_X8_isLine kw_1571 (c_X8_isLine hq1) hk_60 dd_60 rfl rfl rfl (Nat.le_of_ble_eq_true rfl) ⟨Nat.le_of_ble_eq_true rfl, Nat.le_of_ble_eq_true rfl⟩ ⟨Nat.le_of_ble_eq_true rfl, Nat.le_of_ble_eq_true rfl⟩ dX8_residual_3 (fun H locs hM hS => ?_)
  obtain ⟨q2, hq2, h⟩ := gbind_e h
  refine g_callV (As := [.int (b2i q1)]) (rest := []) hx hb (hml.trans hl.1.symm) hown E hM hS hy_X8_fails kw_1534 (c_X8_fails hq2) hk_60 dd_60 rfl rfl rfl (Nat.le_of_ble_eq_true rfl) ⟨Nat.le_of_ble_eq_true rfl, Nat.le_of_ble_eq_true rfl⟩ ⟨Nat.le_of_ble_eq_true rfl, Nat.le_of_ble_eq_true rfl⟩ dX8_residual_6 (fun H locs hM hS => ?_)
  refine lv_if_eq (tgt := 14) hx hb dX8_residual_9 (by decide) (fun c3 => ?_) (fun c3 => ?_)
  · replace h := gif_t c3 h
    refine lv_aload_n hx hb dX8_residual_14 rfl (lv_at hl 0 rfl) ?_
    refine lv_iload_n hx hb dX8_residual_15 rfl (lv_at hl 1 rfl) ?_
    obtain ⟨q4, hq4, h⟩ := gbind_e h
    refine g_callV (As := [.int p1]) (rest := []) hx hb (hml.trans hl.1.symm) hown E hM hS hy_X8_hasResidual kw_1884 (c_X8_hasResidual hq4) hk_60 dd_60 rfl rfl rfl (Nat.le_of_ble_eq_true rfl) ⟨Nat.le_of_ble_eq_true rfl, Nat.le_of_ble_eq_true rfl⟩ ⟨Nat.le_of_ble_eq_true rfl, Nat.le_of_ble_eq_true rfl⟩ dX8_residual_16 (fun H locs hM hS => ?_)
    refine lv_if_eq (tgt := 30) hx hb dX8_residual_19 (by decide) (fun c5 => ?_) (fun c5 => ?_)
    · replace h := gif_t c5 h
      refine lv_ldc2 hx hb hown (v := (-9223372036854775808 : Int64)) (E.kw kw_1835) dX8_residual_30 ?_
      obtain rfl := Option.some.inj h
      exact g_lret hx hb hr hlocks hM hS dX8_residual_33
    · replace h := gif_f c5 h
      refine lv_aload_n hx hb dX8_residual_22 rfl (lv_at hl 0 rfl) ?_
      refine lv_iload_n hx hb dX8_residual_23 rfl (lv_at hl 1 rfl) ?_
      obtain ⟨q6, hq6, h⟩ := gbind_e h
      refine g_callV (As := [.int p1]) (rest := []) hx hb (hml.trans hl.1.symm) hown E hM hS hy_X8_residualOf kw_1888 (c_X8_residualOf hq6) hk_60 dd_60 rfl rfl rfl (Nat.le_of_ble_eq_true rfl) ⟨Nat.le_of_ble_eq_true rfl, Nat.le_of_ble_eq_true rfl⟩ ⟨Nat.le_of_ble_eq_true rfl, Nat.le_of_ble_eq_true rfl⟩ dX8_residual_24 (fun H locs hM hS => ?_)
      refine lv_goto (tgt := 33) hx hb dX8_residual_27 (by decide) ?_
      obtain rfl := Option.some.inj h
      exact g_lret hx hb hr hlocks hM hS dX8_residual_33
  · replace h := gif_f c3 h
    refine lv_lconst (v := (0 : Int64)) hx hb dX8_residual_12 (by decide) ?_
    obtain rfl := Option.some.inj h
    exact g_lret hx hb hr hlocks hM hS dX8_residual_13
def f_X8_strain (p1 : Int32) (μ : gM) : Option (Int64) :=
  Option.bind (f_X8_residualOf p1 μ) (fun q1 => Option.bind (f_X8_size q1 μ) (fun q2 => Option.bind (f_X8_length p1 μ) (fun q3 => gchk (¬ q3.toInt64 = 0) (some (((1000 : Int64) * q2) / q3.toInt64)))))
set_option maxHeartbeats 4000000 in
set_option maxRecDepth 100000 in
theorem c_X8_strain {l : Launch} {D : va_G} {cy : Nat → ClassId} {ad : Nat → Nat} {base : Nat} {p1 : Int32} {μ : gM} {RES : Int64} (h : f_X8_strain p1 μ = some RES) : Met l yX8_strain [.code yX8_strain cX8_strain 2 (some .long)] ({ frames := 5, cells := 0, slots := 0, locals := 111 } : Room) (va_Pc [.ref (ad 60), .int p1] (gB l gFull D cy ad base μ)) (gQ (some (.long RES)) gFull D cy ad base μ) 0 0 (gA base) := by
  refine Met.ofW (cc := cX8_strain) (maxL := 2) (ret := (some .long)) (by decide) rfl ?_
  intro p e s m args below meth c s₁ B hml0 hv
  obtain ⟨rfl, E, hM⟩ := hv
  have F : gF p s m meth c cX8_strain RX8 2 (some .long) := gF_of B hml0
  obtain ⟨hx, hb, hml, hown, hlocks, hr⟩ := id F
  have hS : va_S (gA base) s.heap s.heap [] := va_S.rf
  have hl := lv_entry ([.ref (ad 60), .int p1]) (n := 2) (Nat.le_of_ble_eq_true rfl)
  rw [lg_entry_eq]
  generalize (lg_sl ([.ref (ad 60), .int p1]) ++ List.replicate (2 - (lg_sl ([.ref (ad 60), .int p1])).length) Slot.unset).toArray = ls at hl ⊢
  have hl : lv_has ls 2 [(0, .ref (ad 60)), (1, .int p1)] := hl
  unfold f_X8_strain at h
  refine lv_ldc2 hx hb hown (v := (1000 : Int64)) (E.kw kw_1900) dX8_strain_0 ?_
  refine lv_aload_n hx hb dX8_strain_3 rfl (lv_at hl 0 rfl) ?_
  refine lv_iload_n hx hb dX8_strain_4 rfl (lv_at hl 1 rfl) ?_
  obtain ⟨q1, hq1, h⟩ := gbind_e h
  refine g_callV (As := [.int p1]) (rest := [.long (1000 : Int64)]) hx hb (hml.trans hl.1.symm) hown E hM hS hy_X8_residualOf kw_1888 (c_X8_residualOf hq1) hk_60 dd_60 rfl rfl rfl (Nat.le_of_ble_eq_true rfl) ⟨Nat.le_of_ble_eq_true rfl, Nat.le_of_ble_eq_true rfl⟩ ⟨Nat.le_of_ble_eq_true rfl, Nat.le_of_ble_eq_true rfl⟩ dX8_strain_5 (fun H locs hM hS => ?_)
  obtain ⟨q2, hq2, h⟩ := gbind_e h
  refine g_callS (As := [.long q1]) (rest := [.long (1000 : Int64)]) hx hb (hml.trans hl.1.symm) hown E hM hS hy_X8_size kw_1644 (c_X8_size hq2) rfl rfl (Nat.le_of_ble_eq_true rfl) ⟨Nat.le_of_ble_eq_true rfl, Nat.le_of_ble_eq_true rfl⟩ ⟨Nat.le_of_ble_eq_true rfl, Nat.le_of_ble_eq_true rfl⟩ dX8_strain_8 (fun H locs hM hS => ?_)
  refine lv_lmul hx hb dX8_strain_11 ?_
  refine lv_aload_n hx hb dX8_strain_12 rfl (lv_at hl 0 rfl) ?_
  refine lv_iload_n hx hb dX8_strain_13 rfl (lv_at hl 1 rfl) ?_
  obtain ⟨q3, hq3, h⟩ := gbind_e h
  refine g_callV (As := [.int p1]) (rest := [.long ((1000 : Int64) * q2)]) hx hb (hml.trans hl.1.symm) hown E hM hS hy_X8_length kw_1587 (c_X8_length hq3) hk_60 dd_60 rfl rfl rfl (Nat.le_of_ble_eq_true rfl) ⟨Nat.le_of_ble_eq_true rfl, Nat.le_of_ble_eq_true rfl⟩ ⟨Nat.le_of_ble_eq_true rfl, Nat.le_of_ble_eq_true rfl⟩ dX8_strain_14 (fun H locs hM hS => ?_)
  refine lv_i2l (v := q3.toInt64) hx hb dX8_strain_17 rfl ?_
  obtain ⟨c4, h⟩ := gchk_e h
  refine lv_ldiv hx hb dX8_strain_18 c4 ?_
  obtain rfl := Option.some.inj h
  exact g_lret hx hb hr hlocks hM hS dX8_strain_19
def b_X8_worstLine_9 (x1 : Int32) (x2 : Int32) (μ : gM) : Option ((Int32 × Int32) ⊕ (Int32)) :=
  Option.bind (f_X8_count (2 : Int32) μ) (fun q1 => if (q1 ≤ x2) then some (.inr x1) else Option.bind (f_X8_hasResidual x2 μ) (fun q3 => if ((b2i q3) = 0) then some (.inl (x1, (x2 + (1 : Int32)))) else if (x1 < 0) then some (.inl (x2, (x2 + (1 : Int32)))) else Option.bind (f_X8_strain x2 μ) (fun q6 => Option.bind (f_X8_strain x1 μ) (fun q7 => if (q6 ≤ q7) then some (.inl (x1, (x2 + (1 : Int32)))) else some (.inl (x2, (x2 + (1 : Int32))))))))
set_option maxHeartbeats 4000000 in
set_option maxRecDepth 100000 in
theorem wb_X8_worstLine_9 {p : Program} {l : Launch} {e : Env} {s : State} {m : MethodId} {args : Array Value} {below : List Frame} {meth : Method} {c : Code} {D : va_G} {cy : Nat → ClassId} {ad : Nat → Nat} {base : Nat} {x1 : Int32} {x2 : Int32} {μ : gM} {o : (Int32 × Int32) ⊕ (Int32)} {RES : Int32 × gM} (h : b_X8_worstLine_9 x1 x2 μ = some o) (F : gF p s m meth c cX8_worstLine RX8 3 (some .int)) (E : gEnv l D cy ad base s) (kc : ∀ (t : Int32 × Int32) {H : Heap} {locs : List Loc} {ls : Array Slot}, o = .inl t → gW gFull D cy ad base μ H → va_S (gA base) s.heap H locs → lv_has ls 3 [(0, .ref (ad 60)), (1, .int t.1), (2, .int t.2)] → W p l e ({ frames := 6, cells := 0, slots := 0, locals := 132 } : Room) s m args below meth c H locs 0 0 (MQ below (gQ (some (.int RES.1)) gFull D cy ad base RES.2) args s 0 0 (gA base)) (F0 m 9 ls [])) (kx : ∀ (t : Int32) {H : Heap} {locs : List Loc} {ls : Array Slot}, o = .inr t → gW gFull D cy ad base μ H → va_S (gA base) s.heap H locs → lv_has ls 3 [(1, .int t)] → W p l e ({ frames := 6, cells := 0, slots := 0, locals := 132 } : Room) s m args below meth c H locs 0 0 (MQ below (gQ (some (.int RES.1)) gFull D cy ad base RES.2) args s 0 0 (gA base)) (F0 m 52 ls []))  {H : Heap} {locs : List Loc} {ls : Array Slot} (hM : gW gFull D cy ad base μ H) (hS : va_S (gA base) s.heap H locs) (hl : lv_has ls 3 [(0, .ref (ad 60)), (1, .int x1), (2, .int x2)]) : W p l e ({ frames := 6, cells := 0, slots := 0, locals := 132 } : Room) s m args below meth c H locs 0 0 (MQ below (gQ (some (.int RES.1)) gFull D cy ad base RES.2) args s 0 0 (gA base)) (F0 m 9 ls []) := by
  obtain ⟨hx, hb, hml, hown, hlocks, hr⟩ := id F
  unfold b_X8_worstLine_9 at h
  refine lv_iload_n hx hb dX8_worstLine_9 rfl (lv_at hl 2 rfl) ?_
  refine lv_aload_n hx hb dX8_worstLine_10 rfl (lv_at hl 0 rfl) ?_
  refine lv_iconst (v := (2 : Int32)) hx hb dX8_worstLine_11 (by decide) ?_
  obtain ⟨q1, hq1, h⟩ := gbind_e h
  refine g_callV (As := [.int (2 : Int32)]) (rest := [.int x2]) hx hb (hml.trans hl.1.symm) hown E hM hS hy_X8_count kw_1498 (c_X8_count hq1) hk_60 dd_60 rfl rfl rfl (Nat.le_of_ble_eq_true rfl) ⟨Nat.le_of_ble_eq_true rfl, Nat.le_of_ble_eq_true rfl⟩ ⟨Nat.le_of_ble_eq_true rfl, Nat.le_of_ble_eq_true rfl⟩ dX8_worstLine_12 (fun H locs hM hS => ?_)
  refine lv_icmp_ge (tgt := 52) hx hb dX8_worstLine_15 (by decide) (fun c2 => ?_) (fun c2 => ?_)
  · replace h := gif_t c2 h
    exact kx _ (Option.some.inj h).symm hM hS (lv_sub hl [1] rfl)
  · replace h := gif_f c2 h
    refine lv_aload_n hx hb dX8_worstLine_18 rfl (lv_at hl 0 rfl) ?_
    refine lv_iload_n hx hb dX8_worstLine_19 rfl (lv_at hl 2 rfl) ?_
    obtain ⟨q3, hq3, h⟩ := gbind_e h
    refine g_callV (As := [.int x2]) (rest := []) hx hb (hml.trans hl.1.symm) hown E hM hS hy_X8_hasResidual kw_1884 (c_X8_hasResidual hq3) hk_60 dd_60 rfl rfl rfl (Nat.le_of_ble_eq_true rfl) ⟨Nat.le_of_ble_eq_true rfl, Nat.le_of_ble_eq_true rfl⟩ ⟨Nat.le_of_ble_eq_true rfl, Nat.le_of_ble_eq_true rfl⟩ dX8_worstLine_20 (fun H locs hM hS => ?_)
    refine lv_if_eq (tgt := 46) hx hb dX8_worstLine_23 (by decide) (fun c4 => ?_) (fun c4 => ?_)
    · replace h := gif_t c4 h
      refine lv_iinc (v := (x2 + (1 : Int32))) (lv' := [(2, .int (x2 + (1 : Int32))), (0, .ref (ad 60)), (1, .int x1)]) hx hb dX8_worstLine_46 hl (k := 2) rfl rfl (by decide) rfl (fun ls hl => ?_)
      refine lv_goto (tgt := 9) hx hb dX8_worstLine_49 (by decide) ?_
      exact kc _ (Option.some.inj h).symm hM hS (lv_sub hl [1, 2, 0] rfl)
    · replace h := gif_f c4 h
      refine lv_iload_n hx hb dX8_worstLine_26 rfl (lv_at hl 1 rfl) ?_
      refine lv_if_lt (tgt := 44) hx hb dX8_worstLine_27 (by decide) (fun c5 => ?_) (fun c5 => ?_)
      · replace h := gif_t c5 h
        refine lv_iload_n hx hb dX8_worstLine_44 rfl (lv_at hl 2 rfl) ?_
        refine lv_istore_n (lv' := [(1, .int x2), (0, .ref (ad 60)), (2, .int x2)]) hx hb dX8_worstLine_45 rfl hl (by decide) rfl (fun ls hl => ?_)
        refine lv_iinc (v := (x2 + (1 : Int32))) (lv' := [(2, .int (x2 + (1 : Int32))), (1, .int x2), (0, .ref (ad 60))]) hx hb dX8_worstLine_46 hl (k := 2) rfl rfl (by decide) rfl (fun ls hl => ?_)
        refine lv_goto (tgt := 9) hx hb dX8_worstLine_49 (by decide) ?_
        exact kc _ (Option.some.inj h).symm hM hS (lv_sub hl [2, 1, 0] rfl)
      · replace h := gif_f c5 h
        refine lv_aload_n hx hb dX8_worstLine_30 rfl (lv_at hl 0 rfl) ?_
        refine lv_iload_n hx hb dX8_worstLine_31 rfl (lv_at hl 2 rfl) ?_
        obtain ⟨q6, hq6, h⟩ := gbind_e h
        refine g_callV (As := [.int x2]) (rest := []) hx hb (hml.trans hl.1.symm) hown E hM hS hy_X8_strain kw_1896 (c_X8_strain hq6) hk_60 dd_60 rfl rfl rfl (Nat.le_of_ble_eq_true rfl) ⟨Nat.le_of_ble_eq_true rfl, Nat.le_of_ble_eq_true rfl⟩ ⟨Nat.le_of_ble_eq_true rfl, Nat.le_of_ble_eq_true rfl⟩ dX8_worstLine_32 (fun H locs hM hS => ?_)
        refine lv_aload_n hx hb dX8_worstLine_35 rfl (lv_at hl 0 rfl) ?_
        refine lv_iload_n hx hb dX8_worstLine_36 rfl (lv_at hl 1 rfl) ?_
        obtain ⟨q7, hq7, h⟩ := gbind_e h
        refine g_callV (As := [.int x1]) (rest := [.long q6]) hx hb (hml.trans hl.1.symm) hown E hM hS hy_X8_strain kw_1896 (c_X8_strain hq7) hk_60 dd_60 rfl rfl rfl (Nat.le_of_ble_eq_true rfl) ⟨Nat.le_of_ble_eq_true rfl, Nat.le_of_ble_eq_true rfl⟩ ⟨Nat.le_of_ble_eq_true rfl, Nat.le_of_ble_eq_true rfl⟩ dX8_worstLine_37 (fun H locs hM hS => ?_)
        refine W.lcmp hx hb dX8_worstLine_40 ?_
        refine lv_if_le (tgt := 46) hx hb dX8_worstLine_41 (by decide) (fun c8 => ?_) (fun c8 => ?_)
        · replace c8 := (lg_cmp_le _ _).mp c8
          replace h := gif_t c8 h
          refine lv_iinc (v := (x2 + (1 : Int32))) (lv' := [(2, .int (x2 + (1 : Int32))), (0, .ref (ad 60)), (1, .int x1)]) hx hb dX8_worstLine_46 hl (k := 2) rfl rfl (by decide) rfl (fun ls hl => ?_)
          refine lv_goto (tgt := 9) hx hb dX8_worstLine_49 (by decide) ?_
          exact kc _ (Option.some.inj h).symm hM hS (lv_sub hl [1, 2, 0] rfl)
        · replace c8 := fun w => c8 ((lg_cmp_le _ _).mpr w)
          replace h := gif_f c8 h
          refine lv_iload_n hx hb dX8_worstLine_44 rfl (lv_at hl 2 rfl) ?_
          refine lv_istore_n (lv' := [(1, .int x2), (0, .ref (ad 60)), (2, .int x2)]) hx hb dX8_worstLine_45 rfl hl (by decide) rfl (fun ls hl => ?_)
          refine lv_iinc (v := (x2 + (1 : Int32))) (lv' := [(2, .int (x2 + (1 : Int32))), (1, .int x2), (0, .ref (ad 60))]) hx hb dX8_worstLine_46 hl (k := 2) rfl rfl (by decide) rfl (fun ls hl => ?_)
          refine lv_goto (tgt := 9) hx hb dX8_worstLine_49 (by decide) ?_
          exact kc _ (Option.some.inj h).symm hM hS (lv_sub hl [2, 1, 0] rfl)
set_option maxHeartbeats 4000000 in
theorem wl_X8_worstLine_9 {p : Program} {l : Launch} {e : Env} {s : State} {m : MethodId} {args : Array Value} {below : List Frame} {meth : Method} {c : Code} {D : va_G} {cy : Nat → ClassId} {ad : Nat → Nat} {base : Nat}  {μ : gM} {r : Int32} {RES : Int32 × gM} (F : gF p s m meth c cX8_worstLine RX8 3 (some .int)) (E : gEnv l D cy ad base s) (kx : ∀ (t : Int32) {H : Heap} {locs : List Loc} {ls : Array Slot}, r = t → gW gFull D cy ad base μ H → va_S (gA base) s.heap H locs → lv_has ls 3 [(1, .int t)] → W p l e ({ frames := 6, cells := 0, slots := 0, locals := 132 } : Room) s m args below meth c H locs 0 0 (MQ below (gQ (some (.int RES.1)) gFull D cy ad base RES.2) args s 0 0 (gA base)) (F0 m 52 ls []))  : ∀ (n : Nat) (x1 : Int32) (x2 : Int32), gloop (fun t => b_X8_worstLine_9  t.1 t.2 μ) n (x1, x2) = some r → ∀ {H : Heap} {locs : List Loc} {ls : Array Slot}, gW gFull D cy ad base μ H → va_S (gA base) s.heap H locs → lv_has ls 3 [(0, .ref (ad 60)), (1, .int x1), (2, .int x2)] → W p l e ({ frames := 6, cells := 0, slots := 0, locals := 132 } : Room) s m args below meth c H locs 0 0 (MQ below (gQ (some (.int RES.1)) gFull D cy ad base RES.2) args s 0 0 (gA base)) (F0 m 9 ls []) := by
  intro n
  induction n with
  | zero =>
    intro x1 x2 h
    exact (gloop_0 h).elim
  | succ n ih =>
    intro x1 x2 h H locs ls hM hS hl
    obtain ⟨o, h0, hc, hq⟩ := gloop_s h
    have h1 : b_X8_worstLine_9 x1 x2 μ = some o := h0
    exact wb_X8_worstLine_9 h1 F E (fun t H locs ls ho hM hS hl => ih t.1 t.2 (hc t ho) hM hS hl) (fun t H locs ls ho hM hS hl => kx t (hq _ ho).symm hM hS hl) hM hS hl
def f_X8_worstLine (μ : gM) : Option (Int32 × gM) :=
  Option.bind (gloop (fun t => b_X8_worstLine_9  t.1 t.2 (si μ 60 6 (0 : Int32))) gFuel ((-1 : Int32), (0 : Int32))) (fun q9 => some (q9, (si μ 60 6 (0 : Int32))))
set_option maxHeartbeats 4000000 in
set_option maxRecDepth 100000 in
theorem c_X8_worstLine {l : Launch} {D : va_G} {cy : Nat → ClassId} {ad : Nat → Nat} {base : Nat}  {μ : gM} {RES : Int32 × gM} (h : f_X8_worstLine  μ = some RES) : Met l yX8_worstLine [.code yX8_worstLine cX8_worstLine 3 (some .int)] ({ frames := 6, cells := 0, slots := 0, locals := 132 } : Room) (va_Pc [.ref (ad 60)] (gB l gFull D cy ad base μ)) (gQ (some (.int RES.1)) gFull D cy ad base RES.2) 0 0 (gA base) := by
  refine Met.ofW (cc := cX8_worstLine) (maxL := 3) (ret := (some .int)) (by decide) rfl ?_
  intro p e s m args below meth c s₁ B hml0 hv
  obtain ⟨rfl, E, hM⟩ := hv
  have F : gF p s m meth c cX8_worstLine RX8 3 (some .int) := gF_of B hml0
  obtain ⟨hx, hb, hml, hown, hlocks, hr⟩ := id F
  have hS : va_S (gA base) s.heap s.heap [] := va_S.rf
  have hl := lv_entry ([.ref (ad 60)]) (n := 3) (Nat.le_of_ble_eq_true rfl)
  rw [lg_entry_eq]
  generalize (lg_sl ([.ref (ad 60)]) ++ List.replicate (3 - (lg_sl ([.ref (ad 60)])).length) Slot.unset).toArray = ls at hl ⊢
  have hl : lv_has ls 3 [(0, .ref (ad 60))] := hl
  unfold f_X8_worstLine at h
  refine lv_aload_n hx hb dX8_worstLine_0 rfl (lv_at hl 0 rfl) ?_
  refine lv_iconst (v := (0 : Int32)) hx hb dX8_worstLine_1 (by decide) ?_
  refine gp_60_6 hx hb hown E hM hS hk_60 kw_1248 dX8_worstLine_2 (fun H locs hM hS => ?_)
  refine lv_iconst (v := (-1 : Int32)) hx hb dX8_worstLine_5 (by decide) ?_
  refine lv_istore_n (lv' := [(1, .int (-1 : Int32)), (0, .ref (ad 60))]) hx hb dX8_worstLine_6 rfl hl (by decide) rfl (fun ls hl => ?_)
  refine lv_iconst (v := (0 : Int32)) hx hb dX8_worstLine_7 (by decide) ?_
  refine lv_istore_n (lv' := [(2, .int (0 : Int32)), (1, .int (-1 : Int32)), (0, .ref (ad 60))]) hx hb dX8_worstLine_8 rfl hl (by decide) rfl (fun ls hl => ?_)
  obtain ⟨z10, h1, h⟩ := gbind_e h
  refine wl_X8_worstLine_9 F E (r := z10) (fun q9 H locs ls e1 hM hS hl => ?_) gFuel (-1 : Int32) (0 : Int32) h1 hM hS (lv_sub hl [2, 1, 0] rfl)
  replace e1 : z10 = q9 := e1
  rw [e1] at h
  refine lv_iload_n hx hb dX8_worstLine_52 rfl (lv_at hl 0 rfl) ?_
  obtain rfl := Option.some.inj h
  exact g_iret hx hb hr hlocks hM hS dX8_worstLine_53
def b_X8_mostMoved_13 (x1 : Int32) (x2 : Int32) (μ : gM) : Option ((Int32 × Int32) ⊕ (Int32)) :=
  Option.bind (f_X8_count (1 : Int32) μ) (fun q2 => if (q2 ≤ x2) then some (.inr x1) else Option.bind (f_X8_adjusted x2 μ) (fun q4 => if (q4 = (-9223372036854775808 : Int64)) then some (.inl (x1, (x2 + (1 : Int32)))) else if (x1 < 0) then some (.inl (x2, (x2 + (1 : Int32)))) else gchk (gIn x2 16) (gchk (gIn x2 16) (Option.bind (f_X8_size ((gl μ 64 x2.toNatClampNeg) - (gl μ 76 x2.toNatClampNeg)) μ) (fun q9 => gchk (gIn x1 16) (gchk (gIn x1 16) (Option.bind (f_X8_size ((gl μ 64 x1.toNatClampNeg) - (gl μ 76 x1.toNatClampNeg)) μ) (fun q12 => if (q9 ≤ q12) then some (.inl (x1, (x2 + (1 : Int32)))) else some (.inl (x2, (x2 + (1 : Int32))))))))))))
set_option maxHeartbeats 4000000 in
set_option maxRecDepth 100000 in
theorem wb_X8_mostMoved_13 {p : Program} {l : Launch} {e : Env} {s : State} {m : MethodId} {args : Array Value} {below : List Frame} {meth : Method} {c : Code} {D : va_G} {cy : Nat → ClassId} {ad : Nat → Nat} {base : Nat} {x1 : Int32} {x2 : Int32} {μ : gM} {o : (Int32 × Int32) ⊕ (Int32)} {RES : Int32 × gM} (h : b_X8_mostMoved_13 x1 x2 μ = some o) (F : gF p s m meth c cX8_mostMoved RX8 3 (some .int)) (E : gEnv l D cy ad base s) (kc : ∀ (t : Int32 × Int32) {H : Heap} {locs : List Loc} {ls : Array Slot}, o = .inl t → gW gFull D cy ad base μ H → va_S (gA base) s.heap H locs → lv_has ls 3 [(0, .ref (ad 60)), (1, .int t.1), (2, .int t.2)] → W p l e ({ frames := 6, cells := 0, slots := 0, locals := 136 } : Room) s m args below meth c H locs 0 0 (MQ below (gQ (some (.int RES.1)) gFull D cy ad base RES.2) args s 0 0 (gA base)) (F0 m 13 ls [])) (kx : ∀ (t : Int32) {H : Heap} {locs : List Loc} {ls : Array Slot}, o = .inr t → gW gFull D cy ad base μ H → va_S (gA base) s.heap H locs → lv_has ls 3 [(1, .int t)] → W p l e ({ frames := 6, cells := 0, slots := 0, locals := 136 } : Room) s m args below meth c H locs 0 0 (MQ below (gQ (some (.int RES.1)) gFull D cy ad base RES.2) args s 0 0 (gA base)) (F0 m 85 ls []))  {H : Heap} {locs : List Loc} {ls : Array Slot} (hM : gW gFull D cy ad base μ H) (hS : va_S (gA base) s.heap H locs) (hl : lv_has ls 3 [(0, .ref (ad 60)), (1, .int x1), (2, .int x2)]) : W p l e ({ frames := 6, cells := 0, slots := 0, locals := 136 } : Room) s m args below meth c H locs 0 0 (MQ below (gQ (some (.int RES.1)) gFull D cy ad base RES.2) args s 0 0 (gA base)) (F0 m 13 ls []) := by
  obtain ⟨hx, hb, hml, hown, hlocks, hr⟩ := id F
  unfold b_X8_mostMoved_13 at h
  refine lv_iload_n hx hb dX8_mostMoved_13 rfl (lv_at hl 2 rfl) ?_
  refine lv_aload_n hx hb dX8_mostMoved_14 rfl (lv_at hl 0 rfl) ?_
  refine lv_iconst (v := (1 : Int32)) hx hb dX8_mostMoved_15 (by decide) ?_
  obtain ⟨q2, hq2, h⟩ := gbind_e h
  refine g_callV (As := [.int (1 : Int32)]) (rest := [.int x2]) hx hb (hml.trans hl.1.symm) hown E hM hS hy_X8_count kw_1498 (c_X8_count hq2) hk_60 dd_60 rfl rfl rfl (Nat.le_of_ble_eq_true rfl) ⟨Nat.le_of_ble_eq_true rfl, Nat.le_of_ble_eq_true rfl⟩ ⟨Nat.le_of_ble_eq_true rfl, Nat.le_of_ble_eq_true rfl⟩ dX8_mostMoved_16 (fun H locs hM hS => ?_)
  refine lv_icmp_ge (tgt := 85) hx hb dX8_mostMoved_19 (by decide) (fun c3 => ?_) (fun c3 => ?_)
  · replace h := gif_t c3 h
    exact kx _ (Option.some.inj h).symm hM hS (lv_sub hl [1] rfl)
  · replace h := gif_f c3 h
    refine lv_aload_n hx hb dX8_mostMoved_22 rfl (lv_at hl 0 rfl) ?_
    refine lv_iload_n hx hb dX8_mostMoved_23 rfl (lv_at hl 2 rfl) ?_
    obtain ⟨q4, hq4, h⟩ := gbind_e h
    refine g_callV (As := [.int x2]) (rest := []) hx hb (hml.trans hl.1.symm) hown E hM hS hy_X8_adjusted kw_1857 (c_X8_adjusted hq4) hk_60 dd_60 rfl rfl rfl (Nat.le_of_ble_eq_true rfl) ⟨Nat.le_of_ble_eq_true rfl, Nat.le_of_ble_eq_true rfl⟩ ⟨Nat.le_of_ble_eq_true rfl, Nat.le_of_ble_eq_true rfl⟩ dX8_mostMoved_24 (fun H locs hM hS => ?_)
    refine lv_ldc2 hx hb hown (v := (-9223372036854775808 : Int64)) (E.kw kw_1835) dX8_mostMoved_27 ?_
    refine W.lcmp hx hb dX8_mostMoved_30 ?_
    refine lv_if_ne (tgt := 37) hx hb dX8_mostMoved_31 (by decide) (fun c5 => ?_) (fun c5 => ?_)
    · replace c5 := fun w => c5 ((lg_cmp_eq _ _).mpr w)
      replace h := gif_f c5 h
      refine lv_iload_n hx hb dX8_mostMoved_37 rfl (lv_at hl 1 rfl) ?_
      refine lv_if_lt (tgt := 77) hx hb dX8_mostMoved_38 (by decide) (fun c6 => ?_) (fun c6 => ?_)
      · replace h := gif_t c6 h
        refine lv_iload_n hx hb dX8_mostMoved_77 rfl (lv_at hl 2 rfl) ?_
        refine lv_istore_n (lv' := [(1, .int x2), (0, .ref (ad 60)), (2, .int x2)]) hx hb dX8_mostMoved_78 rfl hl (by decide) rfl (fun ls hl => ?_)
        refine lv_iinc (v := (x2 + (1 : Int32))) (lv' := [(2, .int (x2 + (1 : Int32))), (1, .int x2), (0, .ref (ad 60))]) hx hb dX8_mostMoved_79 hl (k := 2) rfl rfl (by decide) rfl (fun ls hl => ?_)
        refine lv_goto (tgt := 13) hx hb dX8_mostMoved_82 (by decide) ?_
        exact kc _ (Option.some.inj h).symm hM hS (lv_sub hl [2, 1, 0] rfl)
      · replace h := gif_f c6 h
        refine lv_aload_n hx hb dX8_mostMoved_41 rfl (lv_at hl 0 rfl) ?_
        refine gg_60_3 hx hb hown E hM hk_60 kw_1245 dX8_mostMoved_42 ?_
        refine lv_iload_n hx hb dX8_mostMoved_45 rfl (lv_at hl 2 rfl) ?_
        obtain ⟨c7, h⟩ := gchk_e h
        refine g_lald hx hb E hM hk_64 dd_64 c7 dX8_mostMoved_46 ?_
        refine lv_aload_n hx hb dX8_mostMoved_47 rfl (lv_at hl 0 rfl) ?_
        refine gg_60_35 hx hb hown E hM hk_60 kw_1277 dX8_mostMoved_48 ?_
        refine lv_iload_n hx hb dX8_mostMoved_51 rfl (lv_at hl 2 rfl) ?_
        obtain ⟨c8, h⟩ := gchk_e h
        refine g_lald hx hb E hM hk_76 dd_76 c8 dX8_mostMoved_52 ?_
        refine lv_lsub hx hb dX8_mostMoved_53 ?_
        obtain ⟨q9, hq9, h⟩ := gbind_e h
        refine g_callS (As := [.long ((gl μ 64 x2.toNatClampNeg) - (gl μ 76 x2.toNatClampNeg))]) (rest := []) hx hb (hml.trans hl.1.symm) hown E hM hS hy_X8_size kw_1644 (c_X8_size hq9) rfl rfl (Nat.le_of_ble_eq_true rfl) ⟨Nat.le_of_ble_eq_true rfl, Nat.le_of_ble_eq_true rfl⟩ ⟨Nat.le_of_ble_eq_true rfl, Nat.le_of_ble_eq_true rfl⟩ dX8_mostMoved_54 (fun H locs hM hS => ?_)
        refine lv_aload_n hx hb dX8_mostMoved_57 rfl (lv_at hl 0 rfl) ?_
        refine gg_60_3 hx hb hown E hM hk_60 kw_1245 dX8_mostMoved_58 ?_
        refine lv_iload_n hx hb dX8_mostMoved_61 rfl (lv_at hl 1 rfl) ?_
        obtain ⟨c10, h⟩ := gchk_e h
        refine g_lald hx hb E hM hk_64 dd_64 c10 dX8_mostMoved_62 ?_
        refine lv_aload_n hx hb dX8_mostMoved_63 rfl (lv_at hl 0 rfl) ?_
        refine gg_60_35 hx hb hown E hM hk_60 kw_1277 dX8_mostMoved_64 ?_
        refine lv_iload_n hx hb dX8_mostMoved_67 rfl (lv_at hl 1 rfl) ?_
        obtain ⟨c11, h⟩ := gchk_e h
        refine g_lald hx hb E hM hk_76 dd_76 c11 dX8_mostMoved_68 ?_
        refine lv_lsub hx hb dX8_mostMoved_69 ?_
        obtain ⟨q12, hq12, h⟩ := gbind_e h
        refine g_callS (As := [.long ((gl μ 64 x1.toNatClampNeg) - (gl μ 76 x1.toNatClampNeg))]) (rest := [.long q9]) hx hb (hml.trans hl.1.symm) hown E hM hS hy_X8_size kw_1644 (c_X8_size hq12) rfl rfl (Nat.le_of_ble_eq_true rfl) ⟨Nat.le_of_ble_eq_true rfl, Nat.le_of_ble_eq_true rfl⟩ ⟨Nat.le_of_ble_eq_true rfl, Nat.le_of_ble_eq_true rfl⟩ dX8_mostMoved_70 (fun H locs hM hS => ?_)
        refine W.lcmp hx hb dX8_mostMoved_73 ?_
        refine lv_if_le (tgt := 79) hx hb dX8_mostMoved_74 (by decide) (fun c13 => ?_) (fun c13 => ?_)
        · replace c13 := (lg_cmp_le _ _).mp c13
          replace h := gif_t c13 h
          refine lv_iinc (v := (x2 + (1 : Int32))) (lv' := [(2, .int (x2 + (1 : Int32))), (0, .ref (ad 60)), (1, .int x1)]) hx hb dX8_mostMoved_79 hl (k := 2) rfl rfl (by decide) rfl (fun ls hl => ?_)
          refine lv_goto (tgt := 13) hx hb dX8_mostMoved_82 (by decide) ?_
          exact kc _ (Option.some.inj h).symm hM hS (lv_sub hl [1, 2, 0] rfl)
        · replace c13 := fun w => c13 ((lg_cmp_le _ _).mpr w)
          replace h := gif_f c13 h
          refine lv_iload_n hx hb dX8_mostMoved_77 rfl (lv_at hl 2 rfl) ?_
          refine lv_istore_n (lv' := [(1, .int x2), (0, .ref (ad 60)), (2, .int x2)]) hx hb dX8_mostMoved_78 rfl hl (by decide) rfl (fun ls hl => ?_)
          refine lv_iinc (v := (x2 + (1 : Int32))) (lv' := [(2, .int (x2 + (1 : Int32))), (1, .int x2), (0, .ref (ad 60))]) hx hb dX8_mostMoved_79 hl (k := 2) rfl rfl (by decide) rfl (fun ls hl => ?_)
          refine lv_goto (tgt := 13) hx hb dX8_mostMoved_82 (by decide) ?_
          exact kc _ (Option.some.inj h).symm hM hS (lv_sub hl [2, 1, 0] rfl)
    · replace c5 := (lg_cmp_eq _ _).mp c5
      replace h := gif_t c5 h
      refine lv_goto (tgt := 79) hx hb dX8_mostMoved_34 (by decide) ?_
      refine lv_iinc (v := (x2 + (1 : Int32))) (lv' := [(2, .int (x2 + (1 : Int32))), (0, .ref (ad 60)), (1, .int x1)]) hx hb dX8_mostMoved_79 hl (k := 2) rfl rfl (by decide) rfl (fun ls hl => ?_)
      refine lv_goto (tgt := 13) hx hb dX8_mostMoved_82 (by decide) ?_
      exact kc _ (Option.some.inj h).symm hM hS (lv_sub hl [1, 2, 0] rfl)
set_option maxHeartbeats 4000000 in
theorem wl_X8_mostMoved_13 {p : Program} {l : Launch} {e : Env} {s : State} {m : MethodId} {args : Array Value} {below : List Frame} {meth : Method} {c : Code} {D : va_G} {cy : Nat → ClassId} {ad : Nat → Nat} {base : Nat}  {μ : gM} {r : Int32} {RES : Int32 × gM} (F : gF p s m meth c cX8_mostMoved RX8 3 (some .int)) (E : gEnv l D cy ad base s) (kx : ∀ (t : Int32) {H : Heap} {locs : List Loc} {ls : Array Slot}, r = t → gW gFull D cy ad base μ H → va_S (gA base) s.heap H locs → lv_has ls 3 [(1, .int t)] → W p l e ({ frames := 6, cells := 0, slots := 0, locals := 136 } : Room) s m args below meth c H locs 0 0 (MQ below (gQ (some (.int RES.1)) gFull D cy ad base RES.2) args s 0 0 (gA base)) (F0 m 85 ls []))  : ∀ (n : Nat) (x1 : Int32) (x2 : Int32), gloop (fun t => b_X8_mostMoved_13  t.1 t.2 μ) n (x1, x2) = some r → ∀ {H : Heap} {locs : List Loc} {ls : Array Slot}, gW gFull D cy ad base μ H → va_S (gA base) s.heap H locs → lv_has ls 3 [(0, .ref (ad 60)), (1, .int x1), (2, .int x2)] → W p l e ({ frames := 6, cells := 0, slots := 0, locals := 136 } : Room) s m args below meth c H locs 0 0 (MQ below (gQ (some (.int RES.1)) gFull D cy ad base RES.2) args s 0 0 (gA base)) (F0 m 13 ls []) := by
  intro n
  induction n with
  | zero =>
    intro x1 x2 h
    exact (gloop_0 h).elim
  | succ n ih =>
    intro x1 x2 h H locs ls hM hS hl
    obtain ⟨o, h0, hc, hq⟩ := gloop_s h
    have h1 : b_X8_mostMoved_13 x1 x2 μ = some o := h0
    exact wb_X8_mostMoved_13 h1 F E (fun t H locs ls ho hM hS hl => ih t.1 t.2 (hc t ho) hM hS hl) (fun t H locs ls ho hM hS hl => kx t (hq _ ho).symm hM hS hl) hM hS hl
def f_X8_mostMoved (μ : gM) : Option (Int32 × gM) :=
  Option.bind (f_X8_layProvisional  (si μ 60 6 (0 : Int32))) (fun q1 => Option.bind (gloop (fun t => b_X8_mostMoved_13  t.1 t.2 q1) gFuel ((-1 : Int32), (0 : Int32))) (fun q14 => some (q14, q1)))
set_option maxHeartbeats 4000000 in
set_option maxRecDepth 100000 in
theorem c_X8_mostMoved {l : Launch} {D : va_G} {cy : Nat → ClassId} {ad : Nat → Nat} {base : Nat}  {μ : gM} {RES : Int32 × gM} (h : f_X8_mostMoved  μ = some RES) : Met l yX8_mostMoved [.code yX8_mostMoved cX8_mostMoved 3 (some .int)] ({ frames := 6, cells := 0, slots := 0, locals := 136 } : Room) (va_Pc [.ref (ad 60)] (gB l gFull D cy ad base μ)) (gQ (some (.int RES.1)) gFull D cy ad base RES.2) 0 0 (gA base) := by
  refine Met.ofW (cc := cX8_mostMoved) (maxL := 3) (ret := (some .int)) (by decide) rfl ?_
  intro p e s m args below meth c s₁ B hml0 hv
  obtain ⟨rfl, E, hM⟩ := hv
  have F : gF p s m meth c cX8_mostMoved RX8 3 (some .int) := gF_of B hml0
  obtain ⟨hx, hb, hml, hown, hlocks, hr⟩ := id F
  have hS : va_S (gA base) s.heap s.heap [] := va_S.rf
  have hl := lv_entry ([.ref (ad 60)]) (n := 3) (Nat.le_of_ble_eq_true rfl)
  rw [lg_entry_eq]
  generalize (lg_sl ([.ref (ad 60)]) ++ List.replicate (3 - (lg_sl ([.ref (ad 60)])).length) Slot.unset).toArray = ls at hl ⊢
  have hl : lv_has ls 3 [(0, .ref (ad 60))] := hl
  unfold f_X8_mostMoved at h
  refine lv_aload_n hx hb dX8_mostMoved_0 rfl (lv_at hl 0 rfl) ?_
  refine lv_iconst (v := (0 : Int32)) hx hb dX8_mostMoved_1 (by decide) ?_
  refine gp_60_6 hx hb hown E hM hS hk_60 kw_1248 dX8_mostMoved_2 (fun H locs hM hS => ?_)
  refine lv_aload_n hx hb dX8_mostMoved_5 rfl (lv_at hl 0 rfl) ?_
  obtain ⟨q1, hq1, h⟩ := gbind_e h
  refine g_callV (As := []) (rest := []) hx hb (hml.trans hl.1.symm) hown E hM hS hy_X8_layProvisional kw_1831 (c_X8_layProvisional hq1) hk_60 dd_60 rfl rfl rfl (Nat.le_of_ble_eq_true rfl) ⟨Nat.le_of_ble_eq_true rfl, Nat.le_of_ble_eq_true rfl⟩ ⟨Nat.le_of_ble_eq_true rfl, Nat.le_of_ble_eq_true rfl⟩ dX8_mostMoved_6 (fun H locs hM hS => ?_)
  refine lv_iconst (v := (-1 : Int32)) hx hb dX8_mostMoved_9 (by decide) ?_
  refine lv_istore_n (lv' := [(1, .int (-1 : Int32)), (0, .ref (ad 60))]) hx hb dX8_mostMoved_10 rfl hl (by decide) rfl (fun ls hl => ?_)
  refine lv_iconst (v := (0 : Int32)) hx hb dX8_mostMoved_11 (by decide) ?_
  refine lv_istore_n (lv' := [(2, .int (0 : Int32)), (1, .int (-1 : Int32)), (0, .ref (ad 60))]) hx hb dX8_mostMoved_12 rfl hl (by decide) rfl (fun ls hl => ?_)
  obtain ⟨z15, h1, h⟩ := gbind_e h
  refine wl_X8_mostMoved_13 F E (r := z15) (fun q14 H locs ls e1 hM hS hl => ?_) gFuel (-1 : Int32) (0 : Int32) h1 hM hS (lv_sub hl [2, 1, 0] rfl)
  replace e1 : z15 = q14 := e1
  rw [e1] at h
  refine lv_iload_n hx hb dX8_mostMoved_85 rfl (lv_at hl 0 rfl) ?_
  obtain rfl := Option.some.inj h
  exact g_iret hx hb hr hlocks hM hS dX8_mostMoved_86
def b_X8_residualSum_9 (x1 : Int64) (x3 : Int32) (μ : gM) : Option ((Int64 × Int32) ⊕ (Int64)) :=
  Option.bind (f_X8_count (2 : Int32) μ) (fun q1 => if (q1 ≤ x3) then some (.inr x1) else Option.bind (f_X8_hasResidual x3 μ) (fun q3 => if ((b2i q3) = 0) then some (.inl ((x1 + (0 : Int64)), (x3 + (1 : Int32)))) else Option.bind (f_X8_weight x3 μ) (fun q5 => Option.bind (f_X8_residualOf x3 μ) (fun q6 => Option.bind (f_X8_size q6 μ) (fun q7 => some (.inl ((x1 + (q5.toInt64 * q7)), (x3 + (1 : Int32)))))))))
set_option maxHeartbeats 4000000 in
set_option maxRecDepth 100000 in
theorem wb_X8_residualSum_9 {p : Program} {l : Launch} {e : Env} {s : State} {m : MethodId} {args : Array Value} {below : List Frame} {meth : Method} {c : Code} {D : va_G} {cy : Nat → ClassId} {ad : Nat → Nat} {base : Nat} {x1 : Int64} {x3 : Int32} {μ : gM} {o : (Int64 × Int32) ⊕ (Int64)} {RES : Int64 × gM} (h : b_X8_residualSum_9 x1 x3 μ = some o) (F : gF p s m meth c cX8_residualSum RX8 4 (some .long)) (E : gEnv l D cy ad base s) (kc : ∀ (t : Int64 × Int32) {H : Heap} {locs : List Loc} {ls : Array Slot}, o = .inl t → gW gFull D cy ad base μ H → va_S (gA base) s.heap H locs → lv_has ls 4 [(0, .ref (ad 60)), (1, .long t.1), (3, .int t.2)] → W p l e ({ frames := 5, cells := 0, slots := 0, locals := 111 } : Room) s m args below meth c H locs 0 0 (MQ below (gQ (some (.long RES.1)) gFull D cy ad base RES.2) args s 0 0 (gA base)) (F0 m 9 ls [])) (kx : ∀ (t : Int64) {H : Heap} {locs : List Loc} {ls : Array Slot}, o = .inr t → gW gFull D cy ad base μ H → va_S (gA base) s.heap H locs → lv_has ls 4 [(1, .long t)] → W p l e ({ frames := 5, cells := 0, slots := 0, locals := 111 } : Room) s m args below meth c H locs 0 0 (MQ below (gQ (some (.long RES.1)) gFull D cy ad base RES.2) args s 0 0 (gA base)) (F0 m 54 ls []))  {H : Heap} {locs : List Loc} {ls : Array Slot} (hM : gW gFull D cy ad base μ H) (hS : va_S (gA base) s.heap H locs) (hl : lv_has ls 4 [(0, .ref (ad 60)), (1, .long x1), (3, .int x3)]) : W p l e ({ frames := 5, cells := 0, slots := 0, locals := 111 } : Room) s m args below meth c H locs 0 0 (MQ below (gQ (some (.long RES.1)) gFull D cy ad base RES.2) args s 0 0 (gA base)) (F0 m 9 ls []) := by
  obtain ⟨hx, hb, hml, hown, hlocks, hr⟩ := id F
  unfold b_X8_residualSum_9 at h
  refine lv_iload_n hx hb dX8_residualSum_9 rfl (lv_at hl 2 rfl) ?_
  refine lv_aload_n hx hb dX8_residualSum_10 rfl (lv_at hl 0 rfl) ?_
  refine lv_iconst (v := (2 : Int32)) hx hb dX8_residualSum_11 (by decide) ?_
  obtain ⟨q1, hq1, h⟩ := gbind_e h
  refine g_callV (As := [.int (2 : Int32)]) (rest := [.int x3]) hx hb (hml.trans hl.1.symm) hown E hM hS hy_X8_count kw_1498 (c_X8_count hq1) hk_60 dd_60 rfl rfl rfl (Nat.le_of_ble_eq_true rfl) ⟨Nat.le_of_ble_eq_true rfl, Nat.le_of_ble_eq_true rfl⟩ ⟨Nat.le_of_ble_eq_true rfl, Nat.le_of_ble_eq_true rfl⟩ dX8_residualSum_12 (fun H locs hM hS => ?_)
  refine lv_icmp_ge (tgt := 54) hx hb dX8_residualSum_15 (by decide) (fun c2 => ?_) (fun c2 => ?_)
  · replace h := gif_t c2 h
    exact kx _ (Option.some.inj h).symm hM hS (lv_sub hl [1] rfl)
  · replace h := gif_f c2 h
    refine lv_lload_n hx hb dX8_residualSum_18 rfl (lv_at hl 1 rfl) ?_
    refine lv_aload_n hx hb dX8_residualSum_19 rfl (lv_at hl 0 rfl) ?_
    refine lv_iload_n hx hb dX8_residualSum_20 rfl (lv_at hl 2 rfl) ?_
    obtain ⟨q3, hq3, h⟩ := gbind_e h
    refine g_callV (As := [.int x3]) (rest := [.long x1]) hx hb (hml.trans hl.1.symm) hown E hM hS hy_X8_hasResidual kw_1884 (c_X8_hasResidual hq3) hk_60 dd_60 rfl rfl rfl (Nat.le_of_ble_eq_true rfl) ⟨Nat.le_of_ble_eq_true rfl, Nat.le_of_ble_eq_true rfl⟩ ⟨Nat.le_of_ble_eq_true rfl, Nat.le_of_ble_eq_true rfl⟩ dX8_residualSum_21 (fun H locs hM hS => ?_)
    refine lv_if_eq (tgt := 45) hx hb dX8_residualSum_24 (by decide) (fun c4 => ?_) (fun c4 => ?_)
    · replace h := gif_t c4 h
      refine lv_lconst (v := (0 : Int64)) hx hb dX8_residualSum_45 (by decide) ?_
      refine lv_ladd hx hb dX8_residualSum_46 ?_
      refine lv_lstore_n (lv' := [(1, .long (x1 + (0 : Int64))), (0, .ref (ad 60)), (3, .int x3)]) hx hb dX8_residualSum_47 rfl hl (by decide) rfl (fun ls hl => ?_)
      refine lv_iinc (v := (x3 + (1 : Int32))) (lv' := [(3, .int (x3 + (1 : Int32))), (1, .long (x1 + (0 : Int64))), (0, .ref (ad 60))]) hx hb dX8_residualSum_48 hl (k := 2) rfl rfl (by decide) rfl (fun ls hl => ?_)
      refine lv_goto (tgt := 9) hx hb dX8_residualSum_51 (by decide) ?_
      exact kc _ (Option.some.inj h).symm hM hS (lv_sub hl [2, 1, 0] rfl)
    · replace h := gif_f c4 h
      refine lv_aload_n hx hb dX8_residualSum_27 rfl (lv_at hl 0 rfl) ?_
      refine lv_iload_n hx hb dX8_residualSum_28 rfl (lv_at hl 2 rfl) ?_
      obtain ⟨q5, hq5, h⟩ := gbind_e h
      refine g_callV (As := [.int x3]) (rest := [.long x1]) hx hb (hml.trans hl.1.symm) hown E hM hS hy_X8_weight kw_1599 (c_X8_weight hq5) hk_60 dd_60 rfl rfl rfl (Nat.le_of_ble_eq_true rfl) ⟨Nat.le_of_ble_eq_true rfl, Nat.le_of_ble_eq_true rfl⟩ ⟨Nat.le_of_ble_eq_true rfl, Nat.le_of_ble_eq_true rfl⟩ dX8_residualSum_29 (fun H locs hM hS => ?_)
      refine lv_i2l (v := q5.toInt64) hx hb dX8_residualSum_32 rfl ?_
      refine lv_aload_n hx hb dX8_residualSum_33 rfl (lv_at hl 0 rfl) ?_
      refine lv_iload_n hx hb dX8_residualSum_34 rfl (lv_at hl 2 rfl) ?_
      obtain ⟨q6, hq6, h⟩ := gbind_e h
      refine g_callV (As := [.int x3]) (rest := [.long q5.toInt64, .long x1]) hx hb (hml.trans hl.1.symm) hown E hM hS hy_X8_residualOf kw_1888 (c_X8_residualOf hq6) hk_60 dd_60 rfl rfl rfl (Nat.le_of_ble_eq_true rfl) ⟨Nat.le_of_ble_eq_true rfl, Nat.le_of_ble_eq_true rfl⟩ ⟨Nat.le_of_ble_eq_true rfl, Nat.le_of_ble_eq_true rfl⟩ dX8_residualSum_35 (fun H locs hM hS => ?_)
      obtain ⟨q7, hq7, h⟩ := gbind_e h
      refine g_callS (As := [.long q6]) (rest := [.long q5.toInt64, .long x1]) hx hb (hml.trans hl.1.symm) hown E hM hS hy_X8_size kw_1644 (c_X8_size hq7) rfl rfl (Nat.le_of_ble_eq_true rfl) ⟨Nat.le_of_ble_eq_true rfl, Nat.le_of_ble_eq_true rfl⟩ ⟨Nat.le_of_ble_eq_true rfl, Nat.le_of_ble_eq_true rfl⟩ dX8_residualSum_38 (fun H locs hM hS => ?_)
      refine lv_lmul hx hb dX8_residualSum_41 ?_
      refine lv_goto (tgt := 46) hx hb dX8_residualSum_42 (by decide) ?_
      refine lv_ladd hx hb dX8_residualSum_46 ?_
      refine lv_lstore_n (lv' := [(1, .long (x1 + (q5.toInt64 * q7))), (0, .ref (ad 60)), (3, .int x3)]) hx hb dX8_residualSum_47 rfl hl (by decide) rfl (fun ls hl => ?_)
      refine lv_iinc (v := (x3 + (1 : Int32))) (lv' := [(3, .int (x3 + (1 : Int32))), (1, .long (x1 + (q5.toInt64 * q7))), (0, .ref (ad 60))]) hx hb dX8_residualSum_48 hl (k := 2) rfl rfl (by decide) rfl (fun ls hl => ?_)
      refine lv_goto (tgt := 9) hx hb dX8_residualSum_51 (by decide) ?_
      exact kc _ (Option.some.inj h).symm hM hS (lv_sub hl [2, 1, 0] rfl)
set_option maxHeartbeats 4000000 in
theorem wl_X8_residualSum_9 {p : Program} {l : Launch} {e : Env} {s : State} {m : MethodId} {args : Array Value} {below : List Frame} {meth : Method} {c : Code} {D : va_G} {cy : Nat → ClassId} {ad : Nat → Nat} {base : Nat}  {μ : gM} {r : Int64} {RES : Int64 × gM} (F : gF p s m meth c cX8_residualSum RX8 4 (some .long)) (E : gEnv l D cy ad base s) (kx : ∀ (t : Int64) {H : Heap} {locs : List Loc} {ls : Array Slot}, r = t → gW gFull D cy ad base μ H → va_S (gA base) s.heap H locs → lv_has ls 4 [(1, .long t)] → W p l e ({ frames := 5, cells := 0, slots := 0, locals := 111 } : Room) s m args below meth c H locs 0 0 (MQ below (gQ (some (.long RES.1)) gFull D cy ad base RES.2) args s 0 0 (gA base)) (F0 m 54 ls []))  : ∀ (n : Nat) (x1 : Int64) (x3 : Int32), gloop (fun t => b_X8_residualSum_9  t.1 t.2 μ) n (x1, x3) = some r → ∀ {H : Heap} {locs : List Loc} {ls : Array Slot}, gW gFull D cy ad base μ H → va_S (gA base) s.heap H locs → lv_has ls 4 [(0, .ref (ad 60)), (1, .long x1), (3, .int x3)] → W p l e ({ frames := 5, cells := 0, slots := 0, locals := 111 } : Room) s m args below meth c H locs 0 0 (MQ below (gQ (some (.long RES.1)) gFull D cy ad base RES.2) args s 0 0 (gA base)) (F0 m 9 ls []) := by
  intro n
  induction n with
  | zero =>
    intro x1 x3 h
    exact (gloop_0 h).elim
  | succ n ih =>
    intro x1 x3 h H locs ls hM hS hl
    obtain ⟨o, h0, hc, hq⟩ := gloop_s h
    have h1 : b_X8_residualSum_9 x1 x3 μ = some o := h0
    exact wb_X8_residualSum_9 h1 F E (fun t H locs ls ho hM hS hl => ih t.1 t.2 (hc t ho) hM hS hl) (fun t H locs ls ho hM hS hl => kx t (hq _ ho).symm hM hS hl) hM hS hl
def f_X8_residualSum (μ : gM) : Option (Int64 × gM) :=
  Option.bind (gloop (fun t => b_X8_residualSum_9  t.1 t.2 (si μ 60 6 (0 : Int32))) gFuel ((0 : Int64), (0 : Int32))) (fun q8 => some (q8, (si μ 60 6 (0 : Int32))))
set_option maxHeartbeats 4000000 in
set_option maxRecDepth 100000 in
theorem c_X8_residualSum {l : Launch} {D : va_G} {cy : Nat → ClassId} {ad : Nat → Nat} {base : Nat}  {μ : gM} {RES : Int64 × gM} (h : f_X8_residualSum  μ = some RES) : Met l yX8_residualSum [.code yX8_residualSum cX8_residualSum 4 (some .long)] ({ frames := 5, cells := 0, slots := 0, locals := 111 } : Room) (va_Pc [.ref (ad 60)] (gB l gFull D cy ad base μ)) (gQ (some (.long RES.1)) gFull D cy ad base RES.2) 0 0 (gA base) := by
  refine Met.ofW (cc := cX8_residualSum) (maxL := 4) (ret := (some .long)) (by decide) rfl ?_
  intro p e s m args below meth c s₁ B hml0 hv
  obtain ⟨rfl, E, hM⟩ := hv
  have F : gF p s m meth c cX8_residualSum RX8 4 (some .long) := gF_of B hml0
  obtain ⟨hx, hb, hml, hown, hlocks, hr⟩ := id F
  have hS : va_S (gA base) s.heap s.heap [] := va_S.rf
  have hl := lv_entry ([.ref (ad 60)]) (n := 4) (Nat.le_of_ble_eq_true rfl)
  rw [lg_entry_eq]
  generalize (lg_sl ([.ref (ad 60)]) ++ List.replicate (4 - (lg_sl ([.ref (ad 60)])).length) Slot.unset).toArray = ls at hl ⊢
  have hl : lv_has ls 4 [(0, .ref (ad 60))] := hl
  unfold f_X8_residualSum at h
  refine lv_aload_n hx hb dX8_residualSum_0 rfl (lv_at hl 0 rfl) ?_
  refine lv_iconst (v := (0 : Int32)) hx hb dX8_residualSum_1 (by decide) ?_
  refine gp_60_6 hx hb hown E hM hS hk_60 kw_1248 dX8_residualSum_2 (fun H locs hM hS => ?_)
  refine lv_lconst (v := (0 : Int64)) hx hb dX8_residualSum_5 (by decide) ?_
  refine lv_lstore_n (lv' := [(1, .long (0 : Int64)), (0, .ref (ad 60))]) hx hb dX8_residualSum_6 rfl hl (by decide) rfl (fun ls hl => ?_)
  refine lv_iconst (v := (0 : Int32)) hx hb dX8_residualSum_7 (by decide) ?_
  refine lv_istore_n (lv' := [(3, .int (0 : Int32)), (1, .long (0 : Int64)), (0, .ref (ad 60))]) hx hb dX8_residualSum_8 rfl hl (by decide) rfl (fun ls hl => ?_)
  obtain ⟨z9, h1, h⟩ := gbind_e h
  refine wl_X8_residualSum_9 F E (r := z9) (fun q8 H locs ls e1 hM hS hl => ?_) gFuel (0 : Int64) (0 : Int32) h1 hM hS (lv_sub hl [2, 1, 0] rfl)
  replace e1 : z9 = q8 := e1
  rw [e1] at h
  refine lv_lload_n hx hb dX8_residualSum_54 rfl (lv_at hl 0 rfl) ?_
  obtain rfl := Option.some.inj h
  exact g_lret hx hb hr hlocks hM hS dX8_residualSum_55
def b_X8_heldMany_4 (x1 : Int32) (x2 : Int32) (μ : gM) : Option ((Int32 × Int32) ⊕ (Int32)) :=
  if ((16 : Int32) ≤ x2) then some (.inr x1) else gchk (gIn ((6 : Int32) + x2) 703) (if ((gi μ 61 ((6 : Int32) + x2).toNatClampNeg) < 0) then some (.inl ((x1 + (0 : Int32)), (x2 + (1 : Int32)))) else some (.inl ((x1 + (1 : Int32)), (x2 + (1 : Int32)))))
set_option maxHeartbeats 4000000 in
set_option maxRecDepth 100000 in
theorem wb_X8_heldMany_4 {p : Program} {l : Launch} {e : Env} {s : State} {m : MethodId} {args : Array Value} {below : List Frame} {meth : Method} {c : Code} {D : va_G} {cy : Nat → ClassId} {ad : Nat → Nat} {base : Nat} {x1 : Int32} {x2 : Int32} {μ : gM} {o : (Int32 × Int32) ⊕ (Int32)} {RES : Int32} (h : b_X8_heldMany_4 x1 x2 μ = some o) (F : gF p s m meth c cX8_heldMany RX8 3 (some .int)) (E : gEnv l D cy ad base s) (kc : ∀ (t : Int32 × Int32) {H : Heap} {locs : List Loc} {ls : Array Slot}, o = .inl t → gW gFull D cy ad base μ H → va_S (gA base) s.heap H locs → lv_has ls 3 [(0, .ref (ad 60)), (1, .int t.1), (2, .int t.2)] → W p l e ({ frames := 0, cells := 0, slots := 0, locals := 0 } : Room) s m args below meth c H locs 0 0 (MQ below (gQ (some (.int RES)) gFull D cy ad base μ) args s 0 0 (gA base)) (F0 m 4 ls [])) (kx : ∀ (t : Int32) {H : Heap} {locs : List Loc} {ls : Array Slot}, o = .inr t → gW gFull D cy ad base μ H → va_S (gA base) s.heap H locs → lv_has ls 3 [(1, .int t)] → W p l e ({ frames := 0, cells := 0, slots := 0, locals := 0 } : Room) s m args below meth c H locs 0 0 (MQ below (gQ (some (.int RES)) gFull D cy ad base μ) args s 0 0 (gA base)) (F0 m 36 ls []))  {H : Heap} {locs : List Loc} {ls : Array Slot} (hM : gW gFull D cy ad base μ H) (hS : va_S (gA base) s.heap H locs) (hl : lv_has ls 3 [(0, .ref (ad 60)), (1, .int x1), (2, .int x2)]) : W p l e ({ frames := 0, cells := 0, slots := 0, locals := 0 } : Room) s m args below meth c H locs 0 0 (MQ below (gQ (some (.int RES)) gFull D cy ad base μ) args s 0 0 (gA base)) (F0 m 4 ls []) := by
  obtain ⟨hx, hb, hml, hown, hlocks, hr⟩ := id F
  unfold b_X8_heldMany_4 at h
  refine lv_iload_n hx hb dX8_heldMany_4 rfl (lv_at hl 2 rfl) ?_
  refine lv_bipush (v := (16 : Int32)) hx hb dX8_heldMany_5 (by decide) ?_
  refine lv_icmp_ge (tgt := 36) hx hb dX8_heldMany_7 (by decide) (fun c1 => ?_) (fun c1 => ?_)
  · replace h := gif_t c1 h
    exact kx _ (Option.some.inj h).symm hM hS (lv_sub hl [1] rfl)
  · replace h := gif_f c1 h
    refine lv_iload_n hx hb dX8_heldMany_10 rfl (lv_at hl 1 rfl) ?_
    refine lv_aload_n hx hb dX8_heldMany_11 rfl (lv_at hl 0 rfl) ?_
    refine gg_60_0 hx hb hown E hM hk_60 kw_1242 dX8_heldMany_12 ?_
    refine lv_bipush (v := (6 : Int32)) hx hb dX8_heldMany_15 (by decide) ?_
    refine lv_iload_n hx hb dX8_heldMany_17 rfl (lv_at hl 2 rfl) ?_
    refine lv_iadd hx hb dX8_heldMany_18 ?_
    obtain ⟨c2, h⟩ := gchk_e h
    refine g_iald hx hb E hM hk_61 dd_61 c2 dX8_heldMany_19 ?_
    refine lv_if_lt (tgt := 27) hx hb dX8_heldMany_20 (by decide) (fun c3 => ?_) (fun c3 => ?_)
    · replace h := gif_t c3 h
      refine lv_iconst (v := (0 : Int32)) hx hb dX8_heldMany_27 (by decide) ?_
      refine lv_iadd hx hb dX8_heldMany_28 ?_
      refine lv_istore_n (lv' := [(1, .int (x1 + (0 : Int32))), (0, .ref (ad 60)), (2, .int x2)]) hx hb dX8_heldMany_29 rfl hl (by decide) rfl (fun ls hl => ?_)
      refine lv_iinc (v := (x2 + (1 : Int32))) (lv' := [(2, .int (x2 + (1 : Int32))), (1, .int (x1 + (0 : Int32))), (0, .ref (ad 60))]) hx hb dX8_heldMany_30 hl (k := 2) rfl rfl (by decide) rfl (fun ls hl => ?_)
      refine lv_goto (tgt := 4) hx hb dX8_heldMany_33 (by decide) ?_
      exact kc _ (Option.some.inj h).symm hM hS (lv_sub hl [2, 1, 0] rfl)
    · replace h := gif_f c3 h
      refine lv_iconst (v := (1 : Int32)) hx hb dX8_heldMany_23 (by decide) ?_
      refine lv_goto (tgt := 28) hx hb dX8_heldMany_24 (by decide) ?_
      refine lv_iadd hx hb dX8_heldMany_28 ?_
      refine lv_istore_n (lv' := [(1, .int (x1 + (1 : Int32))), (0, .ref (ad 60)), (2, .int x2)]) hx hb dX8_heldMany_29 rfl hl (by decide) rfl (fun ls hl => ?_)
      refine lv_iinc (v := (x2 + (1 : Int32))) (lv' := [(2, .int (x2 + (1 : Int32))), (1, .int (x1 + (1 : Int32))), (0, .ref (ad 60))]) hx hb dX8_heldMany_30 hl (k := 2) rfl rfl (by decide) rfl (fun ls hl => ?_)
      refine lv_goto (tgt := 4) hx hb dX8_heldMany_33 (by decide) ?_
      exact kc _ (Option.some.inj h).symm hM hS (lv_sub hl [2, 1, 0] rfl)
set_option maxHeartbeats 4000000 in
theorem wl_X8_heldMany_4 {p : Program} {l : Launch} {e : Env} {s : State} {m : MethodId} {args : Array Value} {below : List Frame} {meth : Method} {c : Code} {D : va_G} {cy : Nat → ClassId} {ad : Nat → Nat} {base : Nat}  {μ : gM} {r : Int32} {RES : Int32} (F : gF p s m meth c cX8_heldMany RX8 3 (some .int)) (E : gEnv l D cy ad base s) (kx : ∀ (t : Int32) {H : Heap} {locs : List Loc} {ls : Array Slot}, r = t → gW gFull D cy ad base μ H → va_S (gA base) s.heap H locs → lv_has ls 3 [(1, .int t)] → W p l e ({ frames := 0, cells := 0, slots := 0, locals := 0 } : Room) s m args below meth c H locs 0 0 (MQ below (gQ (some (.int RES)) gFull D cy ad base μ) args s 0 0 (gA base)) (F0 m 36 ls []))  : ∀ (n : Nat) (x1 : Int32) (x2 : Int32), gloop (fun t => b_X8_heldMany_4  t.1 t.2 μ) n (x1, x2) = some r → ∀ {H : Heap} {locs : List Loc} {ls : Array Slot}, gW gFull D cy ad base μ H → va_S (gA base) s.heap H locs → lv_has ls 3 [(0, .ref (ad 60)), (1, .int x1), (2, .int x2)] → W p l e ({ frames := 0, cells := 0, slots := 0, locals := 0 } : Room) s m args below meth c H locs 0 0 (MQ below (gQ (some (.int RES)) gFull D cy ad base μ) args s 0 0 (gA base)) (F0 m 4 ls []) := by
  intro n
  induction n with
  | zero =>
    intro x1 x2 h
    exact (gloop_0 h).elim
  | succ n ih =>
    intro x1 x2 h H locs ls hM hS hl
    obtain ⟨o, h0, hc, hq⟩ := gloop_s h
    have h1 : b_X8_heldMany_4 x1 x2 μ = some o := h0
    exact wb_X8_heldMany_4 h1 F E (fun t H locs ls ho hM hS hl => ih t.1 t.2 (hc t ho) hM hS hl) (fun t H locs ls ho hM hS hl => kx t (hq _ ho).symm hM hS hl) hM hS hl
def f_X8_heldMany (μ : gM) : Option (Int32) :=
  Option.bind (gloop (fun t => b_X8_heldMany_4  t.1 t.2 μ) gFuel ((0 : Int32), (0 : Int32))) (fun q4 => some q4)
set_option maxHeartbeats 4000000 in
set_option maxRecDepth 100000 in
theorem c_X8_heldMany {l : Launch} {D : va_G} {cy : Nat → ClassId} {ad : Nat → Nat} {base : Nat}  {μ : gM} {RES : Int32} (h : f_X8_heldMany  μ = some RES) : Met l yX8_heldMany [.code yX8_heldMany cX8_heldMany 3 (some .int)] ({ frames := 0, cells := 0, slots := 0, locals := 0 } : Room) (va_Pc [.ref (ad 60)] (gB l gFull D cy ad base μ)) (gQ (some (.int RES)) gFull D cy ad base μ) 0 0 (gA base) := by
  refine Met.ofW (cc := cX8_heldMany) (maxL := 3) (ret := (some .int)) (by decide) rfl ?_
  intro p e s m args below meth c s₁ B hml0 hv
  obtain ⟨rfl, E, hM⟩ := hv
  have F : gF p s m meth c cX8_heldMany RX8 3 (some .int) := gF_of B hml0
  obtain ⟨hx, hb, hml, hown, hlocks, hr⟩ := id F
  have hS : va_S (gA base) s.heap s.heap [] := va_S.rf
  have hl := lv_entry ([.ref (ad 60)]) (n := 3) (Nat.le_of_ble_eq_true rfl)
  rw [lg_entry_eq]
  generalize (lg_sl ([.ref (ad 60)]) ++ List.replicate (3 - (lg_sl ([.ref (ad 60)])).length) Slot.unset).toArray = ls at hl ⊢
  have hl : lv_has ls 3 [(0, .ref (ad 60))] := hl
  unfold f_X8_heldMany at h
  refine lv_iconst (v := (0 : Int32)) hx hb dX8_heldMany_0 (by decide) ?_
  refine lv_istore_n (lv' := [(1, .int (0 : Int32)), (0, .ref (ad 60))]) hx hb dX8_heldMany_1 rfl hl (by decide) rfl (fun ls hl => ?_)
  refine lv_iconst (v := (0 : Int32)) hx hb dX8_heldMany_2 (by decide) ?_
  refine lv_istore_n (lv' := [(2, .int (0 : Int32)), (1, .int (0 : Int32)), (0, .ref (ad 60))]) hx hb dX8_heldMany_3 rfl hl (by decide) rfl (fun ls hl => ?_)
  obtain ⟨z5, h1, h⟩ := gbind_e h
  refine wl_X8_heldMany_4 F E (r := z5) (fun q4 H locs ls e1 hM hS hl => ?_) gFuel (0 : Int32) (0 : Int32) h1 hM hS (lv_sub hl [2, 1, 0] rfl)
  replace e1 : z5 = q4 := e1
  rw [e1] at h
  refine lv_iload_n hx hb dX8_heldMany_36 rfl (lv_at hl 0 rfl) ?_
  obtain rfl := Option.some.inj h
  exact g_iret hx hb hr hlocks hM hS dX8_heldMany_37
def f_X8_hold (p1 : Int32) (p2 : Int32) (μ : gM) : Option (Int32 × gM) :=
  Option.bind (f_X8_isPoint p1 (si μ 60 6 (0 : Int32))) (fun q1 => if ((b2i q1) = 0) then some ((-1 : Int32), (si μ 60 6 (0 : Int32))) else Option.bind (f_X8_inRange p2 (0 : Int32) (9999999 : Int32) (si μ 60 6 (0 : Int32))) (fun q3 => if ((b2i q3) = 0) then some ((-2 : Int32), (si μ 60 6 (0 : Int32))) else Option.bind (f_X8_changes  (si μ 60 6 (0 : Int32))) (fun q5 => gchk (gIn ((6 : Int32) + p1) 703) (Option.bind (f_X8_heldMany  (si q5 61 ((6 : Int32) + p1).toNatClampNeg p2)) (fun q7 => some (q7, (si q5 61 ((6 : Int32) + p1).toNatClampNeg p2)))))))
set_option maxHeartbeats 4000000 in
set_option maxRecDepth 100000 in
theorem c_X8_hold {l : Launch} {D : va_G} {cy : Nat → ClassId} {ad : Nat → Nat} {base : Nat} {p1 : Int32} {p2 : Int32} {μ : gM} {RES : Int32 × gM} (h : f_X8_hold p1 p2 μ = some RES) : Met l yX8_hold [.code yX8_hold cX8_hold 3 (some .int)] ({ frames := 2, cells := 0, slots := 0, locals := 43 } : Room) (va_Pc [.ref (ad 60), .int p1, .int p2] (gB l gFull D cy ad base μ)) (gQ (some (.int RES.1)) gFull D cy ad base RES.2) 0 0 (gA base) := by
  refine Met.ofW (cc := cX8_hold) (maxL := 3) (ret := (some .int)) (by decide) rfl ?_
  intro p e s m args below meth c s₁ B hml0 hv
  obtain ⟨rfl, E, hM⟩ := hv
  have F : gF p s m meth c cX8_hold RX8 3 (some .int) := gF_of B hml0
  obtain ⟨hx, hb, hml, hown, hlocks, hr⟩ := id F
  have hS : va_S (gA base) s.heap s.heap [] := va_S.rf
  have hl := lv_entry ([.ref (ad 60), .int p1, .int p2]) (n := 3) (Nat.le_of_ble_eq_true rfl)
  rw [lg_entry_eq]
  generalize (lg_sl ([.ref (ad 60), .int p1, .int p2]) ++ List.replicate (3 - (lg_sl ([.ref (ad 60), .int p1, .int p2])).length) Slot.unset).toArray = ls at hl ⊢
  have hl : lv_has ls 3 [(0, .ref (ad 60)), (1, .int p1), (2, .int p2)] := hl
  unfold f_X8_hold at h
  refine lv_aload_n hx hb dX8_hold_0 rfl (lv_at hl 0 rfl) ?_
  refine lv_iconst (v := (0 : Int32)) hx hb dX8_hold_1 (by decide) ?_
  refine gp_60_6 hx hb hown E hM hS hk_60 kw_1248 dX8_hold_2 (fun H locs hM hS => ?_)
  refine lv_aload_n hx hb dX8_hold_5 rfl (lv_at hl 0 rfl) ?_
  refine lv_iload_n hx hb dX8_hold_6 rfl (lv_at hl 1 rfl) ?_
  obtain ⟨q1, hq1, h⟩ := gbind_e h
  refine g_callV (As := [.int p1]) (rest := []) hx hb (hml.trans hl.1.symm) hown E hM hS hy_X8_isPoint kw_1563 (c_X8_isPoint hq1) hk_60 dd_60 rfl rfl rfl (Nat.le_of_ble_eq_true rfl) ⟨Nat.le_of_ble_eq_true rfl, Nat.le_of_ble_eq_true rfl⟩ ⟨Nat.le_of_ble_eq_true rfl, Nat.le_of_ble_eq_true rfl⟩ dX8_hold_7 (fun H locs hM hS => ?_)
  refine lv_if_ne (tgt := 15) hx hb dX8_hold_10 (by decide) (fun c2 => ?_) (fun c2 => ?_)
  · replace h := gif_f c2 h
    refine lv_iload_n hx hb dX8_hold_15 rfl (lv_at hl 2 rfl) ?_
    refine lv_iconst (v := (0 : Int32)) hx hb dX8_hold_16 (by decide) ?_
    refine lv_ldc hx hb hown (v := (9999999 : Int32)) (E.kw kw_1446) dX8_hold_17 ?_
    obtain ⟨q3, hq3, h⟩ := gbind_e h
    refine g_callS (As := [.int p2, .int (0 : Int32), .int (9999999 : Int32)]) (rest := []) hx hb (hml.trans hl.1.symm) hown E hM hS hy_X8_inRange kw_1379 (c_X8_inRange hq3) rfl rfl (Nat.le_of_ble_eq_true rfl) ⟨Nat.le_of_ble_eq_true rfl, Nat.le_of_ble_eq_true rfl⟩ ⟨Nat.le_of_ble_eq_true rfl, Nat.le_of_ble_eq_true rfl⟩ dX8_hold_19 (fun H locs hM hS => ?_)
    refine lv_if_ne (tgt := 28) hx hb dX8_hold_22 (by decide) (fun c4 => ?_) (fun c4 => ?_)
    · replace h := gif_f c4 h
      refine lv_aload_n hx hb dX8_hold_28 rfl (lv_at hl 0 rfl) ?_
      obtain ⟨q5, hq5, h⟩ := gbind_e h
      refine g_callV (As := []) (rest := []) hx hb (hml.trans hl.1.symm) hown E hM hS hy_X8_changes kw_1913 (c_X8_changes hq5) hk_60 dd_60 rfl rfl rfl (Nat.le_of_ble_eq_true rfl) ⟨Nat.le_of_ble_eq_true rfl, Nat.le_of_ble_eq_true rfl⟩ ⟨Nat.le_of_ble_eq_true rfl, Nat.le_of_ble_eq_true rfl⟩ dX8_hold_29 (fun H locs hM hS => ?_)
      refine lv_aload_n hx hb dX8_hold_32 rfl (lv_at hl 0 rfl) ?_
      refine gg_60_0 hx hb hown E hM hk_60 kw_1242 dX8_hold_33 ?_
      refine lv_bipush (v := (6 : Int32)) hx hb dX8_hold_36 (by decide) ?_
      refine lv_iload_n hx hb dX8_hold_38 rfl (lv_at hl 1 rfl) ?_
      refine lv_iadd hx hb dX8_hold_39 ?_
      refine lv_iload_n hx hb dX8_hold_40 rfl (lv_at hl 2 rfl) ?_
      obtain ⟨c6, h⟩ := gchk_e h
      refine g_iast hx hb E hM hS hk_61 dd_61 c6 dX8_hold_41 (fun H locs hM hS => ?_)
      refine lv_aload_n hx hb dX8_hold_42 rfl (lv_at hl 0 rfl) ?_
      obtain ⟨q7, hq7, h⟩ := gbind_e h
      refine g_callV (As := []) (rest := []) hx hb (hml.trans hl.1.symm) hown E hM hS hy_X8_heldMany kw_1917 (c_X8_heldMany hq7) hk_60 dd_60 rfl rfl rfl (Nat.le_of_ble_eq_true rfl) ⟨Nat.le_of_ble_eq_true rfl, Nat.le_of_ble_eq_true rfl⟩ ⟨Nat.le_of_ble_eq_true rfl, Nat.le_of_ble_eq_true rfl⟩ dX8_hold_43 (fun H locs hM hS => ?_)
      obtain rfl := Option.some.inj h
      exact g_iret hx hb hr hlocks hM hS dX8_hold_46
    · replace h := gif_t c4 h
      refine lv_bipush (v := (-2 : Int32)) hx hb dX8_hold_25 (by decide) ?_
      obtain rfl := Option.some.inj h
      exact g_iret hx hb hr hlocks hM hS dX8_hold_27
  · replace h := gif_t c2 h
    refine lv_iconst (v := (-1 : Int32)) hx hb dX8_hold_13 (by decide) ?_
    obtain rfl := Option.some.inj h
    exact g_iret hx hb hr hlocks hM hS dX8_hold_14
def f_X8_release (p1 : Int32) (μ : gM) : Option (Int32 × gM) :=
  Option.bind (f_X8_isPoint p1 (si μ 60 6 (0 : Int32))) (fun q1 => if ((b2i q1) = 0) then some ((-1 : Int32), (si μ 60 6 (0 : Int32))) else gchk (gIn ((6 : Int32) + p1) 703) (if (0 ≤ (gi (si μ 60 6 (0 : Int32)) 61 ((6 : Int32) + p1).toNatClampNeg)) then Option.bind (f_X8_changes  (si μ 60 6 (0 : Int32))) (fun q5 => gchk (gIn ((6 : Int32) + p1) 703) (Option.bind (f_X8_heldMany  (si q5 61 ((6 : Int32) + p1).toNatClampNeg (-1 : Int32))) (fun q7 => some (q7, (si q5 61 ((6 : Int32) + p1).toNatClampNeg (-1 : Int32)))))) else some ((-1 : Int32), (si μ 60 6 (0 : Int32)))))
set_option maxHeartbeats 4000000 in
set_option maxRecDepth 100000 in
theorem c_X8_release {l : Launch} {D : va_G} {cy : Nat → ClassId} {ad : Nat → Nat} {base : Nat} {p1 : Int32} {μ : gM} {RES : Int32 × gM} (h : f_X8_release p1 μ = some RES) : Met l yX8_release [.code yX8_release cX8_release 2 (some .int)] ({ frames := 2, cells := 0, slots := 0, locals := 43 } : Room) (va_Pc [.ref (ad 60), .int p1] (gB l gFull D cy ad base μ)) (gQ (some (.int RES.1)) gFull D cy ad base RES.2) 0 0 (gA base) := by
  refine Met.ofW (cc := cX8_release) (maxL := 2) (ret := (some .int)) (by decide) rfl ?_
  intro p e s m args below meth c s₁ B hml0 hv
  obtain ⟨rfl, E, hM⟩ := hv
  have F : gF p s m meth c cX8_release RX8 2 (some .int) := gF_of B hml0
  obtain ⟨hx, hb, hml, hown, hlocks, hr⟩ := id F
  have hS : va_S (gA base) s.heap s.heap [] := va_S.rf
  have hl := lv_entry ([.ref (ad 60), .int p1]) (n := 2) (Nat.le_of_ble_eq_true rfl)
  rw [lg_entry_eq]
  generalize (lg_sl ([.ref (ad 60), .int p1]) ++ List.replicate (2 - (lg_sl ([.ref (ad 60), .int p1])).length) Slot.unset).toArray = ls at hl ⊢
  have hl : lv_has ls 2 [(0, .ref (ad 60)), (1, .int p1)] := hl
  unfold f_X8_release at h
  refine lv_aload_n hx hb dX8_release_0 rfl (lv_at hl 0 rfl) ?_
  refine lv_iconst (v := (0 : Int32)) hx hb dX8_release_1 (by decide) ?_
  refine gp_60_6 hx hb hown E hM hS hk_60 kw_1248 dX8_release_2 (fun H locs hM hS => ?_)
  refine lv_aload_n hx hb dX8_release_5 rfl (lv_at hl 0 rfl) ?_
  refine lv_iload_n hx hb dX8_release_6 rfl (lv_at hl 1 rfl) ?_
  obtain ⟨q1, hq1, h⟩ := gbind_e h
  refine g_callV (As := [.int p1]) (rest := []) hx hb (hml.trans hl.1.symm) hown E hM hS hy_X8_isPoint kw_1563 (c_X8_isPoint hq1) hk_60 dd_60 rfl rfl rfl (Nat.le_of_ble_eq_true rfl) ⟨Nat.le_of_ble_eq_true rfl, Nat.le_of_ble_eq_true rfl⟩ ⟨Nat.le_of_ble_eq_true rfl, Nat.le_of_ble_eq_true rfl⟩ dX8_release_7 (fun H locs hM hS => ?_)
  refine lv_if_eq (tgt := 25) hx hb dX8_release_10 (by decide) (fun c2 => ?_) (fun c2 => ?_)
  · replace h := gif_t c2 h
    refine lv_iconst (v := (-1 : Int32)) hx hb dX8_release_25 (by decide) ?_
    obtain rfl := Option.some.inj h
    exact g_iret hx hb hr hlocks hM hS dX8_release_26
  · replace h := gif_f c2 h
    refine lv_aload_n hx hb dX8_release_13 rfl (lv_at hl 0 rfl) ?_
    refine gg_60_0 hx hb hown E hM hk_60 kw_1242 dX8_release_14 ?_
    refine lv_bipush (v := (6 : Int32)) hx hb dX8_release_17 (by decide) ?_
    refine lv_iload_n hx hb dX8_release_19 rfl (lv_at hl 1 rfl) ?_
    refine lv_iadd hx hb dX8_release_20 ?_
    obtain ⟨c3, h⟩ := gchk_e h
    refine g_iald hx hb E hM hk_61 dd_61 c3 dX8_release_21 ?_
    refine lv_if_ge (tgt := 27) hx hb dX8_release_22 (by decide) (fun c4 => ?_) (fun c4 => ?_)
    · replace h := gif_t c4 h
      refine lv_aload_n hx hb dX8_release_27 rfl (lv_at hl 0 rfl) ?_
      obtain ⟨q5, hq5, h⟩ := gbind_e h
      refine g_callV (As := []) (rest := []) hx hb (hml.trans hl.1.symm) hown E hM hS hy_X8_changes kw_1913 (c_X8_changes hq5) hk_60 dd_60 rfl rfl rfl (Nat.le_of_ble_eq_true rfl) ⟨Nat.le_of_ble_eq_true rfl, Nat.le_of_ble_eq_true rfl⟩ ⟨Nat.le_of_ble_eq_true rfl, Nat.le_of_ble_eq_true rfl⟩ dX8_release_28 (fun H locs hM hS => ?_)
      refine lv_aload_n hx hb dX8_release_31 rfl (lv_at hl 0 rfl) ?_
      refine gg_60_0 hx hb hown E hM hk_60 kw_1242 dX8_release_32 ?_
      refine lv_bipush (v := (6 : Int32)) hx hb dX8_release_35 (by decide) ?_
      refine lv_iload_n hx hb dX8_release_37 rfl (lv_at hl 1 rfl) ?_
      refine lv_iadd hx hb dX8_release_38 ?_
      refine lv_iconst (v := (-1 : Int32)) hx hb dX8_release_39 (by decide) ?_
      obtain ⟨c6, h⟩ := gchk_e h
      refine g_iast hx hb E hM hS hk_61 dd_61 c6 dX8_release_40 (fun H locs hM hS => ?_)
      refine lv_aload_n hx hb dX8_release_41 rfl (lv_at hl 0 rfl) ?_
      obtain ⟨q7, hq7, h⟩ := gbind_e h
      refine g_callV (As := []) (rest := []) hx hb (hml.trans hl.1.symm) hown E hM hS hy_X8_heldMany kw_1917 (c_X8_heldMany hq7) hk_60 dd_60 rfl rfl rfl (Nat.le_of_ble_eq_true rfl) ⟨Nat.le_of_ble_eq_true rfl, Nat.le_of_ble_eq_true rfl⟩ ⟨Nat.le_of_ble_eq_true rfl, Nat.le_of_ble_eq_true rfl⟩ dX8_release_42 (fun H locs hM hS => ?_)
      obtain rfl := Option.some.inj h
      exact g_iret hx hb hr hlocks hM hS dX8_release_45
    · replace h := gif_f c4 h
      refine lv_iconst (v := (-1 : Int32)) hx hb dX8_release_25 (by decide) ?_
      obtain rfl := Option.some.inj h
      exact g_iret hx hb hr hlocks hM hS dX8_release_26
def f_X8_isNumber (p1 : Int32) (p2 : Int32) (μ : gM) : Option (Bool) :=
  if ((2 : Int32) ≤ p1) then Option.bind (f_X8_inRange p2 (1 : Int32) (100 : Int32) μ) (fun q2 => some q2) else Option.bind (f_X8_inRange p2 (0 : Int32) (40000 : Int32) μ) (fun q3 => some q3)
set_option maxHeartbeats 4000000 in
set_option maxRecDepth 100000 in
theorem c_X8_isNumber {l : Launch} {D : va_G} {cy : Nat → ClassId} {ad : Nat → Nat} {base : Nat} {p1 : Int32} {p2 : Int32} {μ : gM} {RES : Bool} (h : f_X8_isNumber p1 p2 μ = some RES) : Met l yX8_isNumber [.code yX8_isNumber cX8_isNumber 2 (some .boolean)] ({ frames := 1, cells := 0, slots := 0, locals := 22 } : Room) (va_Pc [.int p1, .int p2] (gB l gFull D cy ad base μ)) (gQ (some (.int (b2i RES))) gFull D cy ad base μ) 0 0 (gA base) := by
  refine Met.ofW (cc := cX8_isNumber) (maxL := 2) (ret := (some .boolean)) (by decide) rfl ?_
  intro p e s m args below meth c s₁ B hml0 hv
  obtain ⟨rfl, E, hM⟩ := hv
  have F : gF p s m meth c cX8_isNumber RX8 2 (some .boolean) := gF_of B hml0
  obtain ⟨hx, hb, hml, hown, hlocks, hr⟩ := id F
  have hS : va_S (gA base) s.heap s.heap [] := va_S.rf
  have hl := lv_entry ([.int p1, .int p2]) (n := 2) (Nat.le_of_ble_eq_true rfl)
  rw [lg_entry_eq]
  generalize (lg_sl ([.int p1, .int p2]) ++ List.replicate (2 - (lg_sl ([.int p1, .int p2])).length) Slot.unset).toArray = ls at hl ⊢
  have hl : lv_has ls 2 [(0, .int p1), (1, .int p2)] := hl
  unfold f_X8_isNumber at h
  refine lv_iload_n hx hb dX8_isNumber_0 rfl (lv_at hl 0 rfl) ?_
  refine lv_iconst (v := (2 : Int32)) hx hb dX8_isNumber_1 (by decide) ?_
  refine lv_icmp_ge (tgt := 15) hx hb dX8_isNumber_2 (by decide) (fun c1 => ?_) (fun c1 => ?_)
  · replace h := gif_t c1 h
    refine lv_iload_n hx hb dX8_isNumber_15 rfl (lv_at hl 1 rfl) ?_
    refine lv_iconst (v := (1 : Int32)) hx hb dX8_isNumber_16 (by decide) ?_
    refine lv_bipush (v := (100 : Int32)) hx hb dX8_isNumber_17 (by decide) ?_
    obtain ⟨q2, hq2, h⟩ := gbind_e h
    refine g_callS (As := [.int p2, .int (1 : Int32), .int (100 : Int32)]) (rest := []) hx hb (hml.trans hl.1.symm) hown E hM hS hy_X8_inRange kw_1379 (c_X8_inRange hq2) rfl rfl (Nat.le_of_ble_eq_true rfl) ⟨Nat.le_of_ble_eq_true rfl, Nat.le_of_ble_eq_true rfl⟩ ⟨Nat.le_of_ble_eq_true rfl, Nat.le_of_ble_eq_true rfl⟩ dX8_isNumber_19 (fun H locs hM hS => ?_)
    obtain rfl := Option.some.inj h
    exact g_zret hx hb hr hlocks (b2i_nar _) hM hS dX8_isNumber_22
  · replace h := gif_f c1 h
    refine lv_iload_n hx hb dX8_isNumber_5 rfl (lv_at hl 1 rfl) ?_
    refine lv_iconst (v := (0 : Int32)) hx hb dX8_isNumber_6 (by decide) ?_
    refine lv_ldc hx hb hown (v := (40000 : Int32)) (E.kw kw_1463) dX8_isNumber_7 ?_
    obtain ⟨q3, hq3, h⟩ := gbind_e h
    refine g_callS (As := [.int p2, .int (0 : Int32), .int (40000 : Int32)]) (rest := []) hx hb (hml.trans hl.1.symm) hown E hM hS hy_X8_inRange kw_1379 (c_X8_inRange hq3) rfl rfl (Nat.le_of_ble_eq_true rfl) ⟨Nat.le_of_ble_eq_true rfl, Nat.le_of_ble_eq_true rfl⟩ ⟨Nat.le_of_ble_eq_true rfl, Nat.le_of_ble_eq_true rfl⟩ dX8_isNumber_9 (fun H locs hM hS => ?_)
    refine lv_goto (tgt := 22) hx hb dX8_isNumber_12 (by decide) ?_
    obtain rfl := Option.some.inj h
    exact g_zret hx hb hr hlocks (b2i_nar _) hM hS dX8_isNumber_22
def f_X8_setReading (p1 : Int32) (p2 : Int32) (p3 : Int32) (p4 : Int32) (μ : gM) : Option (Int32 × gM) :=
  Option.bind (f_X8_isLine p1 (si μ 60 6 (0 : Int32))) (fun q1 => if ((b2i q1) = 0) then some ((-1 : Int32), (si μ 60 6 (0 : Int32))) else Option.bind (f_X8_setups p1 (si μ 60 6 (0 : Int32))) (fun q3 => Option.bind (f_X8_inRange p2 (0 : Int32) (q3 - (1 : Int32)) (si μ 60 6 (0 : Int32))) (fun q4 => if ((b2i q4) = 0) then some ((-1 : Int32), (si μ 60 6 (0 : Int32))) else Option.bind (f_X8_inRange p3 (0 : Int32) (3 : Int32) (si μ 60 6 (0 : Int32))) (fun q6 => if ((b2i q6) = 0) then some ((-2 : Int32), (si μ 60 6 (0 : Int32))) else Option.bind (f_X8_isNumber p3 p4 (si μ 60 6 (0 : Int32))) (fun q8 => if ((b2i q8) = 0) then some ((-2 : Int32), (si μ 60 6 (0 : Int32))) else Option.bind (f_X8_changes  (si μ 60 6 (0 : Int32))) (fun q10 => Option.bind (f_X8_of p1 p2 p3 q10) (fun q11 => Option.bind (f_X8_setupAt p1 p2 p3 q10) (fun q12 => gchk (gIn q12 703) (some (q11, (si q10 61 q12.toNatClampNeg p4)))))))))))
set_option maxHeartbeats 4000000 in
set_option maxRecDepth 100000 in
theorem c_X8_setReading {l : Launch} {D : va_G} {cy : Nat → ClassId} {ad : Nat → Nat} {base : Nat} {p1 : Int32} {p2 : Int32} {p3 : Int32} {p4 : Int32} {μ : gM} {RES : Int32 × gM} (h : f_X8_setReading p1 p2 p3 p4 μ = some RES) : Met l yX8_setReading [.code yX8_setReading cX8_setReading 6 (some .int)] ({ frames := 2, cells := 0, slots := 0, locals := 45 } : Room) (va_Pc [.ref (ad 60), .int p1, .int p2, .int p3, .int p4] (gB l gFull D cy ad base μ)) (gQ (some (.int RES.1)) gFull D cy ad base RES.2) 0 0 (gA base) := by
  refine Met.ofW (cc := cX8_setReading) (maxL := 6) (ret := (some .int)) (by decide) rfl ?_
  intro p e s m args below meth c s₁ B hml0 hv
  obtain ⟨rfl, E, hM⟩ := hv
  have F : gF p s m meth c cX8_setReading RX8 6 (some .int) := gF_of B hml0
  obtain ⟨hx, hb, hml, hown, hlocks, hr⟩ := id F
  have hS : va_S (gA base) s.heap s.heap [] := va_S.rf
  have hl := lv_entry ([.ref (ad 60), .int p1, .int p2, .int p3, .int p4]) (n := 6) (Nat.le_of_ble_eq_true rfl)
  rw [lg_entry_eq]
  generalize (lg_sl ([.ref (ad 60), .int p1, .int p2, .int p3, .int p4]) ++ List.replicate (6 - (lg_sl ([.ref (ad 60), .int p1, .int p2, .int p3, .int p4])).length) Slot.unset).toArray = ls at hl ⊢
  have hl : lv_has ls 6 [(0, .ref (ad 60)), (1, .int p1), (2, .int p2), (3, .int p3), (4, .int p4)] := hl
  unfold f_X8_setReading at h
  refine lv_aload_n hx hb dX8_setReading_0 rfl (lv_at hl 0 rfl) ?_
  refine lv_iconst (v := (0 : Int32)) hx hb dX8_setReading_1 (by decide) ?_
  refine gp_60_6 hx hb hown E hM hS hk_60 kw_1248 dX8_setReading_2 (fun H locs hM hS => ?_)
  refine lv_aload_n hx hb dX8_setReading_5 rfl (lv_at hl 0 rfl) ?_
  refine lv_iload_n hx hb dX8_setReading_6 rfl (lv_at hl 1 rfl) ?_
  obtain ⟨q1, hq1, h⟩ := gbind_e h
  refine g_callV (As := [.int p1]) (rest := []) hx hb (hml.trans hl.1.symm) hown E hM hS hy_X8_isLine kw_1571 (c_X8_isLine hq1) hk_60 dd_60 rfl rfl rfl (Nat.le_of_ble_eq_true rfl) ⟨Nat.le_of_ble_eq_true rfl, Nat.le_of_ble_eq_true rfl⟩ ⟨Nat.le_of_ble_eq_true rfl, Nat.le_of_ble_eq_true rfl⟩ dX8_setReading_7 (fun H locs hM hS => ?_)
  refine lv_if_eq (tgt := 28) hx hb dX8_setReading_10 (by decide) (fun c2 => ?_) (fun c2 => ?_)
  · replace h := gif_t c2 h
    refine lv_iconst (v := (-1 : Int32)) hx hb dX8_setReading_28 (by decide) ?_
    obtain rfl := Option.some.inj h
    exact g_iret hx hb hr hlocks hM hS dX8_setReading_29
  · replace h := gif_f c2 h
    refine lv_iload_n hx hb dX8_setReading_13 rfl (lv_at hl 2 rfl) ?_
    refine lv_iconst (v := (0 : Int32)) hx hb dX8_setReading_14 (by decide) ?_
    refine lv_aload_n hx hb dX8_setReading_15 rfl (lv_at hl 0 rfl) ?_
    refine lv_iload_n hx hb dX8_setReading_16 rfl (lv_at hl 1 rfl) ?_
    obtain ⟨q3, hq3, h⟩ := gbind_e h
    refine g_callV (As := [.int p1]) (rest := [.int (0 : Int32), .int p2]) hx hb (hml.trans hl.1.symm) hown E hM hS hy_X8_setups kw_1583 (c_X8_setups hq3) hk_60 dd_60 rfl rfl rfl (Nat.le_of_ble_eq_true rfl) ⟨Nat.le_of_ble_eq_true rfl, Nat.le_of_ble_eq_true rfl⟩ ⟨Nat.le_of_ble_eq_true rfl, Nat.le_of_ble_eq_true rfl⟩ dX8_setReading_17 (fun H locs hM hS => ?_)
    refine lv_iconst (v := (1 : Int32)) hx hb dX8_setReading_20 (by decide) ?_
    refine lv_isub hx hb dX8_setReading_21 ?_
    obtain ⟨q4, hq4, h⟩ := gbind_e h
    refine g_callS (As := [.int p2, .int (0 : Int32), .int (q3 - (1 : Int32))]) (rest := []) hx hb (hml.trans hl.1.symm) hown E hM hS hy_X8_inRange kw_1379 (c_X8_inRange hq4) rfl rfl (Nat.le_of_ble_eq_true rfl) ⟨Nat.le_of_ble_eq_true rfl, Nat.le_of_ble_eq_true rfl⟩ ⟨Nat.le_of_ble_eq_true rfl, Nat.le_of_ble_eq_true rfl⟩ dX8_setReading_22 (fun H locs hM hS => ?_)
    refine lv_if_ne (tgt := 30) hx hb dX8_setReading_25 (by decide) (fun c5 => ?_) (fun c5 => ?_)
    · replace h := gif_f c5 h
      refine lv_iload_n hx hb dX8_setReading_30 rfl (lv_at hl 3 rfl) ?_
      refine lv_iconst (v := (0 : Int32)) hx hb dX8_setReading_31 (by decide) ?_
      refine lv_iconst (v := (3 : Int32)) hx hb dX8_setReading_32 (by decide) ?_
      obtain ⟨q6, hq6, h⟩ := gbind_e h
      refine g_callS (As := [.int p3, .int (0 : Int32), .int (3 : Int32)]) (rest := []) hx hb (hml.trans hl.1.symm) hown E hM hS hy_X8_inRange kw_1379 (c_X8_inRange hq6) rfl rfl (Nat.le_of_ble_eq_true rfl) ⟨Nat.le_of_ble_eq_true rfl, Nat.le_of_ble_eq_true rfl⟩ ⟨Nat.le_of_ble_eq_true rfl, Nat.le_of_ble_eq_true rfl⟩ dX8_setReading_33 (fun H locs hM hS => ?_)
      refine lv_if_eq (tgt := 48) hx hb dX8_setReading_36 (by decide) (fun c7 => ?_) (fun c7 => ?_)
      · replace h := gif_t c7 h
        refine lv_bipush (v := (-2 : Int32)) hx hb dX8_setReading_48 (by decide) ?_
        obtain rfl := Option.some.inj h
        exact g_iret hx hb hr hlocks hM hS dX8_setReading_50
      · replace h := gif_f c7 h
        refine lv_iload_n hx hb dX8_setReading_39 rfl (lv_at hl 3 rfl) ?_
        refine lv_iload hx hb dX8_setReading_40 (lv_at hl 4 rfl) ?_
        obtain ⟨q8, hq8, h⟩ := gbind_e h
        refine g_callS (As := [.int p3, .int p4]) (rest := []) hx hb (hml.trans hl.1.symm) hown E hM hS hy_X8_isNumber kw_1929 (c_X8_isNumber hq8) rfl rfl (Nat.le_of_ble_eq_true rfl) ⟨Nat.le_of_ble_eq_true rfl, Nat.le_of_ble_eq_true rfl⟩ ⟨Nat.le_of_ble_eq_true rfl, Nat.le_of_ble_eq_true rfl⟩ dX8_setReading_42 (fun H locs hM hS => ?_)
        refine lv_if_ne (tgt := 51) hx hb dX8_setReading_45 (by decide) (fun c9 => ?_) (fun c9 => ?_)
        · replace h := gif_f c9 h
          refine lv_aload_n hx hb dX8_setReading_51 rfl (lv_at hl 0 rfl) ?_
          obtain ⟨q10, hq10, h⟩ := gbind_e h
          refine g_callV (As := []) (rest := []) hx hb (hml.trans hl.1.symm) hown E hM hS hy_X8_changes kw_1913 (c_X8_changes hq10) hk_60 dd_60 rfl rfl rfl (Nat.le_of_ble_eq_true rfl) ⟨Nat.le_of_ble_eq_true rfl, Nat.le_of_ble_eq_true rfl⟩ ⟨Nat.le_of_ble_eq_true rfl, Nat.le_of_ble_eq_true rfl⟩ dX8_setReading_52 (fun H locs hM hS => ?_)
          refine lv_aload_n hx hb dX8_setReading_55 rfl (lv_at hl 0 rfl) ?_
          refine lv_iload_n hx hb dX8_setReading_56 rfl (lv_at hl 1 rfl) ?_
          refine lv_iload_n hx hb dX8_setReading_57 rfl (lv_at hl 2 rfl) ?_
          refine lv_iload_n hx hb dX8_setReading_58 rfl (lv_at hl 3 rfl) ?_
          obtain ⟨q11, hq11, h⟩ := gbind_e h
          refine g_callV (As := [.int p1, .int p2, .int p3]) (rest := []) hx hb (hml.trans hl.1.symm) hown E hM hS hy_X8_of kw_1595 (c_X8_of hq11) hk_60 dd_60 rfl rfl rfl (Nat.le_of_ble_eq_true rfl) ⟨Nat.le_of_ble_eq_true rfl, Nat.le_of_ble_eq_true rfl⟩ ⟨Nat.le_of_ble_eq_true rfl, Nat.le_of_ble_eq_true rfl⟩ dX8_setReading_59 (fun H locs hM hS => ?_)
          refine lv_istore (lv' := [(5, .int q11), (0, .ref (ad 60)), (1, .int p1), (2, .int p2), (3, .int p3), (4, .int p4)]) hx hb dX8_setReading_62 hl (by decide) rfl (fun ls hl => ?_)
          refine lv_aload_n hx hb dX8_setReading_64 rfl (lv_at hl 1 rfl) ?_
          refine gg_60_0 hx hb hown E hM hk_60 kw_1242 dX8_setReading_65 ?_
          refine lv_iload_n hx hb dX8_setReading_68 rfl (lv_at hl 2 rfl) ?_
          refine lv_iload_n hx hb dX8_setReading_69 rfl (lv_at hl 3 rfl) ?_
          refine lv_iload_n hx hb dX8_setReading_70 rfl (lv_at hl 4 rfl) ?_
          obtain ⟨q12, hq12, h⟩ := gbind_e h
          refine g_callS (As := [.int p1, .int p2, .int p3]) (rest := [.ref (ad 61)]) hx hb (hml.trans hl.1.symm) hown E hM hS hy_X8_setupAt kw_1464 (c_X8_setupAt hq12) rfl rfl (Nat.le_of_ble_eq_true rfl) ⟨Nat.le_of_ble_eq_true rfl, Nat.le_of_ble_eq_true rfl⟩ ⟨Nat.le_of_ble_eq_true rfl, Nat.le_of_ble_eq_true rfl⟩ dX8_setReading_71 (fun H locs hM hS => ?_)
          refine lv_iload hx hb dX8_setReading_74 (lv_at hl 5 rfl) ?_
          obtain ⟨c13, h⟩ := gchk_e h
          refine g_iast hx hb E hM hS hk_61 dd_61 c13 dX8_setReading_76 (fun H locs hM hS => ?_)
          refine lv_iload hx hb dX8_setReading_77 (lv_at hl 0 rfl) ?_
          obtain rfl := Option.some.inj h
          exact g_iret hx hb hr hlocks hM hS dX8_setReading_79
        · replace h := gif_t c9 h
          refine lv_bipush (v := (-2 : Int32)) hx hb dX8_setReading_48 (by decide) ?_
          obtain rfl := Option.some.inj h
          exact g_iret hx hb hr hlocks hM hS dX8_setReading_50
    · replace h := gif_t c5 h
      refine lv_iconst (v := (-1 : Int32)) hx hb dX8_setReading_28 (by decide) ?_
      obtain rfl := Option.some.inj h
      exact g_iret hx hb hr hlocks hM hS dX8_setReading_29
def f_X8_addSetup (p1 : Int32) (p2 : Int32) (p3 : Int32) (p4 : Int32) (p5 : Int32) (μ : gM) : Option (Int32 × gM) :=
  Option.bind (f_X8_isLine p1 (si μ 60 6 (0 : Int32))) (fun q1 => if ((b2i q1) = 0) then some ((-1 : Int32), (si μ 60 6 (0 : Int32))) else Option.bind (f_X8_isNumber (0 : Int32) p2 (si μ 60 6 (0 : Int32))) (fun q3 => if ((b2i q3) = 0) then some ((-2 : Int32), (si μ 60 6 (0 : Int32))) else Option.bind (f_X8_isNumber (1 : Int32) p3 (si μ 60 6 (0 : Int32))) (fun q5 => if ((b2i q5) = 0) then some ((-2 : Int32), (si μ 60 6 (0 : Int32))) else Option.bind (f_X8_isNumber (2 : Int32) p4 (si μ 60 6 (0 : Int32))) (fun q7 => if ((b2i q7) = 0) then some ((-2 : Int32), (si μ 60 6 (0 : Int32))) else Option.bind (f_X8_isNumber (3 : Int32) p5 (si μ 60 6 (0 : Int32))) (fun q9 => if ((b2i q9) = 0) then some ((-2 : Int32), (si μ 60 6 (0 : Int32))) else Option.bind (f_X8_setups p1 (si μ 60 6 (0 : Int32))) (fun q11 => if (q11 = (8 : Int32)) then some ((-3 : Int32), (si μ 60 6 (0 : Int32))) else Option.bind (f_X8_changes  (si μ 60 6 (0 : Int32))) (fun q13 => Option.bind (f_X8_setupAt p1 q11 (0 : Int32) q13) (fun q14 => gchk (gIn q14 703) (Option.bind (f_X8_setupAt p1 q11 (1 : Int32) (si q13 61 q14.toNatClampNeg p2)) (fun q16 => gchk (gIn q16 703) (Option.bind (f_X8_setupAt p1 q11 (2 : Int32) (si (si q13 61 q14.toNatClampNeg p2) 61 q16.toNatClampNeg p3)) (fun q18 => gchk (gIn q18 703) (Option.bind (f_X8_setupAt p1 q11 (3 : Int32) (si (si (si q13 61 q14.toNatClampNeg p2) 61 q16.toNatClampNeg p3) 61 q18.toNatClampNeg p4)) (fun q20 => gchk (gIn q20 703) (gchk (gIn ((42 : Int32) + p1) 703) (gchk (gIn ((42 : Int32) + p1) 703) (some ((q11 + (1 : Int32)), (si (si (si (si (si q13 61 q14.toNatClampNeg p2) 61 q16.toNatClampNeg p3) 61 q18.toNatClampNeg p4) 61 q20.toNatClampNeg p5) 61 ((42 : Int32) + p1).toNatClampNeg ((gi (si (si (si (si q13 61 q14.toNatClampNeg p2) 61 q16.toNatClampNeg p3) 61 q18.toNatClampNeg p4) 61 q20.toNatClampNeg p5) 61 ((42 : Int32) + p1).toNatClampNeg) + (1 : Int32)))))))))))))))))))))
set_option maxHeartbeats 4000000 in
set_option maxRecDepth 100000 in
theorem c_X8_addSetup {l : Launch} {D : va_G} {cy : Nat → ClassId} {ad : Nat → Nat} {base : Nat} {p1 : Int32} {p2 : Int32} {p3 : Int32} {p4 : Int32} {p5 : Int32} {μ : gM} {RES : Int32 × gM} (h : f_X8_addSetup p1 p2 p3 p4 p5 μ = some RES) : Met l yX8_addSetup [.code yX8_addSetup cX8_addSetup 7 (some .int)] ({ frames := 2, cells := 0, slots := 0, locals := 43 } : Room) (va_Pc [.ref (ad 60), .int p1, .int p2, .int p3, .int p4, .int p5] (gB l gFull D cy ad base μ)) (gQ (some (.int RES.1)) gFull D cy ad base RES.2) 0 0 (gA base) := by
  refine Met.ofW (cc := cX8_addSetup) (maxL := 7) (ret := (some .int)) (by decide) rfl ?_
  intro p e s m args below meth c s₁ B hml0 hv
  obtain ⟨rfl, E, hM⟩ := hv
  have F : gF p s m meth c cX8_addSetup RX8 7 (some .int) := gF_of B hml0
  obtain ⟨hx, hb, hml, hown, hlocks, hr⟩ := id F
  have hS : va_S (gA base) s.heap s.heap [] := va_S.rf
  have hl := lv_entry ([.ref (ad 60), .int p1, .int p2, .int p3, .int p4, .int p5]) (n := 7) (Nat.le_of_ble_eq_true rfl)
  rw [lg_entry_eq]
  generalize (lg_sl ([.ref (ad 60), .int p1, .int p2, .int p3, .int p4, .int p5]) ++ List.replicate (7 - (lg_sl ([.ref (ad 60), .int p1, .int p2, .int p3, .int p4, .int p5])).length) Slot.unset).toArray = ls at hl ⊢
  have hl : lv_has ls 7 [(0, .ref (ad 60)), (1, .int p1), (2, .int p2), (3, .int p3), (4, .int p4), (5, .int p5)] := hl
  unfold f_X8_addSetup at h
  refine lv_aload_n hx hb dX8_addSetup_0 rfl (lv_at hl 0 rfl) ?_
  refine lv_iconst (v := (0 : Int32)) hx hb dX8_addSetup_1 (by decide) ?_
  refine gp_60_6 hx hb hown E hM hS hk_60 kw_1248 dX8_addSetup_2 (fun H locs hM hS => ?_)
  refine lv_aload_n hx hb dX8_addSetup_5 rfl (lv_at hl 0 rfl) ?_
  refine lv_iload_n hx hb dX8_addSetup_6 rfl (lv_at hl 1 rfl) ?_
  obtain ⟨q1, hq1, h⟩ := gbind_e h
  refine g_callV (As := [.int p1]) (rest := []) hx hb (hml.trans hl.1.symm) hown E hM hS hy_X8_isLine kw_1571 (c_X8_isLine hq1) hk_60 dd_60 rfl rfl rfl (Nat.le_of_ble_eq_true rfl) ⟨Nat.le_of_ble_eq_true rfl, Nat.le_of_ble_eq_true rfl⟩ ⟨Nat.le_of_ble_eq_true rfl, Nat.le_of_ble_eq_true rfl⟩ dX8_addSetup_7 (fun H locs hM hS => ?_)
  refine lv_if_ne (tgt := 15) hx hb dX8_addSetup_10 (by decide) (fun c2 => ?_) (fun c2 => ?_)
  · replace h := gif_f c2 h
    refine lv_iconst (v := (0 : Int32)) hx hb dX8_addSetup_15 (by decide) ?_
    refine lv_iload_n hx hb dX8_addSetup_16 rfl (lv_at hl 2 rfl) ?_
    obtain ⟨q3, hq3, h⟩ := gbind_e h
    refine g_callS (As := [.int (0 : Int32), .int p2]) (rest := []) hx hb (hml.trans hl.1.symm) hown E hM hS hy_X8_isNumber kw_1929 (c_X8_isNumber hq3) rfl rfl (Nat.le_of_ble_eq_true rfl) ⟨Nat.le_of_ble_eq_true rfl, Nat.le_of_ble_eq_true rfl⟩ ⟨Nat.le_of_ble_eq_true rfl, Nat.le_of_ble_eq_true rfl⟩ dX8_addSetup_17 (fun H locs hM hS => ?_)
    refine lv_if_eq (tgt := 49) hx hb dX8_addSetup_20 (by decide) (fun c4 => ?_) (fun c4 => ?_)
    · replace h := gif_t c4 h
      refine lv_bipush (v := (-2 : Int32)) hx hb dX8_addSetup_49 (by decide) ?_
      obtain rfl := Option.some.inj h
      exact g_iret hx hb hr hlocks hM hS dX8_addSetup_51
    · replace h := gif_f c4 h
      refine lv_iconst (v := (1 : Int32)) hx hb dX8_addSetup_23 (by decide) ?_
      refine lv_iload_n hx hb dX8_addSetup_24 rfl (lv_at hl 3 rfl) ?_
      obtain ⟨q5, hq5, h⟩ := gbind_e h
      refine g_callS (As := [.int (1 : Int32), .int p3]) (rest := []) hx hb (hml.trans hl.1.symm) hown E hM hS hy_X8_isNumber kw_1929 (c_X8_isNumber hq5) rfl rfl (Nat.le_of_ble_eq_true rfl) ⟨Nat.le_of_ble_eq_true rfl, Nat.le_of_ble_eq_true rfl⟩ ⟨Nat.le_of_ble_eq_true rfl, Nat.le_of_ble_eq_true rfl⟩ dX8_addSetup_25 (fun H locs hM hS => ?_)
      refine lv_if_eq (tgt := 49) hx hb dX8_addSetup_28 (by decide) (fun c6 => ?_) (fun c6 => ?_)
      · replace h := gif_t c6 h
        refine lv_bipush (v := (-2 : Int32)) hx hb dX8_addSetup_49 (by decide) ?_
        obtain rfl := Option.some.inj h
        exact g_iret hx hb hr hlocks hM hS dX8_addSetup_51
      · replace h := gif_f c6 h
        refine lv_iconst (v := (2 : Int32)) hx hb dX8_addSetup_31 (by decide) ?_
        refine lv_iload hx hb dX8_addSetup_32 (lv_at hl 4 rfl) ?_
        obtain ⟨q7, hq7, h⟩ := gbind_e h
        refine g_callS (As := [.int (2 : Int32), .int p4]) (rest := []) hx hb (hml.trans hl.1.symm) hown E hM hS hy_X8_isNumber kw_1929 (c_X8_isNumber hq7) rfl rfl (Nat.le_of_ble_eq_true rfl) ⟨Nat.le_of_ble_eq_true rfl, Nat.le_of_ble_eq_true rfl⟩ ⟨Nat.le_of_ble_eq_true rfl, Nat.le_of_ble_eq_true rfl⟩ dX8_addSetup_34 (fun H locs hM hS => ?_)
        refine lv_if_eq (tgt := 49) hx hb dX8_addSetup_37 (by decide) (fun c8 => ?_) (fun c8 => ?_)
        · replace h := gif_t c8 h
          refine lv_bipush (v := (-2 : Int32)) hx hb dX8_addSetup_49 (by decide) ?_
          obtain rfl := Option.some.inj h
          exact g_iret hx hb hr hlocks hM hS dX8_addSetup_51
        · replace h := gif_f c8 h
          refine lv_iconst (v := (3 : Int32)) hx hb dX8_addSetup_40 (by decide) ?_
          refine lv_iload hx hb dX8_addSetup_41 (lv_at hl 5 rfl) ?_
          obtain ⟨q9, hq9, h⟩ := gbind_e h
          refine g_callS (As := [.int (3 : Int32), .int p5]) (rest := []) hx hb (hml.trans hl.1.symm) hown E hM hS hy_X8_isNumber kw_1929 (c_X8_isNumber hq9) rfl rfl (Nat.le_of_ble_eq_true rfl) ⟨Nat.le_of_ble_eq_true rfl, Nat.le_of_ble_eq_true rfl⟩ ⟨Nat.le_of_ble_eq_true rfl, Nat.le_of_ble_eq_true rfl⟩ dX8_addSetup_43 (fun H locs hM hS => ?_)
          refine lv_if_ne (tgt := 52) hx hb dX8_addSetup_46 (by decide) (fun c10 => ?_) (fun c10 => ?_)
          · replace h := gif_f c10 h
            refine lv_aload_n hx hb dX8_addSetup_52 rfl (lv_at hl 0 rfl) ?_
            refine lv_iload_n hx hb dX8_addSetup_53 rfl (lv_at hl 1 rfl) ?_
            obtain ⟨q11, hq11, h⟩ := gbind_e h
            refine g_callV (As := [.int p1]) (rest := []) hx hb (hml.trans hl.1.symm) hown E hM hS hy_X8_setups kw_1583 (c_X8_setups hq11) hk_60 dd_60 rfl rfl rfl (Nat.le_of_ble_eq_true rfl) ⟨Nat.le_of_ble_eq_true rfl, Nat.le_of_ble_eq_true rfl⟩ ⟨Nat.le_of_ble_eq_true rfl, Nat.le_of_ble_eq_true rfl⟩ dX8_addSetup_54 (fun H locs hM hS => ?_)
            refine lv_istore (lv' := [(6, .int q11), (0, .ref (ad 60)), (1, .int p1), (2, .int p2), (3, .int p3), (4, .int p4), (5, .int p5)]) hx hb dX8_addSetup_57 hl (by decide) rfl (fun ls hl => ?_)
            refine lv_iload hx hb dX8_addSetup_59 (lv_at hl 0 rfl) ?_
            refine lv_bipush (v := (8 : Int32)) hx hb dX8_addSetup_61 (by decide) ?_
            refine lv_icmp_ne (tgt := 69) hx hb dX8_addSetup_63 (by decide) (fun c12 => ?_) (fun c12 => ?_)
            · replace h := gif_f c12 h
              refine lv_aload_n hx hb dX8_addSetup_69 rfl (lv_at hl 1 rfl) ?_
              obtain ⟨q13, hq13, h⟩ := gbind_e h
              refine g_callV (As := []) (rest := []) hx hb (hml.trans hl.1.symm) hown E hM hS hy_X8_changes kw_1913 (c_X8_changes hq13) hk_60 dd_60 rfl rfl rfl (Nat.le_of_ble_eq_true rfl) ⟨Nat.le_of_ble_eq_true rfl, Nat.le_of_ble_eq_true rfl⟩ ⟨Nat.le_of_ble_eq_true rfl, Nat.le_of_ble_eq_true rfl⟩ dX8_addSetup_70 (fun H locs hM hS => ?_)
              refine lv_aload_n hx hb dX8_addSetup_73 rfl (lv_at hl 1 rfl) ?_
              refine gg_60_0 hx hb hown E hM hk_60 kw_1242 dX8_addSetup_74 ?_
              refine lv_iload_n hx hb dX8_addSetup_77 rfl (lv_at hl 2 rfl) ?_
              refine lv_iload hx hb dX8_addSetup_78 (lv_at hl 0 rfl) ?_
              refine lv_iconst (v := (0 : Int32)) hx hb dX8_addSetup_80 (by decide) ?_
              obtain ⟨q14, hq14, h⟩ := gbind_e h
              refine g_callS (As := [.int p1, .int q11, .int (0 : Int32)]) (rest := [.ref (ad 61)]) hx hb (hml.trans hl.1.symm) hown E hM hS hy_X8_setupAt kw_1464 (c_X8_setupAt hq14) rfl rfl (Nat.le_of_ble_eq_true rfl) ⟨Nat.le_of_ble_eq_true rfl, Nat.le_of_ble_eq_true rfl⟩ ⟨Nat.le_of_ble_eq_true rfl, Nat.le_of_ble_eq_true rfl⟩ dX8_addSetup_81 (fun H locs hM hS => ?_)
              refine lv_iload_n hx hb dX8_addSetup_84 rfl (lv_at hl 3 rfl) ?_
              obtain ⟨c15, h⟩ := gchk_e h
              refine g_iast hx hb E hM hS hk_61 dd_61 c15 dX8_addSetup_85 (fun H locs hM hS => ?_)
              refine lv_aload_n hx hb dX8_addSetup_86 rfl (lv_at hl 1 rfl) ?_
              refine gg_60_0 hx hb hown E hM hk_60 kw_1242 dX8_addSetup_87 ?_
              refine lv_iload_n hx hb dX8_addSetup_90 rfl (lv_at hl 2 rfl) ?_
              refine lv_iload hx hb dX8_addSetup_91 (lv_at hl 0 rfl) ?_
              refine lv_iconst (v := (1 : Int32)) hx hb dX8_addSetup_93 (by decide) ?_
              obtain ⟨q16, hq16, h⟩ := gbind_e h
              refine g_callS (As := [.int p1, .int q11, .int (1 : Int32)]) (rest := [.ref (ad 61)]) hx hb (hml.trans hl.1.symm) hown E hM hS hy_X8_setupAt kw_1464 (c_X8_setupAt hq16) rfl rfl (Nat.le_of_ble_eq_true rfl) ⟨Nat.le_of_ble_eq_true rfl, Nat.le_of_ble_eq_true rfl⟩ ⟨Nat.le_of_ble_eq_true rfl, Nat.le_of_ble_eq_true rfl⟩ dX8_addSetup_94 (fun H locs hM hS => ?_)
              refine lv_iload_n hx hb dX8_addSetup_97 rfl (lv_at hl 4 rfl) ?_
              obtain ⟨c17, h⟩ := gchk_e h
              refine g_iast hx hb E hM hS hk_61 dd_61 c17 dX8_addSetup_98 (fun H locs hM hS => ?_)
              refine lv_aload_n hx hb dX8_addSetup_99 rfl (lv_at hl 1 rfl) ?_
              refine gg_60_0 hx hb hown E hM hk_60 kw_1242 dX8_addSetup_100 ?_
              refine lv_iload_n hx hb dX8_addSetup_103 rfl (lv_at hl 2 rfl) ?_
              refine lv_iload hx hb dX8_addSetup_104 (lv_at hl 0 rfl) ?_
              refine lv_iconst (v := (2 : Int32)) hx hb dX8_addSetup_106 (by decide) ?_
              obtain ⟨q18, hq18, h⟩ := gbind_e h
              refine g_callS (As := [.int p1, .int q11, .int (2 : Int32)]) (rest := [.ref (ad 61)]) hx hb (hml.trans hl.1.symm) hown E hM hS hy_X8_setupAt kw_1464 (c_X8_setupAt hq18) rfl rfl (Nat.le_of_ble_eq_true rfl) ⟨Nat.le_of_ble_eq_true rfl, Nat.le_of_ble_eq_true rfl⟩ ⟨Nat.le_of_ble_eq_true rfl, Nat.le_of_ble_eq_true rfl⟩ dX8_addSetup_107 (fun H locs hM hS => ?_)
              refine lv_iload hx hb dX8_addSetup_110 (lv_at hl 5 rfl) ?_
              obtain ⟨c19, h⟩ := gchk_e h
              refine g_iast hx hb E hM hS hk_61 dd_61 c19 dX8_addSetup_112 (fun H locs hM hS => ?_)
              refine lv_aload_n hx hb dX8_addSetup_113 rfl (lv_at hl 1 rfl) ?_
              refine gg_60_0 hx hb hown E hM hk_60 kw_1242 dX8_addSetup_114 ?_
              refine lv_iload_n hx hb dX8_addSetup_117 rfl (lv_at hl 2 rfl) ?_
              refine lv_iload hx hb dX8_addSetup_118 (lv_at hl 0 rfl) ?_
              refine lv_iconst (v := (3 : Int32)) hx hb dX8_addSetup_120 (by decide) ?_
              obtain ⟨q20, hq20, h⟩ := gbind_e h
              refine g_callS (As := [.int p1, .int q11, .int (3 : Int32)]) (rest := [.ref (ad 61)]) hx hb (hml.trans hl.1.symm) hown E hM hS hy_X8_setupAt kw_1464 (c_X8_setupAt hq20) rfl rfl (Nat.le_of_ble_eq_true rfl) ⟨Nat.le_of_ble_eq_true rfl, Nat.le_of_ble_eq_true rfl⟩ ⟨Nat.le_of_ble_eq_true rfl, Nat.le_of_ble_eq_true rfl⟩ dX8_addSetup_121 (fun H locs hM hS => ?_)
              refine lv_iload hx hb dX8_addSetup_124 (lv_at hl 6 rfl) ?_
              obtain ⟨c21, h⟩ := gchk_e h
              refine g_iast hx hb E hM hS hk_61 dd_61 c21 dX8_addSetup_126 (fun H locs hM hS => ?_)
              refine lv_aload_n hx hb dX8_addSetup_127 rfl (lv_at hl 1 rfl) ?_
              refine gg_60_0 hx hb hown E hM hk_60 kw_1242 dX8_addSetup_128 ?_
              refine lv_bipush (v := (42 : Int32)) hx hb dX8_addSetup_131 (by decide) ?_
              refine lv_iload_n hx hb dX8_addSetup_133 rfl (lv_at hl 2 rfl) ?_
              refine lv_iadd hx hb dX8_addSetup_134 ?_
              refine lv_dup2_11 hx hb dX8_addSetup_135 rfl rfl ?_
              obtain ⟨c22, h⟩ := gchk_e h
              refine g_iald hx hb E hM hk_61 dd_61 c22 dX8_addSetup_136 ?_
              refine lv_iconst (v := (1 : Int32)) hx hb dX8_addSetup_137 (by decide) ?_
              refine lv_iadd hx hb dX8_addSetup_138 ?_
              obtain ⟨c23, h⟩ := gchk_e h
              refine g_iast hx hb E hM hS hk_61 dd_61 c23 dX8_addSetup_139 (fun H locs hM hS => ?_)
              refine lv_iload hx hb dX8_addSetup_140 (lv_at hl 0 rfl) ?_
              refine lv_iconst (v := (1 : Int32)) hx hb dX8_addSetup_142 (by decide) ?_
              refine lv_iadd hx hb dX8_addSetup_143 ?_
              obtain rfl := Option.some.inj h
              exact g_iret hx hb hr hlocks hM hS dX8_addSetup_144
            · replace h := gif_t c12 h
              refine lv_bipush (v := (-3 : Int32)) hx hb dX8_addSetup_66 (by decide) ?_
              obtain rfl := Option.some.inj h
              exact g_iret hx hb hr hlocks hM hS dX8_addSetup_68
          · replace h := gif_t c10 h
            refine lv_bipush (v := (-2 : Int32)) hx hb dX8_addSetup_49 (by decide) ?_
            obtain rfl := Option.some.inj h
            exact g_iret hx hb hr hlocks hM hS dX8_addSetup_51
  · replace h := gif_t c2 h
    refine lv_iconst (v := (-1 : Int32)) hx hb dX8_addSetup_13 (by decide) ?_
    obtain rfl := Option.some.inj h
    exact g_iret hx hb hr hlocks hM hS dX8_addSetup_14
def f_X8_setActive (p1 : Int32) (p2 : Int32) (μ : gM) : Option (Int32 × gM) :=
  Option.bind (f_X8_isLine p1 (si μ 60 6 (0 : Int32))) (fun q1 => if ((b2i q1) = 0) then some ((-1 : Int32), (si μ 60 6 (0 : Int32))) else Option.bind (f_X8_changes  (si μ 60 6 (0 : Int32))) (fun q3 => if (p2 = 0) then gchk (gIn ((22 : Int32) + p1) 703) (Option.bind (f_X8_loopsNow  (si q3 61 ((22 : Int32) + p1).toNatClampNeg (0 : Int32))) (fun q6 => some (q6.1, q6.2))) else gchk (gIn ((22 : Int32) + p1) 703) (Option.bind (f_X8_loopsNow  (si q3 61 ((22 : Int32) + p1).toNatClampNeg (1 : Int32))) (fun q8 => some (q8.1, q8.2)))))
set_option maxHeartbeats 4000000 in
set_option maxRecDepth 100000 in
theorem c_X8_setActive {l : Launch} {D : va_G} {cy : Nat → ClassId} {ad : Nat → Nat} {base : Nat} {p1 : Int32} {p2 : Int32} {μ : gM} {RES : Int32 × gM} (h : f_X8_setActive p1 p2 μ = some RES) : Met l yX8_setActive [.code yX8_setActive cX8_setActive 3 (some .int)] ({ frames := 5, cells := 0, slots := 0, locals := 110 } : Room) (va_Pc [.ref (ad 60), .int p1, .int p2] (gB l gFull D cy ad base μ)) (gQ (some (.int RES.1)) gFull D cy ad base RES.2) 0 0 (gA base) := by
  refine Met.ofW (cc := cX8_setActive) (maxL := 3) (ret := (some .int)) (by decide) rfl ?_
  intro p e s m args below meth c s₁ B hml0 hv
  obtain ⟨rfl, E, hM⟩ := hv
  have F : gF p s m meth c cX8_setActive RX8 3 (some .int) := gF_of B hml0
  obtain ⟨hx, hb, hml, hown, hlocks, hr⟩ := id F
  have hS : va_S (gA base) s.heap s.heap [] := va_S.rf
  have hl := lv_entry ([.ref (ad 60), .int p1, .int p2]) (n := 3) (Nat.le_of_ble_eq_true rfl)
  rw [lg_entry_eq]
  generalize (lg_sl ([.ref (ad 60), .int p1, .int p2]) ++ List.replicate (3 - (lg_sl ([.ref (ad 60), .int p1, .int p2])).length) Slot.unset).toArray = ls at hl ⊢
  have hl : lv_has ls 3 [(0, .ref (ad 60)), (1, .int p1), (2, .int p2)] := hl
  unfold f_X8_setActive at h
  refine lv_aload_n hx hb dX8_setActive_0 rfl (lv_at hl 0 rfl) ?_
  refine lv_iconst (v := (0 : Int32)) hx hb dX8_setActive_1 (by decide) ?_
  refine gp_60_6 hx hb hown E hM hS hk_60 kw_1248 dX8_setActive_2 (fun H locs hM hS => ?_)
  refine lv_aload_n hx hb dX8_setActive_5 rfl (lv_at hl 0 rfl) ?_
  refine lv_iload_n hx hb dX8_setActive_6 rfl (lv_at hl 1 rfl) ?_
  obtain ⟨q1, hq1, h⟩ := gbind_e h
  refine g_callV (As := [.int p1]) (rest := []) hx hb (hml.trans hl.1.symm) hown E hM hS hy_X8_isLine kw_1571 (c_X8_isLine hq1) hk_60 dd_60 rfl rfl rfl (Nat.le_of_ble_eq_true rfl) ⟨Nat.le_of_ble_eq_true rfl, Nat.le_of_ble_eq_true rfl⟩ ⟨Nat.le_of_ble_eq_true rfl, Nat.le_of_ble_eq_true rfl⟩ dX8_setActive_7 (fun H locs hM hS => ?_)
  refine lv_if_ne (tgt := 15) hx hb dX8_setActive_10 (by decide) (fun c2 => ?_) (fun c2 => ?_)
  · replace h := gif_f c2 h
    refine lv_aload_n hx hb dX8_setActive_15 rfl (lv_at hl 0 rfl) ?_
    obtain ⟨q3, hq3, h⟩ := gbind_e h
    refine g_callV (As := []) (rest := []) hx hb (hml.trans hl.1.symm) hown E hM hS hy_X8_changes kw_1913 (c_X8_changes hq3) hk_60 dd_60 rfl rfl rfl (Nat.le_of_ble_eq_true rfl) ⟨Nat.le_of_ble_eq_true rfl, Nat.le_of_ble_eq_true rfl⟩ ⟨Nat.le_of_ble_eq_true rfl, Nat.le_of_ble_eq_true rfl⟩ dX8_setActive_16 (fun H locs hM hS => ?_)
    refine lv_aload_n hx hb dX8_setActive_19 rfl (lv_at hl 0 rfl) ?_
    refine gg_60_0 hx hb hown E hM hk_60 kw_1242 dX8_setActive_20 ?_
    refine lv_bipush (v := (22 : Int32)) hx hb dX8_setActive_23 (by decide) ?_
    refine lv_iload_n hx hb dX8_setActive_25 rfl (lv_at hl 1 rfl) ?_
    refine lv_iadd hx hb dX8_setActive_26 ?_
    refine lv_iload_n hx hb dX8_setActive_27 rfl (lv_at hl 2 rfl) ?_
    refine lv_if_eq (tgt := 35) hx hb dX8_setActive_28 (by decide) (fun c4 => ?_) (fun c4 => ?_)
    · replace h := gif_t c4 h
      refine lv_iconst (v := (0 : Int32)) hx hb dX8_setActive_35 (by decide) ?_
      obtain ⟨c5, h⟩ := gchk_e h
      refine g_iast hx hb E hM hS hk_61 dd_61 c5 dX8_setActive_36 (fun H locs hM hS => ?_)
      refine lv_aload_n hx hb dX8_setActive_37 rfl (lv_at hl 0 rfl) ?_
      obtain ⟨q6, hq6, h⟩ := gbind_e h
      refine g_callV (As := []) (rest := []) hx hb (hml.trans hl.1.symm) hown E hM hS hy_X8_loopsNow kw_1750 (c_X8_loopsNow hq6) hk_60 dd_60 rfl rfl rfl (Nat.le_of_ble_eq_true rfl) ⟨Nat.le_of_ble_eq_true rfl, Nat.le_of_ble_eq_true rfl⟩ ⟨Nat.le_of_ble_eq_true rfl, Nat.le_of_ble_eq_true rfl⟩ dX8_setActive_38 (fun H locs hM hS => ?_)
      obtain rfl := Option.some.inj h
      exact g_iret hx hb hr hlocks hM hS dX8_setActive_41
    · replace h := gif_f c4 h
      refine lv_iconst (v := (1 : Int32)) hx hb dX8_setActive_31 (by decide) ?_
      refine lv_goto (tgt := 36) hx hb dX8_setActive_32 (by decide) ?_
      obtain ⟨c7, h⟩ := gchk_e h
      refine g_iast hx hb E hM hS hk_61 dd_61 c7 dX8_setActive_36 (fun H locs hM hS => ?_)
      refine lv_aload_n hx hb dX8_setActive_37 rfl (lv_at hl 0 rfl) ?_
      obtain ⟨q8, hq8, h⟩ := gbind_e h
      refine g_callV (As := []) (rest := []) hx hb (hml.trans hl.1.symm) hown E hM hS hy_X8_loopsNow kw_1750 (c_X8_loopsNow hq8) hk_60 dd_60 rfl rfl rfl (Nat.le_of_ble_eq_true rfl) ⟨Nat.le_of_ble_eq_true rfl, Nat.le_of_ble_eq_true rfl⟩ ⟨Nat.le_of_ble_eq_true rfl, Nat.le_of_ble_eq_true rfl⟩ dX8_setActive_38 (fun H locs hM hS => ?_)
      obtain rfl := Option.some.inj h
      exact g_iret hx hb hr hlocks hM hS dX8_setActive_41
  · replace h := gif_t c2 h
    refine lv_iconst (v := (-1 : Int32)) hx hb dX8_setActive_13 (by decide) ?_
    obtain rfl := Option.some.inj h
    exact g_iret hx hb hr hlocks hM hS dX8_setActive_14
def f_X8_collimates (p1 : Int32) (p2 : Int32) (μ : gM) : Option (Int32 × gM) :=
  Option.bind (f_X8_changes  μ) (fun q1 => gchk (gIn ((3 : Int32) + p1) 703) (gchk (gIn ((3 : Int32) + p1) 703) (some ((gi q1 61 ((3 : Int32) + p1).toNatClampNeg), (si q1 61 ((3 : Int32) + p1).toNatClampNeg p2)))))
set_option maxHeartbeats 4000000 in
set_option maxRecDepth 100000 in
theorem c_X8_collimates {l : Launch} {D : va_G} {cy : Nat → ClassId} {ad : Nat → Nat} {base : Nat} {p1 : Int32} {p2 : Int32} {μ : gM} {RES : Int32 × gM} (h : f_X8_collimates p1 p2 μ = some RES) : Met l yX8_collimates [.code yX8_collimates cX8_collimates 4 (some .int)] ({ frames := 2, cells := 0, slots := 0, locals := 41 } : Room) (va_Pc [.ref (ad 60), .int p1, .int p2] (gB l gFull D cy ad base μ)) (gQ (some (.int RES.1)) gFull D cy ad base RES.2) 0 0 (gA base) := by
  refine Met.ofW (cc := cX8_collimates) (maxL := 4) (ret := (some .int)) (by decide) rfl ?_
  intro p e s m args below meth c s₁ B hml0 hv
  obtain ⟨rfl, E, hM⟩ := hv
  have F : gF p s m meth c cX8_collimates RX8 4 (some .int) := gF_of B hml0
  obtain ⟨hx, hb, hml, hown, hlocks, hr⟩ := id F
  have hS : va_S (gA base) s.heap s.heap [] := va_S.rf
  have hl := lv_entry ([.ref (ad 60), .int p1, .int p2]) (n := 4) (Nat.le_of_ble_eq_true rfl)
  rw [lg_entry_eq]
  generalize (lg_sl ([.ref (ad 60), .int p1, .int p2]) ++ List.replicate (4 - (lg_sl ([.ref (ad 60), .int p1, .int p2])).length) Slot.unset).toArray = ls at hl ⊢
  have hl : lv_has ls 4 [(0, .ref (ad 60)), (1, .int p1), (2, .int p2)] := hl
  unfold f_X8_collimates at h
  refine lv_aload_n hx hb dX8_collimates_0 rfl (lv_at hl 0 rfl) ?_
  obtain ⟨q1, hq1, h⟩ := gbind_e h
  refine g_callV (As := []) (rest := []) hx hb (hml.trans hl.1.symm) hown E hM hS hy_X8_changes kw_1913 (c_X8_changes hq1) hk_60 dd_60 rfl rfl rfl (Nat.le_of_ble_eq_true rfl) ⟨Nat.le_of_ble_eq_true rfl, Nat.le_of_ble_eq_true rfl⟩ ⟨Nat.le_of_ble_eq_true rfl, Nat.le_of_ble_eq_true rfl⟩ dX8_collimates_1 (fun H locs hM hS => ?_)
  refine lv_aload_n hx hb dX8_collimates_4 rfl (lv_at hl 0 rfl) ?_
  refine gg_60_0 hx hb hown E hM hk_60 kw_1242 dX8_collimates_5 ?_
  refine lv_iconst (v := (3 : Int32)) hx hb dX8_collimates_8 (by decide) ?_
  refine lv_iload_n hx hb dX8_collimates_9 rfl (lv_at hl 1 rfl) ?_
  refine lv_iadd hx hb dX8_collimates_10 ?_
  obtain ⟨c2, h⟩ := gchk_e h
  refine g_iald hx hb E hM hk_61 dd_61 c2 dX8_collimates_11 ?_
  refine lv_istore_n (lv' := [(3, .int (gi q1 61 ((3 : Int32) + p1).toNatClampNeg)), (0, .ref (ad 60)), (1, .int p1), (2, .int p2)]) hx hb dX8_collimates_12 rfl hl (by decide) rfl (fun ls hl => ?_)
  refine lv_aload_n hx hb dX8_collimates_13 rfl (lv_at hl 1 rfl) ?_
  refine gg_60_0 hx hb hown E hM hk_60 kw_1242 dX8_collimates_14 ?_
  refine lv_iconst (v := (3 : Int32)) hx hb dX8_collimates_17 (by decide) ?_
  refine lv_iload_n hx hb dX8_collimates_18 rfl (lv_at hl 2 rfl) ?_
  refine lv_iadd hx hb dX8_collimates_19 ?_
  refine lv_iload_n hx hb dX8_collimates_20 rfl (lv_at hl 3 rfl) ?_
  obtain ⟨c3, h⟩ := gchk_e h
  refine g_iast hx hb E hM hS hk_61 dd_61 c3 dX8_collimates_21 (fun H locs hM hS => ?_)
  refine lv_iload_n hx hb dX8_collimates_22 rfl (lv_at hl 0 rfl) ?_
  obtain rfl := Option.some.inj h
  exact g_iret hx hb hr hlocks hM hS dX8_collimates_23
def f_X8_setCollimation (p1 : Int32) (p2 : Int32) (μ : gM) : Option (Int32 × gM) :=
  Option.bind (f_X8_isLevel p1 (si μ 60 6 (0 : Int32))) (fun q1 => if ((b2i q1) = 0) then some ((-2147483648 : Int32), (si μ 60 6 (0 : Int32))) else Option.bind (f_X8_inRange p2 (-200 : Int32) (200 : Int32) (si μ 60 6 (0 : Int32))) (fun q3 => if ((b2i q3) = 0) then some ((-2147483648 : Int32), (si μ 60 6 (0 : Int32))) else Option.bind (f_X8_collimates p1 p2 (si μ 60 6 (0 : Int32))) (fun q5 => some (q5.1, q5.2))))
set_option maxHeartbeats 4000000 in
set_option maxRecDepth 100000 in
theorem c_X8_setCollimation {l : Launch} {D : va_G} {cy : Nat → ClassId} {ad : Nat → Nat} {base : Nat} {p1 : Int32} {p2 : Int32} {μ : gM} {RES : Int32 × gM} (h : f_X8_setCollimation p1 p2 μ = some RES) : Met l yX8_setCollimation [.code yX8_setCollimation cX8_setCollimation 3 (some .int)] ({ frames := 3, cells := 0, slots := 0, locals := 64 } : Room) (va_Pc [.ref (ad 60), .int p1, .int p2] (gB l gFull D cy ad base μ)) (gQ (some (.int RES.1)) gFull D cy ad base RES.2) 0 0 (gA base) := by
  refine Met.ofW (cc := cX8_setCollimation) (maxL := 3) (ret := (some .int)) (by decide) rfl ?_
  intro p e s m args below meth c s₁ B hml0 hv
  obtain ⟨rfl, E, hM⟩ := hv
  have F : gF p s m meth c cX8_setCollimation RX8 3 (some .int) := gF_of B hml0
  obtain ⟨hx, hb, hml, hown, hlocks, hr⟩ := id F
  have hS : va_S (gA base) s.heap s.heap [] := va_S.rf
  have hl := lv_entry ([.ref (ad 60), .int p1, .int p2]) (n := 3) (Nat.le_of_ble_eq_true rfl)
  rw [lg_entry_eq]
  generalize (lg_sl ([.ref (ad 60), .int p1, .int p2]) ++ List.replicate (3 - (lg_sl ([.ref (ad 60), .int p1, .int p2])).length) Slot.unset).toArray = ls at hl ⊢
  have hl : lv_has ls 3 [(0, .ref (ad 60)), (1, .int p1), (2, .int p2)] := hl
  unfold f_X8_setCollimation at h
  refine lv_aload_n hx hb dX8_setCollimation_0 rfl (lv_at hl 0 rfl) ?_
  refine lv_iconst (v := (0 : Int32)) hx hb dX8_setCollimation_1 (by decide) ?_
  refine gp_60_6 hx hb hown E hM hS hk_60 kw_1248 dX8_setCollimation_2 (fun H locs hM hS => ?_)
  refine lv_aload_n hx hb dX8_setCollimation_5 rfl (lv_at hl 0 rfl) ?_
  refine lv_iload_n hx hb dX8_setCollimation_6 rfl (lv_at hl 1 rfl) ?_
  obtain ⟨q1, hq1, h⟩ := gbind_e h
  refine g_callV (As := [.int p1]) (rest := []) hx hb (hml.trans hl.1.symm) hown E hM hS hy_X8_isLevel kw_1530 (c_X8_isLevel hq1) hk_60 dd_60 rfl rfl rfl (Nat.le_of_ble_eq_true rfl) ⟨Nat.le_of_ble_eq_true rfl, Nat.le_of_ble_eq_true rfl⟩ ⟨Nat.le_of_ble_eq_true rfl, Nat.le_of_ble_eq_true rfl⟩ dX8_setCollimation_7 (fun H locs hM hS => ?_)
  refine lv_if_eq (tgt := 35) hx hb dX8_setCollimation_10 (by decide) (fun c2 => ?_) (fun c2 => ?_)
  · replace h := gif_t c2 h
    refine lv_ldc hx hb hown (v := (-2147483648 : Int32)) (E.kw kw_1554) dX8_setCollimation_35 ?_
    obtain rfl := Option.some.inj h
    exact g_iret hx hb hr hlocks hM hS dX8_setCollimation_37
  · replace h := gif_f c2 h
    refine lv_iload_n hx hb dX8_setCollimation_13 rfl (lv_at hl 2 rfl) ?_
    refine lv_sipush (v := (-200 : Int32)) hx hb dX8_setCollimation_14 (by decide) ?_
    refine lv_sipush (v := (200 : Int32)) hx hb dX8_setCollimation_17 (by decide) ?_
    obtain ⟨q3, hq3, h⟩ := gbind_e h
    refine g_callS (As := [.int p2, .int (-200 : Int32), .int (200 : Int32)]) (rest := []) hx hb (hml.trans hl.1.symm) hown E hM hS hy_X8_inRange kw_1379 (c_X8_inRange hq3) rfl rfl (Nat.le_of_ble_eq_true rfl) ⟨Nat.le_of_ble_eq_true rfl, Nat.le_of_ble_eq_true rfl⟩ ⟨Nat.le_of_ble_eq_true rfl, Nat.le_of_ble_eq_true rfl⟩ dX8_setCollimation_20 (fun H locs hM hS => ?_)
    refine lv_if_eq (tgt := 35) hx hb dX8_setCollimation_23 (by decide) (fun c4 => ?_) (fun c4 => ?_)
    · replace h := gif_t c4 h
      refine lv_ldc hx hb hown (v := (-2147483648 : Int32)) (E.kw kw_1554) dX8_setCollimation_35 ?_
      obtain rfl := Option.some.inj h
      exact g_iret hx hb hr hlocks hM hS dX8_setCollimation_37
    · replace h := gif_f c4 h
      refine lv_aload_n hx hb dX8_setCollimation_26 rfl (lv_at hl 0 rfl) ?_
      refine lv_iload_n hx hb dX8_setCollimation_27 rfl (lv_at hl 1 rfl) ?_
      refine lv_iload_n hx hb dX8_setCollimation_28 rfl (lv_at hl 2 rfl) ?_
      obtain ⟨q5, hq5, h⟩ := gbind_e h
      refine g_callV (As := [.int p1, .int p2]) (rest := []) hx hb (hml.trans hl.1.symm) hown E hM hS hy_X8_collimates kw_1944 (c_X8_collimates hq5) hk_60 dd_60 rfl rfl rfl (Nat.le_of_ble_eq_true rfl) ⟨Nat.le_of_ble_eq_true rfl, Nat.le_of_ble_eq_true rfl⟩ ⟨Nat.le_of_ble_eq_true rfl, Nat.le_of_ble_eq_true rfl⟩ dX8_setCollimation_29 (fun H locs hM hS => ?_)
      refine lv_goto (tgt := 37) hx hb dX8_setCollimation_32 (by decide) ?_
      obtain rfl := Option.some.inj h
      exact g_iret hx hb hr hlocks hM hS dX8_setCollimation_37
def f_X8_applyTest (p1 : Int32) (μ : gM) : Option (Int32 × gM) :=
  Option.bind (f_X8_isTest p1 (si μ 60 6 (0 : Int32))) (fun q1 => if ((b2i q1) = 0) then some ((-2147483648 : Int32), (si μ 60 6 (0 : Int32))) else Option.bind (f_X8_result p1 (si μ 60 6 (0 : Int32))) (fun q3 => if (q3 = (-2147483648 : Int32)) then some ((-2147483648 : Int32), (si μ 60 6 (0 : Int32))) else gchk (gIn ((64 : Int32) + ((9 : Int32) * p1)) 137) (Option.bind (f_X8_result p1 (si μ 60 6 (0 : Int32))) (fun q6 => Option.bind (f_X8_collimates (gi (si μ 60 6 (0 : Int32)) 66 ((64 : Int32) + ((9 : Int32) * p1)).toNatClampNeg) q6 (si μ 60 6 (0 : Int32))) (fun q7 => some (q7.1, q7.2))))))
set_option maxHeartbeats 4000000 in
set_option maxRecDepth 100000 in
theorem c_X8_applyTest {l : Launch} {D : va_G} {cy : Nat → ClassId} {ad : Nat → Nat} {base : Nat} {p1 : Int32} {μ : gM} {RES : Int32 × gM} (h : f_X8_applyTest p1 μ = some RES) : Met l yX8_applyTest [.code yX8_applyTest cX8_applyTest 2 (some .int)] ({ frames := 3, cells := 0, slots := 0, locals := 66 } : Room) (va_Pc [.ref (ad 60), .int p1] (gB l gFull D cy ad base μ)) (gQ (some (.int RES.1)) gFull D cy ad base RES.2) 0 0 (gA base) := by
  refine Met.ofW (cc := cX8_applyTest) (maxL := 2) (ret := (some .int)) (by decide) rfl ?_
  intro p e s m args below meth c s₁ B hml0 hv
  obtain ⟨rfl, E, hM⟩ := hv
  have F : gF p s m meth c cX8_applyTest RX8 2 (some .int) := gF_of B hml0
  obtain ⟨hx, hb, hml, hown, hlocks, hr⟩ := id F
  have hS : va_S (gA base) s.heap s.heap [] := va_S.rf
  have hl := lv_entry ([.ref (ad 60), .int p1]) (n := 2) (Nat.le_of_ble_eq_true rfl)
  rw [lg_entry_eq]
  generalize (lg_sl ([.ref (ad 60), .int p1]) ++ List.replicate (2 - (lg_sl ([.ref (ad 60), .int p1])).length) Slot.unset).toArray = ls at hl ⊢
  have hl : lv_has ls 2 [(0, .ref (ad 60)), (1, .int p1)] := hl
  unfold f_X8_applyTest at h
  refine lv_aload_n hx hb dX8_applyTest_0 rfl (lv_at hl 0 rfl) ?_
  refine lv_iconst (v := (0 : Int32)) hx hb dX8_applyTest_1 (by decide) ?_
  refine gp_60_6 hx hb hown E hM hS hk_60 kw_1248 dX8_applyTest_2 (fun H locs hM hS => ?_)
  refine lv_aload_n hx hb dX8_applyTest_5 rfl (lv_at hl 0 rfl) ?_
  refine lv_iload_n hx hb dX8_applyTest_6 rfl (lv_at hl 1 rfl) ?_
  obtain ⟨q1, hq1, h⟩ := gbind_e h
  refine g_callV (As := [.int p1]) (rest := []) hx hb (hml.trans hl.1.symm) hown E hM hS hy_X8_isTest kw_1542 (c_X8_isTest hq1) hk_60 dd_60 rfl rfl rfl (Nat.le_of_ble_eq_true rfl) ⟨Nat.le_of_ble_eq_true rfl, Nat.le_of_ble_eq_true rfl⟩ ⟨Nat.le_of_ble_eq_true rfl, Nat.le_of_ble_eq_true rfl⟩ dX8_applyTest_7 (fun H locs hM hS => ?_)
  refine lv_if_eq (tgt := 47) hx hb dX8_applyTest_10 (by decide) (fun c2 => ?_) (fun c2 => ?_)
  · replace h := gif_t c2 h
    refine lv_ldc hx hb hown (v := (-2147483648 : Int32)) (E.kw kw_1554) dX8_applyTest_47 ?_
    obtain rfl := Option.some.inj h
    exact g_iret hx hb hr hlocks hM hS dX8_applyTest_49
  · replace h := gif_f c2 h
    refine lv_aload_n hx hb dX8_applyTest_13 rfl (lv_at hl 0 rfl) ?_
    refine lv_iload_n hx hb dX8_applyTest_14 rfl (lv_at hl 1 rfl) ?_
    obtain ⟨q3, hq3, h⟩ := gbind_e h
    refine g_callV (As := [.int p1]) (rest := []) hx hb (hml.trans hl.1.symm) hown E hM hS hy_X8_result kw_1546 (c_X8_result hq3) hk_60 dd_60 rfl rfl rfl (Nat.le_of_ble_eq_true rfl) ⟨Nat.le_of_ble_eq_true rfl, Nat.le_of_ble_eq_true rfl⟩ ⟨Nat.le_of_ble_eq_true rfl, Nat.le_of_ble_eq_true rfl⟩ dX8_applyTest_15 (fun H locs hM hS => ?_)
    refine lv_ldc hx hb hown (v := (-2147483648 : Int32)) (E.kw kw_1554) dX8_applyTest_18 ?_
    refine lv_icmp_eq (tgt := 47) hx hb dX8_applyTest_20 (by decide) (fun c4 => ?_) (fun c4 => ?_)
    · replace h := gif_t c4 h
      refine lv_ldc hx hb hown (v := (-2147483648 : Int32)) (E.kw kw_1554) dX8_applyTest_47 ?_
      obtain rfl := Option.some.inj h
      exact g_iret hx hb hr hlocks hM hS dX8_applyTest_49
    · replace h := gif_f c4 h
      refine lv_aload_n hx hb dX8_applyTest_23 rfl (lv_at hl 0 rfl) ?_
      refine lv_aload_n hx hb dX8_applyTest_24 rfl (lv_at hl 0 rfl) ?_
      refine gg_60_7 hx hb hown E hM hk_60 kw_1249 dX8_applyTest_25 ?_
      refine lv_bipush (v := (64 : Int32)) hx hb dX8_applyTest_28 (by decide) ?_
      refine lv_bipush (v := (9 : Int32)) hx hb dX8_applyTest_30 (by decide) ?_
      refine lv_iload_n hx hb dX8_applyTest_32 rfl (lv_at hl 1 rfl) ?_
      refine lv_imul hx hb dX8_applyTest_33 ?_
      refine lv_iadd hx hb dX8_applyTest_34 ?_
      obtain ⟨c5, h⟩ := gchk_e h
      refine g_iald hx hb E hM hk_66 dd_66 c5 dX8_applyTest_35 ?_
      refine lv_aload_n hx hb dX8_applyTest_36 rfl (lv_at hl 0 rfl) ?_
      refine lv_iload_n hx hb dX8_applyTest_37 rfl (lv_at hl 1 rfl) ?_
      obtain ⟨q6, hq6, h⟩ := gbind_e h
      refine g_callV (As := [.int p1]) (rest := [.int (gi (si μ 60 6 (0 : Int32)) 66 ((64 : Int32) + ((9 : Int32) * p1)).toNatClampNeg), .ref (ad 60)]) hx hb (hml.trans hl.1.symm) hown E hM hS hy_X8_result kw_1546 (c_X8_result hq6) hk_60 dd_60 rfl rfl rfl (Nat.le_of_ble_eq_true rfl) ⟨Nat.le_of_ble_eq_true rfl, Nat.le_of_ble_eq_true rfl⟩ ⟨Nat.le_of_ble_eq_true rfl, Nat.le_of_ble_eq_true rfl⟩ dX8_applyTest_38 (fun H locs hM hS => ?_)
      obtain ⟨q7, hq7, h⟩ := gbind_e h
      refine g_callV (As := [.int (gi (si μ 60 6 (0 : Int32)) 66 ((64 : Int32) + ((9 : Int32) * p1)).toNatClampNeg), .int q6]) (rest := []) hx hb (hml.trans hl.1.symm) hown E hM hS hy_X8_collimates kw_1944 (c_X8_collimates hq7) hk_60 dd_60 rfl rfl rfl (Nat.le_of_ble_eq_true rfl) ⟨Nat.le_of_ble_eq_true rfl, Nat.le_of_ble_eq_true rfl⟩ ⟨Nat.le_of_ble_eq_true rfl, Nat.le_of_ble_eq_true rfl⟩ dX8_applyTest_41 (fun H locs hM hS => ?_)
      refine lv_goto (tgt := 49) hx hb dX8_applyTest_44 (by decide) ?_
      obtain rfl := Option.some.inj h
      exact g_iret hx hb hr hlocks hM hS dX8_applyTest_49
def f_X8_setSetting (p1 : Int32) (p2 : Int32) (μ : gM) : Option (Int32 × gM) :=
  Option.bind (f_X8_inRange p1 (0 : Int32) (2 : Int32) (si μ 60 6 (0 : Int32))) (fun q1 => if ((b2i q1) = 0) then some ((-2 : Int32), (si μ 60 6 (0 : Int32))) else Option.bind (f_X8_leastOf p1 (si μ 60 6 (0 : Int32))) (fun q3 => Option.bind (f_X8_mostOf p1 (si μ 60 6 (0 : Int32))) (fun q4 => Option.bind (f_X8_inRange p2 q3 q4 (si μ 60 6 (0 : Int32))) (fun q5 => if ((b2i q5) = 0) then some ((-2 : Int32), (si μ 60 6 (0 : Int32))) else Option.bind (f_X8_changes  (si μ 60 6 (0 : Int32))) (fun q7 => gchk (gIn p1 703) (gchk (gIn p1 703) (some ((gi q7 61 p1.toNatClampNeg), (si q7 61 p1.toNatClampNeg p2)))))))))
set_option maxHeartbeats 4000000 in
set_option maxRecDepth 100000 in
theorem c_X8_setSetting {l : Launch} {D : va_G} {cy : Nat → ClassId} {ad : Nat → Nat} {base : Nat} {p1 : Int32} {p2 : Int32} {μ : gM} {RES : Int32 × gM} (h : f_X8_setSetting p1 p2 μ = some RES) : Met l yX8_setSetting [.code yX8_setSetting cX8_setSetting 4 (some .int)] ({ frames := 2, cells := 0, slots := 0, locals := 41 } : Room) (va_Pc [.ref (ad 60), .int p1, .int p2] (gB l gFull D cy ad base μ)) (gQ (some (.int RES.1)) gFull D cy ad base RES.2) 0 0 (gA base) := by
  refine Met.ofW (cc := cX8_setSetting) (maxL := 4) (ret := (some .int)) (by decide) rfl ?_
  intro p e s m args below meth c s₁ B hml0 hv
  obtain ⟨rfl, E, hM⟩ := hv
  have F : gF p s m meth c cX8_setSetting RX8 4 (some .int) := gF_of B hml0
  obtain ⟨hx, hb, hml, hown, hlocks, hr⟩ := id F
  have hS : va_S (gA base) s.heap s.heap [] := va_S.rf
  have hl := lv_entry ([.ref (ad 60), .int p1, .int p2]) (n := 4) (Nat.le_of_ble_eq_true rfl)
  rw [lg_entry_eq]
  generalize (lg_sl ([.ref (ad 60), .int p1, .int p2]) ++ List.replicate (4 - (lg_sl ([.ref (ad 60), .int p1, .int p2])).length) Slot.unset).toArray = ls at hl ⊢
  have hl : lv_has ls 4 [(0, .ref (ad 60)), (1, .int p1), (2, .int p2)] := hl
  unfold f_X8_setSetting at h
  refine lv_aload_n hx hb dX8_setSetting_0 rfl (lv_at hl 0 rfl) ?_
  refine lv_iconst (v := (0 : Int32)) hx hb dX8_setSetting_1 (by decide) ?_
  refine gp_60_6 hx hb hown E hM hS hk_60 kw_1248 dX8_setSetting_2 (fun H locs hM hS => ?_)
  refine lv_iload_n hx hb dX8_setSetting_5 rfl (lv_at hl 1 rfl) ?_
  refine lv_iconst (v := (0 : Int32)) hx hb dX8_setSetting_6 (by decide) ?_
  refine lv_iconst (v := (2 : Int32)) hx hb dX8_setSetting_7 (by decide) ?_
  obtain ⟨q1, hq1, h⟩ := gbind_e h
  refine g_callS (As := [.int p1, .int (0 : Int32), .int (2 : Int32)]) (rest := []) hx hb (hml.trans hl.1.symm) hown E hM hS hy_X8_inRange kw_1379 (c_X8_inRange hq1) rfl rfl (Nat.le_of_ble_eq_true rfl) ⟨Nat.le_of_ble_eq_true rfl, Nat.le_of_ble_eq_true rfl⟩ ⟨Nat.le_of_ble_eq_true rfl, Nat.le_of_ble_eq_true rfl⟩ dX8_setSetting_8 (fun H locs hM hS => ?_)
  refine lv_if_eq (tgt := 29) hx hb dX8_setSetting_11 (by decide) (fun c2 => ?_) (fun c2 => ?_)
  · replace h := gif_t c2 h
    refine lv_bipush (v := (-2 : Int32)) hx hb dX8_setSetting_29 (by decide) ?_
    obtain rfl := Option.some.inj h
    exact g_iret hx hb hr hlocks hM hS dX8_setSetting_31
  · replace h := gif_f c2 h
    refine lv_iload_n hx hb dX8_setSetting_14 rfl (lv_at hl 2 rfl) ?_
    refine lv_iload_n hx hb dX8_setSetting_15 rfl (lv_at hl 1 rfl) ?_
    obtain ⟨q3, hq3, h⟩ := gbind_e h
    refine g_callS (As := [.int p1]) (rest := [.int p2]) hx hb (hml.trans hl.1.symm) hown E hM hS hy_X8_leastOf kw_1488 (c_X8_leastOf hq3) rfl rfl (Nat.le_of_ble_eq_true rfl) ⟨Nat.le_of_ble_eq_true rfl, Nat.le_of_ble_eq_true rfl⟩ ⟨Nat.le_of_ble_eq_true rfl, Nat.le_of_ble_eq_true rfl⟩ dX8_setSetting_16 (fun H locs hM hS => ?_)
    refine lv_iload_n hx hb dX8_setSetting_19 rfl (lv_at hl 1 rfl) ?_
    obtain ⟨q4, hq4, h⟩ := gbind_e h
    refine g_callS (As := [.int p1]) (rest := [.int q3, .int p2]) hx hb (hml.trans hl.1.symm) hown E hM hS hy_X8_mostOf kw_1491 (c_X8_mostOf hq4) rfl rfl (Nat.le_of_ble_eq_true rfl) ⟨Nat.le_of_ble_eq_true rfl, Nat.le_of_ble_eq_true rfl⟩ ⟨Nat.le_of_ble_eq_true rfl, Nat.le_of_ble_eq_true rfl⟩ dX8_setSetting_20 (fun H locs hM hS => ?_)
    obtain ⟨q5, hq5, h⟩ := gbind_e h
    refine g_callS (As := [.int p2, .int q3, .int q4]) (rest := []) hx hb (hml.trans hl.1.symm) hown E hM hS hy_X8_inRange kw_1379 (c_X8_inRange hq5) rfl rfl (Nat.le_of_ble_eq_true rfl) ⟨Nat.le_of_ble_eq_true rfl, Nat.le_of_ble_eq_true rfl⟩ ⟨Nat.le_of_ble_eq_true rfl, Nat.le_of_ble_eq_true rfl⟩ dX8_setSetting_23 (fun H locs hM hS => ?_)
    refine lv_if_ne (tgt := 32) hx hb dX8_setSetting_26 (by decide) (fun c6 => ?_) (fun c6 => ?_)
    · replace h := gif_f c6 h
      refine lv_aload_n hx hb dX8_setSetting_32 rfl (lv_at hl 0 rfl) ?_
      obtain ⟨q7, hq7, h⟩ := gbind_e h
      refine g_callV (As := []) (rest := []) hx hb (hml.trans hl.1.symm) hown E hM hS hy_X8_changes kw_1913 (c_X8_changes hq7) hk_60 dd_60 rfl rfl rfl (Nat.le_of_ble_eq_true rfl) ⟨Nat.le_of_ble_eq_true rfl, Nat.le_of_ble_eq_true rfl⟩ ⟨Nat.le_of_ble_eq_true rfl, Nat.le_of_ble_eq_true rfl⟩ dX8_setSetting_33 (fun H locs hM hS => ?_)
      refine lv_aload_n hx hb dX8_setSetting_36 rfl (lv_at hl 0 rfl) ?_
      refine gg_60_0 hx hb hown E hM hk_60 kw_1242 dX8_setSetting_37 ?_
      refine lv_iload_n hx hb dX8_setSetting_40 rfl (lv_at hl 1 rfl) ?_
      obtain ⟨c8, h⟩ := gchk_e h
      refine g_iald hx hb E hM hk_61 dd_61 c8 dX8_setSetting_41 ?_
      refine lv_istore_n (lv' := [(3, .int (gi q7 61 p1.toNatClampNeg)), (0, .ref (ad 60)), (1, .int p1), (2, .int p2)]) hx hb dX8_setSetting_42 rfl hl (by decide) rfl (fun ls hl => ?_)
      refine lv_aload_n hx hb dX8_setSetting_43 rfl (lv_at hl 1 rfl) ?_
      refine gg_60_0 hx hb hown E hM hk_60 kw_1242 dX8_setSetting_44 ?_
      refine lv_iload_n hx hb dX8_setSetting_47 rfl (lv_at hl 2 rfl) ?_
      refine lv_iload_n hx hb dX8_setSetting_48 rfl (lv_at hl 3 rfl) ?_
      obtain ⟨c9, h⟩ := gchk_e h
      refine g_iast hx hb E hM hS hk_61 dd_61 c9 dX8_setSetting_49 (fun H locs hM hS => ?_)
      refine lv_iload_n hx hb dX8_setSetting_50 rfl (lv_at hl 0 rfl) ?_
      obtain rfl := Option.some.inj h
      exact g_iret hx hb hr hlocks hM hS dX8_setSetting_51
    · replace h := gif_t c6 h
      refine lv_bipush (v := (-2 : Int32)) hx hb dX8_setSetting_29 (by decide) ?_
      obtain rfl := Option.some.inj h
      exact g_iret hx hb hr hlocks hM hS dX8_setSetting_31
