theorem dL_collimation_0 : decode cL_collimation 0 = .ok (.aload_n 2, 1) := by decide +kernel
theorem dL_collimation_1 : decode cL_collimation 1 = .ok (.iconst 0, 1) := by decide +kernel
theorem dL_collimation_2 : decode cL_collimation 2 = .ok (.aload_n 0, 1) := by decide +kernel
theorem dL_collimation_3 : decode cL_collimation 3 = .ok (.iload_n 1, 1) := by decide +kernel
theorem dL_collimation_4 : decode cL_collimation 4 = .ok (.invokevirtual 7, 3) := by decide +kernel
theorem dL_collimation_7 : decode cL_collimation 7 = .ok (.i2l, 1) := by decide +kernel
theorem dL_collimation_8 : decode cL_collimation 8 = .ok (.lastore, 1) := by decide +kernel
theorem dL_collimation_9 : decode cL_collimation 9 = .ok (.goto 6, 3) := by decide +kernel
theorem dL_collimation_12 : decode cL_collimation 12 = .ok (.astore_n 3, 1) := by decide +kernel
theorem dL_collimation_13 : decode cL_collimation 13 = .ok (.iconst 1, 1) := by decide +kernel
theorem dL_collimation_14 : decode cL_collimation 14 = .ok (.ireturn, 1) := by decide +kernel
theorem dL_collimation_15 : decode cL_collimation 15 = .ok (.iconst 0, 1) := by decide +kernel
theorem dL_collimation_16 : decode cL_collimation 16 = .ok (.ireturn, 1) := by decide +kernel
theorem dL_testNumber_0 : decode cL_testNumber 0 = .ok (.aload_n 3, 1) := by decide +kernel
theorem dL_testNumber_1 : decode cL_testNumber 1 = .ok (.iconst 0, 1) := by decide +kernel
theorem dL_testNumber_2 : decode cL_testNumber 2 = .ok (.aload_n 0, 1) := by decide +kernel
theorem dL_testNumber_3 : decode cL_testNumber 3 = .ok (.iload_n 1, 1) := by decide +kernel
theorem dL_testNumber_4 : decode cL_testNumber 4 = .ok (.iload_n 2, 1) := by decide +kernel
theorem dL_testNumber_5 : decode cL_testNumber 5 = .ok (.invokevirtual 15, 3) := by decide +kernel
theorem dL_testNumber_8 : decode cL_testNumber 8 = .ok (.i2l, 1) := by decide +kernel
theorem dL_testNumber_9 : decode cL_testNumber 9 = .ok (.lastore, 1) := by decide +kernel
theorem dL_testNumber_10 : decode cL_testNumber 10 = .ok (.goto 7, 3) := by decide +kernel
theorem dL_testNumber_13 : decode cL_testNumber 13 = .ok (.astore 4, 2) := by decide +kernel
theorem dL_testNumber_15 : decode cL_testNumber 15 = .ok (.iconst 1, 1) := by decide +kernel
theorem dL_testNumber_16 : decode cL_testNumber 16 = .ok (.ireturn, 1) := by decide +kernel
theorem dL_testNumber_17 : decode cL_testNumber 17 = .ok (.iconst 0, 1) := by decide +kernel
theorem dL_testNumber_18 : decode cL_testNumber 18 = .ok (.ireturn, 1) := by decide +kernel
theorem dL_heldAt_0 : decode cL_heldAt 0 = .ok (.aload_n 2, 1) := by decide +kernel
theorem dL_heldAt_1 : decode cL_heldAt 1 = .ok (.iconst 0, 1) := by decide +kernel
theorem dL_heldAt_2 : decode cL_heldAt 2 = .ok (.aload_n 0, 1) := by decide +kernel
theorem dL_heldAt_3 : decode cL_heldAt 3 = .ok (.iload_n 1, 1) := by decide +kernel
theorem dL_heldAt_4 : decode cL_heldAt 4 = .ok (.invokevirtual 19, 3) := by decide +kernel
theorem dL_heldAt_7 : decode cL_heldAt 7 = .ok (.i2l, 1) := by decide +kernel
theorem dL_heldAt_8 : decode cL_heldAt 8 = .ok (.lastore, 1) := by decide +kernel
theorem dL_heldAt_9 : decode cL_heldAt 9 = .ok (.goto 6, 3) := by decide +kernel
theorem dL_heldAt_12 : decode cL_heldAt 12 = .ok (.astore_n 3, 1) := by decide +kernel
theorem dL_heldAt_13 : decode cL_heldAt 13 = .ok (.iconst 1, 1) := by decide +kernel
theorem dL_heldAt_14 : decode cL_heldAt 14 = .ok (.ireturn, 1) := by decide +kernel
theorem dL_heldAt_15 : decode cL_heldAt 15 = .ok (.iconst 0, 1) := by decide +kernel
theorem dL_heldAt_16 : decode cL_heldAt 16 = .ok (.ireturn, 1) := by decide +kernel
theorem dL_lineProperty_0 : decode cL_lineProperty 0 = .ok (.aload_n 3, 1) := by decide +kernel
theorem dL_lineProperty_1 : decode cL_lineProperty 1 = .ok (.iconst 0, 1) := by decide +kernel
theorem dL_lineProperty_2 : decode cL_lineProperty 2 = .ok (.aload_n 0, 1) := by decide +kernel
theorem dL_lineProperty_3 : decode cL_lineProperty 3 = .ok (.iload_n 1, 1) := by decide +kernel
theorem dL_lineProperty_4 : decode cL_lineProperty 4 = .ok (.iload_n 2, 1) := by decide +kernel
theorem dL_lineProperty_5 : decode cL_lineProperty 5 = .ok (.invokevirtual 22, 3) := by decide +kernel
theorem dL_lineProperty_8 : decode cL_lineProperty 8 = .ok (.i2l, 1) := by decide +kernel
theorem dL_lineProperty_9 : decode cL_lineProperty 9 = .ok (.lastore, 1) := by decide +kernel
theorem dL_lineProperty_10 : decode cL_lineProperty 10 = .ok (.goto 7, 3) := by decide +kernel
theorem dL_lineProperty_13 : decode cL_lineProperty 13 = .ok (.astore 4, 2) := by decide +kernel
theorem dL_lineProperty_15 : decode cL_lineProperty 15 = .ok (.iconst 1, 1) := by decide +kernel
theorem dL_lineProperty_16 : decode cL_lineProperty 16 = .ok (.ireturn, 1) := by decide +kernel
theorem dL_lineProperty_17 : decode cL_lineProperty 17 = .ok (.iconst 0, 1) := by decide +kernel
theorem dL_lineProperty_18 : decode cL_lineProperty 18 = .ok (.ireturn, 1) := by decide +kernel
theorem dL_reading_0 : decode cL_reading 0 = .ok (.aload 4, 2) := by decide +kernel
theorem dL_reading_2 : decode cL_reading 2 = .ok (.iconst 0, 1) := by decide +kernel
theorem dL_reading_3 : decode cL_reading 3 = .ok (.aload_n 0, 1) := by decide +kernel
theorem dL_reading_4 : decode cL_reading 4 = .ok (.iload_n 1, 1) := by decide +kernel
theorem dL_reading_5 : decode cL_reading 5 = .ok (.iload_n 2, 1) := by decide +kernel
theorem dL_reading_6 : decode cL_reading 6 = .ok (.iload_n 3, 1) := by decide +kernel
theorem dL_reading_7 : decode cL_reading 7 = .ok (.invokevirtual 25, 3) := by decide +kernel
theorem dL_reading_10 : decode cL_reading 10 = .ok (.i2l, 1) := by decide +kernel
theorem dL_reading_11 : decode cL_reading 11 = .ok (.lastore, 1) := by decide +kernel
theorem dL_reading_12 : decode cL_reading 12 = .ok (.goto 7, 3) := by decide +kernel
theorem dL_reading_15 : decode cL_reading 15 = .ok (.astore 5, 2) := by decide +kernel
theorem dL_reading_17 : decode cL_reading 17 = .ok (.iconst 1, 1) := by decide +kernel
theorem dL_reading_18 : decode cL_reading 18 = .ok (.ireturn, 1) := by decide +kernel
theorem dL_reading_19 : decode cL_reading 19 = .ok (.iconst 0, 1) := by decide +kernel
theorem dL_reading_20 : decode cL_reading 20 = .ok (.ireturn, 1) := by decide +kernel
theorem dL_stepOf_0 : decode cL_stepOf 0 = .ok (.aload_n 3, 1) := by decide +kernel
theorem dL_stepOf_1 : decode cL_stepOf 1 = .ok (.iconst 0, 1) := by decide +kernel
theorem dL_stepOf_2 : decode cL_stepOf 2 = .ok (.aload_n 0, 1) := by decide +kernel
theorem dL_stepOf_3 : decode cL_stepOf 3 = .ok (.iload_n 1, 1) := by decide +kernel
theorem dL_stepOf_4 : decode cL_stepOf 4 = .ok (.iload_n 2, 1) := by decide +kernel
theorem dL_stepOf_5 : decode cL_stepOf 5 = .ok (.invokevirtual 29, 3) := by decide +kernel
theorem dL_stepOf_8 : decode cL_stepOf 8 = .ok (.i2l, 1) := by decide +kernel
theorem dL_stepOf_9 : decode cL_stepOf 9 = .ok (.lastore, 1) := by decide +kernel
theorem dL_stepOf_10 : decode cL_stepOf 10 = .ok (.goto 7, 3) := by decide +kernel
theorem dL_stepOf_13 : decode cL_stepOf 13 = .ok (.astore 4, 2) := by decide +kernel
theorem dL_stepOf_15 : decode cL_stepOf 15 = .ok (.iconst 1, 1) := by decide +kernel
theorem dL_stepOf_16 : decode cL_stepOf 16 = .ok (.ireturn, 1) := by decide +kernel
theorem dL_stepOf_17 : decode cL_stepOf 17 = .ok (.iconst 0, 1) := by decide +kernel
theorem dL_stepOf_18 : decode cL_stepOf 18 = .ok (.ireturn, 1) := by decide +kernel
theorem dL_riseOf_0 : decode cL_riseOf 0 = .ok (.aload_n 2, 1) := by decide +kernel
theorem dL_riseOf_1 : decode cL_riseOf 1 = .ok (.iconst 0, 1) := by decide +kernel
theorem dL_riseOf_2 : decode cL_riseOf 2 = .ok (.aload_n 0, 1) := by decide +kernel
theorem dL_riseOf_3 : decode cL_riseOf 3 = .ok (.iload_n 1, 1) := by decide +kernel
theorem dL_riseOf_4 : decode cL_riseOf 4 = .ok (.invokevirtual 32, 3) := by decide +kernel
theorem dL_riseOf_7 : decode cL_riseOf 7 = .ok (.i2l, 1) := by decide +kernel
theorem dL_riseOf_8 : decode cL_riseOf 8 = .ok (.lastore, 1) := by decide +kernel
theorem dL_riseOf_9 : decode cL_riseOf 9 = .ok (.goto 6, 3) := by decide +kernel
theorem dL_riseOf_12 : decode cL_riseOf 12 = .ok (.astore_n 3, 1) := by decide +kernel
theorem dL_riseOf_13 : decode cL_riseOf 13 = .ok (.iconst 1, 1) := by decide +kernel
theorem dL_riseOf_14 : decode cL_riseOf 14 = .ok (.ireturn, 1) := by decide +kernel
theorem dL_riseOf_15 : decode cL_riseOf 15 = .ok (.iconst 0, 1) := by decide +kernel
theorem dL_riseOf_16 : decode cL_riseOf 16 = .ok (.ireturn, 1) := by decide +kernel
theorem dL_collimationEffect_0 : decode cL_collimationEffect 0 = .ok (.aload_n 2, 1) := by decide +kernel
theorem dL_collimationEffect_1 : decode cL_collimationEffect 1 = .ok (.iconst 0, 1) := by decide +kernel
theorem dL_collimationEffect_2 : decode cL_collimationEffect 2 = .ok (.aload_n 0, 1) := by decide +kernel
theorem dL_collimationEffect_3 : decode cL_collimationEffect 3 = .ok (.iload_n 1, 1) := by decide +kernel
theorem dL_collimationEffect_4 : decode cL_collimationEffect 4 = .ok (.invokevirtual 35, 3) := by decide +kernel
theorem dL_collimationEffect_7 : decode cL_collimationEffect 7 = .ok (.i2l, 1) := by decide +kernel
theorem dL_collimationEffect_8 : decode cL_collimationEffect 8 = .ok (.lastore, 1) := by decide +kernel
theorem dL_collimationEffect_9 : decode cL_collimationEffect 9 = .ok (.goto 6, 3) := by decide +kernel
theorem dL_collimationEffect_12 : decode cL_collimationEffect 12 = .ok (.astore_n 3, 1) := by decide +kernel
theorem dL_collimationEffect_13 : decode cL_collimationEffect 13 = .ok (.iconst 1, 1) := by decide +kernel
theorem dL_collimationEffect_14 : decode cL_collimationEffect 14 = .ok (.ireturn, 1) := by decide +kernel
theorem dL_collimationEffect_15 : decode cL_collimationEffect 15 = .ok (.iconst 0, 1) := by decide +kernel
theorem dL_collimationEffect_16 : decode cL_collimationEffect 16 = .ok (.ireturn, 1) := by decide +kernel
theorem dL_imbalance_0 : decode cL_imbalance 0 = .ok (.aload_n 2, 1) := by decide +kernel
theorem dL_imbalance_1 : decode cL_imbalance 1 = .ok (.iconst 0, 1) := by decide +kernel
theorem dL_imbalance_2 : decode cL_imbalance 2 = .ok (.aload_n 0, 1) := by decide +kernel
theorem dL_imbalance_3 : decode cL_imbalance 3 = .ok (.iload_n 1, 1) := by decide +kernel
theorem dL_imbalance_4 : decode cL_imbalance 4 = .ok (.invokevirtual 38, 3) := by decide +kernel
theorem dL_imbalance_7 : decode cL_imbalance 7 = .ok (.i2l, 1) := by decide +kernel
theorem dL_imbalance_8 : decode cL_imbalance 8 = .ok (.lastore, 1) := by decide +kernel
theorem dL_imbalance_9 : decode cL_imbalance 9 = .ok (.goto 6, 3) := by decide +kernel
theorem dL_imbalance_12 : decode cL_imbalance 12 = .ok (.astore_n 3, 1) := by decide +kernel
theorem dL_imbalance_13 : decode cL_imbalance 13 = .ok (.iconst 1, 1) := by decide +kernel
theorem dL_imbalance_14 : decode cL_imbalance 14 = .ok (.ireturn, 1) := by decide +kernel
theorem dL_imbalance_15 : decode cL_imbalance 15 = .ok (.iconst 0, 1) := by decide +kernel
theorem dL_imbalance_16 : decode cL_imbalance 16 = .ok (.ireturn, 1) := by decide +kernel
theorem dL_faultsOf_0 : decode cL_faultsOf 0 = .ok (.aload_n 2, 1) := by decide +kernel
theorem dL_faultsOf_1 : decode cL_faultsOf 1 = .ok (.iconst 0, 1) := by decide +kernel
theorem dL_faultsOf_2 : decode cL_faultsOf 2 = .ok (.aload_n 0, 1) := by decide +kernel
theorem dL_faultsOf_3 : decode cL_faultsOf 3 = .ok (.iload_n 1, 1) := by decide +kernel
theorem dL_faultsOf_4 : decode cL_faultsOf 4 = .ok (.invokevirtual 41, 3) := by decide +kernel
theorem dL_faultsOf_7 : decode cL_faultsOf 7 = .ok (.i2l, 1) := by decide +kernel
theorem dL_faultsOf_8 : decode cL_faultsOf 8 = .ok (.lastore, 1) := by decide +kernel
theorem dL_faultsOf_9 : decode cL_faultsOf 9 = .ok (.goto 6, 3) := by decide +kernel
theorem dL_faultsOf_12 : decode cL_faultsOf 12 = .ok (.astore_n 3, 1) := by decide +kernel
theorem dL_faultsOf_13 : decode cL_faultsOf 13 = .ok (.iconst 1, 1) := by decide +kernel
theorem dL_faultsOf_14 : decode cL_faultsOf 14 = .ok (.ireturn, 1) := by decide +kernel
theorem dL_faultsOf_15 : decode cL_faultsOf 15 = .ok (.iconst 0, 1) := by decide +kernel
theorem dL_faultsOf_16 : decode cL_faultsOf 16 = .ok (.ireturn, 1) := by decide +kernel
theorem dL_turningHeight_0 : decode cL_turningHeight 0 = .ok (.aload_n 3, 1) := by decide +kernel
theorem dL_turningHeight_1 : decode cL_turningHeight 1 = .ok (.iconst 0, 1) := by decide +kernel
theorem dL_turningHeight_2 : decode cL_turningHeight 2 = .ok (.aload_n 0, 1) := by decide +kernel
theorem dL_turningHeight_3 : decode cL_turningHeight 3 = .ok (.iload_n 1, 1) := by decide +kernel
theorem dL_turningHeight_4 : decode cL_turningHeight 4 = .ok (.iload_n 2, 1) := by decide +kernel
theorem dL_turningHeight_5 : decode cL_turningHeight 5 = .ok (.invokevirtual 44, 3) := by decide +kernel
theorem dL_turningHeight_8 : decode cL_turningHeight 8 = .ok (.lastore, 1) := by decide +kernel
theorem dL_turningHeight_9 : decode cL_turningHeight 9 = .ok (.goto 7, 3) := by decide +kernel
theorem dL_turningHeight_12 : decode cL_turningHeight 12 = .ok (.astore 4, 2) := by decide +kernel
theorem dL_turningHeight_14 : decode cL_turningHeight 14 = .ok (.iconst 1, 1) := by decide +kernel
theorem dL_turningHeight_15 : decode cL_turningHeight 15 = .ok (.ireturn, 1) := by decide +kernel
theorem dL_turningHeight_16 : decode cL_turningHeight 16 = .ok (.iconst 0, 1) := by decide +kernel
theorem dL_turningHeight_17 : decode cL_turningHeight 17 = .ok (.ireturn, 1) := by decide +kernel
theorem dL_pairOf_0 : decode cL_pairOf 0 = .ok (.aload_n 2, 1) := by decide +kernel
theorem dL_pairOf_1 : decode cL_pairOf 1 = .ok (.iconst 0, 1) := by decide +kernel
theorem dL_pairOf_2 : decode cL_pairOf 2 = .ok (.aload_n 0, 1) := by decide +kernel
theorem dL_pairOf_3 : decode cL_pairOf 3 = .ok (.iload_n 1, 1) := by decide +kernel
theorem dL_pairOf_4 : decode cL_pairOf 4 = .ok (.invokevirtual 48, 3) := by decide +kernel
theorem dL_pairOf_7 : decode cL_pairOf 7 = .ok (.i2l, 1) := by decide +kernel
theorem dL_pairOf_8 : decode cL_pairOf 8 = .ok (.lastore, 1) := by decide +kernel
theorem dL_pairOf_9 : decode cL_pairOf 9 = .ok (.goto 6, 3) := by decide +kernel
theorem dL_pairOf_12 : decode cL_pairOf 12 = .ok (.astore_n 3, 1) := by decide +kernel
theorem dL_pairOf_13 : decode cL_pairOf 13 = .ok (.iconst 1, 1) := by decide +kernel
theorem dL_pairOf_14 : decode cL_pairOf 14 = .ok (.ireturn, 1) := by decide +kernel
theorem dL_pairOf_15 : decode cL_pairOf 15 = .ok (.iconst 0, 1) := by decide +kernel
theorem dL_pairOf_16 : decode cL_pairOf 16 = .ok (.ireturn, 1) := by decide +kernel
theorem dL_discrepancy_0 : decode cL_discrepancy 0 = .ok (.aload_n 2, 1) := by decide +kernel
theorem dL_discrepancy_1 : decode cL_discrepancy 1 = .ok (.iconst 0, 1) := by decide +kernel
theorem dL_discrepancy_2 : decode cL_discrepancy 2 = .ok (.aload_n 0, 1) := by decide +kernel
theorem dL_discrepancy_3 : decode cL_discrepancy 3 = .ok (.iload_n 1, 1) := by decide +kernel
theorem dL_discrepancy_4 : decode cL_discrepancy 4 = .ok (.invokevirtual 51, 3) := by decide +kernel
theorem dL_discrepancy_7 : decode cL_discrepancy 7 = .ok (.i2l, 1) := by decide +kernel
theorem dL_discrepancy_8 : decode cL_discrepancy 8 = .ok (.lastore, 1) := by decide +kernel
theorem dL_discrepancy_9 : decode cL_discrepancy 9 = .ok (.goto 6, 3) := by decide +kernel
theorem dL_discrepancy_12 : decode cL_discrepancy 12 = .ok (.astore_n 3, 1) := by decide +kernel
theorem dL_discrepancy_13 : decode cL_discrepancy 13 = .ok (.iconst 1, 1) := by decide +kernel
theorem dL_discrepancy_14 : decode cL_discrepancy 14 = .ok (.ireturn, 1) := by decide +kernel
theorem dL_discrepancy_15 : decode cL_discrepancy 15 = .ok (.iconst 0, 1) := by decide +kernel
theorem dL_discrepancy_16 : decode cL_discrepancy 16 = .ok (.ireturn, 1) := by decide +kernel
theorem dL_linesAt_0 : decode cL_linesAt 0 = .ok (.aload_n 2, 1) := by decide +kernel
theorem dL_linesAt_1 : decode cL_linesAt 1 = .ok (.iconst 0, 1) := by decide +kernel
theorem dL_linesAt_2 : decode cL_linesAt 2 = .ok (.aload_n 0, 1) := by decide +kernel
theorem dL_linesAt_3 : decode cL_linesAt 3 = .ok (.iload_n 1, 1) := by decide +kernel
theorem dL_linesAt_4 : decode cL_linesAt 4 = .ok (.invokevirtual 54, 3) := by decide +kernel
theorem dL_linesAt_7 : decode cL_linesAt 7 = .ok (.i2l, 1) := by decide +kernel
theorem dL_linesAt_8 : decode cL_linesAt 8 = .ok (.lastore, 1) := by decide +kernel
theorem dL_linesAt_9 : decode cL_linesAt 9 = .ok (.goto 6, 3) := by decide +kernel
theorem dL_linesAt_12 : decode cL_linesAt 12 = .ok (.astore_n 3, 1) := by decide +kernel
theorem dL_linesAt_13 : decode cL_linesAt 13 = .ok (.iconst 1, 1) := by decide +kernel
theorem dL_linesAt_14 : decode cL_linesAt 14 = .ok (.ireturn, 1) := by decide +kernel
theorem dL_linesAt_15 : decode cL_linesAt 15 = .ok (.iconst 0, 1) := by decide +kernel
theorem dL_linesAt_16 : decode cL_linesAt 16 = .ok (.ireturn, 1) := by decide +kernel
theorem dL_rootOf_0 : decode cL_rootOf 0 = .ok (.aload_n 2, 1) := by decide +kernel
theorem dL_rootOf_1 : decode cL_rootOf 1 = .ok (.iconst 0, 1) := by decide +kernel
theorem dL_rootOf_2 : decode cL_rootOf 2 = .ok (.aload_n 0, 1) := by decide +kernel
theorem dL_rootOf_3 : decode cL_rootOf 3 = .ok (.iload_n 1, 1) := by decide +kernel
theorem dL_rootOf_4 : decode cL_rootOf 4 = .ok (.invokevirtual 57, 3) := by decide +kernel
theorem dL_rootOf_7 : decode cL_rootOf 7 = .ok (.i2l, 1) := by decide +kernel
theorem dL_rootOf_8 : decode cL_rootOf 8 = .ok (.lastore, 1) := by decide +kernel
theorem dL_rootOf_9 : decode cL_rootOf 9 = .ok (.goto 6, 3) := by decide +kernel
theorem dL_rootOf_12 : decode cL_rootOf 12 = .ok (.astore_n 3, 1) := by decide +kernel
theorem dL_rootOf_13 : decode cL_rootOf 13 = .ok (.iconst 1, 1) := by decide +kernel
theorem dL_rootOf_14 : decode cL_rootOf 14 = .ok (.ireturn, 1) := by decide +kernel
theorem dL_rootOf_15 : decode cL_rootOf 15 = .ok (.iconst 0, 1) := by decide +kernel
theorem dL_rootOf_16 : decode cL_rootOf 16 = .ok (.ireturn, 1) := by decide +kernel
theorem dL_distance_0 : decode cL_distance 0 = .ok (.aload_n 3, 1) := by decide +kernel
theorem dL_distance_1 : decode cL_distance 1 = .ok (.iconst 0, 1) := by decide +kernel
theorem dL_distance_2 : decode cL_distance 2 = .ok (.aload_n 0, 1) := by decide +kernel
theorem dL_distance_3 : decode cL_distance 3 = .ok (.iload_n 1, 1) := by decide +kernel
theorem dL_distance_4 : decode cL_distance 4 = .ok (.iload_n 2, 1) := by decide +kernel
theorem dL_distance_5 : decode cL_distance 5 = .ok (.invokevirtual 60, 3) := by decide +kernel
theorem dL_distance_8 : decode cL_distance 8 = .ok (.i2l, 1) := by decide +kernel
theorem dL_distance_9 : decode cL_distance 9 = .ok (.lastore, 1) := by decide +kernel
theorem dL_distance_10 : decode cL_distance 10 = .ok (.goto 7, 3) := by decide +kernel
theorem dL_distance_13 : decode cL_distance 13 = .ok (.astore 4, 2) := by decide +kernel
theorem dL_distance_15 : decode cL_distance 15 = .ok (.iconst 1, 1) := by decide +kernel
theorem dL_distance_16 : decode cL_distance 16 = .ok (.ireturn, 1) := by decide +kernel
theorem dL_distance_17 : decode cL_distance 17 = .ok (.iconst 0, 1) := by decide +kernel
theorem dL_distance_18 : decode cL_distance 18 = .ok (.ireturn, 1) := by decide +kernel
theorem dL_riseBetween_0 : decode cL_riseBetween 0 = .ok (.aload_n 3, 1) := by decide +kernel
theorem dL_riseBetween_1 : decode cL_riseBetween 1 = .ok (.iconst 0, 1) := by decide +kernel
theorem dL_riseBetween_2 : decode cL_riseBetween 2 = .ok (.aload_n 0, 1) := by decide +kernel
theorem dL_riseBetween_3 : decode cL_riseBetween 3 = .ok (.iload_n 1, 1) := by decide +kernel
theorem dL_riseBetween_4 : decode cL_riseBetween 4 = .ok (.iload_n 2, 1) := by decide +kernel
theorem dL_riseBetween_5 : decode cL_riseBetween 5 = .ok (.invokevirtual 63, 3) := by decide +kernel
theorem dL_riseBetween_8 : decode cL_riseBetween 8 = .ok (.i2l, 1) := by decide +kernel
theorem dL_riseBetween_9 : decode cL_riseBetween 9 = .ok (.lastore, 1) := by decide +kernel
theorem dL_riseBetween_10 : decode cL_riseBetween 10 = .ok (.goto 7, 3) := by decide +kernel
theorem dL_riseBetween_13 : decode cL_riseBetween 13 = .ok (.astore 4, 2) := by decide +kernel
theorem dL_riseBetween_15 : decode cL_riseBetween 15 = .ok (.iconst 1, 1) := by decide +kernel
theorem dL_riseBetween_16 : decode cL_riseBetween 16 = .ok (.ireturn, 1) := by decide +kernel
theorem dL_riseBetween_17 : decode cL_riseBetween 17 = .ok (.iconst 0, 1) := by decide +kernel
theorem dL_riseBetween_18 : decode cL_riseBetween 18 = .ok (.ireturn, 1) := by decide +kernel
theorem dL_wayBetween_0 : decode cL_wayBetween 0 = .ok (.aload_n 3, 1) := by decide +kernel
theorem dL_wayBetween_1 : decode cL_wayBetween 1 = .ok (.iconst 0, 1) := by decide +kernel
theorem dL_wayBetween_2 : decode cL_wayBetween 2 = .ok (.aload_n 0, 1) := by decide +kernel
theorem dL_wayBetween_3 : decode cL_wayBetween 3 = .ok (.iload_n 1, 1) := by decide +kernel
theorem dL_wayBetween_4 : decode cL_wayBetween 4 = .ok (.iload_n 2, 1) := by decide +kernel
theorem dL_wayBetween_5 : decode cL_wayBetween 5 = .ok (.invokevirtual 66, 3) := by decide +kernel
theorem dL_wayBetween_8 : decode cL_wayBetween 8 = .ok (.i2l, 1) := by decide +kernel
theorem dL_wayBetween_9 : decode cL_wayBetween 9 = .ok (.lastore, 1) := by decide +kernel
theorem dL_wayBetween_10 : decode cL_wayBetween 10 = .ok (.goto 7, 3) := by decide +kernel
theorem dL_wayBetween_13 : decode cL_wayBetween 13 = .ok (.astore 4, 2) := by decide +kernel
theorem dL_wayBetween_15 : decode cL_wayBetween 15 = .ok (.iconst 1, 1) := by decide +kernel
theorem dL_wayBetween_16 : decode cL_wayBetween 16 = .ok (.ireturn, 1) := by decide +kernel
theorem dL_wayBetween_17 : decode cL_wayBetween 17 = .ok (.iconst 0, 1) := by decide +kernel
theorem dL_wayBetween_18 : decode cL_wayBetween 18 = .ok (.ireturn, 1) := by decide +kernel
theorem dL_loopLine_0 : decode cL_loopLine 0 = .ok (.aload_n 3, 1) := by decide +kernel
theorem dL_loopLine_1 : decode cL_loopLine 1 = .ok (.iconst 0, 1) := by decide +kernel
theorem dL_loopLine_2 : decode cL_loopLine 2 = .ok (.aload_n 0, 1) := by decide +kernel
theorem dL_loopLine_3 : decode cL_loopLine 3 = .ok (.iload_n 1, 1) := by decide +kernel
theorem dL_loopLine_4 : decode cL_loopLine 4 = .ok (.iload_n 2, 1) := by decide +kernel
theorem dL_loopLine_5 : decode cL_loopLine 5 = .ok (.invokevirtual 69, 3) := by decide +kernel
theorem dL_loopLine_8 : decode cL_loopLine 8 = .ok (.i2l, 1) := by decide +kernel
theorem dL_loopLine_9 : decode cL_loopLine 9 = .ok (.lastore, 1) := by decide +kernel
theorem dL_loopLine_10 : decode cL_loopLine 10 = .ok (.goto 7, 3) := by decide +kernel
theorem dL_loopLine_13 : decode cL_loopLine 13 = .ok (.astore 4, 2) := by decide +kernel
theorem dL_loopLine_15 : decode cL_loopLine 15 = .ok (.iconst 1, 1) := by decide +kernel
theorem dL_loopLine_16 : decode cL_loopLine 16 = .ok (.ireturn, 1) := by decide +kernel
theorem dL_loopLine_17 : decode cL_loopLine 17 = .ok (.iconst 0, 1) := by decide +kernel
theorem dL_loopLine_18 : decode cL_loopLine 18 = .ok (.ireturn, 1) := by decide +kernel
theorem dL_loopLength_0 : decode cL_loopLength 0 = .ok (.aload_n 2, 1) := by decide +kernel
theorem dL_loopLength_1 : decode cL_loopLength 1 = .ok (.iconst 0, 1) := by decide +kernel
theorem dL_loopLength_2 : decode cL_loopLength 2 = .ok (.aload_n 0, 1) := by decide +kernel
theorem dL_loopLength_3 : decode cL_loopLength 3 = .ok (.iload_n 1, 1) := by decide +kernel
theorem dL_loopLength_4 : decode cL_loopLength 4 = .ok (.invokevirtual 72, 3) := by decide +kernel
theorem dL_loopLength_7 : decode cL_loopLength 7 = .ok (.i2l, 1) := by decide +kernel
theorem dL_loopLength_8 : decode cL_loopLength 8 = .ok (.lastore, 1) := by decide +kernel
theorem dL_loopLength_9 : decode cL_loopLength 9 = .ok (.goto 6, 3) := by decide +kernel
theorem dL_loopLength_12 : decode cL_loopLength 12 = .ok (.astore_n 3, 1) := by decide +kernel
theorem dL_loopLength_13 : decode cL_loopLength 13 = .ok (.iconst 1, 1) := by decide +kernel
theorem dL_loopLength_14 : decode cL_loopLength 14 = .ok (.ireturn, 1) := by decide +kernel
theorem dL_loopLength_15 : decode cL_loopLength 15 = .ok (.iconst 0, 1) := by decide +kernel
theorem dL_loopLength_16 : decode cL_loopLength 16 = .ok (.ireturn, 1) := by decide +kernel
theorem dL_misclosure_0 : decode cL_misclosure 0 = .ok (.aload_n 2, 1) := by decide +kernel
theorem dL_misclosure_1 : decode cL_misclosure 1 = .ok (.iconst 0, 1) := by decide +kernel
theorem dL_misclosure_2 : decode cL_misclosure 2 = .ok (.aload_n 0, 1) := by decide +kernel
theorem dL_misclosure_3 : decode cL_misclosure 3 = .ok (.iload_n 1, 1) := by decide +kernel
theorem dL_misclosure_4 : decode cL_misclosure 4 = .ok (.invokevirtual 75, 3) := by decide +kernel
theorem dL_misclosure_7 : decode cL_misclosure 7 = .ok (.i2l, 1) := by decide +kernel
theorem dL_misclosure_8 : decode cL_misclosure 8 = .ok (.lastore, 1) := by decide +kernel
theorem dL_misclosure_9 : decode cL_misclosure 9 = .ok (.goto 6, 3) := by decide +kernel
theorem dL_misclosure_12 : decode cL_misclosure 12 = .ok (.astore_n 3, 1) := by decide +kernel
theorem dL_misclosure_13 : decode cL_misclosure 13 = .ok (.iconst 1, 1) := by decide +kernel
theorem dL_misclosure_14 : decode cL_misclosure 14 = .ok (.ireturn, 1) := by decide +kernel
theorem dL_misclosure_15 : decode cL_misclosure 15 = .ok (.iconst 0, 1) := by decide +kernel
theorem dL_misclosure_16 : decode cL_misclosure 16 = .ok (.ireturn, 1) := by decide +kernel
theorem dL_allowed_0 : decode cL_allowed 0 = .ok (.aload_n 2, 1) := by decide +kernel
theorem dL_allowed_1 : decode cL_allowed 1 = .ok (.iconst 0, 1) := by decide +kernel
theorem dL_allowed_2 : decode cL_allowed 2 = .ok (.aload_n 0, 1) := by decide +kernel
theorem dL_allowed_3 : decode cL_allowed 3 = .ok (.iload_n 1, 1) := by decide +kernel
theorem dL_allowed_4 : decode cL_allowed 4 = .ok (.invokevirtual 78, 3) := by decide +kernel
theorem dL_allowed_7 : decode cL_allowed 7 = .ok (.i2l, 1) := by decide +kernel
theorem dL_allowed_8 : decode cL_allowed 8 = .ok (.lastore, 1) := by decide +kernel
theorem dL_allowed_9 : decode cL_allowed 9 = .ok (.goto 6, 3) := by decide +kernel
theorem dL_allowed_12 : decode cL_allowed 12 = .ok (.astore_n 3, 1) := by decide +kernel
theorem dL_allowed_13 : decode cL_allowed 13 = .ok (.iconst 1, 1) := by decide +kernel
theorem dL_allowed_14 : decode cL_allowed 14 = .ok (.ireturn, 1) := by decide +kernel
theorem dL_allowed_15 : decode cL_allowed 15 = .ok (.iconst 0, 1) := by decide +kernel
theorem dL_allowed_16 : decode cL_allowed 16 = .ok (.ireturn, 1) := by decide +kernel
theorem dL_badWithout_0 : decode cL_badWithout 0 = .ok (.aload_n 2, 1) := by decide +kernel
theorem dL_badWithout_1 : decode cL_badWithout 1 = .ok (.iconst 0, 1) := by decide +kernel
theorem dL_badWithout_2 : decode cL_badWithout 2 = .ok (.aload_n 0, 1) := by decide +kernel
theorem dL_badWithout_3 : decode cL_badWithout 3 = .ok (.iload_n 1, 1) := by decide +kernel
theorem dL_badWithout_4 : decode cL_badWithout 4 = .ok (.invokevirtual 81, 3) := by decide +kernel
theorem dL_badWithout_7 : decode cL_badWithout 7 = .ok (.i2l, 1) := by decide +kernel
theorem dL_badWithout_8 : decode cL_badWithout 8 = .ok (.lastore, 1) := by decide +kernel
theorem dL_badWithout_9 : decode cL_badWithout 9 = .ok (.goto 6, 3) := by decide +kernel
theorem dL_badWithout_12 : decode cL_badWithout 12 = .ok (.astore_n 3, 1) := by decide +kernel
theorem dL_badWithout_13 : decode cL_badWithout 13 = .ok (.iconst 1, 1) := by decide +kernel
theorem dL_badWithout_14 : decode cL_badWithout 14 = .ok (.ireturn, 1) := by decide +kernel
theorem dL_badWithout_15 : decode cL_badWithout 15 = .ok (.iconst 0, 1) := by decide +kernel
theorem dL_badWithout_16 : decode cL_badWithout 16 = .ok (.ireturn, 1) := by decide +kernel
theorem dL_benchGap_0 : decode cL_benchGap 0 = .ok (.aload_n 3, 1) := by decide +kernel
theorem dL_benchGap_1 : decode cL_benchGap 1 = .ok (.iconst 0, 1) := by decide +kernel
theorem dL_benchGap_2 : decode cL_benchGap 2 = .ok (.aload_n 0, 1) := by decide +kernel
theorem dL_benchGap_3 : decode cL_benchGap 3 = .ok (.iload_n 1, 1) := by decide +kernel
theorem dL_benchGap_4 : decode cL_benchGap 4 = .ok (.iload_n 2, 1) := by decide +kernel
theorem dL_benchGap_5 : decode cL_benchGap 5 = .ok (.invokevirtual 84, 3) := by decide +kernel
theorem dL_benchGap_8 : decode cL_benchGap 8 = .ok (.i2l, 1) := by decide +kernel
theorem dL_benchGap_9 : decode cL_benchGap 9 = .ok (.lastore, 1) := by decide +kernel
theorem dL_benchGap_10 : decode cL_benchGap 10 = .ok (.goto 7, 3) := by decide +kernel
theorem dL_benchGap_13 : decode cL_benchGap 13 = .ok (.astore 4, 2) := by decide +kernel
theorem dL_benchGap_15 : decode cL_benchGap 15 = .ok (.iconst 1, 1) := by decide +kernel
theorem dL_benchGap_16 : decode cL_benchGap 16 = .ok (.ireturn, 1) := by decide +kernel
theorem dL_benchGap_17 : decode cL_benchGap 17 = .ok (.iconst 0, 1) := by decide +kernel
theorem dL_benchGap_18 : decode cL_benchGap 18 = .ok (.ireturn, 1) := by decide +kernel
theorem dL_provisional_0 : decode cL_provisional 0 = .ok (.aload_n 2, 1) := by decide +kernel
theorem dL_provisional_1 : decode cL_provisional 1 = .ok (.iconst 0, 1) := by decide +kernel
theorem dL_provisional_2 : decode cL_provisional 2 = .ok (.aload_n 0, 1) := by decide +kernel
theorem dL_provisional_3 : decode cL_provisional 3 = .ok (.iload_n 1, 1) := by decide +kernel
theorem dL_provisional_4 : decode cL_provisional 4 = .ok (.invokevirtual 87, 3) := by decide +kernel
theorem dL_provisional_7 : decode cL_provisional 7 = .ok (.lastore, 1) := by decide +kernel
theorem dL_provisional_8 : decode cL_provisional 8 = .ok (.goto 6, 3) := by decide +kernel
theorem dL_provisional_11 : decode cL_provisional 11 = .ok (.astore_n 3, 1) := by decide +kernel
theorem dL_provisional_12 : decode cL_provisional 12 = .ok (.iconst 1, 1) := by decide +kernel
theorem dL_provisional_13 : decode cL_provisional 13 = .ok (.ireturn, 1) := by decide +kernel
theorem dL_provisional_14 : decode cL_provisional 14 = .ok (.iconst 0, 1) := by decide +kernel
theorem dL_provisional_15 : decode cL_provisional 15 = .ok (.ireturn, 1) := by decide +kernel
theorem dL_heightOf_0 : decode cL_heightOf 0 = .ok (.aload_n 2, 1) := by decide +kernel
theorem dL_heightOf_1 : decode cL_heightOf 1 = .ok (.iconst 0, 1) := by decide +kernel
theorem dL_heightOf_2 : decode cL_heightOf 2 = .ok (.aload_n 0, 1) := by decide +kernel
theorem dL_heightOf_3 : decode cL_heightOf 3 = .ok (.iload_n 1, 1) := by decide +kernel
theorem dL_heightOf_4 : decode cL_heightOf 4 = .ok (.invokevirtual 91, 3) := by decide +kernel
theorem dL_heightOf_7 : decode cL_heightOf 7 = .ok (.lastore, 1) := by decide +kernel
theorem dL_heightOf_8 : decode cL_heightOf 8 = .ok (.goto 6, 3) := by decide +kernel
theorem dL_heightOf_11 : decode cL_heightOf 11 = .ok (.astore_n 3, 1) := by decide +kernel
theorem dL_heightOf_12 : decode cL_heightOf 12 = .ok (.iconst 1, 1) := by decide +kernel
theorem dL_heightOf_13 : decode cL_heightOf 13 = .ok (.ireturn, 1) := by decide +kernel
theorem dL_heightOf_14 : decode cL_heightOf 14 = .ok (.iconst 0, 1) := by decide +kernel
theorem dL_heightOf_15 : decode cL_heightOf 15 = .ok (.ireturn, 1) := by decide +kernel
theorem dL_residual_0 : decode cL_residual 0 = .ok (.aload_n 2, 1) := by decide +kernel
theorem dL_residual_1 : decode cL_residual 1 = .ok (.iconst 0, 1) := by decide +kernel
theorem dL_residual_2 : decode cL_residual 2 = .ok (.aload_n 0, 1) := by decide +kernel
theorem dL_residual_3 : decode cL_residual 3 = .ok (.iload_n 1, 1) := by decide +kernel
theorem dL_residual_4 : decode cL_residual 4 = .ok (.invokevirtual 94, 3) := by decide +kernel
theorem dL_residual_7 : decode cL_residual 7 = .ok (.lastore, 1) := by decide +kernel
theorem dL_residual_8 : decode cL_residual 8 = .ok (.goto 6, 3) := by decide +kernel
theorem dL_residual_11 : decode cL_residual 11 = .ok (.astore_n 3, 1) := by decide +kernel
theorem dL_residual_12 : decode cL_residual 12 = .ok (.iconst 1, 1) := by decide +kernel
theorem dL_residual_13 : decode cL_residual 13 = .ok (.ireturn, 1) := by decide +kernel
theorem dL_residual_14 : decode cL_residual 14 = .ok (.iconst 0, 1) := by decide +kernel
theorem dL_residual_15 : decode cL_residual 15 = .ok (.ireturn, 1) := by decide +kernel
def f_L_collimation (p2 : Int32) (μ : gM) : Option (Int32 × gM) :=
  Option.bind (f_X7_collimation p2 μ) (fun q1 => Option.elim q1 (some ((1 : Int32), μ)) (fun v2 => gchk (gIn (0 : Int32) 1) (some ((0 : Int32), (sl μ 77 (0 : Int32).toNatClampNeg v2.toInt64)))))
set_option maxHeartbeats 4000000 in
set_option maxRecDepth 100000 in
theorem c_L_collimation {l : Launch} {D : va_G} {cy : Nat → ClassId} {ad : Nat → Nat} {base : Nat} {p2 : Int32} {μ : gM} {RES : Int32 × gM} (h : f_L_collimation p2 μ = some RES) : Met l yL_collimation [.codeWith yL_collimation cL_collimation 4 (some .int) [(0, 9, 12, 13)]] ({ frames := 8, cells := 1, slots := 6, locals := 124 } : Room) (va_Pc [.ref (ad 0), .int p2, .ref (ad 77)] (gB l gFull D cy ad base μ)) (gQ (some (.int RES.1)) gFull D cy ad base RES.2) 1 6 (gA base) := by
  refine va_MetW (cc := cL_collimation) (maxL := 4) (ret := (some .int)) (hh := [(0, 9, 12, 13)]) (by decide) rfl ?_
  intro p e s m args below meth c s₁ B hml0 hv
  obtain ⟨rfl, E, hM⟩ := hv
  have F : gF p s m meth c cL_collimation RL 4 (some .int) := gF_of B hml0
  have hT := vx_table (x := yL_collimation) B (E.kw kw_929)
  obtain ⟨hx, hb, hml, hown, hlocks, hr⟩ := id F
  have hS : va_S (gA base) s.heap s.heap [] := va_S.rf
  have hl := lv_entry ([.ref (ad 0), .int p2, .ref (ad 77)]) (n := 4) (Nat.le_of_ble_eq_true rfl)
  rw [lg_entry_eq]
  generalize (lg_sl ([.ref (ad 0), .int p2, .ref (ad 77)]) ++ List.replicate (4 - (lg_sl ([.ref (ad 0), .int p2, .ref (ad 77)])).length) Slot.unset).toArray = ls at hl ⊢
  have hl : lv_has ls 4 [(0, .ref (ad 0)), (1, .int p2), (2, .ref (ad 77))] := hl
  unfold f_L_collimation at h
  refine lv_aload_n hx hb dL_collimation_0 rfl (lv_at hl 2 rfl) ?_
  refine lv_iconst (v := (0 : Int32)) hx hb dL_collimation_1 (by decide) ?_
  refine lv_aload_n hx hb dL_collimation_2 rfl (lv_at hl 0 rfl) ?_
  refine lv_iload_n hx hb dL_collimation_3 rfl (lv_at hl 1 rfl) ?_
  obtain ⟨q1, hq1, h⟩ := gbind_e h
  refine g_callXV (As := [.int p2]) (rest := [.int (0 : Int32), .ref (ad 77)]) hx hb (hml.trans hl.1.symm) hown E hM hS hy_X7_collimation kw_931 (c_X7_collimation hq1) hk_0 dd_0 rfl rfl rfl (Nat.le_of_ble_eq_true rfl) ⟨Nat.le_of_ble_eq_true rfl, Nat.le_of_ble_eq_true rfl⟩ ⟨Nat.le_of_ble_eq_true rfl, Nat.le_of_ble_eq_true rfl⟩ dL_collimation_4 (fun e3 q9 ce H locs hM hS hce hcv hcl => ?_) (fun v2 e3 H locs hM hS => ?_)
  · replace h := gel_n e3 h
    refine vx_catch (name := "java/lang/IndexOutOfBoundsException") hown [] ⟨0, 9, 12, 13⟩ [] hT (fun z hz => nomatch hz) (by decide) (by decide) (E.kw kw_930) (g_castW E) hce hcv hcl ?_
    refine lv_astore_n (lv' := [(3, .ref q9), (0, .ref (ad 0)), (1, .int p2), (2, .ref (ad 77))]) hx hb dL_collimation_12 rfl hl (by decide) rfl (fun ls hl => ?_)
    refine lv_iconst (v := (1 : Int32)) hx hb dL_collimation_13 (by decide) ?_
    obtain rfl := Option.some.inj h
    exact g_iret hx hb hr hlocks hM hS dL_collimation_14
  · replace h := gel_s e3 h
    refine lv_i2l (v := v2.toInt64) hx hb dL_collimation_7 rfl ?_
    obtain ⟨c4, h⟩ := gchk_e h
    refine g_last hx hb E hM hS hk_77 dd_77 c4 dL_collimation_8 (fun H locs hM hS => ?_)
    refine lv_goto (tgt := 15) hx hb dL_collimation_9 (by decide) ?_
    refine lv_iconst (v := (0 : Int32)) hx hb dL_collimation_15 (by decide) ?_
    obtain rfl := Option.some.inj h
    exact g_iret hx hb hr hlocks hM hS dL_collimation_16
def f_L_testNumber (p2 : Int32) (p3 : Int32) (μ : gM) : Option (Int32 × gM) :=
  Option.bind (f_X7_testNumber p2 p3 μ) (fun q1 => Option.elim q1 (some ((1 : Int32), μ)) (fun v2 => gchk (gIn (0 : Int32) 1) (some ((0 : Int32), (sl μ 77 (0 : Int32).toNatClampNeg v2.toInt64)))))
set_option maxHeartbeats 4000000 in
set_option maxRecDepth 100000 in
theorem c_L_testNumber {l : Launch} {D : va_G} {cy : Nat → ClassId} {ad : Nat → Nat} {base : Nat} {p2 : Int32} {p3 : Int32} {μ : gM} {RES : Int32 × gM} (h : f_L_testNumber p2 p3 μ = some RES) : Met l yL_testNumber [.codeWith yL_testNumber cL_testNumber 5 (some .int) [(0, 10, 13, 13)]] ({ frames := 8, cells := 1, slots := 6, locals := 125 } : Room) (va_Pc [.ref (ad 0), .int p2, .int p3, .ref (ad 77)] (gB l gFull D cy ad base μ)) (gQ (some (.int RES.1)) gFull D cy ad base RES.2) 1 6 (gA base) := by
  refine va_MetW (cc := cL_testNumber) (maxL := 5) (ret := (some .int)) (hh := [(0, 10, 13, 13)]) (by decide) rfl ?_
  intro p e s m args below meth c s₁ B hml0 hv
  obtain ⟨rfl, E, hM⟩ := hv
  have F : gF p s m meth c cL_testNumber RL 5 (some .int) := gF_of B hml0
  have hT := vx_table (x := yL_testNumber) B (E.kw kw_1005)
  obtain ⟨hx, hb, hml, hown, hlocks, hr⟩ := id F
  have hS : va_S (gA base) s.heap s.heap [] := va_S.rf
  have hl := lv_entry ([.ref (ad 0), .int p2, .int p3, .ref (ad 77)]) (n := 5) (Nat.le_of_ble_eq_true rfl)
  rw [lg_entry_eq]
  generalize (lg_sl ([.ref (ad 0), .int p2, .int p3, .ref (ad 77)]) ++ List.replicate (5 - (lg_sl ([.ref (ad 0), .int p2, .int p3, .ref (ad 77)])).length) Slot.unset).toArray = ls at hl ⊢
  have hl : lv_has ls 5 [(0, .ref (ad 0)), (1, .int p2), (2, .int p3), (3, .ref (ad 77))] := hl
  unfold f_L_testNumber at h
  refine lv_aload_n hx hb dL_testNumber_0 rfl (lv_at hl 3 rfl) ?_
  refine lv_iconst (v := (0 : Int32)) hx hb dL_testNumber_1 (by decide) ?_
  refine lv_aload_n hx hb dL_testNumber_2 rfl (lv_at hl 0 rfl) ?_
  refine lv_iload_n hx hb dL_testNumber_3 rfl (lv_at hl 1 rfl) ?_
  refine lv_iload_n hx hb dL_testNumber_4 rfl (lv_at hl 2 rfl) ?_
  obtain ⟨q1, hq1, h⟩ := gbind_e h
  refine g_callXV (As := [.int p2, .int p3]) (rest := [.int (0 : Int32), .ref (ad 77)]) hx hb (hml.trans hl.1.symm) hown E hM hS hy_X7_testNumber kw_1006 (c_X7_testNumber hq1) hk_0 dd_0 rfl rfl rfl (Nat.le_of_ble_eq_true rfl) ⟨Nat.le_of_ble_eq_true rfl, Nat.le_of_ble_eq_true rfl⟩ ⟨Nat.le_of_ble_eq_true rfl, Nat.le_of_ble_eq_true rfl⟩ dL_testNumber_5 (fun e3 q9 ce H locs hM hS hce hcv hcl => ?_) (fun v2 e3 H locs hM hS => ?_)
  · replace h := gel_n e3 h
    refine vx_catch (name := "java/lang/IndexOutOfBoundsException") hown [] ⟨0, 10, 13, 13⟩ [] hT (fun z hz => nomatch hz) (by decide) (by decide) (E.kw kw_930) (g_castW E) hce hcv hcl ?_
    refine lv_astore (lv' := [(4, .ref q9), (0, .ref (ad 0)), (1, .int p2), (2, .int p3), (3, .ref (ad 77))]) hx hb dL_testNumber_13 hl (by decide) rfl (fun ls hl => ?_)
    refine lv_iconst (v := (1 : Int32)) hx hb dL_testNumber_15 (by decide) ?_
    obtain rfl := Option.some.inj h
    exact g_iret hx hb hr hlocks hM hS dL_testNumber_16
  · replace h := gel_s e3 h
    refine lv_i2l (v := v2.toInt64) hx hb dL_testNumber_8 rfl ?_
    obtain ⟨c4, h⟩ := gchk_e h
    refine g_last hx hb E hM hS hk_77 dd_77 c4 dL_testNumber_9 (fun H locs hM hS => ?_)
    refine lv_goto (tgt := 17) hx hb dL_testNumber_10 (by decide) ?_
    refine lv_iconst (v := (0 : Int32)) hx hb dL_testNumber_17 (by decide) ?_
    obtain rfl := Option.some.inj h
    exact g_iret hx hb hr hlocks hM hS dL_testNumber_18
def f_L_heldAt (p2 : Int32) (μ : gM) : Option (Int32 × gM) :=
  Option.bind (f_X7_heldAt p2 μ) (fun q1 => Option.elim q1 (some ((1 : Int32), μ)) (fun v2 => gchk (gIn (0 : Int32) 1) (some ((0 : Int32), (sl μ 77 (0 : Int32).toNatClampNeg v2.toInt64)))))
set_option maxHeartbeats 4000000 in
set_option maxRecDepth 100000 in
theorem c_L_heldAt {l : Launch} {D : va_G} {cy : Nat → ClassId} {ad : Nat → Nat} {base : Nat} {p2 : Int32} {μ : gM} {RES : Int32 × gM} (h : f_L_heldAt p2 μ = some RES) : Met l yL_heldAt [.codeWith yL_heldAt cL_heldAt 4 (some .int) [(0, 9, 12, 13)]] ({ frames := 8, cells := 1, slots := 6, locals := 124 } : Room) (va_Pc [.ref (ad 0), .int p2, .ref (ad 77)] (gB l gFull D cy ad base μ)) (gQ (some (.int RES.1)) gFull D cy ad base RES.2) 1 6 (gA base) := by
  refine va_MetW (cc := cL_heldAt) (maxL := 4) (ret := (some .int)) (hh := [(0, 9, 12, 13)]) (by decide) rfl ?_
  intro p e s m args below meth c s₁ B hml0 hv
  obtain ⟨rfl, E, hM⟩ := hv
  have F : gF p s m meth c cL_heldAt RL 4 (some .int) := gF_of B hml0
  have hT := vx_table (x := yL_heldAt) B (E.kw kw_1013)
  obtain ⟨hx, hb, hml, hown, hlocks, hr⟩ := id F
  have hS : va_S (gA base) s.heap s.heap [] := va_S.rf
  have hl := lv_entry ([.ref (ad 0), .int p2, .ref (ad 77)]) (n := 4) (Nat.le_of_ble_eq_true rfl)
  rw [lg_entry_eq]
  generalize (lg_sl ([.ref (ad 0), .int p2, .ref (ad 77)]) ++ List.replicate (4 - (lg_sl ([.ref (ad 0), .int p2, .ref (ad 77)])).length) Slot.unset).toArray = ls at hl ⊢
  have hl : lv_has ls 4 [(0, .ref (ad 0)), (1, .int p2), (2, .ref (ad 77))] := hl
  unfold f_L_heldAt at h
  refine lv_aload_n hx hb dL_heldAt_0 rfl (lv_at hl 2 rfl) ?_
  refine lv_iconst (v := (0 : Int32)) hx hb dL_heldAt_1 (by decide) ?_
  refine lv_aload_n hx hb dL_heldAt_2 rfl (lv_at hl 0 rfl) ?_
  refine lv_iload_n hx hb dL_heldAt_3 rfl (lv_at hl 1 rfl) ?_
  obtain ⟨q1, hq1, h⟩ := gbind_e h
  refine g_callXV (As := [.int p2]) (rest := [.int (0 : Int32), .ref (ad 77)]) hx hb (hml.trans hl.1.symm) hown E hM hS hy_X7_heldAt kw_1014 (c_X7_heldAt hq1) hk_0 dd_0 rfl rfl rfl (Nat.le_of_ble_eq_true rfl) ⟨Nat.le_of_ble_eq_true rfl, Nat.le_of_ble_eq_true rfl⟩ ⟨Nat.le_of_ble_eq_true rfl, Nat.le_of_ble_eq_true rfl⟩ dL_heldAt_4 (fun e3 q9 ce H locs hM hS hce hcv hcl => ?_) (fun v2 e3 H locs hM hS => ?_)
  · replace h := gel_n e3 h
    refine vx_catch (name := "java/lang/IndexOutOfBoundsException") hown [] ⟨0, 9, 12, 13⟩ [] hT (fun z hz => nomatch hz) (by decide) (by decide) (E.kw kw_930) (g_castW E) hce hcv hcl ?_
    refine lv_astore_n (lv' := [(3, .ref q9), (0, .ref (ad 0)), (1, .int p2), (2, .ref (ad 77))]) hx hb dL_heldAt_12 rfl hl (by decide) rfl (fun ls hl => ?_)
    refine lv_iconst (v := (1 : Int32)) hx hb dL_heldAt_13 (by decide) ?_
    obtain rfl := Option.some.inj h
    exact g_iret hx hb hr hlocks hM hS dL_heldAt_14
  · replace h := gel_s e3 h
    refine lv_i2l (v := v2.toInt64) hx hb dL_heldAt_7 rfl ?_
    obtain ⟨c4, h⟩ := gchk_e h
    refine g_last hx hb E hM hS hk_77 dd_77 c4 dL_heldAt_8 (fun H locs hM hS => ?_)
    refine lv_goto (tgt := 15) hx hb dL_heldAt_9 (by decide) ?_
    refine lv_iconst (v := (0 : Int32)) hx hb dL_heldAt_15 (by decide) ?_
    obtain rfl := Option.some.inj h
    exact g_iret hx hb hr hlocks hM hS dL_heldAt_16
def f_L_lineProperty (p2 : Int32) (p3 : Int32) (μ : gM) : Option (Int32 × gM) :=
  Option.bind (f_X7_lineProperty p2 p3 μ) (fun q1 => Option.elim q1 (some ((1 : Int32), μ)) (fun v2 => gchk (gIn (0 : Int32) 1) (some ((0 : Int32), (sl μ 77 (0 : Int32).toNatClampNeg v2.toInt64)))))
set_option maxHeartbeats 4000000 in
set_option maxRecDepth 100000 in
theorem c_L_lineProperty {l : Launch} {D : va_G} {cy : Nat → ClassId} {ad : Nat → Nat} {base : Nat} {p2 : Int32} {p3 : Int32} {μ : gM} {RES : Int32 × gM} (h : f_L_lineProperty p2 p3 μ = some RES) : Met l yL_lineProperty [.codeWith yL_lineProperty cL_lineProperty 5 (some .int) [(0, 10, 13, 13)]] ({ frames := 8, cells := 1, slots := 6, locals := 125 } : Room) (va_Pc [.ref (ad 0), .int p2, .int p3, .ref (ad 77)] (gB l gFull D cy ad base μ)) (gQ (some (.int RES.1)) gFull D cy ad base RES.2) 1 6 (gA base) := by
  refine va_MetW (cc := cL_lineProperty) (maxL := 5) (ret := (some .int)) (hh := [(0, 10, 13, 13)]) (by decide) rfl ?_
  intro p e s m args below meth c s₁ B hml0 hv
  obtain ⟨rfl, E, hM⟩ := hv
  have F : gF p s m meth c cL_lineProperty RL 5 (some .int) := gF_of B hml0
  have hT := vx_table (x := yL_lineProperty) B (E.kw kw_1020)
  obtain ⟨hx, hb, hml, hown, hlocks, hr⟩ := id F
  have hS : va_S (gA base) s.heap s.heap [] := va_S.rf
  have hl := lv_entry ([.ref (ad 0), .int p2, .int p3, .ref (ad 77)]) (n := 5) (Nat.le_of_ble_eq_true rfl)
  rw [lg_entry_eq]
  generalize (lg_sl ([.ref (ad 0), .int p2, .int p3, .ref (ad 77)]) ++ List.replicate (5 - (lg_sl ([.ref (ad 0), .int p2, .int p3, .ref (ad 77)])).length) Slot.unset).toArray = ls at hl ⊢
  have hl : lv_has ls 5 [(0, .ref (ad 0)), (1, .int p2), (2, .int p3), (3, .ref (ad 77))] := hl
  unfold f_L_lineProperty at h
  refine lv_aload_n hx hb dL_lineProperty_0 rfl (lv_at hl 3 rfl) ?_
  refine lv_iconst (v := (0 : Int32)) hx hb dL_lineProperty_1 (by decide) ?_
  refine lv_aload_n hx hb dL_lineProperty_2 rfl (lv_at hl 0 rfl) ?_
  refine lv_iload_n hx hb dL_lineProperty_3 rfl (lv_at hl 1 rfl) ?_
  refine lv_iload_n hx hb dL_lineProperty_4 rfl (lv_at hl 2 rfl) ?_
  obtain ⟨q1, hq1, h⟩ := gbind_e h
  refine g_callXV (As := [.int p2, .int p3]) (rest := [.int (0 : Int32), .ref (ad 77)]) hx hb (hml.trans hl.1.symm) hown E hM hS hy_X7_lineProperty kw_1021 (c_X7_lineProperty hq1) hk_0 dd_0 rfl rfl rfl (Nat.le_of_ble_eq_true rfl) ⟨Nat.le_of_ble_eq_true rfl, Nat.le_of_ble_eq_true rfl⟩ ⟨Nat.le_of_ble_eq_true rfl, Nat.le_of_ble_eq_true rfl⟩ dL_lineProperty_5 (fun e3 q9 ce H locs hM hS hce hcv hcl => ?_) (fun v2 e3 H locs hM hS => ?_)
  · replace h := gel_n e3 h
    refine vx_catch (name := "java/lang/IndexOutOfBoundsException") hown [] ⟨0, 10, 13, 13⟩ [] hT (fun z hz => nomatch hz) (by decide) (by decide) (E.kw kw_930) (g_castW E) hce hcv hcl ?_
    refine lv_astore (lv' := [(4, .ref q9), (0, .ref (ad 0)), (1, .int p2), (2, .int p3), (3, .ref (ad 77))]) hx hb dL_lineProperty_13 hl (by decide) rfl (fun ls hl => ?_)
    refine lv_iconst (v := (1 : Int32)) hx hb dL_lineProperty_15 (by decide) ?_
    obtain rfl := Option.some.inj h
    exact g_iret hx hb hr hlocks hM hS dL_lineProperty_16
  · replace h := gel_s e3 h
    refine lv_i2l (v := v2.toInt64) hx hb dL_lineProperty_8 rfl ?_
    obtain ⟨c4, h⟩ := gchk_e h
    refine g_last hx hb E hM hS hk_77 dd_77 c4 dL_lineProperty_9 (fun H locs hM hS => ?_)
    refine lv_goto (tgt := 17) hx hb dL_lineProperty_10 (by decide) ?_
    refine lv_iconst (v := (0 : Int32)) hx hb dL_lineProperty_17 (by decide) ?_
    obtain rfl := Option.some.inj h
    exact g_iret hx hb hr hlocks hM hS dL_lineProperty_18
def f_L_reading (p2 : Int32) (p3 : Int32) (p4 : Int32) (μ : gM) : Option (Int32 × gM) :=
  Option.bind (f_X7_reading p2 p3 p4 μ) (fun q1 => Option.elim q1 (some ((1 : Int32), μ)) (fun v2 => gchk (gIn (0 : Int32) 1) (some ((0 : Int32), (sl μ 77 (0 : Int32).toNatClampNeg v2.toInt64)))))
set_option maxHeartbeats 4000000 in
set_option maxRecDepth 100000 in
theorem c_L_reading {l : Launch} {D : va_G} {cy : Nat → ClassId} {ad : Nat → Nat} {base : Nat} {p2 : Int32} {p3 : Int32} {p4 : Int32} {μ : gM} {RES : Int32 × gM} (h : f_L_reading p2 p3 p4 μ = some RES) : Met l yL_reading [.codeWith yL_reading cL_reading 6 (some .int) [(0, 12, 15, 13)]] ({ frames := 8, cells := 1, slots := 6, locals := 126 } : Room) (va_Pc [.ref (ad 0), .int p2, .int p3, .int p4, .ref (ad 77)] (gB l gFull D cy ad base μ)) (gQ (some (.int RES.1)) gFull D cy ad base RES.2) 1 6 (gA base) := by
  refine va_MetW (cc := cL_reading) (maxL := 6) (ret := (some .int)) (hh := [(0, 12, 15, 13)]) (by decide) rfl ?_
  intro p e s m args below meth c s₁ B hml0 hv
  obtain ⟨rfl, E, hM⟩ := hv
  have F : gF p s m meth c cL_reading RL 6 (some .int) := gF_of B hml0
  have hT := vx_table (x := yL_reading) B (E.kw kw_1027)
  obtain ⟨hx, hb, hml, hown, hlocks, hr⟩ := id F
  have hS : va_S (gA base) s.heap s.heap [] := va_S.rf
  have hl := lv_entry ([.ref (ad 0), .int p2, .int p3, .int p4, .ref (ad 77)]) (n := 6) (Nat.le_of_ble_eq_true rfl)
  rw [lg_entry_eq]
  generalize (lg_sl ([.ref (ad 0), .int p2, .int p3, .int p4, .ref (ad 77)]) ++ List.replicate (6 - (lg_sl ([.ref (ad 0), .int p2, .int p3, .int p4, .ref (ad 77)])).length) Slot.unset).toArray = ls at hl ⊢
  have hl : lv_has ls 6 [(0, .ref (ad 0)), (1, .int p2), (2, .int p3), (3, .int p4), (4, .ref (ad 77))] := hl
  unfold f_L_reading at h
  refine lv_aload hx hb dL_reading_0 (lv_at hl 4 rfl) ?_
  refine lv_iconst (v := (0 : Int32)) hx hb dL_reading_2 (by decide) ?_
  refine lv_aload_n hx hb dL_reading_3 rfl (lv_at hl 0 rfl) ?_
  refine lv_iload_n hx hb dL_reading_4 rfl (lv_at hl 1 rfl) ?_
  refine lv_iload_n hx hb dL_reading_5 rfl (lv_at hl 2 rfl) ?_
  refine lv_iload_n hx hb dL_reading_6 rfl (lv_at hl 3 rfl) ?_
  obtain ⟨q1, hq1, h⟩ := gbind_e h
  refine g_callXV (As := [.int p2, .int p3, .int p4]) (rest := [.int (0 : Int32), .ref (ad 77)]) hx hb (hml.trans hl.1.symm) hown E hM hS hy_X7_reading kw_1028 (c_X7_reading hq1) hk_0 dd_0 rfl rfl rfl (Nat.le_of_ble_eq_true rfl) ⟨Nat.le_of_ble_eq_true rfl, Nat.le_of_ble_eq_true rfl⟩ ⟨Nat.le_of_ble_eq_true rfl, Nat.le_of_ble_eq_true rfl⟩ dL_reading_7 (fun e3 q9 ce H locs hM hS hce hcv hcl => ?_) (fun v2 e3 H locs hM hS => ?_)
  · replace h := gel_n e3 h
    refine vx_catch (name := "java/lang/IndexOutOfBoundsException") hown [] ⟨0, 12, 15, 13⟩ [] hT (fun z hz => nomatch hz) (by decide) (by decide) (E.kw kw_930) (g_castW E) hce hcv hcl ?_
    refine lv_astore (lv' := [(5, .ref q9), (0, .ref (ad 0)), (1, .int p2), (2, .int p3), (3, .int p4), (4, .ref (ad 77))]) hx hb dL_reading_15 hl (by decide) rfl (fun ls hl => ?_)
    refine lv_iconst (v := (1 : Int32)) hx hb dL_reading_17 (by decide) ?_
    obtain rfl := Option.some.inj h
    exact g_iret hx hb hr hlocks hM hS dL_reading_18
  · replace h := gel_s e3 h
    refine lv_i2l (v := v2.toInt64) hx hb dL_reading_10 rfl ?_
    obtain ⟨c4, h⟩ := gchk_e h
    refine g_last hx hb E hM hS hk_77 dd_77 c4 dL_reading_11 (fun H locs hM hS => ?_)
    refine lv_goto (tgt := 19) hx hb dL_reading_12 (by decide) ?_
    refine lv_iconst (v := (0 : Int32)) hx hb dL_reading_19 (by decide) ?_
    obtain rfl := Option.some.inj h
    exact g_iret hx hb hr hlocks hM hS dL_reading_20
def f_L_stepOf (p2 : Int32) (p3 : Int32) (μ : gM) : Option (Int32 × gM) :=
  Option.bind (f_X7_stepOf p2 p3 μ) (fun q1 => Option.elim q1 (some ((1 : Int32), μ)) (fun v2 => gchk (gIn (0 : Int32) 1) (some ((0 : Int32), (sl μ 77 (0 : Int32).toNatClampNeg v2.toInt64)))))
set_option maxHeartbeats 4000000 in
set_option maxRecDepth 100000 in
theorem c_L_stepOf {l : Launch} {D : va_G} {cy : Nat → ClassId} {ad : Nat → Nat} {base : Nat} {p2 : Int32} {p3 : Int32} {μ : gM} {RES : Int32 × gM} (h : f_L_stepOf p2 p3 μ = some RES) : Met l yL_stepOf [.codeWith yL_stepOf cL_stepOf 5 (some .int) [(0, 10, 13, 13)]] ({ frames := 8, cells := 1, slots := 6, locals := 125 } : Room) (va_Pc [.ref (ad 0), .int p2, .int p3, .ref (ad 77)] (gB l gFull D cy ad base μ)) (gQ (some (.int RES.1)) gFull D cy ad base RES.2) 1 6 (gA base) := by
  refine va_MetW (cc := cL_stepOf) (maxL := 5) (ret := (some .int)) (hh := [(0, 10, 13, 13)]) (by decide) rfl ?_
  intro p e s m args below meth c s₁ B hml0 hv
  obtain ⟨rfl, E, hM⟩ := hv
  have F : gF p s m meth c cL_stepOf RL 5 (some .int) := gF_of B hml0
  have hT := vx_table (x := yL_stepOf) B (E.kw kw_1034)
  obtain ⟨hx, hb, hml, hown, hlocks, hr⟩ := id F
  have hS : va_S (gA base) s.heap s.heap [] := va_S.rf
  have hl := lv_entry ([.ref (ad 0), .int p2, .int p3, .ref (ad 77)]) (n := 5) (Nat.le_of_ble_eq_true rfl)
  rw [lg_entry_eq]
  generalize (lg_sl ([.ref (ad 0), .int p2, .int p3, .ref (ad 77)]) ++ List.replicate (5 - (lg_sl ([.ref (ad 0), .int p2, .int p3, .ref (ad 77)])).length) Slot.unset).toArray = ls at hl ⊢
  have hl : lv_has ls 5 [(0, .ref (ad 0)), (1, .int p2), (2, .int p3), (3, .ref (ad 77))] := hl
  unfold f_L_stepOf at h
  refine lv_aload_n hx hb dL_stepOf_0 rfl (lv_at hl 3 rfl) ?_
  refine lv_iconst (v := (0 : Int32)) hx hb dL_stepOf_1 (by decide) ?_
  refine lv_aload_n hx hb dL_stepOf_2 rfl (lv_at hl 0 rfl) ?_
  refine lv_iload_n hx hb dL_stepOf_3 rfl (lv_at hl 1 rfl) ?_
  refine lv_iload_n hx hb dL_stepOf_4 rfl (lv_at hl 2 rfl) ?_
  obtain ⟨q1, hq1, h⟩ := gbind_e h
  refine g_callXV (As := [.int p2, .int p3]) (rest := [.int (0 : Int32), .ref (ad 77)]) hx hb (hml.trans hl.1.symm) hown E hM hS hy_X7_stepOf kw_1035 (c_X7_stepOf hq1) hk_0 dd_0 rfl rfl rfl (Nat.le_of_ble_eq_true rfl) ⟨Nat.le_of_ble_eq_true rfl, Nat.le_of_ble_eq_true rfl⟩ ⟨Nat.le_of_ble_eq_true rfl, Nat.le_of_ble_eq_true rfl⟩ dL_stepOf_5 (fun e3 q9 ce H locs hM hS hce hcv hcl => ?_) (fun v2 e3 H locs hM hS => ?_)
  · replace h := gel_n e3 h
    refine vx_catch (name := "java/lang/IndexOutOfBoundsException") hown [] ⟨0, 10, 13, 13⟩ [] hT (fun z hz => nomatch hz) (by decide) (by decide) (E.kw kw_930) (g_castW E) hce hcv hcl ?_
    refine lv_astore (lv' := [(4, .ref q9), (0, .ref (ad 0)), (1, .int p2), (2, .int p3), (3, .ref (ad 77))]) hx hb dL_stepOf_13 hl (by decide) rfl (fun ls hl => ?_)
    refine lv_iconst (v := (1 : Int32)) hx hb dL_stepOf_15 (by decide) ?_
    obtain rfl := Option.some.inj h
    exact g_iret hx hb hr hlocks hM hS dL_stepOf_16
  · replace h := gel_s e3 h
    refine lv_i2l (v := v2.toInt64) hx hb dL_stepOf_8 rfl ?_
    obtain ⟨c4, h⟩ := gchk_e h
    refine g_last hx hb E hM hS hk_77 dd_77 c4 dL_stepOf_9 (fun H locs hM hS => ?_)
    refine lv_goto (tgt := 17) hx hb dL_stepOf_10 (by decide) ?_
    refine lv_iconst (v := (0 : Int32)) hx hb dL_stepOf_17 (by decide) ?_
    obtain rfl := Option.some.inj h
    exact g_iret hx hb hr hlocks hM hS dL_stepOf_18
def f_L_riseOf (p2 : Int32) (μ : gM) : Option (Int32 × gM) :=
  Option.bind (f_X7_riseOf p2 μ) (fun q1 => Option.elim q1 (some ((1 : Int32), μ)) (fun v2 => gchk (gIn (0 : Int32) 1) (some ((0 : Int32), (sl μ 77 (0 : Int32).toNatClampNeg v2.toInt64)))))
set_option maxHeartbeats 4000000 in
set_option maxRecDepth 100000 in
theorem c_L_riseOf {l : Launch} {D : va_G} {cy : Nat → ClassId} {ad : Nat → Nat} {base : Nat} {p2 : Int32} {μ : gM} {RES : Int32 × gM} (h : f_L_riseOf p2 μ = some RES) : Met l yL_riseOf [.codeWith yL_riseOf cL_riseOf 4 (some .int) [(0, 9, 12, 13)]] ({ frames := 8, cells := 1, slots := 6, locals := 124 } : Room) (va_Pc [.ref (ad 0), .int p2, .ref (ad 77)] (gB l gFull D cy ad base μ)) (gQ (some (.int RES.1)) gFull D cy ad base RES.2) 1 6 (gA base) := by
  refine va_MetW (cc := cL_riseOf) (maxL := 4) (ret := (some .int)) (hh := [(0, 9, 12, 13)]) (by decide) rfl ?_
  intro p e s m args below meth c s₁ B hml0 hv
  obtain ⟨rfl, E, hM⟩ := hv
  have F : gF p s m meth c cL_riseOf RL 4 (some .int) := gF_of B hml0
  have hT := vx_table (x := yL_riseOf) B (E.kw kw_1042)
  obtain ⟨hx, hb, hml, hown, hlocks, hr⟩ := id F
  have hS : va_S (gA base) s.heap s.heap [] := va_S.rf
  have hl := lv_entry ([.ref (ad 0), .int p2, .ref (ad 77)]) (n := 4) (Nat.le_of_ble_eq_true rfl)
  rw [lg_entry_eq]
  generalize (lg_sl ([.ref (ad 0), .int p2, .ref (ad 77)]) ++ List.replicate (4 - (lg_sl ([.ref (ad 0), .int p2, .ref (ad 77)])).length) Slot.unset).toArray = ls at hl ⊢
  have hl : lv_has ls 4 [(0, .ref (ad 0)), (1, .int p2), (2, .ref (ad 77))] := hl
  unfold f_L_riseOf at h
  refine lv_aload_n hx hb dL_riseOf_0 rfl (lv_at hl 2 rfl) ?_
  refine lv_iconst (v := (0 : Int32)) hx hb dL_riseOf_1 (by decide) ?_
  refine lv_aload_n hx hb dL_riseOf_2 rfl (lv_at hl 0 rfl) ?_
  refine lv_iload_n hx hb dL_riseOf_3 rfl (lv_at hl 1 rfl) ?_
  obtain ⟨q1, hq1, h⟩ := gbind_e h
  refine g_callXV (As := [.int p2]) (rest := [.int (0 : Int32), .ref (ad 77)]) hx hb (hml.trans hl.1.symm) hown E hM hS hy_X7_riseOf kw_1043 (c_X7_riseOf hq1) hk_0 dd_0 rfl rfl rfl (Nat.le_of_ble_eq_true rfl) ⟨Nat.le_of_ble_eq_true rfl, Nat.le_of_ble_eq_true rfl⟩ ⟨Nat.le_of_ble_eq_true rfl, Nat.le_of_ble_eq_true rfl⟩ dL_riseOf_4 (fun e3 q9 ce H locs hM hS hce hcv hcl => ?_) (fun v2 e3 H locs hM hS => ?_)
  · replace h := gel_n e3 h
    refine vx_catch (name := "java/lang/IndexOutOfBoundsException") hown [] ⟨0, 9, 12, 13⟩ [] hT (fun z hz => nomatch hz) (by decide) (by decide) (E.kw kw_930) (g_castW E) hce hcv hcl ?_
    refine lv_astore_n (lv' := [(3, .ref q9), (0, .ref (ad 0)), (1, .int p2), (2, .ref (ad 77))]) hx hb dL_riseOf_12 rfl hl (by decide) rfl (fun ls hl => ?_)
    refine lv_iconst (v := (1 : Int32)) hx hb dL_riseOf_13 (by decide) ?_
    obtain rfl := Option.some.inj h
    exact g_iret hx hb hr hlocks hM hS dL_riseOf_14
  · replace h := gel_s e3 h
    refine lv_i2l (v := v2.toInt64) hx hb dL_riseOf_7 rfl ?_
    obtain ⟨c4, h⟩ := gchk_e h
    refine g_last hx hb E hM hS hk_77 dd_77 c4 dL_riseOf_8 (fun H locs hM hS => ?_)
    refine lv_goto (tgt := 15) hx hb dL_riseOf_9 (by decide) ?_
    refine lv_iconst (v := (0 : Int32)) hx hb dL_riseOf_15 (by decide) ?_
    obtain rfl := Option.some.inj h
    exact g_iret hx hb hr hlocks hM hS dL_riseOf_16
def f_L_collimationEffect (p2 : Int32) (μ : gM) : Option (Int32 × gM) :=
  Option.bind (f_X7_collimationEffect p2 μ) (fun q1 => Option.elim q1 (some ((1 : Int32), μ)) (fun v2 => gchk (gIn (0 : Int32) 1) (some ((0 : Int32), (sl μ 77 (0 : Int32).toNatClampNeg v2.toInt64)))))
set_option maxHeartbeats 4000000 in
set_option maxRecDepth 100000 in
theorem c_L_collimationEffect {l : Launch} {D : va_G} {cy : Nat → ClassId} {ad : Nat → Nat} {base : Nat} {p2 : Int32} {μ : gM} {RES : Int32 × gM} (h : f_L_collimationEffect p2 μ = some RES) : Met l yL_collimationEffect [.codeWith yL_collimationEffect cL_collimationEffect 4 (some .int) [(0, 9, 12, 13)]] ({ frames := 8, cells := 1, slots := 6, locals := 124 } : Room) (va_Pc [.ref (ad 0), .int p2, .ref (ad 77)] (gB l gFull D cy ad base μ)) (gQ (some (.int RES.1)) gFull D cy ad base RES.2) 1 6 (gA base) := by
  refine va_MetW (cc := cL_collimationEffect) (maxL := 4) (ret := (some .int)) (hh := [(0, 9, 12, 13)]) (by decide) rfl ?_
  intro p e s m args below meth c s₁ B hml0 hv
  obtain ⟨rfl, E, hM⟩ := hv
  have F : gF p s m meth c cL_collimationEffect RL 4 (some .int) := gF_of B hml0
  have hT := vx_table (x := yL_collimationEffect) B (E.kw kw_1050)
  obtain ⟨hx, hb, hml, hown, hlocks, hr⟩ := id F
  have hS : va_S (gA base) s.heap s.heap [] := va_S.rf
  have hl := lv_entry ([.ref (ad 0), .int p2, .ref (ad 77)]) (n := 4) (Nat.le_of_ble_eq_true rfl)
  rw [lg_entry_eq]
  generalize (lg_sl ([.ref (ad 0), .int p2, .ref (ad 77)]) ++ List.replicate (4 - (lg_sl ([.ref (ad 0), .int p2, .ref (ad 77)])).length) Slot.unset).toArray = ls at hl ⊢
  have hl : lv_has ls 4 [(0, .ref (ad 0)), (1, .int p2), (2, .ref (ad 77))] := hl
  unfold f_L_collimationEffect at h
  refine lv_aload_n hx hb dL_collimationEffect_0 rfl (lv_at hl 2 rfl) ?_
  refine lv_iconst (v := (0 : Int32)) hx hb dL_collimationEffect_1 (by decide) ?_
  refine lv_aload_n hx hb dL_collimationEffect_2 rfl (lv_at hl 0 rfl) ?_
  refine lv_iload_n hx hb dL_collimationEffect_3 rfl (lv_at hl 1 rfl) ?_
  obtain ⟨q1, hq1, h⟩ := gbind_e h
  refine g_callXV (As := [.int p2]) (rest := [.int (0 : Int32), .ref (ad 77)]) hx hb (hml.trans hl.1.symm) hown E hM hS hy_X7_collimationEffect kw_1051 (c_X7_collimationEffect hq1) hk_0 dd_0 rfl rfl rfl (Nat.le_of_ble_eq_true rfl) ⟨Nat.le_of_ble_eq_true rfl, Nat.le_of_ble_eq_true rfl⟩ ⟨Nat.le_of_ble_eq_true rfl, Nat.le_of_ble_eq_true rfl⟩ dL_collimationEffect_4 (fun e3 q9 ce H locs hM hS hce hcv hcl => ?_) (fun v2 e3 H locs hM hS => ?_)
  · replace h := gel_n e3 h
    refine vx_catch (name := "java/lang/IndexOutOfBoundsException") hown [] ⟨0, 9, 12, 13⟩ [] hT (fun z hz => nomatch hz) (by decide) (by decide) (E.kw kw_930) (g_castW E) hce hcv hcl ?_
    refine lv_astore_n (lv' := [(3, .ref q9), (0, .ref (ad 0)), (1, .int p2), (2, .ref (ad 77))]) hx hb dL_collimationEffect_12 rfl hl (by decide) rfl (fun ls hl => ?_)
    refine lv_iconst (v := (1 : Int32)) hx hb dL_collimationEffect_13 (by decide) ?_
    obtain rfl := Option.some.inj h
    exact g_iret hx hb hr hlocks hM hS dL_collimationEffect_14
  · replace h := gel_s e3 h
    refine lv_i2l (v := v2.toInt64) hx hb dL_collimationEffect_7 rfl ?_
    obtain ⟨c4, h⟩ := gchk_e h
    refine g_last hx hb E hM hS hk_77 dd_77 c4 dL_collimationEffect_8 (fun H locs hM hS => ?_)
    refine lv_goto (tgt := 15) hx hb dL_collimationEffect_9 (by decide) ?_
    refine lv_iconst (v := (0 : Int32)) hx hb dL_collimationEffect_15 (by decide) ?_
    obtain rfl := Option.some.inj h
    exact g_iret hx hb hr hlocks hM hS dL_collimationEffect_16
def f_L_imbalance (p2 : Int32) (μ : gM) : Option (Int32 × gM) :=
  Option.bind (f_X7_imbalance p2 μ) (fun q1 => Option.elim q1 (some ((1 : Int32), μ)) (fun v2 => gchk (gIn (0 : Int32) 1) (some ((0 : Int32), (sl μ 77 (0 : Int32).toNatClampNeg v2.toInt64)))))
set_option maxHeartbeats 4000000 in
set_option maxRecDepth 100000 in
theorem c_L_imbalance {l : Launch} {D : va_G} {cy : Nat → ClassId} {ad : Nat → Nat} {base : Nat} {p2 : Int32} {μ : gM} {RES : Int32 × gM} (h : f_L_imbalance p2 μ = some RES) : Met l yL_imbalance [.codeWith yL_imbalance cL_imbalance 4 (some .int) [(0, 9, 12, 13)]] ({ frames := 8, cells := 1, slots := 6, locals := 124 } : Room) (va_Pc [.ref (ad 0), .int p2, .ref (ad 77)] (gB l gFull D cy ad base μ)) (gQ (some (.int RES.1)) gFull D cy ad base RES.2) 1 6 (gA base) := by
  refine va_MetW (cc := cL_imbalance) (maxL := 4) (ret := (some .int)) (hh := [(0, 9, 12, 13)]) (by decide) rfl ?_
  intro p e s m args below meth c s₁ B hml0 hv
  obtain ⟨rfl, E, hM⟩ := hv
  have F : gF p s m meth c cL_imbalance RL 4 (some .int) := gF_of B hml0
  have hT := vx_table (x := yL_imbalance) B (E.kw kw_1061)
  obtain ⟨hx, hb, hml, hown, hlocks, hr⟩ := id F
  have hS : va_S (gA base) s.heap s.heap [] := va_S.rf
  have hl := lv_entry ([.ref (ad 0), .int p2, .ref (ad 77)]) (n := 4) (Nat.le_of_ble_eq_true rfl)
  rw [lg_entry_eq]
  generalize (lg_sl ([.ref (ad 0), .int p2, .ref (ad 77)]) ++ List.replicate (4 - (lg_sl ([.ref (ad 0), .int p2, .ref (ad 77)])).length) Slot.unset).toArray = ls at hl ⊢
  have hl : lv_has ls 4 [(0, .ref (ad 0)), (1, .int p2), (2, .ref (ad 77))] := hl
  unfold f_L_imbalance at h
  refine lv_aload_n hx hb dL_imbalance_0 rfl (lv_at hl 2 rfl) ?_
  refine lv_iconst (v := (0 : Int32)) hx hb dL_imbalance_1 (by decide) ?_
  refine lv_aload_n hx hb dL_imbalance_2 rfl (lv_at hl 0 rfl) ?_
  refine lv_iload_n hx hb dL_imbalance_3 rfl (lv_at hl 1 rfl) ?_
  obtain ⟨q1, hq1, h⟩ := gbind_e h
  refine g_callXV (As := [.int p2]) (rest := [.int (0 : Int32), .ref (ad 77)]) hx hb (hml.trans hl.1.symm) hown E hM hS hy_X7_imbalance kw_1062 (c_X7_imbalance hq1) hk_0 dd_0 rfl rfl rfl (Nat.le_of_ble_eq_true rfl) ⟨Nat.le_of_ble_eq_true rfl, Nat.le_of_ble_eq_true rfl⟩ ⟨Nat.le_of_ble_eq_true rfl, Nat.le_of_ble_eq_true rfl⟩ dL_imbalance_4 (fun e3 q9 ce H locs hM hS hce hcv hcl => ?_) (fun v2 e3 H locs hM hS => ?_)
  · replace h := gel_n e3 h
    refine vx_catch (name := "java/lang/IndexOutOfBoundsException") hown [] ⟨0, 9, 12, 13⟩ [] hT (fun z hz => nomatch hz) (by decide) (by decide) (E.kw kw_930) (g_castW E) hce hcv hcl ?_
    refine lv_astore_n (lv' := [(3, .ref q9), (0, .ref (ad 0)), (1, .int p2), (2, .ref (ad 77))]) hx hb dL_imbalance_12 rfl hl (by decide) rfl (fun ls hl => ?_)
    refine lv_iconst (v := (1 : Int32)) hx hb dL_imbalance_13 (by decide) ?_
    obtain rfl := Option.some.inj h
    exact g_iret hx hb hr hlocks hM hS dL_imbalance_14
  · replace h := gel_s e3 h
    refine lv_i2l (v := v2.toInt64) hx hb dL_imbalance_7 rfl ?_
    obtain ⟨c4, h⟩ := gchk_e h
    refine g_last hx hb E hM hS hk_77 dd_77 c4 dL_imbalance_8 (fun H locs hM hS => ?_)
    refine lv_goto (tgt := 15) hx hb dL_imbalance_9 (by decide) ?_
    refine lv_iconst (v := (0 : Int32)) hx hb dL_imbalance_15 (by decide) ?_
    obtain rfl := Option.some.inj h
    exact g_iret hx hb hr hlocks hM hS dL_imbalance_16
def f_L_faultsOf (p2 : Int32) (μ : gM) : Option (Int32 × gM) :=
  Option.bind (f_X7_faultsOf p2 μ) (fun q1 => Option.elim q1 (some ((1 : Int32), μ)) (fun v2 => gchk (gIn (0 : Int32) 1) (some ((0 : Int32), (sl μ 77 (0 : Int32).toNatClampNeg v2.toInt64)))))
set_option maxHeartbeats 4000000 in
set_option maxRecDepth 100000 in
theorem c_L_faultsOf {l : Launch} {D : va_G} {cy : Nat → ClassId} {ad : Nat → Nat} {base : Nat} {p2 : Int32} {μ : gM} {RES : Int32 × gM} (h : f_L_faultsOf p2 μ = some RES) : Met l yL_faultsOf [.codeWith yL_faultsOf cL_faultsOf 4 (some .int) [(0, 9, 12, 13)]] ({ frames := 8, cells := 1, slots := 6, locals := 125 } : Room) (va_Pc [.ref (ad 0), .int p2, .ref (ad 77)] (gB l gFull D cy ad base μ)) (gQ (some (.int RES.1)) gFull D cy ad base RES.2) 1 6 (gA base) := by
  refine va_MetW (cc := cL_faultsOf) (maxL := 4) (ret := (some .int)) (hh := [(0, 9, 12, 13)]) (by decide) rfl ?_
  intro p e s m args below meth c s₁ B hml0 hv
  obtain ⟨rfl, E, hM⟩ := hv
  have F : gF p s m meth c cL_faultsOf RL 4 (some .int) := gF_of B hml0
  have hT := vx_table (x := yL_faultsOf) B (E.kw kw_1068)
  obtain ⟨hx, hb, hml, hown, hlocks, hr⟩ := id F
  have hS : va_S (gA base) s.heap s.heap [] := va_S.rf
  have hl := lv_entry ([.ref (ad 0), .int p2, .ref (ad 77)]) (n := 4) (Nat.le_of_ble_eq_true rfl)
  rw [lg_entry_eq]
  generalize (lg_sl ([.ref (ad 0), .int p2, .ref (ad 77)]) ++ List.replicate (4 - (lg_sl ([.ref (ad 0), .int p2, .ref (ad 77)])).length) Slot.unset).toArray = ls at hl ⊢
  have hl : lv_has ls 4 [(0, .ref (ad 0)), (1, .int p2), (2, .ref (ad 77))] := hl
  unfold f_L_faultsOf at h
  refine lv_aload_n hx hb dL_faultsOf_0 rfl (lv_at hl 2 rfl) ?_
  refine lv_iconst (v := (0 : Int32)) hx hb dL_faultsOf_1 (by decide) ?_
  refine lv_aload_n hx hb dL_faultsOf_2 rfl (lv_at hl 0 rfl) ?_
  refine lv_iload_n hx hb dL_faultsOf_3 rfl (lv_at hl 1 rfl) ?_
  obtain ⟨q1, hq1, h⟩ := gbind_e h
  refine g_callXV (As := [.int p2]) (rest := [.int (0 : Int32), .ref (ad 77)]) hx hb (hml.trans hl.1.symm) hown E hM hS hy_X7_faultsOf kw_1069 (c_X7_faultsOf hq1) hk_0 dd_0 rfl rfl rfl (Nat.le_of_ble_eq_true rfl) ⟨Nat.le_of_ble_eq_true rfl, Nat.le_of_ble_eq_true rfl⟩ ⟨Nat.le_of_ble_eq_true rfl, Nat.le_of_ble_eq_true rfl⟩ dL_faultsOf_4 (fun e3 q9 ce H locs hM hS hce hcv hcl => ?_) (fun v2 e3 H locs hM hS => ?_)
  · replace h := gel_n e3 h
    refine vx_catch (name := "java/lang/IndexOutOfBoundsException") hown [] ⟨0, 9, 12, 13⟩ [] hT (fun z hz => nomatch hz) (by decide) (by decide) (E.kw kw_930) (g_castW E) hce hcv hcl ?_
    refine lv_astore_n (lv' := [(3, .ref q9), (0, .ref (ad 0)), (1, .int p2), (2, .ref (ad 77))]) hx hb dL_faultsOf_12 rfl hl (by decide) rfl (fun ls hl => ?_)
    refine lv_iconst (v := (1 : Int32)) hx hb dL_faultsOf_13 (by decide) ?_
    obtain rfl := Option.some.inj h
    exact g_iret hx hb hr hlocks hM hS dL_faultsOf_14
  · replace h := gel_s e3 h
    refine lv_i2l (v := v2.toInt64) hx hb dL_faultsOf_7 rfl ?_
    obtain ⟨c4, h⟩ := gchk_e h
    refine g_last hx hb E hM hS hk_77 dd_77 c4 dL_faultsOf_8 (fun H locs hM hS => ?_)
    refine lv_goto (tgt := 15) hx hb dL_faultsOf_9 (by decide) ?_
    refine lv_iconst (v := (0 : Int32)) hx hb dL_faultsOf_15 (by decide) ?_
    obtain rfl := Option.some.inj h
    exact g_iret hx hb hr hlocks hM hS dL_faultsOf_16
def f_L_turningHeight (p2 : Int32) (p3 : Int32) (μ : gM) : Option (Int32 × gM) :=
  Option.bind (f_X7_turningHeight p2 p3 μ) (fun q1 => Option.elim q1.1 (some ((1 : Int32), q1.2)) (fun v2 => gchk (gIn (0 : Int32) 1) (some ((0 : Int32), (sl q1.2 77 (0 : Int32).toNatClampNeg v2)))))
set_option maxHeartbeats 4000000 in
set_option maxRecDepth 100000 in
theorem c_L_turningHeight {l : Launch} {D : va_G} {cy : Nat → ClassId} {ad : Nat → Nat} {base : Nat} {p2 : Int32} {p3 : Int32} {μ : gM} {RES : Int32 × gM} (h : f_L_turningHeight p2 p3 μ = some RES) : Met l yL_turningHeight [.codeWith yL_turningHeight cL_turningHeight 5 (some .int) [(0, 9, 12, 13)]] ({ frames := 8, cells := 1, slots := 6, locals := 141 } : Room) (va_Pc [.ref (ad 0), .int p2, .int p3, .ref (ad 77)] (gB l gFull D cy ad base μ)) (gQ (some (.int RES.1)) gFull D cy ad base RES.2) 1 6 (gA base) := by
  refine va_MetW (cc := cL_turningHeight) (maxL := 5) (ret := (some .int)) (hh := [(0, 9, 12, 13)]) (by decide) rfl ?_
  intro p e s m args below meth c s₁ B hml0 hv
  obtain ⟨rfl, E, hM⟩ := hv
  have F : gF p s m meth c cL_turningHeight RL 5 (some .int) := gF_of B hml0
  have hT := vx_table (x := yL_turningHeight) B (E.kw kw_1080)
  obtain ⟨hx, hb, hml, hown, hlocks, hr⟩ := id F
  have hS : va_S (gA base) s.heap s.heap [] := va_S.rf
  have hl := lv_entry ([.ref (ad 0), .int p2, .int p3, .ref (ad 77)]) (n := 5) (Nat.le_of_ble_eq_true rfl)
  rw [lg_entry_eq]
  generalize (lg_sl ([.ref (ad 0), .int p2, .int p3, .ref (ad 77)]) ++ List.replicate (5 - (lg_sl ([.ref (ad 0), .int p2, .int p3, .ref (ad 77)])).length) Slot.unset).toArray = ls at hl ⊢
  have hl : lv_has ls 5 [(0, .ref (ad 0)), (1, .int p2), (2, .int p3), (3, .ref (ad 77))] := hl
  unfold f_L_turningHeight at h
  refine lv_aload_n hx hb dL_turningHeight_0 rfl (lv_at hl 3 rfl) ?_
  refine lv_iconst (v := (0 : Int32)) hx hb dL_turningHeight_1 (by decide) ?_
  refine lv_aload_n hx hb dL_turningHeight_2 rfl (lv_at hl 0 rfl) ?_
  refine lv_iload_n hx hb dL_turningHeight_3 rfl (lv_at hl 1 rfl) ?_
  refine lv_iload_n hx hb dL_turningHeight_4 rfl (lv_at hl 2 rfl) ?_
  obtain ⟨q1, hq1, h⟩ := gbind_e h
  refine g_callXV (As := [.int p2, .int p3]) (rest := [.int (0 : Int32), .ref (ad 77)]) hx hb (hml.trans hl.1.symm) hown E hM hS hy_X7_turningHeight kw_1081 (c_X7_turningHeight hq1) hk_0 dd_0 rfl rfl rfl (Nat.le_of_ble_eq_true rfl) ⟨Nat.le_of_ble_eq_true rfl, Nat.le_of_ble_eq_true rfl⟩ ⟨Nat.le_of_ble_eq_true rfl, Nat.le_of_ble_eq_true rfl⟩ dL_turningHeight_5 (fun e3 q9 ce H locs hM hS hce hcv hcl => ?_) (fun v2 e3 H locs hM hS => ?_)
  · replace h := gel_n e3 h
    refine vx_catch (name := "java/lang/IndexOutOfBoundsException") hown [] ⟨0, 9, 12, 13⟩ [] hT (fun z hz => nomatch hz) (by decide) (by decide) (E.kw kw_930) (g_castW E) hce hcv hcl ?_
    refine lv_astore (lv' := [(4, .ref q9), (0, .ref (ad 0)), (1, .int p2), (2, .int p3), (3, .ref (ad 77))]) hx hb dL_turningHeight_12 hl (by decide) rfl (fun ls hl => ?_)
    refine lv_iconst (v := (1 : Int32)) hx hb dL_turningHeight_14 (by decide) ?_
    obtain rfl := Option.some.inj h
    exact g_iret hx hb hr hlocks hM hS dL_turningHeight_15
  · replace h := gel_s e3 h
    obtain ⟨c4, h⟩ := gchk_e h
    refine g_last hx hb E hM hS hk_77 dd_77 c4 dL_turningHeight_8 (fun H locs hM hS => ?_)
    refine lv_goto (tgt := 16) hx hb dL_turningHeight_9 (by decide) ?_
    refine lv_iconst (v := (0 : Int32)) hx hb dL_turningHeight_16 (by decide) ?_
    obtain rfl := Option.some.inj h
    exact g_iret hx hb hr hlocks hM hS dL_turningHeight_17
def f_L_pairOf (p2 : Int32) (μ : gM) : Option (Int32 × gM) :=
  Option.bind (f_X7_pairOf p2 μ) (fun q1 => Option.elim q1 (some ((1 : Int32), μ)) (fun v2 => gchk (gIn (0 : Int32) 1) (some ((0 : Int32), (sl μ 77 (0 : Int32).toNatClampNeg v2.toInt64)))))
set_option maxHeartbeats 4000000 in
set_option maxRecDepth 100000 in
theorem c_L_pairOf {l : Launch} {D : va_G} {cy : Nat → ClassId} {ad : Nat → Nat} {base : Nat} {p2 : Int32} {μ : gM} {RES : Int32 × gM} (h : f_L_pairOf p2 μ = some RES) : Met l yL_pairOf [.codeWith yL_pairOf cL_pairOf 4 (some .int) [(0, 9, 12, 13)]] ({ frames := 8, cells := 1, slots := 6, locals := 124 } : Room) (va_Pc [.ref (ad 0), .int p2, .ref (ad 77)] (gB l gFull D cy ad base μ)) (gQ (some (.int RES.1)) gFull D cy ad base RES.2) 1 6 (gA base) := by
  refine va_MetW (cc := cL_pairOf) (maxL := 4) (ret := (some .int)) (hh := [(0, 9, 12, 13)]) (by decide) rfl ?_
  intro p e s m args below meth c s₁ B hml0 hv
  obtain ⟨rfl, E, hM⟩ := hv
  have F : gF p s m meth c cL_pairOf RL 4 (some .int) := gF_of B hml0
  have hT := vx_table (x := yL_pairOf) B (E.kw kw_1087)
  obtain ⟨hx, hb, hml, hown, hlocks, hr⟩ := id F
  have hS : va_S (gA base) s.heap s.heap [] := va_S.rf
  have hl := lv_entry ([.ref (ad 0), .int p2, .ref (ad 77)]) (n := 4) (Nat.le_of_ble_eq_true rfl)
  rw [lg_entry_eq]
  generalize (lg_sl ([.ref (ad 0), .int p2, .ref (ad 77)]) ++ List.replicate (4 - (lg_sl ([.ref (ad 0), .int p2, .ref (ad 77)])).length) Slot.unset).toArray = ls at hl ⊢
  have hl : lv_has ls 4 [(0, .ref (ad 0)), (1, .int p2), (2, .ref (ad 77))] := hl
  unfold f_L_pairOf at h
  refine lv_aload_n hx hb dL_pairOf_0 rfl (lv_at hl 2 rfl) ?_
  refine lv_iconst (v := (0 : Int32)) hx hb dL_pairOf_1 (by decide) ?_
  refine lv_aload_n hx hb dL_pairOf_2 rfl (lv_at hl 0 rfl) ?_
  refine lv_iload_n hx hb dL_pairOf_3 rfl (lv_at hl 1 rfl) ?_
  obtain ⟨q1, hq1, h⟩ := gbind_e h
  refine g_callXV (As := [.int p2]) (rest := [.int (0 : Int32), .ref (ad 77)]) hx hb (hml.trans hl.1.symm) hown E hM hS hy_X7_pairOf kw_1088 (c_X7_pairOf hq1) hk_0 dd_0 rfl rfl rfl (Nat.le_of_ble_eq_true rfl) ⟨Nat.le_of_ble_eq_true rfl, Nat.le_of_ble_eq_true rfl⟩ ⟨Nat.le_of_ble_eq_true rfl, Nat.le_of_ble_eq_true rfl⟩ dL_pairOf_4 (fun e3 q9 ce H locs hM hS hce hcv hcl => ?_) (fun v2 e3 H locs hM hS => ?_)
  · replace h := gel_n e3 h
    refine vx_catch (name := "java/lang/IndexOutOfBoundsException") hown [] ⟨0, 9, 12, 13⟩ [] hT (fun z hz => nomatch hz) (by decide) (by decide) (E.kw kw_930) (g_castW E) hce hcv hcl ?_
    refine lv_astore_n (lv' := [(3, .ref q9), (0, .ref (ad 0)), (1, .int p2), (2, .ref (ad 77))]) hx hb dL_pairOf_12 rfl hl (by decide) rfl (fun ls hl => ?_)
    refine lv_iconst (v := (1 : Int32)) hx hb dL_pairOf_13 (by decide) ?_
    obtain rfl := Option.some.inj h
    exact g_iret hx hb hr hlocks hM hS dL_pairOf_14
  · replace h := gel_s e3 h
    refine lv_i2l (v := v2.toInt64) hx hb dL_pairOf_7 rfl ?_
    obtain ⟨c4, h⟩ := gchk_e h
    refine g_last hx hb E hM hS hk_77 dd_77 c4 dL_pairOf_8 (fun H locs hM hS => ?_)
    refine lv_goto (tgt := 15) hx hb dL_pairOf_9 (by decide) ?_
    refine lv_iconst (v := (0 : Int32)) hx hb dL_pairOf_15 (by decide) ?_
    obtain rfl := Option.some.inj h
    exact g_iret hx hb hr hlocks hM hS dL_pairOf_16
def f_L_discrepancy (p2 : Int32) (μ : gM) : Option (Int32 × gM) :=
  Option.bind (f_X7_discrepancy p2 μ) (fun q1 => Option.elim q1 (some ((1 : Int32), μ)) (fun v2 => gchk (gIn (0 : Int32) 1) (some ((0 : Int32), (sl μ 77 (0 : Int32).toNatClampNeg v2.toInt64)))))
set_option maxHeartbeats 4000000 in
set_option maxRecDepth 100000 in
theorem c_L_discrepancy {l : Launch} {D : va_G} {cy : Nat → ClassId} {ad : Nat → Nat} {base : Nat} {p2 : Int32} {μ : gM} {RES : Int32 × gM} (h : f_L_discrepancy p2 μ = some RES) : Met l yL_discrepancy [.codeWith yL_discrepancy cL_discrepancy 4 (some .int) [(0, 9, 12, 13)]] ({ frames := 8, cells := 1, slots := 6, locals := 125 } : Room) (va_Pc [.ref (ad 0), .int p2, .ref (ad 77)] (gB l gFull D cy ad base μ)) (gQ (some (.int RES.1)) gFull D cy ad base RES.2) 1 6 (gA base) := by
  refine va_MetW (cc := cL_discrepancy) (maxL := 4) (ret := (some .int)) (hh := [(0, 9, 12, 13)]) (by decide) rfl ?_
  intro p e s m args below meth c s₁ B hml0 hv
  obtain ⟨rfl, E, hM⟩ := hv
  have F : gF p s m meth c cL_discrepancy RL 4 (some .int) := gF_of B hml0
  have hT := vx_table (x := yL_discrepancy) B (E.kw kw_1098)
  obtain ⟨hx, hb, hml, hown, hlocks, hr⟩ := id F
  have hS : va_S (gA base) s.heap s.heap [] := va_S.rf
  have hl := lv_entry ([.ref (ad 0), .int p2, .ref (ad 77)]) (n := 4) (Nat.le_of_ble_eq_true rfl)
  rw [lg_entry_eq]
  generalize (lg_sl ([.ref (ad 0), .int p2, .ref (ad 77)]) ++ List.replicate (4 - (lg_sl ([.ref (ad 0), .int p2, .ref (ad 77)])).length) Slot.unset).toArray = ls at hl ⊢
  have hl : lv_has ls 4 [(0, .ref (ad 0)), (1, .int p2), (2, .ref (ad 77))] := hl
  unfold f_L_discrepancy at h
  refine lv_aload_n hx hb dL_discrepancy_0 rfl (lv_at hl 2 rfl) ?_
  refine lv_iconst (v := (0 : Int32)) hx hb dL_discrepancy_1 (by decide) ?_
  refine lv_aload_n hx hb dL_discrepancy_2 rfl (lv_at hl 0 rfl) ?_
  refine lv_iload_n hx hb dL_discrepancy_3 rfl (lv_at hl 1 rfl) ?_
  obtain ⟨q1, hq1, h⟩ := gbind_e h
  refine g_callXV (As := [.int p2]) (rest := [.int (0 : Int32), .ref (ad 77)]) hx hb (hml.trans hl.1.symm) hown E hM hS hy_X7_discrepancy kw_1099 (c_X7_discrepancy hq1) hk_0 dd_0 rfl rfl rfl (Nat.le_of_ble_eq_true rfl) ⟨Nat.le_of_ble_eq_true rfl, Nat.le_of_ble_eq_true rfl⟩ ⟨Nat.le_of_ble_eq_true rfl, Nat.le_of_ble_eq_true rfl⟩ dL_discrepancy_4 (fun e3 q9 ce H locs hM hS hce hcv hcl => ?_) (fun v2 e3 H locs hM hS => ?_)
  · replace h := gel_n e3 h
    refine vx_catch (name := "java/lang/IndexOutOfBoundsException") hown [] ⟨0, 9, 12, 13⟩ [] hT (fun z hz => nomatch hz) (by decide) (by decide) (E.kw kw_930) (g_castW E) hce hcv hcl ?_
    refine lv_astore_n (lv' := [(3, .ref q9), (0, .ref (ad 0)), (1, .int p2), (2, .ref (ad 77))]) hx hb dL_discrepancy_12 rfl hl (by decide) rfl (fun ls hl => ?_)
    refine lv_iconst (v := (1 : Int32)) hx hb dL_discrepancy_13 (by decide) ?_
    obtain rfl := Option.some.inj h
    exact g_iret hx hb hr hlocks hM hS dL_discrepancy_14
  · replace h := gel_s e3 h
    refine lv_i2l (v := v2.toInt64) hx hb dL_discrepancy_7 rfl ?_
    obtain ⟨c4, h⟩ := gchk_e h
    refine g_last hx hb E hM hS hk_77 dd_77 c4 dL_discrepancy_8 (fun H locs hM hS => ?_)
    refine lv_goto (tgt := 15) hx hb dL_discrepancy_9 (by decide) ?_
    refine lv_iconst (v := (0 : Int32)) hx hb dL_discrepancy_15 (by decide) ?_
    obtain rfl := Option.some.inj h
    exact g_iret hx hb hr hlocks hM hS dL_discrepancy_16
def f_L_linesAt (p2 : Int32) (μ : gM) : Option (Int32 × gM) :=
  Option.bind (f_X7_linesAt p2 μ) (fun q1 => Option.elim q1 (some ((1 : Int32), μ)) (fun v2 => gchk (gIn (0 : Int32) 1) (some ((0 : Int32), (sl μ 77 (0 : Int32).toNatClampNeg v2.toInt64)))))
set_option maxHeartbeats 4000000 in
set_option maxRecDepth 100000 in
theorem c_L_linesAt {l : Launch} {D : va_G} {cy : Nat → ClassId} {ad : Nat → Nat} {base : Nat} {p2 : Int32} {μ : gM} {RES : Int32 × gM} (h : f_L_linesAt p2 μ = some RES) : Met l yL_linesAt [.codeWith yL_linesAt cL_linesAt 4 (some .int) [(0, 9, 12, 13)]] ({ frames := 8, cells := 1, slots := 6, locals := 126 } : Room) (va_Pc [.ref (ad 0), .int p2, .ref (ad 77)] (gB l gFull D cy ad base μ)) (gQ (some (.int RES.1)) gFull D cy ad base RES.2) 1 6 (gA base) := by
  refine va_MetW (cc := cL_linesAt) (maxL := 4) (ret := (some .int)) (hh := [(0, 9, 12, 13)]) (by decide) rfl ?_
  intro p e s m args below meth c s₁ B hml0 hv
  obtain ⟨rfl, E, hM⟩ := hv
  have F : gF p s m meth c cL_linesAt RL 4 (some .int) := gF_of B hml0
  have hT := vx_table (x := yL_linesAt) B (E.kw kw_1106)
  obtain ⟨hx, hb, hml, hown, hlocks, hr⟩ := id F
  have hS : va_S (gA base) s.heap s.heap [] := va_S.rf
  have hl := lv_entry ([.ref (ad 0), .int p2, .ref (ad 77)]) (n := 4) (Nat.le_of_ble_eq_true rfl)
  rw [lg_entry_eq]
  generalize (lg_sl ([.ref (ad 0), .int p2, .ref (ad 77)]) ++ List.replicate (4 - (lg_sl ([.ref (ad 0), .int p2, .ref (ad 77)])).length) Slot.unset).toArray = ls at hl ⊢
  have hl : lv_has ls 4 [(0, .ref (ad 0)), (1, .int p2), (2, .ref (ad 77))] := hl
  unfold f_L_linesAt at h
  refine lv_aload_n hx hb dL_linesAt_0 rfl (lv_at hl 2 rfl) ?_
  refine lv_iconst (v := (0 : Int32)) hx hb dL_linesAt_1 (by decide) ?_
  refine lv_aload_n hx hb dL_linesAt_2 rfl (lv_at hl 0 rfl) ?_
  refine lv_iload_n hx hb dL_linesAt_3 rfl (lv_at hl 1 rfl) ?_
  obtain ⟨q1, hq1, h⟩ := gbind_e h
  refine g_callXV (As := [.int p2]) (rest := [.int (0 : Int32), .ref (ad 77)]) hx hb (hml.trans hl.1.symm) hown E hM hS hy_X7_linesAt kw_1107 (c_X7_linesAt hq1) hk_0 dd_0 rfl rfl rfl (Nat.le_of_ble_eq_true rfl) ⟨Nat.le_of_ble_eq_true rfl, Nat.le_of_ble_eq_true rfl⟩ ⟨Nat.le_of_ble_eq_true rfl, Nat.le_of_ble_eq_true rfl⟩ dL_linesAt_4 (fun e3 q9 ce H locs hM hS hce hcv hcl => ?_) (fun v2 e3 H locs hM hS => ?_)
  · replace h := gel_n e3 h
    refine vx_catch (name := "java/lang/IndexOutOfBoundsException") hown [] ⟨0, 9, 12, 13⟩ [] hT (fun z hz => nomatch hz) (by decide) (by decide) (E.kw kw_930) (g_castW E) hce hcv hcl ?_
    refine lv_astore_n (lv' := [(3, .ref q9), (0, .ref (ad 0)), (1, .int p2), (2, .ref (ad 77))]) hx hb dL_linesAt_12 rfl hl (by decide) rfl (fun ls hl => ?_)
    refine lv_iconst (v := (1 : Int32)) hx hb dL_linesAt_13 (by decide) ?_
    obtain rfl := Option.some.inj h
    exact g_iret hx hb hr hlocks hM hS dL_linesAt_14
  · replace h := gel_s e3 h
    refine lv_i2l (v := v2.toInt64) hx hb dL_linesAt_7 rfl ?_
    obtain ⟨c4, h⟩ := gchk_e h
    refine g_last hx hb E hM hS hk_77 dd_77 c4 dL_linesAt_8 (fun H locs hM hS => ?_)
    refine lv_goto (tgt := 15) hx hb dL_linesAt_9 (by decide) ?_
    refine lv_iconst (v := (0 : Int32)) hx hb dL_linesAt_15 (by decide) ?_
    obtain rfl := Option.some.inj h
    exact g_iret hx hb hr hlocks hM hS dL_linesAt_16
def f_L_rootOf (p2 : Int32) (μ : gM) : Option (Int32 × gM) :=
  Option.bind (f_X7_rootOf p2 μ) (fun q1 => Option.elim q1.1 (some ((1 : Int32), q1.2)) (fun v2 => gchk (gIn (0 : Int32) 1) (some ((0 : Int32), (sl q1.2 77 (0 : Int32).toNatClampNeg v2.toInt64)))))
set_option maxHeartbeats 4000000 in
set_option maxRecDepth 100000 in
theorem c_L_rootOf {l : Launch} {D : va_G} {cy : Nat → ClassId} {ad : Nat → Nat} {base : Nat} {p2 : Int32} {μ : gM} {RES : Int32 × gM} (h : f_L_rootOf p2 μ = some RES) : Met l yL_rootOf [.codeWith yL_rootOf cL_rootOf 4 (some .int) [(0, 9, 12, 13)]] ({ frames := 8, cells := 1, slots := 6, locals := 124 } : Room) (va_Pc [.ref (ad 0), .int p2, .ref (ad 77)] (gB l gFull D cy ad base μ)) (gQ (some (.int RES.1)) gFull D cy ad base RES.2) 1 6 (gA base) := by
  refine va_MetW (cc := cL_rootOf) (maxL := 4) (ret := (some .int)) (hh := [(0, 9, 12, 13)]) (by decide) rfl ?_
  intro p e s m args below meth c s₁ B hml0 hv
  obtain ⟨rfl, E, hM⟩ := hv
  have F : gF p s m meth c cL_rootOf RL 4 (some .int) := gF_of B hml0
  have hT := vx_table (x := yL_rootOf) B (E.kw kw_1114)
  obtain ⟨hx, hb, hml, hown, hlocks, hr⟩ := id F
  have hS : va_S (gA base) s.heap s.heap [] := va_S.rf
  have hl := lv_entry ([.ref (ad 0), .int p2, .ref (ad 77)]) (n := 4) (Nat.le_of_ble_eq_true rfl)
  rw [lg_entry_eq]
  generalize (lg_sl ([.ref (ad 0), .int p2, .ref (ad 77)]) ++ List.replicate (4 - (lg_sl ([.ref (ad 0), .int p2, .ref (ad 77)])).length) Slot.unset).toArray = ls at hl ⊢
  have hl : lv_has ls 4 [(0, .ref (ad 0)), (1, .int p2), (2, .ref (ad 77))] := hl
  unfold f_L_rootOf at h
  refine lv_aload_n hx hb dL_rootOf_0 rfl (lv_at hl 2 rfl) ?_
  refine lv_iconst (v := (0 : Int32)) hx hb dL_rootOf_1 (by decide) ?_
  refine lv_aload_n hx hb dL_rootOf_2 rfl (lv_at hl 0 rfl) ?_
  refine lv_iload_n hx hb dL_rootOf_3 rfl (lv_at hl 1 rfl) ?_
  obtain ⟨q1, hq1, h⟩ := gbind_e h
  refine g_callXV (As := [.int p2]) (rest := [.int (0 : Int32), .ref (ad 77)]) hx hb (hml.trans hl.1.symm) hown E hM hS hy_X7_rootOf kw_1115 (c_X7_rootOf hq1) hk_0 dd_0 rfl rfl rfl (Nat.le_of_ble_eq_true rfl) ⟨Nat.le_of_ble_eq_true rfl, Nat.le_of_ble_eq_true rfl⟩ ⟨Nat.le_of_ble_eq_true rfl, Nat.le_of_ble_eq_true rfl⟩ dL_rootOf_4 (fun e3 q9 ce H locs hM hS hce hcv hcl => ?_) (fun v2 e3 H locs hM hS => ?_)
  · replace h := gel_n e3 h
    refine vx_catch (name := "java/lang/IndexOutOfBoundsException") hown [] ⟨0, 9, 12, 13⟩ [] hT (fun z hz => nomatch hz) (by decide) (by decide) (E.kw kw_930) (g_castW E) hce hcv hcl ?_
    refine lv_astore_n (lv' := [(3, .ref q9), (0, .ref (ad 0)), (1, .int p2), (2, .ref (ad 77))]) hx hb dL_rootOf_12 rfl hl (by decide) rfl (fun ls hl => ?_)
    refine lv_iconst (v := (1 : Int32)) hx hb dL_rootOf_13 (by decide) ?_
    obtain rfl := Option.some.inj h
    exact g_iret hx hb hr hlocks hM hS dL_rootOf_14
  · replace h := gel_s e3 h
    refine lv_i2l (v := v2.toInt64) hx hb dL_rootOf_7 rfl ?_
    obtain ⟨c4, h⟩ := gchk_e h
    refine g_last hx hb E hM hS hk_77 dd_77 c4 dL_rootOf_8 (fun H locs hM hS => ?_)
    refine lv_goto (tgt := 15) hx hb dL_rootOf_9 (by decide) ?_
    refine lv_iconst (v := (0 : Int32)) hx hb dL_rootOf_15 (by decide) ?_
    obtain rfl := Option.some.inj h
    exact g_iret hx hb hr hlocks hM hS dL_rootOf_16
def f_L_distance (p2 : Int32) (p3 : Int32) (μ : gM) : Option (Int32 × gM) :=
  Option.bind (f_X7_distance p2 p3 μ) (fun q1 => Option.elim q1.1 (some ((1 : Int32), q1.2)) (fun v2 => gchk (gIn (0 : Int32) 1) (some ((0 : Int32), (sl q1.2 77 (0 : Int32).toNatClampNeg v2.toInt64)))))
set_option maxHeartbeats 4000000 in
set_option maxRecDepth 100000 in
theorem c_L_distance {l : Launch} {D : va_G} {cy : Nat → ClassId} {ad : Nat → Nat} {base : Nat} {p2 : Int32} {p3 : Int32} {μ : gM} {RES : Int32 × gM} (h : f_L_distance p2 p3 μ = some RES) : Met l yL_distance [.codeWith yL_distance cL_distance 5 (some .int) [(0, 10, 13, 13)]] ({ frames := 8, cells := 2, slots := 12, locals := 125 } : Room) (va_Pc [.ref (ad 0), .int p2, .int p3, .ref (ad 77)] (gB l gFull D cy ad base μ)) (gQ (some (.int RES.1)) gFull D cy ad base RES.2) 2 12 (gA base) := by
  refine va_MetW (cc := cL_distance) (maxL := 5) (ret := (some .int)) (hh := [(0, 10, 13, 13)]) (by decide) rfl ?_
  intro p e s m args below meth c s₁ B hml0 hv
  obtain ⟨rfl, E, hM⟩ := hv
  have F : gF p s m meth c cL_distance RL 5 (some .int) := gF_of B hml0
  have hT := vx_table (x := yL_distance) B (E.kw kw_1121)
  obtain ⟨hx, hb, hml, hown, hlocks, hr⟩ := id F
  have hS : va_S (gA base) s.heap s.heap [] := va_S.rf
  have hl := lv_entry ([.ref (ad 0), .int p2, .int p3, .ref (ad 77)]) (n := 5) (Nat.le_of_ble_eq_true rfl)
  rw [lg_entry_eq]
  generalize (lg_sl ([.ref (ad 0), .int p2, .int p3, .ref (ad 77)]) ++ List.replicate (5 - (lg_sl ([.ref (ad 0), .int p2, .int p3, .ref (ad 77)])).length) Slot.unset).toArray = ls at hl ⊢
  have hl : lv_has ls 5 [(0, .ref (ad 0)), (1, .int p2), (2, .int p3), (3, .ref (ad 77))] := hl
  unfold f_L_distance at h
  refine lv_aload_n hx hb dL_distance_0 rfl (lv_at hl 3 rfl) ?_
  refine lv_iconst (v := (0 : Int32)) hx hb dL_distance_1 (by decide) ?_
  refine lv_aload_n hx hb dL_distance_2 rfl (lv_at hl 0 rfl) ?_
  refine lv_iload_n hx hb dL_distance_3 rfl (lv_at hl 1 rfl) ?_
  refine lv_iload_n hx hb dL_distance_4 rfl (lv_at hl 2 rfl) ?_
  obtain ⟨q1, hq1, h⟩ := gbind_e h
  refine g_callXV (As := [.int p2, .int p3]) (rest := [.int (0 : Int32), .ref (ad 77)]) hx hb (hml.trans hl.1.symm) hown E hM hS hy_X7_distance kw_1122 (c_X7_distance hq1) hk_0 dd_0 rfl rfl rfl (Nat.le_of_ble_eq_true rfl) ⟨Nat.le_of_ble_eq_true rfl, Nat.le_of_ble_eq_true rfl⟩ ⟨Nat.le_of_ble_eq_true rfl, Nat.le_of_ble_eq_true rfl⟩ dL_distance_5 (fun e3 q9 ce H locs hM hS hce hcv hcl => ?_) (fun v2 e3 H locs hM hS => ?_)
  · replace h := gel_n e3 h
    refine vx_catch (name := "java/lang/IndexOutOfBoundsException") hown [] ⟨0, 10, 13, 13⟩ [] hT (fun z hz => nomatch hz) (by decide) (by decide) (E.kw kw_930) (g_castW E) hce hcv hcl ?_
    refine lv_astore (lv' := [(4, .ref q9), (0, .ref (ad 0)), (1, .int p2), (2, .int p3), (3, .ref (ad 77))]) hx hb dL_distance_13 hl (by decide) rfl (fun ls hl => ?_)
    refine lv_iconst (v := (1 : Int32)) hx hb dL_distance_15 (by decide) ?_
    obtain rfl := Option.some.inj h
    exact g_iret hx hb hr hlocks hM hS dL_distance_16
  · replace h := gel_s e3 h
    refine lv_i2l (v := v2.toInt64) hx hb dL_distance_8 rfl ?_
    obtain ⟨c4, h⟩ := gchk_e h
    refine g_last hx hb E hM hS hk_77 dd_77 c4 dL_distance_9 (fun H locs hM hS => ?_)
    refine lv_goto (tgt := 17) hx hb dL_distance_10 (by decide) ?_
    refine lv_iconst (v := (0 : Int32)) hx hb dL_distance_17 (by decide) ?_
    obtain rfl := Option.some.inj h
    exact g_iret hx hb hr hlocks hM hS dL_distance_18
def f_L_riseBetween (p2 : Int32) (p3 : Int32) (μ : gM) : Option (Int32 × gM) :=
  Option.bind (f_X7_riseBetween p2 p3 μ) (fun q1 => Option.elim q1.1 (some ((1 : Int32), q1.2)) (fun v2 => gchk (gIn (0 : Int32) 1) (some ((0 : Int32), (sl q1.2 77 (0 : Int32).toNatClampNeg v2.toInt64)))))
set_option maxHeartbeats 4000000 in
set_option maxRecDepth 100000 in
theorem c_L_riseBetween {l : Launch} {D : va_G} {cy : Nat → ClassId} {ad : Nat → Nat} {base : Nat} {p2 : Int32} {p3 : Int32} {μ : gM} {RES : Int32 × gM} (h : f_L_riseBetween p2 p3 μ = some RES) : Met l yL_riseBetween [.codeWith yL_riseBetween cL_riseBetween 5 (some .int) [(0, 10, 13, 13)]] ({ frames := 8, cells := 2, slots := 12, locals := 138 } : Room) (va_Pc [.ref (ad 0), .int p2, .int p3, .ref (ad 77)] (gB l gFull D cy ad base μ)) (gQ (some (.int RES.1)) gFull D cy ad base RES.2) 2 12 (gA base) := by
  refine va_MetW (cc := cL_riseBetween) (maxL := 5) (ret := (some .int)) (hh := [(0, 10, 13, 13)]) (by decide) rfl ?_
  intro p e s m args below meth c s₁ B hml0 hv
  obtain ⟨rfl, E, hM⟩ := hv
  have F : gF p s m meth c cL_riseBetween RL 5 (some .int) := gF_of B hml0
  have hT := vx_table (x := yL_riseBetween) B (E.kw kw_1142)
  obtain ⟨hx, hb, hml, hown, hlocks, hr⟩ := id F
  have hS : va_S (gA base) s.heap s.heap [] := va_S.rf
  have hl := lv_entry ([.ref (ad 0), .int p2, .int p3, .ref (ad 77)]) (n := 5) (Nat.le_of_ble_eq_true rfl)
  rw [lg_entry_eq]
  generalize (lg_sl ([.ref (ad 0), .int p2, .int p3, .ref (ad 77)]) ++ List.replicate (5 - (lg_sl ([.ref (ad 0), .int p2, .int p3, .ref (ad 77)])).length) Slot.unset).toArray = ls at hl ⊢
  have hl : lv_has ls 5 [(0, .ref (ad 0)), (1, .int p2), (2, .int p3), (3, .ref (ad 77))] := hl
  unfold f_L_riseBetween at h
  refine lv_aload_n hx hb dL_riseBetween_0 rfl (lv_at hl 3 rfl) ?_
  refine lv_iconst (v := (0 : Int32)) hx hb dL_riseBetween_1 (by decide) ?_
  refine lv_aload_n hx hb dL_riseBetween_2 rfl (lv_at hl 0 rfl) ?_
  refine lv_iload_n hx hb dL_riseBetween_3 rfl (lv_at hl 1 rfl) ?_
  refine lv_iload_n hx hb dL_riseBetween_4 rfl (lv_at hl 2 rfl) ?_
  obtain ⟨q1, hq1, h⟩ := gbind_e h
  refine g_callXV (As := [.int p2, .int p3]) (rest := [.int (0 : Int32), .ref (ad 77)]) hx hb (hml.trans hl.1.symm) hown E hM hS hy_X7_riseBetween kw_1143 (c_X7_riseBetween hq1) hk_0 dd_0 rfl rfl rfl (Nat.le_of_ble_eq_true rfl) ⟨Nat.le_of_ble_eq_true rfl, Nat.le_of_ble_eq_true rfl⟩ ⟨Nat.le_of_ble_eq_true rfl, Nat.le_of_ble_eq_true rfl⟩ dL_riseBetween_5 (fun e3 q9 ce H locs hM hS hce hcv hcl => ?_) (fun v2 e3 H locs hM hS => ?_)
  · replace h := gel_n e3 h
    refine vx_catch (name := "java/lang/IndexOutOfBoundsException") hown [] ⟨0, 10, 13, 13⟩ [] hT (fun z hz => nomatch hz) (by decide) (by decide) (E.kw kw_930) (g_castW E) hce hcv hcl ?_
    refine lv_astore (lv' := [(4, .ref q9), (0, .ref (ad 0)), (1, .int p2), (2, .int p3), (3, .ref (ad 77))]) hx hb dL_riseBetween_13 hl (by decide) rfl (fun ls hl => ?_)
    refine lv_iconst (v := (1 : Int32)) hx hb dL_riseBetween_15 (by decide) ?_
    obtain rfl := Option.some.inj h
    exact g_iret hx hb hr hlocks hM hS dL_riseBetween_16
  · replace h := gel_s e3 h
    refine lv_i2l (v := v2.toInt64) hx hb dL_riseBetween_8 rfl ?_
    obtain ⟨c4, h⟩ := gchk_e h
    refine g_last hx hb E hM hS hk_77 dd_77 c4 dL_riseBetween_9 (fun H locs hM hS => ?_)
    refine lv_goto (tgt := 17) hx hb dL_riseBetween_10 (by decide) ?_
    refine lv_iconst (v := (0 : Int32)) hx hb dL_riseBetween_17 (by decide) ?_
    obtain rfl := Option.some.inj h
    exact g_iret hx hb hr hlocks hM hS dL_riseBetween_18
def f_L_wayBetween (p2 : Int32) (p3 : Int32) (μ : gM) : Option (Int32 × gM) :=
  Option.bind (f_X7_wayBetween p2 p3 μ) (fun q1 => Option.elim q1.1 (some ((1 : Int32), q1.2)) (fun v2 => gchk (gIn (0 : Int32) 1) (some ((0 : Int32), (sl q1.2 77 (0 : Int32).toNatClampNeg v2.toInt64)))))
set_option maxHeartbeats 4000000 in
set_option maxRecDepth 100000 in
theorem c_L_wayBetween {l : Launch} {D : va_G} {cy : Nat → ClassId} {ad : Nat → Nat} {base : Nat} {p2 : Int32} {p3 : Int32} {μ : gM} {RES : Int32 × gM} (h : f_L_wayBetween p2 p3 μ = some RES) : Met l yL_wayBetween [.codeWith yL_wayBetween cL_wayBetween 5 (some .int) [(0, 10, 13, 13)]] ({ frames := 8, cells := 2, slots := 12, locals := 138 } : Room) (va_Pc [.ref (ad 0), .int p2, .int p3, .ref (ad 77)] (gB l gFull D cy ad base μ)) (gQ (some (.int RES.1)) gFull D cy ad base RES.2) 2 12 (gA base) := by
  refine va_MetW (cc := cL_wayBetween) (maxL := 5) (ret := (some .int)) (hh := [(0, 10, 13, 13)]) (by decide) rfl ?_
  intro p e s m args below meth c s₁ B hml0 hv
  obtain ⟨rfl, E, hM⟩ := hv
  have F : gF p s m meth c cL_wayBetween RL 5 (some .int) := gF_of B hml0
  have hT := vx_table (x := yL_wayBetween) B (E.kw kw_1160)
  obtain ⟨hx, hb, hml, hown, hlocks, hr⟩ := id F
  have hS : va_S (gA base) s.heap s.heap [] := va_S.rf
  have hl := lv_entry ([.ref (ad 0), .int p2, .int p3, .ref (ad 77)]) (n := 5) (Nat.le_of_ble_eq_true rfl)
  rw [lg_entry_eq]
  generalize (lg_sl ([.ref (ad 0), .int p2, .int p3, .ref (ad 77)]) ++ List.replicate (5 - (lg_sl ([.ref (ad 0), .int p2, .int p3, .ref (ad 77)])).length) Slot.unset).toArray = ls at hl ⊢
  have hl : lv_has ls 5 [(0, .ref (ad 0)), (1, .int p2), (2, .int p3), (3, .ref (ad 77))] := hl
  unfold f_L_wayBetween at h
  refine lv_aload_n hx hb dL_wayBetween_0 rfl (lv_at hl 3 rfl) ?_
  refine lv_iconst (v := (0 : Int32)) hx hb dL_wayBetween_1 (by decide) ?_
  refine lv_aload_n hx hb dL_wayBetween_2 rfl (lv_at hl 0 rfl) ?_
  refine lv_iload_n hx hb dL_wayBetween_3 rfl (lv_at hl 1 rfl) ?_
  refine lv_iload_n hx hb dL_wayBetween_4 rfl (lv_at hl 2 rfl) ?_
  obtain ⟨q1, hq1, h⟩ := gbind_e h
  refine g_callXV (As := [.int p2, .int p3]) (rest := [.int (0 : Int32), .ref (ad 77)]) hx hb (hml.trans hl.1.symm) hown E hM hS hy_X7_wayBetween kw_1161 (c_X7_wayBetween hq1) hk_0 dd_0 rfl rfl rfl (Nat.le_of_ble_eq_true rfl) ⟨Nat.le_of_ble_eq_true rfl, Nat.le_of_ble_eq_true rfl⟩ ⟨Nat.le_of_ble_eq_true rfl, Nat.le_of_ble_eq_true rfl⟩ dL_wayBetween_5 (fun e3 q9 ce H locs hM hS hce hcv hcl => ?_) (fun v2 e3 H locs hM hS => ?_)
  · replace h := gel_n e3 h
    refine vx_catch (name := "java/lang/IndexOutOfBoundsException") hown [] ⟨0, 10, 13, 13⟩ [] hT (fun z hz => nomatch hz) (by decide) (by decide) (E.kw kw_930) (g_castW E) hce hcv hcl ?_
    refine lv_astore (lv' := [(4, .ref q9), (0, .ref (ad 0)), (1, .int p2), (2, .int p3), (3, .ref (ad 77))]) hx hb dL_wayBetween_13 hl (by decide) rfl (fun ls hl => ?_)
    refine lv_iconst (v := (1 : Int32)) hx hb dL_wayBetween_15 (by decide) ?_
    obtain rfl := Option.some.inj h
    exact g_iret hx hb hr hlocks hM hS dL_wayBetween_16
  · replace h := gel_s e3 h
    refine lv_i2l (v := v2.toInt64) hx hb dL_wayBetween_8 rfl ?_
    obtain ⟨c4, h⟩ := gchk_e h
    refine g_last hx hb E hM hS hk_77 dd_77 c4 dL_wayBetween_9 (fun H locs hM hS => ?_)
    refine lv_goto (tgt := 17) hx hb dL_wayBetween_10 (by decide) ?_
    refine lv_iconst (v := (0 : Int32)) hx hb dL_wayBetween_17 (by decide) ?_
    obtain rfl := Option.some.inj h
    exact g_iret hx hb hr hlocks hM hS dL_wayBetween_18
def f_L_loopLine (p2 : Int32) (p3 : Int32) (μ : gM) : Option (Int32 × gM) :=
  Option.bind (f_X7_loopLine p2 p3 μ) (fun q1 => Option.elim q1.1 (some ((1 : Int32), q1.2)) (fun v2 => gchk (gIn (0 : Int32) 1) (some ((0 : Int32), (sl q1.2 77 (0 : Int32).toNatClampNeg v2.toInt64)))))
set_option maxHeartbeats 4000000 in
set_option maxRecDepth 100000 in
theorem c_L_loopLine {l : Launch} {D : va_G} {cy : Nat → ClassId} {ad : Nat → Nat} {base : Nat} {p2 : Int32} {p3 : Int32} {μ : gM} {RES : Int32 × gM} (h : f_L_loopLine p2 p3 μ = some RES) : Met l yL_loopLine [.codeWith yL_loopLine cL_loopLine 5 (some .int) [(0, 10, 13, 13)]] ({ frames := 9, cells := 1, slots := 6, locals := 163 } : Room) (va_Pc [.ref (ad 0), .int p2, .int p3, .ref (ad 77)] (gB l gFull D cy ad base μ)) (gQ (some (.int RES.1)) gFull D cy ad base RES.2) 1 6 (gA base) := by
  refine va_MetW (cc := cL_loopLine) (maxL := 5) (ret := (some .int)) (hh := [(0, 10, 13, 13)]) (by decide) rfl ?_
  intro p e s m args below meth c s₁ B hml0 hv
  obtain ⟨rfl, E, hM⟩ := hv
  have F : gF p s m meth c cL_loopLine RL 5 (some .int) := gF_of B hml0
  have hT := vx_table (x := yL_loopLine) B (E.kw kw_1167)
  obtain ⟨hx, hb, hml, hown, hlocks, hr⟩ := id F
  have hS : va_S (gA base) s.heap s.heap [] := va_S.rf
  have hl := lv_entry ([.ref (ad 0), .int p2, .int p3, .ref (ad 77)]) (n := 5) (Nat.le_of_ble_eq_true rfl)
  rw [lg_entry_eq]
  generalize (lg_sl ([.ref (ad 0), .int p2, .int p3, .ref (ad 77)]) ++ List.replicate (5 - (lg_sl ([.ref (ad 0), .int p2, .int p3, .ref (ad 77)])).length) Slot.unset).toArray = ls at hl ⊢
  have hl : lv_has ls 5 [(0, .ref (ad 0)), (1, .int p2), (2, .int p3), (3, .ref (ad 77))] := hl
  unfold f_L_loopLine at h
  refine lv_aload_n hx hb dL_loopLine_0 rfl (lv_at hl 3 rfl) ?_
  refine lv_iconst (v := (0 : Int32)) hx hb dL_loopLine_1 (by decide) ?_
  refine lv_aload_n hx hb dL_loopLine_2 rfl (lv_at hl 0 rfl) ?_
  refine lv_iload_n hx hb dL_loopLine_3 rfl (lv_at hl 1 rfl) ?_
  refine lv_iload_n hx hb dL_loopLine_4 rfl (lv_at hl 2 rfl) ?_
  obtain ⟨q1, hq1, h⟩ := gbind_e h
  refine g_callXV (As := [.int p2, .int p3]) (rest := [.int (0 : Int32), .ref (ad 77)]) hx hb (hml.trans hl.1.symm) hown E hM hS hy_X7_loopLine kw_1168 (c_X7_loopLine hq1) hk_0 dd_0 rfl rfl rfl (Nat.le_of_ble_eq_true rfl) ⟨Nat.le_of_ble_eq_true rfl, Nat.le_of_ble_eq_true rfl⟩ ⟨Nat.le_of_ble_eq_true rfl, Nat.le_of_ble_eq_true rfl⟩ dL_loopLine_5 (fun e3 q9 ce H locs hM hS hce hcv hcl => ?_) (fun v2 e3 H locs hM hS => ?_)
  · replace h := gel_n e3 h
    refine vx_catch (name := "java/lang/IndexOutOfBoundsException") hown [] ⟨0, 10, 13, 13⟩ [] hT (fun z hz => nomatch hz) (by decide) (by decide) (E.kw kw_930) (g_castW E) hce hcv hcl ?_
    refine lv_astore (lv' := [(4, .ref q9), (0, .ref (ad 0)), (1, .int p2), (2, .int p3), (3, .ref (ad 77))]) hx hb dL_loopLine_13 hl (by decide) rfl (fun ls hl => ?_)
    refine lv_iconst (v := (1 : Int32)) hx hb dL_loopLine_15 (by decide) ?_
    obtain rfl := Option.some.inj h
    exact g_iret hx hb hr hlocks hM hS dL_loopLine_16
  · replace h := gel_s e3 h
    refine lv_i2l (v := v2.toInt64) hx hb dL_loopLine_8 rfl ?_
    obtain ⟨c4, h⟩ := gchk_e h
    refine g_last hx hb E hM hS hk_77 dd_77 c4 dL_loopLine_9 (fun H locs hM hS => ?_)
    refine lv_goto (tgt := 17) hx hb dL_loopLine_10 (by decide) ?_
    refine lv_iconst (v := (0 : Int32)) hx hb dL_loopLine_17 (by decide) ?_
    obtain rfl := Option.some.inj h
    exact g_iret hx hb hr hlocks hM hS dL_loopLine_18
def f_L_loopLength (p2 : Int32) (μ : gM) : Option (Int32 × gM) :=
  Option.bind (f_X7_loopLength p2 μ) (fun q1 => Option.elim q1.1 (some ((1 : Int32), q1.2)) (fun v2 => gchk (gIn (0 : Int32) 1) (some ((0 : Int32), (sl q1.2 77 (0 : Int32).toNatClampNeg v2.toInt64)))))
set_option maxHeartbeats 4000000 in
set_option maxRecDepth 100000 in
theorem c_L_loopLength {l : Launch} {D : va_G} {cy : Nat → ClassId} {ad : Nat → Nat} {base : Nat} {p2 : Int32} {μ : gM} {RES : Int32 × gM} (h : f_L_loopLength p2 μ = some RES) : Met l yL_loopLength [.codeWith yL_loopLength cL_loopLength 4 (some .int) [(0, 9, 12, 13)]] ({ frames := 9, cells := 1, slots := 6, locals := 162 } : Room) (va_Pc [.ref (ad 0), .int p2, .ref (ad 77)] (gB l gFull D cy ad base μ)) (gQ (some (.int RES.1)) gFull D cy ad base RES.2) 1 6 (gA base) := by
  refine va_MetW (cc := cL_loopLength) (maxL := 4) (ret := (some .int)) (hh := [(0, 9, 12, 13)]) (by decide) rfl ?_
  intro p e s m args below meth c s₁ B hml0 hv
  obtain ⟨rfl, E, hM⟩ := hv
  have F : gF p s m meth c cL_loopLength RL 4 (some .int) := gF_of B hml0
  have hT := vx_table (x := yL_loopLength) B (E.kw kw_1179)
  obtain ⟨hx, hb, hml, hown, hlocks, hr⟩ := id F
  have hS : va_S (gA base) s.heap s.heap [] := va_S.rf
  have hl := lv_entry ([.ref (ad 0), .int p2, .ref (ad 77)]) (n := 4) (Nat.le_of_ble_eq_true rfl)
  rw [lg_entry_eq]
  generalize (lg_sl ([.ref (ad 0), .int p2, .ref (ad 77)]) ++ List.replicate (4 - (lg_sl ([.ref (ad 0), .int p2, .ref (ad 77)])).length) Slot.unset).toArray = ls at hl ⊢
  have hl : lv_has ls 4 [(0, .ref (ad 0)), (1, .int p2), (2, .ref (ad 77))] := hl
  unfold f_L_loopLength at h
  refine lv_aload_n hx hb dL_loopLength_0 rfl (lv_at hl 2 rfl) ?_
  refine lv_iconst (v := (0 : Int32)) hx hb dL_loopLength_1 (by decide) ?_
  refine lv_aload_n hx hb dL_loopLength_2 rfl (lv_at hl 0 rfl) ?_
  refine lv_iload_n hx hb dL_loopLength_3 rfl (lv_at hl 1 rfl) ?_
  obtain ⟨q1, hq1, h⟩ := gbind_e h
  refine g_callXV (As := [.int p2]) (rest := [.int (0 : Int32), .ref (ad 77)]) hx hb (hml.trans hl.1.symm) hown E hM hS hy_X7_loopLength kw_1180 (c_X7_loopLength hq1) hk_0 dd_0 rfl rfl rfl (Nat.le_of_ble_eq_true rfl) ⟨Nat.le_of_ble_eq_true rfl, Nat.le_of_ble_eq_true rfl⟩ ⟨Nat.le_of_ble_eq_true rfl, Nat.le_of_ble_eq_true rfl⟩ dL_loopLength_4 (fun e3 q9 ce H locs hM hS hce hcv hcl => ?_) (fun v2 e3 H locs hM hS => ?_)
  · replace h := gel_n e3 h
    refine vx_catch (name := "java/lang/IndexOutOfBoundsException") hown [] ⟨0, 9, 12, 13⟩ [] hT (fun z hz => nomatch hz) (by decide) (by decide) (E.kw kw_930) (g_castW E) hce hcv hcl ?_
    refine lv_astore_n (lv' := [(3, .ref q9), (0, .ref (ad 0)), (1, .int p2), (2, .ref (ad 77))]) hx hb dL_loopLength_12 rfl hl (by decide) rfl (fun ls hl => ?_)
    refine lv_iconst (v := (1 : Int32)) hx hb dL_loopLength_13 (by decide) ?_
    obtain rfl := Option.some.inj h
    exact g_iret hx hb hr hlocks hM hS dL_loopLength_14
  · replace h := gel_s e3 h
    refine lv_i2l (v := v2.toInt64) hx hb dL_loopLength_7 rfl ?_
    obtain ⟨c4, h⟩ := gchk_e h
    refine g_last hx hb E hM hS hk_77 dd_77 c4 dL_loopLength_8 (fun H locs hM hS => ?_)
    refine lv_goto (tgt := 15) hx hb dL_loopLength_9 (by decide) ?_
    refine lv_iconst (v := (0 : Int32)) hx hb dL_loopLength_15 (by decide) ?_
    obtain rfl := Option.some.inj h
    exact g_iret hx hb hr hlocks hM hS dL_loopLength_16
def f_L_misclosure (p2 : Int32) (μ : gM) : Option (Int32 × gM) :=
  Option.bind (f_X7_misclosure p2 μ) (fun q1 => Option.elim q1.1 (some ((1 : Int32), q1.2)) (fun v2 => gchk (gIn (0 : Int32) 1) (some ((0 : Int32), (sl q1.2 77 (0 : Int32).toNatClampNeg v2.toInt64)))))
set_option maxHeartbeats 4000000 in
set_option maxRecDepth 100000 in
theorem c_L_misclosure {l : Launch} {D : va_G} {cy : Nat → ClassId} {ad : Nat → Nat} {base : Nat} {p2 : Int32} {μ : gM} {RES : Int32 × gM} (h : f_L_misclosure p2 μ = some RES) : Met l yL_misclosure [.codeWith yL_misclosure cL_misclosure 4 (some .int) [(0, 9, 12, 13)]] ({ frames := 9, cells := 1, slots := 6, locals := 162 } : Room) (va_Pc [.ref (ad 0), .int p2, .ref (ad 77)] (gB l gFull D cy ad base μ)) (gQ (some (.int RES.1)) gFull D cy ad base RES.2) 1 6 (gA base) := by
  refine va_MetW (cc := cL_misclosure) (maxL := 4) (ret := (some .int)) (hh := [(0, 9, 12, 13)]) (by decide) rfl ?_
  intro p e s m args below meth c s₁ B hml0 hv
  obtain ⟨rfl, E, hM⟩ := hv
  have F : gF p s m meth c cL_misclosure RL 4 (some .int) := gF_of B hml0
  have hT := vx_table (x := yL_misclosure) B (E.kw kw_1186)
  obtain ⟨hx, hb, hml, hown, hlocks, hr⟩ := id F
  have hS : va_S (gA base) s.heap s.heap [] := va_S.rf
  have hl := lv_entry ([.ref (ad 0), .int p2, .ref (ad 77)]) (n := 4) (Nat.le_of_ble_eq_true rfl)
  rw [lg_entry_eq]
  generalize (lg_sl ([.ref (ad 0), .int p2, .ref (ad 77)]) ++ List.replicate (4 - (lg_sl ([.ref (ad 0), .int p2, .ref (ad 77)])).length) Slot.unset).toArray = ls at hl ⊢
  have hl : lv_has ls 4 [(0, .ref (ad 0)), (1, .int p2), (2, .ref (ad 77))] := hl
  unfold f_L_misclosure at h
  refine lv_aload_n hx hb dL_misclosure_0 rfl (lv_at hl 2 rfl) ?_
  refine lv_iconst (v := (0 : Int32)) hx hb dL_misclosure_1 (by decide) ?_
  refine lv_aload_n hx hb dL_misclosure_2 rfl (lv_at hl 0 rfl) ?_
  refine lv_iload_n hx hb dL_misclosure_3 rfl (lv_at hl 1 rfl) ?_
  obtain ⟨q1, hq1, h⟩ := gbind_e h
  refine g_callXV (As := [.int p2]) (rest := [.int (0 : Int32), .ref (ad 77)]) hx hb (hml.trans hl.1.symm) hown E hM hS hy_X7_misclosure kw_1187 (c_X7_misclosure hq1) hk_0 dd_0 rfl rfl rfl (Nat.le_of_ble_eq_true rfl) ⟨Nat.le_of_ble_eq_true rfl, Nat.le_of_ble_eq_true rfl⟩ ⟨Nat.le_of_ble_eq_true rfl, Nat.le_of_ble_eq_true rfl⟩ dL_misclosure_4 (fun e3 q9 ce H locs hM hS hce hcv hcl => ?_) (fun v2 e3 H locs hM hS => ?_)
  · replace h := gel_n e3 h
    refine vx_catch (name := "java/lang/IndexOutOfBoundsException") hown [] ⟨0, 9, 12, 13⟩ [] hT (fun z hz => nomatch hz) (by decide) (by decide) (E.kw kw_930) (g_castW E) hce hcv hcl ?_
    refine lv_astore_n (lv' := [(3, .ref q9), (0, .ref (ad 0)), (1, .int p2), (2, .ref (ad 77))]) hx hb dL_misclosure_12 rfl hl (by decide) rfl (fun ls hl => ?_)
    refine lv_iconst (v := (1 : Int32)) hx hb dL_misclosure_13 (by decide) ?_
    obtain rfl := Option.some.inj h
    exact g_iret hx hb hr hlocks hM hS dL_misclosure_14
  · replace h := gel_s e3 h
    refine lv_i2l (v := v2.toInt64) hx hb dL_misclosure_7 rfl ?_
    obtain ⟨c4, h⟩ := gchk_e h
    refine g_last hx hb E hM hS hk_77 dd_77 c4 dL_misclosure_8 (fun H locs hM hS => ?_)
    refine lv_goto (tgt := 15) hx hb dL_misclosure_9 (by decide) ?_
    refine lv_iconst (v := (0 : Int32)) hx hb dL_misclosure_15 (by decide) ?_
    obtain rfl := Option.some.inj h
    exact g_iret hx hb hr hlocks hM hS dL_misclosure_16
def f_L_allowed (p2 : Int32) (μ : gM) : Option (Int32 × gM) :=
  Option.bind (f_X7_allowed p2 μ) (fun q1 => Option.elim q1.1 (some ((1 : Int32), q1.2)) (fun v2 => gchk (gIn (0 : Int32) 1) (some ((0 : Int32), (sl q1.2 77 (0 : Int32).toNatClampNeg v2.toInt64)))))
set_option maxHeartbeats 4000000 in
set_option maxRecDepth 100000 in
theorem c_L_allowed {l : Launch} {D : va_G} {cy : Nat → ClassId} {ad : Nat → Nat} {base : Nat} {p2 : Int32} {μ : gM} {RES : Int32 × gM} (h : f_L_allowed p2 μ = some RES) : Met l yL_allowed [.codeWith yL_allowed cL_allowed 4 (some .int) [(0, 9, 12, 13)]] ({ frames := 9, cells := 1, slots := 6, locals := 162 } : Room) (va_Pc [.ref (ad 0), .int p2, .ref (ad 77)] (gB l gFull D cy ad base μ)) (gQ (some (.int RES.1)) gFull D cy ad base RES.2) 1 6 (gA base) := by
  refine va_MetW (cc := cL_allowed) (maxL := 4) (ret := (some .int)) (hh := [(0, 9, 12, 13)]) (by decide) rfl ?_
  intro p e s m args below meth c s₁ B hml0 hv
  obtain ⟨rfl, E, hM⟩ := hv
  have F : gF p s m meth c cL_allowed RL 4 (some .int) := gF_of B hml0
  have hT := vx_table (x := yL_allowed) B (E.kw kw_1193)
  obtain ⟨hx, hb, hml, hown, hlocks, hr⟩ := id F
  have hS : va_S (gA base) s.heap s.heap [] := va_S.rf
  have hl := lv_entry ([.ref (ad 0), .int p2, .ref (ad 77)]) (n := 4) (Nat.le_of_ble_eq_true rfl)
  rw [lg_entry_eq]
  generalize (lg_sl ([.ref (ad 0), .int p2, .ref (ad 77)]) ++ List.replicate (4 - (lg_sl ([.ref (ad 0), .int p2, .ref (ad 77)])).length) Slot.unset).toArray = ls at hl ⊢
  have hl : lv_has ls 4 [(0, .ref (ad 0)), (1, .int p2), (2, .ref (ad 77))] := hl
  unfold f_L_allowed at h
  refine lv_aload_n hx hb dL_allowed_0 rfl (lv_at hl 2 rfl) ?_
  refine lv_iconst (v := (0 : Int32)) hx hb dL_allowed_1 (by decide) ?_
  refine lv_aload_n hx hb dL_allowed_2 rfl (lv_at hl 0 rfl) ?_
  refine lv_iload_n hx hb dL_allowed_3 rfl (lv_at hl 1 rfl) ?_
  obtain ⟨q1, hq1, h⟩ := gbind_e h
  refine g_callXV (As := [.int p2]) (rest := [.int (0 : Int32), .ref (ad 77)]) hx hb (hml.trans hl.1.symm) hown E hM hS hy_X7_allowed kw_1194 (c_X7_allowed hq1) hk_0 dd_0 rfl rfl rfl (Nat.le_of_ble_eq_true rfl) ⟨Nat.le_of_ble_eq_true rfl, Nat.le_of_ble_eq_true rfl⟩ ⟨Nat.le_of_ble_eq_true rfl, Nat.le_of_ble_eq_true rfl⟩ dL_allowed_4 (fun e3 q9 ce H locs hM hS hce hcv hcl => ?_) (fun v2 e3 H locs hM hS => ?_)
  · replace h := gel_n e3 h
    refine vx_catch (name := "java/lang/IndexOutOfBoundsException") hown [] ⟨0, 9, 12, 13⟩ [] hT (fun z hz => nomatch hz) (by decide) (by decide) (E.kw kw_930) (g_castW E) hce hcv hcl ?_
    refine lv_astore_n (lv' := [(3, .ref q9), (0, .ref (ad 0)), (1, .int p2), (2, .ref (ad 77))]) hx hb dL_allowed_12 rfl hl (by decide) rfl (fun ls hl => ?_)
    refine lv_iconst (v := (1 : Int32)) hx hb dL_allowed_13 (by decide) ?_
    obtain rfl := Option.some.inj h
    exact g_iret hx hb hr hlocks hM hS dL_allowed_14
  · replace h := gel_s e3 h
    refine lv_i2l (v := v2.toInt64) hx hb dL_allowed_7 rfl ?_
    obtain ⟨c4, h⟩ := gchk_e h
    refine g_last hx hb E hM hS hk_77 dd_77 c4 dL_allowed_8 (fun H locs hM hS => ?_)
    refine lv_goto (tgt := 15) hx hb dL_allowed_9 (by decide) ?_
    refine lv_iconst (v := (0 : Int32)) hx hb dL_allowed_15 (by decide) ?_
    obtain rfl := Option.some.inj h
    exact g_iret hx hb hr hlocks hM hS dL_allowed_16
def f_L_badWithout (p2 : Int32) (μ : gM) : Option (Int32 × gM) :=
  Option.bind (f_X7_badWithout p2 μ) (fun q1 => Option.elim q1.1 (some ((1 : Int32), q1.2)) (fun v2 => gchk (gIn (0 : Int32) 1) (some ((0 : Int32), (sl q1.2 77 (0 : Int32).toNatClampNeg v2.toInt64)))))
set_option maxHeartbeats 4000000 in
set_option maxRecDepth 100000 in
theorem c_L_badWithout {l : Launch} {D : va_G} {cy : Nat → ClassId} {ad : Nat → Nat} {base : Nat} {p2 : Int32} {μ : gM} {RES : Int32 × gM} (h : f_L_badWithout p2 μ = some RES) : Met l yL_badWithout [.codeWith yL_badWithout cL_badWithout 4 (some .int) [(0, 9, 12, 13)]] ({ frames := 8, cells := 1, slots := 6, locals := 141 } : Room) (va_Pc [.ref (ad 0), .int p2, .ref (ad 77)] (gB l gFull D cy ad base μ)) (gQ (some (.int RES.1)) gFull D cy ad base RES.2) 1 6 (gA base) := by
  refine va_MetW (cc := cL_badWithout) (maxL := 4) (ret := (some .int)) (hh := [(0, 9, 12, 13)]) (by decide) rfl ?_
  intro p e s m args below meth c s₁ B hml0 hv
  obtain ⟨rfl, E, hM⟩ := hv
  have F : gF p s m meth c cL_badWithout RL 4 (some .int) := gF_of B hml0
  have hT := vx_table (x := yL_badWithout) B (E.kw kw_1200)
  obtain ⟨hx, hb, hml, hown, hlocks, hr⟩ := id F
  have hS : va_S (gA base) s.heap s.heap [] := va_S.rf
  have hl := lv_entry ([.ref (ad 0), .int p2, .ref (ad 77)]) (n := 4) (Nat.le_of_ble_eq_true rfl)
  rw [lg_entry_eq]
  generalize (lg_sl ([.ref (ad 0), .int p2, .ref (ad 77)]) ++ List.replicate (4 - (lg_sl ([.ref (ad 0), .int p2, .ref (ad 77)])).length) Slot.unset).toArray = ls at hl ⊢
  have hl : lv_has ls 4 [(0, .ref (ad 0)), (1, .int p2), (2, .ref (ad 77))] := hl
  unfold f_L_badWithout at h
  refine lv_aload_n hx hb dL_badWithout_0 rfl (lv_at hl 2 rfl) ?_
  refine lv_iconst (v := (0 : Int32)) hx hb dL_badWithout_1 (by decide) ?_
  refine lv_aload_n hx hb dL_badWithout_2 rfl (lv_at hl 0 rfl) ?_
  refine lv_iload_n hx hb dL_badWithout_3 rfl (lv_at hl 1 rfl) ?_
  obtain ⟨q1, hq1, h⟩ := gbind_e h
  refine g_callXV (As := [.int p2]) (rest := [.int (0 : Int32), .ref (ad 77)]) hx hb (hml.trans hl.1.symm) hown E hM hS hy_X7_badWithout kw_1201 (c_X7_badWithout hq1) hk_0 dd_0 rfl rfl rfl (Nat.le_of_ble_eq_true rfl) ⟨Nat.le_of_ble_eq_true rfl, Nat.le_of_ble_eq_true rfl⟩ ⟨Nat.le_of_ble_eq_true rfl, Nat.le_of_ble_eq_true rfl⟩ dL_badWithout_4 (fun e3 q9 ce H locs hM hS hce hcv hcl => ?_) (fun v2 e3 H locs hM hS => ?_)
  · replace h := gel_n e3 h
    refine vx_catch (name := "java/lang/IndexOutOfBoundsException") hown [] ⟨0, 9, 12, 13⟩ [] hT (fun z hz => nomatch hz) (by decide) (by decide) (E.kw kw_930) (g_castW E) hce hcv hcl ?_
    refine lv_astore_n (lv' := [(3, .ref q9), (0, .ref (ad 0)), (1, .int p2), (2, .ref (ad 77))]) hx hb dL_badWithout_12 rfl hl (by decide) rfl (fun ls hl => ?_)
    refine lv_iconst (v := (1 : Int32)) hx hb dL_badWithout_13 (by decide) ?_
    obtain rfl := Option.some.inj h
    exact g_iret hx hb hr hlocks hM hS dL_badWithout_14
  · replace h := gel_s e3 h
    refine lv_i2l (v := v2.toInt64) hx hb dL_badWithout_7 rfl ?_
    obtain ⟨c4, h⟩ := gchk_e h
    refine g_last hx hb E hM hS hk_77 dd_77 c4 dL_badWithout_8 (fun H locs hM hS => ?_)
    refine lv_goto (tgt := 15) hx hb dL_badWithout_9 (by decide) ?_
    refine lv_iconst (v := (0 : Int32)) hx hb dL_badWithout_15 (by decide) ?_
    obtain rfl := Option.some.inj h
    exact g_iret hx hb hr hlocks hM hS dL_badWithout_16
def f_L_benchGap (p2 : Int32) (p3 : Int32) (μ : gM) : Option (Int32 × gM) :=
  Option.bind (f_X7_benchGap p2 p3 μ) (fun q1 => Option.elim q1.1 (some ((1 : Int32), q1.2)) (fun v2 => gchk (gIn (0 : Int32) 1) (some ((0 : Int32), (sl q1.2 77 (0 : Int32).toNatClampNeg v2.toInt64)))))
set_option maxHeartbeats 4000000 in
set_option maxRecDepth 100000 in
theorem c_L_benchGap {l : Launch} {D : va_G} {cy : Nat → ClassId} {ad : Nat → Nat} {base : Nat} {p2 : Int32} {p3 : Int32} {μ : gM} {RES : Int32 × gM} (h : f_L_benchGap p2 p3 μ = some RES) : Met l yL_benchGap [.codeWith yL_benchGap cL_benchGap 5 (some .int) [(0, 10, 13, 13)]] ({ frames := 8, cells := 2, slots := 12, locals := 138 } : Room) (va_Pc [.ref (ad 0), .int p2, .int p3, .ref (ad 77)] (gB l gFull D cy ad base μ)) (gQ (some (.int RES.1)) gFull D cy ad base RES.2) 2 12 (gA base) := by
  refine va_MetW (cc := cL_benchGap) (maxL := 5) (ret := (some .int)) (hh := [(0, 10, 13, 13)]) (by decide) rfl ?_
  intro p e s m args below meth c s₁ B hml0 hv
  obtain ⟨rfl, E, hM⟩ := hv
  have F : gF p s m meth c cL_benchGap RL 5 (some .int) := gF_of B hml0
  have hT := vx_table (x := yL_benchGap) B (E.kw kw_1207)
  obtain ⟨hx, hb, hml, hown, hlocks, hr⟩ := id F
  have hS : va_S (gA base) s.heap s.heap [] := va_S.rf
  have hl := lv_entry ([.ref (ad 0), .int p2, .int p3, .ref (ad 77)]) (n := 5) (Nat.le_of_ble_eq_true rfl)
  rw [lg_entry_eq]
  generalize (lg_sl ([.ref (ad 0), .int p2, .int p3, .ref (ad 77)]) ++ List.replicate (5 - (lg_sl ([.ref (ad 0), .int p2, .int p3, .ref (ad 77)])).length) Slot.unset).toArray = ls at hl ⊢
  have hl : lv_has ls 5 [(0, .ref (ad 0)), (1, .int p2), (2, .int p3), (3, .ref (ad 77))] := hl
  unfold f_L_benchGap at h
  refine lv_aload_n hx hb dL_benchGap_0 rfl (lv_at hl 3 rfl) ?_
  refine lv_iconst (v := (0 : Int32)) hx hb dL_benchGap_1 (by decide) ?_
  refine lv_aload_n hx hb dL_benchGap_2 rfl (lv_at hl 0 rfl) ?_
  refine lv_iload_n hx hb dL_benchGap_3 rfl (lv_at hl 1 rfl) ?_
  refine lv_iload_n hx hb dL_benchGap_4 rfl (lv_at hl 2 rfl) ?_
  obtain ⟨q1, hq1, h⟩ := gbind_e h
  refine g_callXV (As := [.int p2, .int p3]) (rest := [.int (0 : Int32), .ref (ad 77)]) hx hb (hml.trans hl.1.symm) hown E hM hS hy_X7_benchGap kw_1208 (c_X7_benchGap hq1) hk_0 dd_0 rfl rfl rfl (Nat.le_of_ble_eq_true rfl) ⟨Nat.le_of_ble_eq_true rfl, Nat.le_of_ble_eq_true rfl⟩ ⟨Nat.le_of_ble_eq_true rfl, Nat.le_of_ble_eq_true rfl⟩ dL_benchGap_5 (fun e3 q9 ce H locs hM hS hce hcv hcl => ?_) (fun v2 e3 H locs hM hS => ?_)
  · replace h := gel_n e3 h
    refine vx_catch (name := "java/lang/IndexOutOfBoundsException") hown [] ⟨0, 10, 13, 13⟩ [] hT (fun z hz => nomatch hz) (by decide) (by decide) (E.kw kw_930) (g_castW E) hce hcv hcl ?_
    refine lv_astore (lv' := [(4, .ref q9), (0, .ref (ad 0)), (1, .int p2), (2, .int p3), (3, .ref (ad 77))]) hx hb dL_benchGap_13 hl (by decide) rfl (fun ls hl => ?_)
    refine lv_iconst (v := (1 : Int32)) hx hb dL_benchGap_15 (by decide) ?_
    obtain rfl := Option.some.inj h
    exact g_iret hx hb hr hlocks hM hS dL_benchGap_16
  · replace h := gel_s e3 h
    refine lv_i2l (v := v2.toInt64) hx hb dL_benchGap_8 rfl ?_
    obtain ⟨c4, h⟩ := gchk_e h
    refine g_last hx hb E hM hS hk_77 dd_77 c4 dL_benchGap_9 (fun H locs hM hS => ?_)
    refine lv_goto (tgt := 17) hx hb dL_benchGap_10 (by decide) ?_
    refine lv_iconst (v := (0 : Int32)) hx hb dL_benchGap_17 (by decide) ?_
    obtain rfl := Option.some.inj h
    exact g_iret hx hb hr hlocks hM hS dL_benchGap_18
def f_L_provisional (p2 : Int32) (μ : gM) : Option (Int32 × gM) :=
  Option.bind (f_X7_provisional p2 μ) (fun q1 => Option.elim q1.1 (some ((1 : Int32), q1.2)) (fun v2 => gchk (gIn (0 : Int32) 1) (some ((0 : Int32), (sl q1.2 77 (0 : Int32).toNatClampNeg v2)))))
set_option maxHeartbeats 4000000 in
set_option maxRecDepth 100000 in
theorem c_L_provisional {l : Launch} {D : va_G} {cy : Nat → ClassId} {ad : Nat → Nat} {base : Nat} {p2 : Int32} {μ : gM} {RES : Int32 × gM} (h : f_L_provisional p2 μ = some RES) : Met l yL_provisional [.codeWith yL_provisional cL_provisional 4 (some .int) [(0, 8, 11, 13)]] ({ frames := 8, cells := 1, slots := 6, locals := 137 } : Room) (va_Pc [.ref (ad 0), .int p2, .ref (ad 77)] (gB l gFull D cy ad base μ)) (gQ (some (.int RES.1)) gFull D cy ad base RES.2) 1 6 (gA base) := by
  refine va_MetW (cc := cL_provisional) (maxL := 4) (ret := (some .int)) (hh := [(0, 8, 11, 13)]) (by decide) rfl ?_
  intro p e s m args below meth c s₁ B hml0 hv
  obtain ⟨rfl, E, hM⟩ := hv
  have F : gF p s m meth c cL_provisional RL 4 (some .int) := gF_of B hml0
  have hT := vx_table (x := yL_provisional) B (E.kw kw_1214)
  obtain ⟨hx, hb, hml, hown, hlocks, hr⟩ := id F
  have hS : va_S (gA base) s.heap s.heap [] := va_S.rf
  have hl := lv_entry ([.ref (ad 0), .int p2, .ref (ad 77)]) (n := 4) (Nat.le_of_ble_eq_true rfl)
  rw [lg_entry_eq]
  generalize (lg_sl ([.ref (ad 0), .int p2, .ref (ad 77)]) ++ List.replicate (4 - (lg_sl ([.ref (ad 0), .int p2, .ref (ad 77)])).length) Slot.unset).toArray = ls at hl ⊢
  have hl : lv_has ls 4 [(0, .ref (ad 0)), (1, .int p2), (2, .ref (ad 77))] := hl
  unfold f_L_provisional at h
  refine lv_aload_n hx hb dL_provisional_0 rfl (lv_at hl 2 rfl) ?_
  refine lv_iconst (v := (0 : Int32)) hx hb dL_provisional_1 (by decide) ?_
  refine lv_aload_n hx hb dL_provisional_2 rfl (lv_at hl 0 rfl) ?_
  refine lv_iload_n hx hb dL_provisional_3 rfl (lv_at hl 1 rfl) ?_
  obtain ⟨q1, hq1, h⟩ := gbind_e h
  refine g_callXV (As := [.int p2]) (rest := [.int (0 : Int32), .ref (ad 77)]) hx hb (hml.trans hl.1.symm) hown E hM hS hy_X7_provisional kw_1215 (c_X7_provisional hq1) hk_0 dd_0 rfl rfl rfl (Nat.le_of_ble_eq_true rfl) ⟨Nat.le_of_ble_eq_true rfl, Nat.le_of_ble_eq_true rfl⟩ ⟨Nat.le_of_ble_eq_true rfl, Nat.le_of_ble_eq_true rfl⟩ dL_provisional_4 (fun e3 q9 ce H locs hM hS hce hcv hcl => ?_) (fun v2 e3 H locs hM hS => ?_)
  · replace h := gel_n e3 h
    refine vx_catch (name := "java/lang/IndexOutOfBoundsException") hown [] ⟨0, 8, 11, 13⟩ [] hT (fun z hz => nomatch hz) (by decide) (by decide) (E.kw kw_930) (g_castW E) hce hcv hcl ?_
    refine lv_astore_n (lv' := [(3, .ref q9), (0, .ref (ad 0)), (1, .int p2), (2, .ref (ad 77))]) hx hb dL_provisional_11 rfl hl (by decide) rfl (fun ls hl => ?_)
    refine lv_iconst (v := (1 : Int32)) hx hb dL_provisional_12 (by decide) ?_
    obtain rfl := Option.some.inj h
    exact g_iret hx hb hr hlocks hM hS dL_provisional_13
  · replace h := gel_s e3 h
    obtain ⟨c4, h⟩ := gchk_e h
    refine g_last hx hb E hM hS hk_77 dd_77 c4 dL_provisional_7 (fun H locs hM hS => ?_)
    refine lv_goto (tgt := 14) hx hb dL_provisional_8 (by decide) ?_
    refine lv_iconst (v := (0 : Int32)) hx hb dL_provisional_14 (by decide) ?_
    obtain rfl := Option.some.inj h
    exact g_iret hx hb hr hlocks hM hS dL_provisional_15
def f_L_heightOf (p2 : Int32) (μ : gM) : Option (Int32 × gM) :=
  Option.bind (f_X7_heightOf p2 μ) (fun q1 => Option.elim q1 (some ((1 : Int32), μ)) (fun v2 => gchk (gIn (0 : Int32) 1) (some ((0 : Int32), (sl μ 77 (0 : Int32).toNatClampNeg v2)))))
set_option maxHeartbeats 4000000 in
set_option maxRecDepth 100000 in
theorem c_L_heightOf {l : Launch} {D : va_G} {cy : Nat → ClassId} {ad : Nat → Nat} {base : Nat} {p2 : Int32} {μ : gM} {RES : Int32 × gM} (h : f_L_heightOf p2 μ = some RES) : Met l yL_heightOf [.codeWith yL_heightOf cL_heightOf 4 (some .int) [(0, 8, 11, 13)]] ({ frames := 8, cells := 1, slots := 6, locals := 124 } : Room) (va_Pc [.ref (ad 0), .int p2, .ref (ad 77)] (gB l gFull D cy ad base μ)) (gQ (some (.int RES.1)) gFull D cy ad base RES.2) 1 6 (gA base) := by
  refine va_MetW (cc := cL_heightOf) (maxL := 4) (ret := (some .int)) (hh := [(0, 8, 11, 13)]) (by decide) rfl ?_
  intro p e s m args below meth c s₁ B hml0 hv
  obtain ⟨rfl, E, hM⟩ := hv
  have F : gF p s m meth c cL_heightOf RL 4 (some .int) := gF_of B hml0
  have hT := vx_table (x := yL_heightOf) B (E.kw kw_1221)
  obtain ⟨hx, hb, hml, hown, hlocks, hr⟩ := id F
  have hS : va_S (gA base) s.heap s.heap [] := va_S.rf
  have hl := lv_entry ([.ref (ad 0), .int p2, .ref (ad 77)]) (n := 4) (Nat.le_of_ble_eq_true rfl)
  rw [lg_entry_eq]
  generalize (lg_sl ([.ref (ad 0), .int p2, .ref (ad 77)]) ++ List.replicate (4 - (lg_sl ([.ref (ad 0), .int p2, .ref (ad 77)])).length) Slot.unset).toArray = ls at hl ⊢
  have hl : lv_has ls 4 [(0, .ref (ad 0)), (1, .int p2), (2, .ref (ad 77))] := hl
  unfold f_L_heightOf at h
  refine lv_aload_n hx hb dL_heightOf_0 rfl (lv_at hl 2 rfl) ?_
  refine lv_iconst (v := (0 : Int32)) hx hb dL_heightOf_1 (by decide) ?_
  refine lv_aload_n hx hb dL_heightOf_2 rfl (lv_at hl 0 rfl) ?_
  refine lv_iload_n hx hb dL_heightOf_3 rfl (lv_at hl 1 rfl) ?_
  obtain ⟨q1, hq1, h⟩ := gbind_e h
  refine g_callXV (As := [.int p2]) (rest := [.int (0 : Int32), .ref (ad 77)]) hx hb (hml.trans hl.1.symm) hown E hM hS hy_X7_heightOf kw_1222 (c_X7_heightOf hq1) hk_0 dd_0 rfl rfl rfl (Nat.le_of_ble_eq_true rfl) ⟨Nat.le_of_ble_eq_true rfl, Nat.le_of_ble_eq_true rfl⟩ ⟨Nat.le_of_ble_eq_true rfl, Nat.le_of_ble_eq_true rfl⟩ dL_heightOf_4 (fun e3 q9 ce H locs hM hS hce hcv hcl => ?_) (fun v2 e3 H locs hM hS => ?_)
  · replace h := gel_n e3 h
    refine vx_catch (name := "java/lang/IndexOutOfBoundsException") hown [] ⟨0, 8, 11, 13⟩ [] hT (fun z hz => nomatch hz) (by decide) (by decide) (E.kw kw_930) (g_castW E) hce hcv hcl ?_
    refine lv_astore_n (lv' := [(3, .ref q9), (0, .ref (ad 0)), (1, .int p2), (2, .ref (ad 77))]) hx hb dL_heightOf_11 rfl hl (by decide) rfl (fun ls hl => ?_)
    refine lv_iconst (v := (1 : Int32)) hx hb dL_heightOf_12 (by decide) ?_
    obtain rfl := Option.some.inj h
    exact g_iret hx hb hr hlocks hM hS dL_heightOf_13
  · replace h := gel_s e3 h
    obtain ⟨c4, h⟩ := gchk_e h
    refine g_last hx hb E hM hS hk_77 dd_77 c4 dL_heightOf_7 (fun H locs hM hS => ?_)
    refine lv_goto (tgt := 14) hx hb dL_heightOf_8 (by decide) ?_
    refine lv_iconst (v := (0 : Int32)) hx hb dL_heightOf_14 (by decide) ?_
    obtain rfl := Option.some.inj h
    exact g_iret hx hb hr hlocks hM hS dL_heightOf_15
def f_L_residual (p2 : Int32) (μ : gM) : Option (Int32 × gM) :=
  Option.bind (f_X7_residual p2 μ) (fun q1 => Option.elim q1 (some ((1 : Int32), μ)) (fun v2 => gchk (gIn (0 : Int32) 1) (some ((0 : Int32), (sl μ 77 (0 : Int32).toNatClampNeg v2)))))
set_option maxHeartbeats 4000000 in
set_option maxRecDepth 100000 in
theorem c_L_residual {l : Launch} {D : va_G} {cy : Nat → ClassId} {ad : Nat → Nat} {base : Nat} {p2 : Int32} {μ : gM} {RES : Int32 × gM} (h : f_L_residual p2 μ = some RES) : Met l yL_residual [.codeWith yL_residual cL_residual 4 (some .int) [(0, 8, 11, 13)]] ({ frames := 8, cells := 1, slots := 6, locals := 124 } : Room) (va_Pc [.ref (ad 0), .int p2, .ref (ad 77)] (gB l gFull D cy ad base μ)) (gQ (some (.int RES.1)) gFull D cy ad base RES.2) 1 6 (gA base) := by
  refine va_MetW (cc := cL_residual) (maxL := 4) (ret := (some .int)) (hh := [(0, 8, 11, 13)]) (by decide) rfl ?_
  intro p e s m args below meth c s₁ B hml0 hv
  obtain ⟨rfl, E, hM⟩ := hv
  have F : gF p s m meth c cL_residual RL 4 (some .int) := gF_of B hml0
  have hT := vx_table (x := yL_residual) B (E.kw kw_1228)
  obtain ⟨hx, hb, hml, hown, hlocks, hr⟩ := id F
  have hS : va_S (gA base) s.heap s.heap [] := va_S.rf
  have hl := lv_entry ([.ref (ad 0), .int p2, .ref (ad 77)]) (n := 4) (Nat.le_of_ble_eq_true rfl)
  rw [lg_entry_eq]
  generalize (lg_sl ([.ref (ad 0), .int p2, .ref (ad 77)]) ++ List.replicate (4 - (lg_sl ([.ref (ad 0), .int p2, .ref (ad 77)])).length) Slot.unset).toArray = ls at hl ⊢
  have hl : lv_has ls 4 [(0, .ref (ad 0)), (1, .int p2), (2, .ref (ad 77))] := hl
  unfold f_L_residual at h
  refine lv_aload_n hx hb dL_residual_0 rfl (lv_at hl 2 rfl) ?_
  refine lv_iconst (v := (0 : Int32)) hx hb dL_residual_1 (by decide) ?_
  refine lv_aload_n hx hb dL_residual_2 rfl (lv_at hl 0 rfl) ?_
  refine lv_iload_n hx hb dL_residual_3 rfl (lv_at hl 1 rfl) ?_
  obtain ⟨q1, hq1, h⟩ := gbind_e h
  refine g_callXV (As := [.int p2]) (rest := [.int (0 : Int32), .ref (ad 77)]) hx hb (hml.trans hl.1.symm) hown E hM hS hy_X7_residual kw_1229 (c_X7_residual hq1) hk_0 dd_0 rfl rfl rfl (Nat.le_of_ble_eq_true rfl) ⟨Nat.le_of_ble_eq_true rfl, Nat.le_of_ble_eq_true rfl⟩ ⟨Nat.le_of_ble_eq_true rfl, Nat.le_of_ble_eq_true rfl⟩ dL_residual_4 (fun e3 q9 ce H locs hM hS hce hcv hcl => ?_) (fun v2 e3 H locs hM hS => ?_)
  · replace h := gel_n e3 h
    refine vx_catch (name := "java/lang/IndexOutOfBoundsException") hown [] ⟨0, 8, 11, 13⟩ [] hT (fun z hz => nomatch hz) (by decide) (by decide) (E.kw kw_930) (g_castW E) hce hcv hcl ?_
    refine lv_astore_n (lv' := [(3, .ref q9), (0, .ref (ad 0)), (1, .int p2), (2, .ref (ad 77))]) hx hb dL_residual_11 rfl hl (by decide) rfl (fun ls hl => ?_)
    refine lv_iconst (v := (1 : Int32)) hx hb dL_residual_12 (by decide) ?_
    obtain rfl := Option.some.inj h
    exact g_iret hx hb hr hlocks hM hS dL_residual_13
  · replace h := gel_s e3 h
    obtain ⟨c4, h⟩ := gchk_e h
    refine g_last hx hb E hM hS hk_77 dd_77 c4 dL_residual_7 (fun H locs hM hS => ?_)
    refine lv_goto (tgt := 14) hx hb dL_residual_8 (by decide) ?_
    refine lv_iconst (v := (0 : Int32)) hx hb dL_residual_14 (by decide) ?_
    obtain rfl := Option.some.inj h
    exact g_iret hx hb hr hlocks hM hS dL_residual_15
