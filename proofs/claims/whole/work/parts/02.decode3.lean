theorem dX12_ahead_26 : decode cX12_ahead 26 = .ok (.goto 4, 3) := by decide +kernel
theorem dX12_ahead_29 : decode cX12_ahead 29 = .ok (.iconst (-1), 1) := by decide +kernel
theorem dX12_ahead_30 : decode cX12_ahead 30 = .ok (.ireturn, 1) := by decide +kernel
theorem dX12_come_0 : decode cX12_come 0 = .ok (.lload_n 1, 1) := by decide +kernel
theorem dX12_come_1 : decode cX12_come 1 = .ok (.lstore 5, 2) := by decide +kernel
theorem dX12_come_3 : decode cX12_come 3 = .ok (.iconst 0, 1) := by decide +kernel
theorem dX12_come_4 : decode cX12_come 4 = .ok (.istore 7, 2) := by decide +kernel
theorem dX12_come_6 : decode cX12_come 6 = .ok (.iload 7, 2) := by decide +kernel
theorem dX12_come_8 : decode cX12_come 8 = .ok (.iload 4, 2) := by decide +kernel
theorem dX12_come_10 : decode cX12_come 10 = .ok (.if_icmp .ge 68, 3) := by decide +kernel
theorem dX12_come_13 : decode cX12_come 13 = .ok (.lload 5, 2) := by decide +kernel
theorem dX12_come_15 : decode cX12_come 15 = .ok (.lstore 8, 2) := by decide +kernel
theorem dX12_come_17 : decode cX12_come 17 = .ok (.iconst 0, 1) := by decide +kernel
theorem dX12_come_18 : decode cX12_come 18 = .ok (.istore 10, 2) := by decide +kernel
theorem dX12_come_20 : decode cX12_come 20 = .ok (.iload 10, 2) := by decide +kernel
theorem dX12_come_22 : decode cX12_come 22 = .ok (.aload_n 0, 1) := by decide +kernel
theorem dX12_come_23 : decode cX12_come 23 = .ok (.invokevirtual 101, 3) := by decide +kernel
theorem dX12_come_26 : decode cX12_come 26 = .ok (.if_icmp .ge 31, 3) := by decide +kernel
theorem dX12_come_29 : decode cX12_come 29 = .ok (.lload 5, 2) := by decide +kernel
theorem dX12_come_31 : decode cX12_come 31 = .ok (.iload 10, 2) := by decide +kernel
theorem dX12_come_33 : decode cX12_come 33 = .ok (.invokestatic 86, 3) := by decide +kernel
theorem dX12_come_36 : decode cX12_come 36 = .ok (.ifCond .eq 15, 3) := by decide +kernel
theorem dX12_come_39 : decode cX12_come 39 = .ok (.lload 8, 2) := by decide +kernel
theorem dX12_come_41 : decode cX12_come 41 = .ok (.aload_n 0, 1) := by decide +kernel
theorem dX12_come_42 : decode cX12_come 42 = .ok (.iload 10, 2) := by decide +kernel
theorem dX12_come_44 : decode cX12_come 44 = .ok (.iload_n 3, 1) := by decide +kernel
theorem dX12_come_45 : decode cX12_come 45 = .ok (.invokevirtual 113, 3) := by decide +kernel
theorem dX12_come_48 : decode cX12_come 48 = .ok (.lor, 1) := by decide +kernel
theorem dX12_come_49 : decode cX12_come 49 = .ok (.lstore 8, 2) := by decide +kernel
theorem dX12_come_51 : decode cX12_come 51 = .ok (.iinc 10 1, 3) := by decide +kernel
theorem dX12_come_54 : decode cX12_come 54 = .ok (.goto (-34), 3) := by decide +kernel
theorem dX12_come_57 : decode cX12_come 57 = .ok (.lload 8, 2) := by decide +kernel
theorem dX12_come_59 : decode cX12_come 59 = .ok (.lload 5, 2) := by decide +kernel
theorem dX12_come_61 : decode cX12_come 61 = .ok (.lcmp, 1) := by decide +kernel
theorem dX12_come_62 : decode cX12_come 62 = .ok (.ifCond .ne 6, 3) := by decide +kernel
theorem dX12_come_65 : decode cX12_come 65 = .ok (.lload 5, 2) := by decide +kernel
theorem dX12_come_67 : decode cX12_come 67 = .ok (.lreturn, 1) := by decide +kernel
theorem dX12_come_68 : decode cX12_come 68 = .ok (.lload 8, 2) := by decide +kernel
theorem dX12_come_70 : decode cX12_come 70 = .ok (.lstore 5, 2) := by decide +kernel
theorem dX12_come_72 : decode cX12_come 72 = .ok (.iinc 7 1, 3) := by decide +kernel
theorem dX12_come_75 : decode cX12_come 75 = .ok (.goto (-69), 3) := by decide +kernel
theorem dX12_come_78 : decode cX12_come 78 = .ok (.lload 5, 2) := by decide +kernel
theorem dX12_come_80 : decode cX12_come 80 = .ok (.lreturn, 1) := by decide +kernel
theorem dX12_stepsTo_0 : decode cX12_stepsTo 0 = .ok (.iconst 0, 1) := by decide +kernel
theorem dX12_stepsTo_1 : decode cX12_stepsTo 1 = .ok (.istore 4, 2) := by decide +kernel
theorem dX12_stepsTo_3 : decode cX12_stepsTo 3 = .ok (.iload 4, 2) := by decide +kernel
theorem dX12_stepsTo_5 : decode cX12_stepsTo 5 = .ok (.bipush 64, 2) := by decide +kernel
theorem dX12_stepsTo_7 : decode cX12_stepsTo 7 = .ok (.if_icmp .ge 30, 3) := by decide +kernel
theorem dX12_stepsTo_10 : decode cX12_stepsTo 10 = .ok (.aload_n 0, 1) := by decide +kernel
theorem dX12_stepsTo_11 : decode cX12_stepsTo 11 = .ok (.aload_n 0, 1) := by decide +kernel
theorem dX12_stepsTo_12 : decode cX12_stepsTo 12 = .ok (.invokevirtual 255, 3) := by decide +kernel
theorem dX12_stepsTo_15 : decode cX12_stepsTo 15 = .ok (.iload_n 3, 1) := by decide +kernel
theorem dX12_stepsTo_16 : decode cX12_stepsTo 16 = .ok (.iload 4, 2) := by decide +kernel
theorem dX12_stepsTo_18 : decode cX12_stepsTo 18 = .ok (.invokevirtual 406, 3) := by decide +kernel
theorem dX12_stepsTo_21 : decode cX12_stepsTo 21 = .ok (.lload_n 1, 1) := by decide +kernel
theorem dX12_stepsTo_22 : decode cX12_stepsTo 22 = .ok (.land, 1) := by decide +kernel
theorem dX12_stepsTo_23 : decode cX12_stepsTo 23 = .ok (.lconst 0, 1) := by decide +kernel
theorem dX12_stepsTo_24 : decode cX12_stepsTo 24 = .ok (.lcmp, 1) := by decide +kernel
theorem dX12_stepsTo_25 : decode cX12_stepsTo 25 = .ok (.ifCond .eq 6, 3) := by decide +kernel
theorem dX12_stepsTo_28 : decode cX12_stepsTo 28 = .ok (.iload 4, 2) := by decide +kernel
theorem dX12_stepsTo_30 : decode cX12_stepsTo 30 = .ok (.ireturn, 1) := by decide +kernel
theorem dX12_stepsTo_31 : decode cX12_stepsTo 31 = .ok (.iinc 4 1, 3) := by decide +kernel
theorem dX12_stepsTo_34 : decode cX12_stepsTo 34 = .ok (.goto (-31), 3) := by decide +kernel
theorem dX12_stepsTo_37 : decode cX12_stepsTo 37 = .ok (.iconst (-1), 1) := by decide +kernel
theorem dX12_stepsTo_38 : decode cX12_stepsTo 38 = .ok (.ireturn, 1) := by decide +kernel
theorem dX12_distance_0 : decode cX12_distance 0 = .ok (.aload_n 0, 1) := by decide +kernel
theorem dX12_distance_1 : decode cX12_distance 1 = .ok (.iload_n 1, 1) := by decide +kernel
theorem dX12_distance_2 : decode cX12_distance 2 = .ok (.invokevirtual 360, 3) := by decide +kernel
theorem dX12_distance_5 : decode cX12_distance 5 = .ok (.ifCond .eq 15, 3) := by decide +kernel
theorem dX12_distance_8 : decode cX12_distance 8 = .ok (.aload_n 0, 1) := by decide +kernel
theorem dX12_distance_9 : decode cX12_distance 9 = .ok (.lconst 1, 1) := by decide +kernel
theorem dX12_distance_10 : decode cX12_distance 10 = .ok (.iload_n 1, 1) := by decide +kernel
theorem dX12_distance_11 : decode cX12_distance 11 = .ok (.lshl, 1) := by decide +kernel
theorem dX12_distance_12 : decode cX12_distance 12 = .ok (.bipush 15, 2) := by decide +kernel
theorem dX12_distance_14 : decode cX12_distance 14 = .ok (.invokevirtual 410, 3) := by decide +kernel
theorem dX12_distance_17 : decode cX12_distance 17 = .ok (.goto 4, 3) := by decide +kernel
theorem dX12_distance_20 : decode cX12_distance 20 = .ok (.iconst (-1), 1) := by decide +kernel
theorem dX12_distance_21 : decode cX12_distance 21 = .ok (.ireturn, 1) := by decide +kernel
theorem dX12_distanceBy_0 : decode cX12_distanceBy 0 = .ok (.aload_n 0, 1) := by decide +kernel
theorem dX12_distanceBy_1 : decode cX12_distanceBy 1 = .ok (.iload_n 1, 1) := by decide +kernel
theorem dX12_distanceBy_2 : decode cX12_distanceBy 2 = .ok (.invokevirtual 360, 3) := by decide +kernel
theorem dX12_distanceBy_5 : decode cX12_distanceBy 5 = .ok (.ifCond .eq 24, 3) := by decide +kernel
theorem dX12_distanceBy_8 : decode cX12_distanceBy 8 = .ok (.iload_n 2, 1) := by decide +kernel
theorem dX12_distanceBy_9 : decode cX12_distanceBy 9 = .ok (.iconst 1, 1) := by decide +kernel
theorem dX12_distanceBy_10 : decode cX12_distanceBy 10 = .ok (.bipush 15, 2) := by decide +kernel
theorem dX12_distanceBy_12 : decode cX12_distanceBy 12 = .ok (.invokestatic 105, 3) := by decide +kernel
theorem dX12_distanceBy_15 : decode cX12_distanceBy 15 = .ok (.ifCond .eq 14, 3) := by decide +kernel
theorem dX12_distanceBy_18 : decode cX12_distanceBy 18 = .ok (.aload_n 0, 1) := by decide +kernel
theorem dX12_distanceBy_19 : decode cX12_distanceBy 19 = .ok (.lconst 1, 1) := by decide +kernel
theorem dX12_distanceBy_20 : decode cX12_distanceBy 20 = .ok (.iload_n 1, 1) := by decide +kernel
theorem dX12_distanceBy_21 : decode cX12_distanceBy 21 = .ok (.lshl, 1) := by decide +kernel
theorem dX12_distanceBy_22 : decode cX12_distanceBy 22 = .ok (.iload_n 2, 1) := by decide +kernel
theorem dX12_distanceBy_23 : decode cX12_distanceBy 23 = .ok (.invokevirtual 410, 3) := by decide +kernel
theorem dX12_distanceBy_26 : decode cX12_distanceBy 26 = .ok (.goto 4, 3) := by decide +kernel
theorem dX12_distanceBy_29 : decode cX12_distanceBy 29 = .ok (.iconst (-1), 1) := by decide +kernel
theorem dX12_distanceBy_30 : decode cX12_distanceBy 30 = .ok (.ireturn, 1) := by decide +kernel
theorem dX12_nearest_0 : decode cX12_nearest 0 = .ok (.aload_n 0, 1) := by decide +kernel
theorem dX12_nearest_1 : decode cX12_nearest 1 = .ok (.aload_n 0, 1) := by decide +kernel
theorem dX12_nearest_2 : decode cX12_nearest 2 = .ok (.invokevirtual 300, 3) := by decide +kernel
theorem dX12_nearest_5 : decode cX12_nearest 5 = .ok (.bipush 15, 2) := by decide +kernel
theorem dX12_nearest_7 : decode cX12_nearest 7 = .ok (.invokevirtual 410, 3) := by decide +kernel
theorem dX12_nearest_10 : decode cX12_nearest 10 = .ok (.ireturn, 1) := by decide +kernel
theorem dX12_reach_0 : decode cX12_reach 0 = .ok (.iload_n 1, 1) := by decide +kernel
theorem dX12_reach_1 : decode cX12_reach 1 = .ok (.ifCond .ge 7, 3) := by decide +kernel
theorem dX12_reach_4 : decode cX12_reach 4 = .ok (.iconst (-1), 1) := by decide +kernel
theorem dX12_reach_5 : decode cX12_reach 5 = .ok (.goto 17, 3) := by decide +kernel
theorem dX12_reach_8 : decode cX12_reach 8 = .ok (.aload_n 0, 1) := by decide +kernel
theorem dX12_reach_9 : decode cX12_reach 9 = .ok (.aload_n 0, 1) := by decide +kernel
theorem dX12_reach_10 : decode cX12_reach 10 = .ok (.invokevirtual 255, 3) := by decide +kernel
theorem dX12_reach_13 : decode cX12_reach 13 = .ok (.bipush 15, 2) := by decide +kernel
theorem dX12_reach_15 : decode cX12_reach 15 = .ok (.iload_n 1, 1) := by decide +kernel
theorem dX12_reach_16 : decode cX12_reach 16 = .ok (.invokevirtual 406, 3) := by decide +kernel
theorem dX12_reach_19 : decode cX12_reach 19 = .ok (.invokestatic 366, 3) := by decide +kernel
theorem dX12_reach_22 : decode cX12_reach 22 = .ok (.ireturn, 1) := by decide +kernel
theorem dX12_slack_0 : decode cX12_slack 0 = .ok (.aload_n 0, 1) := by decide +kernel
theorem dX12_slack_1 : decode cX12_slack 1 = .ok (.iload_n 1, 1) := by decide +kernel
theorem dX12_slack_2 : decode cX12_slack 2 = .ok (.invokevirtual 363, 3) := by decide +kernel
theorem dX12_slack_5 : decode cX12_slack 5 = .ok (.ifCond .eq 30, 3) := by decide +kernel
theorem dX12_slack_8 : decode cX12_slack 8 = .ok (.aload_n 0, 1) := by decide +kernel
theorem dX12_slack_9 : decode cX12_slack 9 = .ok (.iload_n 1, 1) := by decide +kernel
theorem dX12_slack_10 : decode cX12_slack 10 = .ok (.invokevirtual 264, 3) := by decide +kernel
theorem dX12_slack_13 : decode cX12_slack 13 = .ok (.aload_n 0, 1) := by decide +kernel
theorem dX12_slack_14 : decode cX12_slack 14 = .ok (.aload_n 0, 1) := by decide +kernel
theorem dX12_slack_15 : decode cX12_slack 15 = .ok (.invokevirtual 255, 3) := by decide +kernel
theorem dX12_slack_18 : decode cX12_slack 18 = .ok (.bipush 15, 2) := by decide +kernel
theorem dX12_slack_20 : decode cX12_slack 20 = .ok (.iload_n 1, 1) := by decide +kernel
theorem dX12_slack_21 : decode cX12_slack 21 = .ok (.invokevirtual 406, 3) := by decide +kernel
theorem dX12_slack_24 : decode cX12_slack 24 = .ok (.ldc2_w 92, 3) := by decide +kernel
theorem dX12_slack_27 : decode cX12_slack 27 = .ok (.lxor, 1) := by decide +kernel
theorem dX12_slack_28 : decode cX12_slack 28 = .ok (.land, 1) := by decide +kernel
theorem dX12_slack_29 : decode cX12_slack 29 = .ok (.invokestatic 366, 3) := by decide +kernel
theorem dX12_slack_32 : decode cX12_slack 32 = .ok (.goto 4, 3) := by decide +kernel
theorem dX12_slack_35 : decode cX12_slack 35 = .ok (.iconst (-1), 1) := by decide +kernel
theorem dX12_slack_36 : decode cX12_slack 36 = .ok (.ireturn, 1) := by decide +kernel
theorem dX12_nearing_0 : decode cX12_nearing 0 = .ok (.aload_n 0, 1) := by decide +kernel
theorem dX12_nearing_1 : decode cX12_nearing 1 = .ok (.invokevirtual 300, 3) := by decide +kernel
theorem dX12_nearing_4 : decode cX12_nearing 4 = .ok (.lstore_n 2, 1) := by decide +kernel
theorem dX12_nearing_5 : decode cX12_nearing 5 = .ok (.iconst 0, 1) := by decide +kernel
theorem dX12_nearing_6 : decode cX12_nearing 6 = .ok (.istore 4, 2) := by decide +kernel
theorem dX12_nearing_8 : decode cX12_nearing 8 = .ok (.iload 4, 2) := by decide +kernel
theorem dX12_nearing_10 : decode cX12_nearing 10 = .ok (.iload_n 1, 1) := by decide +kernel
theorem dX12_nearing_11 : decode cX12_nearing 11 = .ok (.if_icmp .ge 64, 3) := by decide +kernel
theorem dX12_nearing_14 : decode cX12_nearing 14 = .ok (.lload_n 2, 1) := by decide +kernel
theorem dX12_nearing_15 : decode cX12_nearing 15 = .ok (.lstore 5, 2) := by decide +kernel
theorem dX12_nearing_17 : decode cX12_nearing 17 = .ok (.iconst 0, 1) := by decide +kernel
theorem dX12_nearing_18 : decode cX12_nearing 18 = .ok (.istore 7, 2) := by decide +kernel
theorem dX12_nearing_20 : decode cX12_nearing 20 = .ok (.iload 7, 2) := by decide +kernel
theorem dX12_nearing_22 : decode cX12_nearing 22 = .ok (.aload_n 0, 1) := by decide +kernel
theorem dX12_nearing_23 : decode cX12_nearing 23 = .ok (.invokevirtual 101, 3) := by decide +kernel
theorem dX12_nearing_26 : decode cX12_nearing 26 = .ok (.if_icmp .ge 31, 3) := by decide +kernel
theorem dX12_nearing_29 : decode cX12_nearing 29 = .ok (.aload_n 0, 1) := by decide +kernel
theorem dX12_nearing_30 : decode cX12_nearing 30 = .ok (.iload 7, 2) := by decide +kernel
theorem dX12_nearing_32 : decode cX12_nearing 32 = .ok (.invokevirtual 261, 3) := by decide +kernel
theorem dX12_nearing_35 : decode cX12_nearing 35 = .ok (.lload_n 2, 1) := by decide +kernel
theorem dX12_nearing_36 : decode cX12_nearing 36 = .ok (.land, 1) := by decide +kernel
theorem dX12_nearing_37 : decode cX12_nearing 37 = .ok (.lconst 0, 1) := by decide +kernel
theorem dX12_nearing_38 : decode cX12_nearing 38 = .ok (.lcmp, 1) := by decide +kernel
theorem dX12_nearing_39 : decode cX12_nearing 39 = .ok (.ifCond .eq 12, 3) := by decide +kernel
theorem dX12_nearing_42 : decode cX12_nearing 42 = .ok (.lload 5, 2) := by decide +kernel
theorem dX12_nearing_44 : decode cX12_nearing 44 = .ok (.lconst 1, 1) := by decide +kernel
theorem dX12_nearing_45 : decode cX12_nearing 45 = .ok (.iload 7, 2) := by decide +kernel
theorem dX12_nearing_47 : decode cX12_nearing 47 = .ok (.lshl, 1) := by decide +kernel
theorem dX12_nearing_48 : decode cX12_nearing 48 = .ok (.lor, 1) := by decide +kernel
theorem dX12_nearing_49 : decode cX12_nearing 49 = .ok (.lstore 5, 2) := by decide +kernel
theorem dX12_nearing_51 : decode cX12_nearing 51 = .ok (.iinc 7 1, 3) := by decide +kernel
theorem dX12_nearing_54 : decode cX12_nearing 54 = .ok (.goto (-34), 3) := by decide +kernel
theorem dX12_nearing_57 : decode cX12_nearing 57 = .ok (.lload 5, 2) := by decide +kernel
theorem dX12_nearing_59 : decode cX12_nearing 59 = .ok (.lload_n 2, 1) := by decide +kernel
theorem dX12_nearing_60 : decode cX12_nearing 60 = .ok (.lcmp, 1) := by decide +kernel
theorem dX12_nearing_61 : decode cX12_nearing 61 = .ok (.ifCond .ne 5, 3) := by decide +kernel
theorem dX12_nearing_64 : decode cX12_nearing 64 = .ok (.lload_n 2, 1) := by decide +kernel
theorem dX12_nearing_65 : decode cX12_nearing 65 = .ok (.lreturn, 1) := by decide +kernel
theorem dX12_nearing_66 : decode cX12_nearing 66 = .ok (.lload 5, 2) := by decide +kernel
theorem dX12_nearing_68 : decode cX12_nearing 68 = .ok (.lstore_n 2, 1) := by decide +kernel
theorem dX12_nearing_69 : decode cX12_nearing 69 = .ok (.iinc 4 1, 3) := by decide +kernel
theorem dX12_nearing_72 : decode cX12_nearing 72 = .ok (.goto (-64), 3) := by decide +kernel
theorem dX12_nearing_75 : decode cX12_nearing 75 = .ok (.lload_n 2, 1) := by decide +kernel
theorem dX12_nearing_76 : decode cX12_nearing 76 = .ok (.lreturn, 1) := by decide +kernel
theorem dX12_farOf_0 : decode cX12_farOf 0 = .ok (.iconst 0, 1) := by decide +kernel
theorem dX12_farOf_1 : decode cX12_farOf 1 = .ok (.istore_n 2, 1) := by decide +kernel
theorem dX12_farOf_2 : decode cX12_farOf 2 = .ok (.iload_n 2, 1) := by decide +kernel
theorem dX12_farOf_3 : decode cX12_farOf 3 = .ok (.bipush 64, 2) := by decide +kernel
theorem dX12_farOf_5 : decode cX12_farOf 5 = .ok (.if_icmp .ge 23, 3) := by decide +kernel
theorem dX12_farOf_8 : decode cX12_farOf 8 = .ok (.aload_n 0, 1) := by decide +kernel
theorem dX12_farOf_9 : decode cX12_farOf 9 = .ok (.iload_n 2, 1) := by decide +kernel
theorem dX12_farOf_10 : decode cX12_farOf 10 = .ok (.invokevirtual 414, 3) := by decide +kernel
theorem dX12_farOf_13 : decode cX12_farOf 13 = .ok (.iload_n 1, 1) := by decide +kernel
theorem dX12_farOf_14 : decode cX12_farOf 14 = .ok (.invokestatic 86, 3) := by decide +kernel
theorem dX12_farOf_17 : decode cX12_farOf 17 = .ok (.ifCond .eq 5, 3) := by decide +kernel
theorem dX12_farOf_20 : decode cX12_farOf 20 = .ok (.iload_n 2, 1) := by decide +kernel
theorem dX12_farOf_21 : decode cX12_farOf 21 = .ok (.ireturn, 1) := by decide +kernel
theorem dX12_farOf_22 : decode cX12_farOf 22 = .ok (.iinc 2 1, 3) := by decide +kernel
theorem dX12_farOf_25 : decode cX12_farOf 25 = .ok (.goto (-23), 3) := by decide +kernel
theorem dX12_farOf_28 : decode cX12_farOf 28 = .ok (.iconst (-1), 1) := by decide +kernel
theorem dX12_farOf_29 : decode cX12_farOf 29 = .ok (.ireturn, 1) := by decide +kernel
theorem dX12_far_0 : decode cX12_far 0 = .ok (.aload_n 0, 1) := by decide +kernel
theorem dX12_far_1 : decode cX12_far 1 = .ok (.iload_n 1, 1) := by decide +kernel
theorem dX12_far_2 : decode cX12_far 2 = .ok (.invokevirtual 360, 3) := by decide +kernel
theorem dX12_far_5 : decode cX12_far 5 = .ok (.ifCond .eq 11, 3) := by decide +kernel
theorem dX12_far_8 : decode cX12_far 8 = .ok (.aload_n 0, 1) := by decide +kernel
theorem dX12_far_9 : decode cX12_far 9 = .ok (.iload_n 1, 1) := by decide +kernel
theorem dX12_far_10 : decode cX12_far 10 = .ok (.invokevirtual 417, 3) := by decide +kernel
theorem dX12_far_13 : decode cX12_far 13 = .ok (.goto 4, 3) := by decide +kernel
theorem dX12_far_16 : decode cX12_far 16 = .ok (.iconst (-1), 1) := by decide +kernel
theorem dX12_far_17 : decode cX12_far 17 = .ok (.ireturn, 1) := by decide +kernel
theorem dX12_doomed_0 : decode cX12_doomed 0 = .ok (.iload_n 1, 1) := by decide +kernel
theorem dX12_doomed_1 : decode cX12_doomed 1 = .ok (.ifCond .ge 7, 3) := by decide +kernel
theorem dX12_doomed_4 : decode cX12_doomed 4 = .ok (.iconst (-1), 1) := by decide +kernel
theorem dX12_doomed_5 : decode cX12_doomed 5 = .ok (.goto 11, 3) := by decide +kernel
theorem dX12_doomed_8 : decode cX12_doomed 8 = .ok (.aload_n 0, 1) := by decide +kernel
theorem dX12_doomed_9 : decode cX12_doomed 9 = .ok (.iload_n 1, 1) := by decide +kernel
theorem dX12_doomed_10 : decode cX12_doomed 10 = .ok (.invokevirtual 414, 3) := by decide +kernel
theorem dX12_doomed_13 : decode cX12_doomed 13 = .ok (.invokestatic 366, 3) := by decide +kernel
theorem dX12_doomed_16 : decode cX12_doomed 16 = .ok (.ireturn, 1) := by decide +kernel
theorem dX12_layShortest_0 : decode cX12_layShortest 0 = .ok (.aload_n 0, 1) := by decide +kernel
theorem dX12_layShortest_1 : decode cX12_layShortest 1 = .ok (.iconst 0, 1) := by decide +kernel
theorem dX12_layShortest_2 : decode cX12_layShortest 2 = .ok (.putfield 378, 3) := by decide +kernel
theorem dX12_layShortest_5 : decode cX12_layShortest 5 = .ok (.iconst 0, 1) := by decide +kernel
theorem dX12_layShortest_6 : decode cX12_layShortest 6 = .ok (.istore_n 1, 1) := by decide +kernel
theorem dX12_layShortest_7 : decode cX12_layShortest 7 = .ok (.iload_n 1, 1) := by decide +kernel
theorem dX12_layShortest_8 : decode cX12_layShortest 8 = .ok (.bipush 64, 2) := by decide +kernel
theorem dX12_layShortest_10 : decode cX12_layShortest 10 = .ok (.if_icmp .ge 24, 3) := by decide +kernel
theorem dX12_layShortest_13 : decode cX12_layShortest 13 = .ok (.aload_n 0, 1) := by decide +kernel
theorem dX12_layShortest_14 : decode cX12_layShortest 14 = .ok (.iload_n 1, 1) := by decide +kernel
theorem dX12_layShortest_15 : decode cX12_layShortest 15 = .ok (.invokevirtual 414, 3) := by decide +kernel
theorem dX12_layShortest_18 : decode cX12_layShortest 18 = .ok (.aload_n 0, 1) := by decide +kernel
theorem dX12_layShortest_19 : decode cX12_layShortest 19 = .ok (.invokevirtual 255, 3) := by decide +kernel
theorem dX12_layShortest_22 : decode cX12_layShortest 22 = .ok (.land, 1) := by decide +kernel
theorem dX12_layShortest_23 : decode cX12_layShortest 23 = .ok (.lconst 0, 1) := by decide +kernel
theorem dX12_layShortest_24 : decode cX12_layShortest 24 = .ok (.lcmp, 1) := by decide +kernel
theorem dX12_layShortest_25 : decode cX12_layShortest 25 = .ok (.ifCond .ne 9, 3) := by decide +kernel
theorem dX12_layShortest_28 : decode cX12_layShortest 28 = .ok (.iinc 1 1, 3) := by decide +kernel
theorem dX12_layShortest_31 : decode cX12_layShortest 31 = .ok (.goto (-24), 3) := by decide +kernel
theorem dX12_layShortest_34 : decode cX12_layShortest 34 = .ok (.iload_n 1, 1) := by decide +kernel
theorem dX12_layShortest_35 : decode cX12_layShortest 35 = .ok (.bipush 64, 2) := by decide +kernel
theorem dX12_layShortest_37 : decode cX12_layShortest 37 = .ok (.if_icmp .ne 4, 3) := by decide +kernel
theorem dX12_layShortest_40 : decode cX12_layShortest 40 = .ok (.return_, 1) := by decide +kernel
theorem dX12_layShortest_41 : decode cX12_layShortest 41 = .ok (.aload_n 0, 1) := by decide +kernel
theorem dX12_layShortest_42 : decode cX12_layShortest 42 = .ok (.getfield 59, 3) := by decide +kernel
theorem dX12_layShortest_45 : decode cX12_layShortest 45 = .ok (.iconst 0, 1) := by decide +kernel
theorem dX12_layShortest_46 : decode cX12_layShortest 46 = .ok (.aload_n 0, 1) := by decide +kernel
theorem dX12_layShortest_47 : decode cX12_layShortest 47 = .ok (.iload_n 1, 1) := by decide +kernel
theorem dX12_layShortest_48 : decode cX12_layShortest 48 = .ok (.invokevirtual 414, 3) := by decide +kernel
theorem dX12_layShortest_51 : decode cX12_layShortest 51 = .ok (.aload_n 0, 1) := by decide +kernel
theorem dX12_layShortest_52 : decode cX12_layShortest 52 = .ok (.invokevirtual 255, 3) := by decide +kernel
theorem dX12_layShortest_55 : decode cX12_layShortest 55 = .ok (.land, 1) := by decide +kernel
theorem dX12_layShortest_56 : decode cX12_layShortest 56 = .ok (.invokestatic 303, 3) := by decide +kernel
theorem dX12_layShortest_59 : decode cX12_layShortest 59 = .ok (.iastore, 1) := by decide +kernel
theorem dX12_layShortest_60 : decode cX12_layShortest 60 = .ok (.aload_n 0, 1) := by decide +kernel
theorem dX12_layShortest_61 : decode cX12_layShortest 61 = .ok (.iconst 1, 1) := by decide +kernel
theorem dX12_layShortest_62 : decode cX12_layShortest 62 = .ok (.putfield 378, 3) := by decide +kernel
theorem dX12_layShortest_65 : decode cX12_layShortest 65 = .ok (.iload_n 1, 1) := by decide +kernel
theorem dX12_layShortest_66 : decode cX12_layShortest 66 = .ok (.ifCond .le 52, 3) := by decide +kernel
theorem dX12_layShortest_69 : decode cX12_layShortest 69 = .ok (.iinc 1 (-1), 3) := by decide +kernel
theorem dX12_layShortest_72 : decode cX12_layShortest 72 = .ok (.aload_n 0, 1) := by decide +kernel
theorem dX12_layShortest_73 : decode cX12_layShortest 73 = .ok (.getfield 59, 3) := by decide +kernel
theorem dX12_layShortest_76 : decode cX12_layShortest 76 = .ok (.aload_n 0, 1) := by decide +kernel
theorem dX12_layShortest_77 : decode cX12_layShortest 77 = .ok (.getfield 378, 3) := by decide +kernel
theorem dX12_layShortest_80 : decode cX12_layShortest 80 = .ok (.aload_n 0, 1) := by decide +kernel
theorem dX12_layShortest_81 : decode cX12_layShortest 81 = .ok (.aload_n 0, 1) := by decide +kernel
theorem dX12_layShortest_82 : decode cX12_layShortest 82 = .ok (.getfield 59, 3) := by decide +kernel
theorem dX12_layShortest_85 : decode cX12_layShortest 85 = .ok (.aload_n 0, 1) := by decide +kernel
theorem dX12_layShortest_86 : decode cX12_layShortest 86 = .ok (.getfield 378, 3) := by decide +kernel
theorem dX12_layShortest_89 : decode cX12_layShortest 89 = .ok (.iconst 1, 1) := by decide +kernel
theorem dX12_layShortest_90 : decode cX12_layShortest 90 = .ok (.isub, 1) := by decide +kernel
theorem dX12_layShortest_91 : decode cX12_layShortest 91 = .ok (.iaload, 1) := by decide +kernel
theorem dX12_layShortest_92 : decode cX12_layShortest 92 = .ok (.invokevirtual 261, 3) := by decide +kernel
theorem dX12_layShortest_95 : decode cX12_layShortest 95 = .ok (.aload_n 0, 1) := by decide +kernel
theorem dX12_layShortest_96 : decode cX12_layShortest 96 = .ok (.iload_n 1, 1) := by decide +kernel
theorem dX12_layShortest_97 : decode cX12_layShortest 97 = .ok (.invokevirtual 414, 3) := by decide +kernel
theorem dX12_layShortest_100 : decode cX12_layShortest 100 = .ok (.land, 1) := by decide +kernel
theorem dX12_layShortest_101 : decode cX12_layShortest 101 = .ok (.invokestatic 303, 3) := by decide +kernel
theorem dX12_layShortest_104 : decode cX12_layShortest 104 = .ok (.iastore, 1) := by decide +kernel
theorem dX12_layShortest_105 : decode cX12_layShortest 105 = .ok (.aload_n 0, 1) := by decide +kernel
theorem dX12_layShortest_106 : decode cX12_layShortest 106 = .ok (.dup, 1) := by decide +kernel
theorem dX12_layShortest_107 : decode cX12_layShortest 107 = .ok (.getfield 378, 3) := by decide +kernel
theorem dX12_layShortest_110 : decode cX12_layShortest 110 = .ok (.iconst 1, 1) := by decide +kernel
theorem dX12_layShortest_111 : decode cX12_layShortest 111 = .ok (.iadd, 1) := by decide +kernel
theorem dX12_layShortest_112 : decode cX12_layShortest 112 = .ok (.putfield 378, 3) := by decide +kernel
theorem dX12_layShortest_115 : decode cX12_layShortest 115 = .ok (.goto (-50), 3) := by decide +kernel
theorem dX12_layShortest_118 : decode cX12_layShortest 118 = .ok (.return_, 1) := by decide +kernel
theorem dX12_shortest_0 : decode cX12_shortest 0 = .ok (.aload_n 0, 1) := by decide +kernel
theorem dX12_shortest_1 : decode cX12_shortest 1 = .ok (.invokevirtual 420, 3) := by decide +kernel
theorem dX12_shortest_4 : decode cX12_shortest 4 = .ok (.aload_n 0, 1) := by decide +kernel
theorem dX12_shortest_5 : decode cX12_shortest 5 = .ok (.iload_n 1, 1) := by decide +kernel
theorem dX12_shortest_6 : decode cX12_shortest 6 = .ok (.iload_n 2, 1) := by decide +kernel
theorem dX12_shortest_7 : decode cX12_shortest 7 = .ok (.invokevirtual 387, 3) := by decide +kernel
theorem dX12_shortest_10 : decode cX12_shortest 10 = .ok (.ireturn, 1) := by decide +kernel
theorem dX12_detour_0 : decode cX12_detour 0 = .ok (.aload_n 0, 1) := by decide +kernel
theorem dX12_detour_1 : decode cX12_detour 1 = .ok (.getfield 8, 3) := by decide +kernel
theorem dX12_detour_4 : decode cX12_detour 4 = .ok (.iconst 5, 1) := by decide +kernel
theorem dX12_detour_5 : decode cX12_detour 5 = .ok (.iaload, 1) := by decide +kernel
theorem dX12_detour_6 : decode cX12_detour 6 = .ok (.iconst 4, 1) := by decide +kernel
theorem dX12_detour_7 : decode cX12_detour 7 = .ok (.if_icmp .eq 5, 3) := by decide +kernel
theorem dX12_detour_10 : decode cX12_detour 10 = .ok (.iconst (-1), 1) := by decide +kernel
theorem dX12_detour_11 : decode cX12_detour 11 = .ok (.ireturn, 1) := by decide +kernel
theorem dX12_detour_12 : decode cX12_detour 12 = .ok (.aload_n 0, 1) := by decide +kernel
theorem dX12_detour_13 : decode cX12_detour 13 = .ok (.invokevirtual 384, 3) := by decide +kernel
theorem dX12_detour_16 : decode cX12_detour 16 = .ok (.aload_n 0, 1) := by decide +kernel
theorem dX12_detour_17 : decode cX12_detour 17 = .ok (.getfield 378, 3) := by decide +kernel
theorem dX12_detour_20 : decode cX12_detour 20 = .ok (.istore_n 1, 1) := by decide +kernel
theorem dX12_detour_21 : decode cX12_detour 21 = .ok (.aload_n 0, 1) := by decide +kernel
theorem dX12_detour_22 : decode cX12_detour 22 = .ok (.invokevirtual 420, 3) := by decide +kernel
theorem dX12_detour_25 : decode cX12_detour 25 = .ok (.iload_n 1, 1) := by decide +kernel
theorem dX12_detour_26 : decode cX12_detour 26 = .ok (.aload_n 0, 1) := by decide +kernel
theorem dX12_detour_27 : decode cX12_detour 27 = .ok (.getfield 378, 3) := by decide +kernel
theorem dX12_detour_30 : decode cX12_detour 30 = .ok (.isub, 1) := by decide +kernel
theorem dX12_detour_31 : decode cX12_detour 31 = .ok (.ireturn, 1) := by decide +kernel
theorem dX12_ofClaim_0 : decode cX12_ofClaim 0 = .ok (.iload_n 2, 1) := by decide +kernel
theorem dX12_ofClaim_1 : decode cX12_ofClaim 1 = .ok (.ifCond .ne 18, 3) := by decide +kernel
theorem dX12_ofClaim_4 : decode cX12_ofClaim 4 = .ok (.aload_n 0, 1) := by decide +kernel
theorem dX12_ofClaim_5 : decode cX12_ofClaim 5 = .ok (.getfield 8, 3) := by decide +kernel
theorem dX12_ofClaim_8 : decode cX12_ofClaim 8 = .ok (.bipush 92, 2) := by decide +kernel
theorem dX12_ofClaim_10 : decode cX12_ofClaim 10 = .ok (.iload_n 1, 1) := by decide +kernel
theorem dX12_ofClaim_11 : decode cX12_ofClaim 11 = .ok (.iadd, 1) := by decide +kernel
theorem dX12_ofClaim_12 : decode cX12_ofClaim 12 = .ok (.iaload, 1) := by decide +kernel
theorem dX12_ofClaim_13 : decode cX12_ofClaim 13 = .ok (.bipush 6, 2) := by decide +kernel
theorem dX12_ofClaim_15 : decode cX12_ofClaim 15 = .ok (.ishr, 1) := by decide +kernel
theorem dX12_ofClaim_16 : decode cX12_ofClaim 16 = .ok (.goto 15, 3) := by decide +kernel
theorem dX12_ofClaim_19 : decode cX12_ofClaim 19 = .ok (.aload_n 0, 1) := by decide +kernel
theorem dX12_ofClaim_20 : decode cX12_ofClaim 20 = .ok (.getfield 8, 3) := by decide +kernel
theorem dX12_ofClaim_23 : decode cX12_ofClaim 23 = .ok (.bipush 92, 2) := by decide +kernel
theorem dX12_ofClaim_25 : decode cX12_ofClaim 25 = .ok (.iload_n 1, 1) := by decide +kernel
theorem dX12_ofClaim_26 : decode cX12_ofClaim 26 = .ok (.iadd, 1) := by decide +kernel
theorem dX12_ofClaim_27 : decode cX12_ofClaim 27 = .ok (.iaload, 1) := by decide +kernel
theorem dX12_ofClaim_28 : decode cX12_ofClaim 28 = .ok (.bipush 63, 2) := by decide +kernel
theorem dX12_ofClaim_30 : decode cX12_ofClaim 30 = .ok (.iand, 1) := by decide +kernel
theorem dX12_ofClaim_31 : decode cX12_ofClaim 31 = .ok (.ireturn, 1) := by decide +kernel
theorem dX12_layClaims_0 : decode cX12_layClaims 0 = .ok (.aload_n 0, 1) := by decide +kernel
theorem dX12_layClaims_1 : decode cX12_layClaims 1 = .ok (.iconst 0, 1) := by decide +kernel
theorem dX12_layClaims_2 : decode cX12_layClaims 2 = .ok (.putfield 390, 3) := by decide +kernel
theorem dX12_layClaims_5 : decode cX12_layClaims 5 = .ok (.iconst 0, 1) := by decide +kernel
theorem dX12_layClaims_6 : decode cX12_layClaims 6 = .ok (.istore_n 1, 1) := by decide +kernel
theorem dX12_layClaims_7 : decode cX12_layClaims 7 = .ok (.iload_n 1, 1) := by decide +kernel
theorem dX12_layClaims_8 : decode cX12_layClaims 8 = .ok (.aload_n 0, 1) := by decide +kernel
theorem dX12_layClaims_9 : decode cX12_layClaims 9 = .ok (.getfield 8, 3) := by decide +kernel
theorem dX12_layClaims_12 : decode cX12_layClaims 12 = .ok (.bipush 16, 2) := by decide +kernel
theorem dX12_layClaims_14 : decode cX12_layClaims 14 = .ok (.iaload, 1) := by decide +kernel
theorem dX12_layClaims_15 : decode cX12_layClaims 15 = .ok (.if_icmp .ge 25, 3) := by decide +kernel
theorem dX12_layClaims_18 : decode cX12_layClaims 18 = .ok (.aload_n 0, 1) := by decide +kernel
theorem dX12_layClaims_19 : decode cX12_layClaims 19 = .ok (.aload_n 0, 1) := by decide +kernel
theorem dX12_layClaims_20 : decode cX12_layClaims 20 = .ok (.iload_n 1, 1) := by decide +kernel
theorem dX12_layClaims_21 : decode cX12_layClaims 21 = .ok (.iconst 0, 1) := by decide +kernel
theorem dX12_layClaims_22 : decode cX12_layClaims 22 = .ok (.invokevirtual 423, 3) := by decide +kernel
theorem dX12_layClaims_25 : decode cX12_layClaims 25 = .ok (.aload_n 0, 1) := by decide +kernel
theorem dX12_layClaims_26 : decode cX12_layClaims 26 = .ok (.iload_n 1, 1) := by decide +kernel
theorem dX12_layClaims_27 : decode cX12_layClaims 27 = .ok (.iconst 1, 1) := by decide +kernel
theorem dX12_layClaims_28 : decode cX12_layClaims 28 = .ok (.invokevirtual 423, 3) := by decide +kernel
theorem dX12_layClaims_31 : decode cX12_layClaims 31 = .ok (.invokevirtual 393, 3) := by decide +kernel
theorem dX12_layClaims_34 : decode cX12_layClaims 34 = .ok (.iinc 1 1, 3) := by decide +kernel
theorem dX12_layClaims_37 : decode cX12_layClaims 37 = .ok (.goto (-30), 3) := by decide +kernel
theorem dX12_layClaims_40 : decode cX12_layClaims 40 = .ok (.return_, 1) := by decide +kernel
theorem dX12_isLaid_0 : decode cX12_isLaid 0 = .ok (.aload_n 0, 1) := by decide +kernel
theorem dX12_isLaid_1 : decode cX12_isLaid 1 = .ok (.iconst 0, 1) := by decide +kernel
theorem dX12_isLaid_2 : decode cX12_isLaid 2 = .ok (.putfield 390, 3) := by decide +kernel
theorem dX12_isLaid_5 : decode cX12_isLaid 5 = .ok (.iload_n 1, 1) := by decide +kernel
theorem dX12_isLaid_6 : decode cX12_isLaid 6 = .ok (.ifCond .ne 10, 3) := by decide +kernel
theorem dX12_isLaid_9 : decode cX12_isLaid 9 = .ok (.aload_n 0, 1) := by decide +kernel
theorem dX12_isLaid_10 : decode cX12_isLaid 10 = .ok (.invokevirtual 426, 3) := by decide +kernel
theorem dX12_isLaid_13 : decode cX12_isLaid 13 = .ok (.goto 12, 3) := by decide +kernel
theorem dX12_isLaid_16 : decode cX12_isLaid 16 = .ok (.iload_n 1, 1) := by decide +kernel
theorem dX12_isLaid_17 : decode cX12_isLaid 17 = .ok (.iconst 1, 1) := by decide +kernel
theorem dX12_isLaid_18 : decode cX12_isLaid 18 = .ok (.if_icmp .ne 7, 3) := by decide +kernel
theorem dX12_isLaid_21 : decode cX12_isLaid 21 = .ok (.aload_n 0, 1) := by decide +kernel
theorem dX12_isLaid_22 : decode cX12_isLaid 22 = .ok (.invokevirtual 397, 3) := by decide +kernel
theorem dX12_isLaid_25 : decode cX12_isLaid 25 = .ok (.iconst 0, 1) := by decide +kernel
theorem dX12_isLaid_26 : decode cX12_isLaid 26 = .ok (.istore_n 2, 1) := by decide +kernel
theorem dX12_isLaid_27 : decode cX12_isLaid 27 = .ok (.iload_n 2, 1) := by decide +kernel
theorem dX12_isLaid_28 : decode cX12_isLaid 28 = .ok (.aload_n 0, 1) := by decide +kernel
theorem dX12_isLaid_29 : decode cX12_isLaid 29 = .ok (.getfield 8, 3) := by decide +kernel
theorem dX12_isLaid_32 : decode cX12_isLaid 32 = .ok (.bipush 17, 2) := by decide +kernel
theorem dX12_isLaid_34 : decode cX12_isLaid 34 = .ok (.iaload, 1) := by decide +kernel
theorem dX12_isLaid_35 : decode cX12_isLaid 35 = .ok (.if_icmp .ge 28, 3) := by decide +kernel
theorem dX12_isLaid_38 : decode cX12_isLaid 38 = .ok (.iload_n 1, 1) := by decide +kernel
theorem dX12_isLaid_39 : decode cX12_isLaid 39 = .ok (.iconst 2, 1) := by decide +kernel
theorem dX12_isLaid_40 : decode cX12_isLaid 40 = .ok (.if_icmp .ne 23, 3) := by decide +kernel
theorem dX12_isLaid_43 : decode cX12_isLaid 43 = .ok (.aload_n 0, 1) := by decide +kernel
theorem dX12_isLaid_44 : decode cX12_isLaid 44 = .ok (.aload_n 0, 1) := by decide +kernel
theorem dX12_isLaid_45 : decode cX12_isLaid 45 = .ok (.iload_n 2, 1) := by decide +kernel
theorem dX12_isLaid_46 : decode cX12_isLaid 46 = .ok (.invokevirtual 246, 3) := by decide +kernel
theorem dX12_isLaid_49 : decode cX12_isLaid 49 = .ok (.aload_n 0, 1) := by decide +kernel
theorem dX12_isLaid_50 : decode cX12_isLaid 50 = .ok (.iload_n 2, 1) := by decide +kernel
theorem dX12_isLaid_51 : decode cX12_isLaid 51 = .ok (.invokevirtual 249, 3) := by decide +kernel
theorem dX12_isLaid_54 : decode cX12_isLaid 54 = .ok (.invokevirtual 393, 3) := by decide +kernel
theorem dX12_isLaid_57 : decode cX12_isLaid 57 = .ok (.iinc 2 1, 3) := by decide +kernel
theorem dX12_isLaid_60 : decode cX12_isLaid 60 = .ok (.goto (-33), 3) := by decide +kernel
theorem dX12_isLaid_63 : decode cX12_isLaid 63 = .ok (.iload_n 1, 1) := by decide +kernel
theorem dX12_isLaid_64 : decode cX12_isLaid 64 = .ok (.ifCond .eq 23, 3) := by decide +kernel
theorem dX12_isLaid_67 : decode cX12_isLaid 67 = .ok (.iload_n 1, 1) := by decide +kernel
theorem dX12_isLaid_68 : decode cX12_isLaid 68 = .ok (.iconst 2, 1) := by decide +kernel
theorem dX12_isLaid_69 : decode cX12_isLaid 69 = .ok (.if_icmp .eq 18, 3) := by decide +kernel
theorem dX12_isLaid_72 : decode cX12_isLaid 72 = .ok (.iload_n 1, 1) := by decide +kernel
theorem dX12_isLaid_73 : decode cX12_isLaid 73 = .ok (.iconst 1, 1) := by decide +kernel
theorem dX12_isLaid_74 : decode cX12_isLaid 74 = .ok (.if_icmp .ne 17, 3) := by decide +kernel
theorem dX12_isLaid_77 : decode cX12_isLaid 77 = .ok (.aload_n 0, 1) := by decide +kernel
theorem dX12_isLaid_78 : decode cX12_isLaid 78 = .ok (.getfield 8, 3) := by decide +kernel
theorem dX12_isLaid_81 : decode cX12_isLaid 81 = .ok (.iconst 5, 1) := by decide +kernel
theorem dX12_isLaid_82 : decode cX12_isLaid 82 = .ok (.iaload, 1) := by decide +kernel
theorem dX12_isLaid_83 : decode cX12_isLaid 83 = .ok (.iconst 3, 1) := by decide +kernel
theorem dX12_isLaid_84 : decode cX12_isLaid 84 = .ok (.if_icmp .ne 7, 3) := by decide +kernel
theorem dX12_isLaid_87 : decode cX12_isLaid 87 = .ok (.iconst 1, 1) := by decide +kernel
theorem dX12_isLaid_88 : decode cX12_isLaid 88 = .ok (.goto 4, 3) := by decide +kernel
theorem dX12_isLaid_91 : decode cX12_isLaid 91 = .ok (.iconst 0, 1) := by decide +kernel
theorem dX12_isLaid_92 : decode cX12_isLaid 92 = .ok (.ireturn, 1) := by decide +kernel
theorem dX12_barredBy_0 : decode cX12_barredBy 0 = .ok (.aload_n 0, 1) := by decide +kernel
theorem dX12_barredBy_1 : decode cX12_barredBy 1 = .ok (.aload_n 0, 1) := by decide +kernel
theorem dX12_barredBy_2 : decode cX12_barredBy 2 = .ok (.getfield 62, 3) := by decide +kernel
theorem dX12_barredBy_5 : decode cX12_barredBy 5 = .ok (.iload_n 1, 1) := by decide +kernel
theorem dX12_barredBy_6 : decode cX12_barredBy 6 = .ok (.iaload, 1) := by decide +kernel
theorem dX12_barredBy_7 : decode cX12_barredBy 7 = .ok (.aload_n 0, 1) := by decide +kernel
theorem dX12_barredBy_8 : decode cX12_barredBy 8 = .ok (.getfield 65, 3) := by decide +kernel
theorem dX12_barredBy_11 : decode cX12_barredBy 11 = .ok (.iload_n 1, 1) := by decide +kernel
theorem dX12_barredBy_12 : decode cX12_barredBy 12 = .ok (.iaload, 1) := by decide +kernel
theorem dX12_barredBy_13 : decode cX12_barredBy 13 = .ok (.invokevirtual 252, 3) := by decide +kernel
theorem dX12_barredBy_16 : decode cX12_barredBy 16 = .ok (.lreturn, 1) := by decide +kernel
theorem dX12_barredAll_0 : decode cX12_barredAll 0 = .ok (.lconst 0, 1) := by decide +kernel
theorem dX12_barredAll_1 : decode cX12_barredAll 1 = .ok (.lstore_n 1, 1) := by decide +kernel
theorem dX12_barredAll_2 : decode cX12_barredAll 2 = .ok (.iconst 0, 1) := by decide +kernel
theorem dX12_barredAll_3 : decode cX12_barredAll 3 = .ok (.istore_n 3, 1) := by decide +kernel
theorem dX12_barredAll_4 : decode cX12_barredAll 4 = .ok (.iload_n 3, 1) := by decide +kernel
theorem dX12_barredAll_5 : decode cX12_barredAll 5 = .ok (.aload_n 0, 1) := by decide +kernel
theorem dX12_barredAll_6 : decode cX12_barredAll 6 = .ok (.getfield 390, 3) := by decide +kernel
theorem dX12_barredAll_9 : decode cX12_barredAll 9 = .ok (.if_icmp .ge 17, 3) := by decide +kernel
theorem dX12_barredAll_12 : decode cX12_barredAll 12 = .ok (.lload_n 1, 1) := by decide +kernel
theorem dX12_barredAll_13 : decode cX12_barredAll 13 = .ok (.aload_n 0, 1) := by decide +kernel
theorem dX12_barredAll_14 : decode cX12_barredAll 14 = .ok (.iload_n 3, 1) := by decide +kernel
theorem dX12_barredAll_15 : decode cX12_barredAll 15 = .ok (.invokevirtual 429, 3) := by decide +kernel
theorem dX12_barredAll_18 : decode cX12_barredAll 18 = .ok (.lor, 1) := by decide +kernel
theorem dX12_barredAll_19 : decode cX12_barredAll 19 = .ok (.lstore_n 1, 1) := by decide +kernel
theorem dX12_barredAll_20 : decode cX12_barredAll 20 = .ok (.iinc 3 1, 3) := by decide +kernel
theorem dX12_barredAll_23 : decode cX12_barredAll 23 = .ok (.goto (-19), 3) := by decide +kernel
theorem dX12_barredAll_26 : decode cX12_barredAll 26 = .ok (.lload_n 1, 1) := by decide +kernel
theorem dX12_barredAll_27 : decode cX12_barredAll 27 = .ok (.lreturn, 1) := by decide +kernel
theorem dX12_leadIn_0 : decode cX12_leadIn 0 = .ok (.iconst 0, 1) := by decide +kernel
theorem dX12_leadIn_1 : decode cX12_leadIn 1 = .ok (.istore_n 3, 1) := by decide +kernel
theorem dX12_leadIn_2 : decode cX12_leadIn 2 = .ok (.iload_n 3, 1) := by decide +kernel
theorem dX12_leadIn_3 : decode cX12_leadIn 3 = .ok (.aload_n 0, 1) := by decide +kernel
theorem dX12_leadIn_4 : decode cX12_leadIn 4 = .ok (.invokevirtual 101, 3) := by decide +kernel
theorem dX12_leadIn_7 : decode cX12_leadIn 7 = .ok (.if_icmp .ge 31, 3) := by decide +kernel
theorem dX12_leadIn_10 : decode cX12_leadIn 10 = .ok (.lload_n 1, 1) := by decide +kernel
theorem dX12_leadIn_11 : decode cX12_leadIn 11 = .ok (.iload_n 3, 1) := by decide +kernel
theorem dX12_leadIn_12 : decode cX12_leadIn 12 = .ok (.invokestatic 86, 3) := by decide +kernel
theorem dX12_leadIn_15 : decode cX12_leadIn 15 = .ok (.ifCond .ne 17, 3) := by decide +kernel
theorem dX12_leadIn_18 : decode cX12_leadIn 18 = .ok (.aload_n 0, 1) := by decide +kernel
theorem dX12_leadIn_19 : decode cX12_leadIn 19 = .ok (.iload_n 3, 1) := by decide +kernel
theorem dX12_leadIn_20 : decode cX12_leadIn 20 = .ok (.invokevirtual 261, 3) := by decide +kernel
theorem dX12_leadIn_23 : decode cX12_leadIn 23 = .ok (.lload_n 1, 1) := by decide +kernel
theorem dX12_leadIn_24 : decode cX12_leadIn 24 = .ok (.land, 1) := by decide +kernel
theorem dX12_leadIn_25 : decode cX12_leadIn 25 = .ok (.lconst 0, 1) := by decide +kernel
theorem dX12_leadIn_26 : decode cX12_leadIn 26 = .ok (.lcmp, 1) := by decide +kernel
theorem dX12_leadIn_27 : decode cX12_leadIn 27 = .ok (.ifCond .eq 5, 3) := by decide +kernel
theorem dX12_leadIn_30 : decode cX12_leadIn 30 = .ok (.iload_n 3, 1) := by decide +kernel
theorem dX12_leadIn_31 : decode cX12_leadIn 31 = .ok (.ireturn, 1) := by decide +kernel
theorem dX12_leadIn_32 : decode cX12_leadIn 32 = .ok (.iinc 3 1, 3) := by decide +kernel
theorem dX12_leadIn_35 : decode cX12_leadIn 35 = .ok (.goto (-33), 3) := by decide +kernel
theorem dX12_leadIn_38 : decode cX12_leadIn 38 = .ok (.iconst (-1), 1) := by decide +kernel
theorem dX12_leadIn_39 : decode cX12_leadIn 39 = .ok (.ireturn, 1) := by decide +kernel
theorem dX12_judge_0 : decode cX12_judge 0 = .ok (.lload_n 1, 1) := by decide +kernel
theorem dX12_judge_1 : decode cX12_judge 1 = .ok (.aload_n 0, 1) := by decide +kernel
theorem dX12_judge_2 : decode cX12_judge 2 = .ok (.invokevirtual 255, 3) := by decide +kernel
theorem dX12_judge_5 : decode cX12_judge 5 = .ok (.land, 1) := by decide +kernel
theorem dX12_judge_6 : decode cX12_judge 6 = .ok (.lconst 0, 1) := by decide +kernel
theorem dX12_judge_7 : decode cX12_judge 7 = .ok (.lcmp, 1) := by decide +kernel
theorem dX12_judge_8 : decode cX12_judge 8 = .ok (.ifCond .eq 5, 3) := by decide +kernel
theorem dX12_judge_11 : decode cX12_judge 11 = .ok (.iconst 1, 1) := by decide +kernel
theorem dX12_judge_12 : decode cX12_judge 12 = .ok (.ireturn, 1) := by decide +kernel
theorem dX12_judge_13 : decode cX12_judge 13 = .ok (.aload_n 0, 1) := by decide +kernel
theorem dX12_judge_14 : decode cX12_judge 14 = .ok (.lload_n 1, 1) := by decide +kernel
theorem dX12_judge_15 : decode cX12_judge 15 = .ok (.invokevirtual 432, 3) := by decide +kernel
theorem dX12_judge_18 : decode cX12_judge 18 = .ok (.iconst (-1), 1) := by decide +kernel
theorem dX12_judge_19 : decode cX12_judge 19 = .ok (.if_icmp .eq 5, 3) := by decide +kernel
theorem dX12_judge_22 : decode cX12_judge 22 = .ok (.iconst 2, 1) := by decide +kernel
theorem dX12_judge_23 : decode cX12_judge 23 = .ok (.ireturn, 1) := by decide +kernel
theorem dX12_judge_24 : decode cX12_judge 24 = .ok (.aload_n 0, 1) := by decide +kernel
theorem dX12_judge_25 : decode cX12_judge 25 = .ok (.invokevirtual 300, 3) := by decide +kernel
theorem dX12_judge_28 : decode cX12_judge 28 = .ok (.lload_n 1, 1) := by decide +kernel
theorem dX12_judge_29 : decode cX12_judge 29 = .ok (.ldc2_w 92, 3) := by decide +kernel
theorem dX12_judge_32 : decode cX12_judge 32 = .ok (.lxor, 1) := by decide +kernel
theorem dX12_judge_33 : decode cX12_judge 33 = .ok (.land, 1) := by decide +kernel
theorem dX12_judge_34 : decode cX12_judge 34 = .ok (.lconst 0, 1) := by decide +kernel
theorem dX12_judge_35 : decode cX12_judge 35 = .ok (.lcmp, 1) := by decide +kernel
theorem dX12_judge_36 : decode cX12_judge 36 = .ok (.ifCond .eq 7, 3) := by decide +kernel
theorem dX12_judge_39 : decode cX12_judge 39 = .ok (.iconst 3, 1) := by decide +kernel
theorem dX12_judge_40 : decode cX12_judge 40 = .ok (.goto 4, 3) := by decide +kernel
theorem dX12_judge_43 : decode cX12_judge 43 = .ok (.iconst 0, 1) := by decide +kernel
theorem dX12_judge_44 : decode cX12_judge 44 = .ok (.ireturn, 1) := by decide +kernel
theorem dX12_claim_0 : decode cX12_claim 0 = .ok (.aload_n 0, 1) := by decide +kernel
theorem dX12_claim_1 : decode cX12_claim 1 = .ok (.iload_n 1, 1) := by decide +kernel
theorem dX12_claim_2 : decode cX12_claim 2 = .ok (.iload_n 2, 1) := by decide +kernel
theorem dX12_claim_3 : decode cX12_claim 3 = .ok (.invokevirtual 357, 3) := by decide +kernel
theorem dX12_claim_6 : decode cX12_claim 6 = .ok (.ifCond .eq 15, 3) := by decide +kernel
theorem dX12_claim_9 : decode cX12_claim 9 = .ok (.aload_n 0, 1) := by decide +kernel
theorem dX12_claim_10 : decode cX12_claim 10 = .ok (.getfield 8, 3) := by decide +kernel
theorem dX12_claim_13 : decode cX12_claim 13 = .ok (.bipush 16, 2) := by decide +kernel
theorem dX12_claim_15 : decode cX12_claim 15 = .ok (.iaload, 1) := by decide +kernel
theorem dX12_claim_16 : decode cX12_claim 16 = .ok (.bipush 12, 2) := by decide +kernel
theorem dX12_claim_18 : decode cX12_claim 18 = .ok (.if_icmp .ne 5, 3) := by decide +kernel
theorem dX12_claim_21 : decode cX12_claim 21 = .ok (.iconst (-1), 1) := by decide +kernel
theorem dX12_claim_22 : decode cX12_claim 22 = .ok (.ireturn, 1) := by decide +kernel
theorem dX12_claim_23 : decode cX12_claim 23 = .ok (.aload_n 0, 1) := by decide +kernel
theorem dX12_claim_24 : decode cX12_claim 24 = .ok (.invokevirtual 234, 3) := by decide +kernel
theorem dX12_claim_27 : decode cX12_claim 27 = .ok (.aload_n 0, 1) := by decide +kernel
theorem dX12_claim_28 : decode cX12_claim 28 = .ok (.getfield 8, 3) := by decide +kernel
theorem dX12_claim_31 : decode cX12_claim 31 = .ok (.bipush 92, 2) := by decide +kernel
theorem dX12_claim_33 : decode cX12_claim 33 = .ok (.aload_n 0, 1) := by decide +kernel
theorem dX12_claim_34 : decode cX12_claim 34 = .ok (.getfield 8, 3) := by decide +kernel
theorem dX12_claim_37 : decode cX12_claim 37 = .ok (.bipush 16, 2) := by decide +kernel
theorem dX12_claim_39 : decode cX12_claim 39 = .ok (.iaload, 1) := by decide +kernel
theorem dX12_claim_40 : decode cX12_claim 40 = .ok (.iadd, 1) := by decide +kernel
theorem dX12_claim_41 : decode cX12_claim 41 = .ok (.iload_n 1, 1) := by decide +kernel
theorem dX12_claim_42 : decode cX12_claim 42 = .ok (.bipush 6, 2) := by decide +kernel
theorem dX12_claim_44 : decode cX12_claim 44 = .ok (.ishl, 1) := by decide +kernel
theorem dX12_claim_45 : decode cX12_claim 45 = .ok (.iload_n 2, 1) := by decide +kernel
theorem dX12_claim_46 : decode cX12_claim 46 = .ok (.ior, 1) := by decide +kernel
theorem dX12_claim_47 : decode cX12_claim 47 = .ok (.iastore, 1) := by decide +kernel
theorem dX12_claim_48 : decode cX12_claim 48 = .ok (.aload_n 0, 1) := by decide +kernel
theorem dX12_claim_49 : decode cX12_claim 49 = .ok (.getfield 8, 3) := by decide +kernel
theorem dX12_claim_52 : decode cX12_claim 52 = .ok (.bipush 16, 2) := by decide +kernel
theorem dX12_claim_54 : decode cX12_claim 54 = .ok (.dup2, 1) := by decide +kernel
theorem dX12_claim_55 : decode cX12_claim 55 = .ok (.iaload, 1) := by decide +kernel
theorem dX12_claim_56 : decode cX12_claim 56 = .ok (.iconst 1, 1) := by decide +kernel
theorem dX12_claim_57 : decode cX12_claim 57 = .ok (.iadd, 1) := by decide +kernel
theorem dX12_claim_58 : decode cX12_claim 58 = .ok (.iastore, 1) := by decide +kernel
theorem dX12_claim_59 : decode cX12_claim 59 = .ok (.aload_n 0, 1) := by decide +kernel
theorem dX12_claim_60 : decode cX12_claim 60 = .ok (.getfield 8, 3) := by decide +kernel
theorem dX12_claim_63 : decode cX12_claim 63 = .ok (.bipush 16, 2) := by decide +kernel
theorem dX12_claim_65 : decode cX12_claim 65 = .ok (.iaload, 1) := by decide +kernel
theorem dX12_claim_66 : decode cX12_claim 66 = .ok (.ireturn, 1) := by decide +kernel
theorem dX12_adopt_0 : decode cX12_adopt 0 = .ok (.aload_n 0, 1) := by decide +kernel
theorem dX12_adopt_1 : decode cX12_adopt 1 = .ok (.invokevirtual 397, 3) := by decide +kernel
theorem dX12_adopt_4 : decode cX12_adopt 4 = .ok (.aload_n 0, 1) := by decide +kernel
theorem dX12_adopt_5 : decode cX12_adopt 5 = .ok (.getfield 8, 3) := by decide +kernel
theorem dX12_adopt_8 : decode cX12_adopt 8 = .ok (.iconst 5, 1) := by decide +kernel
theorem dX12_adopt_9 : decode cX12_adopt 9 = .ok (.iaload, 1) := by decide +kernel
theorem dX12_adopt_10 : decode cX12_adopt 10 = .ok (.iconst 3, 1) := by decide +kernel
theorem dX12_adopt_11 : decode cX12_adopt 11 = .ok (.if_icmp .ne 12, 3) := by decide +kernel
theorem dX12_adopt_14 : decode cX12_adopt 14 = .ok (.aload_n 0, 1) := by decide +kernel
theorem dX12_adopt_15 : decode cX12_adopt 15 = .ok (.getfield 390, 3) := by decide +kernel
theorem dX12_adopt_18 : decode cX12_adopt 18 = .ok (.bipush 12, 2) := by decide +kernel
theorem dX12_adopt_20 : decode cX12_adopt 20 = .ok (.if_icmp .le 5, 3) := by decide +kernel
theorem dX12_adopt_23 : decode cX12_adopt 23 = .ok (.iconst (-1), 1) := by decide +kernel
theorem dX12_adopt_24 : decode cX12_adopt 24 = .ok (.ireturn, 1) := by decide +kernel
theorem dX12_adopt_25 : decode cX12_adopt 25 = .ok (.aload_n 0, 1) := by decide +kernel
theorem dX12_adopt_26 : decode cX12_adopt 26 = .ok (.invokevirtual 234, 3) := by decide +kernel
theorem dX12_adopt_29 : decode cX12_adopt 29 = .ok (.iconst 0, 1) := by decide +kernel
theorem dX12_adopt_30 : decode cX12_adopt 30 = .ok (.istore_n 1, 1) := by decide +kernel
theorem dX12_adopt_31 : decode cX12_adopt 31 = .ok (.iload_n 1, 1) := by decide +kernel
theorem dX12_adopt_32 : decode cX12_adopt 32 = .ok (.aload_n 0, 1) := by decide +kernel
theorem dX12_adopt_33 : decode cX12_adopt 33 = .ok (.getfield 390, 3) := by decide +kernel
theorem dX12_adopt_36 : decode cX12_adopt 36 = .ok (.if_icmp .ge 34, 3) := by decide +kernel
theorem dX12_adopt_39 : decode cX12_adopt 39 = .ok (.aload_n 0, 1) := by decide +kernel
theorem dX12_adopt_40 : decode cX12_adopt 40 = .ok (.getfield 8, 3) := by decide +kernel
theorem dX12_adopt_43 : decode cX12_adopt 43 = .ok (.bipush 92, 2) := by decide +kernel
theorem dX12_adopt_45 : decode cX12_adopt 45 = .ok (.iload_n 1, 1) := by decide +kernel
theorem dX12_adopt_46 : decode cX12_adopt 46 = .ok (.iadd, 1) := by decide +kernel
theorem dX12_adopt_47 : decode cX12_adopt 47 = .ok (.aload_n 0, 1) := by decide +kernel
theorem dX12_adopt_48 : decode cX12_adopt 48 = .ok (.getfield 62, 3) := by decide +kernel
theorem dX12_adopt_51 : decode cX12_adopt 51 = .ok (.iload_n 1, 1) := by decide +kernel
theorem dX12_adopt_52 : decode cX12_adopt 52 = .ok (.iaload, 1) := by decide +kernel
theorem dX12_adopt_53 : decode cX12_adopt 53 = .ok (.bipush 6, 2) := by decide +kernel
theorem dX12_adopt_55 : decode cX12_adopt 55 = .ok (.ishl, 1) := by decide +kernel
theorem dX12_adopt_56 : decode cX12_adopt 56 = .ok (.aload_n 0, 1) := by decide +kernel
theorem dX12_adopt_57 : decode cX12_adopt 57 = .ok (.getfield 65, 3) := by decide +kernel
theorem dX12_adopt_60 : decode cX12_adopt 60 = .ok (.iload_n 1, 1) := by decide +kernel
theorem dX12_adopt_61 : decode cX12_adopt 61 = .ok (.iaload, 1) := by decide +kernel
theorem dX12_adopt_62 : decode cX12_adopt 62 = .ok (.ior, 1) := by decide +kernel
theorem dX12_adopt_63 : decode cX12_adopt 63 = .ok (.iastore, 1) := by decide +kernel
theorem dX12_adopt_64 : decode cX12_adopt 64 = .ok (.iinc 1 1, 3) := by decide +kernel
theorem dX12_adopt_67 : decode cX12_adopt 67 = .ok (.goto (-36), 3) := by decide +kernel
theorem dX12_adopt_70 : decode cX12_adopt 70 = .ok (.aload_n 0, 1) := by decide +kernel
theorem dX12_adopt_71 : decode cX12_adopt 71 = .ok (.getfield 8, 3) := by decide +kernel
theorem dX12_adopt_74 : decode cX12_adopt 74 = .ok (.bipush 16, 2) := by decide +kernel
theorem dX12_adopt_76 : decode cX12_adopt 76 = .ok (.aload_n 0, 1) := by decide +kernel
theorem dX12_adopt_77 : decode cX12_adopt 77 = .ok (.getfield 390, 3) := by decide +kernel
theorem dX12_adopt_80 : decode cX12_adopt 80 = .ok (.iastore, 1) := by decide +kernel
theorem dX12_adopt_81 : decode cX12_adopt 81 = .ok (.aload_n 0, 1) := by decide +kernel
theorem dX12_adopt_82 : decode cX12_adopt 82 = .ok (.getfield 390, 3) := by decide +kernel
theorem dX12_adopt_85 : decode cX12_adopt 85 = .ok (.ireturn, 1) := by decide +kernel
theorem dX12_unclaim_0 : decode cX12_unclaim 0 = .ok (.iload_n 1, 1) := by decide +kernel
theorem dX12_unclaim_1 : decode cX12_unclaim 1 = .ok (.iconst 0, 1) := by decide +kernel
theorem dX12_unclaim_2 : decode cX12_unclaim 2 = .ok (.aload_n 0, 1) := by decide +kernel
theorem dX12_unclaim_3 : decode cX12_unclaim 3 = .ok (.getfield 8, 3) := by decide +kernel
theorem dX12_unclaim_6 : decode cX12_unclaim 6 = .ok (.bipush 16, 2) := by decide +kernel
theorem dX12_unclaim_8 : decode cX12_unclaim 8 = .ok (.iaload, 1) := by decide +kernel
theorem dX12_unclaim_9 : decode cX12_unclaim 9 = .ok (.iconst 1, 1) := by decide +kernel
theorem dX12_unclaim_10 : decode cX12_unclaim 10 = .ok (.isub, 1) := by decide +kernel
theorem dX12_unclaim_11 : decode cX12_unclaim 11 = .ok (.invokestatic 105, 3) := by decide +kernel
theorem dX12_unclaim_14 : decode cX12_unclaim 14 = .ok (.ifCond .ne 5, 3) := by decide +kernel
theorem dX12_unclaim_17 : decode cX12_unclaim 17 = .ok (.iconst (-1), 1) := by decide +kernel
theorem dX12_unclaim_18 : decode cX12_unclaim 18 = .ok (.ireturn, 1) := by decide +kernel
theorem dX12_unclaim_19 : decode cX12_unclaim 19 = .ok (.aload_n 0, 1) := by decide +kernel
theorem dX12_unclaim_20 : decode cX12_unclaim 20 = .ok (.invokevirtual 234, 3) := by decide +kernel
theorem dX12_unclaim_23 : decode cX12_unclaim 23 = .ok (.iload_n 1, 1) := by decide +kernel
theorem dX12_unclaim_24 : decode cX12_unclaim 24 = .ok (.istore_n 2, 1) := by decide +kernel
theorem dX12_unclaim_25 : decode cX12_unclaim 25 = .ok (.iload_n 2, 1) := by decide +kernel
theorem dX12_unclaim_26 : decode cX12_unclaim 26 = .ok (.aload_n 0, 1) := by decide +kernel
theorem dX12_unclaim_27 : decode cX12_unclaim 27 = .ok (.getfield 8, 3) := by decide +kernel
theorem dX12_unclaim_30 : decode cX12_unclaim 30 = .ok (.bipush 16, 2) := by decide +kernel
theorem dX12_unclaim_32 : decode cX12_unclaim 32 = .ok (.iaload, 1) := by decide +kernel
theorem dX12_unclaim_33 : decode cX12_unclaim 33 = .ok (.iconst 1, 1) := by decide +kernel
theorem dX12_unclaim_34 : decode cX12_unclaim 34 = .ok (.isub, 1) := by decide +kernel
theorem dX12_unclaim_35 : decode cX12_unclaim 35 = .ok (.if_icmp .ge 29, 3) := by decide +kernel
theorem dX12_unclaim_38 : decode cX12_unclaim 38 = .ok (.aload_n 0, 1) := by decide +kernel
theorem dX12_unclaim_39 : decode cX12_unclaim 39 = .ok (.getfield 8, 3) := by decide +kernel
theorem dX12_unclaim_42 : decode cX12_unclaim 42 = .ok (.bipush 92, 2) := by decide +kernel
theorem dX12_unclaim_44 : decode cX12_unclaim 44 = .ok (.iload_n 2, 1) := by decide +kernel
theorem dX12_unclaim_45 : decode cX12_unclaim 45 = .ok (.iadd, 1) := by decide +kernel
theorem dX12_unclaim_46 : decode cX12_unclaim 46 = .ok (.aload_n 0, 1) := by decide +kernel
theorem dX12_unclaim_47 : decode cX12_unclaim 47 = .ok (.getfield 8, 3) := by decide +kernel
theorem dX12_unclaim_50 : decode cX12_unclaim 50 = .ok (.bipush 92, 2) := by decide +kernel
theorem dX12_unclaim_52 : decode cX12_unclaim 52 = .ok (.iload_n 2, 1) := by decide +kernel
theorem dX12_unclaim_53 : decode cX12_unclaim 53 = .ok (.iadd, 1) := by decide +kernel
theorem dX12_unclaim_54 : decode cX12_unclaim 54 = .ok (.iconst 1, 1) := by decide +kernel
theorem dX12_unclaim_55 : decode cX12_unclaim 55 = .ok (.iadd, 1) := by decide +kernel
theorem dX12_unclaim_56 : decode cX12_unclaim 56 = .ok (.iaload, 1) := by decide +kernel
theorem dX12_unclaim_57 : decode cX12_unclaim 57 = .ok (.iastore, 1) := by decide +kernel
theorem dX12_unclaim_58 : decode cX12_unclaim 58 = .ok (.iinc 2 1, 3) := by decide +kernel
theorem dX12_unclaim_61 : decode cX12_unclaim 61 = .ok (.goto (-36), 3) := by decide +kernel
theorem dX12_unclaim_64 : decode cX12_unclaim 64 = .ok (.aload_n 0, 1) := by decide +kernel
theorem dX12_unclaim_65 : decode cX12_unclaim 65 = .ok (.getfield 8, 3) := by decide +kernel
theorem dX12_unclaim_68 : decode cX12_unclaim 68 = .ok (.bipush 16, 2) := by decide +kernel
theorem dX12_unclaim_70 : decode cX12_unclaim 70 = .ok (.dup2, 1) := by decide +kernel
theorem dX12_unclaim_71 : decode cX12_unclaim 71 = .ok (.iaload, 1) := by decide +kernel
theorem dX12_unclaim_72 : decode cX12_unclaim 72 = .ok (.iconst 1, 1) := by decide +kernel
theorem dX12_unclaim_73 : decode cX12_unclaim 73 = .ok (.isub, 1) := by decide +kernel
theorem dX12_unclaim_74 : decode cX12_unclaim 74 = .ok (.iastore, 1) := by decide +kernel
theorem dX12_unclaim_75 : decode cX12_unclaim 75 = .ok (.aload_n 0, 1) := by decide +kernel
theorem dX12_unclaim_76 : decode cX12_unclaim 76 = .ok (.getfield 8, 3) := by decide +kernel
theorem dX12_unclaim_79 : decode cX12_unclaim 79 = .ok (.bipush 16, 2) := by decide +kernel
theorem dX12_unclaim_81 : decode cX12_unclaim 81 = .ok (.iaload, 1) := by decide +kernel
theorem dX12_unclaim_82 : decode cX12_unclaim 82 = .ok (.ireturn, 1) := by decide +kernel
theorem dX12_loosen_0 : decode cX12_loosen 0 = .ok (.aload_n 0, 1) := by decide +kernel
theorem dX12_loosen_1 : decode cX12_loosen 1 = .ok (.invokevirtual 426, 3) := by decide +kernel
theorem dX12_loosen_4 : decode cX12_loosen 4 = .ok (.iload_n 1, 1) := by decide +kernel
theorem dX12_loosen_5 : decode cX12_loosen 5 = .ok (.iconst 0, 1) := by decide +kernel
theorem dX12_loosen_6 : decode cX12_loosen 6 = .ok (.aload_n 0, 1) := by decide +kernel
theorem dX12_loosen_7 : decode cX12_loosen 7 = .ok (.getfield 8, 3) := by decide +kernel
theorem dX12_loosen_10 : decode cX12_loosen 10 = .ok (.bipush 16, 2) := by decide +kernel
theorem dX12_loosen_12 : decode cX12_loosen 12 = .ok (.iaload, 1) := by decide +kernel
theorem dX12_loosen_13 : decode cX12_loosen 13 = .ok (.iconst 1, 1) := by decide +kernel
theorem dX12_loosen_14 : decode cX12_loosen 14 = .ok (.isub, 1) := by decide +kernel
theorem dX12_loosen_15 : decode cX12_loosen 15 = .ok (.invokestatic 105, 3) := by decide +kernel
theorem dX12_loosen_18 : decode cX12_loosen 18 = .ok (.ifCond .eq 14, 3) := by decide +kernel
theorem dX12_loosen_21 : decode cX12_loosen 21 = .ok (.aload_n 0, 1) := by decide +kernel
theorem dX12_loosen_22 : decode cX12_loosen 22 = .ok (.aload_n 0, 1) := by decide +kernel
theorem dX12_loosen_23 : decode cX12_loosen 23 = .ok (.invokevirtual 435, 3) := by decide +kernel
theorem dX12_loosen_26 : decode cX12_loosen 26 = .ok (.invokevirtual 438, 3) := by decide +kernel
theorem dX12_loosen_29 : decode cX12_loosen 29 = .ok (.ifCond .eq 5, 3) := by decide +kernel
theorem dX12_loosen_32 : decode cX12_loosen 32 = .ok (.iconst (-1), 1) := by decide +kernel
theorem dX12_loosen_33 : decode cX12_loosen 33 = .ok (.ireturn, 1) := by decide +kernel
theorem dX12_loosen_34 : decode cX12_loosen 34 = .ok (.aload_n 0, 1) := by decide +kernel
theorem dX12_loosen_35 : decode cX12_loosen 35 = .ok (.invokevirtual 234, 3) := by decide +kernel
theorem dX12_loosen_38 : decode cX12_loosen 38 = .ok (.aload_n 0, 1) := by decide +kernel
theorem dX12_loosen_39 : decode cX12_loosen 39 = .ok (.invokevirtual 285, 3) := by decide +kernel
theorem dX12_loosen_42 : decode cX12_loosen 42 = .ok (.iconst 0, 1) := by decide +kernel
theorem dX12_loosen_43 : decode cX12_loosen 43 = .ok (.istore_n 2, 1) := by decide +kernel
theorem dX12_loosen_44 : decode cX12_loosen 44 = .ok (.iload_n 2, 1) := by decide +kernel
theorem dX12_loosen_45 : decode cX12_loosen 45 = .ok (.aload_n 0, 1) := by decide +kernel
theorem dX12_loosen_46 : decode cX12_loosen 46 = .ok (.getfield 8, 3) := by decide +kernel
theorem dX12_loosen_49 : decode cX12_loosen 49 = .ok (.iconst 3, 1) := by decide +kernel
theorem dX12_loosen_50 : decode cX12_loosen 50 = .ok (.iaload, 1) := by decide +kernel
theorem dX12_loosen_51 : decode cX12_loosen 51 = .ok (.if_icmp .ge 87, 3) := by decide +kernel
theorem dX12_loosen_54 : decode cX12_loosen 54 = .ok (.aload_n 0, 1) := by decide +kernel
theorem dX12_loosen_55 : decode cX12_loosen 55 = .ok (.getfield 62, 3) := by decide +kernel
theorem dX12_loosen_58 : decode cX12_loosen 58 = .ok (.iload_n 1, 1) := by decide +kernel
theorem dX12_loosen_59 : decode cX12_loosen 59 = .ok (.iaload, 1) := by decide +kernel
theorem dX12_loosen_60 : decode cX12_loosen 60 = .ok (.istore_n 3, 1) := by decide +kernel
theorem dX12_loosen_61 : decode cX12_loosen 61 = .ok (.aload_n 0, 1) := by decide +kernel
theorem dX12_loosen_62 : decode cX12_loosen 62 = .ok (.getfield 65, 3) := by decide +kernel
theorem dX12_loosen_65 : decode cX12_loosen 65 = .ok (.iload_n 1, 1) := by decide +kernel
theorem dX12_loosen_66 : decode cX12_loosen 66 = .ok (.iaload, 1) := by decide +kernel
theorem dX12_loosen_67 : decode cX12_loosen 67 = .ok (.istore 4, 2) := by decide +kernel
theorem dX12_loosen_69 : decode cX12_loosen 69 = .ok (.aload_n 0, 1) := by decide +kernel
theorem dX12_loosen_70 : decode cX12_loosen 70 = .ok (.getfield 62, 3) := by decide +kernel
theorem dX12_loosen_73 : decode cX12_loosen 73 = .ok (.iload_n 1, 1) := by decide +kernel
theorem dX12_loosen_74 : decode cX12_loosen 74 = .ok (.dup2, 1) := by decide +kernel
theorem dX12_loosen_75 : decode cX12_loosen 75 = .ok (.iaload, 1) := by decide +kernel
theorem dX12_loosen_76 : decode cX12_loosen 76 = .ok (.iconst 1, 1) := by decide +kernel
theorem dX12_loosen_77 : decode cX12_loosen 77 = .ok (.aload_n 0, 1) := by decide +kernel
theorem dX12_loosen_78 : decode cX12_loosen 78 = .ok (.getfield 47, 3) := by decide +kernel
theorem dX12_loosen_81 : decode cX12_loosen 81 = .ok (.iload_n 2, 1) := by decide +kernel
theorem dX12_loosen_82 : decode cX12_loosen 82 = .ok (.iaload, 1) := by decide +kernel
theorem dX12_loosen_83 : decode cX12_loosen 83 = .ok (.ishl, 1) := by decide +kernel
theorem dX12_loosen_84 : decode cX12_loosen 84 = .ok (.iconst (-1), 1) := by decide +kernel
theorem dX12_loosen_85 : decode cX12_loosen 85 = .ok (.ixor, 1) := by decide +kernel
theorem dX12_loosen_86 : decode cX12_loosen 86 = .ok (.iand, 1) := by decide +kernel
theorem dX12_loosen_87 : decode cX12_loosen 87 = .ok (.iastore, 1) := by decide +kernel
theorem dX12_loosen_88 : decode cX12_loosen 88 = .ok (.aload_n 0, 1) := by decide +kernel
theorem dX12_loosen_89 : decode cX12_loosen 89 = .ok (.getfield 65, 3) := by decide +kernel
theorem dX12_loosen_92 : decode cX12_loosen 92 = .ok (.iload_n 1, 1) := by decide +kernel
theorem dX12_loosen_93 : decode cX12_loosen 93 = .ok (.dup2, 1) := by decide +kernel
theorem dX12_loosen_94 : decode cX12_loosen 94 = .ok (.iaload, 1) := by decide +kernel
theorem dX12_loosen_95 : decode cX12_loosen 95 = .ok (.aload_n 0, 1) := by decide +kernel
theorem dX12_loosen_96 : decode cX12_loosen 96 = .ok (.getfield 62, 3) := by decide +kernel
theorem dX12_loosen_99 : decode cX12_loosen 99 = .ok (.iload_n 1, 1) := by decide +kernel
theorem dX12_loosen_100 : decode cX12_loosen 100 = .ok (.iaload, 1) := by decide +kernel
theorem dX12_loosen_101 : decode cX12_loosen 101 = .ok (.iand, 1) := by decide +kernel
theorem dX12_loosen_102 : decode cX12_loosen 102 = .ok (.iastore, 1) := by decide +kernel
theorem dX12_loosen_103 : decode cX12_loosen 103 = .ok (.aload_n 0, 1) := by decide +kernel
theorem dX12_loosen_104 : decode cX12_loosen 104 = .ok (.aload_n 0, 1) := by decide +kernel
theorem dX12_loosen_105 : decode cX12_loosen 105 = .ok (.invokevirtual 435, 3) := by decide +kernel
theorem dX12_loosen_108 : decode cX12_loosen 108 = .ok (.invokevirtual 438, 3) := by decide +kernel
theorem dX12_loosen_111 : decode cX12_loosen 111 = .ok (.ifCond .ne 6, 3) := by decide +kernel
theorem dX12_loosen_114 : decode cX12_loosen 114 = .ok (.goto 18, 3) := by decide +kernel
theorem dX12_loosen_117 : decode cX12_loosen 117 = .ok (.aload_n 0, 1) := by decide +kernel
theorem dX12_loosen_118 : decode cX12_loosen 118 = .ok (.getfield 62, 3) := by decide +kernel
theorem dX12_loosen_121 : decode cX12_loosen 121 = .ok (.iload_n 1, 1) := by decide +kernel
theorem dX12_loosen_122 : decode cX12_loosen 122 = .ok (.iload_n 3, 1) := by decide +kernel
theorem dX12_loosen_123 : decode cX12_loosen 123 = .ok (.iastore, 1) := by decide +kernel
theorem dX12_loosen_124 : decode cX12_loosen 124 = .ok (.aload_n 0, 1) := by decide +kernel
theorem dX12_loosen_125 : decode cX12_loosen 125 = .ok (.getfield 65, 3) := by decide +kernel
theorem dX12_loosen_128 : decode cX12_loosen 128 = .ok (.iload_n 1, 1) := by decide +kernel
theorem dX12_loosen_129 : decode cX12_loosen 129 = .ok (.iload 4, 2) := by decide +kernel
theorem dX12_loosen_131 : decode cX12_loosen 131 = .ok (.iastore, 1) := by decide +kernel
theorem dX12_loosen_132 : decode cX12_loosen 132 = .ok (.iinc 2 1, 3) := by decide +kernel
theorem dX12_loosen_135 : decode cX12_loosen 135 = .ok (.goto (-91), 3) := by decide +kernel
theorem dX12_loosen_138 : decode cX12_loosen 138 = .ok (.aload_n 0, 1) := by decide +kernel
theorem dX12_loosen_139 : decode cX12_loosen 139 = .ok (.getfield 8, 3) := by decide +kernel
theorem dX12_loosen_142 : decode cX12_loosen 142 = .ok (.bipush 92, 2) := by decide +kernel
theorem dX12_loosen_144 : decode cX12_loosen 144 = .ok (.iload_n 1, 1) := by decide +kernel
theorem dX12_loosen_145 : decode cX12_loosen 145 = .ok (.iadd, 1) := by decide +kernel
theorem dX12_loosen_146 : decode cX12_loosen 146 = .ok (.aload_n 0, 1) := by decide +kernel
theorem dX12_loosen_147 : decode cX12_loosen 147 = .ok (.getfield 62, 3) := by decide +kernel
theorem dX12_loosen_150 : decode cX12_loosen 150 = .ok (.iload_n 1, 1) := by decide +kernel
theorem dX12_loosen_151 : decode cX12_loosen 151 = .ok (.iaload, 1) := by decide +kernel
theorem dX12_loosen_152 : decode cX12_loosen 152 = .ok (.bipush 6, 2) := by decide +kernel
theorem dX12_loosen_154 : decode cX12_loosen 154 = .ok (.ishl, 1) := by decide +kernel
theorem dX12_loosen_155 : decode cX12_loosen 155 = .ok (.aload_n 0, 1) := by decide +kernel
theorem dX12_loosen_156 : decode cX12_loosen 156 = .ok (.getfield 65, 3) := by decide +kernel
theorem dX12_loosen_159 : decode cX12_loosen 159 = .ok (.iload_n 1, 1) := by decide +kernel
theorem dX12_loosen_160 : decode cX12_loosen 160 = .ok (.iaload, 1) := by decide +kernel
theorem dX12_loosen_161 : decode cX12_loosen 161 = .ok (.ior, 1) := by decide +kernel
theorem dX12_loosen_162 : decode cX12_loosen 162 = .ok (.iastore, 1) := by decide +kernel
theorem dX12_loosen_163 : decode cX12_loosen 163 = .ok (.aload_n 0, 1) := by decide +kernel
theorem dX12_loosen_164 : decode cX12_loosen 164 = .ok (.getfield 62, 3) := by decide +kernel
theorem dX12_loosen_167 : decode cX12_loosen 167 = .ok (.iload_n 1, 1) := by decide +kernel
theorem dX12_loosen_168 : decode cX12_loosen 168 = .ok (.iaload, 1) := by decide +kernel
theorem dX12_loosen_169 : decode cX12_loosen 169 = .ok (.ireturn, 1) := by decide +kernel
theorem dX12_claimed_0 : decode cX12_claimed 0 = .ok (.iload_n 1, 1) := by decide +kernel
theorem dX12_claimed_1 : decode cX12_claimed 1 = .ok (.iconst (-1), 1) := by decide +kernel
theorem dX12_claimed_2 : decode cX12_claimed 2 = .ok (.if_icmp .ne 11, 3) := by decide +kernel
theorem dX12_claimed_5 : decode cX12_claimed 5 = .ok (.aload_n 0, 1) := by decide +kernel
theorem dX12_claimed_6 : decode cX12_claimed 6 = .ok (.getfield 8, 3) := by decide +kernel
theorem dX12_claimed_9 : decode cX12_claimed 9 = .ok (.bipush 16, 2) := by decide +kernel
theorem dX12_claimed_11 : decode cX12_claimed 11 = .ok (.iaload, 1) := by decide +kernel
theorem dX12_claimed_12 : decode cX12_claimed 12 = .ok (.ireturn, 1) := by decide +kernel
theorem dX12_claimed_13 : decode cX12_claimed 13 = .ok (.iload_n 1, 1) := by decide +kernel
theorem dX12_claimed_14 : decode cX12_claimed 14 = .ok (.iconst 0, 1) := by decide +kernel
theorem dX12_claimed_15 : decode cX12_claimed 15 = .ok (.aload_n 0, 1) := by decide +kernel
theorem dX12_claimed_16 : decode cX12_claimed 16 = .ok (.getfield 8, 3) := by decide +kernel
theorem dX12_claimed_19 : decode cX12_claimed 19 = .ok (.bipush 16, 2) := by decide +kernel
theorem dX12_claimed_21 : decode cX12_claimed 21 = .ok (.iaload, 1) := by decide +kernel
theorem dX12_claimed_22 : decode cX12_claimed 22 = .ok (.iconst 1, 1) := by decide +kernel
theorem dX12_claimed_23 : decode cX12_claimed 23 = .ok (.isub, 1) := by decide +kernel
theorem dX12_claimed_24 : decode cX12_claimed 24 = .ok (.invokestatic 105, 3) := by decide +kernel
theorem dX12_claimed_27 : decode cX12_claimed 27 = .ok (.ifCond .eq 21, 3) := by decide +kernel
theorem dX12_claimed_30 : decode cX12_claimed 30 = .ok (.iload_n 2, 1) := by decide +kernel
theorem dX12_claimed_31 : decode cX12_claimed 31 = .ok (.iconst 0, 1) := by decide +kernel
theorem dX12_claimed_32 : decode cX12_claimed 32 = .ok (.iconst 1, 1) := by decide +kernel
theorem dX12_claimed_33 : decode cX12_claimed 33 = .ok (.invokestatic 105, 3) := by decide +kernel
theorem dX12_claimed_36 : decode cX12_claimed 36 = .ok (.ifCond .eq 12, 3) := by decide +kernel
theorem dX12_claimed_39 : decode cX12_claimed 39 = .ok (.aload_n 0, 1) := by decide +kernel
theorem dX12_claimed_40 : decode cX12_claimed 40 = .ok (.iload_n 1, 1) := by decide +kernel
theorem dX12_claimed_41 : decode cX12_claimed 41 = .ok (.iload_n 2, 1) := by decide +kernel
theorem dX12_claimed_42 : decode cX12_claimed 42 = .ok (.invokevirtual 423, 3) := by decide +kernel
theorem dX12_claimed_45 : decode cX12_claimed 45 = .ok (.goto 5, 3) := by decide +kernel
theorem dX12_claimed_48 : decode cX12_claimed 48 = .ok (.bipush (-2), 2) := by decide +kernel
theorem dX12_claimed_50 : decode cX12_claimed 50 = .ok (.ireturn, 1) := by decide +kernel
theorem dX12_judged_0 : decode cX12_judged 0 = .ok (.aload_n 0, 1) := by decide +kernel
theorem dX12_judged_1 : decode cX12_judged 1 = .ok (.iload_n 1, 1) := by decide +kernel
theorem dX12_judged_2 : decode cX12_judged 2 = .ok (.invokevirtual 441, 3) := by decide +kernel
theorem dX12_judged_5 : decode cX12_judged 5 = .ok (.ifCond .eq 14, 3) := by decide +kernel
theorem dX12_judged_8 : decode cX12_judged 8 = .ok (.aload_n 0, 1) := by decide +kernel
theorem dX12_judged_9 : decode cX12_judged 9 = .ok (.aload_n 0, 1) := by decide +kernel
theorem dX12_judged_10 : decode cX12_judged 10 = .ok (.invokevirtual 435, 3) := by decide +kernel
theorem dX12_judged_13 : decode cX12_judged 13 = .ok (.invokevirtual 438, 3) := by decide +kernel
theorem dX12_judged_16 : decode cX12_judged 16 = .ok (.goto 4, 3) := by decide +kernel
theorem dX12_judged_19 : decode cX12_judged 19 = .ok (.iconst (-1), 1) := by decide +kernel
theorem dX12_judged_20 : decode cX12_judged 20 = .ok (.ireturn, 1) := by decide +kernel
theorem dX12_witness_0 : decode cX12_witness 0 = .ok (.aload_n 0, 1) := by decide +kernel
theorem dX12_witness_1 : decode cX12_witness 1 = .ok (.iload_n 1, 1) := by decide +kernel
theorem dX12_witness_2 : decode cX12_witness 2 = .ok (.invokevirtual 441, 3) := by decide +kernel
theorem dX12_witness_5 : decode cX12_witness 5 = .ok (.ifCond .ne 5, 3) := by decide +kernel
theorem dX12_witness_8 : decode cX12_witness 8 = .ok (.iconst (-1), 1) := by decide +kernel
theorem dX12_witness_9 : decode cX12_witness 9 = .ok (.ireturn, 1) := by decide +kernel
theorem dX12_witness_10 : decode cX12_witness 10 = .ok (.aload_n 0, 1) := by decide +kernel
theorem dX12_witness_11 : decode cX12_witness 11 = .ok (.invokevirtual 435, 3) := by decide +kernel
theorem dX12_witness_14 : decode cX12_witness 14 = .ok (.lstore_n 2, 1) := by decide +kernel
theorem dX12_witness_15 : decode cX12_witness 15 = .ok (.aload_n 0, 1) := by decide +kernel
theorem dX12_witness_16 : decode cX12_witness 16 = .ok (.lload_n 2, 1) := by decide +kernel
theorem dX12_witness_17 : decode cX12_witness 17 = .ok (.invokevirtual 438, 3) := by decide +kernel
theorem dX12_witness_20 : decode cX12_witness 20 = .ok (.tableswitch 58 1 3 #[28, 38, 44], 28) := by decide +kernel
theorem dX12_witness_48 : decode cX12_witness 48 = .ok (.lload_n 2, 1) := by decide +kernel
theorem dX12_witness_49 : decode cX12_witness 49 = .ok (.aload_n 0, 1) := by decide +kernel
theorem dX12_witness_50 : decode cX12_witness 50 = .ok (.invokevirtual 255, 3) := by decide +kernel
theorem dX12_witness_53 : decode cX12_witness 53 = .ok (.land, 1) := by decide +kernel
theorem dX12_witness_54 : decode cX12_witness 54 = .ok (.invokestatic 303, 3) := by decide +kernel
theorem dX12_witness_57 : decode cX12_witness 57 = .ok (.ireturn, 1) := by decide +kernel
theorem dX12_witness_58 : decode cX12_witness 58 = .ok (.aload_n 0, 1) := by decide +kernel
theorem dX12_witness_59 : decode cX12_witness 59 = .ok (.lload_n 2, 1) := by decide +kernel
theorem dX12_witness_60 : decode cX12_witness 60 = .ok (.invokevirtual 432, 3) := by decide +kernel
theorem dX12_witness_63 : decode cX12_witness 63 = .ok (.ireturn, 1) := by decide +kernel
theorem dX12_witness_64 : decode cX12_witness 64 = .ok (.aload_n 0, 1) := by decide +kernel
theorem dX12_witness_65 : decode cX12_witness 65 = .ok (.invokevirtual 300, 3) := by decide +kernel
theorem dX12_witness_68 : decode cX12_witness 68 = .ok (.lload_n 2, 1) := by decide +kernel
theorem dX12_witness_69 : decode cX12_witness 69 = .ok (.ldc2_w 92, 3) := by decide +kernel
theorem dX12_witness_72 : decode cX12_witness 72 = .ok (.lxor, 1) := by decide +kernel
theorem dX12_witness_73 : decode cX12_witness 73 = .ok (.land, 1) := by decide +kernel
theorem dX12_witness_74 : decode cX12_witness 74 = .ok (.invokestatic 303, 3) := by decide +kernel
theorem dX12_witness_77 : decode cX12_witness 77 = .ok (.ireturn, 1) := by decide +kernel
theorem dX12_witness_78 : decode cX12_witness 78 = .ok (.iconst (-1), 1) := by decide +kernel
theorem dX12_witness_79 : decode cX12_witness 79 = .ok (.ireturn, 1) := by decide +kernel
theorem dX12_isFine_0 : decode cX12_isFine 0 = .ok (.iload_n 1, 1) := by decide +kernel
theorem dX12_isFine_1 : decode cX12_isFine 1 = .ok (.iconst 2, 1) := by decide +kernel
theorem dX12_isFine_2 : decode cX12_isFine 2 = .ok (.if_icmp .eq 26, 3) := by decide +kernel
theorem dX12_isFine_5 : decode cX12_isFine 5 = .ok (.aload_n 0, 1) := by decide +kernel
theorem dX12_isFine_6 : decode cX12_isFine 6 = .ok (.iload_n 1, 1) := by decide +kernel
theorem dX12_isFine_7 : decode cX12_isFine 7 = .ok (.invokevirtual 441, 3) := by decide +kernel
theorem dX12_isFine_10 : decode cX12_isFine 10 = .ok (.ifCond .eq 18, 3) := by decide +kernel
theorem dX12_isFine_13 : decode cX12_isFine 13 = .ok (.aload_n 0, 1) := by decide +kernel
theorem dX12_isFine_14 : decode cX12_isFine 14 = .ok (.aload_n 0, 1) := by decide +kernel
theorem dX12_isFine_15 : decode cX12_isFine 15 = .ok (.invokevirtual 435, 3) := by decide +kernel
theorem dX12_isFine_18 : decode cX12_isFine 18 = .ok (.invokevirtual 438, 3) := by decide +kernel
theorem dX12_isFine_21 : decode cX12_isFine 21 = .ok (.ifCond .ne 7, 3) := by decide +kernel
theorem dX12_isFine_24 : decode cX12_isFine 24 = .ok (.iconst 1, 1) := by decide +kernel
theorem dX12_isFine_25 : decode cX12_isFine 25 = .ok (.goto 4, 3) := by decide +kernel
theorem dX12_isFine_28 : decode cX12_isFine 28 = .ok (.iconst 0, 1) := by decide +kernel
theorem dX12_isFine_29 : decode cX12_isFine 29 = .ok (.ireturn, 1) := by decide +kernel
theorem dX12_spare_0 : decode cX12_spare 0 = .ok (.aload_n 0, 1) := by decide +kernel
theorem dX12_spare_1 : decode cX12_spare 1 = .ok (.iload_n 1, 1) := by decide +kernel
theorem dX12_spare_2 : decode cX12_spare 2 = .ok (.invokevirtual 444, 3) := by decide +kernel
theorem dX12_spare_5 : decode cX12_spare 5 = .ok (.ifCond .ne 5, 3) := by decide +kernel
theorem dX12_spare_8 : decode cX12_spare 8 = .ok (.iconst (-1), 1) := by decide +kernel
theorem dX12_spare_9 : decode cX12_spare 9 = .ok (.ireturn, 1) := by decide +kernel
theorem dX12_spare_10 : decode cX12_spare 10 = .ok (.iconst 0, 1) := by decide +kernel
theorem dX12_spare_11 : decode cX12_spare 11 = .ok (.istore_n 2, 1) := by decide +kernel
theorem dX12_spare_12 : decode cX12_spare 12 = .ok (.iconst 0, 1) := by decide +kernel
theorem dX12_spare_13 : decode cX12_spare 13 = .ok (.istore_n 3, 1) := by decide +kernel
theorem dX12_spare_14 : decode cX12_spare 14 = .ok (.iload_n 3, 1) := by decide +kernel
theorem dX12_spare_15 : decode cX12_spare 15 = .ok (.aload_n 0, 1) := by decide +kernel
theorem dX12_spare_16 : decode cX12_spare 16 = .ok (.getfield 390, 3) := by decide +kernel
theorem dX12_spare_19 : decode cX12_spare 19 = .ok (.if_icmp .ge 124, 3) := by decide +kernel
theorem dX12_spare_22 : decode cX12_spare 22 = .ok (.lconst 0, 1) := by decide +kernel
theorem dX12_spare_23 : decode cX12_spare 23 = .ok (.lstore 4, 2) := by decide +kernel
theorem dX12_spare_25 : decode cX12_spare 25 = .ok (.iconst 0, 1) := by decide +kernel
theorem dX12_spare_26 : decode cX12_spare 26 = .ok (.istore 6, 2) := by decide +kernel
theorem dX12_spare_28 : decode cX12_spare 28 = .ok (.iload 6, 2) := by decide +kernel
theorem dX12_spare_30 : decode cX12_spare 30 = .ok (.aload_n 0, 1) := by decide +kernel
theorem dX12_spare_31 : decode cX12_spare 31 = .ok (.getfield 390, 3) := by decide +kernel
theorem dX12_spare_34 : decode cX12_spare 34 = .ok (.if_icmp .ge 26, 3) := by decide +kernel
theorem dX12_spare_37 : decode cX12_spare 37 = .ok (.iload 6, 2) := by decide +kernel
theorem dX12_spare_39 : decode cX12_spare 39 = .ok (.iload_n 3, 1) := by decide +kernel
theorem dX12_spare_40 : decode cX12_spare 40 = .ok (.if_icmp .eq 14, 3) := by decide +kernel
theorem dX12_spare_43 : decode cX12_spare 43 = .ok (.lload 4, 2) := by decide +kernel
theorem dX12_spare_45 : decode cX12_spare 45 = .ok (.aload_n 0, 1) := by decide +kernel
theorem dX12_spare_46 : decode cX12_spare 46 = .ok (.iload 6, 2) := by decide +kernel
theorem dX12_spare_48 : decode cX12_spare 48 = .ok (.invokevirtual 429, 3) := by decide +kernel
theorem dX12_spare_51 : decode cX12_spare 51 = .ok (.lor, 1) := by decide +kernel
theorem dX12_spare_52 : decode cX12_spare 52 = .ok (.lstore 4, 2) := by decide +kernel
theorem dX12_spare_54 : decode cX12_spare 54 = .ok (.iinc 6 1, 3) := by decide +kernel
theorem dX12_spare_57 : decode cX12_spare 57 = .ok (.goto (-29), 3) := by decide +kernel
theorem dX12_spare_60 : decode cX12_spare 60 = .ok (.aload_n 0, 1) := by decide +kernel
theorem dX12_spare_61 : decode cX12_spare 61 = .ok (.lload 4, 2) := by decide +kernel
theorem dX12_spare_63 : decode cX12_spare 63 = .ok (.invokevirtual 438, 3) := by decide +kernel
theorem dX12_spare_66 : decode cX12_spare 66 = .ok (.ifCond .eq 9, 3) := by decide +kernel
theorem dX12_spare_69 : decode cX12_spare 69 = .ok (.iinc 3 1, 3) := by decide +kernel
theorem dX12_spare_72 : decode cX12_spare 72 = .ok (.goto (-58), 3) := by decide +kernel
theorem dX12_spare_75 : decode cX12_spare 75 = .ok (.iinc 2 1, 3) := by decide +kernel
theorem dX12_spare_78 : decode cX12_spare 78 = .ok (.iload_n 3, 1) := by decide +kernel
theorem dX12_spare_79 : decode cX12_spare 79 = .ok (.istore 6, 2) := by decide +kernel
theorem dX12_spare_81 : decode cX12_spare 81 = .ok (.iload 6, 2) := by decide +kernel
theorem dX12_spare_83 : decode cX12_spare 83 = .ok (.aload_n 0, 1) := by decide +kernel
theorem dX12_spare_84 : decode cX12_spare 84 = .ok (.getfield 390, 3) := by decide +kernel
theorem dX12_spare_87 : decode cX12_spare 87 = .ok (.iconst 1, 1) := by decide +kernel
theorem dX12_spare_88 : decode cX12_spare 88 = .ok (.isub, 1) := by decide +kernel
theorem dX12_spare_89 : decode cX12_spare 89 = .ok (.if_icmp .ge 41, 3) := by decide +kernel
theorem dX12_spare_92 : decode cX12_spare 92 = .ok (.aload_n 0, 1) := by decide +kernel
theorem dX12_spare_93 : decode cX12_spare 93 = .ok (.getfield 62, 3) := by decide +kernel
theorem dX12_spare_96 : decode cX12_spare 96 = .ok (.iload 6, 2) := by decide +kernel
theorem dX12_spare_98 : decode cX12_spare 98 = .ok (.aload_n 0, 1) := by decide +kernel
theorem dX12_spare_99 : decode cX12_spare 99 = .ok (.getfield 62, 3) := by decide +kernel
theorem dX12_spare_102 : decode cX12_spare 102 = .ok (.iload 6, 2) := by decide +kernel
theorem dX12_spare_104 : decode cX12_spare 104 = .ok (.iconst 1, 1) := by decide +kernel
theorem dX12_spare_105 : decode cX12_spare 105 = .ok (.iadd, 1) := by decide +kernel
theorem dX12_spare_106 : decode cX12_spare 106 = .ok (.iaload, 1) := by decide +kernel
theorem dX12_spare_107 : decode cX12_spare 107 = .ok (.iastore, 1) := by decide +kernel
theorem dX12_spare_108 : decode cX12_spare 108 = .ok (.aload_n 0, 1) := by decide +kernel
theorem dX12_spare_109 : decode cX12_spare 109 = .ok (.getfield 65, 3) := by decide +kernel
theorem dX12_spare_112 : decode cX12_spare 112 = .ok (.iload 6, 2) := by decide +kernel
theorem dX12_spare_114 : decode cX12_spare 114 = .ok (.aload_n 0, 1) := by decide +kernel
theorem dX12_spare_115 : decode cX12_spare 115 = .ok (.getfield 65, 3) := by decide +kernel
theorem dX12_spare_118 : decode cX12_spare 118 = .ok (.iload 6, 2) := by decide +kernel
theorem dX12_spare_120 : decode cX12_spare 120 = .ok (.iconst 1, 1) := by decide +kernel
theorem dX12_spare_121 : decode cX12_spare 121 = .ok (.iadd, 1) := by decide +kernel
theorem dX12_spare_122 : decode cX12_spare 122 = .ok (.iaload, 1) := by decide +kernel
theorem dX12_spare_123 : decode cX12_spare 123 = .ok (.iastore, 1) := by decide +kernel
theorem dX12_spare_124 : decode cX12_spare 124 = .ok (.iinc 6 1, 3) := by decide +kernel
theorem dX12_spare_127 : decode cX12_spare 127 = .ok (.goto (-46), 3) := by decide +kernel
theorem dX12_spare_130 : decode cX12_spare 130 = .ok (.aload_n 0, 1) := by decide +kernel
theorem dX12_spare_131 : decode cX12_spare 131 = .ok (.dup, 1) := by decide +kernel
theorem dX12_spare_132 : decode cX12_spare 132 = .ok (.getfield 390, 3) := by decide +kernel
theorem dX12_spare_135 : decode cX12_spare 135 = .ok (.iconst 1, 1) := by decide +kernel
theorem dX12_spare_136 : decode cX12_spare 136 = .ok (.isub, 1) := by decide +kernel
theorem dX12_spare_137 : decode cX12_spare 137 = .ok (.putfield 390, 3) := by decide +kernel
theorem dX12_spare_140 : decode cX12_spare 140 = .ok (.goto (-126), 3) := by decide +kernel
theorem dX12_spare_143 : decode cX12_spare 143 = .ok (.iload_n 2, 1) := by decide +kernel
theorem dX12_spare_144 : decode cX12_spare 144 = .ok (.ireturn, 1) := by decide +kernel
theorem dX12_fewestOf_0 : decode cX12_fewestOf 0 = .ok (.aload_n 0, 1) := by decide +kernel
theorem dX12_fewestOf_1 : decode cX12_fewestOf 1 = .ok (.iload_n 1, 1) := by decide +kernel
theorem dX12_fewestOf_2 : decode cX12_fewestOf 2 = .ok (.invokevirtual 444, 3) := by decide +kernel
theorem dX12_fewestOf_5 : decode cX12_fewestOf 5 = .ok (.ifCond .eq 12, 3) := by decide +kernel
theorem dX12_fewestOf_8 : decode cX12_fewestOf 8 = .ok (.aload_n 0, 1) := by decide +kernel
theorem dX12_fewestOf_9 : decode cX12_fewestOf 9 = .ok (.getfield 390, 3) := by decide +kernel
theorem dX12_fewestOf_12 : decode cX12_fewestOf 12 = .ok (.bipush 12, 2) := by decide +kernel
theorem dX12_fewestOf_14 : decode cX12_fewestOf 14 = .ok (.if_icmp .le 5, 3) := by decide +kernel
theorem dX12_fewestOf_17 : decode cX12_fewestOf 17 = .ok (.iconst (-1), 1) := by decide +kernel
theorem dX12_fewestOf_18 : decode cX12_fewestOf 18 = .ok (.ireturn, 1) := by decide +kernel
theorem dX12_fewestOf_19 : decode cX12_fewestOf 19 = .ok (.iconst 0, 1) := by decide +kernel
theorem dX12_fewestOf_20 : decode cX12_fewestOf 20 = .ok (.istore_n 2, 1) := by decide +kernel
theorem dX12_fewestOf_21 : decode cX12_fewestOf 21 = .ok (.iload_n 2, 1) := by decide +kernel
theorem dX12_fewestOf_22 : decode cX12_fewestOf 22 = .ok (.aload_n 0, 1) := by decide +kernel
theorem dX12_fewestOf_23 : decode cX12_fewestOf 23 = .ok (.getfield 390, 3) := by decide +kernel
theorem dX12_fewestOf_26 : decode cX12_fewestOf 26 = .ok (.if_icmp .ge 20, 3) := by decide +kernel
theorem dX12_fewestOf_29 : decode cX12_fewestOf 29 = .ok (.aload_n 0, 1) := by decide +kernel
theorem dX12_fewestOf_30 : decode cX12_fewestOf 30 = .ok (.getfield 68, 3) := by decide +kernel
theorem dX12_fewestOf_33 : decode cX12_fewestOf 33 = .ok (.iload_n 2, 1) := by decide +kernel
theorem dX12_fewestOf_34 : decode cX12_fewestOf 34 = .ok (.aload_n 0, 1) := by decide +kernel
theorem dX12_fewestOf_35 : decode cX12_fewestOf 35 = .ok (.iload_n 2, 1) := by decide +kernel
theorem dX12_fewestOf_36 : decode cX12_fewestOf 36 = .ok (.invokevirtual 429, 3) := by decide +kernel
theorem dX12_fewestOf_39 : decode cX12_fewestOf 39 = .ok (.lastore, 1) := by decide +kernel
theorem dX12_fewestOf_40 : decode cX12_fewestOf 40 = .ok (.iinc 2 1, 3) := by decide +kernel
theorem dX12_fewestOf_43 : decode cX12_fewestOf 43 = .ok (.goto (-22), 3) := by decide +kernel
theorem dX12_fewestOf_46 : decode cX12_fewestOf 46 = .ok (.iconst (-1), 1) := by decide +kernel
theorem dX12_fewestOf_47 : decode cX12_fewestOf 47 = .ok (.istore_n 2, 1) := by decide +kernel
theorem dX12_fewestOf_48 : decode cX12_fewestOf 48 = .ok (.iconst 0, 1) := by decide +kernel
theorem dX12_fewestOf_49 : decode cX12_fewestOf 49 = .ok (.istore_n 3, 1) := by decide +kernel
theorem dX12_fewestOf_50 : decode cX12_fewestOf 50 = .ok (.iload_n 3, 1) := by decide +kernel
theorem dX12_fewestOf_51 : decode cX12_fewestOf 51 = .ok (.iconst 1, 1) := by decide +kernel
theorem dX12_fewestOf_52 : decode cX12_fewestOf 52 = .ok (.aload_n 0, 1) := by decide +kernel
theorem dX12_fewestOf_53 : decode cX12_fewestOf 53 = .ok (.getfield 390, 3) := by decide +kernel
theorem dX12_fewestOf_56 : decode cX12_fewestOf 56 = .ok (.ishl, 1) := by decide +kernel
theorem dX12_fewestOf_57 : decode cX12_fewestOf 57 = .ok (.if_icmp .ge 84, 3) := by decide +kernel
theorem dX12_fewestOf_60 : decode cX12_fewestOf 60 = .ok (.iload_n 2, 1) := by decide +kernel
theorem dX12_fewestOf_61 : decode cX12_fewestOf 61 = .ok (.iconst (-1), 1) := by decide +kernel
theorem dX12_fewestOf_62 : decode cX12_fewestOf 62 = .ok (.if_icmp .eq 19, 3) := by decide +kernel
theorem dX12_fewestOf_65 : decode cX12_fewestOf 65 = .ok (.iload_n 3, 1) := by decide +kernel
theorem dX12_fewestOf_66 : decode cX12_fewestOf 66 = .ok (.i2l, 1) := by decide +kernel
theorem dX12_fewestOf_67 : decode cX12_fewestOf 67 = .ok (.invokestatic 366, 3) := by decide +kernel
theorem dX12_fewestOf_70 : decode cX12_fewestOf 70 = .ok (.iload_n 2, 1) := by decide +kernel
theorem dX12_fewestOf_71 : decode cX12_fewestOf 71 = .ok (.i2l, 1) := by decide +kernel
theorem dX12_fewestOf_72 : decode cX12_fewestOf 72 = .ok (.invokestatic 366, 3) := by decide +kernel
theorem dX12_fewestOf_75 : decode cX12_fewestOf 75 = .ok (.if_icmp .lt 6, 3) := by decide +kernel
theorem dX12_fewestOf_78 : decode cX12_fewestOf 78 = .ok (.goto 57, 3) := by decide +kernel
theorem dX12_fewestOf_81 : decode cX12_fewestOf 81 = .ok (.lconst 0, 1) := by decide +kernel
theorem dX12_fewestOf_82 : decode cX12_fewestOf 82 = .ok (.lstore 4, 2) := by decide +kernel
theorem dX12_fewestOf_84 : decode cX12_fewestOf 84 = .ok (.iconst 0, 1) := by decide +kernel
theorem dX12_fewestOf_85 : decode cX12_fewestOf 85 = .ok (.istore 6, 2) := by decide +kernel
theorem dX12_fewestOf_87 : decode cX12_fewestOf 87 = .ok (.iload 6, 2) := by decide +kernel
theorem dX12_fewestOf_89 : decode cX12_fewestOf 89 = .ok (.aload_n 0, 1) := by decide +kernel
theorem dX12_fewestOf_90 : decode cX12_fewestOf 90 = .ok (.getfield 390, 3) := by decide +kernel
theorem dX12_fewestOf_93 : decode cX12_fewestOf 93 = .ok (.if_icmp .ge 31, 3) := by decide +kernel
theorem dX12_fewestOf_96 : decode cX12_fewestOf 96 = .ok (.iload_n 3, 1) := by decide +kernel
theorem dX12_fewestOf_97 : decode cX12_fewestOf 97 = .ok (.iload 6, 2) := by decide +kernel
theorem dX12_fewestOf_99 : decode cX12_fewestOf 99 = .ok (.ishr, 1) := by decide +kernel
theorem dX12_fewestOf_100 : decode cX12_fewestOf 100 = .ok (.iconst 1, 1) := by decide +kernel
theorem dX12_fewestOf_101 : decode cX12_fewestOf 101 = .ok (.iand, 1) := by decide +kernel
theorem dX12_fewestOf_102 : decode cX12_fewestOf 102 = .ok (.iconst 1, 1) := by decide +kernel
theorem dX12_fewestOf_103 : decode cX12_fewestOf 103 = .ok (.if_icmp .ne 15, 3) := by decide +kernel
theorem dX12_fewestOf_106 : decode cX12_fewestOf 106 = .ok (.lload 4, 2) := by decide +kernel
theorem dX12_fewestOf_108 : decode cX12_fewestOf 108 = .ok (.aload_n 0, 1) := by decide +kernel
theorem dX12_fewestOf_109 : decode cX12_fewestOf 109 = .ok (.getfield 68, 3) := by decide +kernel
theorem dX12_fewestOf_112 : decode cX12_fewestOf 112 = .ok (.iload 6, 2) := by decide +kernel
theorem dX12_fewestOf_114 : decode cX12_fewestOf 114 = .ok (.laload, 1) := by decide +kernel
theorem dX12_fewestOf_115 : decode cX12_fewestOf 115 = .ok (.lor, 1) := by decide +kernel
theorem dX12_fewestOf_116 : decode cX12_fewestOf 116 = .ok (.lstore 4, 2) := by decide +kernel
theorem dX12_fewestOf_118 : decode cX12_fewestOf 118 = .ok (.iinc 6 1, 3) := by decide +kernel
theorem dX12_fewestOf_121 : decode cX12_fewestOf 121 = .ok (.goto (-34), 3) := by decide +kernel
theorem dX12_fewestOf_124 : decode cX12_fewestOf 124 = .ok (.aload_n 0, 1) := by decide +kernel
theorem dX12_fewestOf_125 : decode cX12_fewestOf 125 = .ok (.lload 4, 2) := by decide +kernel
theorem dX12_fewestOf_127 : decode cX12_fewestOf 127 = .ok (.invokevirtual 438, 3) := by decide +kernel
theorem dX12_fewestOf_130 : decode cX12_fewestOf 130 = .ok (.ifCond .ne 5, 3) := by decide +kernel
theorem dX12_fewestOf_133 : decode cX12_fewestOf 133 = .ok (.iload_n 3, 1) := by decide +kernel
theorem dX12_fewestOf_134 : decode cX12_fewestOf 134 = .ok (.istore_n 2, 1) := by decide +kernel
theorem dX12_fewestOf_135 : decode cX12_fewestOf 135 = .ok (.iinc 3 1, 3) := by decide +kernel
theorem dX12_fewestOf_138 : decode cX12_fewestOf 138 = .ok (.goto (-88), 3) := by decide +kernel
theorem dX12_fewestOf_141 : decode cX12_fewestOf 141 = .ok (.iload_n 2, 1) := by decide +kernel
theorem dX12_fewestOf_142 : decode cX12_fewestOf 142 = .ok (.ireturn, 1) := by decide +kernel
theorem dX12_fewest_0 : decode cX12_fewest 0 = .ok (.aload_n 0, 1) := by decide +kernel
theorem dX12_fewest_1 : decode cX12_fewest 1 = .ok (.iload_n 1, 1) := by decide +kernel
theorem dX12_fewest_2 : decode cX12_fewest 2 = .ok (.invokevirtual 447, 3) := by decide +kernel
theorem dX12_fewest_5 : decode cX12_fewest 5 = .ok (.istore_n 2, 1) := by decide +kernel
theorem dX12_fewest_6 : decode cX12_fewest 6 = .ok (.iload_n 2, 1) := by decide +kernel
theorem dX12_fewest_7 : decode cX12_fewest 7 = .ok (.iconst (-1), 1) := by decide +kernel
theorem dX12_fewest_8 : decode cX12_fewest 8 = .ok (.if_icmp .ne 7, 3) := by decide +kernel
theorem dX12_fewest_11 : decode cX12_fewest 11 = .ok (.iconst (-1), 1) := by decide +kernel
theorem dX12_fewest_12 : decode cX12_fewest 12 = .ok (.goto 8, 3) := by decide +kernel
theorem dX12_fewest_15 : decode cX12_fewest 15 = .ok (.iload_n 2, 1) := by decide +kernel
theorem dX12_fewest_16 : decode cX12_fewest 16 = .ok (.i2l, 1) := by decide +kernel
theorem dX12_fewest_17 : decode cX12_fewest 17 = .ok (.invokestatic 366, 3) := by decide +kernel
theorem dX12_fewest_20 : decode cX12_fewest 20 = .ok (.ireturn, 1) := by decide +kernel
theorem dX12_chosen_0 : decode cX12_chosen 0 = .ok (.aload_n 0, 1) := by decide +kernel
theorem dX12_chosen_1 : decode cX12_chosen 1 = .ok (.iload_n 1, 1) := by decide +kernel
theorem dX12_chosen_2 : decode cX12_chosen 2 = .ok (.invokevirtual 447, 3) := by decide +kernel
theorem dX12_chosen_5 : decode cX12_chosen 5 = .ok (.ireturn, 1) := by decide +kernel
theorem dX12_inside_0 : decode cX12_inside 0 = .ok (.iload_n 1, 1) := by decide +kernel
theorem dX12_inside_1 : decode cX12_inside 1 = .ok (.iconst 2, 1) := by decide +kernel
theorem dX12_inside_2 : decode cX12_inside 2 = .ok (.if_icmp .eq 30, 3) := by decide +kernel
theorem dX12_inside_5 : decode cX12_inside 5 = .ok (.aload_n 0, 1) := by decide +kernel
theorem dX12_inside_6 : decode cX12_inside 6 = .ok (.iload_n 1, 1) := by decide +kernel
theorem dX12_inside_7 : decode cX12_inside 7 = .ok (.invokevirtual 441, 3) := by decide +kernel
theorem dX12_inside_10 : decode cX12_inside 10 = .ok (.ifCond .eq 22, 3) := by decide +kernel
theorem dX12_inside_13 : decode cX12_inside 13 = .ok (.aload_n 0, 1) := by decide +kernel
theorem dX12_inside_14 : decode cX12_inside 14 = .ok (.invokevirtual 117, 3) := by decide +kernel
theorem dX12_inside_17 : decode cX12_inside 17 = .ok (.aload_n 0, 1) := by decide +kernel
theorem dX12_inside_18 : decode cX12_inside 18 = .ok (.invokevirtual 435, 3) := by decide +kernel
theorem dX12_inside_21 : decode cX12_inside 21 = .ok (.ldc2_w 92, 3) := by decide +kernel
theorem dX12_inside_24 : decode cX12_inside 24 = .ok (.lxor, 1) := by decide +kernel
theorem dX12_inside_25 : decode cX12_inside 25 = .ok (.land, 1) := by decide +kernel
theorem dX12_inside_26 : decode cX12_inside 26 = .ok (.invokestatic 366, 3) := by decide +kernel
theorem dX12_inside_29 : decode cX12_inside 29 = .ok (.goto 4, 3) := by decide +kernel
theorem dX12_inside_32 : decode cX12_inside 32 = .ok (.iconst (-1), 1) := by decide +kernel
theorem dX12_inside_33 : decode cX12_inside 33 = .ok (.ireturn, 1) := by decide +kernel
theorem dX12_foretold_0 : decode cX12_foretold 0 = .ok (.iload_n 1, 1) := by decide +kernel
theorem dX12_foretold_1 : decode cX12_foretold 1 = .ok (.iconst 1, 1) := by decide +kernel
theorem dX12_foretold_2 : decode cX12_foretold 2 = .ok (.sipush 500, 3) := by decide +kernel
theorem dX12_foretold_5 : decode cX12_foretold 5 = .ok (.invokestatic 105, 3) := by decide +kernel
theorem dX12_foretold_8 : decode cX12_foretold 8 = .ok (.ifCond .ne 5, 3) := by decide +kernel
theorem dX12_foretold_11 : decode cX12_foretold 11 = .ok (.iconst (-1), 1) := by decide +kernel
theorem dX12_foretold_12 : decode cX12_foretold 12 = .ok (.ireturn, 1) := by decide +kernel
theorem dX12_foretold_13 : decode cX12_foretold 13 = .ok (.aload_n 0, 1) := by decide +kernel
theorem dX12_foretold_14 : decode cX12_foretold 14 = .ok (.invokevirtual 450, 3) := by decide +kernel
theorem dX12_foretold_17 : decode cX12_foretold 17 = .ok (.aload_n 0, 1) := by decide +kernel
theorem dX12_foretold_18 : decode cX12_foretold 18 = .ok (.iload_n 1, 1) := by decide +kernel
theorem dX12_foretold_19 : decode cX12_foretold 19 = .ok (.invokevirtual 354, 3) := by decide +kernel
theorem dX12_foretold_22 : decode cX12_foretold 22 = .ok (.pop, 1) := by decide +kernel
theorem dX12_foretold_23 : decode cX12_foretold 23 = .ok (.aload_n 0, 1) := by decide +kernel
theorem dX12_foretold_24 : decode cX12_foretold 24 = .ok (.getfield 8, 3) := by decide +kernel
theorem dX12_foretold_27 : decode cX12_foretold 27 = .ok (.iconst 5, 1) := by decide +kernel
theorem dX12_foretold_28 : decode cX12_foretold 28 = .ok (.iaload, 1) := by decide +kernel
theorem dX12_foretold_29 : decode cX12_foretold 29 = .ok (.istore_n 2, 1) := by decide +kernel
theorem dX12_foretold_30 : decode cX12_foretold 30 = .ok (.aload_n 0, 1) := by decide +kernel
theorem dX12_foretold_31 : decode cX12_foretold 31 = .ok (.invokevirtual 453, 3) := by decide +kernel
theorem dX12_foretold_34 : decode cX12_foretold 34 = .ok (.iload_n 2, 1) := by decide +kernel
theorem dX12_foretold_35 : decode cX12_foretold 35 = .ok (.ireturn, 1) := by decide +kernel
theorem dX12_tillOver_0 : decode cX12_tillOver 0 = .ok (.aload_n 0, 1) := by decide +kernel
theorem dX12_tillOver_1 : decode cX12_tillOver 1 = .ok (.sipush 400, 3) := by decide +kernel
theorem dX12_tillOver_4 : decode cX12_tillOver 4 = .ok (.invokevirtual 354, 3) := by decide +kernel
theorem dX12_tillOver_7 : decode cX12_tillOver 7 = .ok (.istore_n 1, 1) := by decide +kernel
theorem dX12_tillOver_8 : decode cX12_tillOver 8 = .ok (.aload_n 0, 1) := by decide +kernel
theorem dX12_tillOver_9 : decode cX12_tillOver 9 = .ok (.invokevirtual 345, 3) := by decide +kernel
theorem dX12_tillOver_12 : decode cX12_tillOver 12 = .ok (.istore_n 2, 1) := by decide +kernel
theorem dX12_tillOver_13 : decode cX12_tillOver 13 = .ok (.aload_n 0, 1) := by decide +kernel
theorem dX12_tillOver_14 : decode cX12_tillOver 14 = .ok (.invokevirtual 453, 3) := by decide +kernel
theorem dX12_tillOver_17 : decode cX12_tillOver 17 = .ok (.iload_n 2, 1) := by decide +kernel
theorem dX12_tillOver_18 : decode cX12_tillOver 18 = .ok (.ifCond .eq 7, 3) := by decide +kernel
theorem dX12_tillOver_21 : decode cX12_tillOver 21 = .ok (.iload_n 1, 1) := by decide +kernel
theorem dX12_tillOver_22 : decode cX12_tillOver 22 = .ok (.goto 4, 3) := by decide +kernel
theorem dX12_tillOver_25 : decode cX12_tillOver 25 = .ok (.iconst (-1), 1) := by decide +kernel
theorem dX12_tillOver_26 : decode cX12_tillOver 26 = .ok (.ireturn, 1) := by decide +kernel
theorem dX12_till_0 : decode cX12_till 0 = .ok (.aload_n 0, 1) := by decide +kernel
theorem dX12_till_1 : decode cX12_till 1 = .ok (.invokevirtual 450, 3) := by decide +kernel
theorem dX12_till_4 : decode cX12_till 4 = .ok (.aload_n 0, 1) := by decide +kernel
theorem dX12_till_5 : decode cX12_till 5 = .ok (.invokevirtual 456, 3) := by decide +kernel
theorem dX12_till_8 : decode cX12_till 8 = .ok (.ireturn, 1) := by decide +kernel
theorem dX12_quickest_0 : decode cX12_quickest 0 = .ok (.iconst (-1), 1) := by decide +kernel
theorem dX12_quickest_1 : decode cX12_quickest 1 = .ok (.istore_n 1, 1) := by decide +kernel
theorem dX12_quickest_2 : decode cX12_quickest 2 = .ok (.iconst 0, 1) := by decide +kernel
theorem dX12_quickest_3 : decode cX12_quickest 3 = .ok (.istore_n 2, 1) := by decide +kernel
theorem dX12_quickest_4 : decode cX12_quickest 4 = .ok (.aload_n 0, 1) := by decide +kernel
theorem dX12_quickest_5 : decode cX12_quickest 5 = .ok (.invokevirtual 450, 3) := by decide +kernel
theorem dX12_quickest_8 : decode cX12_quickest 8 = .ok (.iconst 0, 1) := by decide +kernel
theorem dX12_quickest_9 : decode cX12_quickest 9 = .ok (.istore_n 3, 1) := by decide +kernel
theorem dX12_quickest_10 : decode cX12_quickest 10 = .ok (.iload_n 3, 1) := by decide +kernel
theorem dX12_quickest_11 : decode cX12_quickest 11 = .ok (.aload_n 0, 1) := by decide +kernel
theorem dX12_quickest_12 : decode cX12_quickest 12 = .ok (.getfield 8, 3) := by decide +kernel
theorem dX12_quickest_15 : decode cX12_quickest 15 = .ok (.bipush 7, 2) := by decide +kernel
theorem dX12_quickest_17 : decode cX12_quickest 17 = .ok (.iaload, 1) := by decide +kernel
theorem dX12_quickest_18 : decode cX12_quickest 18 = .ok (.if_icmp .ge 45, 3) := by decide +kernel
theorem dX12_quickest_21 : decode cX12_quickest 21 = .ok (.aload_n 0, 1) := by decide +kernel
theorem dX12_quickest_22 : decode cX12_quickest 22 = .ok (.iload_n 3, 1) := by decide +kernel
theorem dX12_quickest_23 : decode cX12_quickest 23 = .ok (.invokevirtual 243, 3) := by decide +kernel
theorem dX12_quickest_26 : decode cX12_quickest 26 = .ok (.aload_n 0, 1) := by decide +kernel
theorem dX12_quickest_27 : decode cX12_quickest 27 = .ok (.invokevirtual 456, 3) := by decide +kernel
theorem dX12_quickest_30 : decode cX12_quickest 30 = .ok (.istore 4, 2) := by decide +kernel
theorem dX12_quickest_32 : decode cX12_quickest 32 = .ok (.iload 4, 2) := by decide +kernel
theorem dX12_quickest_34 : decode cX12_quickest 34 = .ok (.iconst (-1), 1) := by decide +kernel
theorem dX12_quickest_35 : decode cX12_quickest 35 = .ok (.if_icmp .eq 22, 3) := by decide +kernel
theorem dX12_quickest_38 : decode cX12_quickest 38 = .ok (.iload_n 1, 1) := by decide +kernel
theorem dX12_quickest_39 : decode cX12_quickest 39 = .ok (.iconst (-1), 1) := by decide +kernel
theorem dX12_quickest_40 : decode cX12_quickest 40 = .ok (.if_icmp .eq 12, 3) := by decide +kernel
theorem dX12_quickest_43 : decode cX12_quickest 43 = .ok (.iload 4, 2) := by decide +kernel
theorem dX12_quickest_45 : decode cX12_quickest 45 = .ok (.iload_n 2, 1) := by decide +kernel
theorem dX12_quickest_46 : decode cX12_quickest 46 = .ok (.if_icmp .lt 6, 3) := by decide +kernel
theorem dX12_quickest_49 : decode cX12_quickest 49 = .ok (.goto 8, 3) := by decide +kernel
theorem dX12_quickest_52 : decode cX12_quickest 52 = .ok (.iload_n 3, 1) := by decide +kernel
theorem dX12_quickest_53 : decode cX12_quickest 53 = .ok (.istore_n 1, 1) := by decide +kernel
theorem dX12_quickest_54 : decode cX12_quickest 54 = .ok (.iload 4, 2) := by decide +kernel
theorem dX12_quickest_56 : decode cX12_quickest 56 = .ok (.istore_n 2, 1) := by decide +kernel
theorem dX12_quickest_57 : decode cX12_quickest 57 = .ok (.iinc 3 1, 3) := by decide +kernel
theorem dX12_quickest_60 : decode cX12_quickest 60 = .ok (.goto (-50), 3) := by decide +kernel
theorem dX12_quickest_63 : decode cX12_quickest 63 = .ok (.iload_n 1, 1) := by decide +kernel
theorem dX12_quickest_64 : decode cX12_quickest 64 = .ok (.ireturn, 1) := by decide +kernel
theorem dX12_bestMode_0 : decode cX12_bestMode 0 = .ok (.iconst (-1), 1) := by decide +kernel
theorem dX12_bestMode_1 : decode cX12_bestMode 1 = .ok (.istore_n 1, 1) := by decide +kernel
theorem dX12_bestMode_2 : decode cX12_bestMode 2 = .ok (.iconst 0, 1) := by decide +kernel
theorem dX12_bestMode_3 : decode cX12_bestMode 3 = .ok (.istore_n 2, 1) := by decide +kernel
theorem dX12_bestMode_4 : decode cX12_bestMode 4 = .ok (.aload_n 0, 1) := by decide +kernel
theorem dX12_bestMode_5 : decode cX12_bestMode 5 = .ok (.invokevirtual 450, 3) := by decide +kernel
theorem dX12_bestMode_8 : decode cX12_bestMode 8 = .ok (.iconst 0, 1) := by decide +kernel
theorem dX12_bestMode_9 : decode cX12_bestMode 9 = .ok (.istore_n 3, 1) := by decide +kernel
theorem dX12_bestMode_10 : decode cX12_bestMode 10 = .ok (.iload_n 3, 1) := by decide +kernel
theorem dX12_bestMode_11 : decode cX12_bestMode 11 = .ok (.iconst 3, 1) := by decide +kernel
theorem dX12_bestMode_12 : decode cX12_bestMode 12 = .ok (.if_icmp .ge 70, 3) := by decide +kernel
theorem dX12_bestMode_15 : decode cX12_bestMode 15 = .ok (.aload_n 0, 1) := by decide +kernel
theorem dX12_bestMode_16 : decode cX12_bestMode 16 = .ok (.getfield 8, 3) := by decide +kernel
theorem dX12_bestMode_19 : decode cX12_bestMode 19 = .ok (.bipush 8, 2) := by decide +kernel
theorem dX12_bestMode_21 : decode cX12_bestMode 21 = .ok (.iaload, 1) := by decide +kernel
theorem dX12_bestMode_22 : decode cX12_bestMode 22 = .ok (.istore 4, 2) := by decide +kernel
theorem dX12_bestMode_24 : decode cX12_bestMode 24 = .ok (.aload_n 0, 1) := by decide +kernel
theorem dX12_bestMode_25 : decode cX12_bestMode 25 = .ok (.invokevirtual 75, 3) := by decide +kernel
theorem dX12_bestMode_28 : decode cX12_bestMode 28 = .ok (.aload_n 0, 1) := by decide +kernel
theorem dX12_bestMode_29 : decode cX12_bestMode 29 = .ok (.getfield 8, 3) := by decide +kernel
theorem dX12_bestMode_32 : decode cX12_bestMode 32 = .ok (.bipush 8, 2) := by decide +kernel
theorem dX12_bestMode_34 : decode cX12_bestMode 34 = .ok (.iload 4, 2) := by decide +kernel
theorem dX12_bestMode_36 : decode cX12_bestMode 36 = .ok (.iastore, 1) := by decide +kernel
theorem dX12_bestMode_37 : decode cX12_bestMode 37 = .ok (.aload_n 0, 1) := by decide +kernel
theorem dX12_bestMode_38 : decode cX12_bestMode 38 = .ok (.getfield 8, 3) := by decide +kernel
theorem dX12_bestMode_41 : decode cX12_bestMode 41 = .ok (.bipush 15, 2) := by decide +kernel
theorem dX12_bestMode_43 : decode cX12_bestMode 43 = .ok (.iload_n 3, 1) := by decide +kernel
theorem dX12_bestMode_44 : decode cX12_bestMode 44 = .ok (.iastore, 1) := by decide +kernel
theorem dX12_bestMode_45 : decode cX12_bestMode 45 = .ok (.aload_n 0, 1) := by decide +kernel
theorem dX12_bestMode_46 : decode cX12_bestMode 46 = .ok (.invokevirtual 456, 3) := by decide +kernel
theorem dX12_bestMode_49 : decode cX12_bestMode 49 = .ok (.istore 5, 2) := by decide +kernel
theorem dX12_bestMode_51 : decode cX12_bestMode 51 = .ok (.iload 5, 2) := by decide +kernel
theorem dX12_bestMode_53 : decode cX12_bestMode 53 = .ok (.iconst (-1), 1) := by decide +kernel
theorem dX12_bestMode_54 : decode cX12_bestMode 54 = .ok (.if_icmp .eq 22, 3) := by decide +kernel
theorem dX12_bestMode_57 : decode cX12_bestMode 57 = .ok (.iload_n 1, 1) := by decide +kernel
theorem dX12_bestMode_58 : decode cX12_bestMode 58 = .ok (.iconst (-1), 1) := by decide +kernel
theorem dX12_bestMode_59 : decode cX12_bestMode 59 = .ok (.if_icmp .eq 12, 3) := by decide +kernel
theorem dX12_bestMode_62 : decode cX12_bestMode 62 = .ok (.iload 5, 2) := by decide +kernel
theorem dX12_bestMode_64 : decode cX12_bestMode 64 = .ok (.iload_n 2, 1) := by decide +kernel
theorem dX12_bestMode_65 : decode cX12_bestMode 65 = .ok (.if_icmp .lt 6, 3) := by decide +kernel
theorem dX12_bestMode_68 : decode cX12_bestMode 68 = .ok (.goto 8, 3) := by decide +kernel
theorem dX12_bestMode_71 : decode cX12_bestMode 71 = .ok (.iload_n 3, 1) := by decide +kernel
theorem dX12_bestMode_72 : decode cX12_bestMode 72 = .ok (.istore_n 1, 1) := by decide +kernel
theorem dX12_bestMode_73 : decode cX12_bestMode 73 = .ok (.iload 5, 2) := by decide +kernel
theorem dX12_bestMode_75 : decode cX12_bestMode 75 = .ok (.istore_n 2, 1) := by decide +kernel
theorem dX12_bestMode_76 : decode cX12_bestMode 76 = .ok (.iinc 3 1, 3) := by decide +kernel
theorem dX12_bestMode_79 : decode cX12_bestMode 79 = .ok (.goto (-69), 3) := by decide +kernel
theorem dX12_bestMode_82 : decode cX12_bestMode 82 = .ok (.iload_n 1, 1) := by decide +kernel
theorem dX12_bestMode_83 : decode cX12_bestMode 83 = .ok (.ireturn, 1) := by decide +kernel
theorem dX12_mean_0 : decode cX12_mean 0 = .ok (.aload_n 0, 1) := by decide +kernel
theorem dX12_mean_1 : decode cX12_mean 1 = .ok (.getfield 8, 3) := by decide +kernel
theorem dX12_mean_4 : decode cX12_mean 4 = .ok (.bipush 11, 2) := by decide +kernel
theorem dX12_mean_6 : decode cX12_mean 6 = .ok (.iaload, 1) := by decide +kernel
theorem dX12_mean_7 : decode cX12_mean 7 = .ok (.ifCond .ne 7, 3) := by decide +kernel
theorem dX12_mean_10 : decode cX12_mean 10 = .ok (.lconst 0, 1) := by decide +kernel
theorem dX12_mean_11 : decode cX12_mean 11 = .ok (.goto 23, 3) := by decide +kernel
theorem dX12_mean_14 : decode cX12_mean 14 = .ok (.aload_n 0, 1) := by decide +kernel
theorem dX12_mean_15 : decode cX12_mean 15 = .ok (.getfield 8, 3) := by decide +kernel
theorem dX12_mean_18 : decode cX12_mean 18 = .ok (.bipush 12, 2) := by decide +kernel
theorem dX12_mean_20 : decode cX12_mean 20 = .ok (.iaload, 1) := by decide +kernel
theorem dX12_mean_21 : decode cX12_mean 21 = .ok (.i2d, 1) := by decide +kernel
theorem dX12_mean_22 : decode cX12_mean 22 = .ok (.aload_n 0, 1) := by decide +kernel
theorem dX12_mean_23 : decode cX12_mean 23 = .ok (.getfield 8, 3) := by decide +kernel
theorem dX12_mean_26 : decode cX12_mean 26 = .ok (.bipush 11, 2) := by decide +kernel
theorem dX12_mean_28 : decode cX12_mean 28 = .ok (.iaload, 1) := by decide +kernel
theorem dX12_mean_29 : decode cX12_mean 29 = .ok (.i2d, 1) := by decide +kernel
theorem dX12_mean_30 : decode cX12_mean 30 = .ok (.ddiv, 1) := by decide +kernel
theorem dX12_mean_31 : decode cX12_mean 31 = .ok (.invokestatic 459, 3) := by decide +kernel
theorem dX12_mean_34 : decode cX12_mean 34 = .ok (.lreturn, 1) := by decide +kernel
theorem dX12_image_0 : decode cX12_image 0 = .ok (.aload_n 0, 1) := by decide +kernel
theorem dX12_image_1 : decode cX12_image 1 = .ok (.getfield 8, 3) := by decide +kernel
theorem dX12_image_4 : decode cX12_image 4 = .ok (.aload_n 0, 1) := by decide +kernel
theorem dX12_image_5 : decode cX12_image 5 = .ok (.getfield 14, 3) := by decide +kernel
theorem dX12_image_8 : decode cX12_image 8 = .ok (.invokestatic 78, 3) := by decide +kernel
theorem dX12_image_11 : decode cX12_image 11 = .ok (.aload_n 0, 1) := by decide +kernel
theorem dX12_image_12 : decode cX12_image 12 = .ok (.getfield 17, 3) := by decide +kernel
theorem dX12_image_15 : decode cX12_image 15 = .ok (.aload_n 0, 1) := by decide +kernel
theorem dX12_image_16 : decode cX12_image 16 = .ok (.getfield 21, 3) := by decide +kernel
theorem dX12_image_19 : decode cX12_image 19 = .ok (.invokestatic 82, 3) := by decide +kernel
theorem dX12_image_22 : decode cX12_image 22 = .ok (.aload_n 0, 1) := by decide +kernel
theorem dX12_image_23 : decode cX12_image 23 = .ok (.getfield 8, 3) := by decide +kernel
theorem dX12_image_26 : decode cX12_image 26 = .ok (.iconst 5, 1) := by decide +kernel
theorem dX12_image_27 : decode cX12_image 27 = .ok (.iaload, 1) := by decide +kernel
theorem dX12_image_28 : decode cX12_image 28 = .ok (.ireturn, 1) := by decide +kernel
theorem dX12_back_0 : decode cX12_back 0 = .ok (.aload_n 0, 1) := by decide +kernel
theorem dX12_back_1 : decode cX12_back 1 = .ok (.getfield 14, 3) := by decide +kernel
theorem dX12_back_4 : decode cX12_back 4 = .ok (.aload_n 0, 1) := by decide +kernel
theorem dX12_back_5 : decode cX12_back 5 = .ok (.getfield 8, 3) := by decide +kernel
theorem dX12_back_8 : decode cX12_back 8 = .ok (.invokestatic 78, 3) := by decide +kernel
theorem dX12_back_11 : decode cX12_back 11 = .ok (.aload_n 0, 1) := by decide +kernel
theorem dX12_back_12 : decode cX12_back 12 = .ok (.getfield 21, 3) := by decide +kernel
theorem dX12_back_15 : decode cX12_back 15 = .ok (.aload_n 0, 1) := by decide +kernel
theorem dX12_back_16 : decode cX12_back 16 = .ok (.getfield 17, 3) := by decide +kernel
theorem dX12_back_19 : decode cX12_back 19 = .ok (.invokestatic 82, 3) := by decide +kernel
theorem dX12_back_22 : decode cX12_back 22 = .ok (.aload_n 0, 1) := by decide +kernel
theorem dX12_back_23 : decode cX12_back 23 = .ok (.getfield 8, 3) := by decide +kernel
theorem dX12_back_26 : decode cX12_back 26 = .ok (.iconst 5, 1) := by decide +kernel
theorem dX12_back_27 : decode cX12_back 27 = .ok (.iaload, 1) := by decide +kernel
theorem dX12_back_28 : decode cX12_back 28 = .ok (.ireturn, 1) := by decide +kernel
theorem dX12_about_0 : decode cX12_about 0 = .ok (.iload_n 1, 1) := by decide +kernel
theorem dX12_about_1 : decode cX12_about 1 = .ok (.tableswitch 70 0 4 #[35, 42, 49, 57, 62], 35) := by decide +kernel
theorem dX12_about_36 : decode cX12_about 36 = .ok (.aload_n 0, 1) := by decide +kernel
theorem dX12_about_37 : decode cX12_about 37 = .ok (.getfield 8, 3) := by decide +kernel
theorem dX12_about_40 : decode cX12_about 40 = .ok (.iconst 0, 1) := by decide +kernel
theorem dX12_about_41 : decode cX12_about 41 = .ok (.iaload, 1) := by decide +kernel
theorem dX12_about_42 : decode cX12_about 42 = .ok (.ireturn, 1) := by decide +kernel
theorem dX12_about_43 : decode cX12_about 43 = .ok (.aload_n 0, 1) := by decide +kernel
theorem dX12_about_44 : decode cX12_about 44 = .ok (.getfield 8, 3) := by decide +kernel
theorem dX12_about_47 : decode cX12_about 47 = .ok (.iconst 1, 1) := by decide +kernel
theorem dX12_about_48 : decode cX12_about 48 = .ok (.iaload, 1) := by decide +kernel
theorem dX12_about_49 : decode cX12_about 49 = .ok (.ireturn, 1) := by decide +kernel
theorem dX12_about_50 : decode cX12_about 50 = .ok (.aload_n 0, 1) := by decide +kernel
theorem dX12_about_51 : decode cX12_about 51 = .ok (.getfield 8, 3) := by decide +kernel
theorem dX12_about_54 : decode cX12_about 54 = .ok (.bipush 16, 2) := by decide +kernel
theorem dX12_about_56 : decode cX12_about 56 = .ok (.iaload, 1) := by decide +kernel
theorem dX12_about_57 : decode cX12_about 57 = .ok (.ireturn, 1) := by decide +kernel
theorem dX12_about_58 : decode cX12_about 58 = .ok (.aload_n 0, 1) := by decide +kernel
theorem dX12_about_59 : decode cX12_about 59 = .ok (.getfield 124, 3) := by decide +kernel
theorem dX12_about_62 : decode cX12_about 62 = .ok (.ireturn, 1) := by decide +kernel
theorem dX12_about_63 : decode cX12_about 63 = .ok (.aload_n 0, 1) := by decide +kernel
theorem dX12_about_64 : decode cX12_about 64 = .ok (.getfield 8, 3) := by decide +kernel
theorem dX12_about_67 : decode cX12_about 67 = .ok (.bipush 15, 2) := by decide +kernel
theorem dX12_about_69 : decode cX12_about 69 = .ok (.iaload, 1) := by decide +kernel
theorem dX12_about_70 : decode cX12_about 70 = .ok (.ireturn, 1) := by decide +kernel
theorem dX12_about_71 : decode cX12_about 71 = .ok (.bipush (-2), 2) := by decide +kernel
theorem dX12_about_73 : decode cX12_about 73 = .ok (.ireturn, 1) := by decide +kernel
theorem dJ11_isValidCodePoint_9a6ad_0 : decode cJ11_isValidCodePoint_9a6ad 0 = .ok (.iload_n 0, 1) := by decide +kernel
theorem dJ11_isValidCodePoint_9a6ad_1 : decode cJ11_isValidCodePoint_9a6ad 1 = .ok (.bipush 16, 2) := by decide +kernel
theorem dJ11_isValidCodePoint_9a6ad_3 : decode cJ11_isValidCodePoint_9a6ad 3 = .ok (.iushr, 1) := by decide +kernel
theorem dJ11_isValidCodePoint_9a6ad_4 : decode cJ11_isValidCodePoint_9a6ad 4 = .ok (.istore_n 1, 1) := by decide +kernel
theorem dJ11_isValidCodePoint_9a6ad_5 : decode cJ11_isValidCodePoint_9a6ad 5 = .ok (.iload_n 1, 1) := by decide +kernel
theorem dJ11_isValidCodePoint_9a6ad_6 : decode cJ11_isValidCodePoint_9a6ad 6 = .ok (.bipush 17, 2) := by decide +kernel
theorem dJ11_isValidCodePoint_9a6ad_8 : decode cJ11_isValidCodePoint_9a6ad 8 = .ok (.if_icmp .ge 7, 3) := by decide +kernel
theorem dJ11_isValidCodePoint_9a6ad_11 : decode cJ11_isValidCodePoint_9a6ad 11 = .ok (.iconst 1, 1) := by decide +kernel
theorem dJ11_isValidCodePoint_9a6ad_12 : decode cJ11_isValidCodePoint_9a6ad 12 = .ok (.goto 4, 3) := by decide +kernel
theorem dJ11_isValidCodePoint_9a6ad_15 : decode cJ11_isValidCodePoint_9a6ad 15 = .ok (.iconst 0, 1) := by decide +kernel
theorem dJ11_isValidCodePoint_9a6ad_16 : decode cJ11_isValidCodePoint_9a6ad 16 = .ok (.ireturn, 1) := by decide +kernel
theorem dJ11_highSurrogate_5068e_0 : decode cJ11_highSurrogate_5068e 0 = .ok (.iload_n 0, 1) := by decide +kernel
theorem dJ11_highSurrogate_5068e_1 : decode cJ11_highSurrogate_5068e 1 = .ok (.bipush 10, 2) := by decide +kernel
theorem dJ11_highSurrogate_5068e_3 : decode cJ11_highSurrogate_5068e 3 = .ok (.iushr, 1) := by decide +kernel
theorem dJ11_highSurrogate_5068e_4 : decode cJ11_highSurrogate_5068e 4 = .ok (.ldc 110, 2) := by decide +kernel
theorem dJ11_highSurrogate_5068e_6 : decode cJ11_highSurrogate_5068e 6 = .ok (.iadd, 1) := by decide +kernel
theorem dJ11_highSurrogate_5068e_7 : decode cJ11_highSurrogate_5068e 7 = .ok (.i2c, 1) := by decide +kernel
theorem dJ11_highSurrogate_5068e_8 : decode cJ11_highSurrogate_5068e 8 = .ok (.ireturn, 1) := by decide +kernel
theorem dJ11_lowSurrogate_5068e_0 : decode cJ11_lowSurrogate_5068e 0 = .ok (.iload_n 0, 1) := by decide +kernel
theorem dJ11_lowSurrogate_5068e_1 : decode cJ11_lowSurrogate_5068e 1 = .ok (.sipush 1023, 3) := by decide +kernel
theorem dJ11_lowSurrogate_5068e_4 : decode cJ11_lowSurrogate_5068e 4 = .ok (.iand, 1) := by decide +kernel
theorem dJ11_lowSurrogate_5068e_5 : decode cJ11_lowSurrogate_5068e 5 = .ok (.ldc 76, 2) := by decide +kernel
theorem dJ11_lowSurrogate_5068e_7 : decode cJ11_lowSurrogate_5068e 7 = .ok (.iadd, 1) := by decide +kernel
theorem dJ11_lowSurrogate_5068e_8 : decode cJ11_lowSurrogate_5068e 8 = .ok (.i2c, 1) := by decide +kernel
theorem dJ11_lowSurrogate_5068e_9 : decode cJ11_lowSurrogate_5068e 9 = .ok (.ireturn, 1) := by decide +kernel
theorem dJxe99ae_isNaN_b9ae7_0 : decode cJxe99ae_isNaN_b9ae7 0 = .ok (.dload_n 0, 1) := by decide +kernel
theorem dJxe99ae_isNaN_b9ae7_1 : decode cJxe99ae_isNaN_b9ae7 1 = .ok (.dload_n 0, 1) := by decide +kernel
theorem dJxe99ae_isNaN_b9ae7_2 : decode cJxe99ae_isNaN_b9ae7 2 = .ok (.dcmp .l, 1) := by decide +kernel
theorem dJxe99ae_isNaN_b9ae7_3 : decode cJxe99ae_isNaN_b9ae7 3 = .ok (.ifCond .eq 7, 3) := by decide +kernel
theorem dJxe99ae_isNaN_b9ae7_6 : decode cJxe99ae_isNaN_b9ae7 6 = .ok (.iconst 1, 1) := by decide +kernel
theorem dJxe99ae_isNaN_b9ae7_7 : decode cJxe99ae_isNaN_b9ae7 7 = .ok (.goto 4, 3) := by decide +kernel
theorem dJxe99ae_isNaN_b9ae7_10 : decode cJxe99ae_isNaN_b9ae7 10 = .ok (.iconst 0, 1) := by decide +kernel
theorem dJxe99ae_isNaN_b9ae7_11 : decode cJxe99ae_isNaN_b9ae7 11 = .ok (.ireturn, 1) := by decide +kernel
theorem dJxe99ae_doubleToLongBits_ccdee_0 : decode cJxe99ae_doubleToLongBits_ccdee 0 = .ok (.dload_n 0, 1) := by decide +kernel
theorem dJxe99ae_doubleToLongBits_ccdee_1 : decode cJxe99ae_doubleToLongBits_ccdee 1 = .ok (.invokestatic 122, 3) := by decide +kernel
theorem dJxe99ae_doubleToLongBits_ccdee_4 : decode cJxe99ae_doubleToLongBits_ccdee 4 = .ok (.ifCond .ne 8, 3) := by decide +kernel
theorem dJxe99ae_doubleToLongBits_ccdee_7 : decode cJxe99ae_doubleToLongBits_ccdee 7 = .ok (.dload_n 0, 1) := by decide +kernel
theorem dJxe99ae_doubleToLongBits_ccdee_8 : decode cJxe99ae_doubleToLongBits_ccdee 8 = .ok (.invokestatic 134, 3) := by decide +kernel
theorem dJxe99ae_doubleToLongBits_ccdee_11 : decode cJxe99ae_doubleToLongBits_ccdee 11 = .ok (.lreturn, 1) := by decide +kernel
theorem dJxe99ae_doubleToLongBits_ccdee_12 : decode cJxe99ae_doubleToLongBits_ccdee 12 = .ok (.ldc2_w 137, 3) := by decide +kernel
theorem dJxe99ae_doubleToLongBits_ccdee_15 : decode cJxe99ae_doubleToLongBits_ccdee 15 = .ok (.lreturn, 1) := by decide +kernel
theorem dJxf58ca_isNaN_12338_0 : decode cJxf58ca_isNaN_12338 0 = .ok (.fload_n 0, 1) := by decide +kernel
theorem dJxf58ca_isNaN_12338_1 : decode cJxf58ca_isNaN_12338 1 = .ok (.fload_n 0, 1) := by decide +kernel
theorem dJxf58ca_isNaN_12338_2 : decode cJxf58ca_isNaN_12338 2 = .ok (.fcmp .l, 1) := by decide +kernel
theorem dJxf58ca_isNaN_12338_3 : decode cJxf58ca_isNaN_12338 3 = .ok (.ifCond .eq 7, 3) := by decide +kernel
theorem dJxf58ca_isNaN_12338_6 : decode cJxf58ca_isNaN_12338 6 = .ok (.iconst 1, 1) := by decide +kernel
theorem dJxf58ca_isNaN_12338_7 : decode cJxf58ca_isNaN_12338 7 = .ok (.goto 4, 3) := by decide +kernel
theorem dJxf58ca_isNaN_12338_10 : decode cJxf58ca_isNaN_12338 10 = .ok (.iconst 0, 1) := by decide +kernel
theorem dJxf58ca_isNaN_12338_11 : decode cJxf58ca_isNaN_12338 11 = .ok (.ireturn, 1) := by decide +kernel
theorem dJxf58ca_floatToIntBits_5c35a_0 : decode cJxf58ca_floatToIntBits_5c35a 0 = .ok (.fload_n 0, 1) := by decide +kernel
theorem dJxf58ca_floatToIntBits_5c35a_1 : decode cJxf58ca_floatToIntBits_5c35a 1 = .ok (.invokestatic 59, 3) := by decide +kernel
theorem dJxf58ca_floatToIntBits_5c35a_4 : decode cJxf58ca_floatToIntBits_5c35a 4 = .ok (.ifCond .ne 8, 3) := by decide +kernel
theorem dJxf58ca_floatToIntBits_5c35a_7 : decode cJxf58ca_floatToIntBits_5c35a 7 = .ok (.fload_n 0, 1) := by decide +kernel
theorem dJxf58ca_floatToIntBits_5c35a_8 : decode cJxf58ca_floatToIntBits_5c35a 8 = .ok (.invokestatic 74, 3) := by decide +kernel
theorem dJxf58ca_floatToIntBits_5c35a_11 : decode cJxf58ca_floatToIntBits_5c35a 11 = .ok (.ireturn, 1) := by decide +kernel
theorem dJxf58ca_floatToIntBits_5c35a_12 : decode cJxf58ca_floatToIntBits_5c35a 12 = .ok (.ldc 77, 2) := by decide +kernel
theorem dJxf58ca_floatToIntBits_5c35a_14 : decode cJxf58ca_floatToIntBits_5c35a 14 = .ok (.ireturn, 1) := by decide +kernel
theorem dJ6_numberOfTrailingZeros_0f7a4_0 : decode cJ6_numberOfTrailingZeros_0f7a4 0 = .ok (.iload_n 0, 1) := by decide +kernel
theorem dJ6_numberOfTrailingZeros_0f7a4_1 : decode cJ6_numberOfTrailingZeros_0f7a4 1 = .ok (.iconst (-1), 1) := by decide +kernel
theorem dJ6_numberOfTrailingZeros_0f7a4_2 : decode cJ6_numberOfTrailingZeros_0f7a4 2 = .ok (.ixor, 1) := by decide +kernel
theorem dJ6_numberOfTrailingZeros_0f7a4_3 : decode cJ6_numberOfTrailingZeros_0f7a4 3 = .ok (.iload_n 0, 1) := by decide +kernel
theorem dJ6_numberOfTrailingZeros_0f7a4_4 : decode cJ6_numberOfTrailingZeros_0f7a4 4 = .ok (.iconst 1, 1) := by decide +kernel
theorem dJ6_numberOfTrailingZeros_0f7a4_5 : decode cJ6_numberOfTrailingZeros_0f7a4 5 = .ok (.isub, 1) := by decide +kernel
theorem dJ6_numberOfTrailingZeros_0f7a4_6 : decode cJ6_numberOfTrailingZeros_0f7a4 6 = .ok (.iand, 1) := by decide +kernel
theorem dJ6_numberOfTrailingZeros_0f7a4_7 : decode cJ6_numberOfTrailingZeros_0f7a4 7 = .ok (.istore_n 0, 1) := by decide +kernel
theorem dJ6_numberOfTrailingZeros_0f7a4_8 : decode cJ6_numberOfTrailingZeros_0f7a4 8 = .ok (.iload_n 0, 1) := by decide +kernel
theorem dJ6_numberOfTrailingZeros_0f7a4_9 : decode cJ6_numberOfTrailingZeros_0f7a4 9 = .ok (.ifCond .gt 8, 3) := by decide +kernel
theorem dJ6_numberOfTrailingZeros_0f7a4_12 : decode cJ6_numberOfTrailingZeros_0f7a4 12 = .ok (.iload_n 0, 1) := by decide +kernel
theorem dJ6_numberOfTrailingZeros_0f7a4_13 : decode cJ6_numberOfTrailingZeros_0f7a4 13 = .ok (.bipush 32, 2) := by decide +kernel
theorem dJ6_numberOfTrailingZeros_0f7a4_15 : decode cJ6_numberOfTrailingZeros_0f7a4 15 = .ok (.iand, 1) := by decide +kernel
theorem dJ6_numberOfTrailingZeros_0f7a4_16 : decode cJ6_numberOfTrailingZeros_0f7a4 16 = .ok (.ireturn, 1) := by decide +kernel
theorem dJ6_numberOfTrailingZeros_0f7a4_17 : decode cJ6_numberOfTrailingZeros_0f7a4 17 = .ok (.iconst 1, 1) := by decide +kernel
theorem dJ6_numberOfTrailingZeros_0f7a4_18 : decode cJ6_numberOfTrailingZeros_0f7a4 18 = .ok (.istore_n 1, 1) := by decide +kernel
theorem dJ6_numberOfTrailingZeros_0f7a4_19 : decode cJ6_numberOfTrailingZeros_0f7a4 19 = .ok (.iload_n 0, 1) := by decide +kernel
theorem dJ6_numberOfTrailingZeros_0f7a4_20 : decode cJ6_numberOfTrailingZeros_0f7a4 20 = .ok (.ldc_w 264, 3) := by decide +kernel
theorem dJ6_numberOfTrailingZeros_0f7a4_23 : decode cJ6_numberOfTrailingZeros_0f7a4 23 = .ok (.if_icmp .le 11, 3) := by decide +kernel
theorem dJ6_numberOfTrailingZeros_0f7a4_26 : decode cJ6_numberOfTrailingZeros_0f7a4 26 = .ok (.iinc 1 16, 3) := by decide +kernel
theorem dJ6_numberOfTrailingZeros_0f7a4_29 : decode cJ6_numberOfTrailingZeros_0f7a4 29 = .ok (.iload_n 0, 1) := by decide +kernel
theorem dJ6_numberOfTrailingZeros_0f7a4_30 : decode cJ6_numberOfTrailingZeros_0f7a4 30 = .ok (.bipush 16, 2) := by decide +kernel
theorem dJ6_numberOfTrailingZeros_0f7a4_32 : decode cJ6_numberOfTrailingZeros_0f7a4 32 = .ok (.iushr, 1) := by decide +kernel
theorem dJ6_numberOfTrailingZeros_0f7a4_33 : decode cJ6_numberOfTrailingZeros_0f7a4 33 = .ok (.istore_n 0, 1) := by decide +kernel
theorem dJ6_numberOfTrailingZeros_0f7a4_34 : decode cJ6_numberOfTrailingZeros_0f7a4 34 = .ok (.iload_n 0, 1) := by decide +kernel
theorem dJ6_numberOfTrailingZeros_0f7a4_35 : decode cJ6_numberOfTrailingZeros_0f7a4 35 = .ok (.sipush 256, 3) := by decide +kernel
theorem dJ6_numberOfTrailingZeros_0f7a4_38 : decode cJ6_numberOfTrailingZeros_0f7a4 38 = .ok (.if_icmp .le 11, 3) := by decide +kernel
theorem dJ6_numberOfTrailingZeros_0f7a4_41 : decode cJ6_numberOfTrailingZeros_0f7a4 41 = .ok (.iinc 1 8, 3) := by decide +kernel
theorem dJ6_numberOfTrailingZeros_0f7a4_44 : decode cJ6_numberOfTrailingZeros_0f7a4 44 = .ok (.iload_n 0, 1) := by decide +kernel
theorem dJ6_numberOfTrailingZeros_0f7a4_45 : decode cJ6_numberOfTrailingZeros_0f7a4 45 = .ok (.bipush 8, 2) := by decide +kernel
theorem dJ6_numberOfTrailingZeros_0f7a4_47 : decode cJ6_numberOfTrailingZeros_0f7a4 47 = .ok (.iushr, 1) := by decide +kernel
theorem dJ6_numberOfTrailingZeros_0f7a4_48 : decode cJ6_numberOfTrailingZeros_0f7a4 48 = .ok (.istore_n 0, 1) := by decide +kernel
theorem dJ6_numberOfTrailingZeros_0f7a4_49 : decode cJ6_numberOfTrailingZeros_0f7a4 49 = .ok (.iload_n 0, 1) := by decide +kernel
theorem dJ6_numberOfTrailingZeros_0f7a4_50 : decode cJ6_numberOfTrailingZeros_0f7a4 50 = .ok (.bipush 16, 2) := by decide +kernel
theorem dJ6_numberOfTrailingZeros_0f7a4_52 : decode cJ6_numberOfTrailingZeros_0f7a4 52 = .ok (.if_icmp .le 10, 3) := by decide +kernel
theorem dJ6_numberOfTrailingZeros_0f7a4_55 : decode cJ6_numberOfTrailingZeros_0f7a4 55 = .ok (.iinc 1 4, 3) := by decide +kernel
theorem dJ6_numberOfTrailingZeros_0f7a4_58 : decode cJ6_numberOfTrailingZeros_0f7a4 58 = .ok (.iload_n 0, 1) := by decide +kernel
theorem dJ6_numberOfTrailingZeros_0f7a4_59 : decode cJ6_numberOfTrailingZeros_0f7a4 59 = .ok (.iconst 4, 1) := by decide +kernel
theorem dJ6_numberOfTrailingZeros_0f7a4_60 : decode cJ6_numberOfTrailingZeros_0f7a4 60 = .ok (.iushr, 1) := by decide +kernel
theorem dJ6_numberOfTrailingZeros_0f7a4_61 : decode cJ6_numberOfTrailingZeros_0f7a4 61 = .ok (.istore_n 0, 1) := by decide +kernel
theorem dJ6_numberOfTrailingZeros_0f7a4_62 : decode cJ6_numberOfTrailingZeros_0f7a4 62 = .ok (.iload_n 0, 1) := by decide +kernel
theorem dJ6_numberOfTrailingZeros_0f7a4_63 : decode cJ6_numberOfTrailingZeros_0f7a4 63 = .ok (.iconst 4, 1) := by decide +kernel
theorem dJ6_numberOfTrailingZeros_0f7a4_64 : decode cJ6_numberOfTrailingZeros_0f7a4 64 = .ok (.if_icmp .le 10, 3) := by decide +kernel
theorem dJ6_numberOfTrailingZeros_0f7a4_67 : decode cJ6_numberOfTrailingZeros_0f7a4 67 = .ok (.iinc 1 2, 3) := by decide +kernel
theorem dJ6_numberOfTrailingZeros_0f7a4_70 : decode cJ6_numberOfTrailingZeros_0f7a4 70 = .ok (.iload_n 0, 1) := by decide +kernel
theorem dJ6_numberOfTrailingZeros_0f7a4_71 : decode cJ6_numberOfTrailingZeros_0f7a4 71 = .ok (.iconst 2, 1) := by decide +kernel
theorem dJ6_numberOfTrailingZeros_0f7a4_72 : decode cJ6_numberOfTrailingZeros_0f7a4 72 = .ok (.iushr, 1) := by decide +kernel
theorem dJ6_numberOfTrailingZeros_0f7a4_73 : decode cJ6_numberOfTrailingZeros_0f7a4 73 = .ok (.istore_n 0, 1) := by decide +kernel
theorem dJ6_numberOfTrailingZeros_0f7a4_74 : decode cJ6_numberOfTrailingZeros_0f7a4 74 = .ok (.iload_n 1, 1) := by decide +kernel
theorem dJ6_numberOfTrailingZeros_0f7a4_75 : decode cJ6_numberOfTrailingZeros_0f7a4 75 = .ok (.iload_n 0, 1) := by decide +kernel
theorem dJ6_numberOfTrailingZeros_0f7a4_76 : decode cJ6_numberOfTrailingZeros_0f7a4 76 = .ok (.iconst 1, 1) := by decide +kernel
theorem dJ6_numberOfTrailingZeros_0f7a4_77 : decode cJ6_numberOfTrailingZeros_0f7a4 77 = .ok (.iushr, 1) := by decide +kernel
theorem dJ6_numberOfTrailingZeros_0f7a4_78 : decode cJ6_numberOfTrailingZeros_0f7a4 78 = .ok (.iadd, 1) := by decide +kernel
theorem dJ6_numberOfTrailingZeros_0f7a4_79 : decode cJ6_numberOfTrailingZeros_0f7a4 79 = .ok (.ireturn, 1) := by decide +kernel
theorem dJ6_bitCount_0f7a4_0 : decode cJ6_bitCount_0f7a4 0 = .ok (.iload_n 0, 1) := by decide +kernel
theorem dJ6_bitCount_0f7a4_1 : decode cJ6_bitCount_0f7a4 1 = .ok (.iload_n 0, 1) := by decide +kernel
theorem dJ6_bitCount_0f7a4_2 : decode cJ6_bitCount_0f7a4 2 = .ok (.iconst 1, 1) := by decide +kernel
theorem dJ6_bitCount_0f7a4_3 : decode cJ6_bitCount_0f7a4 3 = .ok (.iushr, 1) := by decide +kernel
theorem dJ6_bitCount_0f7a4_4 : decode cJ6_bitCount_0f7a4 4 = .ok (.ldc_w 265, 3) := by decide +kernel
theorem dJ6_bitCount_0f7a4_7 : decode cJ6_bitCount_0f7a4 7 = .ok (.iand, 1) := by decide +kernel
theorem dJ6_bitCount_0f7a4_8 : decode cJ6_bitCount_0f7a4 8 = .ok (.isub, 1) := by decide +kernel
theorem dJ6_bitCount_0f7a4_9 : decode cJ6_bitCount_0f7a4 9 = .ok (.istore_n 0, 1) := by decide +kernel
theorem dJ6_bitCount_0f7a4_10 : decode cJ6_bitCount_0f7a4 10 = .ok (.iload_n 0, 1) := by decide +kernel
theorem dJ6_bitCount_0f7a4_11 : decode cJ6_bitCount_0f7a4 11 = .ok (.ldc_w 266, 3) := by decide +kernel
theorem dJ6_bitCount_0f7a4_14 : decode cJ6_bitCount_0f7a4 14 = .ok (.iand, 1) := by decide +kernel
theorem dJ6_bitCount_0f7a4_15 : decode cJ6_bitCount_0f7a4 15 = .ok (.iload_n 0, 1) := by decide +kernel
theorem dJ6_bitCount_0f7a4_16 : decode cJ6_bitCount_0f7a4 16 = .ok (.iconst 2, 1) := by decide +kernel
theorem dJ6_bitCount_0f7a4_17 : decode cJ6_bitCount_0f7a4 17 = .ok (.iushr, 1) := by decide +kernel
theorem dJ6_bitCount_0f7a4_18 : decode cJ6_bitCount_0f7a4 18 = .ok (.ldc_w 266, 3) := by decide +kernel
theorem dJ6_bitCount_0f7a4_21 : decode cJ6_bitCount_0f7a4 21 = .ok (.iand, 1) := by decide +kernel
theorem dJ6_bitCount_0f7a4_22 : decode cJ6_bitCount_0f7a4 22 = .ok (.iadd, 1) := by decide +kernel
theorem dJ6_bitCount_0f7a4_23 : decode cJ6_bitCount_0f7a4 23 = .ok (.istore_n 0, 1) := by decide +kernel
theorem dJ6_bitCount_0f7a4_24 : decode cJ6_bitCount_0f7a4 24 = .ok (.iload_n 0, 1) := by decide +kernel
theorem dJ6_bitCount_0f7a4_25 : decode cJ6_bitCount_0f7a4 25 = .ok (.iload_n 0, 1) := by decide +kernel
theorem dJ6_bitCount_0f7a4_26 : decode cJ6_bitCount_0f7a4 26 = .ok (.iconst 4, 1) := by decide +kernel
theorem dJ6_bitCount_0f7a4_27 : decode cJ6_bitCount_0f7a4 27 = .ok (.iushr, 1) := by decide +kernel
theorem dJ6_bitCount_0f7a4_28 : decode cJ6_bitCount_0f7a4 28 = .ok (.iadd, 1) := by decide +kernel
theorem dJ6_bitCount_0f7a4_29 : decode cJ6_bitCount_0f7a4 29 = .ok (.ldc_w 267, 3) := by decide +kernel
theorem dJ6_bitCount_0f7a4_32 : decode cJ6_bitCount_0f7a4 32 = .ok (.iand, 1) := by decide +kernel
theorem dJ6_bitCount_0f7a4_33 : decode cJ6_bitCount_0f7a4 33 = .ok (.istore_n 0, 1) := by decide +kernel
theorem dJ6_bitCount_0f7a4_34 : decode cJ6_bitCount_0f7a4 34 = .ok (.iload_n 0, 1) := by decide +kernel
theorem dJ6_bitCount_0f7a4_35 : decode cJ6_bitCount_0f7a4 35 = .ok (.iload_n 0, 1) := by decide +kernel
theorem dJ6_bitCount_0f7a4_36 : decode cJ6_bitCount_0f7a4 36 = .ok (.bipush 8, 2) := by decide +kernel
theorem dJ6_bitCount_0f7a4_38 : decode cJ6_bitCount_0f7a4 38 = .ok (.iushr, 1) := by decide +kernel
theorem dJ6_bitCount_0f7a4_39 : decode cJ6_bitCount_0f7a4 39 = .ok (.iadd, 1) := by decide +kernel
theorem dJ6_bitCount_0f7a4_40 : decode cJ6_bitCount_0f7a4 40 = .ok (.istore_n 0, 1) := by decide +kernel
theorem dJ6_bitCount_0f7a4_41 : decode cJ6_bitCount_0f7a4 41 = .ok (.iload_n 0, 1) := by decide +kernel
theorem dJ6_bitCount_0f7a4_42 : decode cJ6_bitCount_0f7a4 42 = .ok (.iload_n 0, 1) := by decide +kernel
theorem dJ6_bitCount_0f7a4_43 : decode cJ6_bitCount_0f7a4 43 = .ok (.bipush 16, 2) := by decide +kernel
theorem dJ6_bitCount_0f7a4_45 : decode cJ6_bitCount_0f7a4 45 = .ok (.iushr, 1) := by decide +kernel
theorem dJ6_bitCount_0f7a4_46 : decode cJ6_bitCount_0f7a4 46 = .ok (.iadd, 1) := by decide +kernel
theorem dJ6_bitCount_0f7a4_47 : decode cJ6_bitCount_0f7a4 47 = .ok (.istore_n 0, 1) := by decide +kernel
theorem dJ6_bitCount_0f7a4_48 : decode cJ6_bitCount_0f7a4 48 = .ok (.iload_n 0, 1) := by decide +kernel
theorem dJ6_bitCount_0f7a4_49 : decode cJ6_bitCount_0f7a4 49 = .ok (.bipush 63, 2) := by decide +kernel
theorem dJ6_bitCount_0f7a4_51 : decode cJ6_bitCount_0f7a4 51 = .ok (.iand, 1) := by decide +kernel
theorem dJ6_bitCount_0f7a4_52 : decode cJ6_bitCount_0f7a4 52 = .ok (.ireturn, 1) := by decide +kernel
theorem dJ13_numberOfTrailingZeros_95d88_0 : decode cJ13_numberOfTrailingZeros_95d88 0 = .ok (.lload_n 0, 1) := by decide +kernel
theorem dJ13_numberOfTrailingZeros_95d88_1 : decode cJ13_numberOfTrailingZeros_95d88 1 = .ok (.l2i, 1) := by decide +kernel
theorem dJ13_numberOfTrailingZeros_95d88_2 : decode cJ13_numberOfTrailingZeros_95d88 2 = .ok (.istore_n 2, 1) := by decide +kernel
theorem dJ13_numberOfTrailingZeros_95d88_3 : decode cJ13_numberOfTrailingZeros_95d88 3 = .ok (.iload_n 2, 1) := by decide +kernel
theorem dJ13_numberOfTrailingZeros_95d88_4 : decode cJ13_numberOfTrailingZeros_95d88 4 = .ok (.ifCond .ne 17, 3) := by decide +kernel
theorem dJ13_numberOfTrailingZeros_95d88_7 : decode cJ13_numberOfTrailingZeros_95d88 7 = .ok (.bipush 32, 2) := by decide +kernel
theorem dJ13_numberOfTrailingZeros_95d88_9 : decode cJ13_numberOfTrailingZeros_95d88 9 = .ok (.lload_n 0, 1) := by decide +kernel
theorem dJ13_numberOfTrailingZeros_95d88_10 : decode cJ13_numberOfTrailingZeros_95d88 10 = .ok (.bipush 32, 2) := by decide +kernel
theorem dJ13_numberOfTrailingZeros_95d88_12 : decode cJ13_numberOfTrailingZeros_95d88 12 = .ok (.lushr, 1) := by decide +kernel
theorem dJ13_numberOfTrailingZeros_95d88_13 : decode cJ13_numberOfTrailingZeros_95d88 13 = .ok (.l2i, 1) := by decide +kernel
theorem dJ13_numberOfTrailingZeros_95d88_14 : decode cJ13_numberOfTrailingZeros_95d88 14 = .ok (.invokestatic 311, 3) := by decide +kernel
theorem dJ13_numberOfTrailingZeros_95d88_17 : decode cJ13_numberOfTrailingZeros_95d88 17 = .ok (.iadd, 1) := by decide +kernel
theorem dJ13_numberOfTrailingZeros_95d88_18 : decode cJ13_numberOfTrailingZeros_95d88 18 = .ok (.goto 7, 3) := by decide +kernel
theorem dJ13_numberOfTrailingZeros_95d88_21 : decode cJ13_numberOfTrailingZeros_95d88 21 = .ok (.iload_n 2, 1) := by decide +kernel
theorem dJ13_numberOfTrailingZeros_95d88_22 : decode cJ13_numberOfTrailingZeros_95d88 22 = .ok (.invokestatic 311, 3) := by decide +kernel
theorem dJ13_numberOfTrailingZeros_95d88_25 : decode cJ13_numberOfTrailingZeros_95d88 25 = .ok (.ireturn, 1) := by decide +kernel
theorem dJ13_bitCount_95d88_0 : decode cJ13_bitCount_95d88 0 = .ok (.lload_n 0, 1) := by decide +kernel
theorem dJ13_bitCount_95d88_1 : decode cJ13_bitCount_95d88 1 = .ok (.lload_n 0, 1) := by decide +kernel
theorem dJ13_bitCount_95d88_2 : decode cJ13_bitCount_95d88 2 = .ok (.iconst 1, 1) := by decide +kernel
theorem dJ13_bitCount_95d88_3 : decode cJ13_bitCount_95d88 3 = .ok (.lushr, 1) := by decide +kernel
theorem dJ13_bitCount_95d88_4 : decode cJ13_bitCount_95d88 4 = .ok (.ldc2_w 314, 3) := by decide +kernel
theorem dJ13_bitCount_95d88_7 : decode cJ13_bitCount_95d88 7 = .ok (.land, 1) := by decide +kernel
theorem dJ13_bitCount_95d88_8 : decode cJ13_bitCount_95d88 8 = .ok (.lsub, 1) := by decide +kernel
theorem dJ13_bitCount_95d88_9 : decode cJ13_bitCount_95d88 9 = .ok (.lstore_n 0, 1) := by decide +kernel
theorem dJ13_bitCount_95d88_10 : decode cJ13_bitCount_95d88 10 = .ok (.lload_n 0, 1) := by decide +kernel
theorem dJ13_bitCount_95d88_11 : decode cJ13_bitCount_95d88 11 = .ok (.ldc2_w 316, 3) := by decide +kernel
theorem dJ13_bitCount_95d88_14 : decode cJ13_bitCount_95d88 14 = .ok (.land, 1) := by decide +kernel
theorem dJ13_bitCount_95d88_15 : decode cJ13_bitCount_95d88 15 = .ok (.lload_n 0, 1) := by decide +kernel
theorem dJ13_bitCount_95d88_16 : decode cJ13_bitCount_95d88 16 = .ok (.iconst 2, 1) := by decide +kernel
theorem dJ13_bitCount_95d88_17 : decode cJ13_bitCount_95d88 17 = .ok (.lushr, 1) := by decide +kernel
theorem dJ13_bitCount_95d88_18 : decode cJ13_bitCount_95d88 18 = .ok (.ldc2_w 316, 3) := by decide +kernel
theorem dJ13_bitCount_95d88_21 : decode cJ13_bitCount_95d88 21 = .ok (.land, 1) := by decide +kernel
theorem dJ13_bitCount_95d88_22 : decode cJ13_bitCount_95d88 22 = .ok (.ladd, 1) := by decide +kernel
theorem dJ13_bitCount_95d88_23 : decode cJ13_bitCount_95d88 23 = .ok (.lstore_n 0, 1) := by decide +kernel
theorem dJ13_bitCount_95d88_24 : decode cJ13_bitCount_95d88 24 = .ok (.lload_n 0, 1) := by decide +kernel
theorem dJ13_bitCount_95d88_25 : decode cJ13_bitCount_95d88 25 = .ok (.lload_n 0, 1) := by decide +kernel
theorem dJ13_bitCount_95d88_26 : decode cJ13_bitCount_95d88 26 = .ok (.iconst 4, 1) := by decide +kernel
theorem dJ13_bitCount_95d88_27 : decode cJ13_bitCount_95d88 27 = .ok (.lushr, 1) := by decide +kernel
theorem dJ13_bitCount_95d88_28 : decode cJ13_bitCount_95d88 28 = .ok (.ladd, 1) := by decide +kernel
theorem dJ13_bitCount_95d88_29 : decode cJ13_bitCount_95d88 29 = .ok (.ldc2_w 318, 3) := by decide +kernel
theorem dJ13_bitCount_95d88_32 : decode cJ13_bitCount_95d88 32 = .ok (.land, 1) := by decide +kernel
theorem dJ13_bitCount_95d88_33 : decode cJ13_bitCount_95d88 33 = .ok (.lstore_n 0, 1) := by decide +kernel
theorem dJ13_bitCount_95d88_34 : decode cJ13_bitCount_95d88 34 = .ok (.lload_n 0, 1) := by decide +kernel
theorem dJ13_bitCount_95d88_35 : decode cJ13_bitCount_95d88 35 = .ok (.lload_n 0, 1) := by decide +kernel
theorem dJ13_bitCount_95d88_36 : decode cJ13_bitCount_95d88 36 = .ok (.bipush 8, 2) := by decide +kernel
theorem dJ13_bitCount_95d88_38 : decode cJ13_bitCount_95d88 38 = .ok (.lushr, 1) := by decide +kernel
theorem dJ13_bitCount_95d88_39 : decode cJ13_bitCount_95d88 39 = .ok (.ladd, 1) := by decide +kernel
theorem dJ13_bitCount_95d88_40 : decode cJ13_bitCount_95d88 40 = .ok (.lstore_n 0, 1) := by decide +kernel
theorem dJ13_bitCount_95d88_41 : decode cJ13_bitCount_95d88 41 = .ok (.lload_n 0, 1) := by decide +kernel
theorem dJ13_bitCount_95d88_42 : decode cJ13_bitCount_95d88 42 = .ok (.lload_n 0, 1) := by decide +kernel
theorem dJ13_bitCount_95d88_43 : decode cJ13_bitCount_95d88 43 = .ok (.bipush 16, 2) := by decide +kernel
theorem dJ13_bitCount_95d88_45 : decode cJ13_bitCount_95d88 45 = .ok (.lushr, 1) := by decide +kernel
theorem dJ13_bitCount_95d88_46 : decode cJ13_bitCount_95d88 46 = .ok (.ladd, 1) := by decide +kernel
theorem dJ13_bitCount_95d88_47 : decode cJ13_bitCount_95d88 47 = .ok (.lstore_n 0, 1) := by decide +kernel
theorem dJ13_bitCount_95d88_48 : decode cJ13_bitCount_95d88 48 = .ok (.lload_n 0, 1) := by decide +kernel
theorem dJ13_bitCount_95d88_49 : decode cJ13_bitCount_95d88 49 = .ok (.lload_n 0, 1) := by decide +kernel
theorem dJ13_bitCount_95d88_50 : decode cJ13_bitCount_95d88 50 = .ok (.bipush 32, 2) := by decide +kernel
theorem dJ13_bitCount_95d88_52 : decode cJ13_bitCount_95d88 52 = .ok (.lushr, 1) := by decide +kernel
theorem dJ13_bitCount_95d88_53 : decode cJ13_bitCount_95d88 53 = .ok (.ladd, 1) := by decide +kernel
theorem dJ13_bitCount_95d88_54 : decode cJ13_bitCount_95d88 54 = .ok (.lstore_n 0, 1) := by decide +kernel
theorem dJ13_bitCount_95d88_55 : decode cJ13_bitCount_95d88 55 = .ok (.lload_n 0, 1) := by decide +kernel
theorem dJ13_bitCount_95d88_56 : decode cJ13_bitCount_95d88 56 = .ok (.l2i, 1) := by decide +kernel
theorem dJ13_bitCount_95d88_57 : decode cJ13_bitCount_95d88 57 = .ok (.bipush 127, 2) := by decide +kernel
theorem dJ13_bitCount_95d88_59 : decode cJ13_bitCount_95d88 59 = .ok (.iand, 1) := by decide +kernel
theorem dJ13_bitCount_95d88_60 : decode cJ13_bitCount_95d88 60 = .ok (.ireturn, 1) := by decide +kernel
theorem dJ9_max_7cf53_0 : decode cJ9_max_7cf53 0 = .ok (.iload_n 0, 1) := by decide +kernel
theorem dJ9_max_7cf53_1 : decode cJ9_max_7cf53 1 = .ok (.iload_n 1, 1) := by decide +kernel
theorem dJ9_max_7cf53_2 : decode cJ9_max_7cf53 2 = .ok (.if_icmp .lt 7, 3) := by decide +kernel
theorem dJ9_max_7cf53_5 : decode cJ9_max_7cf53 5 = .ok (.iload_n 0, 1) := by decide +kernel
theorem dJ9_max_7cf53_6 : decode cJ9_max_7cf53 6 = .ok (.goto 4, 3) := by decide +kernel
theorem dJ9_max_7cf53_9 : decode cJ9_max_7cf53 9 = .ok (.iload_n 1, 1) := by decide +kernel
theorem dJ9_max_7cf53_10 : decode cJ9_max_7cf53 10 = .ok (.ireturn, 1) := by decide +kernel
theorem dJ9_min_7cf53_0 : decode cJ9_min_7cf53 0 = .ok (.iload_n 0, 1) := by decide +kernel
theorem dJ9_min_7cf53_1 : decode cJ9_min_7cf53 1 = .ok (.iload_n 1, 1) := by decide +kernel
theorem dJ9_min_7cf53_2 : decode cJ9_min_7cf53 2 = .ok (.if_icmp .gt 7, 3) := by decide +kernel
theorem dJ9_min_7cf53_5 : decode cJ9_min_7cf53 5 = .ok (.iload_n 0, 1) := by decide +kernel
theorem dJ9_min_7cf53_6 : decode cJ9_min_7cf53 6 = .ok (.goto 4, 3) := by decide +kernel
theorem dJ9_min_7cf53_9 : decode cJ9_min_7cf53 9 = .ok (.iload_n 1, 1) := by decide +kernel
theorem dJ9_min_7cf53_10 : decode cJ9_min_7cf53 10 = .ok (.ireturn, 1) := by decide +kernel
theorem dJ0_length_8abf5_0 : decode cJ0_length_8abf5 0 = .ok (.aload_n 0, 1) := by decide +kernel
theorem dJ0_length_8abf5_1 : decode cJ0_length_8abf5 1 = .ok (.getfield 9, 3) := by decide +kernel
theorem dJ0_length_8abf5_4 : decode cJ0_length_8abf5 4 = .ok (.arraylength, 1) := by decide +kernel
theorem dJ0_length_8abf5_5 : decode cJ0_length_8abf5 5 = .ok (.aload_n 0, 1) := by decide +kernel
theorem dJ0_length_8abf5_6 : decode cJ0_length_8abf5 6 = .ok (.invokevirtual 335, 3) := by decide +kernel
theorem dJ0_length_8abf5_9 : decode cJ0_length_8abf5 9 = .ok (.ishr, 1) := by decide +kernel
theorem dJ0_length_8abf5_10 : decode cJ0_length_8abf5 10 = .ok (.ireturn, 1) := by decide +kernel
theorem dJ0_charAt_5068e_0 : decode cJ0_charAt_5068e 0 = .ok (.aload_n 0, 1) := by decide +kernel
theorem dJ0_charAt_5068e_1 : decode cJ0_charAt_5068e 1 = .ok (.invokevirtual 492, 3) := by decide +kernel
theorem dJ0_charAt_5068e_4 : decode cJ0_charAt_5068e 4 = .ok (.ifCond .eq 12, 3) := by decide +kernel
theorem dJ0_charAt_5068e_7 : decode cJ0_charAt_5068e 7 = .ok (.aload_n 0, 1) := by decide +kernel
theorem dJ0_charAt_5068e_8 : decode cJ0_charAt_5068e 8 = .ok (.getfield 9, 3) := by decide +kernel
theorem dJ0_charAt_5068e_11 : decode cJ0_charAt_5068e 11 = .ok (.iload_n 1, 1) := by decide +kernel
theorem dJ0_charAt_5068e_12 : decode cJ0_charAt_5068e 12 = .ok (.invokestatic 495, 3) := by decide +kernel
theorem dJ0_charAt_5068e_15 : decode cJ0_charAt_5068e 15 = .ok (.ireturn, 1) := by decide +kernel
theorem dJ0_charAt_5068e_16 : decode cJ0_charAt_5068e 16 = .ok (.aload_n 0, 1) := by decide +kernel
theorem dJ0_charAt_5068e_17 : decode cJ0_charAt_5068e 17 = .ok (.getfield 9, 3) := by decide +kernel
theorem dJ0_charAt_5068e_20 : decode cJ0_charAt_5068e 20 = .ok (.iload_n 1, 1) := by decide +kernel
theorem dJ0_charAt_5068e_21 : decode cJ0_charAt_5068e 21 = .ok (.invokestatic 498, 3) := by decide +kernel
theorem dJ0_charAt_5068e_24 : decode cJ0_charAt_5068e 24 = .ok (.ireturn, 1) := by decide +kernel
theorem dJ0_indexOf_0f7a4_0 : decode cJ0_indexOf_0f7a4 0 = .ok (.aload_n 0, 1) := by decide +kernel
theorem dJ0_indexOf_0f7a4_1 : decode cJ0_indexOf_0f7a4 1 = .ok (.iload_n 1, 1) := by decide +kernel
theorem dJ0_indexOf_0f7a4_2 : decode cJ0_indexOf_0f7a4 2 = .ok (.iconst 0, 1) := by decide +kernel
theorem dJ0_indexOf_0f7a4_3 : decode cJ0_indexOf_0f7a4 3 = .ok (.invokevirtual 633, 3) := by decide +kernel
theorem dJ0_indexOf_0f7a4_6 : decode cJ0_indexOf_0f7a4 6 = .ok (.ireturn, 1) := by decide +kernel
theorem dJ0_indexOf_7cf53_0 : decode cJ0_indexOf_7cf53 0 = .ok (.aload_n 0, 1) := by decide +kernel
theorem dJ0_indexOf_7cf53_1 : decode cJ0_indexOf_7cf53 1 = .ok (.invokevirtual 492, 3) := by decide +kernel
theorem dJ0_indexOf_7cf53_4 : decode cJ0_indexOf_7cf53 4 = .ok (.ifCond .eq 19, 3) := by decide +kernel
theorem dJ0_indexOf_7cf53_7 : decode cJ0_indexOf_7cf53 7 = .ok (.aload_n 0, 1) := by decide +kernel
theorem dJ0_indexOf_7cf53_8 : decode cJ0_indexOf_7cf53 8 = .ok (.getfield 9, 3) := by decide +kernel
theorem dJ0_indexOf_7cf53_11 : decode cJ0_indexOf_7cf53 11 = .ok (.iload_n 1, 1) := by decide +kernel
theorem dJ0_indexOf_7cf53_12 : decode cJ0_indexOf_7cf53 12 = .ok (.iload_n 2, 1) := by decide +kernel
theorem dJ0_indexOf_7cf53_13 : decode cJ0_indexOf_7cf53 13 = .ok (.aload_n 0, 1) := by decide +kernel
theorem dJ0_indexOf_7cf53_14 : decode cJ0_indexOf_7cf53 14 = .ok (.invokevirtual 505, 3) := by decide +kernel
theorem dJ0_indexOf_7cf53_17 : decode cJ0_indexOf_7cf53 17 = .ok (.invokestatic 637, 3) := by decide +kernel
theorem dJ0_indexOf_7cf53_20 : decode cJ0_indexOf_7cf53 20 = .ok (.goto 16, 3) := by decide +kernel
theorem dJ0_indexOf_7cf53_23 : decode cJ0_indexOf_7cf53 23 = .ok (.aload_n 0, 1) := by decide +kernel
theorem dJ0_indexOf_7cf53_24 : decode cJ0_indexOf_7cf53 24 = .ok (.getfield 9, 3) := by decide +kernel
theorem dJ0_indexOf_7cf53_27 : decode cJ0_indexOf_7cf53 27 = .ok (.iload_n 1, 1) := by decide +kernel
theorem dJ0_indexOf_7cf53_28 : decode cJ0_indexOf_7cf53 28 = .ok (.iload_n 2, 1) := by decide +kernel
theorem dJ0_indexOf_7cf53_29 : decode cJ0_indexOf_7cf53 29 = .ok (.aload_n 0, 1) := by decide +kernel
theorem dJ0_indexOf_7cf53_30 : decode cJ0_indexOf_7cf53 30 = .ok (.invokevirtual 505, 3) := by decide +kernel
theorem dJ0_indexOf_7cf53_33 : decode cJ0_indexOf_7cf53 33 = .ok (.invokestatic 640, 3) := by decide +kernel
theorem dJ0_indexOf_7cf53_36 : decode cJ0_indexOf_7cf53 36 = .ok (.ireturn, 1) := by decide +kernel
theorem dJ0_coder_7d493_0 : decode cJ0_coder_7d493 0 = .ok (.getstatic 38, 3) := by decide +kernel
theorem dJ0_coder_7d493_3 : decode cJ0_coder_7d493 3 = .ok (.ifCond .eq 10, 3) := by decide +kernel
theorem dJ0_coder_7d493_6 : decode cJ0_coder_7d493 6 = .ok (.aload_n 0, 1) := by decide +kernel
theorem dJ0_coder_7d493_7 : decode cJ0_coder_7d493 7 = .ok (.getfield 15, 3) := by decide +kernel
theorem dJ0_coder_7d493_10 : decode cJ0_coder_7d493 10 = .ok (.goto 4, 3) := by decide +kernel
theorem dJ0_coder_7d493_13 : decode cJ0_coder_7d493 13 = .ok (.iconst 1, 1) := by decide +kernel
theorem dJ0_coder_7d493_14 : decode cJ0_coder_7d493 14 = .ok (.ireturn, 1) := by decide +kernel
theorem dJ0_isLatin1_aae02_0 : decode cJ0_isLatin1_aae02 0 = .ok (.getstatic 38, 3) := by decide +kernel
theorem dJ0_isLatin1_aae02_3 : decode cJ0_isLatin1_aae02 3 = .ok (.ifCond .eq 14, 3) := by decide +kernel
theorem dJ0_isLatin1_aae02_6 : decode cJ0_isLatin1_aae02 6 = .ok (.aload_n 0, 1) := by decide +kernel
theorem dJ0_isLatin1_aae02_7 : decode cJ0_isLatin1_aae02 7 = .ok (.getfield 15, 3) := by decide +kernel
theorem dJ0_isLatin1_aae02_10 : decode cJ0_isLatin1_aae02 10 = .ok (.ifCond .ne 7, 3) := by decide +kernel
theorem dJ0_isLatin1_aae02_13 : decode cJ0_isLatin1_aae02 13 = .ok (.iconst 1, 1) := by decide +kernel
theorem dJ0_isLatin1_aae02_14 : decode cJ0_isLatin1_aae02 14 = .ok (.goto 4, 3) := by decide +kernel
theorem dJ0_isLatin1_aae02_17 : decode cJ0_isLatin1_aae02 17 = .ok (.iconst 0, 1) := by decide +kernel
theorem dJ0_isLatin1_aae02_18 : decode cJ0_isLatin1_aae02 18 = .ok (.ireturn, 1) := by decide +kernel
theorem dJ0_checkIndex_df160_0 : decode cJ0_checkIndex_df160 0 = .ok (.iload_n 0, 1) := by decide +kernel
theorem dJ0_checkIndex_df160_1 : decode cJ0_checkIndex_df160 1 = .ok (.iload_n 1, 1) := by decide +kernel
theorem dJ0_checkIndex_df160_2 : decode cJ0_checkIndex_df160 2 = .ok (.getstatic 1053, 3) := by decide +kernel
theorem dJ0_checkIndex_df160_5 : decode cJ0_checkIndex_df160 5 = .ok (.invokestatic 1059, 3) := by decide +kernel
theorem dJ0_checkIndex_df160_8 : decode cJ0_checkIndex_df160 8 = .ok (.pop, 1) := by decide +kernel
theorem dJ0_checkIndex_df160_9 : decode cJ0_checkIndex_df160 9 = .ok (.return_, 1) := by decide +kernel
theorem dJ0_checkBoundsBeginEnd_23922_0 : decode cJ0_checkBoundsBeginEnd_23922 0 = .ok (.iload_n 0, 1) := by decide +kernel
theorem dJ0_checkBoundsBeginEnd_23922_1 : decode cJ0_checkBoundsBeginEnd_23922 1 = .ok (.iload_n 1, 1) := by decide +kernel
theorem dJ0_checkBoundsBeginEnd_23922_2 : decode cJ0_checkBoundsBeginEnd_23922 2 = .ok (.iload_n 2, 1) := by decide +kernel
theorem dJ0_checkBoundsBeginEnd_23922_3 : decode cJ0_checkBoundsBeginEnd_23922 3 = .ok (.getstatic 1053, 3) := by decide +kernel
theorem dJ0_checkBoundsBeginEnd_23922_6 : decode cJ0_checkBoundsBeginEnd_23922 6 = .ok (.invokestatic 1062, 3) := by decide +kernel
theorem dJ0_checkBoundsBeginEnd_23922_9 : decode cJ0_checkBoundsBeginEnd_23922 9 = .ok (.pop, 1) := by decide +kernel
theorem dJ0_checkBoundsBeginEnd_23922_10 : decode cJ0_checkBoundsBeginEnd_23922 10 = .ok (.return_, 1) := by decide +kernel
theorem dJ1_charAt_3b067_0 : decode cJ1_charAt_3b067 0 = .ok (.iload_n 1, 1) := by decide +kernel
theorem dJ1_charAt_3b067_1 : decode cJ1_charAt_3b067 1 = .ok (.aload_n 0, 1) := by decide +kernel
theorem dJ1_charAt_3b067_2 : decode cJ1_charAt_3b067 2 = .ok (.arraylength, 1) := by decide +kernel
theorem dJ1_charAt_3b067_3 : decode cJ1_charAt_3b067 3 = .ok (.invokestatic 9, 3) := by decide +kernel
theorem dJ1_charAt_3b067_6 : decode cJ1_charAt_3b067 6 = .ok (.aload_n 0, 1) := by decide +kernel
theorem dJ1_charAt_3b067_7 : decode cJ1_charAt_3b067 7 = .ok (.iload_n 1, 1) := by decide +kernel
theorem dJ1_charAt_3b067_8 : decode cJ1_charAt_3b067 8 = .ok (.baload, 1) := by decide +kernel
theorem dJ1_charAt_3b067_9 : decode cJ1_charAt_3b067 9 = .ok (.sipush 255, 3) := by decide +kernel
theorem dJ1_charAt_3b067_12 : decode cJ1_charAt_3b067 12 = .ok (.iand, 1) := by decide +kernel
theorem dJ1_charAt_3b067_13 : decode cJ1_charAt_3b067 13 = .ok (.i2c, 1) := by decide +kernel
theorem dJ1_charAt_3b067_14 : decode cJ1_charAt_3b067 14 = .ok (.ireturn, 1) := by decide +kernel
theorem dJ1_canEncode_9a6ad_0 : decode cJ1_canEncode_9a6ad 0 = .ok (.iload_n 0, 1) := by decide +kernel
theorem dJ1_canEncode_9a6ad_1 : decode cJ1_canEncode_9a6ad 1 = .ok (.ifCond .lt 14, 3) := by decide +kernel
theorem dJ1_canEncode_9a6ad_4 : decode cJ1_canEncode_9a6ad 4 = .ok (.iload_n 0, 1) := by decide +kernel
theorem dJ1_canEncode_9a6ad_5 : decode cJ1_canEncode_9a6ad 5 = .ok (.sipush 255, 3) := by decide +kernel
theorem dJ1_canEncode_9a6ad_8 : decode cJ1_canEncode_9a6ad 8 = .ok (.if_icmp .gt 7, 3) := by decide +kernel
theorem dJ1_canEncode_9a6ad_11 : decode cJ1_canEncode_9a6ad 11 = .ok (.iconst 1, 1) := by decide +kernel
theorem dJ1_canEncode_9a6ad_12 : decode cJ1_canEncode_9a6ad 12 = .ok (.goto 4, 3) := by decide +kernel
theorem dJ1_canEncode_9a6ad_15 : decode cJ1_canEncode_9a6ad 15 = .ok (.iconst 0, 1) := by decide +kernel
theorem dJ1_canEncode_9a6ad_16 : decode cJ1_canEncode_9a6ad 16 = .ok (.ireturn, 1) := by decide +kernel
theorem dJ1_indexOf_4cfef_0 : decode cJ1_indexOf_4cfef 0 = .ok (.iload_n 1, 1) := by decide +kernel
theorem dJ1_indexOf_4cfef_1 : decode cJ1_indexOf_4cfef 1 = .ok (.invokestatic 88, 3) := by decide +kernel
theorem dJ1_indexOf_4cfef_4 : decode cJ1_indexOf_4cfef 4 = .ok (.ifCond .ne 5, 3) := by decide +kernel
theorem dJ1_indexOf_4cfef_7 : decode cJ1_indexOf_4cfef 7 = .ok (.iconst (-1), 1) := by decide +kernel
theorem dJ1_indexOf_4cfef_8 : decode cJ1_indexOf_4cfef 8 = .ok (.ireturn, 1) := by decide +kernel
theorem dJ1_indexOf_4cfef_9 : decode cJ1_indexOf_4cfef 9 = .ok (.iload_n 2, 1) := by decide +kernel
theorem dJ1_indexOf_4cfef_10 : decode cJ1_indexOf_4cfef 10 = .ok (.iconst 0, 1) := by decide +kernel
theorem dJ1_indexOf_4cfef_11 : decode cJ1_indexOf_4cfef 11 = .ok (.invokestatic 92, 3) := by decide +kernel
theorem dJ1_indexOf_4cfef_14 : decode cJ1_indexOf_4cfef 14 = .ok (.istore_n 2, 1) := by decide +kernel
theorem dJ1_indexOf_4cfef_15 : decode cJ1_indexOf_4cfef 15 = .ok (.iload_n 3, 1) := by decide +kernel
theorem dJ1_indexOf_4cfef_16 : decode cJ1_indexOf_4cfef 16 = .ok (.aload_n 0, 1) := by decide +kernel
theorem dJ1_indexOf_4cfef_17 : decode cJ1_indexOf_4cfef 17 = .ok (.arraylength, 1) := by decide +kernel
theorem dJ1_indexOf_4cfef_18 : decode cJ1_indexOf_4cfef 18 = .ok (.invokestatic 38, 3) := by decide +kernel
theorem dJ1_indexOf_4cfef_21 : decode cJ1_indexOf_4cfef 21 = .ok (.istore_n 3, 1) := by decide +kernel
theorem dJ1_indexOf_4cfef_22 : decode cJ1_indexOf_4cfef 22 = .ok (.iload_n 2, 1) := by decide +kernel
theorem dJ1_indexOf_4cfef_23 : decode cJ1_indexOf_4cfef 23 = .ok (.iload_n 3, 1) := by decide +kernel
theorem dJ1_indexOf_4cfef_24 : decode cJ1_indexOf_4cfef 24 = .ok (.if_icmp .lt 5, 3) := by decide +kernel
theorem dJ1_indexOf_4cfef_27 : decode cJ1_indexOf_4cfef 27 = .ok (.iconst (-1), 1) := by decide +kernel
theorem dJ1_indexOf_4cfef_28 : decode cJ1_indexOf_4cfef 28 = .ok (.ireturn, 1) := by decide +kernel
theorem dJ1_indexOf_4cfef_29 : decode cJ1_indexOf_4cfef 29 = .ok (.aload_n 0, 1) := by decide +kernel
theorem dJ1_indexOf_4cfef_30 : decode cJ1_indexOf_4cfef 30 = .ok (.iload_n 1, 1) := by decide +kernel
theorem dJ1_indexOf_4cfef_31 : decode cJ1_indexOf_4cfef 31 = .ok (.iload_n 2, 1) := by decide +kernel
theorem dJ1_indexOf_4cfef_32 : decode cJ1_indexOf_4cfef 32 = .ok (.iload_n 3, 1) := by decide +kernel
theorem dJ1_indexOf_4cfef_33 : decode cJ1_indexOf_4cfef 33 = .ok (.invokestatic 95, 3) := by decide +kernel
theorem dJ1_indexOf_4cfef_36 : decode cJ1_indexOf_4cfef 36 = .ok (.ireturn, 1) := by decide +kernel
theorem dJ1_indexOfChar_4cfef_0 : decode cJ1_indexOfChar_4cfef 0 = .ok (.iload_n 1, 1) := by decide +kernel
theorem dJ1_indexOfChar_4cfef_1 : decode cJ1_indexOfChar_4cfef 1 = .ok (.i2b, 1) := by decide +kernel
theorem dJ1_indexOfChar_4cfef_2 : decode cJ1_indexOfChar_4cfef 2 = .ok (.istore 4, 2) := by decide +kernel
theorem dJ1_indexOfChar_4cfef_4 : decode cJ1_indexOfChar_4cfef 4 = .ok (.iload_n 2, 1) := by decide +kernel
theorem dJ1_indexOfChar_4cfef_5 : decode cJ1_indexOfChar_4cfef 5 = .ok (.istore 5, 2) := by decide +kernel
theorem dJ1_indexOfChar_4cfef_7 : decode cJ1_indexOfChar_4cfef 7 = .ok (.iload 5, 2) := by decide +kernel
theorem dJ1_indexOfChar_4cfef_9 : decode cJ1_indexOfChar_4cfef 9 = .ok (.iload_n 3, 1) := by decide +kernel
theorem dJ1_indexOfChar_4cfef_10 : decode cJ1_indexOfChar_4cfef 10 = .ok (.if_icmp .ge 21, 3) := by decide +kernel
theorem dJ1_indexOfChar_4cfef_13 : decode cJ1_indexOfChar_4cfef 13 = .ok (.aload_n 0, 1) := by decide +kernel
theorem dJ1_indexOfChar_4cfef_14 : decode cJ1_indexOfChar_4cfef 14 = .ok (.iload 5, 2) := by decide +kernel
theorem dJ1_indexOfChar_4cfef_16 : decode cJ1_indexOfChar_4cfef 16 = .ok (.baload, 1) := by decide +kernel
theorem dJ1_indexOfChar_4cfef_17 : decode cJ1_indexOfChar_4cfef 17 = .ok (.iload 4, 2) := by decide +kernel
theorem dJ1_indexOfChar_4cfef_19 : decode cJ1_indexOfChar_4cfef 19 = .ok (.if_icmp .ne 6, 3) := by decide +kernel
theorem dJ1_indexOfChar_4cfef_22 : decode cJ1_indexOfChar_4cfef 22 = .ok (.iload 5, 2) := by decide +kernel
theorem dJ1_indexOfChar_4cfef_24 : decode cJ1_indexOfChar_4cfef 24 = .ok (.ireturn, 1) := by decide +kernel
theorem dJ1_indexOfChar_4cfef_25 : decode cJ1_indexOfChar_4cfef 25 = .ok (.iinc 5 1, 3) := by decide +kernel
theorem dJ1_indexOfChar_4cfef_28 : decode cJ1_indexOfChar_4cfef 28 = .ok (.goto (-21), 3) := by decide +kernel
theorem dJ1_indexOfChar_4cfef_31 : decode cJ1_indexOfChar_4cfef 31 = .ok (.iconst (-1), 1) := by decide +kernel
theorem dJ1_indexOfChar_4cfef_32 : decode cJ1_indexOfChar_4cfef 32 = .ok (.ireturn, 1) := by decide +kernel
theorem dJ2_getChar_3b067_0 : decode cJ2_getChar_3b067 0 = .ok (.getstatic 44, 3) := by decide +kernel
theorem dJ2_getChar_3b067_3 : decode cJ2_getChar_3b067 3 = .ok (.ifCond .ne 25, 3) := by decide +kernel
theorem dJ2_getChar_3b067_6 : decode cJ2_getChar_3b067 6 = .ok (.iload_n 1, 1) := by decide +kernel
theorem dJ2_getChar_3b067_7 : decode cJ2_getChar_3b067 7 = .ok (.ifCond .lt 11, 3) := by decide +kernel
theorem dJ2_getChar_3b067_10 : decode cJ2_getChar_3b067 10 = .ok (.iload_n 1, 1) := by decide +kernel
theorem dJ2_getChar_3b067_11 : decode cJ2_getChar_3b067 11 = .ok (.aload_n 0, 1) := by decide +kernel
theorem dJ2_getChar_3b067_12 : decode cJ2_getChar_3b067 12 = .ok (.invokestatic 48, 3) := by decide +kernel
theorem dJ2_getChar_3b067_15 : decode cJ2_getChar_3b067 15 = .ok (.if_icmp .lt 13, 3) := by decide +kernel
theorem dJ2_getChar_3b067_18 : decode cJ2_getChar_3b067 18 = .ok (.new 52, 3) := by decide +kernel
theorem dJ2_getChar_3b067_21 : decode cJ2_getChar_3b067 21 = .ok (.dup, 1) := by decide +kernel
theorem dJ2_getChar_3b067_22 : decode cJ2_getChar_3b067 22 = .ok (.ldc 54, 2) := by decide +kernel
theorem dJ2_getChar_3b067_24 : decode cJ2_getChar_3b067 24 = .ok (.invokespecial 56, 3) := by decide +kernel
theorem dJ2_getChar_3b067_27 : decode cJ2_getChar_3b067 27 = .ok (.athrow, 1) := by decide +kernel
theorem dJ2_getChar_3b067_28 : decode cJ2_getChar_3b067 28 = .ok (.iload_n 1, 1) := by decide +kernel
theorem dJ2_getChar_3b067_29 : decode cJ2_getChar_3b067 29 = .ok (.iconst 1, 1) := by decide +kernel
theorem dJ2_getChar_3b067_30 : decode cJ2_getChar_3b067 30 = .ok (.ishl, 1) := by decide +kernel
theorem dJ2_getChar_3b067_31 : decode cJ2_getChar_3b067 31 = .ok (.istore_n 1, 1) := by decide +kernel
theorem dJ2_getChar_3b067_32 : decode cJ2_getChar_3b067 32 = .ok (.aload_n 0, 1) := by decide +kernel
theorem dJ2_getChar_3b067_33 : decode cJ2_getChar_3b067 33 = .ok (.iload_n 1, 1) := by decide +kernel
theorem dJ2_getChar_3b067_34 : decode cJ2_getChar_3b067 34 = .ok (.iinc 1 1, 3) := by decide +kernel
theorem dJ2_getChar_3b067_37 : decode cJ2_getChar_3b067 37 = .ok (.baload, 1) := by decide +kernel
theorem dJ2_getChar_3b067_38 : decode cJ2_getChar_3b067 38 = .ok (.sipush 255, 3) := by decide +kernel
theorem dJ2_getChar_3b067_41 : decode cJ2_getChar_3b067 41 = .ok (.iand, 1) := by decide +kernel
theorem dJ2_getChar_3b067_42 : decode cJ2_getChar_3b067 42 = .ok (.getstatic 59, 3) := by decide +kernel
theorem dJ2_getChar_3b067_45 : decode cJ2_getChar_3b067 45 = .ok (.ishl, 1) := by decide +kernel
theorem dJ2_getChar_3b067_46 : decode cJ2_getChar_3b067 46 = .ok (.aload_n 0, 1) := by decide +kernel
theorem dJ2_getChar_3b067_47 : decode cJ2_getChar_3b067 47 = .ok (.iload_n 1, 1) := by decide +kernel
theorem dJ2_getChar_3b067_48 : decode cJ2_getChar_3b067 48 = .ok (.baload, 1) := by decide +kernel
theorem dJ2_getChar_3b067_49 : decode cJ2_getChar_3b067 49 = .ok (.sipush 255, 3) := by decide +kernel
theorem dJ2_getChar_3b067_52 : decode cJ2_getChar_3b067 52 = .ok (.iand, 1) := by decide +kernel
theorem dJ2_getChar_3b067_53 : decode cJ2_getChar_3b067 53 = .ok (.getstatic 63, 3) := by decide +kernel
theorem dJ2_getChar_3b067_56 : decode cJ2_getChar_3b067 56 = .ok (.ishl, 1) := by decide +kernel
theorem dJ2_getChar_3b067_57 : decode cJ2_getChar_3b067 57 = .ok (.ior, 1) := by decide +kernel
theorem dJ2_getChar_3b067_58 : decode cJ2_getChar_3b067 58 = .ok (.i2c, 1) := by decide +kernel
theorem dJ2_getChar_3b067_59 : decode cJ2_getChar_3b067 59 = .ok (.ireturn, 1) := by decide +kernel
theorem dJ2_length_9d52b_0 : decode cJ2_length_9d52b 0 = .ok (.aload_n 0, 1) := by decide +kernel
theorem dJ2_length_9d52b_1 : decode cJ2_length_9d52b 1 = .ok (.arraylength, 1) := by decide +kernel
theorem dJ2_length_9d52b_2 : decode cJ2_length_9d52b 2 = .ok (.iconst 1, 1) := by decide +kernel
theorem dJ2_length_9d52b_3 : decode cJ2_length_9d52b 3 = .ok (.ishr, 1) := by decide +kernel
theorem dJ2_length_9d52b_4 : decode cJ2_length_9d52b 4 = .ok (.ireturn, 1) := by decide +kernel
theorem dJ2_indexOf_4cfef_0 : decode cJ2_indexOf_4cfef 0 = .ok (.iload_n 2, 1) := by decide +kernel
theorem dJ2_indexOf_4cfef_1 : decode cJ2_indexOf_4cfef 1 = .ok (.iconst 0, 1) := by decide +kernel
theorem dJ2_indexOf_4cfef_2 : decode cJ2_indexOf_4cfef 2 = .ok (.invokestatic 224, 3) := by decide +kernel
theorem dJ2_indexOf_4cfef_5 : decode cJ2_indexOf_4cfef 5 = .ok (.istore_n 2, 1) := by decide +kernel
theorem dJ2_indexOf_4cfef_6 : decode cJ2_indexOf_4cfef 6 = .ok (.iload_n 3, 1) := by decide +kernel
theorem dJ2_indexOf_4cfef_7 : decode cJ2_indexOf_4cfef 7 = .ok (.aload_n 0, 1) := by decide +kernel
theorem dJ2_indexOf_4cfef_8 : decode cJ2_indexOf_4cfef 8 = .ok (.arraylength, 1) := by decide +kernel
theorem dJ2_indexOf_4cfef_9 : decode cJ2_indexOf_4cfef 9 = .ok (.iconst 1, 1) := by decide +kernel
theorem dJ2_indexOf_4cfef_10 : decode cJ2_indexOf_4cfef 10 = .ok (.ishr, 1) := by decide +kernel
theorem dJ2_indexOf_4cfef_11 : decode cJ2_indexOf_4cfef 11 = .ok (.invokestatic 183, 3) := by decide +kernel
theorem dJ2_indexOf_4cfef_14 : decode cJ2_indexOf_4cfef 14 = .ok (.istore_n 3, 1) := by decide +kernel
theorem dJ2_indexOf_4cfef_15 : decode cJ2_indexOf_4cfef 15 = .ok (.iload_n 2, 1) := by decide +kernel
theorem dJ2_indexOf_4cfef_16 : decode cJ2_indexOf_4cfef 16 = .ok (.iload_n 3, 1) := by decide +kernel
theorem dJ2_indexOf_4cfef_17 : decode cJ2_indexOf_4cfef 17 = .ok (.if_icmp .lt 5, 3) := by decide +kernel
theorem dJ2_indexOf_4cfef_20 : decode cJ2_indexOf_4cfef 20 = .ok (.iconst (-1), 1) := by decide +kernel
theorem dJ2_indexOf_4cfef_21 : decode cJ2_indexOf_4cfef 21 = .ok (.ireturn, 1) := by decide +kernel
theorem dJ2_indexOf_4cfef_22 : decode cJ2_indexOf_4cfef 22 = .ok (.iload_n 1, 1) := by decide +kernel
theorem dJ2_indexOf_4cfef_23 : decode cJ2_indexOf_4cfef 23 = .ok (.ldc 227, 2) := by decide +kernel
theorem dJ2_indexOf_4cfef_25 : decode cJ2_indexOf_4cfef 25 = .ok (.if_icmp .ge 11, 3) := by decide +kernel
theorem dJ2_indexOf_4cfef_28 : decode cJ2_indexOf_4cfef 28 = .ok (.aload_n 0, 1) := by decide +kernel
theorem dJ2_indexOf_4cfef_29 : decode cJ2_indexOf_4cfef 29 = .ok (.iload_n 1, 1) := by decide +kernel
theorem dJ2_indexOf_4cfef_30 : decode cJ2_indexOf_4cfef 30 = .ok (.iload_n 2, 1) := by decide +kernel
theorem dJ2_indexOf_4cfef_31 : decode cJ2_indexOf_4cfef 31 = .ok (.iload_n 3, 1) := by decide +kernel
theorem dJ2_indexOf_4cfef_32 : decode cJ2_indexOf_4cfef 32 = .ok (.invokestatic 228, 3) := by decide +kernel
theorem dJ2_indexOf_4cfef_35 : decode cJ2_indexOf_4cfef 35 = .ok (.ireturn, 1) := by decide +kernel
theorem dJ2_indexOf_4cfef_36 : decode cJ2_indexOf_4cfef 36 = .ok (.aload_n 0, 1) := by decide +kernel
theorem dJ2_indexOf_4cfef_37 : decode cJ2_indexOf_4cfef 37 = .ok (.iload_n 1, 1) := by decide +kernel
theorem dJ2_indexOf_4cfef_38 : decode cJ2_indexOf_4cfef 38 = .ok (.iload_n 2, 1) := by decide +kernel
theorem dJ2_indexOf_4cfef_39 : decode cJ2_indexOf_4cfef 39 = .ok (.iload_n 3, 1) := by decide +kernel
theorem dJ2_indexOf_4cfef_40 : decode cJ2_indexOf_4cfef 40 = .ok (.invokestatic 232, 3) := by decide +kernel
theorem dJ2_indexOf_4cfef_43 : decode cJ2_indexOf_4cfef 43 = .ok (.ireturn, 1) := by decide +kernel
theorem dJ2_indexOfChar_4cfef_0 : decode cJ2_indexOfChar_4cfef 0 = .ok (.iload_n 2, 1) := by decide +kernel
theorem dJ2_indexOfChar_4cfef_1 : decode cJ2_indexOfChar_4cfef 1 = .ok (.iload_n 3, 1) := by decide +kernel
theorem dJ2_indexOfChar_4cfef_2 : decode cJ2_indexOfChar_4cfef 2 = .ok (.aload_n 0, 1) := by decide +kernel
theorem dJ2_indexOfChar_4cfef_3 : decode cJ2_indexOfChar_4cfef 3 = .ok (.invokestatic 96, 3) := by decide +kernel
theorem dJ2_indexOfChar_4cfef_6 : decode cJ2_indexOfChar_4cfef 6 = .ok (.aload_n 0, 1) := by decide +kernel
theorem dJ2_indexOfChar_4cfef_7 : decode cJ2_indexOfChar_4cfef 7 = .ok (.iload_n 1, 1) := by decide +kernel
theorem dJ2_indexOfChar_4cfef_8 : decode cJ2_indexOfChar_4cfef 8 = .ok (.iload_n 2, 1) := by decide +kernel
theorem dJ2_indexOfChar_4cfef_9 : decode cJ2_indexOfChar_4cfef 9 = .ok (.iload_n 3, 1) := by decide +kernel
theorem dJ2_indexOfChar_4cfef_10 : decode cJ2_indexOfChar_4cfef 10 = .ok (.invokestatic 244, 3) := by decide +kernel
theorem dJ2_indexOfChar_4cfef_13 : decode cJ2_indexOfChar_4cfef 13 = .ok (.ireturn, 1) := by decide +kernel
theorem dJ2_indexOfCharUnsafe_4cfef_0 : decode cJ2_indexOfCharUnsafe_4cfef 0 = .ok (.iload_n 2, 1) := by decide +kernel
theorem dJ2_indexOfCharUnsafe_4cfef_1 : decode cJ2_indexOfCharUnsafe_4cfef 1 = .ok (.istore 4, 2) := by decide +kernel
theorem dJ2_indexOfCharUnsafe_4cfef_3 : decode cJ2_indexOfCharUnsafe_4cfef 3 = .ok (.iload 4, 2) := by decide +kernel
theorem dJ2_indexOfCharUnsafe_4cfef_5 : decode cJ2_indexOfCharUnsafe_4cfef 5 = .ok (.iload_n 3, 1) := by decide +kernel
theorem dJ2_indexOfCharUnsafe_4cfef_6 : decode cJ2_indexOfCharUnsafe_4cfef 6 = .ok (.if_icmp .ge 22, 3) := by decide +kernel
theorem dJ2_indexOfCharUnsafe_4cfef_9 : decode cJ2_indexOfCharUnsafe_4cfef 9 = .ok (.aload_n 0, 1) := by decide +kernel
theorem dJ2_indexOfCharUnsafe_4cfef_10 : decode cJ2_indexOfCharUnsafe_4cfef 10 = .ok (.iload 4, 2) := by decide +kernel
theorem dJ2_indexOfCharUnsafe_4cfef_12 : decode cJ2_indexOfCharUnsafe_4cfef 12 = .ok (.invokestatic 71, 3) := by decide +kernel
theorem dJ2_indexOfCharUnsafe_4cfef_15 : decode cJ2_indexOfCharUnsafe_4cfef 15 = .ok (.iload_n 1, 1) := by decide +kernel
theorem dJ2_indexOfCharUnsafe_4cfef_16 : decode cJ2_indexOfCharUnsafe_4cfef 16 = .ok (.if_icmp .ne 6, 3) := by decide +kernel
theorem dJ2_indexOfCharUnsafe_4cfef_19 : decode cJ2_indexOfCharUnsafe_4cfef 19 = .ok (.iload 4, 2) := by decide +kernel
theorem dJ2_indexOfCharUnsafe_4cfef_21 : decode cJ2_indexOfCharUnsafe_4cfef 21 = .ok (.ireturn, 1) := by decide +kernel
theorem dJ2_indexOfCharUnsafe_4cfef_22 : decode cJ2_indexOfCharUnsafe_4cfef 22 = .ok (.iinc 4 1, 3) := by decide +kernel
theorem dJ2_indexOfCharUnsafe_4cfef_25 : decode cJ2_indexOfCharUnsafe_4cfef 25 = .ok (.goto (-22), 3) := by decide +kernel
theorem dJ2_indexOfCharUnsafe_4cfef_28 : decode cJ2_indexOfCharUnsafe_4cfef 28 = .ok (.iconst (-1), 1) := by decide +kernel
theorem dJ2_indexOfCharUnsafe_4cfef_29 : decode cJ2_indexOfCharUnsafe_4cfef 29 = .ok (.ireturn, 1) := by decide +kernel
theorem dJ2_indexOfSupplementary_4cfef_0 : decode cJ2_indexOfSupplementary_4cfef 0 = .ok (.iload_n 1, 1) := by decide +kernel
theorem dJ2_indexOfSupplementary_4cfef_1 : decode cJ2_indexOfSupplementary_4cfef 1 = .ok (.invokestatic 164, 3) := by decide +kernel
theorem dJ2_indexOfSupplementary_4cfef_4 : decode cJ2_indexOfSupplementary_4cfef 4 = .ok (.ifCond .eq 65, 3) := by decide +kernel
theorem dJ2_indexOfSupplementary_4cfef_7 : decode cJ2_indexOfSupplementary_4cfef 7 = .ok (.iload_n 1, 1) := by decide +kernel
theorem dJ2_indexOfSupplementary_4cfef_8 : decode cJ2_indexOfSupplementary_4cfef 8 = .ok (.invokestatic 157, 3) := by decide +kernel
theorem dJ2_indexOfSupplementary_4cfef_11 : decode cJ2_indexOfSupplementary_4cfef 11 = .ok (.istore 4, 2) := by decide +kernel
theorem dJ2_indexOfSupplementary_4cfef_13 : decode cJ2_indexOfSupplementary_4cfef 13 = .ok (.iload_n 1, 1) := by decide +kernel
theorem dJ2_indexOfSupplementary_4cfef_14 : decode cJ2_indexOfSupplementary_4cfef 14 = .ok (.invokestatic 161, 3) := by decide +kernel
theorem dJ2_indexOfSupplementary_4cfef_17 : decode cJ2_indexOfSupplementary_4cfef 17 = .ok (.istore 5, 2) := by decide +kernel
theorem dJ2_indexOfSupplementary_4cfef_19 : decode cJ2_indexOfSupplementary_4cfef 19 = .ok (.iload_n 2, 1) := by decide +kernel
theorem dJ2_indexOfSupplementary_4cfef_20 : decode cJ2_indexOfSupplementary_4cfef 20 = .ok (.iload_n 3, 1) := by decide +kernel
theorem dJ2_indexOfSupplementary_4cfef_21 : decode cJ2_indexOfSupplementary_4cfef 21 = .ok (.aload_n 0, 1) := by decide +kernel
theorem dJ2_indexOfSupplementary_4cfef_22 : decode cJ2_indexOfSupplementary_4cfef 22 = .ok (.invokestatic 96, 3) := by decide +kernel
theorem dJ2_indexOfSupplementary_4cfef_25 : decode cJ2_indexOfSupplementary_4cfef 25 = .ok (.iload_n 2, 1) := by decide +kernel
theorem dJ2_indexOfSupplementary_4cfef_26 : decode cJ2_indexOfSupplementary_4cfef 26 = .ok (.istore 6, 2) := by decide +kernel
theorem dJ2_indexOfSupplementary_4cfef_28 : decode cJ2_indexOfSupplementary_4cfef 28 = .ok (.iload 6, 2) := by decide +kernel
theorem dJ2_indexOfSupplementary_4cfef_30 : decode cJ2_indexOfSupplementary_4cfef 30 = .ok (.iload_n 3, 1) := by decide +kernel
theorem dJ2_indexOfSupplementary_4cfef_31 : decode cJ2_indexOfSupplementary_4cfef 31 = .ok (.iconst 1, 1) := by decide +kernel
theorem dJ2_indexOfSupplementary_4cfef_32 : decode cJ2_indexOfSupplementary_4cfef 32 = .ok (.isub, 1) := by decide +kernel
theorem dJ2_indexOfSupplementary_4cfef_33 : decode cJ2_indexOfSupplementary_4cfef 33 = .ok (.if_icmp .ge 36, 3) := by decide +kernel
theorem dJ2_indexOfSupplementary_4cfef_36 : decode cJ2_indexOfSupplementary_4cfef 36 = .ok (.aload_n 0, 1) := by decide +kernel
theorem dJ2_indexOfSupplementary_4cfef_37 : decode cJ2_indexOfSupplementary_4cfef 37 = .ok (.iload 6, 2) := by decide +kernel
theorem dJ2_indexOfSupplementary_4cfef_39 : decode cJ2_indexOfSupplementary_4cfef 39 = .ok (.invokestatic 71, 3) := by decide +kernel
theorem dJ2_indexOfSupplementary_4cfef_42 : decode cJ2_indexOfSupplementary_4cfef 42 = .ok (.iload 4, 2) := by decide +kernel
theorem dJ2_indexOfSupplementary_4cfef_44 : decode cJ2_indexOfSupplementary_4cfef 44 = .ok (.if_icmp .ne 19, 3) := by decide +kernel
theorem dJ2_indexOfSupplementary_4cfef_47 : decode cJ2_indexOfSupplementary_4cfef 47 = .ok (.aload_n 0, 1) := by decide +kernel
theorem dJ2_indexOfSupplementary_4cfef_48 : decode cJ2_indexOfSupplementary_4cfef 48 = .ok (.iload 6, 2) := by decide +kernel
theorem dJ2_indexOfSupplementary_4cfef_50 : decode cJ2_indexOfSupplementary_4cfef 50 = .ok (.iconst 1, 1) := by decide +kernel
theorem dJ2_indexOfSupplementary_4cfef_51 : decode cJ2_indexOfSupplementary_4cfef 51 = .ok (.iadd, 1) := by decide +kernel
theorem dJ2_indexOfSupplementary_4cfef_52 : decode cJ2_indexOfSupplementary_4cfef 52 = .ok (.invokestatic 71, 3) := by decide +kernel
theorem dJ2_indexOfSupplementary_4cfef_55 : decode cJ2_indexOfSupplementary_4cfef 55 = .ok (.iload 5, 2) := by decide +kernel
theorem dJ2_indexOfSupplementary_4cfef_57 : decode cJ2_indexOfSupplementary_4cfef 57 = .ok (.if_icmp .ne 6, 3) := by decide +kernel
theorem dJ2_indexOfSupplementary_4cfef_60 : decode cJ2_indexOfSupplementary_4cfef 60 = .ok (.iload 6, 2) := by decide +kernel
theorem dJ2_indexOfSupplementary_4cfef_62 : decode cJ2_indexOfSupplementary_4cfef 62 = .ok (.ireturn, 1) := by decide +kernel
theorem dJ2_indexOfSupplementary_4cfef_63 : decode cJ2_indexOfSupplementary_4cfef 63 = .ok (.iinc 6 1, 3) := by decide +kernel
theorem dJ2_indexOfSupplementary_4cfef_66 : decode cJ2_indexOfSupplementary_4cfef 66 = .ok (.goto (-38), 3) := by decide +kernel
theorem dJ2_indexOfSupplementary_4cfef_69 : decode cJ2_indexOfSupplementary_4cfef 69 = .ok (.iconst (-1), 1) := by decide +kernel
theorem dJ2_indexOfSupplementary_4cfef_70 : decode cJ2_indexOfSupplementary_4cfef 70 = .ok (.ireturn, 1) := by decide +kernel
theorem dJ2_charAt_3b067_0 : decode cJ2_charAt_3b067 0 = .ok (.iload_n 1, 1) := by decide +kernel
theorem dJ2_charAt_3b067_1 : decode cJ2_charAt_3b067 1 = .ok (.aload_n 0, 1) := by decide +kernel
theorem dJ2_charAt_3b067_2 : decode cJ2_charAt_3b067 2 = .ok (.invokestatic 67, 3) := by decide +kernel
theorem dJ2_charAt_3b067_5 : decode cJ2_charAt_3b067 5 = .ok (.aload_n 0, 1) := by decide +kernel
theorem dJ2_charAt_3b067_6 : decode cJ2_charAt_3b067 6 = .ok (.iload_n 1, 1) := by decide +kernel
theorem dJ2_charAt_3b067_7 : decode cJ2_charAt_3b067 7 = .ok (.invokestatic 71, 3) := by decide +kernel
theorem dJ2_charAt_3b067_10 : decode cJ2_charAt_3b067 10 = .ok (.ireturn, 1) := by decide +kernel
theorem dJ2_checkIndex_2214a_0 : decode cJ2_checkIndex_2214a 0 = .ok (.iload_n 0, 1) := by decide +kernel
theorem dJ2_checkIndex_2214a_1 : decode cJ2_checkIndex_2214a 1 = .ok (.aload_n 1, 1) := by decide +kernel
theorem dJ2_checkIndex_2214a_2 : decode cJ2_checkIndex_2214a 2 = .ok (.invokestatic 48, 3) := by decide +kernel
theorem dJ2_checkIndex_2214a_5 : decode cJ2_checkIndex_2214a 5 = .ok (.invokestatic 414, 3) := by decide +kernel
theorem dJ2_checkIndex_2214a_8 : decode cJ2_checkIndex_2214a 8 = .ok (.return_, 1) := by decide +kernel
theorem dJ2_checkBoundsBeginEnd_d044e_0 : decode cJ2_checkBoundsBeginEnd_d044e 0 = .ok (.iload_n 0, 1) := by decide +kernel
theorem dJ2_checkBoundsBeginEnd_d044e_1 : decode cJ2_checkBoundsBeginEnd_d044e 1 = .ok (.iload_n 1, 1) := by decide +kernel
theorem dJ2_checkBoundsBeginEnd_d044e_2 : decode cJ2_checkBoundsBeginEnd_d044e 2 = .ok (.aload_n 2, 1) := by decide +kernel
theorem dJ2_checkBoundsBeginEnd_d044e_3 : decode cJ2_checkBoundsBeginEnd_d044e 3 = .ok (.invokestatic 48, 3) := by decide +kernel
theorem dJ2_checkBoundsBeginEnd_d044e_6 : decode cJ2_checkBoundsBeginEnd_d044e 6 = .ok (.invokestatic 241, 3) := by decide +kernel
theorem dJ2_checkBoundsBeginEnd_d044e_9 : decode cJ2_checkBoundsBeginEnd_d044e 9 = .ok (.return_, 1) := by decide +kernel
theorem dJ7_fill_d0a16_0 : decode cJ7_fill_d0a16 0 = .ok (.iconst 0, 1) := by decide +kernel
theorem dJ7_fill_d0a16_1 : decode cJ7_fill_d0a16 1 = .ok (.istore_n 3, 1) := by decide +kernel
theorem dJ7_fill_d0a16_2 : decode cJ7_fill_d0a16 2 = .ok (.aload_n 0, 1) := by decide +kernel
theorem dJ7_fill_d0a16_3 : decode cJ7_fill_d0a16 3 = .ok (.arraylength, 1) := by decide +kernel
theorem dJ7_fill_d0a16_4 : decode cJ7_fill_d0a16 4 = .ok (.istore 4, 2) := by decide +kernel
theorem dJ7_fill_d0a16_6 : decode cJ7_fill_d0a16 6 = .ok (.iload_n 3, 1) := by decide +kernel
theorem dJ7_fill_d0a16_7 : decode cJ7_fill_d0a16 7 = .ok (.iload 4, 2) := by decide +kernel
theorem dJ7_fill_d0a16_9 : decode cJ7_fill_d0a16 9 = .ok (.if_icmp .ge 13, 3) := by decide +kernel
theorem dJ7_fill_d0a16_12 : decode cJ7_fill_d0a16 12 = .ok (.aload_n 0, 1) := by decide +kernel
theorem dJ7_fill_d0a16_13 : decode cJ7_fill_d0a16 13 = .ok (.iload_n 3, 1) := by decide +kernel
theorem dJ7_fill_d0a16_14 : decode cJ7_fill_d0a16 14 = .ok (.lload_n 1, 1) := by decide +kernel
theorem dJ7_fill_d0a16_15 : decode cJ7_fill_d0a16 15 = .ok (.lastore, 1) := by decide +kernel
theorem dJ7_fill_d0a16_16 : decode cJ7_fill_d0a16 16 = .ok (.iinc 3 1, 3) := by decide +kernel
theorem dJ7_fill_d0a16_19 : decode cJ7_fill_d0a16 19 = .ok (.goto (-13), 3) := by decide +kernel
theorem dJ7_fill_d0a16_22 : decode cJ7_fill_d0a16 22 = .ok (.return_, 1) := by decide +kernel
theorem dJ7_fill_e525d_0 : decode cJ7_fill_e525d 0 = .ok (.iconst 0, 1) := by decide +kernel
theorem dJ7_fill_e525d_1 : decode cJ7_fill_e525d 1 = .ok (.istore_n 2, 1) := by decide +kernel
theorem dJ7_fill_e525d_2 : decode cJ7_fill_e525d 2 = .ok (.aload_n 0, 1) := by decide +kernel
theorem dJ7_fill_e525d_3 : decode cJ7_fill_e525d 3 = .ok (.arraylength, 1) := by decide +kernel
theorem dJ7_fill_e525d_4 : decode cJ7_fill_e525d 4 = .ok (.istore_n 3, 1) := by decide +kernel
theorem dJ7_fill_e525d_5 : decode cJ7_fill_e525d 5 = .ok (.iload_n 2, 1) := by decide +kernel
theorem dJ7_fill_e525d_6 : decode cJ7_fill_e525d 6 = .ok (.iload_n 3, 1) := by decide +kernel
theorem dJ7_fill_e525d_7 : decode cJ7_fill_e525d 7 = .ok (.if_icmp .ge 13, 3) := by decide +kernel
theorem dJ7_fill_e525d_10 : decode cJ7_fill_e525d 10 = .ok (.aload_n 0, 1) := by decide +kernel
theorem dJ7_fill_e525d_11 : decode cJ7_fill_e525d 11 = .ok (.iload_n 2, 1) := by decide +kernel
theorem dJ7_fill_e525d_12 : decode cJ7_fill_e525d 12 = .ok (.fload_n 1, 1) := by decide +kernel
theorem dJ7_fill_e525d_13 : decode cJ7_fill_e525d 13 = .ok (.fastore, 1) := by decide +kernel
theorem dJ7_fill_e525d_14 : decode cJ7_fill_e525d 14 = .ok (.iinc 2 1, 3) := by decide +kernel
theorem dJ7_fill_e525d_17 : decode cJ7_fill_e525d 17 = .ok (.goto (-12), 3) := by decide +kernel
theorem dJ7_fill_e525d_20 : decode cJ7_fill_e525d 20 = .ok (.return_, 1) := by decide +kernel
theorem dJ7_copyOf_59c91_0 : decode cJ7_copyOf_59c91 0 = .ok (.iload_n 1, 1) := by decide +kernel
theorem dJ7_copyOf_59c91_1 : decode cJ7_copyOf_59c91 1 = .ok (.aload_n 0, 1) := by decide +kernel
theorem dJ7_copyOf_59c91_2 : decode cJ7_copyOf_59c91 2 = .ok (.arraylength, 1) := by decide +kernel
theorem dJ7_copyOf_59c91_3 : decode cJ7_copyOf_59c91 3 = .ok (.if_icmp .ne 11, 3) := by decide +kernel
theorem dJ7_copyOf_59c91_6 : decode cJ7_copyOf_59c91 6 = .ok (.aload_n 0, 1) := by decide +kernel
theorem dJ7_copyOf_59c91_7 : decode cJ7_copyOf_59c91 7 = .ok (.invokevirtual 316, 3) := by decide +kernel
theorem dJ7_copyOf_59c91_10 : decode cJ7_copyOf_59c91 10 = .ok (.checkcast 317, 3) := by decide +kernel
theorem dJ7_copyOf_59c91_13 : decode cJ7_copyOf_59c91 13 = .ok (.areturn, 1) := by decide +kernel
theorem dJ7_copyOf_59c91_14 : decode cJ7_copyOf_59c91 14 = .ok (.iload_n 1, 1) := by decide +kernel
theorem dJ7_copyOf_59c91_15 : decode cJ7_copyOf_59c91 15 = .ok (.newarray .int, 2) := by decide +kernel
theorem dJ7_copyOf_59c91_17 : decode cJ7_copyOf_59c91 17 = .ok (.astore_n 2, 1) := by decide +kernel
theorem dJ7_copyOf_59c91_18 : decode cJ7_copyOf_59c91 18 = .ok (.aload_n 0, 1) := by decide +kernel
theorem dJ7_copyOf_59c91_19 : decode cJ7_copyOf_59c91 19 = .ok (.iconst 0, 1) := by decide +kernel
theorem dJ7_copyOf_59c91_20 : decode cJ7_copyOf_59c91 20 = .ok (.aload_n 2, 1) := by decide +kernel
theorem dJ7_copyOf_59c91_21 : decode cJ7_copyOf_59c91 21 = .ok (.iconst 0, 1) := by decide +kernel
theorem dJ7_copyOf_59c91_22 : decode cJ7_copyOf_59c91 22 = .ok (.aload_n 0, 1) := by decide +kernel
theorem dJ7_copyOf_59c91_23 : decode cJ7_copyOf_59c91 23 = .ok (.arraylength, 1) := by decide +kernel
theorem dJ7_copyOf_59c91_24 : decode cJ7_copyOf_59c91 24 = .ok (.iload_n 1, 1) := by decide +kernel
theorem dJ7_copyOf_59c91_25 : decode cJ7_copyOf_59c91 25 = .ok (.invokestatic 304, 3) := by decide +kernel
theorem dJ7_copyOf_59c91_28 : decode cJ7_copyOf_59c91 28 = .ok (.invokestatic 150, 3) := by decide +kernel
theorem dJ7_copyOf_59c91_31 : decode cJ7_copyOf_59c91 31 = .ok (.aload_n 2, 1) := by decide +kernel
theorem dJ7_copyOf_59c91_32 : decode cJ7_copyOf_59c91 32 = .ok (.areturn, 1) := by decide +kernel
theorem dJ7_copyOf_c38d5_0 : decode cJ7_copyOf_c38d5 0 = .ok (.iload_n 1, 1) := by decide +kernel
theorem dJ7_copyOf_c38d5_1 : decode cJ7_copyOf_c38d5 1 = .ok (.aload_n 0, 1) := by decide +kernel
theorem dJ7_copyOf_c38d5_2 : decode cJ7_copyOf_c38d5 2 = .ok (.arraylength, 1) := by decide +kernel
theorem dJ7_copyOf_c38d5_3 : decode cJ7_copyOf_c38d5 3 = .ok (.if_icmp .ne 11, 3) := by decide +kernel
theorem dJ7_copyOf_c38d5_6 : decode cJ7_copyOf_c38d5 6 = .ok (.aload_n 0, 1) := by decide +kernel
theorem dJ7_copyOf_c38d5_7 : decode cJ7_copyOf_c38d5 7 = .ok (.invokevirtual 319, 3) := by decide +kernel
theorem dJ7_copyOf_c38d5_10 : decode cJ7_copyOf_c38d5 10 = .ok (.checkcast 320, 3) := by decide +kernel
theorem dJ7_copyOf_c38d5_13 : decode cJ7_copyOf_c38d5 13 = .ok (.areturn, 1) := by decide +kernel
theorem dJ7_copyOf_c38d5_14 : decode cJ7_copyOf_c38d5 14 = .ok (.iload_n 1, 1) := by decide +kernel
theorem dJ7_copyOf_c38d5_15 : decode cJ7_copyOf_c38d5 15 = .ok (.newarray .long, 2) := by decide +kernel
theorem dJ7_copyOf_c38d5_17 : decode cJ7_copyOf_c38d5 17 = .ok (.astore_n 2, 1) := by decide +kernel
theorem dJ7_copyOf_c38d5_18 : decode cJ7_copyOf_c38d5 18 = .ok (.aload_n 0, 1) := by decide +kernel
theorem dJ7_copyOf_c38d5_19 : decode cJ7_copyOf_c38d5 19 = .ok (.iconst 0, 1) := by decide +kernel
theorem dJ7_copyOf_c38d5_20 : decode cJ7_copyOf_c38d5 20 = .ok (.aload_n 2, 1) := by decide +kernel
theorem dJ7_copyOf_c38d5_21 : decode cJ7_copyOf_c38d5 21 = .ok (.iconst 0, 1) := by decide +kernel
theorem dJ7_copyOf_c38d5_22 : decode cJ7_copyOf_c38d5 22 = .ok (.aload_n 0, 1) := by decide +kernel
theorem dJ7_copyOf_c38d5_23 : decode cJ7_copyOf_c38d5 23 = .ok (.arraylength, 1) := by decide +kernel
theorem dJ7_copyOf_c38d5_24 : decode cJ7_copyOf_c38d5 24 = .ok (.iload_n 1, 1) := by decide +kernel
theorem dJ7_copyOf_c38d5_25 : decode cJ7_copyOf_c38d5 25 = .ok (.invokestatic 304, 3) := by decide +kernel
theorem dJ7_copyOf_c38d5_28 : decode cJ7_copyOf_c38d5 28 = .ok (.invokestatic 150, 3) := by decide +kernel
theorem dJ7_copyOf_c38d5_31 : decode cJ7_copyOf_c38d5 31 = .ok (.aload_n 2, 1) := by decide +kernel
theorem dJ7_copyOf_c38d5_32 : decode cJ7_copyOf_c38d5 32 = .ok (.areturn, 1) := by decide +kernel
theorem dJ3_checkIndex_8e157_0 : decode cJ3_checkIndex_8e157 0 = .ok (.iload_n 0, 1) := by decide +kernel
theorem dJ3_checkIndex_8e157_1 : decode cJ3_checkIndex_8e157 1 = .ok (.ifCond .lt 8, 3) := by decide +kernel
theorem dJ3_checkIndex_8e157_4 : decode cJ3_checkIndex_8e157 4 = .ok (.iload_n 0, 1) := by decide +kernel
theorem dJ3_checkIndex_8e157_5 : decode cJ3_checkIndex_8e157 5 = .ok (.iload_n 1, 1) := by decide +kernel
theorem dJ3_checkIndex_8e157_6 : decode cJ3_checkIndex_8e157 6 = .ok (.if_icmp .lt 10, 3) := by decide +kernel
theorem dJ3_checkIndex_8e157_9 : decode cJ3_checkIndex_8e157 9 = .ok (.aload_n 2, 1) := by decide +kernel
theorem dJ3_checkIndex_8e157_10 : decode cJ3_checkIndex_8e157 10 = .ok (.iload_n 0, 1) := by decide +kernel
theorem dJ3_checkIndex_8e157_11 : decode cJ3_checkIndex_8e157 11 = .ok (.iload_n 1, 1) := by decide +kernel
theorem dJ3_checkIndex_8e157_12 : decode cJ3_checkIndex_8e157 12 = .ok (.invokestatic 95, 3) := by decide +kernel
theorem dJ3_checkIndex_8e157_15 : decode cJ3_checkIndex_8e157 15 = .ok (.athrow, 1) := by decide +kernel
theorem dJ3_checkIndex_8e157_16 : decode cJ3_checkIndex_8e157 16 = .ok (.iload_n 0, 1) := by decide +kernel
theorem dJ3_checkIndex_8e157_17 : decode cJ3_checkIndex_8e157 17 = .ok (.ireturn, 1) := by decide +kernel
theorem dJ3_checkFromToIndex_8c36e_0 : decode cJ3_checkFromToIndex_8c36e 0 = .ok (.iload_n 0, 1) := by decide +kernel
theorem dJ3_checkFromToIndex_8c36e_1 : decode cJ3_checkFromToIndex_8c36e 1 = .ok (.ifCond .lt 13, 3) := by decide +kernel
theorem dJ3_checkFromToIndex_8c36e_4 : decode cJ3_checkFromToIndex_8c36e 4 = .ok (.iload_n 0, 1) := by decide +kernel
theorem dJ3_checkFromToIndex_8c36e_5 : decode cJ3_checkFromToIndex_8c36e 5 = .ok (.iload_n 1, 1) := by decide +kernel
theorem dJ3_checkFromToIndex_8c36e_6 : decode cJ3_checkFromToIndex_8c36e 6 = .ok (.if_icmp .gt 8, 3) := by decide +kernel
theorem dJ3_checkFromToIndex_8c36e_9 : decode cJ3_checkFromToIndex_8c36e 9 = .ok (.iload_n 1, 1) := by decide +kernel
theorem dJ3_checkFromToIndex_8c36e_10 : decode cJ3_checkFromToIndex_8c36e 10 = .ok (.iload_n 2, 1) := by decide +kernel
theorem dJ3_checkFromToIndex_8c36e_11 : decode cJ3_checkFromToIndex_8c36e 11 = .ok (.if_icmp .le 11, 3) := by decide +kernel
theorem dJ3_checkFromToIndex_8c36e_14 : decode cJ3_checkFromToIndex_8c36e 14 = .ok (.aload_n 3, 1) := by decide +kernel
theorem dJ3_checkFromToIndex_8c36e_15 : decode cJ3_checkFromToIndex_8c36e 15 = .ok (.iload_n 0, 1) := by decide +kernel
theorem dJ3_checkFromToIndex_8c36e_16 : decode cJ3_checkFromToIndex_8c36e 16 = .ok (.iload_n 1, 1) := by decide +kernel
theorem dJ3_checkFromToIndex_8c36e_17 : decode cJ3_checkFromToIndex_8c36e 17 = .ok (.iload_n 2, 1) := by decide +kernel
theorem dJ3_checkFromToIndex_8c36e_18 : decode cJ3_checkFromToIndex_8c36e 18 = .ok (.invokestatic 99, 3) := by decide +kernel
theorem dJ3_checkFromToIndex_8c36e_21 : decode cJ3_checkFromToIndex_8c36e 21 = .ok (.athrow, 1) := by decide +kernel
theorem dJ3_checkFromToIndex_8c36e_22 : decode cJ3_checkFromToIndex_8c36e 22 = .ok (.iload_n 0, 1) := by decide +kernel
theorem dJ3_checkFromToIndex_8c36e_23 : decode cJ3_checkFromToIndex_8c36e 23 = .ok (.ireturn, 1) := by decide +kernel
