theorem dX0_init_0 : decode cX0_init 0 = .ok (.aload_n 0, 1) := by decide +kernel
theorem dX0_init_1 : decode cX0_init 1 = .ok (.invokespecial 3, 3) := by decide +kernel
theorem dX0_init_4 : decode cX0_init 4 = .ok (.aload_n 0, 1) := by decide +kernel
theorem dX0_init_5 : decode cX0_init 5 = .ok (.bipush 6, 2) := by decide +kernel
theorem dX0_init_7 : decode cX0_init 7 = .ok (.newarray .float, 2) := by decide +kernel
theorem dX0_init_9 : decode cX0_init 9 = .ok (.putfield 9, 3) := by decide +kernel
theorem dX0_init_12 : decode cX0_init 12 = .ok (.aload_n 0, 1) := by decide +kernel
theorem dX0_init_13 : decode cX0_init 13 = .ok (.fconst 1, 1) := by decide +kernel
theorem dX0_init_14 : decode cX0_init 14 = .ok (.putfield 15, 3) := by decide +kernel
theorem dX0_init_17 : decode cX0_init 17 = .ok (.return_, 1) := by decide +kernel
theorem dX0_clear_0 : decode cX0_clear 0 = .ok (.aload_n 0, 1) := by decide +kernel
theorem dX0_clear_1 : decode cX0_clear 1 = .ok (.getfield 9, 3) := by decide +kernel
theorem dX0_clear_4 : decode cX0_clear 4 = .ok (.fconst 0, 1) := by decide +kernel
theorem dX0_clear_5 : decode cX0_clear 5 = .ok (.invokestatic 19, 3) := by decide +kernel
theorem dX0_clear_8 : decode cX0_clear 8 = .ok (.aload_n 0, 1) := by decide +kernel
theorem dX0_clear_9 : decode cX0_clear 9 = .ok (.fconst 1, 1) := by decide +kernel
theorem dX0_clear_10 : decode cX0_clear 10 = .ok (.putfield 15, 3) := by decide +kernel
theorem dX0_clear_13 : decode cX0_clear 13 = .ok (.return_, 1) := by decide +kernel
theorem dX0_become_0 : decode cX0_become 0 = .ok (.aload_n 1, 1) := by decide +kernel
theorem dX0_become_1 : decode cX0_become 1 = .ok (.getfield 9, 3) := by decide +kernel
theorem dX0_become_4 : decode cX0_become 4 = .ok (.iconst 0, 1) := by decide +kernel
theorem dX0_become_5 : decode cX0_become 5 = .ok (.aload_n 0, 1) := by decide +kernel
theorem dX0_become_6 : decode cX0_become 6 = .ok (.getfield 9, 3) := by decide +kernel
theorem dX0_become_9 : decode cX0_become 9 = .ok (.iconst 0, 1) := by decide +kernel
theorem dX0_become_10 : decode cX0_become 10 = .ok (.aload_n 0, 1) := by decide +kernel
theorem dX0_become_11 : decode cX0_become 11 = .ok (.getfield 9, 3) := by decide +kernel
theorem dX0_become_14 : decode cX0_become 14 = .ok (.arraylength, 1) := by decide +kernel
theorem dX0_become_15 : decode cX0_become 15 = .ok (.invokestatic 25, 3) := by decide +kernel
theorem dX0_become_18 : decode cX0_become 18 = .ok (.aload_n 0, 1) := by decide +kernel
theorem dX0_become_19 : decode cX0_become 19 = .ok (.aload_n 1, 1) := by decide +kernel
theorem dX0_become_20 : decode cX0_become 20 = .ok (.getfield 15, 3) := by decide +kernel
theorem dX0_become_23 : decode cX0_become 23 = .ok (.putfield 15, 3) := by decide +kernel
theorem dX0_become_26 : decode cX0_become 26 = .ok (.return_, 1) := by decide +kernel
theorem dX0_valueOf_0 : decode cX0_valueOf 0 = .ok (.iload_n 1, 1) := by decide +kernel
theorem dX0_valueOf_1 : decode cX0_valueOf 1 = .ok (.ifCond .lt 21, 3) := by decide +kernel
theorem dX0_valueOf_4 : decode cX0_valueOf 4 = .ok (.iload_n 1, 1) := by decide +kernel
theorem dX0_valueOf_5 : decode cX0_valueOf 5 = .ok (.aload_n 0, 1) := by decide +kernel
theorem dX0_valueOf_6 : decode cX0_valueOf 6 = .ok (.getfield 9, 3) := by decide +kernel
theorem dX0_valueOf_9 : decode cX0_valueOf 9 = .ok (.arraylength, 1) := by decide +kernel
theorem dX0_valueOf_10 : decode cX0_valueOf 10 = .ok (.if_icmp .ge 12, 3) := by decide +kernel
theorem dX0_valueOf_13 : decode cX0_valueOf 13 = .ok (.aload_n 0, 1) := by decide +kernel
theorem dX0_valueOf_14 : decode cX0_valueOf 14 = .ok (.getfield 9, 3) := by decide +kernel
theorem dX0_valueOf_17 : decode cX0_valueOf 17 = .ok (.iload_n 1, 1) := by decide +kernel
theorem dX0_valueOf_18 : decode cX0_valueOf 18 = .ok (.faload, 1) := by decide +kernel
theorem dX0_valueOf_19 : decode cX0_valueOf 19 = .ok (.goto 4, 3) := by decide +kernel
theorem dX0_valueOf_22 : decode cX0_valueOf 22 = .ok (.fconst 0, 1) := by decide +kernel
theorem dX0_valueOf_23 : decode cX0_valueOf 23 = .ok (.freturn, 1) := by decide +kernel
theorem dX0_raise_0 : decode cX0_raise 0 = .ok (.iconst 0, 1) := by decide +kernel
theorem dX0_raise_1 : decode cX0_raise 1 = .ok (.istore_n 2, 1) := by decide +kernel
theorem dX0_raise_2 : decode cX0_raise 2 = .ok (.iconst 0, 1) := by decide +kernel
theorem dX0_raise_3 : decode cX0_raise 3 = .ok (.istore_n 3, 1) := by decide +kernel
theorem dX0_raise_4 : decode cX0_raise 4 = .ok (.iload_n 3, 1) := by decide +kernel
theorem dX0_raise_5 : decode cX0_raise 5 = .ok (.aload_n 0, 1) := by decide +kernel
theorem dX0_raise_6 : decode cX0_raise 6 = .ok (.getfield 9, 3) := by decide +kernel
theorem dX0_raise_9 : decode cX0_raise 9 = .ok (.arraylength, 1) := by decide +kernel
theorem dX0_raise_10 : decode cX0_raise 10 = .ok (.if_icmp .ge 56, 3) := by decide +kernel
theorem dX0_raise_13 : decode cX0_raise 13 = .ok (.iload_n 1, 1) := by decide +kernel
theorem dX0_raise_14 : decode cX0_raise 14 = .ok (.iload_n 3, 1) := by decide +kernel
theorem dX0_raise_15 : decode cX0_raise 15 = .ok (.ishr, 1) := by decide +kernel
theorem dX0_raise_16 : decode cX0_raise 16 = .ok (.iconst 1, 1) := by decide +kernel
theorem dX0_raise_17 : decode cX0_raise 17 = .ok (.iand, 1) := by decide +kernel
theorem dX0_raise_18 : decode cX0_raise 18 = .ok (.ifCond .eq 42, 3) := by decide +kernel
theorem dX0_raise_21 : decode cX0_raise 21 = .ok (.aload_n 0, 1) := by decide +kernel
theorem dX0_raise_22 : decode cX0_raise 22 = .ok (.getfield 9, 3) := by decide +kernel
theorem dX0_raise_25 : decode cX0_raise 25 = .ok (.iload_n 3, 1) := by decide +kernel
theorem dX0_raise_26 : decode cX0_raise 26 = .ok (.aload_n 0, 1) := by decide +kernel
theorem dX0_raise_27 : decode cX0_raise 27 = .ok (.getfield 9, 3) := by decide +kernel
theorem dX0_raise_30 : decode cX0_raise 30 = .ok (.iload_n 3, 1) := by decide +kernel
theorem dX0_raise_31 : decode cX0_raise 31 = .ok (.faload, 1) := by decide +kernel
theorem dX0_raise_32 : decode cX0_raise 32 = .ok (.aload_n 0, 1) := by decide +kernel
theorem dX0_raise_33 : decode cX0_raise 33 = .ok (.getfield 15, 3) := by decide +kernel
theorem dX0_raise_36 : decode cX0_raise 36 = .ok (.fadd, 1) := by decide +kernel
theorem dX0_raise_37 : decode cX0_raise 37 = .ok (.fastore, 1) := by decide +kernel
theorem dX0_raise_38 : decode cX0_raise 38 = .ok (.iload_n 2, 1) := by decide +kernel
theorem dX0_raise_39 : decode cX0_raise 39 = .ok (.ifCond .ne 15, 3) := by decide +kernel
theorem dX0_raise_42 : decode cX0_raise 42 = .ok (.aload_n 0, 1) := by decide +kernel
theorem dX0_raise_43 : decode cX0_raise 43 = .ok (.getfield 9, 3) := by decide +kernel
theorem dX0_raise_46 : decode cX0_raise 46 = .ok (.iload_n 3, 1) := by decide +kernel
theorem dX0_raise_47 : decode cX0_raise 47 = .ok (.faload, 1) := by decide +kernel
theorem dX0_raise_48 : decode cX0_raise 48 = .ok (.ldc 31, 2) := by decide +kernel
theorem dX0_raise_50 : decode cX0_raise 50 = .ok (.fcmp .l, 1) := by decide +kernel
theorem dX0_raise_51 : decode cX0_raise 51 = .ok (.ifCond .le 7, 3) := by decide +kernel
theorem dX0_raise_54 : decode cX0_raise 54 = .ok (.iconst 1, 1) := by decide +kernel
theorem dX0_raise_55 : decode cX0_raise 55 = .ok (.goto 4, 3) := by decide +kernel
theorem dX0_raise_58 : decode cX0_raise 58 = .ok (.iconst 0, 1) := by decide +kernel
theorem dX0_raise_59 : decode cX0_raise 59 = .ok (.istore_n 2, 1) := by decide +kernel
theorem dX0_raise_60 : decode cX0_raise 60 = .ok (.iinc 3 1, 3) := by decide +kernel
theorem dX0_raise_63 : decode cX0_raise 63 = .ok (.goto (-59), 3) := by decide +kernel
theorem dX0_raise_66 : decode cX0_raise 66 = .ok (.aload_n 0, 1) := by decide +kernel
theorem dX0_raise_67 : decode cX0_raise 67 = .ok (.aload_n 0, 1) := by decide +kernel
theorem dX0_raise_68 : decode cX0_raise 68 = .ok (.getfield 15, 3) := by decide +kernel
theorem dX0_raise_71 : decode cX0_raise 71 = .ok (.ldc 32, 2) := by decide +kernel
theorem dX0_raise_73 : decode cX0_raise 73 = .ok (.fmul, 1) := by decide +kernel
theorem dX0_raise_74 : decode cX0_raise 74 = .ok (.putfield 15, 3) := by decide +kernel
theorem dX0_raise_77 : decode cX0_raise 77 = .ok (.iload_n 2, 1) := by decide +kernel
theorem dX0_raise_78 : decode cX0_raise 78 = .ok (.ifCond .eq 7, 3) := by decide +kernel
theorem dX0_raise_81 : decode cX0_raise 81 = .ok (.aload_n 0, 1) := by decide +kernel
theorem dX0_raise_82 : decode cX0_raise 82 = .ok (.invokevirtual 33, 3) := by decide +kernel
theorem dX0_raise_85 : decode cX0_raise 85 = .ok (.return_, 1) := by decide +kernel
theorem dX0_lower_0 : decode cX0_lower 0 = .ok (.iconst 0, 1) := by decide +kernel
theorem dX0_lower_1 : decode cX0_lower 1 = .ok (.istore_n 1, 1) := by decide +kernel
theorem dX0_lower_2 : decode cX0_lower 2 = .ok (.iload_n 1, 1) := by decide +kernel
theorem dX0_lower_3 : decode cX0_lower 3 = .ok (.aload_n 0, 1) := by decide +kernel
theorem dX0_lower_4 : decode cX0_lower 4 = .ok (.getfield 9, 3) := by decide +kernel
theorem dX0_lower_7 : decode cX0_lower 7 = .ok (.arraylength, 1) := by decide +kernel
theorem dX0_lower_8 : decode cX0_lower 8 = .ok (.if_icmp .ge 24, 3) := by decide +kernel
theorem dX0_lower_11 : decode cX0_lower 11 = .ok (.aload_n 0, 1) := by decide +kernel
theorem dX0_lower_12 : decode cX0_lower 12 = .ok (.getfield 9, 3) := by decide +kernel
theorem dX0_lower_15 : decode cX0_lower 15 = .ok (.iload_n 1, 1) := by decide +kernel
theorem dX0_lower_16 : decode cX0_lower 16 = .ok (.aload_n 0, 1) := by decide +kernel
theorem dX0_lower_17 : decode cX0_lower 17 = .ok (.getfield 9, 3) := by decide +kernel
theorem dX0_lower_20 : decode cX0_lower 20 = .ok (.iload_n 1, 1) := by decide +kernel
theorem dX0_lower_21 : decode cX0_lower 21 = .ok (.faload, 1) := by decide +kernel
theorem dX0_lower_22 : decode cX0_lower 22 = .ok (.ldc 36, 2) := by decide +kernel
theorem dX0_lower_24 : decode cX0_lower 24 = .ok (.fmul, 1) := by decide +kernel
theorem dX0_lower_25 : decode cX0_lower 25 = .ok (.fastore, 1) := by decide +kernel
theorem dX0_lower_26 : decode cX0_lower 26 = .ok (.iinc 1 1, 3) := by decide +kernel
theorem dX0_lower_29 : decode cX0_lower 29 = .ok (.goto (-27), 3) := by decide +kernel
theorem dX0_lower_32 : decode cX0_lower 32 = .ok (.aload_n 0, 1) := by decide +kernel
theorem dX0_lower_33 : decode cX0_lower 33 = .ok (.aload_n 0, 1) := by decide +kernel
theorem dX0_lower_34 : decode cX0_lower 34 = .ok (.getfield 15, 3) := by decide +kernel
theorem dX0_lower_37 : decode cX0_lower 37 = .ok (.ldc 36, 2) := by decide +kernel
theorem dX0_lower_39 : decode cX0_lower 39 = .ok (.fmul, 1) := by decide +kernel
theorem dX0_lower_40 : decode cX0_lower 40 = .ok (.putfield 15, 3) := by decide +kernel
theorem dX0_lower_43 : decode cX0_lower 43 = .ok (.return_, 1) := by decide +kernel
theorem dX0_letterAt_0 : decode cX0_letterAt 0 = .ok (.iconst 0, 1) := by decide +kernel
theorem dX0_letterAt_1 : decode cX0_letterAt 1 = .ok (.istore 4, 2) := by decide +kernel
theorem dX0_letterAt_3 : decode cX0_letterAt 3 = .ok (.iload 4, 2) := by decide +kernel
theorem dX0_letterAt_5 : decode cX0_letterAt 5 = .ok (.iload_n 3, 1) := by decide +kernel
theorem dX0_letterAt_6 : decode cX0_letterAt 6 = .ok (.if_icmp .ge 34, 3) := by decide +kernel
theorem dX0_letterAt_9 : decode cX0_letterAt 9 = .ok (.iload 4, 2) := by decide +kernel
theorem dX0_letterAt_11 : decode cX0_letterAt 11 = .ok (.aload_n 0, 1) := by decide +kernel
theorem dX0_letterAt_12 : decode cX0_letterAt 12 = .ok (.getfield 9, 3) := by decide +kernel
theorem dX0_letterAt_15 : decode cX0_letterAt 15 = .ok (.arraylength, 1) := by decide +kernel
theorem dX0_letterAt_16 : decode cX0_letterAt 16 = .ok (.if_icmp .ge 24, 3) := by decide +kernel
theorem dX0_letterAt_19 : decode cX0_letterAt 19 = .ok (.aload_n 0, 1) := by decide +kernel
theorem dX0_letterAt_20 : decode cX0_letterAt 20 = .ok (.iload 4, 2) := by decide +kernel
theorem dX0_letterAt_22 : decode cX0_letterAt 22 = .ok (.iload_n 2, 1) := by decide +kernel
theorem dX0_letterAt_23 : decode cX0_letterAt 23 = .ok (.iload_n 3, 1) := by decide +kernel
theorem dX0_letterAt_24 : decode cX0_letterAt 24 = .ok (.invokevirtual 37, 3) := by decide +kernel
theorem dX0_letterAt_27 : decode cX0_letterAt 27 = .ok (.iload_n 1, 1) := by decide +kernel
theorem dX0_letterAt_28 : decode cX0_letterAt 28 = .ok (.if_icmp .ne 6, 3) := by decide +kernel
theorem dX0_letterAt_31 : decode cX0_letterAt 31 = .ok (.iload 4, 2) := by decide +kernel
theorem dX0_letterAt_33 : decode cX0_letterAt 33 = .ok (.ireturn, 1) := by decide +kernel
theorem dX0_letterAt_34 : decode cX0_letterAt 34 = .ok (.iinc 4 1, 3) := by decide +kernel
theorem dX0_letterAt_37 : decode cX0_letterAt 37 = .ok (.goto (-34), 3) := by decide +kernel
theorem dX0_letterAt_40 : decode cX0_letterAt 40 = .ok (.iconst (-1), 1) := by decide +kernel
theorem dX0_letterAt_41 : decode cX0_letterAt 41 = .ok (.ireturn, 1) := by decide +kernel
theorem dX0_rankOf_0 : decode cX0_rankOf 0 = .ok (.aload_n 0, 1) := by decide +kernel
theorem dX0_rankOf_1 : decode cX0_rankOf 1 = .ok (.iload_n 1, 1) := by decide +kernel
theorem dX0_rankOf_2 : decode cX0_rankOf 2 = .ok (.invokevirtual 41, 3) := by decide +kernel
theorem dX0_rankOf_5 : decode cX0_rankOf 5 = .ok (.fstore 4, 2) := by decide +kernel
theorem dX0_rankOf_7 : decode cX0_rankOf 7 = .ok (.iconst 0, 1) := by decide +kernel
theorem dX0_rankOf_8 : decode cX0_rankOf 8 = .ok (.istore 5, 2) := by decide +kernel
theorem dX0_rankOf_10 : decode cX0_rankOf 10 = .ok (.iconst 0, 1) := by decide +kernel
theorem dX0_rankOf_11 : decode cX0_rankOf 11 = .ok (.istore 6, 2) := by decide +kernel
theorem dX0_rankOf_13 : decode cX0_rankOf 13 = .ok (.iload 6, 2) := by decide +kernel
theorem dX0_rankOf_15 : decode cX0_rankOf 15 = .ok (.iload_n 3, 1) := by decide +kernel
theorem dX0_rankOf_16 : decode cX0_rankOf 16 = .ok (.if_icmp .ge 104, 3) := by decide +kernel
theorem dX0_rankOf_19 : decode cX0_rankOf 19 = .ok (.iload 6, 2) := by decide +kernel
theorem dX0_rankOf_21 : decode cX0_rankOf 21 = .ok (.aload_n 0, 1) := by decide +kernel
theorem dX0_rankOf_22 : decode cX0_rankOf 22 = .ok (.getfield 9, 3) := by decide +kernel
theorem dX0_rankOf_25 : decode cX0_rankOf 25 = .ok (.arraylength, 1) := by decide +kernel
theorem dX0_rankOf_26 : decode cX0_rankOf 26 = .ok (.if_icmp .ge 94, 3) := by decide +kernel
theorem dX0_rankOf_29 : decode cX0_rankOf 29 = .ok (.aload_n 0, 1) := by decide +kernel
theorem dX0_rankOf_30 : decode cX0_rankOf 30 = .ok (.getfield 9, 3) := by decide +kernel
theorem dX0_rankOf_33 : decode cX0_rankOf 33 = .ok (.iload 6, 2) := by decide +kernel
theorem dX0_rankOf_35 : decode cX0_rankOf 35 = .ok (.faload, 1) := by decide +kernel
theorem dX0_rankOf_36 : decode cX0_rankOf 36 = .ok (.fstore 7, 2) := by decide +kernel
theorem dX0_rankOf_38 : decode cX0_rankOf 38 = .ok (.iload 6, 2) := by decide +kernel
theorem dX0_rankOf_40 : decode cX0_rankOf 40 = .ok (.iload_n 1, 1) := by decide +kernel
theorem dX0_rankOf_41 : decode cX0_rankOf 41 = .ok (.if_icmp .ge 7, 3) := by decide +kernel
theorem dX0_rankOf_44 : decode cX0_rankOf 44 = .ok (.iconst 1, 1) := by decide +kernel
theorem dX0_rankOf_45 : decode cX0_rankOf 45 = .ok (.goto 4, 3) := by decide +kernel
theorem dX0_rankOf_48 : decode cX0_rankOf 48 = .ok (.iconst 0, 1) := by decide +kernel
theorem dX0_rankOf_49 : decode cX0_rankOf 49 = .ok (.istore 8, 2) := by decide +kernel
theorem dX0_rankOf_51 : decode cX0_rankOf 51 = .ok (.iload_n 2, 1) := by decide +kernel
theorem dX0_rankOf_52 : decode cX0_rankOf 52 = .ok (.iconst 1, 1) := by decide +kernel
theorem dX0_rankOf_53 : decode cX0_rankOf 53 = .ok (.if_icmp .eq 46, 3) := by decide +kernel
theorem dX0_rankOf_56 : decode cX0_rankOf 56 = .ok (.fload 7, 2) := by decide +kernel
theorem dX0_rankOf_58 : decode cX0_rankOf 58 = .ok (.fload 4, 2) := by decide +kernel
theorem dX0_rankOf_60 : decode cX0_rankOf 60 = .ok (.fcmp .l, 1) := by decide +kernel
theorem dX0_rankOf_61 : decode cX0_rankOf 61 = .ok (.ifCond .eq 38, 3) := by decide +kernel
theorem dX0_rankOf_64 : decode cX0_rankOf 64 = .ok (.iload_n 2, 1) := by decide +kernel
theorem dX0_rankOf_65 : decode cX0_rankOf 65 = .ok (.ifCond .ne 19, 3) := by decide +kernel
theorem dX0_rankOf_68 : decode cX0_rankOf 68 = .ok (.fload 7, 2) := by decide +kernel
theorem dX0_rankOf_70 : decode cX0_rankOf 70 = .ok (.fload 4, 2) := by decide +kernel
theorem dX0_rankOf_72 : decode cX0_rankOf 72 = .ok (.fcmp .g, 1) := by decide +kernel
theorem dX0_rankOf_73 : decode cX0_rankOf 73 = .ok (.ifCond .ge 7, 3) := by decide +kernel
theorem dX0_rankOf_76 : decode cX0_rankOf 76 = .ok (.iconst 1, 1) := by decide +kernel
theorem dX0_rankOf_77 : decode cX0_rankOf 77 = .ok (.goto 20, 3) := by decide +kernel
theorem dX0_rankOf_80 : decode cX0_rankOf 80 = .ok (.iconst 0, 1) := by decide +kernel
theorem dX0_rankOf_81 : decode cX0_rankOf 81 = .ok (.goto 16, 3) := by decide +kernel
theorem dX0_rankOf_84 : decode cX0_rankOf 84 = .ok (.fload 7, 2) := by decide +kernel
theorem dX0_rankOf_86 : decode cX0_rankOf 86 = .ok (.fload 4, 2) := by decide +kernel
theorem dX0_rankOf_88 : decode cX0_rankOf 88 = .ok (.fcmp .l, 1) := by decide +kernel
theorem dX0_rankOf_89 : decode cX0_rankOf 89 = .ok (.ifCond .le 7, 3) := by decide +kernel
theorem dX0_rankOf_92 : decode cX0_rankOf 92 = .ok (.iconst 1, 1) := by decide +kernel
theorem dX0_rankOf_93 : decode cX0_rankOf 93 = .ok (.goto 4, 3) := by decide +kernel
theorem dX0_rankOf_96 : decode cX0_rankOf 96 = .ok (.iconst 0, 1) := by decide +kernel
theorem dX0_rankOf_97 : decode cX0_rankOf 97 = .ok (.istore 8, 2) := by decide +kernel
theorem dX0_rankOf_99 : decode cX0_rankOf 99 = .ok (.iload 5, 2) := by decide +kernel
theorem dX0_rankOf_101 : decode cX0_rankOf 101 = .ok (.iload 8, 2) := by decide +kernel
theorem dX0_rankOf_103 : decode cX0_rankOf 103 = .ok (.ifCond .eq 7, 3) := by decide +kernel
theorem dX0_rankOf_106 : decode cX0_rankOf 106 = .ok (.iconst 1, 1) := by decide +kernel
theorem dX0_rankOf_107 : decode cX0_rankOf 107 = .ok (.goto 4, 3) := by decide +kernel
theorem dX0_rankOf_110 : decode cX0_rankOf 110 = .ok (.iconst 0, 1) := by decide +kernel
theorem dX0_rankOf_111 : decode cX0_rankOf 111 = .ok (.iadd, 1) := by decide +kernel
theorem dX0_rankOf_112 : decode cX0_rankOf 112 = .ok (.istore 5, 2) := by decide +kernel
theorem dX0_rankOf_114 : decode cX0_rankOf 114 = .ok (.iinc 6 1, 3) := by decide +kernel
theorem dX0_rankOf_117 : decode cX0_rankOf 117 = .ok (.goto (-104), 3) := by decide +kernel
theorem dX0_rankOf_120 : decode cX0_rankOf 120 = .ok (.iload 5, 2) := by decide +kernel
theorem dX0_rankOf_122 : decode cX0_rankOf 122 = .ok (.ireturn, 1) := by decide +kernel
theorem dX1_init_0 : decode cX1_init 0 = .ok (.aload_n 0, 1) := by decide +kernel
theorem dX1_init_1 : decode cX1_init 1 = .ok (.invokespecial 3, 3) := by decide +kernel
theorem dX1_init_4 : decode cX1_init 4 = .ok (.aload_n 0, 1) := by decide +kernel
theorem dX1_init_5 : decode cX1_init 5 = .ok (.bipush 12, 2) := by decide +kernel
theorem dX1_init_7 : decode cX1_init 7 = .ok (.newarray .long, 2) := by decide +kernel
theorem dX1_init_9 : decode cX1_init 9 = .ok (.putfield 9, 3) := by decide +kernel
theorem dX1_init_12 : decode cX1_init 12 = .ok (.aload_n 0, 1) := by decide +kernel
theorem dX1_init_13 : decode cX1_init 13 = .ok (.bipush 12, 2) := by decide +kernel
theorem dX1_init_15 : decode cX1_init 15 = .ok (.newarray .long, 2) := by decide +kernel
theorem dX1_init_17 : decode cX1_init 17 = .ok (.putfield 15, 3) := by decide +kernel
theorem dX1_init_20 : decode cX1_init 20 = .ok (.return_, 1) := by decide +kernel
theorem dX1_choose_0 : decode cX1_choose 0 = .ok (.aload_n 1, 1) := by decide +kernel
theorem dX1_choose_1 : decode cX1_choose 1 = .ok (.ifnull 14, 3) := by decide +kernel
theorem dX1_choose_4 : decode cX1_choose 4 = .ok (.aload_n 1, 1) := by decide +kernel
theorem dX1_choose_5 : decode cX1_choose 5 = .ok (.getfield 18, 3) := by decide +kernel
theorem dX1_choose_8 : decode cX1_choose 8 = .ok (.iload_n 2, 1) := by decide +kernel
theorem dX1_choose_9 : decode cX1_choose 9 = .ok (.isub, 1) := by decide +kernel
theorem dX1_choose_10 : decode cX1_choose 10 = .ok (.bipush 12, 2) := by decide +kernel
theorem dX1_choose_12 : decode cX1_choose 12 = .ok (.if_icmp .le 5, 3) := by decide +kernel
theorem dX1_choose_15 : decode cX1_choose 15 = .ok (.iconst (-1), 1) := by decide +kernel
theorem dX1_choose_16 : decode cX1_choose 16 = .ok (.ireturn, 1) := by decide +kernel
theorem dX1_choose_17 : decode cX1_choose 17 = .ok (.aload_n 1, 1) := by decide +kernel
theorem dX1_choose_18 : decode cX1_choose 18 = .ok (.getfield 18, 3) := by decide +kernel
theorem dX1_choose_21 : decode cX1_choose 21 = .ok (.iload_n 2, 1) := by decide +kernel
theorem dX1_choose_22 : decode cX1_choose 22 = .ok (.isub, 1) := by decide +kernel
theorem dX1_choose_23 : decode cX1_choose 23 = .ok (.istore 4, 2) := by decide +kernel
theorem dX1_choose_25 : decode cX1_choose 25 = .ok (.iconst 0, 1) := by decide +kernel
theorem dX1_choose_26 : decode cX1_choose 26 = .ok (.istore 5, 2) := by decide +kernel
theorem dX1_choose_28 : decode cX1_choose 28 = .ok (.iload 5, 2) := by decide +kernel
theorem dX1_choose_30 : decode cX1_choose 30 = .ok (.iload 4, 2) := by decide +kernel
theorem dX1_choose_32 : decode cX1_choose 32 = .ok (.if_icmp .ge 45, 3) := by decide +kernel
theorem dX1_choose_35 : decode cX1_choose 35 = .ok (.aload_n 0, 1) := by decide +kernel
theorem dX1_choose_36 : decode cX1_choose 36 = .ok (.getfield 9, 3) := by decide +kernel
theorem dX1_choose_39 : decode cX1_choose 39 = .ok (.iload 5, 2) := by decide +kernel
theorem dX1_choose_41 : decode cX1_choose 41 = .ok (.aload_n 1, 1) := by decide +kernel
theorem dX1_choose_42 : decode cX1_choose 42 = .ok (.iload_n 2, 1) := by decide +kernel
theorem dX1_choose_43 : decode cX1_choose 43 = .ok (.iload 5, 2) := by decide +kernel
theorem dX1_choose_45 : decode cX1_choose 45 = .ok (.iadd, 1) := by decide +kernel
theorem dX1_choose_46 : decode cX1_choose 46 = .ok (.invokevirtual 24, 3) := by decide +kernel
theorem dX1_choose_49 : decode cX1_choose 49 = .ok (.lastore, 1) := by decide +kernel
theorem dX1_choose_50 : decode cX1_choose 50 = .ok (.aload_n 0, 1) := by decide +kernel
theorem dX1_choose_51 : decode cX1_choose 51 = .ok (.getfield 15, 3) := by decide +kernel
theorem dX1_choose_54 : decode cX1_choose 54 = .ok (.iload 5, 2) := by decide +kernel
theorem dX1_choose_56 : decode cX1_choose 56 = .ok (.aload_n 3, 1) := by decide +kernel
theorem dX1_choose_57 : decode cX1_choose 57 = .ok (.getfield 28, 3) := by decide +kernel
theorem dX1_choose_60 : decode cX1_choose 60 = .ok (.aload_n 0, 1) := by decide +kernel
theorem dX1_choose_61 : decode cX1_choose 61 = .ok (.getfield 9, 3) := by decide +kernel
theorem dX1_choose_64 : decode cX1_choose 64 = .ok (.iload 5, 2) := by decide +kernel
theorem dX1_choose_66 : decode cX1_choose 66 = .ok (.laload, 1) := by decide +kernel
theorem dX1_choose_67 : decode cX1_choose 67 = .ok (.invokevirtual 34, 3) := by decide +kernel
theorem dX1_choose_70 : decode cX1_choose 70 = .ok (.lastore, 1) := by decide +kernel
theorem dX1_choose_71 : decode cX1_choose 71 = .ok (.iinc 5 1, 3) := by decide +kernel
theorem dX1_choose_74 : decode cX1_choose 74 = .ok (.goto (-46), 3) := by decide +kernel
theorem dX1_choose_77 : decode cX1_choose 77 = .ok (.iconst 0, 1) := by decide +kernel
theorem dX1_choose_78 : decode cX1_choose 78 = .ok (.istore 5, 2) := by decide +kernel
theorem dX1_choose_80 : decode cX1_choose 80 = .ok (.iload 5, 2) := by decide +kernel
theorem dX1_choose_82 : decode cX1_choose 82 = .ok (.iload 4, 2) := by decide +kernel
theorem dX1_choose_84 : decode cX1_choose 84 = .ok (.if_icmp .gt 32, 3) := by decide +kernel
theorem dX1_choose_87 : decode cX1_choose 87 = .ok (.aload_n 0, 1) := by decide +kernel
theorem dX1_choose_88 : decode cX1_choose 88 = .ok (.iload 5, 2) := by decide +kernel
theorem dX1_choose_90 : decode cX1_choose 90 = .ok (.iload 4, 2) := by decide +kernel
theorem dX1_choose_92 : decode cX1_choose 92 = .ok (.aload_n 3, 1) := by decide +kernel
theorem dX1_choose_93 : decode cX1_choose 93 = .ok (.invokevirtual 39, 3) := by decide +kernel
theorem dX1_choose_96 : decode cX1_choose 96 = .ok (.invokevirtual 43, 3) := by decide +kernel
theorem dX1_choose_99 : decode cX1_choose 99 = .ok (.istore 6, 2) := by decide +kernel
theorem dX1_choose_101 : decode cX1_choose 101 = .ok (.iload 6, 2) := by decide +kernel
theorem dX1_choose_103 : decode cX1_choose 103 = .ok (.iconst (-1), 1) := by decide +kernel
theorem dX1_choose_104 : decode cX1_choose 104 = .ok (.if_icmp .eq 6, 3) := by decide +kernel
theorem dX1_choose_107 : decode cX1_choose 107 = .ok (.iload 6, 2) := by decide +kernel
theorem dX1_choose_109 : decode cX1_choose 109 = .ok (.ireturn, 1) := by decide +kernel
theorem dX1_choose_110 : decode cX1_choose 110 = .ok (.iinc 5 1, 3) := by decide +kernel
theorem dX1_choose_113 : decode cX1_choose 113 = .ok (.goto (-33), 3) := by decide +kernel
theorem dX1_choose_116 : decode cX1_choose 116 = .ok (.iconst (-1), 1) := by decide +kernel
theorem dX1_choose_117 : decode cX1_choose 117 = .ok (.ireturn, 1) := by decide +kernel
theorem dX1_firstOf_0 : decode cX1_firstOf 0 = .ok (.iconst 1, 1) := by decide +kernel
theorem dX1_firstOf_1 : decode cX1_firstOf 1 = .ok (.iload_n 1, 1) := by decide +kernel
theorem dX1_firstOf_2 : decode cX1_firstOf 2 = .ok (.ishl, 1) := by decide +kernel
theorem dX1_firstOf_3 : decode cX1_firstOf 3 = .ok (.iconst 1, 1) := by decide +kernel
theorem dX1_firstOf_4 : decode cX1_firstOf 4 = .ok (.isub, 1) := by decide +kernel
theorem dX1_firstOf_5 : decode cX1_firstOf 5 = .ok (.istore 5, 2) := by decide +kernel
theorem dX1_firstOf_7 : decode cX1_firstOf 7 = .ok (.iconst 0, 1) := by decide +kernel
theorem dX1_firstOf_8 : decode cX1_firstOf 8 = .ok (.istore 6, 2) := by decide +kernel
theorem dX1_firstOf_10 : decode cX1_firstOf 10 = .ok (.iload 6, 2) := by decide +kernel
theorem dX1_firstOf_12 : decode cX1_firstOf 12 = .ok (.sipush 4096, 3) := by decide +kernel
theorem dX1_firstOf_15 : decode cX1_firstOf 15 = .ok (.if_icmp .ge 38, 3) := by decide +kernel
theorem dX1_firstOf_18 : decode cX1_firstOf 18 = .ok (.iload 5, 2) := by decide +kernel
theorem dX1_firstOf_20 : decode cX1_firstOf 20 = .ok (.iconst 1, 1) := by decide +kernel
theorem dX1_firstOf_21 : decode cX1_firstOf 21 = .ok (.iload_n 2, 1) := by decide +kernel
theorem dX1_firstOf_22 : decode cX1_firstOf 22 = .ok (.ishl, 1) := by decide +kernel
theorem dX1_firstOf_23 : decode cX1_firstOf 23 = .ok (.if_icmp .ge 30, 3) := by decide +kernel
theorem dX1_firstOf_26 : decode cX1_firstOf 26 = .ok (.aload_n 0, 1) := by decide +kernel
theorem dX1_firstOf_27 : decode cX1_firstOf 27 = .ok (.iload 5, 2) := by decide +kernel
theorem dX1_firstOf_29 : decode cX1_firstOf 29 = .ok (.iload_n 2, 1) := by decide +kernel
theorem dX1_firstOf_30 : decode cX1_firstOf 30 = .ok (.lload_n 3, 1) := by decide +kernel
theorem dX1_firstOf_31 : decode cX1_firstOf 31 = .ok (.invokevirtual 47, 3) := by decide +kernel
theorem dX1_firstOf_34 : decode cX1_firstOf 34 = .ok (.ifCond .eq 6, 3) := by decide +kernel
theorem dX1_firstOf_37 : decode cX1_firstOf 37 = .ok (.iload 5, 2) := by decide +kernel
theorem dX1_firstOf_39 : decode cX1_firstOf 39 = .ok (.ireturn, 1) := by decide +kernel
theorem dX1_firstOf_40 : decode cX1_firstOf 40 = .ok (.iload 5, 2) := by decide +kernel
theorem dX1_firstOf_42 : decode cX1_firstOf 42 = .ok (.invokestatic 51, 3) := by decide +kernel
theorem dX1_firstOf_45 : decode cX1_firstOf 45 = .ok (.istore 5, 2) := by decide +kernel
theorem dX1_firstOf_47 : decode cX1_firstOf 47 = .ok (.iinc 6 1, 3) := by decide +kernel
theorem dX1_firstOf_50 : decode cX1_firstOf 50 = .ok (.goto (-40), 3) := by decide +kernel
theorem dX1_firstOf_53 : decode cX1_firstOf 53 = .ok (.iconst (-1), 1) := by decide +kernel
theorem dX1_firstOf_54 : decode cX1_firstOf 54 = .ok (.ireturn, 1) := by decide +kernel
theorem dX1_suffices_0 : decode cX1_suffices 0 = .ok (.lconst 0, 1) := by decide +kernel
theorem dX1_suffices_1 : decode cX1_suffices 1 = .ok (.lstore 5, 2) := by decide +kernel
theorem dX1_suffices_3 : decode cX1_suffices 3 = .ok (.lconst 0, 1) := by decide +kernel
theorem dX1_suffices_4 : decode cX1_suffices 4 = .ok (.lstore 7, 2) := by decide +kernel
theorem dX1_suffices_6 : decode cX1_suffices 6 = .ok (.iconst 0, 1) := by decide +kernel
theorem dX1_suffices_7 : decode cX1_suffices 7 = .ok (.istore 9, 2) := by decide +kernel
theorem dX1_suffices_9 : decode cX1_suffices 9 = .ok (.iload 9, 2) := by decide +kernel
theorem dX1_suffices_11 : decode cX1_suffices 11 = .ok (.iload_n 2, 1) := by decide +kernel
theorem dX1_suffices_12 : decode cX1_suffices 12 = .ok (.if_icmp .ge 42, 3) := by decide +kernel
theorem dX1_suffices_15 : decode cX1_suffices 15 = .ok (.iload_n 1, 1) := by decide +kernel
theorem dX1_suffices_16 : decode cX1_suffices 16 = .ok (.iload 9, 2) := by decide +kernel
theorem dX1_suffices_18 : decode cX1_suffices 18 = .ok (.ishr, 1) := by decide +kernel
theorem dX1_suffices_19 : decode cX1_suffices 19 = .ok (.iconst 1, 1) := by decide +kernel
theorem dX1_suffices_20 : decode cX1_suffices 20 = .ok (.iand, 1) := by decide +kernel
theorem dX1_suffices_21 : decode cX1_suffices 21 = .ok (.ifCond .eq 27, 3) := by decide +kernel
theorem dX1_suffices_24 : decode cX1_suffices 24 = .ok (.lload 5, 2) := by decide +kernel
theorem dX1_suffices_26 : decode cX1_suffices 26 = .ok (.aload_n 0, 1) := by decide +kernel
theorem dX1_suffices_27 : decode cX1_suffices 27 = .ok (.getfield 9, 3) := by decide +kernel
theorem dX1_suffices_30 : decode cX1_suffices 30 = .ok (.iload 9, 2) := by decide +kernel
theorem dX1_suffices_32 : decode cX1_suffices 32 = .ok (.laload, 1) := by decide +kernel
theorem dX1_suffices_33 : decode cX1_suffices 33 = .ok (.lor, 1) := by decide +kernel
theorem dX1_suffices_34 : decode cX1_suffices 34 = .ok (.lstore 5, 2) := by decide +kernel
theorem dX1_suffices_36 : decode cX1_suffices 36 = .ok (.lload 7, 2) := by decide +kernel
theorem dX1_suffices_38 : decode cX1_suffices 38 = .ok (.aload_n 0, 1) := by decide +kernel
theorem dX1_suffices_39 : decode cX1_suffices 39 = .ok (.getfield 15, 3) := by decide +kernel
theorem dX1_suffices_42 : decode cX1_suffices 42 = .ok (.iload 9, 2) := by decide +kernel
theorem dX1_suffices_44 : decode cX1_suffices 44 = .ok (.laload, 1) := by decide +kernel
theorem dX1_suffices_45 : decode cX1_suffices 45 = .ok (.lor, 1) := by decide +kernel
theorem dX1_suffices_46 : decode cX1_suffices 46 = .ok (.lstore 7, 2) := by decide +kernel
theorem dX1_suffices_48 : decode cX1_suffices 48 = .ok (.iinc 9 1, 3) := by decide +kernel
theorem dX1_suffices_51 : decode cX1_suffices 51 = .ok (.goto (-42), 3) := by decide +kernel
theorem dX1_suffices_54 : decode cX1_suffices 54 = .ok (.lload_n 3, 1) := by decide +kernel
theorem dX1_suffices_55 : decode cX1_suffices 55 = .ok (.lload 7, 2) := by decide +kernel
theorem dX1_suffices_57 : decode cX1_suffices 57 = .ok (.lor, 1) := by decide +kernel
theorem dX1_suffices_58 : decode cX1_suffices 58 = .ok (.lload 5, 2) := by decide +kernel
theorem dX1_suffices_60 : decode cX1_suffices 60 = .ok (.ldc2_w 55, 3) := by decide +kernel
theorem dX1_suffices_63 : decode cX1_suffices 63 = .ok (.lxor, 1) := by decide +kernel
theorem dX1_suffices_64 : decode cX1_suffices 64 = .ok (.land, 1) := by decide +kernel
theorem dX1_suffices_65 : decode cX1_suffices 65 = .ok (.lconst 0, 1) := by decide +kernel
theorem dX1_suffices_66 : decode cX1_suffices 66 = .ok (.lcmp, 1) := by decide +kernel
theorem dX1_suffices_67 : decode cX1_suffices 67 = .ok (.ifCond .ne 7, 3) := by decide +kernel
theorem dX1_suffices_70 : decode cX1_suffices 70 = .ok (.iconst 1, 1) := by decide +kernel
theorem dX1_suffices_71 : decode cX1_suffices 71 = .ok (.goto 4, 3) := by decide +kernel
theorem dX1_suffices_74 : decode cX1_suffices 74 = .ok (.iconst 0, 1) := by decide +kernel
theorem dX1_suffices_75 : decode cX1_suffices 75 = .ok (.ireturn, 1) := by decide +kernel
theorem dX1_nextOfLikeMany_0 : decode cX1_nextOfLikeMany 0 = .ok (.iload_n 0, 1) := by decide +kernel
theorem dX1_nextOfLikeMany_1 : decode cX1_nextOfLikeMany 1 = .ok (.ifCond .ne 7, 3) := by decide +kernel
theorem dX1_nextOfLikeMany_4 : decode cX1_nextOfLikeMany 4 = .ok (.sipush 4096, 3) := by decide +kernel
theorem dX1_nextOfLikeMany_7 : decode cX1_nextOfLikeMany 7 = .ok (.ireturn, 1) := by decide +kernel
theorem dX1_nextOfLikeMany_8 : decode cX1_nextOfLikeMany 8 = .ok (.iload_n 0, 1) := by decide +kernel
theorem dX1_nextOfLikeMany_9 : decode cX1_nextOfLikeMany 9 = .ok (.iload_n 0, 1) := by decide +kernel
theorem dX1_nextOfLikeMany_10 : decode cX1_nextOfLikeMany 10 = .ok (.iload_n 0, 1) := by decide +kernel
theorem dX1_nextOfLikeMany_11 : decode cX1_nextOfLikeMany 11 = .ok (.ineg, 1) := by decide +kernel
theorem dX1_nextOfLikeMany_12 : decode cX1_nextOfLikeMany 12 = .ok (.iand, 1) := by decide +kernel
theorem dX1_nextOfLikeMany_13 : decode cX1_nextOfLikeMany 13 = .ok (.iadd, 1) := by decide +kernel
theorem dX1_nextOfLikeMany_14 : decode cX1_nextOfLikeMany 14 = .ok (.istore_n 1, 1) := by decide +kernel
theorem dX1_nextOfLikeMany_15 : decode cX1_nextOfLikeMany 15 = .ok (.iload_n 1, 1) := by decide +kernel
theorem dX1_nextOfLikeMany_16 : decode cX1_nextOfLikeMany 16 = .ok (.iload_n 1, 1) := by decide +kernel
theorem dX1_nextOfLikeMany_17 : decode cX1_nextOfLikeMany 17 = .ok (.iload_n 0, 1) := by decide +kernel
theorem dX1_nextOfLikeMany_18 : decode cX1_nextOfLikeMany 18 = .ok (.ixor, 1) := by decide +kernel
theorem dX1_nextOfLikeMany_19 : decode cX1_nextOfLikeMany 19 = .ok (.iconst 2, 1) := by decide +kernel
theorem dX1_nextOfLikeMany_20 : decode cX1_nextOfLikeMany 20 = .ok (.iload_n 0, 1) := by decide +kernel
theorem dX1_nextOfLikeMany_21 : decode cX1_nextOfLikeMany 21 = .ok (.invokestatic 57, 3) := by decide +kernel
theorem dX1_nextOfLikeMany_24 : decode cX1_nextOfLikeMany 24 = .ok (.iadd, 1) := by decide +kernel
theorem dX1_nextOfLikeMany_25 : decode cX1_nextOfLikeMany 25 = .ok (.iushr, 1) := by decide +kernel
theorem dX1_nextOfLikeMany_26 : decode cX1_nextOfLikeMany 26 = .ok (.ior, 1) := by decide +kernel
theorem dX1_nextOfLikeMany_27 : decode cX1_nextOfLikeMany 27 = .ok (.ireturn, 1) := by decide +kernel
theorem dX2_init_0 : decode cX2_init 0 = .ok (.aload_n 0, 1) := by decide +kernel
theorem dX2_init_1 : decode cX2_init 1 = .ok (.invokespecial 1, 3) := by decide +kernel
theorem dX2_init_4 : decode cX2_init 4 = .ok (.aload_n 0, 1) := by decide +kernel
theorem dX2_init_5 : decode cX2_init 5 = .ok (.iconst 0, 1) := by decide +kernel
theorem dX2_init_6 : decode cX2_init 6 = .ok (.newarray .int, 2) := by decide +kernel
theorem dX2_init_8 : decode cX2_init 8 = .ok (.putfield 7, 3) := by decide +kernel
theorem dX2_init_11 : decode cX2_init 11 = .ok (.aload_n 0, 1) := by decide +kernel
theorem dX2_init_12 : decode cX2_init 12 = .ok (.iconst 0, 1) := by decide +kernel
theorem dX2_init_13 : decode cX2_init 13 = .ok (.newarray .int, 2) := by decide +kernel
theorem dX2_init_15 : decode cX2_init 15 = .ok (.putfield 13, 3) := by decide +kernel
theorem dX2_init_18 : decode cX2_init 18 = .ok (.aload_n 0, 1) := by decide +kernel
theorem dX2_init_19 : decode cX2_init 19 = .ok (.iconst 0, 1) := by decide +kernel
theorem dX2_init_20 : decode cX2_init 20 = .ok (.newarray .long, 2) := by decide +kernel
theorem dX2_init_22 : decode cX2_init 22 = .ok (.putfield 16, 3) := by decide +kernel
theorem dX2_init_25 : decode cX2_init 25 = .ok (.return_, 1) := by decide +kernel
theorem dX2_become_0 : decode cX2_become 0 = .ok (.aload_n 0, 1) := by decide +kernel
theorem dX2_become_1 : decode cX2_become 1 = .ok (.aload_n 1, 1) := by decide +kernel
theorem dX2_become_2 : decode cX2_become 2 = .ok (.getfield 20, 3) := by decide +kernel
theorem dX2_become_5 : decode cX2_become 5 = .ok (.invokevirtual 24, 3) := by decide +kernel
theorem dX2_become_8 : decode cX2_become 8 = .ok (.aload_n 1, 1) := by decide +kernel
theorem dX2_become_9 : decode cX2_become 9 = .ok (.getfield 7, 3) := by decide +kernel
theorem dX2_become_12 : decode cX2_become 12 = .ok (.iconst 0, 1) := by decide +kernel
theorem dX2_become_13 : decode cX2_become 13 = .ok (.aload_n 0, 1) := by decide +kernel
theorem dX2_become_14 : decode cX2_become 14 = .ok (.getfield 7, 3) := by decide +kernel
theorem dX2_become_17 : decode cX2_become 17 = .ok (.iconst 0, 1) := by decide +kernel
theorem dX2_become_18 : decode cX2_become 18 = .ok (.aload_n 1, 1) := by decide +kernel
theorem dX2_become_19 : decode cX2_become 19 = .ok (.getfield 20, 3) := by decide +kernel
theorem dX2_become_22 : decode cX2_become 22 = .ok (.invokestatic 28, 3) := by decide +kernel
theorem dX2_become_25 : decode cX2_become 25 = .ok (.aload_n 1, 1) := by decide +kernel
theorem dX2_become_26 : decode cX2_become 26 = .ok (.getfield 13, 3) := by decide +kernel
theorem dX2_become_29 : decode cX2_become 29 = .ok (.iconst 0, 1) := by decide +kernel
theorem dX2_become_30 : decode cX2_become 30 = .ok (.aload_n 0, 1) := by decide +kernel
theorem dX2_become_31 : decode cX2_become 31 = .ok (.getfield 13, 3) := by decide +kernel
theorem dX2_become_34 : decode cX2_become 34 = .ok (.iconst 0, 1) := by decide +kernel
theorem dX2_become_35 : decode cX2_become 35 = .ok (.aload_n 1, 1) := by decide +kernel
theorem dX2_become_36 : decode cX2_become 36 = .ok (.getfield 20, 3) := by decide +kernel
theorem dX2_become_39 : decode cX2_become 39 = .ok (.invokestatic 28, 3) := by decide +kernel
theorem dX2_become_42 : decode cX2_become 42 = .ok (.aload_n 1, 1) := by decide +kernel
theorem dX2_become_43 : decode cX2_become 43 = .ok (.getfield 16, 3) := by decide +kernel
theorem dX2_become_46 : decode cX2_become 46 = .ok (.iconst 0, 1) := by decide +kernel
theorem dX2_become_47 : decode cX2_become 47 = .ok (.aload_n 0, 1) := by decide +kernel
theorem dX2_become_48 : decode cX2_become 48 = .ok (.getfield 16, 3) := by decide +kernel
theorem dX2_become_51 : decode cX2_become 51 = .ok (.iconst 0, 1) := by decide +kernel
theorem dX2_become_52 : decode cX2_become 52 = .ok (.aload_n 1, 1) := by decide +kernel
theorem dX2_become_53 : decode cX2_become 53 = .ok (.getfield 20, 3) := by decide +kernel
theorem dX2_become_56 : decode cX2_become 56 = .ok (.invokestatic 28, 3) := by decide +kernel
theorem dX2_become_59 : decode cX2_become 59 = .ok (.aload_n 0, 1) := by decide +kernel
theorem dX2_become_60 : decode cX2_become 60 = .ok (.aload_n 1, 1) := by decide +kernel
theorem dX2_become_61 : decode cX2_become 61 = .ok (.getfield 20, 3) := by decide +kernel
theorem dX2_become_64 : decode cX2_become 64 = .ok (.putfield 20, 3) := by decide +kernel
theorem dX2_become_67 : decode cX2_become 67 = .ok (.return_, 1) := by decide +kernel
theorem dX2_takeFrom_0 : decode cX2_takeFrom 0 = .ok (.aload_n 0, 1) := by decide +kernel
theorem dX2_takeFrom_1 : decode cX2_takeFrom 1 = .ok (.iconst 0, 1) := by decide +kernel
theorem dX2_takeFrom_2 : decode cX2_takeFrom 2 = .ok (.putfield 20, 3) := by decide +kernel
theorem dX2_takeFrom_5 : decode cX2_takeFrom 5 = .ok (.aload_n 1, 1) := by decide +kernel
theorem dX2_takeFrom_6 : decode cX2_takeFrom 6 = .ok (.ifnonnull 4, 3) := by decide +kernel
theorem dX2_takeFrom_9 : decode cX2_takeFrom 9 = .ok (.return_, 1) := by decide +kernel
theorem dX2_takeFrom_10 : decode cX2_takeFrom 10 = .ok (.iload_n 2, 1) := by decide +kernel
theorem dX2_takeFrom_11 : decode cX2_takeFrom 11 = .ok (.istore_n 3, 1) := by decide +kernel
theorem dX2_takeFrom_12 : decode cX2_takeFrom 12 = .ok (.iload_n 3, 1) := by decide +kernel
theorem dX2_takeFrom_13 : decode cX2_takeFrom 13 = .ok (.aload_n 1, 1) := by decide +kernel
theorem dX2_takeFrom_14 : decode cX2_takeFrom 14 = .ok (.getfield 20, 3) := by decide +kernel
theorem dX2_takeFrom_17 : decode cX2_takeFrom 17 = .ok (.if_icmp .ge 18, 3) := by decide +kernel
theorem dX2_takeFrom_20 : decode cX2_takeFrom 20 = .ok (.aload_n 0, 1) := by decide +kernel
theorem dX2_takeFrom_21 : decode cX2_takeFrom 21 = .ok (.aload_n 1, 1) := by decide +kernel
theorem dX2_takeFrom_22 : decode cX2_takeFrom 22 = .ok (.iload_n 3, 1) := by decide +kernel
theorem dX2_takeFrom_23 : decode cX2_takeFrom 23 = .ok (.invokevirtual 34, 3) := by decide +kernel
theorem dX2_takeFrom_26 : decode cX2_takeFrom 26 = .ok (.invokevirtual 38, 3) := by decide +kernel
theorem dX2_takeFrom_29 : decode cX2_takeFrom 29 = .ok (.iinc 3 1, 3) := by decide +kernel
theorem dX2_takeFrom_32 : decode cX2_takeFrom 32 = .ok (.goto (-20), 3) := by decide +kernel
theorem dX2_takeFrom_35 : decode cX2_takeFrom 35 = .ok (.return_, 1) := by decide +kernel
theorem dX2_makeRoom_0 : decode cX2_makeRoom 0 = .ok (.iload_n 1, 1) := by decide +kernel
theorem dX2_makeRoom_1 : decode cX2_makeRoom 1 = .ok (.aload_n 0, 1) := by decide +kernel
theorem dX2_makeRoom_2 : decode cX2_makeRoom 2 = .ok (.getfield 7, 3) := by decide +kernel
theorem dX2_makeRoom_5 : decode cX2_makeRoom 5 = .ok (.arraylength, 1) := by decide +kernel
theorem dX2_makeRoom_6 : decode cX2_makeRoom 6 = .ok (.if_icmp .le 39, 3) := by decide +kernel
theorem dX2_makeRoom_9 : decode cX2_makeRoom 9 = .ok (.aload_n 0, 1) := by decide +kernel
theorem dX2_makeRoom_10 : decode cX2_makeRoom 10 = .ok (.aload_n 0, 1) := by decide +kernel
theorem dX2_makeRoom_11 : decode cX2_makeRoom 11 = .ok (.getfield 7, 3) := by decide +kernel
theorem dX2_makeRoom_14 : decode cX2_makeRoom 14 = .ok (.iload_n 1, 1) := by decide +kernel
theorem dX2_makeRoom_15 : decode cX2_makeRoom 15 = .ok (.invokestatic 41, 3) := by decide +kernel
theorem dX2_makeRoom_18 : decode cX2_makeRoom 18 = .ok (.putfield 7, 3) := by decide +kernel
theorem dX2_makeRoom_21 : decode cX2_makeRoom 21 = .ok (.aload_n 0, 1) := by decide +kernel
theorem dX2_makeRoom_22 : decode cX2_makeRoom 22 = .ok (.aload_n 0, 1) := by decide +kernel
theorem dX2_makeRoom_23 : decode cX2_makeRoom 23 = .ok (.getfield 13, 3) := by decide +kernel
theorem dX2_makeRoom_26 : decode cX2_makeRoom 26 = .ok (.iload_n 1, 1) := by decide +kernel
theorem dX2_makeRoom_27 : decode cX2_makeRoom 27 = .ok (.invokestatic 41, 3) := by decide +kernel
theorem dX2_makeRoom_30 : decode cX2_makeRoom 30 = .ok (.putfield 13, 3) := by decide +kernel
theorem dX2_makeRoom_33 : decode cX2_makeRoom 33 = .ok (.aload_n 0, 1) := by decide +kernel
theorem dX2_makeRoom_34 : decode cX2_makeRoom 34 = .ok (.aload_n 0, 1) := by decide +kernel
theorem dX2_makeRoom_35 : decode cX2_makeRoom 35 = .ok (.getfield 16, 3) := by decide +kernel
theorem dX2_makeRoom_38 : decode cX2_makeRoom 38 = .ok (.iload_n 1, 1) := by decide +kernel
theorem dX2_makeRoom_39 : decode cX2_makeRoom 39 = .ok (.invokestatic 47, 3) := by decide +kernel
theorem dX2_makeRoom_42 : decode cX2_makeRoom 42 = .ok (.putfield 16, 3) := by decide +kernel
theorem dX2_makeRoom_45 : decode cX2_makeRoom 45 = .ok (.return_, 1) := by decide +kernel
theorem dX2_cubeAt_0 : decode cX2_cubeAt 0 = .ok (.iload_n 1, 1) := by decide +kernel
theorem dX2_cubeAt_1 : decode cX2_cubeAt 1 = .ok (.ifCond .lt 20, 3) := by decide +kernel
theorem dX2_cubeAt_4 : decode cX2_cubeAt 4 = .ok (.iload_n 1, 1) := by decide +kernel
theorem dX2_cubeAt_5 : decode cX2_cubeAt 5 = .ok (.aload_n 0, 1) := by decide +kernel
theorem dX2_cubeAt_6 : decode cX2_cubeAt 6 = .ok (.getfield 20, 3) := by decide +kernel
theorem dX2_cubeAt_9 : decode cX2_cubeAt 9 = .ok (.if_icmp .ge 12, 3) := by decide +kernel
theorem dX2_cubeAt_12 : decode cX2_cubeAt 12 = .ok (.aload_n 0, 1) := by decide +kernel
theorem dX2_cubeAt_13 : decode cX2_cubeAt 13 = .ok (.getfield 13, 3) := by decide +kernel
theorem dX2_cubeAt_16 : decode cX2_cubeAt 16 = .ok (.iload_n 1, 1) := by decide +kernel
theorem dX2_cubeAt_17 : decode cX2_cubeAt 17 = .ok (.iaload, 1) := by decide +kernel
theorem dX2_cubeAt_18 : decode cX2_cubeAt 18 = .ok (.goto 4, 3) := by decide +kernel
theorem dX2_cubeAt_21 : decode cX2_cubeAt 21 = .ok (.iconst 0, 1) := by decide +kernel
theorem dX2_cubeAt_22 : decode cX2_cubeAt 22 = .ok (.ireturn, 1) := by decide +kernel
theorem dX2_statesAt_0 : decode cX2_statesAt 0 = .ok (.iload_n 1, 1) := by decide +kernel
theorem dX2_statesAt_1 : decode cX2_statesAt 1 = .ok (.ifCond .lt 20, 3) := by decide +kernel
theorem dX2_statesAt_4 : decode cX2_statesAt 4 = .ok (.iload_n 1, 1) := by decide +kernel
theorem dX2_statesAt_5 : decode cX2_statesAt 5 = .ok (.aload_n 0, 1) := by decide +kernel
theorem dX2_statesAt_6 : decode cX2_statesAt 6 = .ok (.getfield 20, 3) := by decide +kernel
theorem dX2_statesAt_9 : decode cX2_statesAt 9 = .ok (.if_icmp .ge 12, 3) := by decide +kernel
theorem dX2_statesAt_12 : decode cX2_statesAt 12 = .ok (.aload_n 0, 1) := by decide +kernel
theorem dX2_statesAt_13 : decode cX2_statesAt 13 = .ok (.getfield 16, 3) := by decide +kernel
theorem dX2_statesAt_16 : decode cX2_statesAt 16 = .ok (.iload_n 1, 1) := by decide +kernel
theorem dX2_statesAt_17 : decode cX2_statesAt 17 = .ok (.laload, 1) := by decide +kernel
theorem dX2_statesAt_18 : decode cX2_statesAt 18 = .ok (.goto 4, 3) := by decide +kernel
theorem dX2_statesAt_21 : decode cX2_statesAt 21 = .ok (.lconst 0, 1) := by decide +kernel
theorem dX2_statesAt_22 : decode cX2_statesAt 22 = .ok (.lreturn, 1) := by decide +kernel
theorem dX2_isOf_0 : decode cX2_isOf 0 = .ok (.iload_n 1, 1) := by decide +kernel
theorem dX2_isOf_1 : decode cX2_isOf 1 = .ok (.ifCond .lt 25, 3) := by decide +kernel
theorem dX2_isOf_4 : decode cX2_isOf 4 = .ok (.iload_n 1, 1) := by decide +kernel
theorem dX2_isOf_5 : decode cX2_isOf 5 = .ok (.aload_n 0, 1) := by decide +kernel
theorem dX2_isOf_6 : decode cX2_isOf 6 = .ok (.getfield 20, 3) := by decide +kernel
theorem dX2_isOf_9 : decode cX2_isOf 9 = .ok (.if_icmp .ge 17, 3) := by decide +kernel
theorem dX2_isOf_12 : decode cX2_isOf 12 = .ok (.aload_n 0, 1) := by decide +kernel
theorem dX2_isOf_13 : decode cX2_isOf 13 = .ok (.getfield 7, 3) := by decide +kernel
theorem dX2_isOf_16 : decode cX2_isOf 16 = .ok (.iload_n 1, 1) := by decide +kernel
theorem dX2_isOf_17 : decode cX2_isOf 17 = .ok (.iaload, 1) := by decide +kernel
theorem dX2_isOf_18 : decode cX2_isOf 18 = .ok (.iload_n 2, 1) := by decide +kernel
theorem dX2_isOf_19 : decode cX2_isOf 19 = .ok (.if_icmp .ne 7, 3) := by decide +kernel
theorem dX2_isOf_22 : decode cX2_isOf 22 = .ok (.iconst 1, 1) := by decide +kernel
theorem dX2_isOf_23 : decode cX2_isOf 23 = .ok (.goto 4, 3) := by decide +kernel
theorem dX2_isOf_26 : decode cX2_isOf 26 = .ok (.iconst 0, 1) := by decide +kernel
theorem dX2_isOf_27 : decode cX2_isOf 27 = .ok (.ireturn, 1) := by decide +kernel
theorem dX2_startOf_0 : decode cX2_startOf 0 = .ok (.iconst 0, 1) := by decide +kernel
theorem dX2_startOf_1 : decode cX2_startOf 1 = .ok (.istore_n 2, 1) := by decide +kernel
theorem dX2_startOf_2 : decode cX2_startOf 2 = .ok (.iload_n 2, 1) := by decide +kernel
theorem dX2_startOf_3 : decode cX2_startOf 3 = .ok (.aload_n 0, 1) := by decide +kernel
theorem dX2_startOf_4 : decode cX2_startOf 4 = .ok (.getfield 20, 3) := by decide +kernel
theorem dX2_startOf_7 : decode cX2_startOf 7 = .ok (.if_icmp .ge 19, 3) := by decide +kernel
theorem dX2_startOf_10 : decode cX2_startOf 10 = .ok (.aload_n 0, 1) := by decide +kernel
theorem dX2_startOf_11 : decode cX2_startOf 11 = .ok (.getfield 7, 3) := by decide +kernel
theorem dX2_startOf_14 : decode cX2_startOf 14 = .ok (.iload_n 2, 1) := by decide +kernel
theorem dX2_startOf_15 : decode cX2_startOf 15 = .ok (.iaload, 1) := by decide +kernel
theorem dX2_startOf_16 : decode cX2_startOf 16 = .ok (.iload_n 1, 1) := by decide +kernel
theorem dX2_startOf_17 : decode cX2_startOf 17 = .ok (.if_icmp .ge 9, 3) := by decide +kernel
theorem dX2_startOf_20 : decode cX2_startOf 20 = .ok (.iinc 2 1, 3) := by decide +kernel
theorem dX2_startOf_23 : decode cX2_startOf 23 = .ok (.goto (-21), 3) := by decide +kernel
theorem dX2_startOf_26 : decode cX2_startOf 26 = .ok (.iload_n 2, 1) := by decide +kernel
theorem dX2_startOf_27 : decode cX2_startOf 27 = .ok (.ireturn, 1) := by decide +kernel
theorem dX2_countOf_0 : decode cX2_countOf 0 = .ok (.aload_n 0, 1) := by decide +kernel
theorem dX2_countOf_1 : decode cX2_countOf 1 = .ok (.iload_n 1, 1) := by decide +kernel
theorem dX2_countOf_2 : decode cX2_countOf 2 = .ok (.iconst 1, 1) := by decide +kernel
theorem dX2_countOf_3 : decode cX2_countOf 3 = .ok (.iadd, 1) := by decide +kernel
theorem dX2_countOf_4 : decode cX2_countOf 4 = .ok (.invokevirtual 50, 3) := by decide +kernel
theorem dX2_countOf_7 : decode cX2_countOf 7 = .ok (.aload_n 0, 1) := by decide +kernel
theorem dX2_countOf_8 : decode cX2_countOf 8 = .ok (.iload_n 1, 1) := by decide +kernel
theorem dX2_countOf_9 : decode cX2_countOf 9 = .ok (.invokevirtual 50, 3) := by decide +kernel
theorem dX2_countOf_12 : decode cX2_countOf 12 = .ok (.isub, 1) := by decide +kernel
theorem dX2_countOf_13 : decode cX2_countOf 13 = .ok (.ireturn, 1) := by decide +kernel
theorem dX2_highestFrame_0 : decode cX2_highestFrame 0 = .ok (.aload_n 0, 1) := by decide +kernel
theorem dX2_highestFrame_1 : decode cX2_highestFrame 1 = .ok (.getfield 20, 3) := by decide +kernel
theorem dX2_highestFrame_4 : decode cX2_highestFrame 4 = .ok (.ifCond .le 17, 3) := by decide +kernel
theorem dX2_highestFrame_7 : decode cX2_highestFrame 7 = .ok (.aload_n 0, 1) := by decide +kernel
theorem dX2_highestFrame_8 : decode cX2_highestFrame 8 = .ok (.getfield 7, 3) := by decide +kernel
theorem dX2_highestFrame_11 : decode cX2_highestFrame 11 = .ok (.aload_n 0, 1) := by decide +kernel
theorem dX2_highestFrame_12 : decode cX2_highestFrame 12 = .ok (.getfield 20, 3) := by decide +kernel
theorem dX2_highestFrame_15 : decode cX2_highestFrame 15 = .ok (.iconst 1, 1) := by decide +kernel
theorem dX2_highestFrame_16 : decode cX2_highestFrame 16 = .ok (.isub, 1) := by decide +kernel
theorem dX2_highestFrame_17 : decode cX2_highestFrame 17 = .ok (.iaload, 1) := by decide +kernel
theorem dX2_highestFrame_18 : decode cX2_highestFrame 18 = .ok (.goto 4, 3) := by decide +kernel
theorem dX2_highestFrame_21 : decode cX2_highestFrame 21 = .ok (.iconst 0, 1) := by decide +kernel
theorem dX2_highestFrame_22 : decode cX2_highestFrame 22 = .ok (.ireturn, 1) := by decide +kernel
theorem dX2_lettersOf_0 : decode cX2_lettersOf 0 = .ok (.iconst 0, 1) := by decide +kernel
theorem dX2_lettersOf_1 : decode cX2_lettersOf 1 = .ok (.istore_n 2, 1) := by decide +kernel
theorem dX2_lettersOf_2 : decode cX2_lettersOf 2 = .ok (.aload_n 0, 1) := by decide +kernel
theorem dX2_lettersOf_3 : decode cX2_lettersOf 3 = .ok (.iload_n 1, 1) := by decide +kernel
theorem dX2_lettersOf_4 : decode cX2_lettersOf 4 = .ok (.invokevirtual 50, 3) := by decide +kernel
theorem dX2_lettersOf_7 : decode cX2_lettersOf 7 = .ok (.istore_n 3, 1) := by decide +kernel
theorem dX2_lettersOf_8 : decode cX2_lettersOf 8 = .ok (.iload_n 3, 1) := by decide +kernel
theorem dX2_lettersOf_9 : decode cX2_lettersOf 9 = .ok (.aload_n 0, 1) := by decide +kernel
theorem dX2_lettersOf_10 : decode cX2_lettersOf 10 = .ok (.getfield 20, 3) := by decide +kernel
theorem dX2_lettersOf_13 : decode cX2_lettersOf 13 = .ok (.if_icmp .ge 34, 3) := by decide +kernel
theorem dX2_lettersOf_16 : decode cX2_lettersOf 16 = .ok (.aload_n 0, 1) := by decide +kernel
theorem dX2_lettersOf_17 : decode cX2_lettersOf 17 = .ok (.getfield 7, 3) := by decide +kernel
theorem dX2_lettersOf_20 : decode cX2_lettersOf 20 = .ok (.iload_n 3, 1) := by decide +kernel
theorem dX2_lettersOf_21 : decode cX2_lettersOf 21 = .ok (.iaload, 1) := by decide +kernel
theorem dX2_lettersOf_22 : decode cX2_lettersOf 22 = .ok (.iload_n 1, 1) := by decide +kernel
theorem dX2_lettersOf_23 : decode cX2_lettersOf 23 = .ok (.if_icmp .ne 24, 3) := by decide +kernel
theorem dX2_lettersOf_26 : decode cX2_lettersOf 26 = .ok (.iload_n 2, 1) := by decide +kernel
theorem dX2_lettersOf_27 : decode cX2_lettersOf 27 = .ok (.aload_n 0, 1) := by decide +kernel
theorem dX2_lettersOf_28 : decode cX2_lettersOf 28 = .ok (.getfield 13, 3) := by decide +kernel
theorem dX2_lettersOf_31 : decode cX2_lettersOf 31 = .ok (.iload_n 3, 1) := by decide +kernel
theorem dX2_lettersOf_32 : decode cX2_lettersOf 32 = .ok (.iaload, 1) := by decide +kernel
theorem dX2_lettersOf_33 : decode cX2_lettersOf 33 = .ok (.invokestatic 53, 3) := by decide +kernel
theorem dX2_lettersOf_36 : decode cX2_lettersOf 36 = .ok (.invokestatic 58, 3) := by decide +kernel
theorem dX2_lettersOf_39 : decode cX2_lettersOf 39 = .ok (.iadd, 1) := by decide +kernel
theorem dX2_lettersOf_40 : decode cX2_lettersOf 40 = .ok (.istore_n 2, 1) := by decide +kernel
theorem dX2_lettersOf_41 : decode cX2_lettersOf 41 = .ok (.iinc 3 1, 3) := by decide +kernel
theorem dX2_lettersOf_44 : decode cX2_lettersOf 44 = .ok (.goto (-36), 3) := by decide +kernel
theorem dX2_lettersOf_47 : decode cX2_lettersOf 47 = .ok (.iload_n 2, 1) := by decide +kernel
theorem dX2_lettersOf_48 : decode cX2_lettersOf 48 = .ok (.ireturn, 1) := by decide +kernel
theorem dX2_unionFrom_0 : decode cX2_unionFrom 0 = .ok (.lconst 0, 1) := by decide +kernel
theorem dX2_unionFrom_1 : decode cX2_unionFrom 1 = .ok (.lstore_n 2, 1) := by decide +kernel
theorem dX2_unionFrom_2 : decode cX2_unionFrom 2 = .ok (.iload_n 1, 1) := by decide +kernel
theorem dX2_unionFrom_3 : decode cX2_unionFrom 3 = .ok (.ifCond .lt 7, 3) := by decide +kernel
theorem dX2_unionFrom_6 : decode cX2_unionFrom 6 = .ok (.iload_n 1, 1) := by decide +kernel
theorem dX2_unionFrom_7 : decode cX2_unionFrom 7 = .ok (.goto 4, 3) := by decide +kernel
theorem dX2_unionFrom_10 : decode cX2_unionFrom 10 = .ok (.iconst 0, 1) := by decide +kernel
theorem dX2_unionFrom_11 : decode cX2_unionFrom 11 = .ok (.istore 4, 2) := by decide +kernel
theorem dX2_unionFrom_13 : decode cX2_unionFrom 13 = .ok (.iload 4, 2) := by decide +kernel
theorem dX2_unionFrom_15 : decode cX2_unionFrom 15 = .ok (.aload_n 0, 1) := by decide +kernel
theorem dX2_unionFrom_16 : decode cX2_unionFrom 16 = .ok (.getfield 20, 3) := by decide +kernel
theorem dX2_unionFrom_19 : decode cX2_unionFrom 19 = .ok (.if_icmp .ge 19, 3) := by decide +kernel
theorem dX2_unionFrom_22 : decode cX2_unionFrom 22 = .ok (.lload_n 2, 1) := by decide +kernel
theorem dX2_unionFrom_23 : decode cX2_unionFrom 23 = .ok (.aload_n 0, 1) := by decide +kernel
theorem dX2_unionFrom_24 : decode cX2_unionFrom 24 = .ok (.getfield 16, 3) := by decide +kernel
theorem dX2_unionFrom_27 : decode cX2_unionFrom 27 = .ok (.iload 4, 2) := by decide +kernel
theorem dX2_unionFrom_29 : decode cX2_unionFrom 29 = .ok (.laload, 1) := by decide +kernel
theorem dX2_unionFrom_30 : decode cX2_unionFrom 30 = .ok (.lor, 1) := by decide +kernel
theorem dX2_unionFrom_31 : decode cX2_unionFrom 31 = .ok (.lstore_n 2, 1) := by decide +kernel
theorem dX2_unionFrom_32 : decode cX2_unionFrom 32 = .ok (.iinc 4 1, 3) := by decide +kernel
theorem dX2_unionFrom_35 : decode cX2_unionFrom 35 = .ok (.goto (-22), 3) := by decide +kernel
theorem dX2_unionFrom_38 : decode cX2_unionFrom 38 = .ok (.lload_n 2, 1) := by decide +kernel
theorem dX2_unionFrom_39 : decode cX2_unionFrom 39 = .ok (.lreturn, 1) := by decide +kernel
theorem dX2_unionBut_0 : decode cX2_unionBut 0 = .ok (.lconst 0, 1) := by decide +kernel
theorem dX2_unionBut_1 : decode cX2_unionBut 1 = .ok (.lstore_n 2, 1) := by decide +kernel
theorem dX2_unionBut_2 : decode cX2_unionBut 2 = .ok (.iconst 0, 1) := by decide +kernel
theorem dX2_unionBut_3 : decode cX2_unionBut 3 = .ok (.istore 4, 2) := by decide +kernel
theorem dX2_unionBut_5 : decode cX2_unionBut 5 = .ok (.iload 4, 2) := by decide +kernel
theorem dX2_unionBut_7 : decode cX2_unionBut 7 = .ok (.aload_n 0, 1) := by decide +kernel
theorem dX2_unionBut_8 : decode cX2_unionBut 8 = .ok (.getfield 20, 3) := by decide +kernel
theorem dX2_unionBut_11 : decode cX2_unionBut 11 = .ok (.if_icmp .ge 25, 3) := by decide +kernel
theorem dX2_unionBut_14 : decode cX2_unionBut 14 = .ok (.iload 4, 2) := by decide +kernel
theorem dX2_unionBut_16 : decode cX2_unionBut 16 = .ok (.iload_n 1, 1) := by decide +kernel
theorem dX2_unionBut_17 : decode cX2_unionBut 17 = .ok (.if_icmp .eq 13, 3) := by decide +kernel
theorem dX2_unionBut_20 : decode cX2_unionBut 20 = .ok (.lload_n 2, 1) := by decide +kernel
theorem dX2_unionBut_21 : decode cX2_unionBut 21 = .ok (.aload_n 0, 1) := by decide +kernel
theorem dX2_unionBut_22 : decode cX2_unionBut 22 = .ok (.getfield 16, 3) := by decide +kernel
theorem dX2_unionBut_25 : decode cX2_unionBut 25 = .ok (.iload 4, 2) := by decide +kernel
theorem dX2_unionBut_27 : decode cX2_unionBut 27 = .ok (.laload, 1) := by decide +kernel
theorem dX2_unionBut_28 : decode cX2_unionBut 28 = .ok (.lor, 1) := by decide +kernel
theorem dX2_unionBut_29 : decode cX2_unionBut 29 = .ok (.lstore_n 2, 1) := by decide +kernel
theorem dX2_unionBut_30 : decode cX2_unionBut 30 = .ok (.iinc 4 1, 3) := by decide +kernel
theorem dX2_unionBut_33 : decode cX2_unionBut 33 = .ok (.goto (-28), 3) := by decide +kernel
theorem dX2_unionBut_36 : decode cX2_unionBut 36 = .ok (.lload_n 2, 1) := by decide +kernel
theorem dX2_unionBut_37 : decode cX2_unionBut 37 = .ok (.lreturn, 1) := by decide +kernel
theorem dX2_putLast_0 : decode cX2_putLast 0 = .ok (.iconst 0, 1) := by decide +kernel
theorem dX2_putLast_1 : decode cX2_putLast 1 = .ok (.istore_n 3, 1) := by decide +kernel
theorem dX2_putLast_2 : decode cX2_putLast 2 = .ok (.iconst 0, 1) := by decide +kernel
theorem dX2_putLast_3 : decode cX2_putLast 3 = .ok (.istore 4, 2) := by decide +kernel
theorem dX2_putLast_5 : decode cX2_putLast 5 = .ok (.iload 4, 2) := by decide +kernel
theorem dX2_putLast_7 : decode cX2_putLast 7 = .ok (.aload_n 0, 1) := by decide +kernel
theorem dX2_putLast_8 : decode cX2_putLast 8 = .ok (.getfield 20, 3) := by decide +kernel
theorem dX2_putLast_11 : decode cX2_putLast 11 = .ok (.if_icmp .ge 76, 3) := by decide +kernel
theorem dX2_putLast_14 : decode cX2_putLast 14 = .ok (.aload_n 0, 1) := by decide +kernel
theorem dX2_putLast_15 : decode cX2_putLast 15 = .ok (.getfield 7, 3) := by decide +kernel
theorem dX2_putLast_18 : decode cX2_putLast 18 = .ok (.iload 4, 2) := by decide +kernel
theorem dX2_putLast_20 : decode cX2_putLast 20 = .ok (.iaload, 1) := by decide +kernel
theorem dX2_putLast_21 : decode cX2_putLast 21 = .ok (.iload_n 1, 1) := by decide +kernel
theorem dX2_putLast_22 : decode cX2_putLast 22 = .ok (.if_icmp .gt 17, 3) := by decide +kernel
theorem dX2_putLast_25 : decode cX2_putLast 25 = .ok (.aload_n 0, 1) := by decide +kernel
theorem dX2_putLast_26 : decode cX2_putLast 26 = .ok (.getfield 13, 3) := by decide +kernel
theorem dX2_putLast_29 : decode cX2_putLast 29 = .ok (.iload 4, 2) := by decide +kernel
theorem dX2_putLast_31 : decode cX2_putLast 31 = .ok (.iaload, 1) := by decide +kernel
theorem dX2_putLast_32 : decode cX2_putLast 32 = .ok (.iload_n 2, 1) := by decide +kernel
theorem dX2_putLast_33 : decode cX2_putLast 33 = .ok (.invokestatic 63, 3) := by decide +kernel
theorem dX2_putLast_36 : decode cX2_putLast 36 = .ok (.ifCond .ne 45, 3) := by decide +kernel
theorem dX2_putLast_39 : decode cX2_putLast 39 = .ok (.aload_n 0, 1) := by decide +kernel
theorem dX2_putLast_40 : decode cX2_putLast 40 = .ok (.getfield 7, 3) := by decide +kernel
theorem dX2_putLast_43 : decode cX2_putLast 43 = .ok (.iload_n 3, 1) := by decide +kernel
theorem dX2_putLast_44 : decode cX2_putLast 44 = .ok (.aload_n 0, 1) := by decide +kernel
theorem dX2_putLast_45 : decode cX2_putLast 45 = .ok (.getfield 7, 3) := by decide +kernel
theorem dX2_putLast_48 : decode cX2_putLast 48 = .ok (.iload 4, 2) := by decide +kernel
theorem dX2_putLast_50 : decode cX2_putLast 50 = .ok (.iaload, 1) := by decide +kernel
theorem dX2_putLast_51 : decode cX2_putLast 51 = .ok (.iastore, 1) := by decide +kernel
theorem dX2_putLast_52 : decode cX2_putLast 52 = .ok (.aload_n 0, 1) := by decide +kernel
theorem dX2_putLast_53 : decode cX2_putLast 53 = .ok (.getfield 13, 3) := by decide +kernel
theorem dX2_putLast_56 : decode cX2_putLast 56 = .ok (.iload_n 3, 1) := by decide +kernel
theorem dX2_putLast_57 : decode cX2_putLast 57 = .ok (.aload_n 0, 1) := by decide +kernel
theorem dX2_putLast_58 : decode cX2_putLast 58 = .ok (.getfield 13, 3) := by decide +kernel
theorem dX2_putLast_61 : decode cX2_putLast 61 = .ok (.iload 4, 2) := by decide +kernel
theorem dX2_putLast_63 : decode cX2_putLast 63 = .ok (.iaload, 1) := by decide +kernel
theorem dX2_putLast_64 : decode cX2_putLast 64 = .ok (.iastore, 1) := by decide +kernel
theorem dX2_putLast_65 : decode cX2_putLast 65 = .ok (.aload_n 0, 1) := by decide +kernel
theorem dX2_putLast_66 : decode cX2_putLast 66 = .ok (.getfield 16, 3) := by decide +kernel
theorem dX2_putLast_69 : decode cX2_putLast 69 = .ok (.iload_n 3, 1) := by decide +kernel
theorem dX2_putLast_70 : decode cX2_putLast 70 = .ok (.aload_n 0, 1) := by decide +kernel
theorem dX2_putLast_71 : decode cX2_putLast 71 = .ok (.getfield 16, 3) := by decide +kernel
theorem dX2_putLast_74 : decode cX2_putLast 74 = .ok (.iload 4, 2) := by decide +kernel
theorem dX2_putLast_76 : decode cX2_putLast 76 = .ok (.laload, 1) := by decide +kernel
theorem dX2_putLast_77 : decode cX2_putLast 77 = .ok (.lastore, 1) := by decide +kernel
theorem dX2_putLast_78 : decode cX2_putLast 78 = .ok (.iinc 3 1, 3) := by decide +kernel
theorem dX2_putLast_81 : decode cX2_putLast 81 = .ok (.iinc 4 1, 3) := by decide +kernel
theorem dX2_putLast_84 : decode cX2_putLast 84 = .ok (.goto (-79), 3) := by decide +kernel
theorem dX2_putLast_87 : decode cX2_putLast 87 = .ok (.aload_n 0, 1) := by decide +kernel
theorem dX2_putLast_88 : decode cX2_putLast 88 = .ok (.iload_n 3, 1) := by decide +kernel
theorem dX2_putLast_89 : decode cX2_putLast 89 = .ok (.putfield 20, 3) := by decide +kernel
theorem dX2_putLast_92 : decode cX2_putLast 92 = .ok (.aload_n 0, 1) := by decide +kernel
theorem dX2_putLast_93 : decode cX2_putLast 93 = .ok (.aload_n 0, 1) := by decide +kernel
theorem dX2_putLast_94 : decode cX2_putLast 94 = .ok (.iload_n 1, 1) := by decide +kernel
theorem dX2_putLast_95 : decode cX2_putLast 95 = .ok (.iconst 1, 1) := by decide +kernel
theorem dX2_putLast_96 : decode cX2_putLast 96 = .ok (.iadd, 1) := by decide +kernel
theorem dX2_putLast_97 : decode cX2_putLast 97 = .ok (.invokevirtual 50, 3) := by decide +kernel
theorem dX2_putLast_100 : decode cX2_putLast 100 = .ok (.iload_n 1, 1) := by decide +kernel
theorem dX2_putLast_101 : decode cX2_putLast 101 = .ok (.iload_n 2, 1) := by decide +kernel
theorem dX2_putLast_102 : decode cX2_putLast 102 = .ok (.invokevirtual 67, 3) := by decide +kernel
theorem dX2_putLast_105 : decode cX2_putLast 105 = .ok (.return_, 1) := by decide +kernel
theorem dX2_append_0 : decode cX2_append 0 = .ok (.aload_n 0, 1) := by decide +kernel
theorem dX2_append_1 : decode cX2_append 1 = .ok (.aload_n 0, 1) := by decide +kernel
theorem dX2_append_2 : decode cX2_append 2 = .ok (.getfield 20, 3) := by decide +kernel
theorem dX2_append_5 : decode cX2_append 5 = .ok (.iconst 0, 1) := by decide +kernel
theorem dX2_append_6 : decode cX2_append 6 = .ok (.iload_n 1, 1) := by decide +kernel
theorem dX2_append_7 : decode cX2_append 7 = .ok (.invokevirtual 67, 3) := by decide +kernel
theorem dX2_append_10 : decode cX2_append 10 = .ok (.return_, 1) := by decide +kernel
theorem dX2_insert_0 : decode cX2_insert 0 = .ok (.iload_n 1, 1) := by decide +kernel
theorem dX2_insert_1 : decode cX2_insert 1 = .ok (.ifCond .lt 11, 3) := by decide +kernel
theorem dX2_insert_4 : decode cX2_insert 4 = .ok (.iload_n 1, 1) := by decide +kernel
theorem dX2_insert_5 : decode cX2_insert 5 = .ok (.aload_n 0, 1) := by decide +kernel
theorem dX2_insert_6 : decode cX2_insert 6 = .ok (.getfield 20, 3) := by decide +kernel
theorem dX2_insert_9 : decode cX2_insert 9 = .ok (.if_icmp .le 4, 3) := by decide +kernel
theorem dX2_insert_12 : decode cX2_insert 12 = .ok (.return_, 1) := by decide +kernel
theorem dX2_insert_13 : decode cX2_insert 13 = .ok (.aload_n 0, 1) := by decide +kernel
theorem dX2_insert_14 : decode cX2_insert 14 = .ok (.getfield 20, 3) := by decide +kernel
theorem dX2_insert_17 : decode cX2_insert 17 = .ok (.aload_n 0, 1) := by decide +kernel
theorem dX2_insert_18 : decode cX2_insert 18 = .ok (.getfield 7, 3) := by decide +kernel
theorem dX2_insert_21 : decode cX2_insert 21 = .ok (.arraylength, 1) := by decide +kernel
theorem dX2_insert_22 : decode cX2_insert 22 = .ok (.if_icmp .lt 16, 3) := by decide +kernel
theorem dX2_insert_25 : decode cX2_insert 25 = .ok (.aload_n 0, 1) := by decide +kernel
theorem dX2_insert_26 : decode cX2_insert 26 = .ok (.aload_n 0, 1) := by decide +kernel
theorem dX2_insert_27 : decode cX2_insert 27 = .ok (.getfield 20, 3) := by decide +kernel
theorem dX2_insert_30 : decode cX2_insert 30 = .ok (.iconst 2, 1) := by decide +kernel
theorem dX2_insert_31 : decode cX2_insert 31 = .ok (.imul, 1) := by decide +kernel
theorem dX2_insert_32 : decode cX2_insert 32 = .ok (.bipush 8, 2) := by decide +kernel
theorem dX2_insert_34 : decode cX2_insert 34 = .ok (.iadd, 1) := by decide +kernel
theorem dX2_insert_35 : decode cX2_insert 35 = .ok (.invokevirtual 24, 3) := by decide +kernel
theorem dX2_insert_38 : decode cX2_insert 38 = .ok (.aload_n 0, 1) := by decide +kernel
theorem dX2_insert_39 : decode cX2_insert 39 = .ok (.getfield 7, 3) := by decide +kernel
theorem dX2_insert_42 : decode cX2_insert 42 = .ok (.iload_n 1, 1) := by decide +kernel
theorem dX2_insert_43 : decode cX2_insert 43 = .ok (.aload_n 0, 1) := by decide +kernel
theorem dX2_insert_44 : decode cX2_insert 44 = .ok (.getfield 7, 3) := by decide +kernel
theorem dX2_insert_47 : decode cX2_insert 47 = .ok (.iload_n 1, 1) := by decide +kernel
theorem dX2_insert_48 : decode cX2_insert 48 = .ok (.iconst 1, 1) := by decide +kernel
theorem dX2_insert_49 : decode cX2_insert 49 = .ok (.iadd, 1) := by decide +kernel
theorem dX2_insert_50 : decode cX2_insert 50 = .ok (.aload_n 0, 1) := by decide +kernel
theorem dX2_insert_51 : decode cX2_insert 51 = .ok (.getfield 20, 3) := by decide +kernel
theorem dX2_insert_54 : decode cX2_insert 54 = .ok (.iload_n 1, 1) := by decide +kernel
theorem dX2_insert_55 : decode cX2_insert 55 = .ok (.isub, 1) := by decide +kernel
theorem dX2_insert_56 : decode cX2_insert 56 = .ok (.invokestatic 28, 3) := by decide +kernel
theorem dX2_insert_59 : decode cX2_insert 59 = .ok (.aload_n 0, 1) := by decide +kernel
theorem dX2_insert_60 : decode cX2_insert 60 = .ok (.getfield 13, 3) := by decide +kernel
theorem dX2_insert_63 : decode cX2_insert 63 = .ok (.iload_n 1, 1) := by decide +kernel
theorem dX2_insert_64 : decode cX2_insert 64 = .ok (.aload_n 0, 1) := by decide +kernel
theorem dX2_insert_65 : decode cX2_insert 65 = .ok (.getfield 13, 3) := by decide +kernel
theorem dX2_insert_68 : decode cX2_insert 68 = .ok (.iload_n 1, 1) := by decide +kernel
theorem dX2_insert_69 : decode cX2_insert 69 = .ok (.iconst 1, 1) := by decide +kernel
theorem dX2_insert_70 : decode cX2_insert 70 = .ok (.iadd, 1) := by decide +kernel
theorem dX2_insert_71 : decode cX2_insert 71 = .ok (.aload_n 0, 1) := by decide +kernel
theorem dX2_insert_72 : decode cX2_insert 72 = .ok (.getfield 20, 3) := by decide +kernel
theorem dX2_insert_75 : decode cX2_insert 75 = .ok (.iload_n 1, 1) := by decide +kernel
theorem dX2_insert_76 : decode cX2_insert 76 = .ok (.isub, 1) := by decide +kernel
theorem dX2_insert_77 : decode cX2_insert 77 = .ok (.invokestatic 28, 3) := by decide +kernel
theorem dX2_insert_80 : decode cX2_insert 80 = .ok (.aload_n 0, 1) := by decide +kernel
theorem dX2_insert_81 : decode cX2_insert 81 = .ok (.getfield 16, 3) := by decide +kernel
theorem dX2_insert_84 : decode cX2_insert 84 = .ok (.iload_n 1, 1) := by decide +kernel
theorem dX2_insert_85 : decode cX2_insert 85 = .ok (.aload_n 0, 1) := by decide +kernel
theorem dX2_insert_86 : decode cX2_insert 86 = .ok (.getfield 16, 3) := by decide +kernel
theorem dX2_insert_89 : decode cX2_insert 89 = .ok (.iload_n 1, 1) := by decide +kernel
theorem dX2_insert_90 : decode cX2_insert 90 = .ok (.iconst 1, 1) := by decide +kernel
theorem dX2_insert_91 : decode cX2_insert 91 = .ok (.iadd, 1) := by decide +kernel
theorem dX2_insert_92 : decode cX2_insert 92 = .ok (.aload_n 0, 1) := by decide +kernel
theorem dX2_insert_93 : decode cX2_insert 93 = .ok (.getfield 20, 3) := by decide +kernel
theorem dX2_insert_96 : decode cX2_insert 96 = .ok (.iload_n 1, 1) := by decide +kernel
theorem dX2_insert_97 : decode cX2_insert 97 = .ok (.isub, 1) := by decide +kernel
theorem dX2_insert_98 : decode cX2_insert 98 = .ok (.invokestatic 28, 3) := by decide +kernel
theorem dX2_insert_101 : decode cX2_insert 101 = .ok (.aload_n 0, 1) := by decide +kernel
theorem dX2_insert_102 : decode cX2_insert 102 = .ok (.getfield 7, 3) := by decide +kernel
theorem dX2_insert_105 : decode cX2_insert 105 = .ok (.iload_n 1, 1) := by decide +kernel
theorem dX2_insert_106 : decode cX2_insert 106 = .ok (.iload_n 2, 1) := by decide +kernel
theorem dX2_insert_107 : decode cX2_insert 107 = .ok (.iastore, 1) := by decide +kernel
theorem dX2_insert_108 : decode cX2_insert 108 = .ok (.aload_n 0, 1) := by decide +kernel
theorem dX2_insert_109 : decode cX2_insert 109 = .ok (.getfield 13, 3) := by decide +kernel
theorem dX2_insert_112 : decode cX2_insert 112 = .ok (.iload_n 1, 1) := by decide +kernel
theorem dX2_insert_113 : decode cX2_insert 113 = .ok (.iload_n 3, 1) := by decide +kernel
theorem dX2_insert_114 : decode cX2_insert 114 = .ok (.iastore, 1) := by decide +kernel
theorem dX2_insert_115 : decode cX2_insert 115 = .ok (.aload_n 0, 1) := by decide +kernel
theorem dX2_insert_116 : decode cX2_insert 116 = .ok (.getfield 16, 3) := by decide +kernel
theorem dX2_insert_119 : decode cX2_insert 119 = .ok (.iload_n 1, 1) := by decide +kernel
theorem dX2_insert_120 : decode cX2_insert 120 = .ok (.iload_n 3, 1) := by decide +kernel
theorem dX2_insert_121 : decode cX2_insert 121 = .ok (.invokestatic 71, 3) := by decide +kernel
theorem dX2_insert_124 : decode cX2_insert 124 = .ok (.lastore, 1) := by decide +kernel
theorem dX2_insert_125 : decode cX2_insert 125 = .ok (.aload_n 0, 1) := by decide +kernel
theorem dX2_insert_126 : decode cX2_insert 126 = .ok (.dup, 1) := by decide +kernel
theorem dX2_insert_127 : decode cX2_insert 127 = .ok (.getfield 20, 3) := by decide +kernel
theorem dX2_insert_130 : decode cX2_insert 130 = .ok (.iconst 1, 1) := by decide +kernel
theorem dX2_insert_131 : decode cX2_insert 131 = .ok (.iadd, 1) := by decide +kernel
theorem dX2_insert_132 : decode cX2_insert 132 = .ok (.putfield 20, 3) := by decide +kernel
theorem dX2_insert_135 : decode cX2_insert 135 = .ok (.return_, 1) := by decide +kernel
theorem dX2_change_0 : decode cX2_change 0 = .ok (.iload_n 1, 1) := by decide +kernel
theorem dX2_change_1 : decode cX2_change 1 = .ok (.ifCond .lt 28, 3) := by decide +kernel
theorem dX2_change_4 : decode cX2_change 4 = .ok (.iload_n 1, 1) := by decide +kernel
theorem dX2_change_5 : decode cX2_change 5 = .ok (.aload_n 0, 1) := by decide +kernel
theorem dX2_change_6 : decode cX2_change 6 = .ok (.getfield 20, 3) := by decide +kernel
theorem dX2_change_9 : decode cX2_change 9 = .ok (.if_icmp .ge 20, 3) := by decide +kernel
theorem dX2_change_12 : decode cX2_change 12 = .ok (.aload_n 0, 1) := by decide +kernel
theorem dX2_change_13 : decode cX2_change 13 = .ok (.getfield 13, 3) := by decide +kernel
theorem dX2_change_16 : decode cX2_change 16 = .ok (.iload_n 1, 1) := by decide +kernel
theorem dX2_change_17 : decode cX2_change 17 = .ok (.iload_n 2, 1) := by decide +kernel
theorem dX2_change_18 : decode cX2_change 18 = .ok (.iastore, 1) := by decide +kernel
theorem dX2_change_19 : decode cX2_change 19 = .ok (.aload_n 0, 1) := by decide +kernel
theorem dX2_change_20 : decode cX2_change 20 = .ok (.getfield 16, 3) := by decide +kernel
theorem dX2_change_23 : decode cX2_change 23 = .ok (.iload_n 1, 1) := by decide +kernel
theorem dX2_change_24 : decode cX2_change 24 = .ok (.iload_n 2, 1) := by decide +kernel
theorem dX2_change_25 : decode cX2_change 25 = .ok (.invokestatic 71, 3) := by decide +kernel
theorem dX2_change_28 : decode cX2_change 28 = .ok (.lastore, 1) := by decide +kernel
theorem dX2_change_29 : decode cX2_change 29 = .ok (.return_, 1) := by decide +kernel
theorem dX2_removeAt_0 : decode cX2_removeAt 0 = .ok (.iload_n 1, 1) := by decide +kernel
theorem dX2_removeAt_1 : decode cX2_removeAt 1 = .ok (.ifCond .lt 11, 3) := by decide +kernel
theorem dX2_removeAt_4 : decode cX2_removeAt 4 = .ok (.iload_n 1, 1) := by decide +kernel
theorem dX2_removeAt_5 : decode cX2_removeAt 5 = .ok (.aload_n 0, 1) := by decide +kernel
theorem dX2_removeAt_6 : decode cX2_removeAt 6 = .ok (.getfield 20, 3) := by decide +kernel
theorem dX2_removeAt_9 : decode cX2_removeAt 9 = .ok (.if_icmp .lt 4, 3) := by decide +kernel
theorem dX2_removeAt_12 : decode cX2_removeAt 12 = .ok (.return_, 1) := by decide +kernel
theorem dX2_removeAt_13 : decode cX2_removeAt 13 = .ok (.aload_n 0, 1) := by decide +kernel
theorem dX2_removeAt_14 : decode cX2_removeAt 14 = .ok (.getfield 20, 3) := by decide +kernel
theorem dX2_removeAt_17 : decode cX2_removeAt 17 = .ok (.iload_n 1, 1) := by decide +kernel
theorem dX2_removeAt_18 : decode cX2_removeAt 18 = .ok (.isub, 1) := by decide +kernel
theorem dX2_removeAt_19 : decode cX2_removeAt 19 = .ok (.iconst 1, 1) := by decide +kernel
theorem dX2_removeAt_20 : decode cX2_removeAt 20 = .ok (.isub, 1) := by decide +kernel
theorem dX2_removeAt_21 : decode cX2_removeAt 21 = .ok (.istore_n 2, 1) := by decide +kernel
theorem dX2_removeAt_22 : decode cX2_removeAt 22 = .ok (.aload_n 0, 1) := by decide +kernel
theorem dX2_removeAt_23 : decode cX2_removeAt 23 = .ok (.getfield 7, 3) := by decide +kernel
theorem dX2_removeAt_26 : decode cX2_removeAt 26 = .ok (.iload_n 1, 1) := by decide +kernel
theorem dX2_removeAt_27 : decode cX2_removeAt 27 = .ok (.iconst 1, 1) := by decide +kernel
theorem dX2_removeAt_28 : decode cX2_removeAt 28 = .ok (.iadd, 1) := by decide +kernel
theorem dX2_removeAt_29 : decode cX2_removeAt 29 = .ok (.aload_n 0, 1) := by decide +kernel
theorem dX2_removeAt_30 : decode cX2_removeAt 30 = .ok (.getfield 7, 3) := by decide +kernel
theorem dX2_removeAt_33 : decode cX2_removeAt 33 = .ok (.iload_n 1, 1) := by decide +kernel
theorem dX2_removeAt_34 : decode cX2_removeAt 34 = .ok (.iload_n 2, 1) := by decide +kernel
theorem dX2_removeAt_35 : decode cX2_removeAt 35 = .ok (.invokestatic 28, 3) := by decide +kernel
theorem dX2_removeAt_38 : decode cX2_removeAt 38 = .ok (.aload_n 0, 1) := by decide +kernel
theorem dX2_removeAt_39 : decode cX2_removeAt 39 = .ok (.getfield 13, 3) := by decide +kernel
theorem dX2_removeAt_42 : decode cX2_removeAt 42 = .ok (.iload_n 1, 1) := by decide +kernel
theorem dX2_removeAt_43 : decode cX2_removeAt 43 = .ok (.iconst 1, 1) := by decide +kernel
theorem dX2_removeAt_44 : decode cX2_removeAt 44 = .ok (.iadd, 1) := by decide +kernel
theorem dX2_removeAt_45 : decode cX2_removeAt 45 = .ok (.aload_n 0, 1) := by decide +kernel
theorem dX2_removeAt_46 : decode cX2_removeAt 46 = .ok (.getfield 13, 3) := by decide +kernel
theorem dX2_removeAt_49 : decode cX2_removeAt 49 = .ok (.iload_n 1, 1) := by decide +kernel
theorem dX2_removeAt_50 : decode cX2_removeAt 50 = .ok (.iload_n 2, 1) := by decide +kernel
theorem dX2_removeAt_51 : decode cX2_removeAt 51 = .ok (.invokestatic 28, 3) := by decide +kernel
theorem dX2_removeAt_54 : decode cX2_removeAt 54 = .ok (.aload_n 0, 1) := by decide +kernel
theorem dX2_removeAt_55 : decode cX2_removeAt 55 = .ok (.getfield 16, 3) := by decide +kernel
theorem dX2_removeAt_58 : decode cX2_removeAt 58 = .ok (.iload_n 1, 1) := by decide +kernel
theorem dX2_removeAt_59 : decode cX2_removeAt 59 = .ok (.iconst 1, 1) := by decide +kernel
theorem dX2_removeAt_60 : decode cX2_removeAt 60 = .ok (.iadd, 1) := by decide +kernel
theorem dX2_removeAt_61 : decode cX2_removeAt 61 = .ok (.aload_n 0, 1) := by decide +kernel
theorem dX2_removeAt_62 : decode cX2_removeAt 62 = .ok (.getfield 16, 3) := by decide +kernel
theorem dX2_removeAt_65 : decode cX2_removeAt 65 = .ok (.iload_n 1, 1) := by decide +kernel
theorem dX2_removeAt_66 : decode cX2_removeAt 66 = .ok (.iload_n 2, 1) := by decide +kernel
theorem dX2_removeAt_67 : decode cX2_removeAt 67 = .ok (.invokestatic 28, 3) := by decide +kernel
theorem dX2_removeAt_70 : decode cX2_removeAt 70 = .ok (.aload_n 0, 1) := by decide +kernel
theorem dX2_removeAt_71 : decode cX2_removeAt 71 = .ok (.dup, 1) := by decide +kernel
theorem dX2_removeAt_72 : decode cX2_removeAt 72 = .ok (.getfield 20, 3) := by decide +kernel
theorem dX2_removeAt_75 : decode cX2_removeAt 75 = .ok (.iconst 1, 1) := by decide +kernel
theorem dX2_removeAt_76 : decode cX2_removeAt 76 = .ok (.isub, 1) := by decide +kernel
theorem dX2_removeAt_77 : decode cX2_removeAt 77 = .ok (.putfield 20, 3) := by decide +kernel
theorem dX2_removeAt_80 : decode cX2_removeAt 80 = .ok (.return_, 1) := by decide +kernel
theorem dX3_cubeOf_0 : decode cX3_cubeOf 0 = .ok (.iload_n 0, 1) := by decide +kernel
theorem dX3_cubeOf_1 : decode cX3_cubeOf 1 = .ok (.bipush 64, 2) := by decide +kernel
theorem dX3_cubeOf_3 : decode cX3_cubeOf 3 = .ok (.imul, 1) := by decide +kernel
theorem dX3_cubeOf_4 : decode cX3_cubeOf 4 = .ok (.iload_n 1, 1) := by decide +kernel
theorem dX3_cubeOf_5 : decode cX3_cubeOf 5 = .ok (.iadd, 1) := by decide +kernel
theorem dX3_cubeOf_6 : decode cX3_cubeOf 6 = .ok (.ireturn, 1) := by decide +kernel
theorem dX3_maskOf_0 : decode cX3_maskOf 0 = .ok (.iload_n 0, 1) := by decide +kernel
theorem dX3_maskOf_1 : decode cX3_maskOf 1 = .ok (.bipush 64, 2) := by decide +kernel
theorem dX3_maskOf_3 : decode cX3_maskOf 3 = .ok (.idiv, 1) := by decide +kernel
theorem dX3_maskOf_4 : decode cX3_maskOf 4 = .ok (.ireturn, 1) := by decide +kernel
theorem dX3_bitsOf_0 : decode cX3_bitsOf 0 = .ok (.iload_n 0, 1) := by decide +kernel
theorem dX3_bitsOf_1 : decode cX3_bitsOf 1 = .ok (.bipush 64, 2) := by decide +kernel
theorem dX3_bitsOf_3 : decode cX3_bitsOf 3 = .ok (.irem, 1) := by decide +kernel
theorem dX3_bitsOf_4 : decode cX3_bitsOf 4 = .ok (.ireturn, 1) := by decide +kernel
theorem dX3_without_0 : decode cX3_without 0 = .ok (.iconst 1, 1) := by decide +kernel
theorem dX3_without_1 : decode cX3_without 1 = .ok (.iload_n 1, 1) := by decide +kernel
theorem dX3_without_2 : decode cX3_without 2 = .ok (.ishl, 1) := by decide +kernel
theorem dX3_without_3 : decode cX3_without 3 = .ok (.istore_n 2, 1) := by decide +kernel
theorem dX3_without_4 : decode cX3_without 4 = .ok (.iload_n 0, 1) := by decide +kernel
theorem dX3_without_5 : decode cX3_without 5 = .ok (.invokestatic 9, 3) := by decide +kernel
theorem dX3_without_8 : decode cX3_without 8 = .ok (.iload_n 2, 1) := by decide +kernel
theorem dX3_without_9 : decode cX3_without 9 = .ok (.iconst (-1), 1) := by decide +kernel
theorem dX3_without_10 : decode cX3_without 10 = .ok (.ixor, 1) := by decide +kernel
theorem dX3_without_11 : decode cX3_without 11 = .ok (.iand, 1) := by decide +kernel
theorem dX3_without_12 : decode cX3_without 12 = .ok (.iload_n 0, 1) := by decide +kernel
theorem dX3_without_13 : decode cX3_without 13 = .ok (.invokestatic 15, 3) := by decide +kernel
theorem dX3_without_16 : decode cX3_without 16 = .ok (.iload_n 2, 1) := by decide +kernel
theorem dX3_without_17 : decode cX3_without 17 = .ok (.iconst (-1), 1) := by decide +kernel
theorem dX3_without_18 : decode cX3_without 18 = .ok (.ixor, 1) := by decide +kernel
theorem dX3_without_19 : decode cX3_without 19 = .ok (.iand, 1) := by decide +kernel
theorem dX3_without_20 : decode cX3_without 20 = .ok (.invokestatic 18, 3) := by decide +kernel
theorem dX3_without_23 : decode cX3_without 23 = .ok (.ireturn, 1) := by decide +kernel
theorem dX3_liesIn_0 : decode cX3_liesIn 0 = .ok (.iload_n 1, 1) := by decide +kernel
theorem dX3_liesIn_1 : decode cX3_liesIn 1 = .ok (.invokestatic 9, 3) := by decide +kernel
theorem dX3_liesIn_4 : decode cX3_liesIn 4 = .ok (.istore_n 2, 1) := by decide +kernel
theorem dX3_liesIn_5 : decode cX3_liesIn 5 = .ok (.iload_n 0, 1) := by decide +kernel
theorem dX3_liesIn_6 : decode cX3_liesIn 6 = .ok (.invokestatic 9, 3) := by decide +kernel
theorem dX3_liesIn_9 : decode cX3_liesIn 9 = .ok (.iload_n 2, 1) := by decide +kernel
theorem dX3_liesIn_10 : decode cX3_liesIn 10 = .ok (.iand, 1) := by decide +kernel
theorem dX3_liesIn_11 : decode cX3_liesIn 11 = .ok (.iload_n 2, 1) := by decide +kernel
theorem dX3_liesIn_12 : decode cX3_liesIn 12 = .ok (.if_icmp .ne 20, 3) := by decide +kernel
theorem dX3_liesIn_15 : decode cX3_liesIn 15 = .ok (.iload_n 0, 1) := by decide +kernel
theorem dX3_liesIn_16 : decode cX3_liesIn 16 = .ok (.invokestatic 15, 3) := by decide +kernel
theorem dX3_liesIn_19 : decode cX3_liesIn 19 = .ok (.iload_n 2, 1) := by decide +kernel
theorem dX3_liesIn_20 : decode cX3_liesIn 20 = .ok (.iand, 1) := by decide +kernel
theorem dX3_liesIn_21 : decode cX3_liesIn 21 = .ok (.iload_n 1, 1) := by decide +kernel
theorem dX3_liesIn_22 : decode cX3_liesIn 22 = .ok (.invokestatic 15, 3) := by decide +kernel
theorem dX3_liesIn_25 : decode cX3_liesIn 25 = .ok (.if_icmp .ne 7, 3) := by decide +kernel
theorem dX3_liesIn_28 : decode cX3_liesIn 28 = .ok (.iconst 1, 1) := by decide +kernel
theorem dX3_liesIn_29 : decode cX3_liesIn 29 = .ok (.goto 4, 3) := by decide +kernel
theorem dX3_liesIn_32 : decode cX3_liesIn 32 = .ok (.iconst 0, 1) := by decide +kernel
theorem dX3_liesIn_33 : decode cX3_liesIn 33 = .ok (.ireturn, 1) := by decide +kernel
theorem dX3_statesOf_0 : decode cX3_statesOf 0 = .ok (.iload_n 0, 1) := by decide +kernel
theorem dX3_statesOf_1 : decode cX3_statesOf 1 = .ok (.invokestatic 9, 3) := by decide +kernel
theorem dX3_statesOf_4 : decode cX3_statesOf 4 = .ok (.istore_n 1, 1) := by decide +kernel
theorem dX3_statesOf_5 : decode cX3_statesOf 5 = .ok (.iload_n 0, 1) := by decide +kernel
theorem dX3_statesOf_6 : decode cX3_statesOf 6 = .ok (.invokestatic 15, 3) := by decide +kernel
theorem dX3_statesOf_9 : decode cX3_statesOf 9 = .ok (.istore_n 2, 1) := by decide +kernel
theorem dX3_statesOf_10 : decode cX3_statesOf 10 = .ok (.ldc2_w 22, 3) := by decide +kernel
theorem dX3_statesOf_13 : decode cX3_statesOf 13 = .ok (.lstore_n 3, 1) := by decide +kernel
theorem dX3_statesOf_14 : decode cX3_statesOf 14 = .ok (.iconst 0, 1) := by decide +kernel
theorem dX3_statesOf_15 : decode cX3_statesOf 15 = .ok (.istore 5, 2) := by decide +kernel
theorem dX3_statesOf_17 : decode cX3_statesOf 17 = .ok (.iload 5, 2) := by decide +kernel
theorem dX3_statesOf_19 : decode cX3_statesOf 19 = .ok (.getstatic 24, 3) := by decide +kernel
theorem dX3_statesOf_22 : decode cX3_statesOf 22 = .ok (.arraylength, 1) := by decide +kernel
theorem dX3_statesOf_23 : decode cX3_statesOf 23 = .ok (.if_icmp .ge 61, 3) := by decide +kernel
theorem dX3_statesOf_26 : decode cX3_statesOf 26 = .ok (.iload_n 1, 1) := by decide +kernel
theorem dX3_statesOf_27 : decode cX3_statesOf 27 = .ok (.iload 5, 2) := by decide +kernel
theorem dX3_statesOf_29 : decode cX3_statesOf 29 = .ok (.ishr, 1) := by decide +kernel
theorem dX3_statesOf_30 : decode cX3_statesOf 30 = .ok (.iconst 1, 1) := by decide +kernel
theorem dX3_statesOf_31 : decode cX3_statesOf 31 = .ok (.iand, 1) := by decide +kernel
theorem dX3_statesOf_32 : decode cX3_statesOf 32 = .ok (.ifCond .eq 46, 3) := by decide +kernel
theorem dX3_statesOf_35 : decode cX3_statesOf 35 = .ok (.iload_n 2, 1) := by decide +kernel
theorem dX3_statesOf_36 : decode cX3_statesOf 36 = .ok (.iload 5, 2) := by decide +kernel
theorem dX3_statesOf_38 : decode cX3_statesOf 38 = .ok (.ishr, 1) := by decide +kernel
theorem dX3_statesOf_39 : decode cX3_statesOf 39 = .ok (.iconst 1, 1) := by decide +kernel
theorem dX3_statesOf_40 : decode cX3_statesOf 40 = .ok (.iand, 1) := by decide +kernel
theorem dX3_statesOf_41 : decode cX3_statesOf 41 = .ok (.ifCond .eq 7, 3) := by decide +kernel
theorem dX3_statesOf_44 : decode cX3_statesOf 44 = .ok (.iconst 1, 1) := by decide +kernel
theorem dX3_statesOf_45 : decode cX3_statesOf 45 = .ok (.goto 4, 3) := by decide +kernel
theorem dX3_statesOf_48 : decode cX3_statesOf 48 = .ok (.iconst 0, 1) := by decide +kernel
theorem dX3_statesOf_49 : decode cX3_statesOf 49 = .ok (.istore 6, 2) := by decide +kernel
theorem dX3_statesOf_51 : decode cX3_statesOf 51 = .ok (.lload_n 3, 1) := by decide +kernel
theorem dX3_statesOf_52 : decode cX3_statesOf 52 = .ok (.iload 6, 2) := by decide +kernel
theorem dX3_statesOf_54 : decode cX3_statesOf 54 = .ok (.ifCond .eq 12, 3) := by decide +kernel
theorem dX3_statesOf_57 : decode cX3_statesOf 57 = .ok (.getstatic 24, 3) := by decide +kernel
theorem dX3_statesOf_60 : decode cX3_statesOf 60 = .ok (.iload 5, 2) := by decide +kernel
theorem dX3_statesOf_62 : decode cX3_statesOf 62 = .ok (.laload, 1) := by decide +kernel
theorem dX3_statesOf_63 : decode cX3_statesOf 63 = .ok (.goto 13, 3) := by decide +kernel
theorem dX3_statesOf_66 : decode cX3_statesOf 66 = .ok (.getstatic 24, 3) := by decide +kernel
theorem dX3_statesOf_69 : decode cX3_statesOf 69 = .ok (.iload 5, 2) := by decide +kernel
theorem dX3_statesOf_71 : decode cX3_statesOf 71 = .ok (.laload, 1) := by decide +kernel
theorem dX3_statesOf_72 : decode cX3_statesOf 72 = .ok (.ldc2_w 22, 3) := by decide +kernel
theorem dX3_statesOf_75 : decode cX3_statesOf 75 = .ok (.lxor, 1) := by decide +kernel
theorem dX3_statesOf_76 : decode cX3_statesOf 76 = .ok (.land, 1) := by decide +kernel
theorem dX3_statesOf_77 : decode cX3_statesOf 77 = .ok (.lstore_n 3, 1) := by decide +kernel
theorem dX3_statesOf_78 : decode cX3_statesOf 78 = .ok (.iinc 5 1, 3) := by decide +kernel
theorem dX3_statesOf_81 : decode cX3_statesOf 81 = .ok (.goto (-64), 3) := by decide +kernel
theorem dX3_statesOf_84 : decode cX3_statesOf 84 = .ok (.lload_n 3, 1) := by decide +kernel
theorem dX3_statesOf_85 : decode cX3_statesOf 85 = .ok (.lreturn, 1) := by decide +kernel
theorem dX4_ofFloat_0 : decode cX4_ofFloat 0 = .ok (.fload_n 0, 1) := by decide +kernel
theorem dX4_ofFloat_1 : decode cX4_ofFloat 1 = .ok (.fstore_n 1, 1) := by decide +kernel
theorem dX4_ofFloat_2 : decode cX4_ofFloat 2 = .ok (.iconst 0, 1) := by decide +kernel
theorem dX4_ofFloat_3 : decode cX4_ofFloat 3 = .ok (.istore_n 2, 1) := by decide +kernel
theorem dX4_ofFloat_4 : decode cX4_ofFloat 4 = .ok (.iconst 0, 1) := by decide +kernel
theorem dX4_ofFloat_5 : decode cX4_ofFloat 5 = .ok (.istore_n 3, 1) := by decide +kernel
theorem dX4_ofFloat_6 : decode cX4_ofFloat 6 = .ok (.iload_n 3, 1) := by decide +kernel
theorem dX4_ofFloat_7 : decode cX4_ofFloat 7 = .ok (.sipush 200, 3) := by decide +kernel
theorem dX4_ofFloat_10 : decode cX4_ofFloat 10 = .ok (.if_icmp .ge 22, 3) := by decide +kernel
theorem dX4_ofFloat_13 : decode cX4_ofFloat 13 = .ok (.fload_n 1, 1) := by decide +kernel
theorem dX4_ofFloat_14 : decode cX4_ofFloat 14 = .ok (.fconst 2, 1) := by decide +kernel
theorem dX4_ofFloat_15 : decode cX4_ofFloat 15 = .ok (.fcmp .l, 1) := by decide +kernel
theorem dX4_ofFloat_16 : decode cX4_ofFloat 16 = .ok (.ifCond .lt 16, 3) := by decide +kernel
theorem dX4_ofFloat_19 : decode cX4_ofFloat 19 = .ok (.fload_n 1, 1) := by decide +kernel
theorem dX4_ofFloat_20 : decode cX4_ofFloat 20 = .ok (.fconst 2, 1) := by decide +kernel
theorem dX4_ofFloat_21 : decode cX4_ofFloat 21 = .ok (.fdiv, 1) := by decide +kernel
theorem dX4_ofFloat_22 : decode cX4_ofFloat 22 = .ok (.fstore_n 1, 1) := by decide +kernel
theorem dX4_ofFloat_23 : decode cX4_ofFloat 23 = .ok (.iinc 2 1, 3) := by decide +kernel
theorem dX4_ofFloat_26 : decode cX4_ofFloat 26 = .ok (.iinc 3 1, 3) := by decide +kernel
theorem dX4_ofFloat_29 : decode cX4_ofFloat 29 = .ok (.goto (-23), 3) := by decide +kernel
theorem dX4_ofFloat_32 : decode cX4_ofFloat 32 = .ok (.iconst 0, 1) := by decide +kernel
theorem dX4_ofFloat_33 : decode cX4_ofFloat 33 = .ok (.istore_n 3, 1) := by decide +kernel
theorem dX4_ofFloat_34 : decode cX4_ofFloat 34 = .ok (.iload_n 3, 1) := by decide +kernel
theorem dX4_ofFloat_35 : decode cX4_ofFloat 35 = .ok (.sipush 200, 3) := by decide +kernel
theorem dX4_ofFloat_38 : decode cX4_ofFloat 38 = .ok (.if_icmp .ge 28, 3) := by decide +kernel
theorem dX4_ofFloat_41 : decode cX4_ofFloat 41 = .ok (.fload_n 1, 1) := by decide +kernel
theorem dX4_ofFloat_42 : decode cX4_ofFloat 42 = .ok (.fconst 1, 1) := by decide +kernel
theorem dX4_ofFloat_43 : decode cX4_ofFloat 43 = .ok (.fcmp .g, 1) := by decide +kernel
theorem dX4_ofFloat_44 : decode cX4_ofFloat 44 = .ok (.ifCond .ge 22, 3) := by decide +kernel
theorem dX4_ofFloat_47 : decode cX4_ofFloat 47 = .ok (.iload_n 2, 1) := by decide +kernel
theorem dX4_ofFloat_48 : decode cX4_ofFloat 48 = .ok (.bipush (-126), 2) := by decide +kernel
theorem dX4_ofFloat_50 : decode cX4_ofFloat 50 = .ok (.if_icmp .le 16, 3) := by decide +kernel
theorem dX4_ofFloat_53 : decode cX4_ofFloat 53 = .ok (.fload_n 1, 1) := by decide +kernel
theorem dX4_ofFloat_54 : decode cX4_ofFloat 54 = .ok (.fconst 2, 1) := by decide +kernel
theorem dX4_ofFloat_55 : decode cX4_ofFloat 55 = .ok (.fmul, 1) := by decide +kernel
theorem dX4_ofFloat_56 : decode cX4_ofFloat 56 = .ok (.fstore_n 1, 1) := by decide +kernel
theorem dX4_ofFloat_57 : decode cX4_ofFloat 57 = .ok (.iinc 2 (-1), 3) := by decide +kernel
theorem dX4_ofFloat_60 : decode cX4_ofFloat 60 = .ok (.iinc 3 1, 3) := by decide +kernel
theorem dX4_ofFloat_63 : decode cX4_ofFloat 63 = .ok (.goto (-29), 3) := by decide +kernel
theorem dX4_ofFloat_66 : decode cX4_ofFloat 66 = .ok (.fload_n 1, 1) := by decide +kernel
theorem dX4_ofFloat_67 : decode cX4_ofFloat 67 = .ok (.ldc 9, 2) := by decide +kernel
theorem dX4_ofFloat_69 : decode cX4_ofFloat 69 = .ok (.fmul, 1) := by decide +kernel
theorem dX4_ofFloat_70 : decode cX4_ofFloat 70 = .ok (.f2i, 1) := by decide +kernel
theorem dX4_ofFloat_71 : decode cX4_ofFloat 71 = .ok (.istore_n 3, 1) := by decide +kernel
theorem dX4_ofFloat_72 : decode cX4_ofFloat 72 = .ok (.iload_n 3, 1) := by decide +kernel
theorem dX4_ofFloat_73 : decode cX4_ofFloat 73 = .ok (.ldc 10, 2) := by decide +kernel
theorem dX4_ofFloat_75 : decode cX4_ofFloat 75 = .ok (.if_icmp .ge 5, 3) := by decide +kernel
theorem dX4_ofFloat_78 : decode cX4_ofFloat 78 = .ok (.iload_n 3, 1) := by decide +kernel
theorem dX4_ofFloat_79 : decode cX4_ofFloat 79 = .ok (.ireturn, 1) := by decide +kernel
theorem dX4_ofFloat_80 : decode cX4_ofFloat 80 = .ok (.iload_n 2, 1) := by decide +kernel
theorem dX4_ofFloat_81 : decode cX4_ofFloat 81 = .ok (.bipush (-126), 2) := by decide +kernel
theorem dX4_ofFloat_83 : decode cX4_ofFloat 83 = .ok (.isub, 1) := by decide +kernel
theorem dX4_ofFloat_84 : decode cX4_ofFloat 84 = .ok (.ldc 10, 2) := by decide +kernel
theorem dX4_ofFloat_86 : decode cX4_ofFloat 86 = .ok (.imul, 1) := by decide +kernel
theorem dX4_ofFloat_87 : decode cX4_ofFloat 87 = .ok (.iload_n 3, 1) := by decide +kernel
theorem dX4_ofFloat_88 : decode cX4_ofFloat 88 = .ok (.iadd, 1) := by decide +kernel
theorem dX4_ofFloat_89 : decode cX4_ofFloat 89 = .ok (.ireturn, 1) := by decide +kernel
theorem dX4_ofDouble_0 : decode cX4_ofDouble 0 = .ok (.dload_n 0, 1) := by decide +kernel
theorem dX4_ofDouble_1 : decode cX4_ofDouble 1 = .ok (.dstore_n 2, 1) := by decide +kernel
theorem dX4_ofDouble_2 : decode cX4_ofDouble 2 = .ok (.iconst 0, 1) := by decide +kernel
theorem dX4_ofDouble_3 : decode cX4_ofDouble 3 = .ok (.istore 4, 2) := by decide +kernel
theorem dX4_ofDouble_5 : decode cX4_ofDouble 5 = .ok (.iconst 0, 1) := by decide +kernel
theorem dX4_ofDouble_6 : decode cX4_ofDouble 6 = .ok (.istore 5, 2) := by decide +kernel
theorem dX4_ofDouble_8 : decode cX4_ofDouble 8 = .ok (.iload 5, 2) := by decide +kernel
theorem dX4_ofDouble_10 : decode cX4_ofDouble 10 = .ok (.sipush 1100, 3) := by decide +kernel
theorem dX4_ofDouble_13 : decode cX4_ofDouble 13 = .ok (.if_icmp .ge 26, 3) := by decide +kernel
theorem dX4_ofDouble_16 : decode cX4_ofDouble 16 = .ok (.dload_n 2, 1) := by decide +kernel
theorem dX4_ofDouble_17 : decode cX4_ofDouble 17 = .ok (.ldc2_w 11, 3) := by decide +kernel
theorem dX4_ofDouble_20 : decode cX4_ofDouble 20 = .ok (.dcmp .l, 1) := by decide +kernel
theorem dX4_ofDouble_21 : decode cX4_ofDouble 21 = .ok (.ifCond .lt 18, 3) := by decide +kernel
theorem dX4_ofDouble_24 : decode cX4_ofDouble 24 = .ok (.dload_n 2, 1) := by decide +kernel
theorem dX4_ofDouble_25 : decode cX4_ofDouble 25 = .ok (.ldc2_w 11, 3) := by decide +kernel
theorem dX4_ofDouble_28 : decode cX4_ofDouble 28 = .ok (.ddiv, 1) := by decide +kernel
theorem dX4_ofDouble_29 : decode cX4_ofDouble 29 = .ok (.dstore_n 2, 1) := by decide +kernel
theorem dX4_ofDouble_30 : decode cX4_ofDouble 30 = .ok (.iinc 4 1, 3) := by decide +kernel
theorem dX4_ofDouble_33 : decode cX4_ofDouble 33 = .ok (.iinc 5 1, 3) := by decide +kernel
theorem dX4_ofDouble_36 : decode cX4_ofDouble 36 = .ok (.goto (-28), 3) := by decide +kernel
theorem dX4_ofDouble_39 : decode cX4_ofDouble 39 = .ok (.iconst 0, 1) := by decide +kernel
theorem dX4_ofDouble_40 : decode cX4_ofDouble 40 = .ok (.istore 5, 2) := by decide +kernel
theorem dX4_ofDouble_42 : decode cX4_ofDouble 42 = .ok (.iload 5, 2) := by decide +kernel
theorem dX4_ofDouble_44 : decode cX4_ofDouble 44 = .ok (.sipush 1100, 3) := by decide +kernel
theorem dX4_ofDouble_47 : decode cX4_ofDouble 47 = .ok (.if_icmp .ge 32, 3) := by decide +kernel
theorem dX4_ofDouble_50 : decode cX4_ofDouble 50 = .ok (.dload_n 2, 1) := by decide +kernel
theorem dX4_ofDouble_51 : decode cX4_ofDouble 51 = .ok (.dconst 1, 1) := by decide +kernel
theorem dX4_ofDouble_52 : decode cX4_ofDouble 52 = .ok (.dcmp .g, 1) := by decide +kernel
theorem dX4_ofDouble_53 : decode cX4_ofDouble 53 = .ok (.ifCond .ge 26, 3) := by decide +kernel
theorem dX4_ofDouble_56 : decode cX4_ofDouble 56 = .ok (.iload 4, 2) := by decide +kernel
theorem dX4_ofDouble_58 : decode cX4_ofDouble 58 = .ok (.sipush (-1022), 3) := by decide +kernel
theorem dX4_ofDouble_61 : decode cX4_ofDouble 61 = .ok (.if_icmp .le 18, 3) := by decide +kernel
theorem dX4_ofDouble_64 : decode cX4_ofDouble 64 = .ok (.dload_n 2, 1) := by decide +kernel
theorem dX4_ofDouble_65 : decode cX4_ofDouble 65 = .ok (.ldc2_w 11, 3) := by decide +kernel
theorem dX4_ofDouble_68 : decode cX4_ofDouble 68 = .ok (.dmul, 1) := by decide +kernel
theorem dX4_ofDouble_69 : decode cX4_ofDouble 69 = .ok (.dstore_n 2, 1) := by decide +kernel
theorem dX4_ofDouble_70 : decode cX4_ofDouble 70 = .ok (.iinc 4 (-1), 3) := by decide +kernel
theorem dX4_ofDouble_73 : decode cX4_ofDouble 73 = .ok (.iinc 5 1, 3) := by decide +kernel
theorem dX4_ofDouble_76 : decode cX4_ofDouble 76 = .ok (.goto (-34), 3) := by decide +kernel
theorem dX4_ofDouble_79 : decode cX4_ofDouble 79 = .ok (.dload_n 2, 1) := by decide +kernel
theorem dX4_ofDouble_80 : decode cX4_ofDouble 80 = .ok (.ldc2_w 13, 3) := by decide +kernel
theorem dX4_ofDouble_83 : decode cX4_ofDouble 83 = .ok (.dmul, 1) := by decide +kernel
theorem dX4_ofDouble_84 : decode cX4_ofDouble 84 = .ok (.d2l, 1) := by decide +kernel
theorem dX4_ofDouble_85 : decode cX4_ofDouble 85 = .ok (.lstore 5, 2) := by decide +kernel
theorem dX4_ofDouble_87 : decode cX4_ofDouble 87 = .ok (.lload 5, 2) := by decide +kernel
theorem dX4_ofDouble_89 : decode cX4_ofDouble 89 = .ok (.ldc2_w 15, 3) := by decide +kernel
theorem dX4_ofDouble_92 : decode cX4_ofDouble 92 = .ok (.lcmp, 1) := by decide +kernel
theorem dX4_ofDouble_93 : decode cX4_ofDouble 93 = .ok (.ifCond .ge 6, 3) := by decide +kernel
theorem dX4_ofDouble_96 : decode cX4_ofDouble 96 = .ok (.lload 5, 2) := by decide +kernel
theorem dX4_ofDouble_98 : decode cX4_ofDouble 98 = .ok (.lreturn, 1) := by decide +kernel
theorem dX4_ofDouble_99 : decode cX4_ofDouble 99 = .ok (.iload 4, 2) := by decide +kernel
theorem dX4_ofDouble_101 : decode cX4_ofDouble 101 = .ok (.sipush (-1022), 3) := by decide +kernel
theorem dX4_ofDouble_104 : decode cX4_ofDouble 104 = .ok (.isub, 1) := by decide +kernel
theorem dX4_ofDouble_105 : decode cX4_ofDouble 105 = .ok (.i2l, 1) := by decide +kernel
theorem dX4_ofDouble_106 : decode cX4_ofDouble 106 = .ok (.ldc2_w 15, 3) := by decide +kernel
theorem dX4_ofDouble_109 : decode cX4_ofDouble 109 = .ok (.lmul, 1) := by decide +kernel
theorem dX4_ofDouble_110 : decode cX4_ofDouble 110 = .ok (.lload 5, 2) := by decide +kernel
theorem dX4_ofDouble_112 : decode cX4_ofDouble 112 = .ok (.ladd, 1) := by decide +kernel
theorem dX4_ofDouble_113 : decode cX4_ofDouble 113 = .ok (.lreturn, 1) := by decide +kernel
theorem dX5_init_0 : decode cX5_init 0 = .ok (.aload_n 0, 1) := by decide +kernel
theorem dX5_init_1 : decode cX5_init 1 = .ok (.invokespecial 3, 3) := by decide +kernel
theorem dX5_init_4 : decode cX5_init 4 = .ok (.aload_n 0, 1) := by decide +kernel
theorem dX5_init_5 : decode cX5_init 5 = .ok (.iload_n 1, 1) := by decide +kernel
theorem dX5_init_6 : decode cX5_init 6 = .ok (.putfield 9, 3) := by decide +kernel
theorem dX5_init_9 : decode cX5_init 9 = .ok (.aload_n 0, 1) := by decide +kernel
theorem dX5_init_10 : decode cX5_init 10 = .ok (.iconst 1, 1) := by decide +kernel
theorem dX5_init_11 : decode cX5_init 11 = .ok (.iload_n 1, 1) := by decide +kernel
theorem dX5_init_12 : decode cX5_init 12 = .ok (.ishl, 1) := by decide +kernel
theorem dX5_init_13 : decode cX5_init 13 = .ok (.putfield 15, 3) := by decide +kernel
theorem dX5_init_16 : decode cX5_init 16 = .ok (.aload_n 0, 1) := by decide +kernel
theorem dX5_init_17 : decode cX5_init 17 = .ok (.ldc2_w 18, 3) := by decide +kernel
theorem dX5_init_20 : decode cX5_init 20 = .ok (.bipush 64, 2) := by decide +kernel
theorem dX5_init_22 : decode cX5_init 22 = .ok (.aload_n 0, 1) := by decide +kernel
theorem dX5_init_23 : decode cX5_init 23 = .ok (.getfield 15, 3) := by decide +kernel
theorem dX5_init_26 : decode cX5_init 26 = .ok (.isub, 1) := by decide +kernel
theorem dX5_init_27 : decode cX5_init 27 = .ok (.lushr, 1) := by decide +kernel
theorem dX5_init_28 : decode cX5_init 28 = .ok (.putfield 20, 3) := by decide +kernel
theorem dX5_init_31 : decode cX5_init 31 = .ok (.aload_n 0, 1) := by decide +kernel
theorem dX5_init_32 : decode cX5_init 32 = .ok (.lload_n 3, 1) := by decide +kernel
theorem dX5_init_33 : decode cX5_init 33 = .ok (.aload_n 0, 1) := by decide +kernel
theorem dX5_init_34 : decode cX5_init 34 = .ok (.getfield 20, 3) := by decide +kernel
theorem dX5_init_37 : decode cX5_init 37 = .ok (.land, 1) := by decide +kernel
theorem dX5_init_38 : decode cX5_init 38 = .ok (.putfield 24, 3) := by decide +kernel
theorem dX5_init_41 : decode cX5_init 41 = .ok (.aload_n 0, 1) := by decide +kernel
theorem dX5_init_42 : decode cX5_init 42 = .ok (.aload 5, 2) := by decide +kernel
theorem dX5_init_44 : decode cX5_init 44 = .ok (.putfield 27, 3) := by decide +kernel
theorem dX5_init_47 : decode cX5_init 47 = .ok (.aload_n 0, 1) := by decide +kernel
theorem dX5_init_48 : decode cX5_init 48 = .ok (.aload_n 2, 1) := by decide +kernel
theorem dX5_init_49 : decode cX5_init 49 = .ok (.putfield 31, 3) := by decide +kernel
theorem dX5_init_52 : decode cX5_init 52 = .ok (.aload_n 0, 1) := by decide +kernel
theorem dX5_init_53 : decode cX5_init 53 = .ok (.aload_n 0, 1) := by decide +kernel
theorem dX5_init_54 : decode cX5_init 54 = .ok (.getfield 15, 3) := by decide +kernel
theorem dX5_init_57 : decode cX5_init 57 = .ok (.newarray .long, 2) := by decide +kernel
theorem dX5_init_59 : decode cX5_init 59 = .ok (.putfield 35, 3) := by decide +kernel
theorem dX5_init_62 : decode cX5_init 62 = .ok (.iconst 0, 1) := by decide +kernel
theorem dX5_init_63 : decode cX5_init 63 = .ok (.istore 6, 2) := by decide +kernel
theorem dX5_init_65 : decode cX5_init 65 = .ok (.iload 6, 2) := by decide +kernel
theorem dX5_init_67 : decode cX5_init 67 = .ok (.aload 5, 2) := by decide +kernel
theorem dX5_init_69 : decode cX5_init 69 = .ok (.arraylength, 1) := by decide +kernel
theorem dX5_init_70 : decode cX5_init 70 = .ok (.if_icmp .ge 21, 3) := by decide +kernel
theorem dX5_init_73 : decode cX5_init 73 = .ok (.aload 5, 2) := by decide +kernel
theorem dX5_init_75 : decode cX5_init 75 = .ok (.iload 6, 2) := by decide +kernel
theorem dX5_init_77 : decode cX5_init 77 = .ok (.dup2, 1) := by decide +kernel
theorem dX5_init_78 : decode cX5_init 78 = .ok (.laload, 1) := by decide +kernel
theorem dX5_init_79 : decode cX5_init 79 = .ok (.aload_n 0, 1) := by decide +kernel
theorem dX5_init_80 : decode cX5_init 80 = .ok (.getfield 20, 3) := by decide +kernel
theorem dX5_init_83 : decode cX5_init 83 = .ok (.land, 1) := by decide +kernel
theorem dX5_init_84 : decode cX5_init 84 = .ok (.lastore, 1) := by decide +kernel
theorem dX5_init_85 : decode cX5_init 85 = .ok (.iinc 6 1, 3) := by decide +kernel
theorem dX5_init_88 : decode cX5_init 88 = .ok (.goto (-23), 3) := by decide +kernel
theorem dX5_init_91 : decode cX5_init 91 = .ok (.iconst 0, 1) := by decide +kernel
theorem dX5_init_92 : decode cX5_init 92 = .ok (.istore 6, 2) := by decide +kernel
theorem dX5_init_94 : decode cX5_init 94 = .ok (.iload 6, 2) := by decide +kernel
theorem dX5_init_96 : decode cX5_init 96 = .ok (.aload_n 2, 1) := by decide +kernel
theorem dX5_init_97 : decode cX5_init 97 = .ok (.arraylength, 1) := by decide +kernel
theorem dX5_init_98 : decode cX5_init 98 = .ok (.if_icmp .ge 45, 3) := by decide +kernel
theorem dX5_init_101 : decode cX5_init 101 = .ok (.aload_n 2, 1) := by decide +kernel
theorem dX5_init_102 : decode cX5_init 102 = .ok (.iload 6, 2) := by decide +kernel
theorem dX5_init_104 : decode cX5_init 104 = .ok (.iaload, 1) := by decide +kernel
theorem dX5_init_105 : decode cX5_init 105 = .ok (.istore 7, 2) := by decide +kernel
theorem dX5_init_107 : decode cX5_init 107 = .ok (.iload 7, 2) := by decide +kernel
theorem dX5_init_109 : decode cX5_init 109 = .ok (.ifCond .lt 28, 3) := by decide +kernel
theorem dX5_init_112 : decode cX5_init 112 = .ok (.iload 7, 2) := by decide +kernel
theorem dX5_init_114 : decode cX5_init 114 = .ok (.aload_n 0, 1) := by decide +kernel
theorem dX5_init_115 : decode cX5_init 115 = .ok (.getfield 15, 3) := by decide +kernel
theorem dX5_init_118 : decode cX5_init 118 = .ok (.if_icmp .ge 19, 3) := by decide +kernel
theorem dX5_init_121 : decode cX5_init 121 = .ok (.aload_n 0, 1) := by decide +kernel
theorem dX5_init_122 : decode cX5_init 122 = .ok (.getfield 35, 3) := by decide +kernel
theorem dX5_init_125 : decode cX5_init 125 = .ok (.iload 7, 2) := by decide +kernel
theorem dX5_init_127 : decode cX5_init 127 = .ok (.dup2, 1) := by decide +kernel
theorem dX5_init_128 : decode cX5_init 128 = .ok (.laload, 1) := by decide +kernel
theorem dX5_init_129 : decode cX5_init 129 = .ok (.lconst 1, 1) := by decide +kernel
theorem dX5_init_130 : decode cX5_init 130 = .ok (.iload 6, 2) := by decide +kernel
theorem dX5_init_132 : decode cX5_init 132 = .ok (.iconst 4, 1) := by decide +kernel
theorem dX5_init_133 : decode cX5_init 133 = .ok (.idiv, 1) := by decide +kernel
theorem dX5_init_134 : decode cX5_init 134 = .ok (.lshl, 1) := by decide +kernel
theorem dX5_init_135 : decode cX5_init 135 = .ok (.lor, 1) := by decide +kernel
theorem dX5_init_136 : decode cX5_init 136 = .ok (.lastore, 1) := by decide +kernel
theorem dX5_init_137 : decode cX5_init 137 = .ok (.iinc 6 1, 3) := by decide +kernel
theorem dX5_init_140 : decode cX5_init 140 = .ok (.goto (-46), 3) := by decide +kernel
theorem dX5_init_143 : decode cX5_init 143 = .ok (.return_, 1) := by decide +kernel
theorem dX5_plain_0 : decode cX5_plain 0 = .ok (.iconst 3, 1) := by decide +kernel
theorem dX5_plain_1 : decode cX5_plain 1 = .ok (.istore_n 0, 1) := by decide +kernel
theorem dX5_plain_2 : decode cX5_plain 2 = .ok (.iconst 4, 1) := by decide +kernel
theorem dX5_plain_3 : decode cX5_plain 3 = .ok (.iload_n 0, 1) := by decide +kernel
theorem dX5_plain_4 : decode cX5_plain 4 = .ok (.ishl, 1) := by decide +kernel
theorem dX5_plain_5 : decode cX5_plain 5 = .ok (.newarray .int, 2) := by decide +kernel
theorem dX5_plain_7 : decode cX5_plain 7 = .ok (.astore_n 1, 1) := by decide +kernel
theorem dX5_plain_8 : decode cX5_plain 8 = .ok (.iconst 0, 1) := by decide +kernel
theorem dX5_plain_9 : decode cX5_plain 9 = .ok (.istore_n 2, 1) := by decide +kernel
theorem dX5_plain_10 : decode cX5_plain 10 = .ok (.iload_n 2, 1) := by decide +kernel
theorem dX5_plain_11 : decode cX5_plain 11 = .ok (.aload_n 1, 1) := by decide +kernel
theorem dX5_plain_12 : decode cX5_plain 12 = .ok (.arraylength, 1) := by decide +kernel
theorem dX5_plain_13 : decode cX5_plain 13 = .ok (.if_icmp .ge 15, 3) := by decide +kernel
theorem dX5_plain_16 : decode cX5_plain 16 = .ok (.aload_n 1, 1) := by decide +kernel
theorem dX5_plain_17 : decode cX5_plain 17 = .ok (.iload_n 2, 1) := by decide +kernel
theorem dX5_plain_18 : decode cX5_plain 18 = .ok (.iload_n 2, 1) := by decide +kernel
theorem dX5_plain_19 : decode cX5_plain 19 = .ok (.iconst 4, 1) := by decide +kernel
theorem dX5_plain_20 : decode cX5_plain 20 = .ok (.idiv, 1) := by decide +kernel
theorem dX5_plain_21 : decode cX5_plain 21 = .ok (.iastore, 1) := by decide +kernel
theorem dX5_plain_22 : decode cX5_plain 22 = .ok (.iinc 2 1, 3) := by decide +kernel
theorem dX5_plain_25 : decode cX5_plain 25 = .ok (.goto (-15), 3) := by decide +kernel
theorem dX5_plain_28 : decode cX5_plain 28 = .ok (.new 10, 3) := by decide +kernel
theorem dX5_plain_31 : decode cX5_plain 31 = .ok (.dup, 1) := by decide +kernel
theorem dX5_plain_32 : decode cX5_plain 32 = .ok (.iload_n 0, 1) := by decide +kernel
theorem dX5_plain_33 : decode cX5_plain 33 = .ok (.aload_n 1, 1) := by decide +kernel
theorem dX5_plain_34 : decode cX5_plain 34 = .ok (.lconst 1, 1) := by decide +kernel
theorem dX5_plain_35 : decode cX5_plain 35 = .ok (.iconst 1, 1) := by decide +kernel
theorem dX5_plain_36 : decode cX5_plain 36 = .ok (.newarray .long, 2) := by decide +kernel
theorem dX5_plain_38 : decode cX5_plain 38 = .ok (.invokespecial 38, 3) := by decide +kernel
theorem dX5_plain_41 : decode cX5_plain 41 = .ok (.areturn, 1) := by decide +kernel
theorem dX5_bySeed_0 : decode cX5_bySeed 0 = .ok (.iconst 1, 1) := by decide +kernel
theorem dX5_bySeed_1 : decode cX5_bySeed 1 = .ok (.iload_n 1, 1) := by decide +kernel
theorem dX5_bySeed_2 : decode cX5_bySeed 2 = .ok (.ishl, 1) := by decide +kernel
theorem dX5_bySeed_3 : decode cX5_bySeed 3 = .ok (.istore_n 2, 1) := by decide +kernel
theorem dX5_bySeed_4 : decode cX5_bySeed 4 = .ok (.iconst 4, 1) := by decide +kernel
theorem dX5_bySeed_5 : decode cX5_bySeed 5 = .ok (.iload_n 1, 1) := by decide +kernel
theorem dX5_bySeed_6 : decode cX5_bySeed 6 = .ok (.ishl, 1) := by decide +kernel
theorem dX5_bySeed_7 : decode cX5_bySeed 7 = .ok (.newarray .int, 2) := by decide +kernel
theorem dX5_bySeed_9 : decode cX5_bySeed 9 = .ok (.astore_n 3, 1) := by decide +kernel
theorem dX5_bySeed_10 : decode cX5_bySeed 10 = .ok (.iload_n 0, 1) := by decide +kernel
theorem dX5_bySeed_11 : decode cX5_bySeed 11 = .ok (.istore 4, 2) := by decide +kernel
theorem dX5_bySeed_13 : decode cX5_bySeed 13 = .ok (.iconst 0, 1) := by decide +kernel
theorem dX5_bySeed_14 : decode cX5_bySeed 14 = .ok (.istore 5, 2) := by decide +kernel
theorem dX5_bySeed_16 : decode cX5_bySeed 16 = .ok (.iload 5, 2) := by decide +kernel
theorem dX5_bySeed_18 : decode cX5_bySeed 18 = .ok (.aload_n 3, 1) := by decide +kernel
theorem dX5_bySeed_19 : decode cX5_bySeed 19 = .ok (.arraylength, 1) := by decide +kernel
theorem dX5_bySeed_20 : decode cX5_bySeed 20 = .ok (.if_icmp .ge 36, 3) := by decide +kernel
theorem dX5_bySeed_23 : decode cX5_bySeed 23 = .ok (.iload 4, 2) := by decide +kernel
theorem dX5_bySeed_25 : decode cX5_bySeed 25 = .ok (.sipush 773, 3) := by decide +kernel
theorem dX5_bySeed_28 : decode cX5_bySeed 28 = .ok (.imul, 1) := by decide +kernel
theorem dX5_bySeed_29 : decode cX5_bySeed 29 = .ok (.sipush 641, 3) := by decide +kernel
theorem dX5_bySeed_32 : decode cX5_bySeed 32 = .ok (.iadd, 1) := by decide +kernel
theorem dX5_bySeed_33 : decode cX5_bySeed 33 = .ok (.sipush 31139, 3) := by decide +kernel
theorem dX5_bySeed_36 : decode cX5_bySeed 36 = .ok (.irem, 1) := by decide +kernel
theorem dX5_bySeed_37 : decode cX5_bySeed 37 = .ok (.istore 4, 2) := by decide +kernel
theorem dX5_bySeed_39 : decode cX5_bySeed 39 = .ok (.aload_n 3, 1) := by decide +kernel
theorem dX5_bySeed_40 : decode cX5_bySeed 40 = .ok (.iload 5, 2) := by decide +kernel
theorem dX5_bySeed_42 : decode cX5_bySeed 42 = .ok (.iload 4, 2) := by decide +kernel
theorem dX5_bySeed_44 : decode cX5_bySeed 44 = .ok (.bipush 7, 2) := by decide +kernel
theorem dX5_bySeed_46 : decode cX5_bySeed 46 = .ok (.idiv, 1) := by decide +kernel
theorem dX5_bySeed_47 : decode cX5_bySeed 47 = .ok (.iload_n 2, 1) := by decide +kernel
theorem dX5_bySeed_48 : decode cX5_bySeed 48 = .ok (.irem, 1) := by decide +kernel
theorem dX5_bySeed_49 : decode cX5_bySeed 49 = .ok (.iastore, 1) := by decide +kernel
theorem dX5_bySeed_50 : decode cX5_bySeed 50 = .ok (.iinc 5 1, 3) := by decide +kernel
theorem dX5_bySeed_53 : decode cX5_bySeed 53 = .ok (.goto (-37), 3) := by decide +kernel
theorem dX5_bySeed_56 : decode cX5_bySeed 56 = .ok (.iconst 1, 1) := by decide +kernel
theorem dX5_bySeed_57 : decode cX5_bySeed 57 = .ok (.newarray .long, 2) := by decide +kernel
theorem dX5_bySeed_59 : decode cX5_bySeed 59 = .ok (.astore 5, 2) := by decide +kernel
theorem dX5_bySeed_61 : decode cX5_bySeed 61 = .ok (.aload 5, 2) := by decide +kernel
theorem dX5_bySeed_63 : decode cX5_bySeed 63 = .ok (.iconst 0, 1) := by decide +kernel
theorem dX5_bySeed_64 : decode cX5_bySeed 64 = .ok (.lconst 1, 1) := by decide +kernel
theorem dX5_bySeed_65 : decode cX5_bySeed 65 = .ok (.iload_n 2, 1) := by decide +kernel
theorem dX5_bySeed_66 : decode cX5_bySeed 66 = .ok (.iconst 1, 1) := by decide +kernel
theorem dX5_bySeed_67 : decode cX5_bySeed 67 = .ok (.isub, 1) := by decide +kernel
theorem dX5_bySeed_68 : decode cX5_bySeed 68 = .ok (.lshl, 1) := by decide +kernel
theorem dX5_bySeed_69 : decode cX5_bySeed 69 = .ok (.lastore, 1) := by decide +kernel
theorem dX5_bySeed_70 : decode cX5_bySeed 70 = .ok (.new 10, 3) := by decide +kernel
theorem dX5_bySeed_73 : decode cX5_bySeed 73 = .ok (.dup, 1) := by decide +kernel
theorem dX5_bySeed_74 : decode cX5_bySeed 74 = .ok (.iload_n 1, 1) := by decide +kernel
theorem dX5_bySeed_75 : decode cX5_bySeed 75 = .ok (.aload_n 3, 1) := by decide +kernel
theorem dX5_bySeed_76 : decode cX5_bySeed 76 = .ok (.lconst 1, 1) := by decide +kernel
theorem dX5_bySeed_77 : decode cX5_bySeed 77 = .ok (.aload 5, 2) := by decide +kernel
theorem dX5_bySeed_79 : decode cX5_bySeed 79 = .ok (.invokespecial 38, 3) := by decide +kernel
theorem dX5_bySeed_82 : decode cX5_bySeed 82 = .ok (.areturn, 1) := by decide +kernel
theorem dX5_hasState_0 : decode cX5_hasState 0 = .ok (.iload_n 1, 1) := by decide +kernel
theorem dX5_hasState_1 : decode cX5_hasState 1 = .ok (.ifCond .lt 15, 3) := by decide +kernel
theorem dX5_hasState_4 : decode cX5_hasState 4 = .ok (.iload_n 1, 1) := by decide +kernel
theorem dX5_hasState_5 : decode cX5_hasState 5 = .ok (.aload_n 0, 1) := by decide +kernel
theorem dX5_hasState_6 : decode cX5_hasState 6 = .ok (.getfield 15, 3) := by decide +kernel
theorem dX5_hasState_9 : decode cX5_hasState 9 = .ok (.if_icmp .ge 7, 3) := by decide +kernel
theorem dX5_hasState_12 : decode cX5_hasState 12 = .ok (.iconst 1, 1) := by decide +kernel
theorem dX5_hasState_13 : decode cX5_hasState 13 = .ok (.goto 4, 3) := by decide +kernel
theorem dX5_hasState_16 : decode cX5_hasState 16 = .ok (.iconst 0, 1) := by decide +kernel
theorem dX5_hasState_17 : decode cX5_hasState 17 = .ok (.ireturn, 1) := by decide +kernel
theorem dX5_hasAim_0 : decode cX5_hasAim 0 = .ok (.iload_n 1, 1) := by decide +kernel
theorem dX5_hasAim_1 : decode cX5_hasAim 1 = .ok (.ifCond .lt 16, 3) := by decide +kernel
theorem dX5_hasAim_4 : decode cX5_hasAim 4 = .ok (.iload_n 1, 1) := by decide +kernel
theorem dX5_hasAim_5 : decode cX5_hasAim 5 = .ok (.aload_n 0, 1) := by decide +kernel
theorem dX5_hasAim_6 : decode cX5_hasAim 6 = .ok (.getfield 27, 3) := by decide +kernel
theorem dX5_hasAim_9 : decode cX5_hasAim 9 = .ok (.arraylength, 1) := by decide +kernel
theorem dX5_hasAim_10 : decode cX5_hasAim 10 = .ok (.if_icmp .ge 7, 3) := by decide +kernel
theorem dX5_hasAim_13 : decode cX5_hasAim 13 = .ok (.iconst 1, 1) := by decide +kernel
theorem dX5_hasAim_14 : decode cX5_hasAim 14 = .ok (.goto 4, 3) := by decide +kernel
theorem dX5_hasAim_17 : decode cX5_hasAim 17 = .ok (.iconst 0, 1) := by decide +kernel
theorem dX5_hasAim_18 : decode cX5_hasAim 18 = .ok (.ireturn, 1) := by decide +kernel
theorem dX5_hasCube_0 : decode cX5_hasCube 0 = .ok (.iload_n 1, 1) := by decide +kernel
theorem dX5_hasCube_1 : decode cX5_hasCube 1 = .ok (.ifCond .lt 23, 3) := by decide +kernel
theorem dX5_hasCube_4 : decode cX5_hasCube 4 = .ok (.iload_n 1, 1) := by decide +kernel
theorem dX5_hasCube_5 : decode cX5_hasCube 5 = .ok (.aload_n 0, 1) := by decide +kernel
theorem dX5_hasCube_6 : decode cX5_hasCube 6 = .ok (.getfield 15, 3) := by decide +kernel
theorem dX5_hasCube_9 : decode cX5_hasCube 9 = .ok (.if_icmp .ge 15, 3) := by decide +kernel
theorem dX5_hasCube_12 : decode cX5_hasCube 12 = .ok (.iload_n 2, 1) := by decide +kernel
theorem dX5_hasCube_13 : decode cX5_hasCube 13 = .ok (.iload_n 1, 1) := by decide +kernel
theorem dX5_hasCube_14 : decode cX5_hasCube 14 = .ok (.iconst (-1), 1) := by decide +kernel
theorem dX5_hasCube_15 : decode cX5_hasCube 15 = .ok (.ixor, 1) := by decide +kernel
theorem dX5_hasCube_16 : decode cX5_hasCube 16 = .ok (.iand, 1) := by decide +kernel
theorem dX5_hasCube_17 : decode cX5_hasCube 17 = .ok (.ifCond .ne 7, 3) := by decide +kernel
theorem dX5_hasCube_20 : decode cX5_hasCube 20 = .ok (.iconst 1, 1) := by decide +kernel
theorem dX5_hasCube_21 : decode cX5_hasCube 21 = .ok (.goto 4, 3) := by decide +kernel
theorem dX5_hasCube_24 : decode cX5_hasCube 24 = .ok (.iconst 0, 1) := by decide +kernel
theorem dX5_hasCube_25 : decode cX5_hasCube 25 = .ok (.ireturn, 1) := by decide +kernel
theorem dX5_next_0 : decode cX5_next 0 = .ok (.iload_n 1, 1) := by decide +kernel
theorem dX5_next_1 : decode cX5_next 1 = .ok (.iconst 4, 1) := by decide +kernel
theorem dX5_next_2 : decode cX5_next 2 = .ok (.imul, 1) := by decide +kernel
theorem dX5_next_3 : decode cX5_next 3 = .ok (.iload_n 2, 1) := by decide +kernel
theorem dX5_next_4 : decode cX5_next 4 = .ok (.iadd, 1) := by decide +kernel
theorem dX5_next_5 : decode cX5_next 5 = .ok (.istore_n 3, 1) := by decide +kernel
theorem dX5_next_6 : decode cX5_next 6 = .ok (.iload_n 3, 1) := by decide +kernel
theorem dX5_next_7 : decode cX5_next 7 = .ok (.ifCond .lt 21, 3) := by decide +kernel
theorem dX5_next_10 : decode cX5_next 10 = .ok (.iload_n 3, 1) := by decide +kernel
theorem dX5_next_11 : decode cX5_next 11 = .ok (.aload_n 0, 1) := by decide +kernel
theorem dX5_next_12 : decode cX5_next 12 = .ok (.getfield 31, 3) := by decide +kernel
theorem dX5_next_15 : decode cX5_next 15 = .ok (.arraylength, 1) := by decide +kernel
theorem dX5_next_16 : decode cX5_next 16 = .ok (.if_icmp .ge 12, 3) := by decide +kernel
theorem dX5_next_19 : decode cX5_next 19 = .ok (.aload_n 0, 1) := by decide +kernel
theorem dX5_next_20 : decode cX5_next 20 = .ok (.getfield 31, 3) := by decide +kernel
theorem dX5_next_23 : decode cX5_next 23 = .ok (.iload_n 3, 1) := by decide +kernel
theorem dX5_next_24 : decode cX5_next 24 = .ok (.iaload, 1) := by decide +kernel
theorem dX5_next_25 : decode cX5_next 25 = .ok (.goto 4, 3) := by decide +kernel
theorem dX5_next_28 : decode cX5_next 28 = .ok (.iconst (-1), 1) := by decide +kernel
theorem dX5_next_29 : decode cX5_next 29 = .ok (.ireturn, 1) := by decide +kernel
theorem dX5_inputBetween_0 : decode cX5_inputBetween 0 = .ok (.iconst 0, 1) := by decide +kernel
theorem dX5_inputBetween_1 : decode cX5_inputBetween 1 = .ok (.istore_n 3, 1) := by decide +kernel
theorem dX5_inputBetween_2 : decode cX5_inputBetween 2 = .ok (.iload_n 3, 1) := by decide +kernel
theorem dX5_inputBetween_3 : decode cX5_inputBetween 3 = .ok (.iconst 4, 1) := by decide +kernel
theorem dX5_inputBetween_4 : decode cX5_inputBetween 4 = .ok (.if_icmp .ge 21, 3) := by decide +kernel
theorem dX5_inputBetween_7 : decode cX5_inputBetween 7 = .ok (.aload_n 0, 1) := by decide +kernel
theorem dX5_inputBetween_8 : decode cX5_inputBetween 8 = .ok (.iload_n 1, 1) := by decide +kernel
theorem dX5_inputBetween_9 : decode cX5_inputBetween 9 = .ok (.iload_n 3, 1) := by decide +kernel
theorem dX5_inputBetween_10 : decode cX5_inputBetween 10 = .ok (.invokevirtual 41, 3) := by decide +kernel
theorem dX5_inputBetween_13 : decode cX5_inputBetween 13 = .ok (.iload_n 2, 1) := by decide +kernel
theorem dX5_inputBetween_14 : decode cX5_inputBetween 14 = .ok (.if_icmp .ne 5, 3) := by decide +kernel
theorem dX5_inputBetween_17 : decode cX5_inputBetween 17 = .ok (.iload_n 3, 1) := by decide +kernel
theorem dX5_inputBetween_18 : decode cX5_inputBetween 18 = .ok (.ireturn, 1) := by decide +kernel
theorem dX5_inputBetween_19 : decode cX5_inputBetween 19 = .ok (.iinc 3 1, 3) := by decide +kernel
theorem dX5_inputBetween_22 : decode cX5_inputBetween 22 = .ok (.goto (-20), 3) := by decide +kernel
theorem dX5_inputBetween_25 : decode cX5_inputBetween 25 = .ok (.iconst (-1), 1) := by decide +kernel
theorem dX5_inputBetween_26 : decode cX5_inputBetween 26 = .ok (.ireturn, 1) := by decide +kernel
theorem dX5_leadingTo_0 : decode cX5_leadingTo 0 = .ok (.iload_n 1, 1) := by decide +kernel
theorem dX5_leadingTo_1 : decode cX5_leadingTo 1 = .ok (.ifCond .lt 21, 3) := by decide +kernel
theorem dX5_leadingTo_4 : decode cX5_leadingTo 4 = .ok (.iload_n 1, 1) := by decide +kernel
theorem dX5_leadingTo_5 : decode cX5_leadingTo 5 = .ok (.aload_n 0, 1) := by decide +kernel
theorem dX5_leadingTo_6 : decode cX5_leadingTo 6 = .ok (.getfield 35, 3) := by decide +kernel
theorem dX5_leadingTo_9 : decode cX5_leadingTo 9 = .ok (.arraylength, 1) := by decide +kernel
theorem dX5_leadingTo_10 : decode cX5_leadingTo 10 = .ok (.if_icmp .ge 12, 3) := by decide +kernel
theorem dX5_leadingTo_13 : decode cX5_leadingTo 13 = .ok (.aload_n 0, 1) := by decide +kernel
theorem dX5_leadingTo_14 : decode cX5_leadingTo 14 = .ok (.getfield 35, 3) := by decide +kernel
theorem dX5_leadingTo_17 : decode cX5_leadingTo 17 = .ok (.iload_n 1, 1) := by decide +kernel
theorem dX5_leadingTo_18 : decode cX5_leadingTo 18 = .ok (.laload, 1) := by decide +kernel
theorem dX5_leadingTo_19 : decode cX5_leadingTo 19 = .ok (.goto 4, 3) := by decide +kernel
theorem dX5_leadingTo_22 : decode cX5_leadingTo 22 = .ok (.lconst 0, 1) := by decide +kernel
theorem dX5_leadingTo_23 : decode cX5_leadingTo 23 = .ok (.lreturn, 1) := by decide +kernel
theorem dX5_before_0 : decode cX5_before 0 = .ok (.lconst 0, 1) := by decide +kernel
theorem dX5_before_1 : decode cX5_before 1 = .ok (.lstore_n 3, 1) := by decide +kernel
theorem dX5_before_2 : decode cX5_before 2 = .ok (.lload_n 1, 1) := by decide +kernel
theorem dX5_before_3 : decode cX5_before 3 = .ok (.lstore 5, 2) := by decide +kernel
theorem dX5_before_5 : decode cX5_before 5 = .ok (.iconst 0, 1) := by decide +kernel
theorem dX5_before_6 : decode cX5_before 6 = .ok (.istore 7, 2) := by decide +kernel
theorem dX5_before_8 : decode cX5_before 8 = .ok (.iload 7, 2) := by decide +kernel
theorem dX5_before_10 : decode cX5_before 10 = .ok (.aload_n 0, 1) := by decide +kernel
theorem dX5_before_11 : decode cX5_before 11 = .ok (.getfield 35, 3) := by decide +kernel
theorem dX5_before_14 : decode cX5_before 14 = .ok (.arraylength, 1) := by decide +kernel
theorem dX5_before_15 : decode cX5_before 15 = .ok (.if_icmp .ge 41, 3) := by decide +kernel
theorem dX5_before_18 : decode cX5_before 18 = .ok (.lload 5, 2) := by decide +kernel
theorem dX5_before_20 : decode cX5_before 20 = .ok (.lconst 0, 1) := by decide +kernel
theorem dX5_before_21 : decode cX5_before 21 = .ok (.lcmp, 1) := by decide +kernel
theorem dX5_before_22 : decode cX5_before 22 = .ok (.ifCond .eq 34, 3) := by decide +kernel
theorem dX5_before_25 : decode cX5_before 25 = .ok (.lload 5, 2) := by decide +kernel
theorem dX5_before_27 : decode cX5_before 27 = .ok (.lconst 1, 1) := by decide +kernel
theorem dX5_before_28 : decode cX5_before 28 = .ok (.land, 1) := by decide +kernel
theorem dX5_before_29 : decode cX5_before 29 = .ok (.lconst 0, 1) := by decide +kernel
theorem dX5_before_30 : decode cX5_before 30 = .ok (.lcmp, 1) := by decide +kernel
theorem dX5_before_31 : decode cX5_before 31 = .ok (.ifCond .eq 13, 3) := by decide +kernel
theorem dX5_before_34 : decode cX5_before 34 = .ok (.lload_n 3, 1) := by decide +kernel
theorem dX5_before_35 : decode cX5_before 35 = .ok (.aload_n 0, 1) := by decide +kernel
theorem dX5_before_36 : decode cX5_before 36 = .ok (.getfield 35, 3) := by decide +kernel
theorem dX5_before_39 : decode cX5_before 39 = .ok (.iload 7, 2) := by decide +kernel
theorem dX5_before_41 : decode cX5_before 41 = .ok (.laload, 1) := by decide +kernel
theorem dX5_before_42 : decode cX5_before 42 = .ok (.lor, 1) := by decide +kernel
theorem dX5_before_43 : decode cX5_before 43 = .ok (.lstore_n 3, 1) := by decide +kernel
theorem dX5_before_44 : decode cX5_before 44 = .ok (.lload 5, 2) := by decide +kernel
theorem dX5_before_46 : decode cX5_before 46 = .ok (.iconst 1, 1) := by decide +kernel
theorem dX5_before_47 : decode cX5_before 47 = .ok (.lushr, 1) := by decide +kernel
theorem dX5_before_48 : decode cX5_before 48 = .ok (.lstore 5, 2) := by decide +kernel
theorem dX5_before_50 : decode cX5_before 50 = .ok (.iinc 7 1, 3) := by decide +kernel
theorem dX5_before_53 : decode cX5_before 53 = .ok (.goto (-45), 3) := by decide +kernel
theorem dX5_before_56 : decode cX5_before 56 = .ok (.lload_n 3, 1) := by decide +kernel
theorem dX5_before_57 : decode cX5_before 57 = .ok (.lreturn, 1) := by decide +kernel
theorem dX5_after_0 : decode cX5_after 0 = .ok (.lconst 0, 1) := by decide +kernel
theorem dX5_after_1 : decode cX5_after 1 = .ok (.lstore 4, 2) := by decide +kernel
theorem dX5_after_3 : decode cX5_after 3 = .ok (.lload_n 1, 1) := by decide +kernel
theorem dX5_after_4 : decode cX5_after 4 = .ok (.lstore 6, 2) := by decide +kernel
theorem dX5_after_6 : decode cX5_after 6 = .ok (.iconst 0, 1) := by decide +kernel
theorem dX5_after_7 : decode cX5_after 7 = .ok (.istore 8, 2) := by decide +kernel
theorem dX5_after_9 : decode cX5_after 9 = .ok (.iload 8, 2) := by decide +kernel
theorem dX5_after_11 : decode cX5_after 11 = .ok (.aload_n 0, 1) := by decide +kernel
theorem dX5_after_12 : decode cX5_after 12 = .ok (.getfield 15, 3) := by decide +kernel
theorem dX5_after_15 : decode cX5_after 15 = .ok (.if_icmp .ge 70, 3) := by decide +kernel
theorem dX5_after_18 : decode cX5_after 18 = .ok (.lload 6, 2) := by decide +kernel
theorem dX5_after_20 : decode cX5_after 20 = .ok (.lconst 0, 1) := by decide +kernel
theorem dX5_after_21 : decode cX5_after 21 = .ok (.lcmp, 1) := by decide +kernel
theorem dX5_after_22 : decode cX5_after 22 = .ok (.ifCond .eq 63, 3) := by decide +kernel
theorem dX5_after_25 : decode cX5_after 25 = .ok (.iconst 0, 1) := by decide +kernel
theorem dX5_after_26 : decode cX5_after 26 = .ok (.istore 9, 2) := by decide +kernel
theorem dX5_after_28 : decode cX5_after 28 = .ok (.iload 9, 2) := by decide +kernel
theorem dX5_after_30 : decode cX5_after 30 = .ok (.iconst 4, 1) := by decide +kernel
theorem dX5_after_31 : decode cX5_after 31 = .ok (.if_icmp .ge 42, 3) := by decide +kernel
theorem dX5_after_34 : decode cX5_after 34 = .ok (.lload 6, 2) := by decide +kernel
theorem dX5_after_36 : decode cX5_after 36 = .ok (.lconst 1, 1) := by decide +kernel
theorem dX5_after_37 : decode cX5_after 37 = .ok (.land, 1) := by decide +kernel
theorem dX5_after_38 : decode cX5_after 38 = .ok (.lconst 0, 1) := by decide +kernel
theorem dX5_after_39 : decode cX5_after 39 = .ok (.lcmp, 1) := by decide +kernel
theorem dX5_after_40 : decode cX5_after 40 = .ok (.ifCond .eq 33, 3) := by decide +kernel
theorem dX5_after_43 : decode cX5_after 43 = .ok (.iload_n 3, 1) := by decide +kernel
theorem dX5_after_44 : decode cX5_after 44 = .ok (.iload 9, 2) := by decide +kernel
theorem dX5_after_46 : decode cX5_after 46 = .ok (.ishr, 1) := by decide +kernel
theorem dX5_after_47 : decode cX5_after 47 = .ok (.iconst 1, 1) := by decide +kernel
theorem dX5_after_48 : decode cX5_after 48 = .ok (.iand, 1) := by decide +kernel
theorem dX5_after_49 : decode cX5_after 49 = .ok (.ifCond .eq 18, 3) := by decide +kernel
theorem dX5_after_52 : decode cX5_after 52 = .ok (.lload 4, 2) := by decide +kernel
theorem dX5_after_54 : decode cX5_after 54 = .ok (.lconst 1, 1) := by decide +kernel
theorem dX5_after_55 : decode cX5_after 55 = .ok (.aload_n 0, 1) := by decide +kernel
theorem dX5_after_56 : decode cX5_after 56 = .ok (.iload 8, 2) := by decide +kernel
theorem dX5_after_58 : decode cX5_after 58 = .ok (.iload 9, 2) := by decide +kernel
theorem dX5_after_60 : decode cX5_after 60 = .ok (.invokevirtual 41, 3) := by decide +kernel
theorem dX5_after_63 : decode cX5_after 63 = .ok (.lshl, 1) := by decide +kernel
theorem dX5_after_64 : decode cX5_after 64 = .ok (.lor, 1) := by decide +kernel
theorem dX5_after_65 : decode cX5_after 65 = .ok (.lstore 4, 2) := by decide +kernel
theorem dX5_after_67 : decode cX5_after 67 = .ok (.iinc 9 1, 3) := by decide +kernel
theorem dX5_after_70 : decode cX5_after 70 = .ok (.goto (-42), 3) := by decide +kernel
theorem dX5_after_73 : decode cX5_after 73 = .ok (.lload 6, 2) := by decide +kernel
theorem dX5_after_75 : decode cX5_after 75 = .ok (.iconst 1, 1) := by decide +kernel
theorem dX5_after_76 : decode cX5_after 76 = .ok (.lushr, 1) := by decide +kernel
theorem dX5_after_77 : decode cX5_after 77 = .ok (.lstore 6, 2) := by decide +kernel
theorem dX5_after_79 : decode cX5_after 79 = .ok (.iinc 8 1, 3) := by decide +kernel
theorem dX5_after_82 : decode cX5_after 82 = .ok (.goto (-73), 3) := by decide +kernel
theorem dX5_after_85 : decode cX5_after 85 = .ok (.lload 4, 2) := by decide +kernel
theorem dX5_after_87 : decode cX5_after 87 = .ok (.lreturn, 1) := by decide +kernel
theorem dX5_stepsTo_0 : decode cX5_stepsTo 0 = .ok (.aload_n 0, 1) := by decide +kernel
theorem dX5_stepsTo_1 : decode cX5_stepsTo 1 = .ok (.getfield 24, 3) := by decide +kernel
theorem dX5_stepsTo_4 : decode cX5_stepsTo 4 = .ok (.lstore 4, 2) := by decide +kernel
theorem dX5_stepsTo_6 : decode cX5_stepsTo 6 = .ok (.aload_n 0, 1) := by decide +kernel
theorem dX5_stepsTo_7 : decode cX5_stepsTo 7 = .ok (.getfield 24, 3) := by decide +kernel
theorem dX5_stepsTo_10 : decode cX5_stepsTo 10 = .ok (.lstore 6, 2) := by decide +kernel
theorem dX5_stepsTo_12 : decode cX5_stepsTo 12 = .ok (.iconst 0, 1) := by decide +kernel
theorem dX5_stepsTo_13 : decode cX5_stepsTo 13 = .ok (.istore 8, 2) := by decide +kernel
theorem dX5_stepsTo_15 : decode cX5_stepsTo 15 = .ok (.iload 8, 2) := by decide +kernel
theorem dX5_stepsTo_17 : decode cX5_stepsTo 17 = .ok (.bipush 64, 2) := by decide +kernel
theorem dX5_stepsTo_19 : decode cX5_stepsTo 19 = .ok (.if_icmp .gt 51, 3) := by decide +kernel
theorem dX5_stepsTo_22 : decode cX5_stepsTo 22 = .ok (.lload 6, 2) := by decide +kernel
theorem dX5_stepsTo_24 : decode cX5_stepsTo 24 = .ok (.lconst 0, 1) := by decide +kernel
theorem dX5_stepsTo_25 : decode cX5_stepsTo 25 = .ok (.lcmp, 1) := by decide +kernel
theorem dX5_stepsTo_26 : decode cX5_stepsTo 26 = .ok (.ifCond .eq 44, 3) := by decide +kernel
theorem dX5_stepsTo_29 : decode cX5_stepsTo 29 = .ok (.lload 6, 2) := by decide +kernel
theorem dX5_stepsTo_31 : decode cX5_stepsTo 31 = .ok (.lload_n 1, 1) := by decide +kernel
theorem dX5_stepsTo_32 : decode cX5_stepsTo 32 = .ok (.land, 1) := by decide +kernel
theorem dX5_stepsTo_33 : decode cX5_stepsTo 33 = .ok (.lconst 0, 1) := by decide +kernel
theorem dX5_stepsTo_34 : decode cX5_stepsTo 34 = .ok (.lcmp, 1) := by decide +kernel
theorem dX5_stepsTo_35 : decode cX5_stepsTo 35 = .ok (.ifCond .eq 6, 3) := by decide +kernel
theorem dX5_stepsTo_38 : decode cX5_stepsTo 38 = .ok (.iload 8, 2) := by decide +kernel
theorem dX5_stepsTo_40 : decode cX5_stepsTo 40 = .ok (.ireturn, 1) := by decide +kernel
theorem dX5_stepsTo_41 : decode cX5_stepsTo 41 = .ok (.aload_n 0, 1) := by decide +kernel
theorem dX5_stepsTo_42 : decode cX5_stepsTo 42 = .ok (.lload 6, 2) := by decide +kernel
theorem dX5_stepsTo_44 : decode cX5_stepsTo 44 = .ok (.iload_n 3, 1) := by decide +kernel
theorem dX5_stepsTo_45 : decode cX5_stepsTo 45 = .ok (.invokevirtual 45, 3) := by decide +kernel
theorem dX5_stepsTo_48 : decode cX5_stepsTo 48 = .ok (.lload 4, 2) := by decide +kernel
theorem dX5_stepsTo_50 : decode cX5_stepsTo 50 = .ok (.ldc2_w 18, 3) := by decide +kernel
theorem dX5_stepsTo_53 : decode cX5_stepsTo 53 = .ok (.lxor, 1) := by decide +kernel
theorem dX5_stepsTo_54 : decode cX5_stepsTo 54 = .ok (.land, 1) := by decide +kernel
theorem dX5_stepsTo_55 : decode cX5_stepsTo 55 = .ok (.lstore 6, 2) := by decide +kernel
theorem dX5_stepsTo_57 : decode cX5_stepsTo 57 = .ok (.lload 4, 2) := by decide +kernel
theorem dX5_stepsTo_59 : decode cX5_stepsTo 59 = .ok (.lload 6, 2) := by decide +kernel
theorem dX5_stepsTo_61 : decode cX5_stepsTo 61 = .ok (.lor, 1) := by decide +kernel
theorem dX5_stepsTo_62 : decode cX5_stepsTo 62 = .ok (.lstore 4, 2) := by decide +kernel
theorem dX5_stepsTo_64 : decode cX5_stepsTo 64 = .ok (.iinc 8 1, 3) := by decide +kernel
theorem dX5_stepsTo_67 : decode cX5_stepsTo 67 = .ok (.goto (-52), 3) := by decide +kernel
theorem dX5_stepsTo_70 : decode cX5_stepsTo 70 = .ok (.iconst (-1), 1) := by decide +kernel
theorem dX5_stepsTo_71 : decode cX5_stepsTo 71 = .ok (.ireturn, 1) := by decide +kernel
theorem dX5_stepsBetween_0 : decode cX5_stepsBetween 0 = .ok (.lload_n 3, 1) := by decide +kernel
theorem dX5_stepsBetween_1 : decode cX5_stepsBetween 1 = .ok (.lstore 5, 2) := by decide +kernel
theorem dX5_stepsBetween_3 : decode cX5_stepsBetween 3 = .ok (.lload_n 3, 1) := by decide +kernel
theorem dX5_stepsBetween_4 : decode cX5_stepsBetween 4 = .ok (.lstore 7, 2) := by decide +kernel
theorem dX5_stepsBetween_6 : decode cX5_stepsBetween 6 = .ok (.iconst 0, 1) := by decide +kernel
theorem dX5_stepsBetween_7 : decode cX5_stepsBetween 7 = .ok (.istore 9, 2) := by decide +kernel
theorem dX5_stepsBetween_9 : decode cX5_stepsBetween 9 = .ok (.iload 9, 2) := by decide +kernel
theorem dX5_stepsBetween_11 : decode cX5_stepsBetween 11 = .ok (.bipush 64, 2) := by decide +kernel
theorem dX5_stepsBetween_13 : decode cX5_stepsBetween 13 = .ok (.if_icmp .gt 50, 3) := by decide +kernel
theorem dX5_stepsBetween_16 : decode cX5_stepsBetween 16 = .ok (.lload 7, 2) := by decide +kernel
theorem dX5_stepsBetween_18 : decode cX5_stepsBetween 18 = .ok (.lconst 0, 1) := by decide +kernel
theorem dX5_stepsBetween_19 : decode cX5_stepsBetween 19 = .ok (.lcmp, 1) := by decide +kernel
theorem dX5_stepsBetween_20 : decode cX5_stepsBetween 20 = .ok (.ifCond .eq 43, 3) := by decide +kernel
theorem dX5_stepsBetween_23 : decode cX5_stepsBetween 23 = .ok (.lload 7, 2) := by decide +kernel
theorem dX5_stepsBetween_25 : decode cX5_stepsBetween 25 = .ok (.lload_n 1, 1) := by decide +kernel
theorem dX5_stepsBetween_26 : decode cX5_stepsBetween 26 = .ok (.land, 1) := by decide +kernel
theorem dX5_stepsBetween_27 : decode cX5_stepsBetween 27 = .ok (.lconst 0, 1) := by decide +kernel
theorem dX5_stepsBetween_28 : decode cX5_stepsBetween 28 = .ok (.lcmp, 1) := by decide +kernel
theorem dX5_stepsBetween_29 : decode cX5_stepsBetween 29 = .ok (.ifCond .eq 6, 3) := by decide +kernel
theorem dX5_stepsBetween_32 : decode cX5_stepsBetween 32 = .ok (.iload 9, 2) := by decide +kernel
theorem dX5_stepsBetween_34 : decode cX5_stepsBetween 34 = .ok (.ireturn, 1) := by decide +kernel
theorem dX5_stepsBetween_35 : decode cX5_stepsBetween 35 = .ok (.aload_n 0, 1) := by decide +kernel
theorem dX5_stepsBetween_36 : decode cX5_stepsBetween 36 = .ok (.lload 7, 2) := by decide +kernel
theorem dX5_stepsBetween_38 : decode cX5_stepsBetween 38 = .ok (.invokevirtual 49, 3) := by decide +kernel
theorem dX5_stepsBetween_41 : decode cX5_stepsBetween 41 = .ok (.lload 5, 2) := by decide +kernel
theorem dX5_stepsBetween_43 : decode cX5_stepsBetween 43 = .ok (.ldc2_w 18, 3) := by decide +kernel
theorem dX5_stepsBetween_46 : decode cX5_stepsBetween 46 = .ok (.lxor, 1) := by decide +kernel
theorem dX5_stepsBetween_47 : decode cX5_stepsBetween 47 = .ok (.land, 1) := by decide +kernel
theorem dX5_stepsBetween_48 : decode cX5_stepsBetween 48 = .ok (.lstore 7, 2) := by decide +kernel
theorem dX5_stepsBetween_50 : decode cX5_stepsBetween 50 = .ok (.lload 5, 2) := by decide +kernel
theorem dX5_stepsBetween_52 : decode cX5_stepsBetween 52 = .ok (.lload 7, 2) := by decide +kernel
theorem dX5_stepsBetween_54 : decode cX5_stepsBetween 54 = .ok (.lor, 1) := by decide +kernel
theorem dX5_stepsBetween_55 : decode cX5_stepsBetween 55 = .ok (.lstore 5, 2) := by decide +kernel
theorem dX5_stepsBetween_57 : decode cX5_stepsBetween 57 = .ok (.iinc 9 1, 3) := by decide +kernel
theorem dX5_stepsBetween_60 : decode cX5_stepsBetween 60 = .ok (.goto (-51), 3) := by decide +kernel
theorem dX5_stepsBetween_63 : decode cX5_stepsBetween 63 = .ok (.iconst (-1), 1) := by decide +kernel
theorem dX5_stepsBetween_64 : decode cX5_stepsBetween 64 = .ok (.ireturn, 1) := by decide +kernel
theorem dX5_comeToBy_0 : decode cX5_comeToBy 0 = .ok (.aload_n 0, 1) := by decide +kernel
theorem dX5_comeToBy_1 : decode cX5_comeToBy 1 = .ok (.getfield 24, 3) := by decide +kernel
theorem dX5_comeToBy_4 : decode cX5_comeToBy 4 = .ok (.lstore_n 2, 1) := by decide +kernel
theorem dX5_comeToBy_5 : decode cX5_comeToBy 5 = .ok (.aload_n 0, 1) := by decide +kernel
theorem dX5_comeToBy_6 : decode cX5_comeToBy 6 = .ok (.getfield 24, 3) := by decide +kernel
theorem dX5_comeToBy_9 : decode cX5_comeToBy 9 = .ok (.lstore 4, 2) := by decide +kernel
theorem dX5_comeToBy_11 : decode cX5_comeToBy 11 = .ok (.iconst 0, 1) := by decide +kernel
theorem dX5_comeToBy_12 : decode cX5_comeToBy 12 = .ok (.istore 6, 2) := by decide +kernel
theorem dX5_comeToBy_14 : decode cX5_comeToBy 14 = .ok (.iload 6, 2) := by decide +kernel
theorem dX5_comeToBy_16 : decode cX5_comeToBy 16 = .ok (.iload_n 1, 1) := by decide +kernel
theorem dX5_comeToBy_17 : decode cX5_comeToBy 17 = .ok (.if_icmp .ge 44, 3) := by decide +kernel
theorem dX5_comeToBy_20 : decode cX5_comeToBy 20 = .ok (.iload 6, 2) := by decide +kernel
theorem dX5_comeToBy_22 : decode cX5_comeToBy 22 = .ok (.bipush 64, 2) := by decide +kernel
theorem dX5_comeToBy_24 : decode cX5_comeToBy 24 = .ok (.if_icmp .ge 37, 3) := by decide +kernel
theorem dX5_comeToBy_27 : decode cX5_comeToBy 27 = .ok (.lload 4, 2) := by decide +kernel
theorem dX5_comeToBy_29 : decode cX5_comeToBy 29 = .ok (.lconst 0, 1) := by decide +kernel
theorem dX5_comeToBy_30 : decode cX5_comeToBy 30 = .ok (.lcmp, 1) := by decide +kernel
theorem dX5_comeToBy_31 : decode cX5_comeToBy 31 = .ok (.ifCond .eq 30, 3) := by decide +kernel
theorem dX5_comeToBy_34 : decode cX5_comeToBy 34 = .ok (.aload_n 0, 1) := by decide +kernel
theorem dX5_comeToBy_35 : decode cX5_comeToBy 35 = .ok (.lload 4, 2) := by decide +kernel
theorem dX5_comeToBy_37 : decode cX5_comeToBy 37 = .ok (.bipush 15, 2) := by decide +kernel
theorem dX5_comeToBy_39 : decode cX5_comeToBy 39 = .ok (.invokevirtual 45, 3) := by decide +kernel
theorem dX5_comeToBy_42 : decode cX5_comeToBy 42 = .ok (.lload_n 2, 1) := by decide +kernel
theorem dX5_comeToBy_43 : decode cX5_comeToBy 43 = .ok (.ldc2_w 18, 3) := by decide +kernel
theorem dX5_comeToBy_46 : decode cX5_comeToBy 46 = .ok (.lxor, 1) := by decide +kernel
theorem dX5_comeToBy_47 : decode cX5_comeToBy 47 = .ok (.land, 1) := by decide +kernel
theorem dX5_comeToBy_48 : decode cX5_comeToBy 48 = .ok (.lstore 4, 2) := by decide +kernel
theorem dX5_comeToBy_50 : decode cX5_comeToBy 50 = .ok (.lload_n 2, 1) := by decide +kernel
theorem dX5_comeToBy_51 : decode cX5_comeToBy 51 = .ok (.lload 4, 2) := by decide +kernel
theorem dX5_comeToBy_53 : decode cX5_comeToBy 53 = .ok (.lor, 1) := by decide +kernel
theorem dX5_comeToBy_54 : decode cX5_comeToBy 54 = .ok (.lstore_n 2, 1) := by decide +kernel
theorem dX5_comeToBy_55 : decode cX5_comeToBy 55 = .ok (.iinc 6 1, 3) := by decide +kernel
theorem dX5_comeToBy_58 : decode cX5_comeToBy 58 = .ok (.goto (-44), 3) := by decide +kernel
theorem dX5_comeToBy_61 : decode cX5_comeToBy 61 = .ok (.lload_n 2, 1) := by decide +kernel
theorem dX5_comeToBy_62 : decode cX5_comeToBy 62 = .ok (.lreturn, 1) := by decide +kernel
theorem dX5_comingTo_0 : decode cX5_comingTo 0 = .ok (.lload_n 1, 1) := by decide +kernel
theorem dX5_comingTo_1 : decode cX5_comingTo 1 = .ok (.lstore 4, 2) := by decide +kernel
theorem dX5_comingTo_3 : decode cX5_comingTo 3 = .ok (.lload_n 1, 1) := by decide +kernel
theorem dX5_comingTo_4 : decode cX5_comingTo 4 = .ok (.lstore 6, 2) := by decide +kernel
theorem dX5_comingTo_6 : decode cX5_comingTo 6 = .ok (.iconst 0, 1) := by decide +kernel
theorem dX5_comingTo_7 : decode cX5_comingTo 7 = .ok (.istore 8, 2) := by decide +kernel
theorem dX5_comingTo_9 : decode cX5_comingTo 9 = .ok (.iload 8, 2) := by decide +kernel
theorem dX5_comingTo_11 : decode cX5_comingTo 11 = .ok (.iload_n 3, 1) := by decide +kernel
theorem dX5_comingTo_12 : decode cX5_comingTo 12 = .ok (.if_icmp .ge 45, 3) := by decide +kernel
theorem dX5_comingTo_15 : decode cX5_comingTo 15 = .ok (.iload 8, 2) := by decide +kernel
theorem dX5_comingTo_17 : decode cX5_comingTo 17 = .ok (.bipush 64, 2) := by decide +kernel
theorem dX5_comingTo_19 : decode cX5_comingTo 19 = .ok (.if_icmp .ge 38, 3) := by decide +kernel
theorem dX5_comingTo_22 : decode cX5_comingTo 22 = .ok (.lload 6, 2) := by decide +kernel
theorem dX5_comingTo_24 : decode cX5_comingTo 24 = .ok (.lconst 0, 1) := by decide +kernel
theorem dX5_comingTo_25 : decode cX5_comingTo 25 = .ok (.lcmp, 1) := by decide +kernel
theorem dX5_comingTo_26 : decode cX5_comingTo 26 = .ok (.ifCond .eq 31, 3) := by decide +kernel
theorem dX5_comingTo_29 : decode cX5_comingTo 29 = .ok (.aload_n 0, 1) := by decide +kernel
theorem dX5_comingTo_30 : decode cX5_comingTo 30 = .ok (.lload 6, 2) := by decide +kernel
theorem dX5_comingTo_32 : decode cX5_comingTo 32 = .ok (.invokevirtual 49, 3) := by decide +kernel
theorem dX5_comingTo_35 : decode cX5_comingTo 35 = .ok (.lload 4, 2) := by decide +kernel
theorem dX5_comingTo_37 : decode cX5_comingTo 37 = .ok (.ldc2_w 18, 3) := by decide +kernel
theorem dX5_comingTo_40 : decode cX5_comingTo 40 = .ok (.lxor, 1) := by decide +kernel
theorem dX5_comingTo_41 : decode cX5_comingTo 41 = .ok (.land, 1) := by decide +kernel
theorem dX5_comingTo_42 : decode cX5_comingTo 42 = .ok (.lstore 6, 2) := by decide +kernel
theorem dX5_comingTo_44 : decode cX5_comingTo 44 = .ok (.lload 4, 2) := by decide +kernel
theorem dX5_comingTo_46 : decode cX5_comingTo 46 = .ok (.lload 6, 2) := by decide +kernel
theorem dX5_comingTo_48 : decode cX5_comingTo 48 = .ok (.lor, 1) := by decide +kernel
theorem dX5_comingTo_49 : decode cX5_comingTo 49 = .ok (.lstore 4, 2) := by decide +kernel
theorem dX5_comingTo_51 : decode cX5_comingTo 51 = .ok (.iinc 8 1, 3) := by decide +kernel
theorem dX5_comingTo_54 : decode cX5_comingTo 54 = .ok (.goto (-45), 3) := by decide +kernel
theorem dX5_comingTo_57 : decode cX5_comingTo 57 = .ok (.lload 4, 2) := by decide +kernel
theorem dX5_comingTo_59 : decode cX5_comingTo 59 = .ok (.lreturn, 1) := by decide +kernel
theorem dX5_fillFars_0 : decode cX5_fillFars 0 = .ok (.lload_n 1, 1) := by decide +kernel
theorem dX5_fillFars_1 : decode cX5_fillFars 1 = .ok (.lstore 4, 2) := by decide +kernel
theorem dX5_fillFars_3 : decode cX5_fillFars 3 = .ok (.lload_n 1, 1) := by decide +kernel
theorem dX5_fillFars_4 : decode cX5_fillFars 4 = .ok (.lstore 6, 2) := by decide +kernel
theorem dX5_fillFars_6 : decode cX5_fillFars 6 = .ok (.iconst 0, 1) := by decide +kernel
theorem dX5_fillFars_7 : decode cX5_fillFars 7 = .ok (.istore 8, 2) := by decide +kernel
theorem dX5_fillFars_9 : decode cX5_fillFars 9 = .ok (.iload 8, 2) := by decide +kernel
theorem dX5_fillFars_11 : decode cX5_fillFars 11 = .ok (.aload_n 3, 1) := by decide +kernel
theorem dX5_fillFars_12 : decode cX5_fillFars 12 = .ok (.arraylength, 1) := by decide +kernel
theorem dX5_fillFars_13 : decode cX5_fillFars 13 = .ok (.if_icmp .ge 59, 3) := by decide +kernel
theorem dX5_fillFars_16 : decode cX5_fillFars 16 = .ok (.lload 6, 2) := by decide +kernel
theorem dX5_fillFars_18 : decode cX5_fillFars 18 = .ok (.lconst 0, 1) := by decide +kernel
theorem dX5_fillFars_19 : decode cX5_fillFars 19 = .ok (.lcmp, 1) := by decide +kernel
theorem dX5_fillFars_20 : decode cX5_fillFars 20 = .ok (.ifCond .eq 52, 3) := by decide +kernel
theorem dX5_fillFars_23 : decode cX5_fillFars 23 = .ok (.aload_n 3, 1) := by decide +kernel
theorem dX5_fillFars_24 : decode cX5_fillFars 24 = .ok (.iload 8, 2) := by decide +kernel
theorem dX5_fillFars_26 : decode cX5_fillFars 26 = .ok (.lload 6, 2) := by decide +kernel
theorem dX5_fillFars_28 : decode cX5_fillFars 28 = .ok (.lastore, 1) := by decide +kernel
theorem dX5_fillFars_29 : decode cX5_fillFars 29 = .ok (.lload 6, 2) := by decide +kernel
theorem dX5_fillFars_31 : decode cX5_fillFars 31 = .ok (.aload_n 0, 1) := by decide +kernel
theorem dX5_fillFars_32 : decode cX5_fillFars 32 = .ok (.getfield 24, 3) := by decide +kernel
theorem dX5_fillFars_35 : decode cX5_fillFars 35 = .ok (.land, 1) := by decide +kernel
theorem dX5_fillFars_36 : decode cX5_fillFars 36 = .ok (.lconst 0, 1) := by decide +kernel
theorem dX5_fillFars_37 : decode cX5_fillFars 37 = .ok (.lcmp, 1) := by decide +kernel
theorem dX5_fillFars_38 : decode cX5_fillFars 38 = .ok (.ifCond .eq 6, 3) := by decide +kernel
theorem dX5_fillFars_41 : decode cX5_fillFars 41 = .ok (.iload 8, 2) := by decide +kernel
theorem dX5_fillFars_43 : decode cX5_fillFars 43 = .ok (.ireturn, 1) := by decide +kernel
theorem dX5_fillFars_44 : decode cX5_fillFars 44 = .ok (.aload_n 0, 1) := by decide +kernel
theorem dX5_fillFars_45 : decode cX5_fillFars 45 = .ok (.lload 6, 2) := by decide +kernel
theorem dX5_fillFars_47 : decode cX5_fillFars 47 = .ok (.invokevirtual 49, 3) := by decide +kernel
theorem dX5_fillFars_50 : decode cX5_fillFars 50 = .ok (.lload 4, 2) := by decide +kernel
theorem dX5_fillFars_52 : decode cX5_fillFars 52 = .ok (.ldc2_w 18, 3) := by decide +kernel
theorem dX5_fillFars_55 : decode cX5_fillFars 55 = .ok (.lxor, 1) := by decide +kernel
theorem dX5_fillFars_56 : decode cX5_fillFars 56 = .ok (.land, 1) := by decide +kernel
theorem dX5_fillFars_57 : decode cX5_fillFars 57 = .ok (.lstore 6, 2) := by decide +kernel
theorem dX5_fillFars_59 : decode cX5_fillFars 59 = .ok (.lload 4, 2) := by decide +kernel
theorem dX5_fillFars_61 : decode cX5_fillFars 61 = .ok (.lload 6, 2) := by decide +kernel
theorem dX5_fillFars_63 : decode cX5_fillFars 63 = .ok (.lor, 1) := by decide +kernel
theorem dX5_fillFars_64 : decode cX5_fillFars 64 = .ok (.lstore 4, 2) := by decide +kernel
theorem dX5_fillFars_66 : decode cX5_fillFars 66 = .ok (.iinc 8 1, 3) := by decide +kernel
theorem dX5_fillFars_69 : decode cX5_fillFars 69 = .ok (.goto (-60), 3) := by decide +kernel
theorem dX5_fillFars_72 : decode cX5_fillFars 72 = .ok (.iconst (-1), 1) := by decide +kernel
theorem dX5_fillFars_73 : decode cX5_fillFars 73 = .ok (.ireturn, 1) := by decide +kernel
theorem dX5_fillShortest_0 : decode cX5_fillShortest 0 = .ok (.aload_n 0, 1) := by decide +kernel
theorem dX5_fillShortest_1 : decode cX5_fillShortest 1 = .ok (.lload_n 1, 1) := by decide +kernel
theorem dX5_fillShortest_2 : decode cX5_fillShortest 2 = .ok (.aload_n 3, 1) := by decide +kernel
theorem dX5_fillShortest_3 : decode cX5_fillShortest 3 = .ok (.invokevirtual 53, 3) := by decide +kernel
theorem dX5_fillShortest_6 : decode cX5_fillShortest 6 = .ok (.istore 5, 2) := by decide +kernel
theorem dX5_fillShortest_8 : decode cX5_fillShortest 8 = .ok (.iload 5, 2) := by decide +kernel
theorem dX5_fillShortest_10 : decode cX5_fillShortest 10 = .ok (.iconst (-1), 1) := by decide +kernel
theorem dX5_fillShortest_11 : decode cX5_fillShortest 11 = .ok (.if_icmp .eq 11, 3) := by decide +kernel
theorem dX5_fillShortest_14 : decode cX5_fillShortest 14 = .ok (.iload 5, 2) := by decide +kernel
theorem dX5_fillShortest_16 : decode cX5_fillShortest 16 = .ok (.aload 4, 2) := by decide +kernel
theorem dX5_fillShortest_18 : decode cX5_fillShortest 18 = .ok (.arraylength, 1) := by decide +kernel
theorem dX5_fillShortest_19 : decode cX5_fillShortest 19 = .ok (.if_icmp .lt 5, 3) := by decide +kernel
theorem dX5_fillShortest_22 : decode cX5_fillShortest 22 = .ok (.iconst 0, 1) := by decide +kernel
theorem dX5_fillShortest_23 : decode cX5_fillShortest 23 = .ok (.ireturn, 1) := by decide +kernel
theorem dX5_fillShortest_24 : decode cX5_fillShortest 24 = .ok (.aload_n 0, 1) := by decide +kernel
theorem dX5_fillShortest_25 : decode cX5_fillShortest 25 = .ok (.getfield 24, 3) := by decide +kernel
theorem dX5_fillShortest_28 : decode cX5_fillShortest 28 = .ok (.lstore 6, 2) := by decide +kernel
theorem dX5_fillShortest_30 : decode cX5_fillShortest 30 = .ok (.iconst 0, 1) := by decide +kernel
theorem dX5_fillShortest_31 : decode cX5_fillShortest 31 = .ok (.istore 8, 2) := by decide +kernel
theorem dX5_fillShortest_33 : decode cX5_fillShortest 33 = .ok (.iload 8, 2) := by decide +kernel
theorem dX5_fillShortest_35 : decode cX5_fillShortest 35 = .ok (.iload 5, 2) := by decide +kernel
theorem dX5_fillShortest_37 : decode cX5_fillShortest 37 = .ok (.if_icmp .gt 51, 3) := by decide +kernel
theorem dX5_fillShortest_40 : decode cX5_fillShortest 40 = .ok (.lload 6, 2) := by decide +kernel
theorem dX5_fillShortest_42 : decode cX5_fillShortest 42 = .ok (.aload_n 3, 1) := by decide +kernel
theorem dX5_fillShortest_43 : decode cX5_fillShortest 43 = .ok (.iload 5, 2) := by decide +kernel
theorem dX5_fillShortest_45 : decode cX5_fillShortest 45 = .ok (.iload 8, 2) := by decide +kernel
theorem dX5_fillShortest_47 : decode cX5_fillShortest 47 = .ok (.isub, 1) := by decide +kernel
theorem dX5_fillShortest_48 : decode cX5_fillShortest 48 = .ok (.laload, 1) := by decide +kernel
theorem dX5_fillShortest_49 : decode cX5_fillShortest 49 = .ok (.land, 1) := by decide +kernel
theorem dX5_fillShortest_50 : decode cX5_fillShortest 50 = .ok (.invokestatic 57, 3) := by decide +kernel
theorem dX5_fillShortest_53 : decode cX5_fillShortest 53 = .ok (.istore 9, 2) := by decide +kernel
theorem dX5_fillShortest_55 : decode cX5_fillShortest 55 = .ok (.iload 9, 2) := by decide +kernel
theorem dX5_fillShortest_57 : decode cX5_fillShortest 57 = .ok (.iconst (-1), 1) := by decide +kernel
theorem dX5_fillShortest_58 : decode cX5_fillShortest 58 = .ok (.if_icmp .ne 5, 3) := by decide +kernel
theorem dX5_fillShortest_61 : decode cX5_fillShortest 61 = .ok (.iconst 0, 1) := by decide +kernel
theorem dX5_fillShortest_62 : decode cX5_fillShortest 62 = .ok (.ireturn, 1) := by decide +kernel
theorem dX5_fillShortest_63 : decode cX5_fillShortest 63 = .ok (.aload 4, 2) := by decide +kernel
theorem dX5_fillShortest_65 : decode cX5_fillShortest 65 = .ok (.iload 8, 2) := by decide +kernel
theorem dX5_fillShortest_67 : decode cX5_fillShortest 67 = .ok (.iload 9, 2) := by decide +kernel
theorem dX5_fillShortest_69 : decode cX5_fillShortest 69 = .ok (.iastore, 1) := by decide +kernel
theorem dX5_fillShortest_70 : decode cX5_fillShortest 70 = .ok (.aload_n 0, 1) := by decide +kernel
theorem dX5_fillShortest_71 : decode cX5_fillShortest 71 = .ok (.lconst 1, 1) := by decide +kernel
theorem dX5_fillShortest_72 : decode cX5_fillShortest 72 = .ok (.iload 9, 2) := by decide +kernel
theorem dX5_fillShortest_74 : decode cX5_fillShortest 74 = .ok (.lshl, 1) := by decide +kernel
theorem dX5_fillShortest_75 : decode cX5_fillShortest 75 = .ok (.bipush 15, 2) := by decide +kernel
theorem dX5_fillShortest_77 : decode cX5_fillShortest 77 = .ok (.invokevirtual 45, 3) := by decide +kernel
theorem dX5_fillShortest_80 : decode cX5_fillShortest 80 = .ok (.lstore 6, 2) := by decide +kernel
theorem dX5_fillShortest_82 : decode cX5_fillShortest 82 = .ok (.iinc 8 1, 3) := by decide +kernel
theorem dX5_fillShortest_85 : decode cX5_fillShortest 85 = .ok (.goto (-52), 3) := by decide +kernel
theorem dX5_fillShortest_88 : decode cX5_fillShortest 88 = .ok (.iload 5, 2) := by decide +kernel
theorem dX5_fillShortest_90 : decode cX5_fillShortest 90 = .ok (.iconst 1, 1) := by decide +kernel
theorem dX5_fillShortest_91 : decode cX5_fillShortest 91 = .ok (.iadd, 1) := by decide +kernel
theorem dX5_fillShortest_92 : decode cX5_fillShortest 92 = .ok (.ireturn, 1) := by decide +kernel
theorem dX6_init_0 : decode cX6_init 0 = .ok (.aload_n 0, 1) := by decide +kernel
theorem dX6_init_1 : decode cX6_init 1 = .ok (.invokespecial 3, 3) := by decide +kernel
theorem dX6_init_4 : decode cX6_init 4 = .ok (.aload_n 0, 1) := by decide +kernel
theorem dX6_init_5 : decode cX6_init 5 = .ok (.iconst 0, 1) := by decide +kernel
theorem dX6_init_6 : decode cX6_init 6 = .ok (.newarray .int, 2) := by decide +kernel
theorem dX6_init_8 : decode cX6_init 8 = .ok (.putfield 9, 3) := by decide +kernel
theorem dX6_init_11 : decode cX6_init 11 = .ok (.return_, 1) := by decide +kernel
theorem dX6_become_0 : decode cX6_become 0 = .ok (.aload_n 0, 1) := by decide +kernel
theorem dX6_become_1 : decode cX6_become 1 = .ok (.aload_n 1, 1) := by decide +kernel
theorem dX6_become_2 : decode cX6_become 2 = .ok (.getfield 15, 3) := by decide +kernel
theorem dX6_become_5 : decode cX6_become 5 = .ok (.invokevirtual 19, 3) := by decide +kernel
theorem dX6_become_8 : decode cX6_become 8 = .ok (.aload_n 1, 1) := by decide +kernel
theorem dX6_become_9 : decode cX6_become 9 = .ok (.getfield 9, 3) := by decide +kernel
theorem dX6_become_12 : decode cX6_become 12 = .ok (.iconst 0, 1) := by decide +kernel
theorem dX6_become_13 : decode cX6_become 13 = .ok (.aload_n 0, 1) := by decide +kernel
theorem dX6_become_14 : decode cX6_become 14 = .ok (.getfield 9, 3) := by decide +kernel
theorem dX6_become_17 : decode cX6_become 17 = .ok (.iconst 0, 1) := by decide +kernel
theorem dX6_become_18 : decode cX6_become 18 = .ok (.aload_n 1, 1) := by decide +kernel
theorem dX6_become_19 : decode cX6_become 19 = .ok (.getfield 15, 3) := by decide +kernel
theorem dX6_become_22 : decode cX6_become 22 = .ok (.iconst 4, 1) := by decide +kernel
theorem dX6_become_23 : decode cX6_become 23 = .ok (.imul, 1) := by decide +kernel
theorem dX6_become_24 : decode cX6_become 24 = .ok (.invokestatic 23, 3) := by decide +kernel
theorem dX6_become_27 : decode cX6_become 27 = .ok (.aload_n 0, 1) := by decide +kernel
theorem dX6_become_28 : decode cX6_become 28 = .ok (.aload_n 1, 1) := by decide +kernel
theorem dX6_become_29 : decode cX6_become 29 = .ok (.getfield 15, 3) := by decide +kernel
theorem dX6_become_32 : decode cX6_become 32 = .ok (.putfield 15, 3) := by decide +kernel
theorem dX6_become_35 : decode cX6_become 35 = .ok (.return_, 1) := by decide +kernel
theorem dX6_makeRoom_0 : decode cX6_makeRoom 0 = .ok (.iload_n 1, 1) := by decide +kernel
theorem dX6_makeRoom_1 : decode cX6_makeRoom 1 = .ok (.iconst 4, 1) := by decide +kernel
theorem dX6_makeRoom_2 : decode cX6_makeRoom 2 = .ok (.imul, 1) := by decide +kernel
theorem dX6_makeRoom_3 : decode cX6_makeRoom 3 = .ok (.aload_n 0, 1) := by decide +kernel
theorem dX6_makeRoom_4 : decode cX6_makeRoom 4 = .ok (.getfield 9, 3) := by decide +kernel
theorem dX6_makeRoom_7 : decode cX6_makeRoom 7 = .ok (.arraylength, 1) := by decide +kernel
theorem dX6_makeRoom_8 : decode cX6_makeRoom 8 = .ok (.if_icmp .le 17, 3) := by decide +kernel
theorem dX6_makeRoom_11 : decode cX6_makeRoom 11 = .ok (.aload_n 0, 1) := by decide +kernel
theorem dX6_makeRoom_12 : decode cX6_makeRoom 12 = .ok (.aload_n 0, 1) := by decide +kernel
theorem dX6_makeRoom_13 : decode cX6_makeRoom 13 = .ok (.getfield 9, 3) := by decide +kernel
theorem dX6_makeRoom_16 : decode cX6_makeRoom 16 = .ok (.iload_n 1, 1) := by decide +kernel
theorem dX6_makeRoom_17 : decode cX6_makeRoom 17 = .ok (.iconst 4, 1) := by decide +kernel
theorem dX6_makeRoom_18 : decode cX6_makeRoom 18 = .ok (.imul, 1) := by decide +kernel
theorem dX6_makeRoom_19 : decode cX6_makeRoom 19 = .ok (.invokestatic 29, 3) := by decide +kernel
theorem dX6_makeRoom_22 : decode cX6_makeRoom 22 = .ok (.putfield 9, 3) := by decide +kernel
theorem dX6_makeRoom_25 : decode cX6_makeRoom 25 = .ok (.return_, 1) := by decide +kernel
theorem dX6_part_0 : decode cX6_part 0 = .ok (.iload_n 1, 1) := by decide +kernel
theorem dX6_part_1 : decode cX6_part 1 = .ok (.iconst 4, 1) := by decide +kernel
theorem dX6_part_2 : decode cX6_part 2 = .ok (.imul, 1) := by decide +kernel
theorem dX6_part_3 : decode cX6_part 3 = .ok (.iload_n 2, 1) := by decide +kernel
theorem dX6_part_4 : decode cX6_part 4 = .ok (.iadd, 1) := by decide +kernel
theorem dX6_part_5 : decode cX6_part 5 = .ok (.istore_n 3, 1) := by decide +kernel
theorem dX6_part_6 : decode cX6_part 6 = .ok (.iload_n 3, 1) := by decide +kernel
theorem dX6_part_7 : decode cX6_part 7 = .ok (.ifCond .lt 21, 3) := by decide +kernel
theorem dX6_part_10 : decode cX6_part 10 = .ok (.iload_n 3, 1) := by decide +kernel
theorem dX6_part_11 : decode cX6_part 11 = .ok (.aload_n 0, 1) := by decide +kernel
theorem dX6_part_12 : decode cX6_part 12 = .ok (.getfield 9, 3) := by decide +kernel
theorem dX6_part_15 : decode cX6_part 15 = .ok (.arraylength, 1) := by decide +kernel
theorem dX6_part_16 : decode cX6_part 16 = .ok (.if_icmp .ge 12, 3) := by decide +kernel
theorem dX6_part_19 : decode cX6_part 19 = .ok (.aload_n 0, 1) := by decide +kernel
theorem dX6_part_20 : decode cX6_part 20 = .ok (.getfield 9, 3) := by decide +kernel
theorem dX6_part_23 : decode cX6_part 23 = .ok (.iload_n 3, 1) := by decide +kernel
theorem dX6_part_24 : decode cX6_part 24 = .ok (.iaload, 1) := by decide +kernel
theorem dX6_part_25 : decode cX6_part 25 = .ok (.goto 4, 3) := by decide +kernel
theorem dX6_part_28 : decode cX6_part 28 = .ok (.iconst 0, 1) := by decide +kernel
theorem dX6_part_29 : decode cX6_part 29 = .ok (.ireturn, 1) := by decide +kernel
theorem dX6_add_0 : decode cX6_add 0 = .ok (.iconst 0, 1) := by decide +kernel
theorem dX6_add_1 : decode cX6_add 1 = .ok (.istore 5, 2) := by decide +kernel
theorem dX6_add_3 : decode cX6_add 3 = .ok (.iload 5, 2) := by decide +kernel
theorem dX6_add_5 : decode cX6_add 5 = .ok (.aload_n 0, 1) := by decide +kernel
theorem dX6_add_6 : decode cX6_add 6 = .ok (.getfield 15, 3) := by decide +kernel
theorem dX6_add_9 : decode cX6_add 9 = .ok (.if_icmp .ge 20, 3) := by decide +kernel
theorem dX6_add_12 : decode cX6_add 12 = .ok (.aload_n 0, 1) := by decide +kernel
theorem dX6_add_13 : decode cX6_add 13 = .ok (.iload 5, 2) := by decide +kernel
theorem dX6_add_15 : decode cX6_add 15 = .ok (.iload_n 1, 1) := by decide +kernel
theorem dX6_add_16 : decode cX6_add 16 = .ok (.iload_n 2, 1) := by decide +kernel
theorem dX6_add_17 : decode cX6_add 17 = .ok (.invokevirtual 35, 3) := by decide +kernel
theorem dX6_add_20 : decode cX6_add 20 = .ok (.ifCond .eq 9, 3) := by decide +kernel
theorem dX6_add_23 : decode cX6_add 23 = .ok (.iinc 5 1, 3) := by decide +kernel
theorem dX6_add_26 : decode cX6_add 26 = .ok (.goto (-23), 3) := by decide +kernel
theorem dX6_add_29 : decode cX6_add 29 = .ok (.aload_n 0, 1) := by decide +kernel
theorem dX6_add_30 : decode cX6_add 30 = .ok (.getfield 15, 3) := by decide +kernel
theorem dX6_add_33 : decode cX6_add 33 = .ok (.iconst 1, 1) := by decide +kernel
theorem dX6_add_34 : decode cX6_add 34 = .ok (.iadd, 1) := by decide +kernel
theorem dX6_add_35 : decode cX6_add 35 = .ok (.iconst 4, 1) := by decide +kernel
theorem dX6_add_36 : decode cX6_add 36 = .ok (.imul, 1) := by decide +kernel
theorem dX6_add_37 : decode cX6_add 37 = .ok (.aload_n 0, 1) := by decide +kernel
theorem dX6_add_38 : decode cX6_add 38 = .ok (.getfield 9, 3) := by decide +kernel
theorem dX6_add_41 : decode cX6_add 41 = .ok (.arraylength, 1) := by decide +kernel
theorem dX6_add_42 : decode cX6_add 42 = .ok (.if_icmp .le 16, 3) := by decide +kernel
theorem dX6_add_45 : decode cX6_add 45 = .ok (.aload_n 0, 1) := by decide +kernel
theorem dX6_add_46 : decode cX6_add 46 = .ok (.aload_n 0, 1) := by decide +kernel
theorem dX6_add_47 : decode cX6_add 47 = .ok (.getfield 15, 3) := by decide +kernel
theorem dX6_add_50 : decode cX6_add 50 = .ok (.iconst 2, 1) := by decide +kernel
theorem dX6_add_51 : decode cX6_add 51 = .ok (.imul, 1) := by decide +kernel
theorem dX6_add_52 : decode cX6_add 52 = .ok (.bipush 8, 2) := by decide +kernel
theorem dX6_add_54 : decode cX6_add 54 = .ok (.iadd, 1) := by decide +kernel
theorem dX6_add_55 : decode cX6_add 55 = .ok (.invokevirtual 19, 3) := by decide +kernel
theorem dX6_add_58 : decode cX6_add 58 = .ok (.iload 5, 2) := by decide +kernel
theorem dX6_add_60 : decode cX6_add 60 = .ok (.iconst 4, 1) := by decide +kernel
theorem dX6_add_61 : decode cX6_add 61 = .ok (.imul, 1) := by decide +kernel
theorem dX6_add_62 : decode cX6_add 62 = .ok (.istore 6, 2) := by decide +kernel
theorem dX6_add_64 : decode cX6_add 64 = .ok (.aload_n 0, 1) := by decide +kernel
theorem dX6_add_65 : decode cX6_add 65 = .ok (.getfield 9, 3) := by decide +kernel
theorem dX6_add_68 : decode cX6_add 68 = .ok (.iload 6, 2) := by decide +kernel
theorem dX6_add_70 : decode cX6_add 70 = .ok (.aload_n 0, 1) := by decide +kernel
theorem dX6_add_71 : decode cX6_add 71 = .ok (.getfield 9, 3) := by decide +kernel
theorem dX6_add_74 : decode cX6_add 74 = .ok (.iload 6, 2) := by decide +kernel
theorem dX6_add_76 : decode cX6_add 76 = .ok (.iconst 4, 1) := by decide +kernel
theorem dX6_add_77 : decode cX6_add 77 = .ok (.iadd, 1) := by decide +kernel
theorem dX6_add_78 : decode cX6_add 78 = .ok (.aload_n 0, 1) := by decide +kernel
theorem dX6_add_79 : decode cX6_add 79 = .ok (.getfield 15, 3) := by decide +kernel
theorem dX6_add_82 : decode cX6_add 82 = .ok (.iload 5, 2) := by decide +kernel
theorem dX6_add_84 : decode cX6_add 84 = .ok (.isub, 1) := by decide +kernel
theorem dX6_add_85 : decode cX6_add 85 = .ok (.iconst 4, 1) := by decide +kernel
theorem dX6_add_86 : decode cX6_add 86 = .ok (.imul, 1) := by decide +kernel
theorem dX6_add_87 : decode cX6_add 87 = .ok (.invokestatic 23, 3) := by decide +kernel
theorem dX6_add_90 : decode cX6_add 90 = .ok (.aload_n 0, 1) := by decide +kernel
theorem dX6_add_91 : decode cX6_add 91 = .ok (.getfield 9, 3) := by decide +kernel
theorem dX6_add_94 : decode cX6_add 94 = .ok (.iload 6, 2) := by decide +kernel
theorem dX6_add_96 : decode cX6_add 96 = .ok (.iconst 0, 1) := by decide +kernel
theorem dX6_add_97 : decode cX6_add 97 = .ok (.iadd, 1) := by decide +kernel
theorem dX6_add_98 : decode cX6_add 98 = .ok (.iload_n 1, 1) := by decide +kernel
theorem dX6_add_99 : decode cX6_add 99 = .ok (.iastore, 1) := by decide +kernel
theorem dX6_add_100 : decode cX6_add 100 = .ok (.aload_n 0, 1) := by decide +kernel
theorem dX6_add_101 : decode cX6_add 101 = .ok (.getfield 9, 3) := by decide +kernel
theorem dX6_add_104 : decode cX6_add 104 = .ok (.iload 6, 2) := by decide +kernel
theorem dX6_add_106 : decode cX6_add 106 = .ok (.iconst 1, 1) := by decide +kernel
theorem dX6_add_107 : decode cX6_add 107 = .ok (.iadd, 1) := by decide +kernel
theorem dX6_add_108 : decode cX6_add 108 = .ok (.iload_n 2, 1) := by decide +kernel
theorem dX6_add_109 : decode cX6_add 109 = .ok (.iastore, 1) := by decide +kernel
theorem dX6_add_110 : decode cX6_add 110 = .ok (.aload_n 0, 1) := by decide +kernel
theorem dX6_add_111 : decode cX6_add 111 = .ok (.getfield 9, 3) := by decide +kernel
theorem dX6_add_114 : decode cX6_add 114 = .ok (.iload 6, 2) := by decide +kernel
theorem dX6_add_116 : decode cX6_add 116 = .ok (.iconst 2, 1) := by decide +kernel
theorem dX6_add_117 : decode cX6_add 117 = .ok (.iadd, 1) := by decide +kernel
theorem dX6_add_118 : decode cX6_add 118 = .ok (.iload_n 3, 1) := by decide +kernel
theorem dX6_add_119 : decode cX6_add 119 = .ok (.iastore, 1) := by decide +kernel
theorem dX6_add_120 : decode cX6_add 120 = .ok (.aload_n 0, 1) := by decide +kernel
theorem dX6_add_121 : decode cX6_add 121 = .ok (.getfield 9, 3) := by decide +kernel
theorem dX6_add_124 : decode cX6_add 124 = .ok (.iload 6, 2) := by decide +kernel
theorem dX6_add_126 : decode cX6_add 126 = .ok (.iconst 3, 1) := by decide +kernel
theorem dX6_add_127 : decode cX6_add 127 = .ok (.iadd, 1) := by decide +kernel
theorem dX6_add_128 : decode cX6_add 128 = .ok (.iload 4, 2) := by decide +kernel
theorem dX6_add_130 : decode cX6_add 130 = .ok (.iastore, 1) := by decide +kernel
theorem dX6_add_131 : decode cX6_add 131 = .ok (.aload_n 0, 1) := by decide +kernel
theorem dX6_add_132 : decode cX6_add 132 = .ok (.dup, 1) := by decide +kernel
theorem dX6_add_133 : decode cX6_add 133 = .ok (.getfield 15, 3) := by decide +kernel
theorem dX6_add_136 : decode cX6_add 136 = .ok (.iconst 1, 1) := by decide +kernel
theorem dX6_add_137 : decode cX6_add 137 = .ok (.iadd, 1) := by decide +kernel
theorem dX6_add_138 : decode cX6_add 138 = .ok (.putfield 15, 3) := by decide +kernel
theorem dX6_add_141 : decode cX6_add 141 = .ok (.return_, 1) := by decide +kernel
theorem dX6_comesFirst_0 : decode cX6_comesFirst 0 = .ok (.aload_n 0, 1) := by decide +kernel
theorem dX6_comesFirst_1 : decode cX6_comesFirst 1 = .ok (.iload_n 1, 1) := by decide +kernel
theorem dX6_comesFirst_2 : decode cX6_comesFirst 2 = .ok (.iconst 1, 1) := by decide +kernel
theorem dX6_comesFirst_3 : decode cX6_comesFirst 3 = .ok (.invokevirtual 39, 3) := by decide +kernel
theorem dX6_comesFirst_6 : decode cX6_comesFirst 6 = .ok (.istore 4, 2) := by decide +kernel
theorem dX6_comesFirst_8 : decode cX6_comesFirst 8 = .ok (.iload 4, 2) := by decide +kernel
theorem dX6_comesFirst_10 : decode cX6_comesFirst 10 = .ok (.iload_n 3, 1) := by decide +kernel
theorem dX6_comesFirst_11 : decode cX6_comesFirst 11 = .ok (.if_icmp .lt 19, 3) := by decide +kernel
theorem dX6_comesFirst_14 : decode cX6_comesFirst 14 = .ok (.iload 4, 2) := by decide +kernel
theorem dX6_comesFirst_16 : decode cX6_comesFirst 16 = .ok (.iload_n 3, 1) := by decide +kernel
theorem dX6_comesFirst_17 : decode cX6_comesFirst 17 = .ok (.if_icmp .ne 17, 3) := by decide +kernel
theorem dX6_comesFirst_20 : decode cX6_comesFirst 20 = .ok (.aload_n 0, 1) := by decide +kernel
theorem dX6_comesFirst_21 : decode cX6_comesFirst 21 = .ok (.iload_n 1, 1) := by decide +kernel
theorem dX6_comesFirst_22 : decode cX6_comesFirst 22 = .ok (.iconst 0, 1) := by decide +kernel
theorem dX6_comesFirst_23 : decode cX6_comesFirst 23 = .ok (.invokevirtual 39, 3) := by decide +kernel
theorem dX6_comesFirst_26 : decode cX6_comesFirst 26 = .ok (.iload_n 2, 1) := by decide +kernel
theorem dX6_comesFirst_27 : decode cX6_comesFirst 27 = .ok (.if_icmp .gt 7, 3) := by decide +kernel
theorem dX6_comesFirst_30 : decode cX6_comesFirst 30 = .ok (.iconst 1, 1) := by decide +kernel
theorem dX6_comesFirst_31 : decode cX6_comesFirst 31 = .ok (.goto 4, 3) := by decide +kernel
theorem dX6_comesFirst_34 : decode cX6_comesFirst 34 = .ok (.iconst 0, 1) := by decide +kernel
theorem dX6_comesFirst_35 : decode cX6_comesFirst 35 = .ok (.ireturn, 1) := by decide +kernel
theorem dX6_dropFirst_0 : decode cX6_dropFirst 0 = .ok (.aload_n 0, 1) := by decide +kernel
theorem dX6_dropFirst_1 : decode cX6_dropFirst 1 = .ok (.getfield 15, 3) := by decide +kernel
theorem dX6_dropFirst_4 : decode cX6_dropFirst 4 = .ok (.ifCond .le 34, 3) := by decide +kernel
theorem dX6_dropFirst_7 : decode cX6_dropFirst 7 = .ok (.aload_n 0, 1) := by decide +kernel
theorem dX6_dropFirst_8 : decode cX6_dropFirst 8 = .ok (.getfield 9, 3) := by decide +kernel
theorem dX6_dropFirst_11 : decode cX6_dropFirst 11 = .ok (.iconst 4, 1) := by decide +kernel
theorem dX6_dropFirst_12 : decode cX6_dropFirst 12 = .ok (.aload_n 0, 1) := by decide +kernel
theorem dX6_dropFirst_13 : decode cX6_dropFirst 13 = .ok (.getfield 9, 3) := by decide +kernel
theorem dX6_dropFirst_16 : decode cX6_dropFirst 16 = .ok (.iconst 0, 1) := by decide +kernel
theorem dX6_dropFirst_17 : decode cX6_dropFirst 17 = .ok (.aload_n 0, 1) := by decide +kernel
theorem dX6_dropFirst_18 : decode cX6_dropFirst 18 = .ok (.getfield 15, 3) := by decide +kernel
theorem dX6_dropFirst_21 : decode cX6_dropFirst 21 = .ok (.iconst 1, 1) := by decide +kernel
theorem dX6_dropFirst_22 : decode cX6_dropFirst 22 = .ok (.isub, 1) := by decide +kernel
theorem dX6_dropFirst_23 : decode cX6_dropFirst 23 = .ok (.iconst 4, 1) := by decide +kernel
theorem dX6_dropFirst_24 : decode cX6_dropFirst 24 = .ok (.imul, 1) := by decide +kernel
theorem dX6_dropFirst_25 : decode cX6_dropFirst 25 = .ok (.invokestatic 23, 3) := by decide +kernel
theorem dX6_dropFirst_28 : decode cX6_dropFirst 28 = .ok (.aload_n 0, 1) := by decide +kernel
theorem dX6_dropFirst_29 : decode cX6_dropFirst 29 = .ok (.dup, 1) := by decide +kernel
theorem dX6_dropFirst_30 : decode cX6_dropFirst 30 = .ok (.getfield 15, 3) := by decide +kernel
theorem dX6_dropFirst_33 : decode cX6_dropFirst 33 = .ok (.iconst 1, 1) := by decide +kernel
theorem dX6_dropFirst_34 : decode cX6_dropFirst 34 = .ok (.isub, 1) := by decide +kernel
theorem dX6_dropFirst_35 : decode cX6_dropFirst 35 = .ok (.putfield 15, 3) := by decide +kernel
theorem dX6_dropFirst_38 : decode cX6_dropFirst 38 = .ok (.return_, 1) := by decide +kernel
theorem dX6_fillChain_0 : decode cX6_fillChain 0 = .ok (.iconst 0, 1) := by decide +kernel
theorem dX6_fillChain_1 : decode cX6_fillChain 1 = .ok (.istore_n 2, 1) := by decide +kernel
theorem dX6_fillChain_2 : decode cX6_fillChain 2 = .ok (.aload_n 0, 1) := by decide +kernel
theorem dX6_fillChain_3 : decode cX6_fillChain 3 = .ok (.getfield 15, 3) := by decide +kernel
theorem dX6_fillChain_6 : decode cX6_fillChain 6 = .ok (.ifCond .le 7, 3) := by decide +kernel
theorem dX6_fillChain_9 : decode cX6_fillChain 9 = .ok (.iconst 0, 1) := by decide +kernel
theorem dX6_fillChain_10 : decode cX6_fillChain 10 = .ok (.goto 4, 3) := by decide +kernel
theorem dX6_fillChain_13 : decode cX6_fillChain 13 = .ok (.iconst (-1), 1) := by decide +kernel
theorem dX6_fillChain_14 : decode cX6_fillChain 14 = .ok (.istore_n 3, 1) := by decide +kernel
theorem dX6_fillChain_15 : decode cX6_fillChain 15 = .ok (.iload_n 3, 1) := by decide +kernel
theorem dX6_fillChain_16 : decode cX6_fillChain 16 = .ok (.iconst (-1), 1) := by decide +kernel
theorem dX6_fillChain_17 : decode cX6_fillChain 17 = .ok (.if_icmp .eq 35, 3) := by decide +kernel
theorem dX6_fillChain_20 : decode cX6_fillChain 20 = .ok (.iload_n 2, 1) := by decide +kernel
theorem dX6_fillChain_21 : decode cX6_fillChain 21 = .ok (.aload_n 1, 1) := by decide +kernel
theorem dX6_fillChain_22 : decode cX6_fillChain 22 = .ok (.arraylength, 1) := by decide +kernel
theorem dX6_fillChain_23 : decode cX6_fillChain 23 = .ok (.if_icmp .ge 29, 3) := by decide +kernel
theorem dX6_fillChain_26 : decode cX6_fillChain 26 = .ok (.aload_n 1, 1) := by decide +kernel
theorem dX6_fillChain_27 : decode cX6_fillChain 27 = .ok (.iload_n 2, 1) := by decide +kernel
theorem dX6_fillChain_28 : decode cX6_fillChain 28 = .ok (.aload_n 0, 1) := by decide +kernel
theorem dX6_fillChain_29 : decode cX6_fillChain 29 = .ok (.iload_n 3, 1) := by decide +kernel
theorem dX6_fillChain_30 : decode cX6_fillChain 30 = .ok (.iconst 0, 1) := by decide +kernel
theorem dX6_fillChain_31 : decode cX6_fillChain 31 = .ok (.invokevirtual 39, 3) := by decide +kernel
theorem dX6_fillChain_34 : decode cX6_fillChain 34 = .ok (.iastore, 1) := by decide +kernel
theorem dX6_fillChain_35 : decode cX6_fillChain 35 = .ok (.iinc 2 1, 3) := by decide +kernel
theorem dX6_fillChain_38 : decode cX6_fillChain 38 = .ok (.aload_n 0, 1) := by decide +kernel
theorem dX6_fillChain_39 : decode cX6_fillChain 39 = .ok (.aload_n 0, 1) := by decide +kernel
theorem dX6_fillChain_40 : decode cX6_fillChain 40 = .ok (.iload_n 3, 1) := by decide +kernel
theorem dX6_fillChain_41 : decode cX6_fillChain 41 = .ok (.iconst 3, 1) := by decide +kernel
theorem dX6_fillChain_42 : decode cX6_fillChain 42 = .ok (.invokevirtual 39, 3) := by decide +kernel
theorem dX6_fillChain_45 : decode cX6_fillChain 45 = .ok (.invokevirtual 43, 3) := by decide +kernel
theorem dX6_fillChain_48 : decode cX6_fillChain 48 = .ok (.istore_n 3, 1) := by decide +kernel
theorem dX6_fillChain_49 : decode cX6_fillChain 49 = .ok (.goto (-34), 3) := by decide +kernel
theorem dX6_fillChain_52 : decode cX6_fillChain 52 = .ok (.iload_n 2, 1) := by decide +kernel
theorem dX6_fillChain_53 : decode cX6_fillChain 53 = .ok (.ireturn, 1) := by decide +kernel
theorem dX6_placeOf_0 : decode cX6_placeOf 0 = .ok (.iconst 0, 1) := by decide +kernel
theorem dX6_placeOf_1 : decode cX6_placeOf 1 = .ok (.istore_n 2, 1) := by decide +kernel
theorem dX6_placeOf_2 : decode cX6_placeOf 2 = .ok (.iload_n 2, 1) := by decide +kernel
theorem dX6_placeOf_3 : decode cX6_placeOf 3 = .ok (.aload_n 0, 1) := by decide +kernel
theorem dX6_placeOf_4 : decode cX6_placeOf 4 = .ok (.getfield 15, 3) := by decide +kernel
theorem dX6_placeOf_7 : decode cX6_placeOf 7 = .ok (.if_icmp .ge 21, 3) := by decide +kernel
theorem dX6_placeOf_10 : decode cX6_placeOf 10 = .ok (.aload_n 0, 1) := by decide +kernel
theorem dX6_placeOf_11 : decode cX6_placeOf 11 = .ok (.iload_n 2, 1) := by decide +kernel
theorem dX6_placeOf_12 : decode cX6_placeOf 12 = .ok (.iconst 2, 1) := by decide +kernel
theorem dX6_placeOf_13 : decode cX6_placeOf 13 = .ok (.invokevirtual 39, 3) := by decide +kernel
theorem dX6_placeOf_16 : decode cX6_placeOf 16 = .ok (.iload_n 1, 1) := by decide +kernel
theorem dX6_placeOf_17 : decode cX6_placeOf 17 = .ok (.if_icmp .ne 5, 3) := by decide +kernel
theorem dX6_placeOf_20 : decode cX6_placeOf 20 = .ok (.iload_n 2, 1) := by decide +kernel
theorem dX6_placeOf_21 : decode cX6_placeOf 21 = .ok (.ireturn, 1) := by decide +kernel
theorem dX6_placeOf_22 : decode cX6_placeOf 22 = .ok (.iinc 2 1, 3) := by decide +kernel
theorem dX6_placeOf_25 : decode cX6_placeOf 25 = .ok (.goto (-23), 3) := by decide +kernel
theorem dX6_placeOf_28 : decode cX6_placeOf 28 = .ok (.iconst (-1), 1) := by decide +kernel
theorem dX6_placeOf_29 : decode cX6_placeOf 29 = .ok (.ireturn, 1) := by decide +kernel
theorem dX7_init_0 : decode cX7_init 0 = .ok (.aload_n 0, 1) := by decide +kernel
theorem dX7_init_1 : decode cX7_init 1 = .ok (.invokespecial 3, 3) := by decide +kernel
theorem dX7_init_4 : decode cX7_init 4 = .ok (.aload_n 0, 1) := by decide +kernel
theorem dX7_init_5 : decode cX7_init 5 = .ok (.sipush 301, 3) := by decide +kernel
theorem dX7_init_8 : decode cX7_init 8 = .ok (.newarray .int, 2) := by decide +kernel
theorem dX7_init_10 : decode cX7_init 10 = .ok (.putfield 9, 3) := by decide +kernel
theorem dX7_init_13 : decode cX7_init 13 = .ok (.aload_n 0, 1) := by decide +kernel
theorem dX7_init_14 : decode cX7_init 14 = .ok (.sipush 301, 3) := by decide +kernel
theorem dX7_init_17 : decode cX7_init 17 = .ok (.newarray .int, 2) := by decide +kernel
theorem dX7_init_19 : decode cX7_init 19 = .ok (.putfield 15, 3) := by decide +kernel
theorem dX7_init_22 : decode cX7_init 22 = .ok (.aload_n 0, 1) := by decide +kernel
theorem dX7_init_23 : decode cX7_init 23 = .ok (.sipush 301, 3) := by decide +kernel
theorem dX7_init_26 : decode cX7_init 26 = .ok (.newarray .int, 2) := by decide +kernel
theorem dX7_init_28 : decode cX7_init 28 = .ok (.putfield 18, 3) := by decide +kernel
theorem dX7_init_31 : decode cX7_init 31 = .ok (.aload_n 0, 1) := by decide +kernel
theorem dX7_init_32 : decode cX7_init 32 = .ok (.iconst 4, 1) := by decide +kernel
theorem dX7_init_33 : decode cX7_init 33 = .ok (.newarray .long, 2) := by decide +kernel
theorem dX7_init_35 : decode cX7_init 35 = .ok (.putfield 21, 3) := by decide +kernel
theorem dX7_init_38 : decode cX7_init 38 = .ok (.aload_n 0, 1) := by decide +kernel
theorem dX7_init_39 : decode cX7_init 39 = .ok (.bipush 24, 2) := by decide +kernel
theorem dX7_init_41 : decode cX7_init 41 = .ok (.newarray .long, 2) := by decide +kernel
theorem dX7_init_43 : decode cX7_init 43 = .ok (.putfield 25, 3) := by decide +kernel
theorem dX7_init_46 : decode cX7_init 46 = .ok (.return_, 1) := by decide +kernel
theorem dX7_forget_0 : decode cX7_forget 0 = .ok (.aload_n 0, 1) := by decide +kernel
theorem dX7_forget_1 : decode cX7_forget 1 = .ok (.iconst 0, 1) := by decide +kernel
theorem dX7_forget_2 : decode cX7_forget 2 = .ok (.putfield 28, 3) := by decide +kernel
theorem dX7_forget_5 : decode cX7_forget 5 = .ok (.aload_n 0, 1) := by decide +kernel
theorem dX7_forget_6 : decode cX7_forget 6 = .ok (.iconst 0, 1) := by decide +kernel
theorem dX7_forget_7 : decode cX7_forget 7 = .ok (.putfield 32, 3) := by decide +kernel
theorem dX7_forget_10 : decode cX7_forget 10 = .ok (.aload_n 0, 1) := by decide +kernel
theorem dX7_forget_11 : decode cX7_forget 11 = .ok (.iconst 0, 1) := by decide +kernel
theorem dX7_forget_12 : decode cX7_forget 12 = .ok (.putfield 35, 3) := by decide +kernel
theorem dX7_forget_15 : decode cX7_forget 15 = .ok (.aload_n 0, 1) := by decide +kernel
theorem dX7_forget_16 : decode cX7_forget 16 = .ok (.iconst (-1), 1) := by decide +kernel
theorem dX7_forget_17 : decode cX7_forget 17 = .ok (.putfield 38, 3) := by decide +kernel
theorem dX7_forget_20 : decode cX7_forget 20 = .ok (.aload_n 0, 1) := by decide +kernel
theorem dX7_forget_21 : decode cX7_forget 21 = .ok (.iconst 3, 1) := by decide +kernel
theorem dX7_forget_22 : decode cX7_forget 22 = .ok (.putfield 41, 3) := by decide +kernel
theorem dX7_forget_25 : decode cX7_forget 25 = .ok (.aload_n 0, 1) := by decide +kernel
theorem dX7_forget_26 : decode cX7_forget 26 = .ok (.iconst 0, 1) := by decide +kernel
theorem dX7_forget_27 : decode cX7_forget 27 = .ok (.putfield 44, 3) := by decide +kernel
theorem dX7_forget_30 : decode cX7_forget 30 = .ok (.aload_n 0, 1) := by decide +kernel
theorem dX7_forget_31 : decode cX7_forget 31 = .ok (.lconst 1, 1) := by decide +kernel
theorem dX7_forget_32 : decode cX7_forget 32 = .ok (.putfield 48, 3) := by decide +kernel
theorem dX7_forget_35 : decode cX7_forget 35 = .ok (.aload_n 0, 1) := by decide +kernel
theorem dX7_forget_36 : decode cX7_forget 36 = .ok (.iconst 0, 1) := by decide +kernel
theorem dX7_forget_37 : decode cX7_forget 37 = .ok (.putfield 52, 3) := by decide +kernel
theorem dX7_forget_40 : decode cX7_forget 40 = .ok (.aload_n 0, 1) := by decide +kernel
theorem dX7_forget_41 : decode cX7_forget 41 = .ok (.getfield 21, 3) := by decide +kernel
theorem dX7_forget_44 : decode cX7_forget 44 = .ok (.lconst 0, 1) := by decide +kernel
theorem dX7_forget_45 : decode cX7_forget 45 = .ok (.invokestatic 55, 3) := by decide +kernel
theorem dX7_forget_48 : decode cX7_forget 48 = .ok (.aload_n 0, 1) := by decide +kernel
theorem dX7_forget_49 : decode cX7_forget 49 = .ok (.iconst 0, 1) := by decide +kernel
theorem dX7_forget_50 : decode cX7_forget 50 = .ok (.putfield 61, 3) := by decide +kernel
theorem dX7_forget_53 : decode cX7_forget 53 = .ok (.iconst 0, 1) := by decide +kernel
theorem dX7_forget_54 : decode cX7_forget 54 = .ok (.istore_n 1, 1) := by decide +kernel
theorem dX7_forget_55 : decode cX7_forget 55 = .ok (.iload_n 1, 1) := by decide +kernel
theorem dX7_forget_56 : decode cX7_forget 56 = .ok (.aload_n 0, 1) := by decide +kernel
theorem dX7_forget_57 : decode cX7_forget 57 = .ok (.getfield 25, 3) := by decide +kernel
theorem dX7_forget_60 : decode cX7_forget 60 = .ok (.arraylength, 1) := by decide +kernel
theorem dX7_forget_61 : decode cX7_forget 61 = .ok (.if_icmp .ge 32, 3) := by decide +kernel
theorem dX7_forget_64 : decode cX7_forget 64 = .ok (.iload_n 1, 1) := by decide +kernel
theorem dX7_forget_65 : decode cX7_forget 65 = .ok (.iconst 4, 1) := by decide +kernel
theorem dX7_forget_66 : decode cX7_forget 66 = .ok (.idiv, 1) := by decide +kernel
theorem dX7_forget_67 : decode cX7_forget 67 = .ok (.getstatic 64, 3) := by decide +kernel
theorem dX7_forget_70 : decode cX7_forget 70 = .ok (.arraylength, 1) := by decide +kernel
theorem dX7_forget_71 : decode cX7_forget 71 = .ok (.if_icmp .ge 22, 3) := by decide +kernel
theorem dX7_forget_74 : decode cX7_forget 74 = .ok (.aload_n 0, 1) := by decide +kernel
theorem dX7_forget_75 : decode cX7_forget 75 = .ok (.getfield 25, 3) := by decide +kernel
theorem dX7_forget_78 : decode cX7_forget 78 = .ok (.iload_n 1, 1) := by decide +kernel
theorem dX7_forget_79 : decode cX7_forget 79 = .ok (.getstatic 64, 3) := by decide +kernel
theorem dX7_forget_82 : decode cX7_forget 82 = .ok (.iload_n 1, 1) := by decide +kernel
theorem dX7_forget_83 : decode cX7_forget 83 = .ok (.iconst 4, 1) := by decide +kernel
theorem dX7_forget_84 : decode cX7_forget 84 = .ok (.idiv, 1) := by decide +kernel
theorem dX7_forget_85 : decode cX7_forget 85 = .ok (.laload, 1) := by decide +kernel
theorem dX7_forget_86 : decode cX7_forget 86 = .ok (.lastore, 1) := by decide +kernel
theorem dX7_forget_87 : decode cX7_forget 87 = .ok (.iinc 1 1, 3) := by decide +kernel
theorem dX7_forget_90 : decode cX7_forget 90 = .ok (.goto (-35), 3) := by decide +kernel
theorem dX7_forget_93 : decode cX7_forget 93 = .ok (.aload_n 0, 1) := by decide +kernel
theorem dX7_forget_94 : decode cX7_forget 94 = .ok (.iconst (-1), 1) := by decide +kernel
theorem dX7_forget_95 : decode cX7_forget 95 = .ok (.putfield 67, 3) := by decide +kernel
theorem dX7_forget_98 : decode cX7_forget 98 = .ok (.return_, 1) := by decide +kernel
theorem dX7_machine_0 : decode cX7_machine 0 = .ok (.iconst 4, 1) := by decide +kernel
theorem dX7_machine_1 : decode cX7_machine 1 = .ok (.aload_n 0, 1) := by decide +kernel
theorem dX7_machine_2 : decode cX7_machine 2 = .ok (.getfield 41, 3) := by decide +kernel
theorem dX7_machine_5 : decode cX7_machine 5 = .ok (.ishl, 1) := by decide +kernel
theorem dX7_machine_6 : decode cX7_machine 6 = .ok (.newarray .int, 2) := by decide +kernel
theorem dX7_machine_8 : decode cX7_machine 8 = .ok (.astore_n 1, 1) := by decide +kernel
theorem dX7_machine_9 : decode cX7_machine 9 = .ok (.iconst 0, 1) := by decide +kernel
theorem dX7_machine_10 : decode cX7_machine 10 = .ok (.istore_n 2, 1) := by decide +kernel
theorem dX7_machine_11 : decode cX7_machine 11 = .ok (.iload_n 2, 1) := by decide +kernel
theorem dX7_machine_12 : decode cX7_machine 12 = .ok (.aload_n 1, 1) := by decide +kernel
theorem dX7_machine_13 : decode cX7_machine 13 = .ok (.arraylength, 1) := by decide +kernel
theorem dX7_machine_14 : decode cX7_machine 14 = .ok (.if_icmp .ge 55, 3) := by decide +kernel
theorem dX7_machine_17 : decode cX7_machine 17 = .ok (.iconst 0, 1) := by decide +kernel
theorem dX7_machine_18 : decode cX7_machine 18 = .ok (.istore_n 3, 1) := by decide +kernel
theorem dX7_machine_19 : decode cX7_machine 19 = .ok (.iload_n 3, 1) := by decide +kernel
theorem dX7_machine_20 : decode cX7_machine 20 = .ok (.aload_n 0, 1) := by decide +kernel
theorem dX7_machine_21 : decode cX7_machine 21 = .ok (.getfield 41, 3) := by decide +kernel
theorem dX7_machine_24 : decode cX7_machine 24 = .ok (.if_icmp .ge 39, 3) := by decide +kernel
theorem dX7_machine_27 : decode cX7_machine 27 = .ok (.aload_n 0, 1) := by decide +kernel
theorem dX7_machine_28 : decode cX7_machine 28 = .ok (.getfield 25, 3) := by decide +kernel
theorem dX7_machine_31 : decode cX7_machine 31 = .ok (.iload_n 3, 1) := by decide +kernel
theorem dX7_machine_32 : decode cX7_machine 32 = .ok (.iconst 4, 1) := by decide +kernel
theorem dX7_machine_33 : decode cX7_machine 33 = .ok (.imul, 1) := by decide +kernel
theorem dX7_machine_34 : decode cX7_machine 34 = .ok (.iload_n 2, 1) := by decide +kernel
theorem dX7_machine_35 : decode cX7_machine 35 = .ok (.iconst 4, 1) := by decide +kernel
theorem dX7_machine_36 : decode cX7_machine 36 = .ok (.irem, 1) := by decide +kernel
theorem dX7_machine_37 : decode cX7_machine 37 = .ok (.iadd, 1) := by decide +kernel
theorem dX7_machine_38 : decode cX7_machine 38 = .ok (.laload, 1) := by decide +kernel
theorem dX7_machine_39 : decode cX7_machine 39 = .ok (.iload_n 2, 1) := by decide +kernel
theorem dX7_machine_40 : decode cX7_machine 40 = .ok (.iconst 4, 1) := by decide +kernel
theorem dX7_machine_41 : decode cX7_machine 41 = .ok (.idiv, 1) := by decide +kernel
theorem dX7_machine_42 : decode cX7_machine 42 = .ok (.invokestatic 70, 3) := by decide +kernel
theorem dX7_machine_45 : decode cX7_machine 45 = .ok (.ifCond .eq 12, 3) := by decide +kernel
theorem dX7_machine_48 : decode cX7_machine 48 = .ok (.aload_n 1, 1) := by decide +kernel
theorem dX7_machine_49 : decode cX7_machine 49 = .ok (.iload_n 2, 1) := by decide +kernel
theorem dX7_machine_50 : decode cX7_machine 50 = .ok (.dup2, 1) := by decide +kernel
theorem dX7_machine_51 : decode cX7_machine 51 = .ok (.iaload, 1) := by decide +kernel
theorem dX7_machine_52 : decode cX7_machine 52 = .ok (.iconst 1, 1) := by decide +kernel
theorem dX7_machine_53 : decode cX7_machine 53 = .ok (.iload_n 3, 1) := by decide +kernel
theorem dX7_machine_54 : decode cX7_machine 54 = .ok (.ishl, 1) := by decide +kernel
theorem dX7_machine_55 : decode cX7_machine 55 = .ok (.ior, 1) := by decide +kernel
theorem dX7_machine_56 : decode cX7_machine 56 = .ok (.iastore, 1) := by decide +kernel
theorem dX7_machine_57 : decode cX7_machine 57 = .ok (.iinc 3 1, 3) := by decide +kernel
theorem dX7_machine_60 : decode cX7_machine 60 = .ok (.goto (-41), 3) := by decide +kernel
theorem dX7_machine_63 : decode cX7_machine 63 = .ok (.iinc 2 1, 3) := by decide +kernel
theorem dX7_machine_66 : decode cX7_machine 66 = .ok (.goto (-55), 3) := by decide +kernel
theorem dX7_machine_69 : decode cX7_machine 69 = .ok (.new 76, 3) := by decide +kernel
theorem dX7_machine_72 : decode cX7_machine 72 = .ok (.dup, 1) := by decide +kernel
theorem dX7_machine_73 : decode cX7_machine 73 = .ok (.aload_n 0, 1) := by decide +kernel
theorem dX7_machine_74 : decode cX7_machine 74 = .ok (.getfield 41, 3) := by decide +kernel
theorem dX7_machine_77 : decode cX7_machine 77 = .ok (.aload_n 1, 1) := by decide +kernel
theorem dX7_machine_78 : decode cX7_machine 78 = .ok (.aload_n 0, 1) := by decide +kernel
theorem dX7_machine_79 : decode cX7_machine 79 = .ok (.getfield 48, 3) := by decide +kernel
theorem dX7_machine_82 : decode cX7_machine 82 = .ok (.aload_n 0, 1) := by decide +kernel
theorem dX7_machine_83 : decode cX7_machine 83 = .ok (.getfield 21, 3) := by decide +kernel
theorem dX7_machine_86 : decode cX7_machine 86 = .ok (.iconst 1, 1) := by decide +kernel
theorem dX7_machine_87 : decode cX7_machine 87 = .ok (.aload_n 0, 1) := by decide +kernel
theorem dX7_machine_88 : decode cX7_machine 88 = .ok (.getfield 52, 3) := by decide +kernel
theorem dX7_machine_91 : decode cX7_machine 91 = .ok (.invokestatic 78, 3) := by decide +kernel
theorem dX7_machine_94 : decode cX7_machine 94 = .ok (.invokestatic 84, 3) := by decide +kernel
theorem dX7_machine_97 : decode cX7_machine 97 = .ok (.invokespecial 88, 3) := by decide +kernel
theorem dX7_machine_100 : decode cX7_machine 100 = .ok (.areturn, 1) := by decide +kernel
theorem dX7_readAll_0 : decode cX7_readAll 0 = .ok (.aload_n 0, 1) := by decide +kernel
theorem dX7_readAll_1 : decode cX7_readAll 1 = .ok (.invokevirtual 91, 3) := by decide +kernel
theorem dX7_readAll_4 : decode cX7_readAll 4 = .ok (.aload_n 0, 1) := by decide +kernel
theorem dX7_readAll_5 : decode cX7_readAll 5 = .ok (.aload_n 1, 1) := by decide +kernel
theorem dX7_readAll_6 : decode cX7_readAll 6 = .ok (.iload_n 2, 1) := by decide +kernel
theorem dX7_readAll_7 : decode cX7_readAll 7 = .ok (.aload_n 1, 1) := by decide +kernel
theorem dX7_readAll_8 : decode cX7_readAll 8 = .ok (.arraylength, 1) := by decide +kernel
theorem dX7_readAll_9 : decode cX7_readAll 9 = .ok (.invokestatic 94, 3) := by decide +kernel
theorem dX7_readAll_12 : decode cX7_readAll 12 = .ok (.invokevirtual 97, 3) := by decide +kernel
theorem dX7_readAll_15 : decode cX7_readAll 15 = .ok (.aload_n 0, 1) := by decide +kernel
theorem dX7_readAll_16 : decode cX7_readAll 16 = .ok (.getfield 9, 3) := by decide +kernel
theorem dX7_readAll_19 : decode cX7_readAll 19 = .ok (.aload_n 0, 1) := by decide +kernel
theorem dX7_readAll_20 : decode cX7_readAll 20 = .ok (.getfield 32, 3) := by decide +kernel
theorem dX7_readAll_23 : decode cX7_readAll 23 = .ok (.iaload, 1) := by decide +kernel
theorem dX7_readAll_24 : decode cX7_readAll 24 = .ok (.bipush 6, 2) := by decide +kernel
theorem dX7_readAll_26 : decode cX7_readAll 26 = .ok (.if_icmp .ne 13, 3) := by decide +kernel
theorem dX7_readAll_29 : decode cX7_readAll 29 = .ok (.aload_n 0, 1) := by decide +kernel
theorem dX7_readAll_30 : decode cX7_readAll 30 = .ok (.invokevirtual 101, 3) := by decide +kernel
theorem dX7_readAll_33 : decode cX7_readAll 33 = .ok (.aload_n 0, 1) := by decide +kernel
theorem dX7_readAll_34 : decode cX7_readAll 34 = .ok (.bipush 59, 2) := by decide +kernel
theorem dX7_readAll_36 : decode cX7_readAll 36 = .ok (.invokevirtual 104, 3) := by decide +kernel
theorem dX7_readAll_39 : decode cX7_readAll 39 = .ok (.iconst 0, 1) := by decide +kernel
theorem dX7_readAll_40 : decode cX7_readAll 40 = .ok (.istore_n 3, 1) := by decide +kernel
theorem dX7_readAll_41 : decode cX7_readAll 41 = .ok (.iload_n 3, 1) := by decide +kernel
theorem dX7_readAll_42 : decode cX7_readAll 42 = .ok (.sipush 300, 3) := by decide +kernel
theorem dX7_readAll_45 : decode cX7_readAll 45 = .ok (.if_icmp .ge 89, 3) := by decide +kernel
theorem dX7_readAll_48 : decode cX7_readAll 48 = .ok (.aload_n 0, 1) := by decide +kernel
theorem dX7_readAll_49 : decode cX7_readAll 49 = .ok (.getfield 9, 3) := by decide +kernel
theorem dX7_readAll_52 : decode cX7_readAll 52 = .ok (.aload_n 0, 1) := by decide +kernel
theorem dX7_readAll_53 : decode cX7_readAll 53 = .ok (.getfield 32, 3) := by decide +kernel
theorem dX7_readAll_56 : decode cX7_readAll 56 = .ok (.iaload, 1) := by decide +kernel
theorem dX7_readAll_57 : decode cX7_readAll 57 = .ok (.ifCond .eq 77, 3) := by decide +kernel
theorem dX7_readAll_60 : decode cX7_readAll 60 = .ok (.aload_n 0, 1) := by decide +kernel
theorem dX7_readAll_61 : decode cX7_readAll 61 = .ok (.getfield 9, 3) := by decide +kernel
theorem dX7_readAll_64 : decode cX7_readAll 64 = .ok (.aload_n 0, 1) := by decide +kernel
theorem dX7_readAll_65 : decode cX7_readAll 65 = .ok (.getfield 32, 3) := by decide +kernel
theorem dX7_readAll_68 : decode cX7_readAll 68 = .ok (.iaload, 1) := by decide +kernel
theorem dX7_readAll_69 : decode cX7_readAll 69 = .ok (.tableswitch 48 7 9 #[27, 34, 41], 27) := by decide +kernel
theorem dX7_readAll_96 : decode cX7_readAll 96 = .ok (.aload_n 0, 1) := by decide +kernel
theorem dX7_readAll_97 : decode cX7_readAll 97 = .ok (.invokevirtual 108, 3) := by decide +kernel
theorem dX7_readAll_100 : decode cX7_readAll 100 = .ok (.goto 22, 3) := by decide +kernel
theorem dX7_readAll_103 : decode cX7_readAll 103 = .ok (.aload_n 0, 1) := by decide +kernel
theorem dX7_readAll_104 : decode cX7_readAll 104 = .ok (.invokevirtual 111, 3) := by decide +kernel
theorem dX7_readAll_107 : decode cX7_readAll 107 = .ok (.goto 15, 3) := by decide +kernel
theorem dX7_readAll_110 : decode cX7_readAll 110 = .ok (.aload_n 0, 1) := by decide +kernel
theorem dX7_readAll_111 : decode cX7_readAll 111 = .ok (.invokevirtual 114, 3) := by decide +kernel
theorem dX7_readAll_114 : decode cX7_readAll 114 = .ok (.goto 8, 3) := by decide +kernel
theorem dX7_readAll_117 : decode cX7_readAll 117 = .ok (.aload_n 0, 1) := by decide +kernel
theorem dX7_readAll_118 : decode cX7_readAll 118 = .ok (.iconst 1, 1) := by decide +kernel
theorem dX7_readAll_119 : decode cX7_readAll 119 = .ok (.invokevirtual 117, 3) := by decide +kernel
theorem dX7_readAll_122 : decode cX7_readAll 122 = .ok (.aload_n 0, 1) := by decide +kernel
theorem dX7_readAll_123 : decode cX7_readAll 123 = .ok (.bipush 59, 2) := by decide +kernel
theorem dX7_readAll_125 : decode cX7_readAll 125 = .ok (.invokevirtual 104, 3) := by decide +kernel
theorem dX7_readAll_128 : decode cX7_readAll 128 = .ok (.iinc 3 1, 3) := by decide +kernel
theorem dX7_readAll_131 : decode cX7_readAll 131 = .ok (.goto (-90), 3) := by decide +kernel
theorem dX7_readAll_134 : decode cX7_readAll 134 = .ok (.return_, 1) := by decide +kernel
theorem dX7_takeTokens_0 : decode cX7_takeTokens 0 = .ok (.iconst 0, 1) := by decide +kernel
theorem dX7_takeTokens_1 : decode cX7_takeTokens 1 = .ok (.istore_n 3, 1) := by decide +kernel
theorem dX7_takeTokens_2 : decode cX7_takeTokens 2 = .ok (.iconst 0, 1) := by decide +kernel
theorem dX7_takeTokens_3 : decode cX7_takeTokens 3 = .ok (.istore 4, 2) := by decide +kernel
theorem dX7_takeTokens_5 : decode cX7_takeTokens 5 = .ok (.iload 4, 2) := by decide +kernel
theorem dX7_takeTokens_7 : decode cX7_takeTokens 7 = .ok (.sipush 300, 3) := by decide +kernel
theorem dX7_takeTokens_10 : decode cX7_takeTokens 10 = .ok (.if_icmp .ge 101, 3) := by decide +kernel
theorem dX7_takeTokens_13 : decode cX7_takeTokens 13 = .ok (.iload_n 3, 1) := by decide +kernel
theorem dX7_takeTokens_14 : decode cX7_takeTokens 14 = .ok (.iload_n 2, 1) := by decide +kernel
theorem dX7_takeTokens_15 : decode cX7_takeTokens 15 = .ok (.if_icmp .ge 96, 3) := by decide +kernel
theorem dX7_takeTokens_18 : decode cX7_takeTokens 18 = .ok (.aload_n 1, 1) := by decide +kernel
theorem dX7_takeTokens_19 : decode cX7_takeTokens 19 = .ok (.iload_n 3, 1) := by decide +kernel
theorem dX7_takeTokens_20 : decode cX7_takeTokens 20 = .ok (.baload, 1) := by decide +kernel
theorem dX7_takeTokens_21 : decode cX7_takeTokens 21 = .ok (.istore 5, 2) := by decide +kernel
theorem dX7_takeTokens_23 : decode cX7_takeTokens 23 = .ok (.iload 5, 2) := by decide +kernel
theorem dX7_takeTokens_25 : decode cX7_takeTokens 25 = .ok (.invokestatic 121, 3) := by decide +kernel
theorem dX7_takeTokens_28 : decode cX7_takeTokens 28 = .ok (.ifCond .eq 14, 3) := by decide +kernel
theorem dX7_takeTokens_31 : decode cX7_takeTokens 31 = .ok (.aload_n 0, 1) := by decide +kernel
theorem dX7_takeTokens_32 : decode cX7_takeTokens 32 = .ok (.aload_n 1, 1) := by decide +kernel
theorem dX7_takeTokens_33 : decode cX7_takeTokens 33 = .ok (.iload_n 3, 1) := by decide +kernel
theorem dX7_takeTokens_34 : decode cX7_takeTokens 34 = .ok (.iload_n 2, 1) := by decide +kernel
theorem dX7_takeTokens_35 : decode cX7_takeTokens 35 = .ok (.invokevirtual 125, 3) := by decide +kernel
theorem dX7_takeTokens_38 : decode cX7_takeTokens 38 = .ok (.istore_n 3, 1) := by decide +kernel
theorem dX7_takeTokens_39 : decode cX7_takeTokens 39 = .ok (.goto 66, 3) := by decide +kernel
theorem dX7_takeTokens_42 : decode cX7_takeTokens 42 = .ok (.iload 5, 2) := by decide +kernel
theorem dX7_takeTokens_44 : decode cX7_takeTokens 44 = .ok (.invokestatic 129, 3) := by decide +kernel
theorem dX7_takeTokens_47 : decode cX7_takeTokens 47 = .ok (.ifCond .eq 14, 3) := by decide +kernel
theorem dX7_takeTokens_50 : decode cX7_takeTokens 50 = .ok (.aload_n 0, 1) := by decide +kernel
theorem dX7_takeTokens_51 : decode cX7_takeTokens 51 = .ok (.aload_n 1, 1) := by decide +kernel
theorem dX7_takeTokens_52 : decode cX7_takeTokens 52 = .ok (.iload_n 3, 1) := by decide +kernel
theorem dX7_takeTokens_53 : decode cX7_takeTokens 53 = .ok (.iload_n 2, 1) := by decide +kernel
theorem dX7_takeTokens_54 : decode cX7_takeTokens 54 = .ok (.invokevirtual 132, 3) := by decide +kernel
theorem dX7_takeTokens_57 : decode cX7_takeTokens 57 = .ok (.istore_n 3, 1) := by decide +kernel
theorem dX7_takeTokens_58 : decode cX7_takeTokens 58 = .ok (.goto 47, 3) := by decide +kernel
theorem dX7_takeTokens_61 : decode cX7_takeTokens 61 = .ok (.iload 5, 2) := by decide +kernel
theorem dX7_takeTokens_63 : decode cX7_takeTokens 63 = .ok (.bipush 32, 2) := by decide +kernel
theorem dX7_takeTokens_65 : decode cX7_takeTokens 65 = .ok (.if_icmp .eq 37, 3) := by decide +kernel
theorem dX7_takeTokens_68 : decode cX7_takeTokens 68 = .ok (.iload 5, 2) := by decide +kernel
theorem dX7_takeTokens_70 : decode cX7_takeTokens 70 = .ok (.bipush 10, 2) := by decide +kernel
theorem dX7_takeTokens_72 : decode cX7_takeTokens 72 = .ok (.if_icmp .eq 30, 3) := by decide +kernel
theorem dX7_takeTokens_75 : decode cX7_takeTokens 75 = .ok (.aload_n 0, 1) := by decide +kernel
theorem dX7_takeTokens_76 : decode cX7_takeTokens 76 = .ok (.ldc 135, 2) := by decide +kernel
theorem dX7_takeTokens_78 : decode cX7_takeTokens 78 = .ok (.iload 5, 2) := by decide +kernel
theorem dX7_takeTokens_80 : decode cX7_takeTokens 80 = .ok (.sipush 255, 3) := by decide +kernel
theorem dX7_takeTokens_83 : decode cX7_takeTokens 83 = .ok (.iand, 1) := by decide +kernel
theorem dX7_takeTokens_84 : decode cX7_takeTokens 84 = .ok (.i2c, 1) := by decide +kernel
theorem dX7_takeTokens_85 : decode cX7_takeTokens 85 = .ok (.invokevirtual 137, 3) := by decide +kernel
theorem dX7_takeTokens_88 : decode cX7_takeTokens 88 = .ok (.ifCond .lt 7, 3) := by decide +kernel
theorem dX7_takeTokens_91 : decode cX7_takeTokens 91 = .ok (.iconst 5, 1) := by decide +kernel
theorem dX7_takeTokens_92 : decode cX7_takeTokens 92 = .ok (.goto 4, 3) := by decide +kernel
theorem dX7_takeTokens_95 : decode cX7_takeTokens 95 = .ok (.iconst 1, 1) := by decide +kernel
theorem dX7_takeTokens_96 : decode cX7_takeTokens 96 = .ok (.iload 5, 2) := by decide +kernel
theorem dX7_takeTokens_98 : decode cX7_takeTokens 98 = .ok (.iload_n 3, 1) := by decide +kernel
theorem dX7_takeTokens_99 : decode cX7_takeTokens 99 = .ok (.invokevirtual 143, 3) := by decide +kernel
theorem dX7_takeTokens_102 : decode cX7_takeTokens 102 = .ok (.iinc 3 1, 3) := by decide +kernel
theorem dX7_takeTokens_105 : decode cX7_takeTokens 105 = .ok (.iinc 4 1, 3) := by decide +kernel
theorem dX7_takeTokens_108 : decode cX7_takeTokens 108 = .ok (.goto (-103), 3) := by decide +kernel
theorem dX7_takeTokens_111 : decode cX7_takeTokens 111 = .ok (.aload_n 0, 1) := by decide +kernel
theorem dX7_takeTokens_112 : decode cX7_takeTokens 112 = .ok (.iconst 0, 1) := by decide +kernel
theorem dX7_takeTokens_113 : decode cX7_takeTokens 113 = .ok (.iconst 0, 1) := by decide +kernel
theorem dX7_takeTokens_114 : decode cX7_takeTokens 114 = .ok (.iload_n 2, 1) := by decide +kernel
theorem dX7_takeTokens_115 : decode cX7_takeTokens 115 = .ok (.invokevirtual 143, 3) := by decide +kernel
theorem dX7_takeTokens_118 : decode cX7_takeTokens 118 = .ok (.return_, 1) := by decide +kernel
theorem dX7_addToken_0 : decode cX7_addToken 0 = .ok (.aload_n 0, 1) := by decide +kernel
theorem dX7_addToken_1 : decode cX7_addToken 1 = .ok (.getfield 28, 3) := by decide +kernel
theorem dX7_addToken_4 : decode cX7_addToken 4 = .ok (.aload_n 0, 1) := by decide +kernel
theorem dX7_addToken_5 : decode cX7_addToken 5 = .ok (.getfield 9, 3) := by decide +kernel
theorem dX7_addToken_8 : decode cX7_addToken 8 = .ok (.arraylength, 1) := by decide +kernel
theorem dX7_addToken_9 : decode cX7_addToken 9 = .ok (.if_icmp .ge 43, 3) := by decide +kernel
theorem dX7_addToken_12 : decode cX7_addToken 12 = .ok (.aload_n 0, 1) := by decide +kernel
theorem dX7_addToken_13 : decode cX7_addToken 13 = .ok (.getfield 9, 3) := by decide +kernel
theorem dX7_addToken_16 : decode cX7_addToken 16 = .ok (.aload_n 0, 1) := by decide +kernel
theorem dX7_addToken_17 : decode cX7_addToken 17 = .ok (.getfield 28, 3) := by decide +kernel
theorem dX7_addToken_20 : decode cX7_addToken 20 = .ok (.iload_n 1, 1) := by decide +kernel
theorem dX7_addToken_21 : decode cX7_addToken 21 = .ok (.iastore, 1) := by decide +kernel
theorem dX7_addToken_22 : decode cX7_addToken 22 = .ok (.aload_n 0, 1) := by decide +kernel
theorem dX7_addToken_23 : decode cX7_addToken 23 = .ok (.getfield 15, 3) := by decide +kernel
theorem dX7_addToken_26 : decode cX7_addToken 26 = .ok (.aload_n 0, 1) := by decide +kernel
theorem dX7_addToken_27 : decode cX7_addToken 27 = .ok (.getfield 28, 3) := by decide +kernel
theorem dX7_addToken_30 : decode cX7_addToken 30 = .ok (.iload_n 2, 1) := by decide +kernel
theorem dX7_addToken_31 : decode cX7_addToken 31 = .ok (.iastore, 1) := by decide +kernel
theorem dX7_addToken_32 : decode cX7_addToken 32 = .ok (.aload_n 0, 1) := by decide +kernel
theorem dX7_addToken_33 : decode cX7_addToken 33 = .ok (.getfield 18, 3) := by decide +kernel
theorem dX7_addToken_36 : decode cX7_addToken 36 = .ok (.aload_n 0, 1) := by decide +kernel
theorem dX7_addToken_37 : decode cX7_addToken 37 = .ok (.getfield 28, 3) := by decide +kernel
theorem dX7_addToken_40 : decode cX7_addToken 40 = .ok (.iload_n 3, 1) := by decide +kernel
theorem dX7_addToken_41 : decode cX7_addToken 41 = .ok (.iastore, 1) := by decide +kernel
theorem dX7_addToken_42 : decode cX7_addToken 42 = .ok (.aload_n 0, 1) := by decide +kernel
theorem dX7_addToken_43 : decode cX7_addToken 43 = .ok (.dup, 1) := by decide +kernel
theorem dX7_addToken_44 : decode cX7_addToken 44 = .ok (.getfield 28, 3) := by decide +kernel
theorem dX7_addToken_47 : decode cX7_addToken 47 = .ok (.iconst 1, 1) := by decide +kernel
theorem dX7_addToken_48 : decode cX7_addToken 48 = .ok (.iadd, 1) := by decide +kernel
theorem dX7_addToken_49 : decode cX7_addToken 49 = .ok (.putfield 28, 3) := by decide +kernel
theorem dX7_addToken_52 : decode cX7_addToken 52 = .ok (.return_, 1) := by decide +kernel
theorem dX7_isSmall_0 : decode cX7_isSmall 0 = .ok (.iload_n 0, 1) := by decide +kernel
theorem dX7_isSmall_1 : decode cX7_isSmall 1 = .ok (.bipush 97, 2) := by decide +kernel
theorem dX7_isSmall_3 : decode cX7_isSmall 3 = .ok (.if_icmp .lt 13, 3) := by decide +kernel
theorem dX7_isSmall_6 : decode cX7_isSmall 6 = .ok (.iload_n 0, 1) := by decide +kernel
theorem dX7_isSmall_7 : decode cX7_isSmall 7 = .ok (.bipush 122, 2) := by decide +kernel
theorem dX7_isSmall_9 : decode cX7_isSmall 9 = .ok (.if_icmp .gt 7, 3) := by decide +kernel
theorem dX7_isSmall_12 : decode cX7_isSmall 12 = .ok (.iconst 1, 1) := by decide +kernel
theorem dX7_isSmall_13 : decode cX7_isSmall 13 = .ok (.goto 4, 3) := by decide +kernel
theorem dX7_isSmall_16 : decode cX7_isSmall 16 = .ok (.iconst 0, 1) := by decide +kernel
theorem dX7_isSmall_17 : decode cX7_isSmall 17 = .ok (.ireturn, 1) := by decide +kernel
theorem dX7_isDigit_0 : decode cX7_isDigit 0 = .ok (.iload_n 0, 1) := by decide +kernel
theorem dX7_isDigit_1 : decode cX7_isDigit 1 = .ok (.bipush 48, 2) := by decide +kernel
theorem dX7_isDigit_3 : decode cX7_isDigit 3 = .ok (.if_icmp .lt 13, 3) := by decide +kernel
theorem dX7_isDigit_6 : decode cX7_isDigit 6 = .ok (.iload_n 0, 1) := by decide +kernel
theorem dX7_isDigit_7 : decode cX7_isDigit 7 = .ok (.bipush 57, 2) := by decide +kernel
theorem dX7_isDigit_9 : decode cX7_isDigit 9 = .ok (.if_icmp .gt 7, 3) := by decide +kernel
theorem dX7_isDigit_12 : decode cX7_isDigit 12 = .ok (.iconst 1, 1) := by decide +kernel
theorem dX7_isDigit_13 : decode cX7_isDigit 13 = .ok (.goto 4, 3) := by decide +kernel
theorem dX7_isDigit_16 : decode cX7_isDigit 16 = .ok (.iconst 0, 1) := by decide +kernel
theorem dX7_isDigit_17 : decode cX7_isDigit 17 = .ok (.ireturn, 1) := by decide +kernel
theorem dX7_takeNumber_0 : decode cX7_takeNumber 0 = .ok (.iconst 0, 1) := by decide +kernel
theorem dX7_takeNumber_1 : decode cX7_takeNumber 1 = .ok (.istore 4, 2) := by decide +kernel
theorem dX7_takeNumber_3 : decode cX7_takeNumber 3 = .ok (.iload_n 2, 1) := by decide +kernel
theorem dX7_takeNumber_4 : decode cX7_takeNumber 4 = .ok (.istore 5, 2) := by decide +kernel
theorem dX7_takeNumber_6 : decode cX7_takeNumber 6 = .ok (.iload 5, 2) := by decide +kernel
theorem dX7_takeNumber_8 : decode cX7_takeNumber 8 = .ok (.iload_n 3, 1) := by decide +kernel
theorem dX7_takeNumber_9 : decode cX7_takeNumber 9 = .ok (.if_icmp .ge 40, 3) := by decide +kernel
theorem dX7_takeNumber_12 : decode cX7_takeNumber 12 = .ok (.aload_n 1, 1) := by decide +kernel
theorem dX7_takeNumber_13 : decode cX7_takeNumber 13 = .ok (.iload 5, 2) := by decide +kernel
theorem dX7_takeNumber_15 : decode cX7_takeNumber 15 = .ok (.baload, 1) := by decide +kernel
theorem dX7_takeNumber_16 : decode cX7_takeNumber 16 = .ok (.invokestatic 129, 3) := by decide +kernel
theorem dX7_takeNumber_19 : decode cX7_takeNumber 19 = .ok (.ifCond .eq 30, 3) := by decide +kernel
theorem dX7_takeNumber_22 : decode cX7_takeNumber 22 = .ok (.sipush 1000, 3) := by decide +kernel
theorem dX7_takeNumber_25 : decode cX7_takeNumber 25 = .ok (.iload 4, 2) := by decide +kernel
theorem dX7_takeNumber_27 : decode cX7_takeNumber 27 = .ok (.bipush 10, 2) := by decide +kernel
theorem dX7_takeNumber_29 : decode cX7_takeNumber 29 = .ok (.imul, 1) := by decide +kernel
theorem dX7_takeNumber_30 : decode cX7_takeNumber 30 = .ok (.aload_n 1, 1) := by decide +kernel
theorem dX7_takeNumber_31 : decode cX7_takeNumber 31 = .ok (.iload 5, 2) := by decide +kernel
theorem dX7_takeNumber_33 : decode cX7_takeNumber 33 = .ok (.baload, 1) := by decide +kernel
theorem dX7_takeNumber_34 : decode cX7_takeNumber 34 = .ok (.iadd, 1) := by decide +kernel
theorem dX7_takeNumber_35 : decode cX7_takeNumber 35 = .ok (.bipush 48, 2) := by decide +kernel
theorem dX7_takeNumber_37 : decode cX7_takeNumber 37 = .ok (.isub, 1) := by decide +kernel
theorem dX7_takeNumber_38 : decode cX7_takeNumber 38 = .ok (.invokestatic 94, 3) := by decide +kernel
theorem dX7_takeNumber_41 : decode cX7_takeNumber 41 = .ok (.istore 4, 2) := by decide +kernel
theorem dX7_takeNumber_43 : decode cX7_takeNumber 43 = .ok (.iinc 5 1, 3) := by decide +kernel
theorem dX7_takeNumber_46 : decode cX7_takeNumber 46 = .ok (.goto (-40), 3) := by decide +kernel
theorem dX7_takeNumber_49 : decode cX7_takeNumber 49 = .ok (.aload_n 0, 1) := by decide +kernel
theorem dX7_takeNumber_50 : decode cX7_takeNumber 50 = .ok (.iconst 4, 1) := by decide +kernel
theorem dX7_takeNumber_51 : decode cX7_takeNumber 51 = .ok (.iload 4, 2) := by decide +kernel
theorem dX7_takeNumber_53 : decode cX7_takeNumber 53 = .ok (.iload_n 2, 1) := by decide +kernel
theorem dX7_takeNumber_54 : decode cX7_takeNumber 54 = .ok (.invokevirtual 143, 3) := by decide +kernel
theorem dX7_takeNumber_57 : decode cX7_takeNumber 57 = .ok (.iload 5, 2) := by decide +kernel
theorem dX7_takeNumber_59 : decode cX7_takeNumber 59 = .ok (.ireturn, 1) := by decide +kernel
theorem dX7_takeWord_0 : decode cX7_takeWord 0 = .ok (.iload_n 2, 1) := by decide +kernel
theorem dX7_takeWord_1 : decode cX7_takeWord 1 = .ok (.istore 4, 2) := by decide +kernel
theorem dX7_takeWord_3 : decode cX7_takeWord 3 = .ok (.iload 4, 2) := by decide +kernel
theorem dX7_takeWord_5 : decode cX7_takeWord 5 = .ok (.iload_n 3, 1) := by decide +kernel
theorem dX7_takeWord_6 : decode cX7_takeWord 6 = .ok (.if_icmp .ge 19, 3) := by decide +kernel
theorem dX7_takeWord_9 : decode cX7_takeWord 9 = .ok (.aload_n 1, 1) := by decide +kernel
theorem dX7_takeWord_10 : decode cX7_takeWord 10 = .ok (.iload 4, 2) := by decide +kernel
theorem dX7_takeWord_12 : decode cX7_takeWord 12 = .ok (.baload, 1) := by decide +kernel
theorem dX7_takeWord_13 : decode cX7_takeWord 13 = .ok (.invokestatic 121, 3) := by decide +kernel
theorem dX7_takeWord_16 : decode cX7_takeWord 16 = .ok (.ifCond .eq 9, 3) := by decide +kernel
theorem dX7_takeWord_19 : decode cX7_takeWord 19 = .ok (.iinc 4 1, 3) := by decide +kernel
theorem dX7_takeWord_22 : decode cX7_takeWord 22 = .ok (.goto (-19), 3) := by decide +kernel
theorem dX7_takeWord_25 : decode cX7_takeWord 25 = .ok (.aload_n 1, 1) := by decide +kernel
theorem dX7_takeWord_26 : decode cX7_takeWord 26 = .ok (.iload_n 2, 1) := by decide +kernel
theorem dX7_takeWord_27 : decode cX7_takeWord 27 = .ok (.baload, 1) := by decide +kernel
theorem dX7_takeWord_28 : decode cX7_takeWord 28 = .ok (.istore 5, 2) := by decide +kernel
theorem dX7_takeWord_30 : decode cX7_takeWord 30 = .ok (.iload 4, 2) := by decide +kernel
theorem dX7_takeWord_32 : decode cX7_takeWord 32 = .ok (.iload_n 2, 1) := by decide +kernel
theorem dX7_takeWord_33 : decode cX7_takeWord 33 = .ok (.isub, 1) := by decide +kernel
theorem dX7_takeWord_34 : decode cX7_takeWord 34 = .ok (.iconst 1, 1) := by decide +kernel
theorem dX7_takeWord_35 : decode cX7_takeWord 35 = .ok (.if_icmp .le 19, 3) := by decide +kernel
theorem dX7_takeWord_38 : decode cX7_takeWord 38 = .ok (.aload_n 0, 1) := by decide +kernel
theorem dX7_takeWord_39 : decode cX7_takeWord 39 = .ok (.aload_n 1, 1) := by decide +kernel
theorem dX7_takeWord_40 : decode cX7_takeWord 40 = .ok (.iload_n 2, 1) := by decide +kernel
theorem dX7_takeWord_41 : decode cX7_takeWord 41 = .ok (.iload 4, 2) := by decide +kernel
theorem dX7_takeWord_43 : decode cX7_takeWord 43 = .ok (.invokestatic 147, 3) := by decide +kernel
theorem dX7_takeWord_46 : decode cX7_takeWord 46 = .ok (.iconst 0, 1) := by decide +kernel
theorem dX7_takeWord_47 : decode cX7_takeWord 47 = .ok (.iload_n 2, 1) := by decide +kernel
theorem dX7_takeWord_48 : decode cX7_takeWord 48 = .ok (.invokevirtual 143, 3) := by decide +kernel
theorem dX7_takeWord_51 : decode cX7_takeWord 51 = .ok (.goto 53, 3) := by decide +kernel
theorem dX7_takeWord_54 : decode cX7_takeWord 54 = .ok (.iload 5, 2) := by decide +kernel
theorem dX7_takeWord_56 : decode cX7_takeWord 56 = .ok (.bipush 103, 2) := by decide +kernel
theorem dX7_takeWord_58 : decode cX7_takeWord 58 = .ok (.if_icmp .ge 17, 3) := by decide +kernel
theorem dX7_takeWord_61 : decode cX7_takeWord 61 = .ok (.aload_n 0, 1) := by decide +kernel
theorem dX7_takeWord_62 : decode cX7_takeWord 62 = .ok (.iconst 2, 1) := by decide +kernel
theorem dX7_takeWord_63 : decode cX7_takeWord 63 = .ok (.iload 5, 2) := by decide +kernel
theorem dX7_takeWord_65 : decode cX7_takeWord 65 = .ok (.bipush 97, 2) := by decide +kernel
theorem dX7_takeWord_67 : decode cX7_takeWord 67 = .ok (.isub, 1) := by decide +kernel
theorem dX7_takeWord_68 : decode cX7_takeWord 68 = .ok (.iload_n 2, 1) := by decide +kernel
theorem dX7_takeWord_69 : decode cX7_takeWord 69 = .ok (.invokevirtual 143, 3) := by decide +kernel
theorem dX7_takeWord_72 : decode cX7_takeWord 72 = .ok (.goto 32, 3) := by decide +kernel
theorem dX7_takeWord_75 : decode cX7_takeWord 75 = .ok (.aload_n 0, 1) := by decide +kernel
theorem dX7_takeWord_76 : decode cX7_takeWord 76 = .ok (.iload 5, 2) := by decide +kernel
theorem dX7_takeWord_78 : decode cX7_takeWord 78 = .ok (.bipush 120, 2) := by decide +kernel
theorem dX7_takeWord_80 : decode cX7_takeWord 80 = .ok (.if_icmp .eq 10, 3) := by decide +kernel
theorem dX7_takeWord_83 : decode cX7_takeWord 83 = .ok (.iload 5, 2) := by decide +kernel
theorem dX7_takeWord_85 : decode cX7_takeWord 85 = .ok (.bipush 121, 2) := by decide +kernel
theorem dX7_takeWord_87 : decode cX7_takeWord 87 = .ok (.if_icmp .ne 7, 3) := by decide +kernel
theorem dX7_takeWord_90 : decode cX7_takeWord 90 = .ok (.iconst 3, 1) := by decide +kernel
theorem dX7_takeWord_91 : decode cX7_takeWord 91 = .ok (.goto 4, 3) := by decide +kernel
theorem dX7_takeWord_94 : decode cX7_takeWord 94 = .ok (.iconst 1, 1) := by decide +kernel
theorem dX7_takeWord_95 : decode cX7_takeWord 95 = .ok (.iload 5, 2) := by decide +kernel
theorem dX7_takeWord_97 : decode cX7_takeWord 97 = .ok (.bipush 120, 2) := by decide +kernel
theorem dX7_takeWord_99 : decode cX7_takeWord 99 = .ok (.isub, 1) := by decide +kernel
theorem dX7_takeWord_100 : decode cX7_takeWord 100 = .ok (.iload_n 2, 1) := by decide +kernel
theorem dX7_takeWord_101 : decode cX7_takeWord 101 = .ok (.invokevirtual 143, 3) := by decide +kernel
theorem dX7_takeWord_104 : decode cX7_takeWord 104 = .ok (.iload 4, 2) := by decide +kernel
theorem dX7_takeWord_106 : decode cX7_takeWord 106 = .ok (.ireturn, 1) := by decide +kernel
theorem dX7_kindOfWord_0 : decode cX7_kindOfWord 0 = .ok (.ldc 150, 2) := by decide +kernel
theorem dX7_kindOfWord_2 : decode cX7_kindOfWord 2 = .ok (.aload_n 0, 1) := by decide +kernel
theorem dX7_kindOfWord_3 : decode cX7_kindOfWord 3 = .ok (.iload_n 1, 1) := by decide +kernel
theorem dX7_kindOfWord_4 : decode cX7_kindOfWord 4 = .ok (.iload_n 2, 1) := by decide +kernel
theorem dX7_kindOfWord_5 : decode cX7_kindOfWord 5 = .ok (.invokestatic 151, 3) := by decide +kernel
theorem dX7_kindOfWord_8 : decode cX7_kindOfWord 8 = .ok (.ifCond .eq 6, 3) := by decide +kernel
theorem dX7_kindOfWord_11 : decode cX7_kindOfWord 11 = .ok (.bipush 6, 2) := by decide +kernel
theorem dX7_kindOfWord_13 : decode cX7_kindOfWord 13 = .ok (.ireturn, 1) := by decide +kernel
theorem dX7_kindOfWord_14 : decode cX7_kindOfWord 14 = .ok (.ldc 155, 2) := by decide +kernel
theorem dX7_kindOfWord_16 : decode cX7_kindOfWord 16 = .ok (.aload_n 0, 1) := by decide +kernel
theorem dX7_kindOfWord_17 : decode cX7_kindOfWord 17 = .ok (.iload_n 1, 1) := by decide +kernel
theorem dX7_kindOfWord_18 : decode cX7_kindOfWord 18 = .ok (.iload_n 2, 1) := by decide +kernel
theorem dX7_kindOfWord_19 : decode cX7_kindOfWord 19 = .ok (.invokestatic 151, 3) := by decide +kernel
theorem dX7_kindOfWord_22 : decode cX7_kindOfWord 22 = .ok (.ifCond .eq 6, 3) := by decide +kernel
theorem dX7_kindOfWord_25 : decode cX7_kindOfWord 25 = .ok (.bipush 7, 2) := by decide +kernel
theorem dX7_kindOfWord_27 : decode cX7_kindOfWord 27 = .ok (.ireturn, 1) := by decide +kernel
theorem dX7_kindOfWord_28 : decode cX7_kindOfWord 28 = .ok (.ldc 156, 2) := by decide +kernel
theorem dX7_kindOfWord_30 : decode cX7_kindOfWord 30 = .ok (.aload_n 0, 1) := by decide +kernel
theorem dX7_kindOfWord_31 : decode cX7_kindOfWord 31 = .ok (.iload_n 1, 1) := by decide +kernel
theorem dX7_kindOfWord_32 : decode cX7_kindOfWord 32 = .ok (.iload_n 2, 1) := by decide +kernel
theorem dX7_kindOfWord_33 : decode cX7_kindOfWord 33 = .ok (.invokestatic 151, 3) := by decide +kernel
theorem dX7_kindOfWord_36 : decode cX7_kindOfWord 36 = .ok (.ifCond .eq 6, 3) := by decide +kernel
theorem dX7_kindOfWord_39 : decode cX7_kindOfWord 39 = .ok (.bipush 8, 2) := by decide +kernel
theorem dX7_kindOfWord_41 : decode cX7_kindOfWord 41 = .ok (.ireturn, 1) := by decide +kernel
theorem dX7_kindOfWord_42 : decode cX7_kindOfWord 42 = .ok (.ldc 158, 2) := by decide +kernel
theorem dX7_kindOfWord_44 : decode cX7_kindOfWord 44 = .ok (.aload_n 0, 1) := by decide +kernel
theorem dX7_kindOfWord_45 : decode cX7_kindOfWord 45 = .ok (.iload_n 1, 1) := by decide +kernel
theorem dX7_kindOfWord_46 : decode cX7_kindOfWord 46 = .ok (.iload_n 2, 1) := by decide +kernel
theorem dX7_kindOfWord_47 : decode cX7_kindOfWord 47 = .ok (.invokestatic 151, 3) := by decide +kernel
theorem dX7_kindOfWord_50 : decode cX7_kindOfWord 50 = .ok (.ifCond .eq 8, 3) := by decide +kernel
theorem dX7_kindOfWord_53 : decode cX7_kindOfWord 53 = .ok (.bipush 9, 2) := by decide +kernel
theorem dX7_kindOfWord_55 : decode cX7_kindOfWord 55 = .ok (.goto 4, 3) := by decide +kernel
theorem dX7_kindOfWord_58 : decode cX7_kindOfWord 58 = .ok (.iconst 1, 1) := by decide +kernel
theorem dX7_kindOfWord_59 : decode cX7_kindOfWord 59 = .ok (.ireturn, 1) := by decide +kernel
theorem dX7_isWord_0 : decode cX7_isWord 0 = .ok (.aload_n 0, 1) := by decide +kernel
theorem dX7_isWord_1 : decode cX7_isWord 1 = .ok (.invokevirtual 160, 3) := by decide +kernel
theorem dX7_isWord_4 : decode cX7_isWord 4 = .ok (.iload_n 3, 1) := by decide +kernel
theorem dX7_isWord_5 : decode cX7_isWord 5 = .ok (.iload_n 2, 1) := by decide +kernel
theorem dX7_isWord_6 : decode cX7_isWord 6 = .ok (.isub, 1) := by decide +kernel
theorem dX7_isWord_7 : decode cX7_isWord 7 = .ok (.if_icmp .ne 9, 3) := by decide +kernel
theorem dX7_isWord_10 : decode cX7_isWord 10 = .ok (.iload_n 3, 1) := by decide +kernel
theorem dX7_isWord_11 : decode cX7_isWord 11 = .ok (.aload_n 1, 1) := by decide +kernel
theorem dX7_isWord_12 : decode cX7_isWord 12 = .ok (.arraylength, 1) := by decide +kernel
theorem dX7_isWord_13 : decode cX7_isWord 13 = .ok (.if_icmp .le 5, 3) := by decide +kernel
theorem dX7_isWord_16 : decode cX7_isWord 16 = .ok (.iconst 0, 1) := by decide +kernel
theorem dX7_isWord_17 : decode cX7_isWord 17 = .ok (.ireturn, 1) := by decide +kernel
theorem dX7_isWord_18 : decode cX7_isWord 18 = .ok (.iconst 0, 1) := by decide +kernel
theorem dX7_isWord_19 : decode cX7_isWord 19 = .ok (.istore 4, 2) := by decide +kernel
theorem dX7_isWord_21 : decode cX7_isWord 21 = .ok (.iload 4, 2) := by decide +kernel
theorem dX7_isWord_23 : decode cX7_isWord 23 = .ok (.aload_n 0, 1) := by decide +kernel
theorem dX7_isWord_24 : decode cX7_isWord 24 = .ok (.invokevirtual 160, 3) := by decide +kernel
theorem dX7_isWord_27 : decode cX7_isWord 27 = .ok (.if_icmp .ge 26, 3) := by decide +kernel
theorem dX7_isWord_30 : decode cX7_isWord 30 = .ok (.aload_n 1, 1) := by decide +kernel
theorem dX7_isWord_31 : decode cX7_isWord 31 = .ok (.iload_n 2, 1) := by decide +kernel
theorem dX7_isWord_32 : decode cX7_isWord 32 = .ok (.iload 4, 2) := by decide +kernel
theorem dX7_isWord_34 : decode cX7_isWord 34 = .ok (.iadd, 1) := by decide +kernel
theorem dX7_isWord_35 : decode cX7_isWord 35 = .ok (.baload, 1) := by decide +kernel
theorem dX7_isWord_36 : decode cX7_isWord 36 = .ok (.aload_n 0, 1) := by decide +kernel
theorem dX7_isWord_37 : decode cX7_isWord 37 = .ok (.iload 4, 2) := by decide +kernel
theorem dX7_isWord_39 : decode cX7_isWord 39 = .ok (.invokevirtual 164, 3) := by decide +kernel
theorem dX7_isWord_42 : decode cX7_isWord 42 = .ok (.if_icmp .eq 5, 3) := by decide +kernel
theorem dX7_isWord_45 : decode cX7_isWord 45 = .ok (.iconst 0, 1) := by decide +kernel
theorem dX7_isWord_46 : decode cX7_isWord 46 = .ok (.ireturn, 1) := by decide +kernel
theorem dX7_isWord_47 : decode cX7_isWord 47 = .ok (.iinc 4 1, 3) := by decide +kernel
theorem dX7_isWord_50 : decode cX7_isWord 50 = .ok (.goto (-29), 3) := by decide +kernel
theorem dX7_isWord_53 : decode cX7_isWord 53 = .ok (.iconst 1, 1) := by decide +kernel
theorem dX7_isWord_54 : decode cX7_isWord 54 = .ok (.ireturn, 1) := by decide +kernel
theorem dX7_goOn_0 : decode cX7_goOn 0 = .ok (.aload_n 0, 1) := by decide +kernel
theorem dX7_goOn_1 : decode cX7_goOn 1 = .ok (.getfield 32, 3) := by decide +kernel
theorem dX7_goOn_4 : decode cX7_goOn 4 = .ok (.iconst 1, 1) := by decide +kernel
theorem dX7_goOn_5 : decode cX7_goOn 5 = .ok (.iadd, 1) := by decide +kernel
theorem dX7_goOn_6 : decode cX7_goOn 6 = .ok (.aload_n 0, 1) := by decide +kernel
theorem dX7_goOn_7 : decode cX7_goOn 7 = .ok (.getfield 28, 3) := by decide +kernel
theorem dX7_goOn_10 : decode cX7_goOn 10 = .ok (.if_icmp .ge 13, 3) := by decide +kernel
theorem dX7_goOn_13 : decode cX7_goOn 13 = .ok (.aload_n 0, 1) := by decide +kernel
theorem dX7_goOn_14 : decode cX7_goOn 14 = .ok (.dup, 1) := by decide +kernel
theorem dX7_goOn_15 : decode cX7_goOn 15 = .ok (.getfield 32, 3) := by decide +kernel
theorem dX7_goOn_18 : decode cX7_goOn 18 = .ok (.iconst 1, 1) := by decide +kernel
theorem dX7_goOn_19 : decode cX7_goOn 19 = .ok (.iadd, 1) := by decide +kernel
theorem dX7_goOn_20 : decode cX7_goOn 20 = .ok (.putfield 32, 3) := by decide +kernel
theorem dX7_goOn_23 : decode cX7_goOn 23 = .ok (.return_, 1) := by decide +kernel
theorem dX7_isSign_0 : decode cX7_isSign 0 = .ok (.aload_n 0, 1) := by decide +kernel
theorem dX7_isSign_1 : decode cX7_isSign 1 = .ok (.getfield 9, 3) := by decide +kernel
theorem dX7_isSign_4 : decode cX7_isSign 4 = .ok (.aload_n 0, 1) := by decide +kernel
theorem dX7_isSign_5 : decode cX7_isSign 5 = .ok (.getfield 32, 3) := by decide +kernel
theorem dX7_isSign_8 : decode cX7_isSign 8 = .ok (.iaload, 1) := by decide +kernel
theorem dX7_isSign_9 : decode cX7_isSign 9 = .ok (.iconst 5, 1) := by decide +kernel
theorem dX7_isSign_10 : decode cX7_isSign 10 = .ok (.if_icmp .ne 20, 3) := by decide +kernel
theorem dX7_isSign_13 : decode cX7_isSign 13 = .ok (.aload_n 0, 1) := by decide +kernel
theorem dX7_isSign_14 : decode cX7_isSign 14 = .ok (.getfield 15, 3) := by decide +kernel
theorem dX7_isSign_17 : decode cX7_isSign 17 = .ok (.aload_n 0, 1) := by decide +kernel
theorem dX7_isSign_18 : decode cX7_isSign 18 = .ok (.getfield 32, 3) := by decide +kernel
theorem dX7_isSign_21 : decode cX7_isSign 21 = .ok (.iaload, 1) := by decide +kernel
theorem dX7_isSign_22 : decode cX7_isSign 22 = .ok (.iload_n 1, 1) := by decide +kernel
theorem dX7_isSign_23 : decode cX7_isSign 23 = .ok (.if_icmp .ne 7, 3) := by decide +kernel
theorem dX7_isSign_26 : decode cX7_isSign 26 = .ok (.iconst 1, 1) := by decide +kernel
theorem dX7_isSign_27 : decode cX7_isSign 27 = .ok (.goto 4, 3) := by decide +kernel
theorem dX7_isSign_30 : decode cX7_isSign 30 = .ok (.iconst 0, 1) := by decide +kernel
theorem dX7_isSign_31 : decode cX7_isSign 31 = .ok (.ireturn, 1) := by decide +kernel
theorem dX7_takeSign_0 : decode cX7_takeSign 0 = .ok (.aload_n 0, 1) := by decide +kernel
theorem dX7_takeSign_1 : decode cX7_takeSign 1 = .ok (.iload_n 1, 1) := by decide +kernel
theorem dX7_takeSign_2 : decode cX7_takeSign 2 = .ok (.invokevirtual 168, 3) := by decide +kernel
theorem dX7_takeSign_5 : decode cX7_takeSign 5 = .ok (.ifCond .eq 10, 3) := by decide +kernel
theorem dX7_takeSign_8 : decode cX7_takeSign 8 = .ok (.aload_n 0, 1) := by decide +kernel
theorem dX7_takeSign_9 : decode cX7_takeSign 9 = .ok (.invokevirtual 172, 3) := by decide +kernel
theorem dX7_takeSign_12 : decode cX7_takeSign 12 = .ok (.goto 8, 3) := by decide +kernel
theorem dX7_takeSign_15 : decode cX7_takeSign 15 = .ok (.aload_n 0, 1) := by decide +kernel
theorem dX7_takeSign_16 : decode cX7_takeSign 16 = .ok (.iconst 1, 1) := by decide +kernel
theorem dX7_takeSign_17 : decode cX7_takeSign 17 = .ok (.invokevirtual 117, 3) := by decide +kernel
theorem dX7_takeSign_20 : decode cX7_takeSign 20 = .ok (.return_, 1) := by decide +kernel
theorem dX7_fail_0 : decode cX7_fail 0 = .ok (.aload_n 0, 1) := by decide +kernel
theorem dX7_fail_1 : decode cX7_fail 1 = .ok (.getfield 35, 3) := by decide +kernel
theorem dX7_fail_4 : decode cX7_fail 4 = .ok (.ifCond .ne 21, 3) := by decide +kernel
theorem dX7_fail_7 : decode cX7_fail 7 = .ok (.aload_n 0, 1) := by decide +kernel
theorem dX7_fail_8 : decode cX7_fail 8 = .ok (.iload_n 1, 1) := by decide +kernel
theorem dX7_fail_9 : decode cX7_fail 9 = .ok (.putfield 35, 3) := by decide +kernel
theorem dX7_fail_12 : decode cX7_fail 12 = .ok (.aload_n 0, 1) := by decide +kernel
theorem dX7_fail_13 : decode cX7_fail 13 = .ok (.aload_n 0, 1) := by decide +kernel
theorem dX7_fail_14 : decode cX7_fail 14 = .ok (.getfield 18, 3) := by decide +kernel
theorem dX7_fail_17 : decode cX7_fail 17 = .ok (.aload_n 0, 1) := by decide +kernel
theorem dX7_fail_18 : decode cX7_fail 18 = .ok (.getfield 32, 3) := by decide +kernel
theorem dX7_fail_21 : decode cX7_fail 21 = .ok (.iaload, 1) := by decide +kernel
theorem dX7_fail_22 : decode cX7_fail 22 = .ok (.putfield 38, 3) := by decide +kernel
theorem dX7_fail_25 : decode cX7_fail 25 = .ok (.aload_n 0, 1) := by decide +kernel
theorem dX7_fail_26 : decode cX7_fail 26 = .ok (.getfield 28, 3) := by decide +kernel
theorem dX7_fail_29 : decode cX7_fail 29 = .ok (.ifCond .le 13, 3) := by decide +kernel
theorem dX7_fail_32 : decode cX7_fail 32 = .ok (.aload_n 0, 1) := by decide +kernel
theorem dX7_fail_33 : decode cX7_fail 33 = .ok (.aload_n 0, 1) := by decide +kernel
theorem dX7_fail_34 : decode cX7_fail 34 = .ok (.getfield 28, 3) := by decide +kernel
theorem dX7_fail_37 : decode cX7_fail 37 = .ok (.iconst 1, 1) := by decide +kernel
theorem dX7_fail_38 : decode cX7_fail 38 = .ok (.isub, 1) := by decide +kernel
theorem dX7_fail_39 : decode cX7_fail 39 = .ok (.putfield 32, 3) := by decide +kernel
theorem dX7_fail_42 : decode cX7_fail 42 = .ok (.return_, 1) := by decide +kernel
theorem dX7_readLetters_0 : decode cX7_readLetters 0 = .ok (.aload_n 0, 1) := by decide +kernel
theorem dX7_readLetters_1 : decode cX7_readLetters 1 = .ok (.invokevirtual 172, 3) := by decide +kernel
theorem dX7_readLetters_4 : decode cX7_readLetters 4 = .ok (.aload_n 0, 1) := by decide +kernel
theorem dX7_readLetters_5 : decode cX7_readLetters 5 = .ok (.getfield 15, 3) := by decide +kernel
theorem dX7_readLetters_8 : decode cX7_readLetters 8 = .ok (.aload_n 0, 1) := by decide +kernel
theorem dX7_readLetters_9 : decode cX7_readLetters 9 = .ok (.getfield 32, 3) := by decide +kernel
theorem dX7_readLetters_12 : decode cX7_readLetters 12 = .ok (.iaload, 1) := by decide +kernel
theorem dX7_readLetters_13 : decode cX7_readLetters 13 = .ok (.istore_n 1, 1) := by decide +kernel
theorem dX7_readLetters_14 : decode cX7_readLetters 14 = .ok (.aload_n 0, 1) := by decide +kernel
theorem dX7_readLetters_15 : decode cX7_readLetters 15 = .ok (.getfield 9, 3) := by decide +kernel
theorem dX7_readLetters_18 : decode cX7_readLetters 18 = .ok (.aload_n 0, 1) := by decide +kernel
theorem dX7_readLetters_19 : decode cX7_readLetters 19 = .ok (.getfield 32, 3) := by decide +kernel
theorem dX7_readLetters_22 : decode cX7_readLetters 22 = .ok (.iaload, 1) := by decide +kernel
theorem dX7_readLetters_23 : decode cX7_readLetters 23 = .ok (.iconst 4, 1) := by decide +kernel
theorem dX7_readLetters_24 : decode cX7_readLetters 24 = .ok (.if_icmp .eq 11, 3) := by decide +kernel
theorem dX7_readLetters_27 : decode cX7_readLetters 27 = .ok (.aload_n 0, 1) := by decide +kernel
theorem dX7_readLetters_28 : decode cX7_readLetters 28 = .ok (.iconst 1, 1) := by decide +kernel
theorem dX7_readLetters_29 : decode cX7_readLetters 29 = .ok (.invokevirtual 117, 3) := by decide +kernel
theorem dX7_readLetters_32 : decode cX7_readLetters 32 = .ok (.goto 31, 3) := by decide +kernel
theorem dX7_readLetters_35 : decode cX7_readLetters 35 = .ok (.iload_n 1, 1) := by decide +kernel
theorem dX7_readLetters_36 : decode cX7_readLetters 36 = .ok (.iconst 1, 1) := by decide +kernel
theorem dX7_readLetters_37 : decode cX7_readLetters 37 = .ok (.if_icmp .lt 9, 3) := by decide +kernel
theorem dX7_readLetters_40 : decode cX7_readLetters 40 = .ok (.iload_n 1, 1) := by decide +kernel
theorem dX7_readLetters_41 : decode cX7_readLetters 41 = .ok (.bipush 6, 2) := by decide +kernel
theorem dX7_readLetters_43 : decode cX7_readLetters 43 = .ok (.if_icmp .le 11, 3) := by decide +kernel
theorem dX7_readLetters_46 : decode cX7_readLetters 46 = .ok (.aload_n 0, 1) := by decide +kernel
theorem dX7_readLetters_47 : decode cX7_readLetters 47 = .ok (.iconst 2, 1) := by decide +kernel
theorem dX7_readLetters_48 : decode cX7_readLetters 48 = .ok (.invokevirtual 117, 3) := by decide +kernel
theorem dX7_readLetters_51 : decode cX7_readLetters 51 = .ok (.goto 12, 3) := by decide +kernel
theorem dX7_readLetters_54 : decode cX7_readLetters 54 = .ok (.aload_n 0, 1) := by decide +kernel
theorem dX7_readLetters_55 : decode cX7_readLetters 55 = .ok (.iload_n 1, 1) := by decide +kernel
theorem dX7_readLetters_56 : decode cX7_readLetters 56 = .ok (.putfield 41, 3) := by decide +kernel
theorem dX7_readLetters_59 : decode cX7_readLetters 59 = .ok (.aload_n 0, 1) := by decide +kernel
theorem dX7_readLetters_60 : decode cX7_readLetters 60 = .ok (.invokevirtual 172, 3) := by decide +kernel
theorem dX7_readLetters_63 : decode cX7_readLetters 63 = .ok (.return_, 1) := by decide +kernel
theorem dX7_readInit_0 : decode cX7_readInit 0 = .ok (.aload_n 0, 1) := by decide +kernel
theorem dX7_readInit_1 : decode cX7_readInit 1 = .ok (.getfield 44, 3) := by decide +kernel
theorem dX7_readInit_4 : decode cX7_readInit 4 = .ok (.ifCond .eq 9, 3) := by decide +kernel
theorem dX7_readInit_7 : decode cX7_readInit 7 = .ok (.aload_n 0, 1) := by decide +kernel
theorem dX7_readInit_8 : decode cX7_readInit 8 = .ok (.iconst 4, 1) := by decide +kernel
theorem dX7_readInit_9 : decode cX7_readInit 9 = .ok (.invokevirtual 117, 3) := by decide +kernel
theorem dX7_readInit_12 : decode cX7_readInit 12 = .ok (.return_, 1) := by decide +kernel
theorem dX7_readInit_13 : decode cX7_readInit 13 = .ok (.aload_n 0, 1) := by decide +kernel
theorem dX7_readInit_14 : decode cX7_readInit 14 = .ok (.iconst 1, 1) := by decide +kernel
theorem dX7_readInit_15 : decode cX7_readInit 15 = .ok (.putfield 44, 3) := by decide +kernel
theorem dX7_readInit_18 : decode cX7_readInit 18 = .ok (.aload_n 0, 1) := by decide +kernel
theorem dX7_readInit_19 : decode cX7_readInit 19 = .ok (.invokevirtual 172, 3) := by decide +kernel
theorem dX7_readInit_22 : decode cX7_readInit 22 = .ok (.aload_n 0, 1) := by decide +kernel
theorem dX7_readInit_23 : decode cX7_readInit 23 = .ok (.aload_n 0, 1) := by decide +kernel
theorem dX7_readInit_24 : decode cX7_readInit 24 = .ok (.iconst 0, 1) := by decide +kernel
theorem dX7_readInit_25 : decode cX7_readInit 25 = .ok (.iconst 0, 1) := by decide +kernel
theorem dX7_readInit_26 : decode cX7_readInit 26 = .ok (.invokevirtual 175, 3) := by decide +kernel
theorem dX7_readInit_29 : decode cX7_readInit 29 = .ok (.putfield 48, 3) := by decide +kernel
theorem dX7_readInit_32 : decode cX7_readInit 32 = .ok (.return_, 1) := by decide +kernel
theorem dX7_readBad_0 : decode cX7_readBad 0 = .ok (.aload_n 0, 1) := by decide +kernel
theorem dX7_readBad_1 : decode cX7_readBad 1 = .ok (.getfield 52, 3) := by decide +kernel
theorem dX7_readBad_4 : decode cX7_readBad 4 = .ok (.aload_n 0, 1) := by decide +kernel
theorem dX7_readBad_5 : decode cX7_readBad 5 = .ok (.getfield 21, 3) := by decide +kernel
theorem dX7_readBad_8 : decode cX7_readBad 8 = .ok (.arraylength, 1) := by decide +kernel
theorem dX7_readBad_9 : decode cX7_readBad 9 = .ok (.if_icmp .lt 9, 3) := by decide +kernel
theorem dX7_readBad_12 : decode cX7_readBad 12 = .ok (.aload_n 0, 1) := by decide +kernel
theorem dX7_readBad_13 : decode cX7_readBad 13 = .ok (.iconst 4, 1) := by decide +kernel
theorem dX7_readBad_14 : decode cX7_readBad 14 = .ok (.invokevirtual 117, 3) := by decide +kernel
theorem dX7_readBad_17 : decode cX7_readBad 17 = .ok (.return_, 1) := by decide +kernel
theorem dX7_readBad_18 : decode cX7_readBad 18 = .ok (.aload_n 0, 1) := by decide +kernel
theorem dX7_readBad_19 : decode cX7_readBad 19 = .ok (.invokevirtual 172, 3) := by decide +kernel
theorem dX7_readBad_22 : decode cX7_readBad 22 = .ok (.aload_n 0, 1) := by decide +kernel
theorem dX7_readBad_23 : decode cX7_readBad 23 = .ok (.getfield 21, 3) := by decide +kernel
theorem dX7_readBad_26 : decode cX7_readBad 26 = .ok (.aload_n 0, 1) := by decide +kernel
theorem dX7_readBad_27 : decode cX7_readBad 27 = .ok (.getfield 52, 3) := by decide +kernel
theorem dX7_readBad_30 : decode cX7_readBad 30 = .ok (.aload_n 0, 1) := by decide +kernel
theorem dX7_readBad_31 : decode cX7_readBad 31 = .ok (.iconst 0, 1) := by decide +kernel
theorem dX7_readBad_32 : decode cX7_readBad 32 = .ok (.iconst 0, 1) := by decide +kernel
theorem dX7_readBad_33 : decode cX7_readBad 33 = .ok (.invokevirtual 175, 3) := by decide +kernel
theorem dX7_readBad_36 : decode cX7_readBad 36 = .ok (.lastore, 1) := by decide +kernel
theorem dX7_readBad_37 : decode cX7_readBad 37 = .ok (.aload_n 0, 1) := by decide +kernel
theorem dX7_readBad_38 : decode cX7_readBad 38 = .ok (.dup, 1) := by decide +kernel
theorem dX7_readBad_39 : decode cX7_readBad 39 = .ok (.getfield 52, 3) := by decide +kernel
theorem dX7_readBad_42 : decode cX7_readBad 42 = .ok (.iconst 1, 1) := by decide +kernel
theorem dX7_readBad_43 : decode cX7_readBad 43 = .ok (.iadd, 1) := by decide +kernel
theorem dX7_readBad_44 : decode cX7_readBad 44 = .ok (.putfield 52, 3) := by decide +kernel
theorem dX7_readBad_47 : decode cX7_readBad 47 = .ok (.return_, 1) := by decide +kernel
theorem dX7_readNext_0 : decode cX7_readNext 0 = .ok (.aload_n 0, 1) := by decide +kernel
theorem dX7_readNext_1 : decode cX7_readNext 1 = .ok (.invokevirtual 172, 3) := by decide +kernel
theorem dX7_readNext_4 : decode cX7_readNext 4 = .ok (.aload_n 0, 1) := by decide +kernel
theorem dX7_readNext_5 : decode cX7_readNext 5 = .ok (.getfield 15, 3) := by decide +kernel
theorem dX7_readNext_8 : decode cX7_readNext 8 = .ok (.aload_n 0, 1) := by decide +kernel
theorem dX7_readNext_9 : decode cX7_readNext 9 = .ok (.getfield 32, 3) := by decide +kernel
theorem dX7_readNext_12 : decode cX7_readNext 12 = .ok (.iaload, 1) := by decide +kernel
theorem dX7_readNext_13 : decode cX7_readNext 13 = .ok (.istore_n 1, 1) := by decide +kernel
theorem dX7_readNext_14 : decode cX7_readNext 14 = .ok (.aload_n 0, 1) := by decide +kernel
theorem dX7_readNext_15 : decode cX7_readNext 15 = .ok (.getfield 9, 3) := by decide +kernel
theorem dX7_readNext_18 : decode cX7_readNext 18 = .ok (.aload_n 0, 1) := by decide +kernel
theorem dX7_readNext_19 : decode cX7_readNext 19 = .ok (.getfield 32, 3) := by decide +kernel
theorem dX7_readNext_22 : decode cX7_readNext 22 = .ok (.iaload, 1) := by decide +kernel
theorem dX7_readNext_23 : decode cX7_readNext 23 = .ok (.iconst 2, 1) := by decide +kernel
theorem dX7_readNext_24 : decode cX7_readNext 24 = .ok (.if_icmp .eq 11, 3) := by decide +kernel
theorem dX7_readNext_27 : decode cX7_readNext 27 = .ok (.aload_n 0, 1) := by decide +kernel
theorem dX7_readNext_28 : decode cX7_readNext 28 = .ok (.iconst 1, 1) := by decide +kernel
theorem dX7_readNext_29 : decode cX7_readNext 29 = .ok (.invokevirtual 117, 3) := by decide +kernel
theorem dX7_readNext_32 : decode cX7_readNext 32 = .ok (.goto 61, 3) := by decide +kernel
theorem dX7_readNext_35 : decode cX7_readNext 35 = .ok (.iload_n 1, 1) := by decide +kernel
theorem dX7_readNext_36 : decode cX7_readNext 36 = .ok (.aload_n 0, 1) := by decide +kernel
theorem dX7_readNext_37 : decode cX7_readNext 37 = .ok (.getfield 41, 3) := by decide +kernel
theorem dX7_readNext_40 : decode cX7_readNext 40 = .ok (.if_icmp .lt 11, 3) := by decide +kernel
theorem dX7_readNext_43 : decode cX7_readNext 43 = .ok (.aload_n 0, 1) := by decide +kernel
theorem dX7_readNext_44 : decode cX7_readNext 44 = .ok (.iconst 3, 1) := by decide +kernel
theorem dX7_readNext_45 : decode cX7_readNext 45 = .ok (.invokevirtual 117, 3) := by decide +kernel
theorem dX7_readNext_48 : decode cX7_readNext 48 = .ok (.goto 45, 3) := by decide +kernel
theorem dX7_readNext_51 : decode cX7_readNext 51 = .ok (.aload_n 0, 1) := by decide +kernel
theorem dX7_readNext_52 : decode cX7_readNext 52 = .ok (.getfield 61, 3) := by decide +kernel
theorem dX7_readNext_55 : decode cX7_readNext 55 = .ok (.iload_n 1, 1) := by decide +kernel
theorem dX7_readNext_56 : decode cX7_readNext 56 = .ok (.ishr, 1) := by decide +kernel
theorem dX7_readNext_57 : decode cX7_readNext 57 = .ok (.iconst 1, 1) := by decide +kernel
theorem dX7_readNext_58 : decode cX7_readNext 58 = .ok (.iand, 1) := by decide +kernel
theorem dX7_readNext_59 : decode cX7_readNext 59 = .ok (.ifCond .eq 11, 3) := by decide +kernel
theorem dX7_readNext_62 : decode cX7_readNext 62 = .ok (.aload_n 0, 1) := by decide +kernel
theorem dX7_readNext_63 : decode cX7_readNext 63 = .ok (.iconst 4, 1) := by decide +kernel
theorem dX7_readNext_64 : decode cX7_readNext 64 = .ok (.invokevirtual 117, 3) := by decide +kernel
theorem dX7_readNext_67 : decode cX7_readNext 67 = .ok (.goto 26, 3) := by decide +kernel
theorem dX7_readNext_70 : decode cX7_readNext 70 = .ok (.aload_n 0, 1) := by decide +kernel
theorem dX7_readNext_71 : decode cX7_readNext 71 = .ok (.dup, 1) := by decide +kernel
theorem dX7_readNext_72 : decode cX7_readNext 72 = .ok (.getfield 61, 3) := by decide +kernel
theorem dX7_readNext_75 : decode cX7_readNext 75 = .ok (.iconst 1, 1) := by decide +kernel
theorem dX7_readNext_76 : decode cX7_readNext 76 = .ok (.iload_n 1, 1) := by decide +kernel
theorem dX7_readNext_77 : decode cX7_readNext 77 = .ok (.ishl, 1) := by decide +kernel
theorem dX7_readNext_78 : decode cX7_readNext 78 = .ok (.ior, 1) := by decide +kernel
theorem dX7_readNext_79 : decode cX7_readNext 79 = .ok (.putfield 61, 3) := by decide +kernel
theorem dX7_readNext_82 : decode cX7_readNext 82 = .ok (.aload_n 0, 1) := by decide +kernel
theorem dX7_readNext_83 : decode cX7_readNext 83 = .ok (.invokevirtual 172, 3) := by decide +kernel
theorem dX7_readNext_86 : decode cX7_readNext 86 = .ok (.aload_n 0, 1) := by decide +kernel
theorem dX7_readNext_87 : decode cX7_readNext 87 = .ok (.iload_n 1, 1) := by decide +kernel
theorem dX7_readNext_88 : decode cX7_readNext 88 = .ok (.iconst 4, 1) := by decide +kernel
theorem dX7_readNext_89 : decode cX7_readNext 89 = .ok (.imul, 1) := by decide +kernel
theorem dX7_readNext_90 : decode cX7_readNext 90 = .ok (.invokevirtual 179, 3) := by decide +kernel
theorem dX7_readNext_93 : decode cX7_readNext 93 = .ok (.return_, 1) := by decide +kernel
theorem dX7_readForInputs_0 : decode cX7_readForInputs 0 = .ok (.aload_n 0, 1) := by decide +kernel
theorem dX7_readForInputs_1 : decode cX7_readForInputs 1 = .ok (.getfield 32, 3) := by decide +kernel
theorem dX7_readForInputs_4 : decode cX7_readForInputs 4 = .ok (.istore_n 2, 1) := by decide +kernel
theorem dX7_readForInputs_5 : decode cX7_readForInputs 5 = .ok (.aload_n 0, 1) := by decide +kernel
theorem dX7_readForInputs_6 : decode cX7_readForInputs 6 = .ok (.iconst 0, 1) := by decide +kernel
theorem dX7_readForInputs_7 : decode cX7_readForInputs 7 = .ok (.putfield 67, 3) := by decide +kernel
theorem dX7_readForInputs_10 : decode cX7_readForInputs 10 = .ok (.aload_n 0, 1) := by decide +kernel
theorem dX7_readForInputs_11 : decode cX7_readForInputs 11 = .ok (.getfield 67, 3) := by decide +kernel
theorem dX7_readForInputs_14 : decode cX7_readForInputs 14 = .ok (.iconst 4, 1) := by decide +kernel
theorem dX7_readForInputs_15 : decode cX7_readForInputs 15 = .ok (.if_icmp .ge 59, 3) := by decide +kernel
theorem dX7_readForInputs_18 : decode cX7_readForInputs 18 = .ok (.iload_n 1, 1) := by decide +kernel
theorem dX7_readForInputs_19 : decode cX7_readForInputs 19 = .ok (.aload_n 0, 1) := by decide +kernel
theorem dX7_readForInputs_20 : decode cX7_readForInputs 20 = .ok (.getfield 67, 3) := by decide +kernel
theorem dX7_readForInputs_23 : decode cX7_readForInputs 23 = .ok (.iadd, 1) := by decide +kernel
theorem dX7_readForInputs_24 : decode cX7_readForInputs 24 = .ok (.aload_n 0, 1) := by decide +kernel
theorem dX7_readForInputs_25 : decode cX7_readForInputs 25 = .ok (.getfield 25, 3) := by decide +kernel
theorem dX7_readForInputs_28 : decode cX7_readForInputs 28 = .ok (.arraylength, 1) := by decide +kernel
theorem dX7_readForInputs_29 : decode cX7_readForInputs 29 = .ok (.if_icmp .ge 45, 3) := by decide +kernel
theorem dX7_readForInputs_32 : decode cX7_readForInputs 32 = .ok (.aload_n 0, 1) := by decide +kernel
theorem dX7_readForInputs_33 : decode cX7_readForInputs 33 = .ok (.getfield 35, 3) := by decide +kernel
theorem dX7_readForInputs_36 : decode cX7_readForInputs 36 = .ok (.ifCond .ne 38, 3) := by decide +kernel
theorem dX7_readForInputs_39 : decode cX7_readForInputs 39 = .ok (.aload_n 0, 1) := by decide +kernel
theorem dX7_readForInputs_40 : decode cX7_readForInputs 40 = .ok (.iload_n 2, 1) := by decide +kernel
theorem dX7_readForInputs_41 : decode cX7_readForInputs 41 = .ok (.putfield 32, 3) := by decide +kernel
theorem dX7_readForInputs_44 : decode cX7_readForInputs 44 = .ok (.aload_n 0, 1) := by decide +kernel
theorem dX7_readForInputs_45 : decode cX7_readForInputs 45 = .ok (.getfield 25, 3) := by decide +kernel
theorem dX7_readForInputs_48 : decode cX7_readForInputs 48 = .ok (.iload_n 1, 1) := by decide +kernel
theorem dX7_readForInputs_49 : decode cX7_readForInputs 49 = .ok (.aload_n 0, 1) := by decide +kernel
theorem dX7_readForInputs_50 : decode cX7_readForInputs 50 = .ok (.getfield 67, 3) := by decide +kernel
theorem dX7_readForInputs_53 : decode cX7_readForInputs 53 = .ok (.iadd, 1) := by decide +kernel
theorem dX7_readForInputs_54 : decode cX7_readForInputs 54 = .ok (.aload_n 0, 1) := by decide +kernel
theorem dX7_readForInputs_55 : decode cX7_readForInputs 55 = .ok (.iconst 0, 1) := by decide +kernel
theorem dX7_readForInputs_56 : decode cX7_readForInputs 56 = .ok (.iconst 0, 1) := by decide +kernel
theorem dX7_readForInputs_57 : decode cX7_readForInputs 57 = .ok (.invokevirtual 175, 3) := by decide +kernel
theorem dX7_readForInputs_60 : decode cX7_readForInputs 60 = .ok (.lastore, 1) := by decide +kernel
theorem dX7_readForInputs_61 : decode cX7_readForInputs 61 = .ok (.aload_n 0, 1) := by decide +kernel
theorem dX7_readForInputs_62 : decode cX7_readForInputs 62 = .ok (.dup, 1) := by decide +kernel
theorem dX7_readForInputs_63 : decode cX7_readForInputs 63 = .ok (.getfield 67, 3) := by decide +kernel
theorem dX7_readForInputs_66 : decode cX7_readForInputs 66 = .ok (.iconst 1, 1) := by decide +kernel
theorem dX7_readForInputs_67 : decode cX7_readForInputs 67 = .ok (.iadd, 1) := by decide +kernel
theorem dX7_readForInputs_68 : decode cX7_readForInputs 68 = .ok (.putfield 67, 3) := by decide +kernel
theorem dX7_readForInputs_71 : decode cX7_readForInputs 71 = .ok (.goto (-61), 3) := by decide +kernel
theorem dX7_readForInputs_74 : decode cX7_readForInputs 74 = .ok (.aload_n 0, 1) := by decide +kernel
theorem dX7_readForInputs_75 : decode cX7_readForInputs 75 = .ok (.iconst (-1), 1) := by decide +kernel
theorem dX7_readForInputs_76 : decode cX7_readForInputs 76 = .ok (.putfield 67, 3) := by decide +kernel
theorem dX7_readForInputs_79 : decode cX7_readForInputs 79 = .ok (.return_, 1) := by decide +kernel
theorem dX7_readForm_0 : decode cX7_readForm 0 = .ok (.iload_n 1, 1) := by decide +kernel
theorem dX7_readForm_1 : decode cX7_readForm 1 = .ok (.ldc 182, 2) := by decide +kernel
theorem dX7_readForm_3 : decode cX7_readForm 3 = .ok (.invokevirtual 160, 3) := by decide +kernel
theorem dX7_readForm_6 : decode cX7_readForm 6 = .ok (.if_icmp .lt 9, 3) := by decide +kernel
theorem dX7_readForm_9 : decode cX7_readForm 9 = .ok (.aload_n 0, 1) := by decide +kernel
theorem dX7_readForm_10 : decode cX7_readForm 10 = .ok (.iload_n 2, 1) := by decide +kernel
theorem dX7_readForm_11 : decode cX7_readForm 11 = .ok (.invokevirtual 184, 3) := by decide +kernel
theorem dX7_readForm_14 : decode cX7_readForm 14 = .ok (.lreturn, 1) := by decide +kernel
theorem dX7_readForm_15 : decode cX7_readForm 15 = .ok (.aload_n 0, 1) := by decide +kernel
theorem dX7_readForm_16 : decode cX7_readForm 16 = .ok (.iload_n 1, 1) := by decide +kernel
theorem dX7_readForm_17 : decode cX7_readForm 17 = .ok (.iconst 1, 1) := by decide +kernel
theorem dX7_readForm_18 : decode cX7_readForm 18 = .ok (.iadd, 1) := by decide +kernel
theorem dX7_readForm_19 : decode cX7_readForm 19 = .ok (.iload_n 2, 1) := by decide +kernel
theorem dX7_readForm_20 : decode cX7_readForm 20 = .ok (.invokevirtual 175, 3) := by decide +kernel
theorem dX7_readForm_23 : decode cX7_readForm 23 = .ok (.lstore_n 3, 1) := by decide +kernel
theorem dX7_readForm_24 : decode cX7_readForm 24 = .ok (.iconst 0, 1) := by decide +kernel
theorem dX7_readForm_25 : decode cX7_readForm 25 = .ok (.istore 5, 2) := by decide +kernel
theorem dX7_readForm_27 : decode cX7_readForm 27 = .ok (.iload 5, 2) := by decide +kernel
theorem dX7_readForm_29 : decode cX7_readForm 29 = .ok (.sipush 300, 3) := by decide +kernel
theorem dX7_readForm_32 : decode cX7_readForm 32 = .ok (.if_icmp .ge 83, 3) := by decide +kernel
theorem dX7_readForm_35 : decode cX7_readForm 35 = .ok (.aload_n 0, 1) := by decide +kernel
theorem dX7_readForm_36 : decode cX7_readForm 36 = .ok (.ldc 182, 2) := by decide +kernel
theorem dX7_readForm_38 : decode cX7_readForm 38 = .ok (.iload_n 1, 1) := by decide +kernel
theorem dX7_readForm_39 : decode cX7_readForm 39 = .ok (.invokevirtual 164, 3) := by decide +kernel
theorem dX7_readForm_42 : decode cX7_readForm 42 = .ok (.invokevirtual 168, 3) := by decide +kernel
theorem dX7_readForm_45 : decode cX7_readForm 45 = .ok (.ifCond .eq 70, 3) := by decide +kernel
theorem dX7_readForm_48 : decode cX7_readForm 48 = .ok (.aload_n 0, 1) := by decide +kernel
theorem dX7_readForm_49 : decode cX7_readForm 49 = .ok (.invokevirtual 172, 3) := by decide +kernel
theorem dX7_readForm_52 : decode cX7_readForm 52 = .ok (.aload_n 0, 1) := by decide +kernel
theorem dX7_readForm_53 : decode cX7_readForm 53 = .ok (.iload_n 1, 1) := by decide +kernel
theorem dX7_readForm_54 : decode cX7_readForm 54 = .ok (.iconst 1, 1) := by decide +kernel
theorem dX7_readForm_55 : decode cX7_readForm 55 = .ok (.iadd, 1) := by decide +kernel
theorem dX7_readForm_56 : decode cX7_readForm 56 = .ok (.iload_n 2, 1) := by decide +kernel
theorem dX7_readForm_57 : decode cX7_readForm 57 = .ok (.invokevirtual 175, 3) := by decide +kernel
theorem dX7_readForm_60 : decode cX7_readForm 60 = .ok (.lstore 6, 2) := by decide +kernel
theorem dX7_readForm_62 : decode cX7_readForm 62 = .ok (.iload_n 1, 1) := by decide +kernel
theorem dX7_readForm_63 : decode cX7_readForm 63 = .ok (.lookupswitch 41 #[(0, 25), (1, 33)], 25) := by decide +kernel
theorem dX7_readForm_88 : decode cX7_readForm 88 = .ok (.lload_n 3, 1) := by decide +kernel
theorem dX7_readForm_89 : decode cX7_readForm 89 = .ok (.lload 6, 2) := by decide +kernel
theorem dX7_readForm_91 : decode cX7_readForm 91 = .ok (.lor, 1) := by decide +kernel
theorem dX7_readForm_92 : decode cX7_readForm 92 = .ok (.lstore_n 3, 1) := by decide +kernel
theorem dX7_readForm_93 : decode cX7_readForm 93 = .ok (.goto 16, 3) := by decide +kernel
theorem dX7_readForm_96 : decode cX7_readForm 96 = .ok (.lload_n 3, 1) := by decide +kernel
theorem dX7_readForm_97 : decode cX7_readForm 97 = .ok (.lload 6, 2) := by decide +kernel
theorem dX7_readForm_99 : decode cX7_readForm 99 = .ok (.lxor, 1) := by decide +kernel
theorem dX7_readForm_100 : decode cX7_readForm 100 = .ok (.lstore_n 3, 1) := by decide +kernel
theorem dX7_readForm_101 : decode cX7_readForm 101 = .ok (.goto 8, 3) := by decide +kernel
theorem dX7_readForm_104 : decode cX7_readForm 104 = .ok (.lload_n 3, 1) := by decide +kernel
theorem dX7_readForm_105 : decode cX7_readForm 105 = .ok (.lload 6, 2) := by decide +kernel
theorem dX7_readForm_107 : decode cX7_readForm 107 = .ok (.land, 1) := by decide +kernel
theorem dX7_readForm_108 : decode cX7_readForm 108 = .ok (.lstore_n 3, 1) := by decide +kernel
theorem dX7_readForm_109 : decode cX7_readForm 109 = .ok (.iinc 5 1, 3) := by decide +kernel
theorem dX7_readForm_112 : decode cX7_readForm 112 = .ok (.goto (-85), 3) := by decide +kernel
theorem dX7_readForm_115 : decode cX7_readForm 115 = .ok (.lload_n 3, 1) := by decide +kernel
theorem dX7_readForm_116 : decode cX7_readForm 116 = .ok (.lreturn, 1) := by decide +kernel
theorem dX7_readOne_0 : decode cX7_readOne 0 = .ok (.aload_n 0, 1) := by decide +kernel
theorem dX7_readOne_1 : decode cX7_readOne 1 = .ok (.bipush 33, 2) := by decide +kernel
theorem dX7_readOne_3 : decode cX7_readOne 3 = .ok (.invokevirtual 168, 3) := by decide +kernel
theorem dX7_readOne_6 : decode cX7_readOne 6 = .ok (.istore_n 2, 1) := by decide +kernel
theorem dX7_readOne_7 : decode cX7_readOne 7 = .ok (.iload_n 2, 1) := by decide +kernel
theorem dX7_readOne_8 : decode cX7_readOne 8 = .ok (.ifCond .ne 17, 3) := by decide +kernel
theorem dX7_readOne_11 : decode cX7_readOne 11 = .ok (.aload_n 0, 1) := by decide +kernel
theorem dX7_readOne_12 : decode cX7_readOne 12 = .ok (.bipush 40, 2) := by decide +kernel
theorem dX7_readOne_14 : decode cX7_readOne 14 = .ok (.invokevirtual 168, 3) := by decide +kernel
theorem dX7_readOne_17 : decode cX7_readOne 17 = .ok (.ifCond .ne 8, 3) := by decide +kernel
theorem dX7_readOne_20 : decode cX7_readOne 20 = .ok (.aload_n 0, 1) := by decide +kernel
theorem dX7_readOne_21 : decode cX7_readOne 21 = .ok (.invokevirtual 188, 3) := by decide +kernel
theorem dX7_readOne_24 : decode cX7_readOne 24 = .ok (.lreturn, 1) := by decide +kernel
theorem dX7_readOne_25 : decode cX7_readOne 25 = .ok (.iload_n 1, 1) := by decide +kernel
theorem dX7_readOne_26 : decode cX7_readOne 26 = .ok (.bipush 10, 2) := by decide +kernel
theorem dX7_readOne_28 : decode cX7_readOne 28 = .ok (.if_icmp .lt 11, 3) := by decide +kernel
theorem dX7_readOne_31 : decode cX7_readOne 31 = .ok (.aload_n 0, 1) := by decide +kernel
theorem dX7_readOne_32 : decode cX7_readOne 32 = .ok (.bipush 6, 2) := by decide +kernel
theorem dX7_readOne_34 : decode cX7_readOne 34 = .ok (.invokevirtual 117, 3) := by decide +kernel
theorem dX7_readOne_37 : decode cX7_readOne 37 = .ok (.lconst 0, 1) := by decide +kernel
theorem dX7_readOne_38 : decode cX7_readOne 38 = .ok (.lreturn, 1) := by decide +kernel
theorem dX7_readOne_39 : decode cX7_readOne 39 = .ok (.aload_n 0, 1) := by decide +kernel
theorem dX7_readOne_40 : decode cX7_readOne 40 = .ok (.invokevirtual 172, 3) := by decide +kernel
theorem dX7_readOne_43 : decode cX7_readOne 43 = .ok (.iload_n 2, 1) := by decide +kernel
theorem dX7_readOne_44 : decode cX7_readOne 44 = .ok (.ifCond .eq 15, 3) := by decide +kernel
theorem dX7_readOne_47 : decode cX7_readOne 47 = .ok (.aload_n 0, 1) := by decide +kernel
theorem dX7_readOne_48 : decode cX7_readOne 48 = .ok (.iload_n 1, 1) := by decide +kernel
theorem dX7_readOne_49 : decode cX7_readOne 49 = .ok (.iconst 1, 1) := by decide +kernel
theorem dX7_readOne_50 : decode cX7_readOne 50 = .ok (.iadd, 1) := by decide +kernel
theorem dX7_readOne_51 : decode cX7_readOne 51 = .ok (.invokevirtual 184, 3) := by decide +kernel
theorem dX7_readOne_54 : decode cX7_readOne 54 = .ok (.ldc2_w 192, 3) := by decide +kernel
theorem dX7_readOne_57 : decode cX7_readOne 57 = .ok (.lxor, 1) := by decide +kernel
theorem dX7_readOne_58 : decode cX7_readOne 58 = .ok (.lreturn, 1) := by decide +kernel
theorem dX7_readOne_59 : decode cX7_readOne 59 = .ok (.aload_n 0, 1) := by decide +kernel
theorem dX7_readOne_60 : decode cX7_readOne 60 = .ok (.iconst 0, 1) := by decide +kernel
theorem dX7_readOne_61 : decode cX7_readOne 61 = .ok (.iload_n 1, 1) := by decide +kernel
theorem dX7_readOne_62 : decode cX7_readOne 62 = .ok (.iconst 1, 1) := by decide +kernel
theorem dX7_readOne_63 : decode cX7_readOne 63 = .ok (.iadd, 1) := by decide +kernel
theorem dX7_readOne_64 : decode cX7_readOne 64 = .ok (.invokevirtual 175, 3) := by decide +kernel
theorem dX7_readOne_67 : decode cX7_readOne 67 = .ok (.lstore_n 3, 1) := by decide +kernel
theorem dX7_readOne_68 : decode cX7_readOne 68 = .ok (.aload_n 0, 1) := by decide +kernel
theorem dX7_readOne_69 : decode cX7_readOne 69 = .ok (.bipush 41, 2) := by decide +kernel
theorem dX7_readOne_71 : decode cX7_readOne 71 = .ok (.invokevirtual 104, 3) := by decide +kernel
theorem dX7_readOne_74 : decode cX7_readOne 74 = .ok (.lload_n 3, 1) := by decide +kernel
theorem dX7_readOne_75 : decode cX7_readOne 75 = .ok (.lreturn, 1) := by decide +kernel
theorem dX7_readPlain_0 : decode cX7_readPlain 0 = .ok (.aload_n 0, 1) := by decide +kernel
theorem dX7_readPlain_1 : decode cX7_readPlain 1 = .ok (.getfield 9, 3) := by decide +kernel
theorem dX7_readPlain_4 : decode cX7_readPlain 4 = .ok (.aload_n 0, 1) := by decide +kernel
theorem dX7_readPlain_5 : decode cX7_readPlain 5 = .ok (.getfield 32, 3) := by decide +kernel
theorem dX7_readPlain_8 : decode cX7_readPlain 8 = .ok (.iaload, 1) := by decide +kernel
theorem dX7_readPlain_9 : decode cX7_readPlain 9 = .ok (.istore_n 1, 1) := by decide +kernel
theorem dX7_readPlain_10 : decode cX7_readPlain 10 = .ok (.aload_n 0, 1) := by decide +kernel
theorem dX7_readPlain_11 : decode cX7_readPlain 11 = .ok (.getfield 15, 3) := by decide +kernel
theorem dX7_readPlain_14 : decode cX7_readPlain 14 = .ok (.aload_n 0, 1) := by decide +kernel
theorem dX7_readPlain_15 : decode cX7_readPlain 15 = .ok (.getfield 32, 3) := by decide +kernel
theorem dX7_readPlain_18 : decode cX7_readPlain 18 = .ok (.iaload, 1) := by decide +kernel
theorem dX7_readPlain_19 : decode cX7_readPlain 19 = .ok (.istore_n 2, 1) := by decide +kernel
theorem dX7_readPlain_20 : decode cX7_readPlain 20 = .ok (.iload_n 1, 1) := by decide +kernel
theorem dX7_readPlain_21 : decode cX7_readPlain 21 = .ok (.iconst 2, 1) := by decide +kernel
theorem dX7_readPlain_22 : decode cX7_readPlain 22 = .ok (.if_icmp .ne 29, 3) := by decide +kernel
theorem dX7_readPlain_25 : decode cX7_readPlain 25 = .ok (.iload_n 2, 1) := by decide +kernel
theorem dX7_readPlain_26 : decode cX7_readPlain 26 = .ok (.aload_n 0, 1) := by decide +kernel
theorem dX7_readPlain_27 : decode cX7_readPlain 27 = .ok (.getfield 41, 3) := by decide +kernel
theorem dX7_readPlain_30 : decode cX7_readPlain 30 = .ok (.if_icmp .ge 21, 3) := by decide +kernel
theorem dX7_readPlain_33 : decode cX7_readPlain 33 = .ok (.iload_n 2, 1) := by decide +kernel
theorem dX7_readPlain_34 : decode cX7_readPlain 34 = .ok (.getstatic 64, 3) := by decide +kernel
theorem dX7_readPlain_37 : decode cX7_readPlain 37 = .ok (.arraylength, 1) := by decide +kernel
theorem dX7_readPlain_38 : decode cX7_readPlain 38 = .ok (.if_icmp .ge 13, 3) := by decide +kernel
theorem dX7_readPlain_41 : decode cX7_readPlain 41 = .ok (.aload_n 0, 1) := by decide +kernel
theorem dX7_readPlain_42 : decode cX7_readPlain 42 = .ok (.invokevirtual 172, 3) := by decide +kernel
theorem dX7_readPlain_45 : decode cX7_readPlain 45 = .ok (.getstatic 64, 3) := by decide +kernel
theorem dX7_readPlain_48 : decode cX7_readPlain 48 = .ok (.iload_n 2, 1) := by decide +kernel
theorem dX7_readPlain_49 : decode cX7_readPlain 49 = .ok (.laload, 1) := by decide +kernel
theorem dX7_readPlain_50 : decode cX7_readPlain 50 = .ok (.lreturn, 1) := by decide +kernel
theorem dX7_readPlain_51 : decode cX7_readPlain 51 = .ok (.iload_n 1, 1) := by decide +kernel
theorem dX7_readPlain_52 : decode cX7_readPlain 52 = .ok (.iconst 3, 1) := by decide +kernel
theorem dX7_readPlain_53 : decode cX7_readPlain 53 = .ok (.if_icmp .ne 26, 3) := by decide +kernel
theorem dX7_readPlain_56 : decode cX7_readPlain 56 = .ok (.aload_n 0, 1) := by decide +kernel
theorem dX7_readPlain_57 : decode cX7_readPlain 57 = .ok (.getfield 67, 3) := by decide +kernel
theorem dX7_readPlain_60 : decode cX7_readPlain 60 = .ok (.iconst (-1), 1) := by decide +kernel
theorem dX7_readPlain_61 : decode cX7_readPlain 61 = .ok (.if_icmp .eq 18, 3) := by decide +kernel
theorem dX7_readPlain_64 : decode cX7_readPlain 64 = .ok (.aload_n 0, 1) := by decide +kernel
theorem dX7_readPlain_65 : decode cX7_readPlain 65 = .ok (.invokevirtual 172, 3) := by decide +kernel
theorem dX7_readPlain_68 : decode cX7_readPlain 68 = .ok (.aload_n 0, 1) := by decide +kernel
theorem dX7_readPlain_69 : decode cX7_readPlain 69 = .ok (.getfield 67, 3) := by decide +kernel
theorem dX7_readPlain_72 : decode cX7_readPlain 72 = .ok (.iload_n 2, 1) := by decide +kernel
theorem dX7_readPlain_73 : decode cX7_readPlain 73 = .ok (.ishr, 1) := by decide +kernel
theorem dX7_readPlain_74 : decode cX7_readPlain 74 = .ok (.iconst 1, 1) := by decide +kernel
theorem dX7_readPlain_75 : decode cX7_readPlain 75 = .ok (.iand, 1) := by decide +kernel
theorem dX7_readPlain_76 : decode cX7_readPlain 76 = .ok (.i2l, 1) := by decide +kernel
theorem dX7_readPlain_77 : decode cX7_readPlain 77 = .ok (.lneg, 1) := by decide +kernel
theorem dX7_readPlain_78 : decode cX7_readPlain 78 = .ok (.lreturn, 1) := by decide +kernel
theorem dX7_readPlain_79 : decode cX7_readPlain 79 = .ok (.iload_n 1, 1) := by decide +kernel
theorem dX7_readPlain_80 : decode cX7_readPlain 80 = .ok (.iconst 4, 1) := by decide +kernel
theorem dX7_readPlain_81 : decode cX7_readPlain 81 = .ok (.if_icmp .ne 16, 3) := by decide +kernel
theorem dX7_readPlain_84 : decode cX7_readPlain 84 = .ok (.iload_n 2, 1) := by decide +kernel
theorem dX7_readPlain_85 : decode cX7_readPlain 85 = .ok (.iconst 1, 1) := by decide +kernel
theorem dX7_readPlain_86 : decode cX7_readPlain 86 = .ok (.if_icmp .gt 11, 3) := by decide +kernel
theorem dX7_readPlain_89 : decode cX7_readPlain 89 = .ok (.aload_n 0, 1) := by decide +kernel
theorem dX7_readPlain_90 : decode cX7_readPlain 90 = .ok (.invokevirtual 172, 3) := by decide +kernel
theorem dX7_readPlain_93 : decode cX7_readPlain 93 = .ok (.iload_n 2, 1) := by decide +kernel
theorem dX7_readPlain_94 : decode cX7_readPlain 94 = .ok (.i2l, 1) := by decide +kernel
theorem dX7_readPlain_95 : decode cX7_readPlain 95 = .ok (.lneg, 1) := by decide +kernel
theorem dX7_readPlain_96 : decode cX7_readPlain 96 = .ok (.lreturn, 1) := by decide +kernel
theorem dX7_readPlain_97 : decode cX7_readPlain 97 = .ok (.aload_n 0, 1) := by decide +kernel
theorem dX7_readPlain_98 : decode cX7_readPlain 98 = .ok (.iload_n 1, 1) := by decide +kernel
theorem dX7_readPlain_99 : decode cX7_readPlain 99 = .ok (.invokestatic 194, 3) := by decide +kernel
theorem dX7_readPlain_102 : decode cX7_readPlain 102 = .ok (.invokevirtual 117, 3) := by decide +kernel
theorem dX7_readPlain_105 : decode cX7_readPlain 105 = .ok (.lconst 0, 1) := by decide +kernel
theorem dX7_readPlain_106 : decode cX7_readPlain 106 = .ok (.lreturn, 1) := by decide +kernel
theorem dX7_faultOf_0 : decode cX7_faultOf 0 = .ok (.iload_n 0, 1) := by decide +kernel
theorem dX7_faultOf_1 : decode cX7_faultOf 1 = .ok (.tableswitch 33 2 4 #[29, 31, 27], 27) := by decide +kernel
theorem dX7_faultOf_28 : decode cX7_faultOf 28 = .ok (.iconst 2, 1) := by decide +kernel
theorem dX7_faultOf_29 : decode cX7_faultOf 29 = .ok (.ireturn, 1) := by decide +kernel
theorem dX7_faultOf_30 : decode cX7_faultOf 30 = .ok (.iconst 3, 1) := by decide +kernel
theorem dX7_faultOf_31 : decode cX7_faultOf 31 = .ok (.ireturn, 1) := by decide +kernel
theorem dX7_faultOf_32 : decode cX7_faultOf 32 = .ok (.iconst 5, 1) := by decide +kernel
theorem dX7_faultOf_33 : decode cX7_faultOf 33 = .ok (.ireturn, 1) := by decide +kernel
theorem dX7_faultOf_34 : decode cX7_faultOf 34 = .ok (.iconst 1, 1) := by decide +kernel
theorem dX7_faultOf_35 : decode cX7_faultOf 35 = .ok (.ireturn, 1) := by decide +kernel
theorem dX8_init_0 : decode cX8_init 0 = .ok (.aload_n 0, 1) := by decide +kernel
theorem dX8_init_1 : decode cX8_init 1 = .ok (.invokespecial 3, 3) := by decide +kernel
theorem dX8_init_4 : decode cX8_init 4 = .ok (.aload_n 0, 1) := by decide +kernel
theorem dX8_init_5 : decode cX8_init 5 = .ok (.aload_n 1, 1) := by decide +kernel
theorem dX8_init_6 : decode cX8_init 6 = .ok (.putfield 9, 3) := by decide +kernel
theorem dX8_init_9 : decode cX8_init 9 = .ok (.aload_n 0, 1) := by decide +kernel
theorem dX8_init_10 : decode cX8_init 10 = .ok (.iconst 1, 1) := by decide +kernel
theorem dX8_init_11 : decode cX8_init 11 = .ok (.putfield 15, 3) := by decide +kernel
theorem dX8_init_14 : decode cX8_init 14 = .ok (.aload_n 0, 1) := by decide +kernel
theorem dX8_init_15 : decode cX8_init 15 = .ok (.iconst 1, 1) := by decide +kernel
theorem dX8_init_16 : decode cX8_init 16 = .ok (.putfield 19, 3) := by decide +kernel
theorem dX8_init_19 : decode cX8_init 19 = .ok (.aload_n 0, 1) := by decide +kernel
theorem dX8_init_20 : decode cX8_init 20 = .ok (.new 22, 3) := by decide +kernel
theorem dX8_init_23 : decode cX8_init 23 = .ok (.dup, 1) := by decide +kernel
theorem dX8_init_24 : decode cX8_init 24 = .ok (.invokespecial 24, 3) := by decide +kernel
theorem dX8_init_27 : decode cX8_init 27 = .ok (.putfield 25, 3) := by decide +kernel
theorem dX8_init_30 : decode cX8_init 30 = .ok (.aload_n 0, 1) := by decide +kernel
theorem dX8_init_31 : decode cX8_init 31 = .ok (.new 29, 3) := by decide +kernel
theorem dX8_init_34 : decode cX8_init 34 = .ok (.dup, 1) := by decide +kernel
theorem dX8_init_35 : decode cX8_init 35 = .ok (.invokespecial 31, 3) := by decide +kernel
theorem dX8_init_38 : decode cX8_init 38 = .ok (.putfield 32, 3) := by decide +kernel
theorem dX8_init_41 : decode cX8_init 41 = .ok (.aload_n 0, 1) := by decide +kernel
theorem dX8_init_42 : decode cX8_init 42 = .ok (.new 36, 3) := by decide +kernel
theorem dX8_init_45 : decode cX8_init 45 = .ok (.dup, 1) := by decide +kernel
theorem dX8_init_46 : decode cX8_init 46 = .ok (.invokespecial 38, 3) := by decide +kernel
theorem dX8_init_49 : decode cX8_init 49 = .ok (.putfield 39, 3) := by decide +kernel
theorem dX8_init_52 : decode cX8_init 52 = .ok (.aload_n 0, 1) := by decide +kernel
theorem dX8_init_53 : decode cX8_init 53 = .ok (.new 22, 3) := by decide +kernel
theorem dX8_init_56 : decode cX8_init 56 = .ok (.dup, 1) := by decide +kernel
theorem dX8_init_57 : decode cX8_init 57 = .ok (.invokespecial 24, 3) := by decide +kernel
theorem dX8_init_60 : decode cX8_init 60 = .ok (.putfield 43, 3) := by decide +kernel
theorem dX8_init_63 : decode cX8_init 63 = .ok (.return_, 1) := by decide +kernel
theorem dX8_become_0 : decode cX8_become 0 = .ok (.aload_n 0, 1) := by decide +kernel
theorem dX8_become_1 : decode cX8_become 1 = .ok (.aload_n 1, 1) := by decide +kernel
theorem dX8_become_2 : decode cX8_become 2 = .ok (.getfield 9, 3) := by decide +kernel
theorem dX8_become_5 : decode cX8_become 5 = .ok (.putfield 9, 3) := by decide +kernel
theorem dX8_become_8 : decode cX8_become 8 = .ok (.aload_n 0, 1) := by decide +kernel
theorem dX8_become_9 : decode cX8_become 9 = .ok (.aload_n 1, 1) := by decide +kernel
theorem dX8_become_10 : decode cX8_become 10 = .ok (.getfield 46, 3) := by decide +kernel
theorem dX8_become_13 : decode cX8_become 13 = .ok (.putfield 46, 3) := by decide +kernel
theorem dX8_become_16 : decode cX8_become 16 = .ok (.aload_n 0, 1) := by decide +kernel
theorem dX8_become_17 : decode cX8_become 17 = .ok (.aload_n 1, 1) := by decide +kernel
theorem dX8_become_18 : decode cX8_become 18 = .ok (.getfield 49, 3) := by decide +kernel
theorem dX8_become_21 : decode cX8_become 21 = .ok (.putfield 49, 3) := by decide +kernel
theorem dX8_become_24 : decode cX8_become 24 = .ok (.aload_n 0, 1) := by decide +kernel
theorem dX8_become_25 : decode cX8_become 25 = .ok (.aload_n 1, 1) := by decide +kernel
theorem dX8_become_26 : decode cX8_become 26 = .ok (.getfield 52, 3) := by decide +kernel
theorem dX8_become_29 : decode cX8_become 29 = .ok (.putfield 52, 3) := by decide +kernel
theorem dX8_become_32 : decode cX8_become 32 = .ok (.aload_n 0, 1) := by decide +kernel
theorem dX8_become_33 : decode cX8_become 33 = .ok (.aload_n 1, 1) := by decide +kernel
theorem dX8_become_34 : decode cX8_become 34 = .ok (.getfield 15, 3) := by decide +kernel
theorem dX8_become_37 : decode cX8_become 37 = .ok (.putfield 15, 3) := by decide +kernel
theorem dX8_become_40 : decode cX8_become 40 = .ok (.aload_n 0, 1) := by decide +kernel
theorem dX8_become_41 : decode cX8_become 41 = .ok (.aload_n 1, 1) := by decide +kernel
theorem dX8_become_42 : decode cX8_become 42 = .ok (.getfield 19, 3) := by decide +kernel
theorem dX8_become_45 : decode cX8_become 45 = .ok (.putfield 19, 3) := by decide +kernel
theorem dX8_become_48 : decode cX8_become 48 = .ok (.aload_n 0, 1) := by decide +kernel
theorem dX8_become_49 : decode cX8_become 49 = .ok (.aload_n 1, 1) := by decide +kernel
theorem dX8_become_50 : decode cX8_become 50 = .ok (.getfield 55, 3) := by decide +kernel
theorem dX8_become_53 : decode cX8_become 53 = .ok (.putfield 55, 3) := by decide +kernel
theorem dX8_become_56 : decode cX8_become 56 = .ok (.aload_n 0, 1) := by decide +kernel
theorem dX8_become_57 : decode cX8_become 57 = .ok (.aload_n 1, 1) := by decide +kernel
theorem dX8_become_58 : decode cX8_become 58 = .ok (.getfield 58, 3) := by decide +kernel
theorem dX8_become_61 : decode cX8_become 61 = .ok (.putfield 58, 3) := by decide +kernel
theorem dX8_become_64 : decode cX8_become 64 = .ok (.aload_n 0, 1) := by decide +kernel
theorem dX8_become_65 : decode cX8_become 65 = .ok (.aload_n 1, 1) := by decide +kernel
theorem dX8_become_66 : decode cX8_become 66 = .ok (.getfield 61, 3) := by decide +kernel
theorem dX8_become_69 : decode cX8_become 69 = .ok (.putfield 61, 3) := by decide +kernel
theorem dX8_become_72 : decode cX8_become 72 = .ok (.aload_n 0, 1) := by decide +kernel
theorem dX8_become_73 : decode cX8_become 73 = .ok (.aload_n 1, 1) := by decide +kernel
theorem dX8_become_74 : decode cX8_become 74 = .ok (.getfield 64, 3) := by decide +kernel
theorem dX8_become_77 : decode cX8_become 77 = .ok (.putfield 64, 3) := by decide +kernel
theorem dX8_become_80 : decode cX8_become 80 = .ok (.aload_n 0, 1) := by decide +kernel
theorem dX8_become_81 : decode cX8_become 81 = .ok (.aload_n 1, 1) := by decide +kernel
theorem dX8_become_82 : decode cX8_become 82 = .ok (.getfield 67, 3) := by decide +kernel
theorem dX8_become_85 : decode cX8_become 85 = .ok (.putfield 67, 3) := by decide +kernel
theorem dX8_become_88 : decode cX8_become 88 = .ok (.aload_n 0, 1) := by decide +kernel
theorem dX8_become_89 : decode cX8_become 89 = .ok (.getfield 25, 3) := by decide +kernel
theorem dX8_become_92 : decode cX8_become 92 = .ok (.aload_n 1, 1) := by decide +kernel
theorem dX8_become_93 : decode cX8_become 93 = .ok (.getfield 25, 3) := by decide +kernel
theorem dX8_become_96 : decode cX8_become 96 = .ok (.invokevirtual 70, 3) := by decide +kernel
theorem dX8_become_99 : decode cX8_become 99 = .ok (.aload_n 0, 1) := by decide +kernel
theorem dX8_become_100 : decode cX8_become 100 = .ok (.getfield 32, 3) := by decide +kernel
theorem dX8_become_103 : decode cX8_become 103 = .ok (.aload_n 1, 1) := by decide +kernel
theorem dX8_become_104 : decode cX8_become 104 = .ok (.getfield 32, 3) := by decide +kernel
theorem dX8_become_107 : decode cX8_become 107 = .ok (.invokevirtual 74, 3) := by decide +kernel
theorem dX8_become_110 : decode cX8_become 110 = .ok (.aload_n 0, 1) := by decide +kernel
theorem dX8_become_111 : decode cX8_become 111 = .ok (.getfield 39, 3) := by decide +kernel
theorem dX8_become_114 : decode cX8_become 114 = .ok (.aload_n 1, 1) := by decide +kernel
theorem dX8_become_115 : decode cX8_become 115 = .ok (.getfield 39, 3) := by decide +kernel
theorem dX8_become_118 : decode cX8_become 118 = .ok (.invokevirtual 77, 3) := by decide +kernel
theorem dX8_become_121 : decode cX8_become 121 = .ok (.aload_n 0, 1) := by decide +kernel
theorem dX8_become_122 : decode cX8_become 122 = .ok (.getfield 43, 3) := by decide +kernel
theorem dX8_become_125 : decode cX8_become 125 = .ok (.aload_n 1, 1) := by decide +kernel
theorem dX8_become_126 : decode cX8_become 126 = .ok (.getfield 43, 3) := by decide +kernel
theorem dX8_become_129 : decode cX8_become 129 = .ok (.invokevirtual 70, 3) := by decide +kernel
theorem dX8_become_132 : decode cX8_become 132 = .ok (.return_, 1) := by decide +kernel
theorem dX8_begin_0 : decode cX8_begin 0 = .ok (.aload_n 0, 1) := by decide +kernel
theorem dX8_begin_1 : decode cX8_begin 1 = .ok (.aload_n 1, 1) := by decide +kernel
theorem dX8_begin_2 : decode cX8_begin 2 = .ok (.putfield 9, 3) := by decide +kernel
theorem dX8_begin_5 : decode cX8_begin 5 = .ok (.aload_n 0, 1) := by decide +kernel
theorem dX8_begin_6 : decode cX8_begin 6 = .ok (.iconst 0, 1) := by decide +kernel
theorem dX8_begin_7 : decode cX8_begin 7 = .ok (.putfield 46, 3) := by decide +kernel
theorem dX8_begin_10 : decode cX8_begin 10 = .ok (.aload_n 0, 1) := by decide +kernel
theorem dX8_begin_11 : decode cX8_begin 11 = .ok (.iconst 0, 1) := by decide +kernel
theorem dX8_begin_12 : decode cX8_begin 12 = .ok (.putfield 52, 3) := by decide +kernel
theorem dX8_begin_15 : decode cX8_begin 15 = .ok (.aload_n 0, 1) := by decide +kernel
theorem dX8_begin_16 : decode cX8_begin 16 = .ok (.iconst 1, 1) := by decide +kernel
theorem dX8_begin_17 : decode cX8_begin 17 = .ok (.putfield 15, 3) := by decide +kernel
theorem dX8_begin_20 : decode cX8_begin 20 = .ok (.aload_n 0, 1) := by decide +kernel
theorem dX8_begin_21 : decode cX8_begin 21 = .ok (.iconst 1, 1) := by decide +kernel
theorem dX8_begin_22 : decode cX8_begin 22 = .ok (.putfield 19, 3) := by decide +kernel
theorem dX8_begin_25 : decode cX8_begin 25 = .ok (.aload_n 0, 1) := by decide +kernel
theorem dX8_begin_26 : decode cX8_begin 26 = .ok (.iconst 0, 1) := by decide +kernel
theorem dX8_begin_27 : decode cX8_begin 27 = .ok (.putfield 55, 3) := by decide +kernel
theorem dX8_begin_30 : decode cX8_begin 30 = .ok (.aload_n 0, 1) := by decide +kernel
theorem dX8_begin_31 : decode cX8_begin 31 = .ok (.iconst 0, 1) := by decide +kernel
theorem dX8_begin_32 : decode cX8_begin 32 = .ok (.putfield 58, 3) := by decide +kernel
theorem dX8_begin_35 : decode cX8_begin 35 = .ok (.aload_n 0, 1) := by decide +kernel
theorem dX8_begin_36 : decode cX8_begin 36 = .ok (.iconst 0, 1) := by decide +kernel
theorem dX8_begin_37 : decode cX8_begin 37 = .ok (.putfield 61, 3) := by decide +kernel
theorem dX8_begin_40 : decode cX8_begin 40 = .ok (.aload_n 0, 1) := by decide +kernel
theorem dX8_begin_41 : decode cX8_begin 41 = .ok (.iconst 0, 1) := by decide +kernel
theorem dX8_begin_42 : decode cX8_begin 42 = .ok (.putfield 64, 3) := by decide +kernel
theorem dX8_begin_45 : decode cX8_begin 45 = .ok (.aload_n 0, 1) := by decide +kernel
theorem dX8_begin_46 : decode cX8_begin 46 = .ok (.iconst 0, 1) := by decide +kernel
theorem dX8_begin_47 : decode cX8_begin 47 = .ok (.putfield 67, 3) := by decide +kernel
theorem dX8_begin_50 : decode cX8_begin 50 = .ok (.aload_n 0, 1) := by decide +kernel
theorem dX8_begin_51 : decode cX8_begin 51 = .ok (.getfield 25, 3) := by decide +kernel
theorem dX8_begin_54 : decode cX8_begin 54 = .ok (.iconst 0, 1) := by decide +kernel
theorem dX8_begin_55 : decode cX8_begin 55 = .ok (.putfield 80, 3) := by decide +kernel
theorem dX8_begin_58 : decode cX8_begin 58 = .ok (.aload_n 0, 1) := by decide +kernel
theorem dX8_begin_59 : decode cX8_begin 59 = .ok (.getfield 32, 3) := by decide +kernel
theorem dX8_begin_62 : decode cX8_begin 62 = .ok (.iconst 0, 1) := by decide +kernel
theorem dX8_begin_63 : decode cX8_begin 63 = .ok (.putfield 83, 3) := by decide +kernel
theorem dX8_begin_66 : decode cX8_begin 66 = .ok (.aload_n 0, 1) := by decide +kernel
theorem dX8_begin_67 : decode cX8_begin 67 = .ok (.getfield 39, 3) := by decide +kernel
theorem dX8_begin_70 : decode cX8_begin 70 = .ok (.invokevirtual 84, 3) := by decide +kernel
theorem dX8_begin_73 : decode cX8_begin 73 = .ok (.aload_n 0, 1) := by decide +kernel
theorem dX8_begin_74 : decode cX8_begin 74 = .ok (.getfield 43, 3) := by decide +kernel
theorem dX8_begin_77 : decode cX8_begin 77 = .ok (.iconst 0, 1) := by decide +kernel
theorem dX8_begin_78 : decode cX8_begin 78 = .ok (.putfield 80, 3) := by decide +kernel
theorem dX8_begin_81 : decode cX8_begin 81 = .ok (.return_, 1) := by decide +kernel
theorem dX8_tellAim_0 : decode cX8_tellAim 0 = .ok (.aload_n 0, 1) := by decide +kernel
theorem dX8_tellAim_1 : decode cX8_tellAim 1 = .ok (.iload_n 1, 1) := by decide +kernel
theorem dX8_tellAim_2 : decode cX8_tellAim 2 = .ok (.putfield 46, 3) := by decide +kernel
theorem dX8_tellAim_5 : decode cX8_tellAim 5 = .ok (.aload_n 0, 1) := by decide +kernel
theorem dX8_tellAim_6 : decode cX8_tellAim 6 = .ok (.getfield 32, 3) := by decide +kernel
theorem dX8_tellAim_9 : decode cX8_tellAim 9 = .ok (.iconst 0, 1) := by decide +kernel
theorem dX8_tellAim_10 : decode cX8_tellAim 10 = .ok (.putfield 83, 3) := by decide +kernel
theorem dX8_tellAim_13 : decode cX8_tellAim 13 = .ok (.aload_n 0, 1) := by decide +kernel
theorem dX8_tellAim_14 : decode cX8_tellAim 14 = .ok (.iconst 0, 1) := by decide +kernel
theorem dX8_tellAim_15 : decode cX8_tellAim 15 = .ok (.putfield 52, 3) := by decide +kernel
theorem dX8_tellAim_18 : decode cX8_tellAim 18 = .ok (.aload_n 0, 1) := by decide +kernel
theorem dX8_tellAim_19 : decode cX8_tellAim 19 = .ok (.iconst 1, 1) := by decide +kernel
theorem dX8_tellAim_20 : decode cX8_tellAim 20 = .ok (.aload_n 0, 1) := by decide +kernel
theorem dX8_tellAim_21 : decode cX8_tellAim 21 = .ok (.getfield 25, 3) := by decide +kernel
theorem dX8_tellAim_24 : decode cX8_tellAim 24 = .ok (.invokevirtual 87, 3) := by decide +kernel
theorem dX8_tellAim_27 : decode cX8_tellAim 27 = .ok (.invokestatic 91, 3) := by decide +kernel
theorem dX8_tellAim_30 : decode cX8_tellAim 30 = .ok (.putfield 15, 3) := by decide +kernel
theorem dX8_tellAim_33 : decode cX8_tellAim 33 = .ok (.return_, 1) := by decide +kernel
theorem dX8_isOver_0 : decode cX8_isOver 0 = .ok (.aload_n 0, 1) := by decide +kernel
theorem dX8_isOver_1 : decode cX8_isOver 1 = .ok (.getfield 52, 3) := by decide +kernel
theorem dX8_isOver_4 : decode cX8_isOver 4 = .ok (.iconst 3, 1) := by decide +kernel
theorem dX8_isOver_5 : decode cX8_isOver 5 = .ok (.if_icmp .eq 11, 3) := by decide +kernel
theorem dX8_isOver_8 : decode cX8_isOver 8 = .ok (.aload_n 0, 1) := by decide +kernel
theorem dX8_isOver_9 : decode cX8_isOver 9 = .ok (.getfield 52, 3) := by decide +kernel
theorem dX8_isOver_12 : decode cX8_isOver 12 = .ok (.iconst 4, 1) := by decide +kernel
theorem dX8_isOver_13 : decode cX8_isOver 13 = .ok (.if_icmp .ne 7, 3) := by decide +kernel
theorem dX8_isOver_16 : decode cX8_isOver 16 = .ok (.iconst 1, 1) := by decide +kernel
theorem dX8_isOver_17 : decode cX8_isOver 17 = .ok (.goto 4, 3) := by decide +kernel
theorem dX8_isOver_20 : decode cX8_isOver 20 = .ok (.iconst 0, 1) := by decide +kernel
theorem dX8_isOver_21 : decode cX8_isOver 21 = .ok (.ireturn, 1) := by decide +kernel
theorem dX8_hasFrame_0 : decode cX8_hasFrame 0 = .ok (.iload_n 1, 1) := by decide +kernel
theorem dX8_hasFrame_1 : decode cX8_hasFrame 1 = .ok (.ifCond .lt 15, 3) := by decide +kernel
theorem dX8_hasFrame_4 : decode cX8_hasFrame 4 = .ok (.iload_n 1, 1) := by decide +kernel
theorem dX8_hasFrame_5 : decode cX8_hasFrame 5 = .ok (.aload_n 0, 1) := by decide +kernel
theorem dX8_hasFrame_6 : decode cX8_hasFrame 6 = .ok (.getfield 15, 3) := by decide +kernel
theorem dX8_hasFrame_9 : decode cX8_hasFrame 9 = .ok (.if_icmp .gt 7, 3) := by decide +kernel
theorem dX8_hasFrame_12 : decode cX8_hasFrame 12 = .ok (.iconst 1, 1) := by decide +kernel
theorem dX8_hasFrame_13 : decode cX8_hasFrame 13 = .ok (.goto 4, 3) := by decide +kernel
theorem dX8_hasFrame_16 : decode cX8_hasFrame 16 = .ok (.iconst 0, 1) := by decide +kernel
theorem dX8_hasFrame_17 : decode cX8_hasFrame 17 = .ok (.ireturn, 1) := by decide +kernel
theorem dX8_hasCubeFrame_0 : decode cX8_hasCubeFrame 0 = .ok (.iload_n 1, 1) := by decide +kernel
theorem dX8_hasCubeFrame_1 : decode cX8_hasCubeFrame 1 = .ok (.iconst 1, 1) := by decide +kernel
theorem dX8_hasCubeFrame_2 : decode cX8_hasCubeFrame 2 = .ok (.if_icmp .lt 15, 3) := by decide +kernel
theorem dX8_hasCubeFrame_5 : decode cX8_hasCubeFrame 5 = .ok (.iload_n 1, 1) := by decide +kernel
theorem dX8_hasCubeFrame_6 : decode cX8_hasCubeFrame 6 = .ok (.aload_n 0, 1) := by decide +kernel
theorem dX8_hasCubeFrame_7 : decode cX8_hasCubeFrame 7 = .ok (.getfield 15, 3) := by decide +kernel
theorem dX8_hasCubeFrame_10 : decode cX8_hasCubeFrame 10 = .ok (.if_icmp .gt 7, 3) := by decide +kernel
theorem dX8_hasCubeFrame_13 : decode cX8_hasCubeFrame 13 = .ok (.iconst 1, 1) := by decide +kernel
theorem dX8_hasCubeFrame_14 : decode cX8_hasCubeFrame 14 = .ok (.goto 4, 3) := by decide +kernel
theorem dX8_hasCubeFrame_17 : decode cX8_hasCubeFrame 17 = .ok (.iconst 0, 1) := by decide +kernel
theorem dX8_hasCubeFrame_18 : decode cX8_hasCubeFrame 18 = .ok (.ireturn, 1) := by decide +kernel
theorem dX8_aimStates_0 : decode cX8_aimStates 0 = .ok (.aload_n 0, 1) := by decide +kernel
theorem dX8_aimStates_1 : decode cX8_aimStates 1 = .ok (.getfield 9, 3) := by decide +kernel
theorem dX8_aimStates_4 : decode cX8_aimStates 4 = .ok (.aload_n 0, 1) := by decide +kernel
theorem dX8_aimStates_5 : decode cX8_aimStates 5 = .ok (.getfield 46, 3) := by decide +kernel
theorem dX8_aimStates_8 : decode cX8_aimStates 8 = .ok (.invokevirtual 97, 3) := by decide +kernel
theorem dX8_aimStates_11 : decode cX8_aimStates 11 = .ok (.ifCond .eq 18, 3) := by decide +kernel
theorem dX8_aimStates_14 : decode cX8_aimStates 14 = .ok (.aload_n 0, 1) := by decide +kernel
theorem dX8_aimStates_15 : decode cX8_aimStates 15 = .ok (.getfield 9, 3) := by decide +kernel
theorem dX8_aimStates_18 : decode cX8_aimStates 18 = .ok (.getfield 103, 3) := by decide +kernel
theorem dX8_aimStates_21 : decode cX8_aimStates 21 = .ok (.aload_n 0, 1) := by decide +kernel
theorem dX8_aimStates_22 : decode cX8_aimStates 22 = .ok (.getfield 46, 3) := by decide +kernel
theorem dX8_aimStates_25 : decode cX8_aimStates 25 = .ok (.laload, 1) := by decide +kernel
theorem dX8_aimStates_26 : decode cX8_aimStates 26 = .ok (.goto 4, 3) := by decide +kernel
theorem dX8_aimStates_29 : decode cX8_aimStates 29 = .ok (.lconst 0, 1) := by decide +kernel
theorem dX8_aimStates_30 : decode cX8_aimStates 30 = .ok (.lreturn, 1) := by decide +kernel
theorem dX8_statesWithin_0 : decode cX8_statesWithin 0 = .ok (.iload_n 1, 1) := by decide +kernel
theorem dX8_statesWithin_1 : decode cX8_statesWithin 1 = .ok (.ifCond .gt 11, 3) := by decide +kernel
theorem dX8_statesWithin_4 : decode cX8_statesWithin 4 = .ok (.aload_n 0, 1) := by decide +kernel
theorem dX8_statesWithin_5 : decode cX8_statesWithin 5 = .ok (.getfield 9, 3) := by decide +kernel
theorem dX8_statesWithin_8 : decode cX8_statesWithin 8 = .ok (.getfield 107, 3) := by decide +kernel
theorem dX8_statesWithin_11 : decode cX8_statesWithin 11 = .ok (.lreturn, 1) := by decide +kernel
theorem dX8_statesWithin_12 : decode cX8_statesWithin 12 = .ok (.aload_n 0, 1) := by decide +kernel
theorem dX8_statesWithin_13 : decode cX8_statesWithin 13 = .ok (.getfield 9, 3) := by decide +kernel
theorem dX8_statesWithin_16 : decode cX8_statesWithin 16 = .ok (.getfield 111, 3) := by decide +kernel
theorem dX8_statesWithin_19 : decode cX8_statesWithin 19 = .ok (.aload_n 0, 1) := by decide +kernel
theorem dX8_statesWithin_20 : decode cX8_statesWithin 20 = .ok (.getfield 25, 3) := by decide +kernel
theorem dX8_statesWithin_23 : decode cX8_statesWithin 23 = .ok (.aload_n 0, 1) := by decide +kernel
theorem dX8_statesWithin_24 : decode cX8_statesWithin 24 = .ok (.getfield 25, 3) := by decide +kernel
theorem dX8_statesWithin_27 : decode cX8_statesWithin 27 = .ok (.iload_n 1, 1) := by decide +kernel
theorem dX8_statesWithin_28 : decode cX8_statesWithin 28 = .ok (.invokevirtual 114, 3) := by decide +kernel
theorem dX8_statesWithin_31 : decode cX8_statesWithin 31 = .ok (.invokevirtual 118, 3) := by decide +kernel
theorem dX8_statesWithin_34 : decode cX8_statesWithin 34 = .ok (.ldc2_w 122, 3) := by decide +kernel
theorem dX8_statesWithin_37 : decode cX8_statesWithin 37 = .ok (.lxor, 1) := by decide +kernel
theorem dX8_statesWithin_38 : decode cX8_statesWithin 38 = .ok (.land, 1) := by decide +kernel
theorem dX8_statesWithin_39 : decode cX8_statesWithin 39 = .ok (.lreturn, 1) := by decide +kernel
theorem dX8_badWithin_0 : decode cX8_badWithin 0 = .ok (.aload_n 0, 1) := by decide +kernel
theorem dX8_badWithin_1 : decode cX8_badWithin 1 = .ok (.invokevirtual 124, 3) := by decide +kernel
theorem dX8_badWithin_4 : decode cX8_badWithin 4 = .ok (.aload_n 0, 1) := by decide +kernel
theorem dX8_badWithin_5 : decode cX8_badWithin 5 = .ok (.iload_n 1, 1) := by decide +kernel
theorem dX8_badWithin_6 : decode cX8_badWithin 6 = .ok (.invokevirtual 128, 3) := by decide +kernel
theorem dX8_badWithin_9 : decode cX8_badWithin 9 = .ok (.land, 1) := by decide +kernel
theorem dX8_badWithin_10 : decode cX8_badWithin 10 = .ok (.lreturn, 1) := by decide +kernel
theorem dX8_soughtStates_0 : decode cX8_soughtStates 0 = .ok (.aload_n 0, 1) := by decide +kernel
theorem dX8_soughtStates_1 : decode cX8_soughtStates 1 = .ok (.aload_n 0, 1) := by decide +kernel
theorem dX8_soughtStates_2 : decode cX8_soughtStates 2 = .ok (.getfield 15, 3) := by decide +kernel
theorem dX8_soughtStates_5 : decode cX8_soughtStates 5 = .ok (.invokevirtual 131, 3) := by decide +kernel
theorem dX8_soughtStates_8 : decode cX8_soughtStates 8 = .ok (.lstore_n 1, 1) := by decide +kernel
theorem dX8_soughtStates_9 : decode cX8_soughtStates 9 = .ok (.lconst 0, 1) := by decide +kernel
theorem dX8_soughtStates_10 : decode cX8_soughtStates 10 = .ok (.lstore_n 3, 1) := by decide +kernel
theorem dX8_soughtStates_11 : decode cX8_soughtStates 11 = .ok (.iconst 0, 1) := by decide +kernel
theorem dX8_soughtStates_12 : decode cX8_soughtStates 12 = .ok (.istore 5, 2) := by decide +kernel
theorem dX8_soughtStates_14 : decode cX8_soughtStates 14 = .ok (.iload 5, 2) := by decide +kernel
theorem dX8_soughtStates_16 : decode cX8_soughtStates 16 = .ok (.bipush 8, 2) := by decide +kernel
theorem dX8_soughtStates_18 : decode cX8_soughtStates 18 = .ok (.if_icmp .ge 29, 3) := by decide +kernel
theorem dX8_soughtStates_21 : decode cX8_soughtStates 21 = .ok (.lload_n 1, 1) := by decide +kernel
theorem dX8_soughtStates_22 : decode cX8_soughtStates 22 = .ok (.lload_n 1, 1) := by decide +kernel
theorem dX8_soughtStates_23 : decode cX8_soughtStates 23 = .ok (.lneg, 1) := by decide +kernel
theorem dX8_soughtStates_24 : decode cX8_soughtStates 24 = .ok (.land, 1) := by decide +kernel
theorem dX8_soughtStates_25 : decode cX8_soughtStates 25 = .ok (.lstore 6, 2) := by decide +kernel
theorem dX8_soughtStates_27 : decode cX8_soughtStates 27 = .ok (.lload_n 3, 1) := by decide +kernel
theorem dX8_soughtStates_28 : decode cX8_soughtStates 28 = .ok (.lload 6, 2) := by decide +kernel
theorem dX8_soughtStates_30 : decode cX8_soughtStates 30 = .ok (.lor, 1) := by decide +kernel
theorem dX8_soughtStates_31 : decode cX8_soughtStates 31 = .ok (.lstore_n 3, 1) := by decide +kernel
theorem dX8_soughtStates_32 : decode cX8_soughtStates 32 = .ok (.lload_n 1, 1) := by decide +kernel
theorem dX8_soughtStates_33 : decode cX8_soughtStates 33 = .ok (.lload 6, 2) := by decide +kernel
theorem dX8_soughtStates_35 : decode cX8_soughtStates 35 = .ok (.ldc2_w 122, 3) := by decide +kernel
theorem dX8_soughtStates_38 : decode cX8_soughtStates 38 = .ok (.lxor, 1) := by decide +kernel
theorem dX8_soughtStates_39 : decode cX8_soughtStates 39 = .ok (.land, 1) := by decide +kernel
theorem dX8_soughtStates_40 : decode cX8_soughtStates 40 = .ok (.lstore_n 1, 1) := by decide +kernel
theorem dX8_soughtStates_41 : decode cX8_soughtStates 41 = .ok (.iinc 5 1, 3) := by decide +kernel
theorem dX8_soughtStates_44 : decode cX8_soughtStates 44 = .ok (.goto (-30), 3) := by decide +kernel
theorem dX8_soughtStates_47 : decode cX8_soughtStates 47 = .ok (.lload_n 3, 1) := by decide +kernel
theorem dX8_soughtStates_48 : decode cX8_soughtStates 48 = .ok (.lreturn, 1) := by decide +kernel
theorem dX8_keepsOut_0 : decode cX8_keepsOut 0 = .ok (.iload_n 1, 1) := by decide +kernel
theorem dX8_keepsOut_1 : decode cX8_keepsOut 1 = .ok (.invokestatic 134, 3) := by decide +kernel
theorem dX8_keepsOut_4 : decode cX8_keepsOut 4 = .ok (.lstore 4, 2) := by decide +kernel
theorem dX8_keepsOut_6 : decode cX8_keepsOut 6 = .ok (.lload_n 2, 1) := by decide +kernel
theorem dX8_keepsOut_7 : decode cX8_keepsOut 7 = .ok (.lload 4, 2) := by decide +kernel
theorem dX8_keepsOut_9 : decode cX8_keepsOut 9 = .ok (.ldc2_w 122, 3) := by decide +kernel
theorem dX8_keepsOut_12 : decode cX8_keepsOut 12 = .ok (.lxor, 1) := by decide +kernel
theorem dX8_keepsOut_13 : decode cX8_keepsOut 13 = .ok (.land, 1) := by decide +kernel
theorem dX8_keepsOut_14 : decode cX8_keepsOut 14 = .ok (.aload_n 0, 1) := by decide +kernel
theorem dX8_keepsOut_15 : decode cX8_keepsOut 15 = .ok (.getfield 9, 3) := by decide +kernel
theorem dX8_keepsOut_18 : decode cX8_keepsOut 18 = .ok (.lload 4, 2) := by decide +kernel
theorem dX8_keepsOut_20 : decode cX8_keepsOut 20 = .ok (.invokevirtual 139, 3) := by decide +kernel
theorem dX8_keepsOut_23 : decode cX8_keepsOut 23 = .ok (.land, 1) := by decide +kernel
theorem dX8_keepsOut_24 : decode cX8_keepsOut 24 = .ok (.lconst 0, 1) := by decide +kernel
theorem dX8_keepsOut_25 : decode cX8_keepsOut 25 = .ok (.lcmp, 1) := by decide +kernel
theorem dX8_keepsOut_26 : decode cX8_keepsOut 26 = .ok (.ifCond .ne 7, 3) := by decide +kernel
theorem dX8_keepsOut_29 : decode cX8_keepsOut 29 = .ok (.iconst 1, 1) := by decide +kernel
theorem dX8_keepsOut_30 : decode cX8_keepsOut 30 = .ok (.goto 4, 3) := by decide +kernel
theorem dX8_keepsOut_33 : decode cX8_keepsOut 33 = .ok (.iconst 0, 1) := by decide +kernel
theorem dX8_keepsOut_34 : decode cX8_keepsOut 34 = .ok (.ireturn, 1) := by decide +kernel
theorem dX8_hasInit_0 : decode cX8_hasInit 0 = .ok (.iload_n 1, 1) := by decide +kernel
theorem dX8_hasInit_1 : decode cX8_hasInit 1 = .ok (.invokestatic 134, 3) := by decide +kernel
theorem dX8_hasInit_4 : decode cX8_hasInit 4 = .ok (.aload_n 0, 1) := by decide +kernel
theorem dX8_hasInit_5 : decode cX8_hasInit 5 = .ok (.getfield 9, 3) := by decide +kernel
theorem dX8_hasInit_8 : decode cX8_hasInit 8 = .ok (.getfield 107, 3) := by decide +kernel
theorem dX8_hasInit_11 : decode cX8_hasInit 11 = .ok (.land, 1) := by decide +kernel
theorem dX8_hasInit_12 : decode cX8_hasInit 12 = .ok (.lconst 0, 1) := by decide +kernel
theorem dX8_hasInit_13 : decode cX8_hasInit 13 = .ok (.lcmp, 1) := by decide +kernel
theorem dX8_hasInit_14 : decode cX8_hasInit 14 = .ok (.ifCond .eq 7, 3) := by decide +kernel
theorem dX8_hasInit_17 : decode cX8_hasInit 17 = .ok (.iconst 1, 1) := by decide +kernel
theorem dX8_hasInit_18 : decode cX8_hasInit 18 = .ok (.goto 4, 3) := by decide +kernel
theorem dX8_hasInit_21 : decode cX8_hasInit 21 = .ok (.iconst 0, 1) := by decide +kernel
theorem dX8_hasInit_22 : decode cX8_hasInit 22 = .ok (.ireturn, 1) := by decide +kernel
theorem dX8_canBar_0 : decode cX8_canBar 0 = .ok (.aload_n 0, 1) := by decide +kernel
theorem dX8_canBar_1 : decode cX8_canBar 1 = .ok (.getfield 52, 3) := by decide +kernel
theorem dX8_canBar_4 : decode cX8_canBar 4 = .ok (.ifCond .eq 11, 3) := by decide +kernel
theorem dX8_canBar_7 : decode cX8_canBar 7 = .ok (.aload_n 0, 1) := by decide +kernel
theorem dX8_canBar_8 : decode cX8_canBar 8 = .ok (.getfield 52, 3) := by decide +kernel
theorem dX8_canBar_11 : decode cX8_canBar 11 = .ok (.iconst 1, 1) := by decide +kernel
theorem dX8_canBar_12 : decode cX8_canBar 12 = .ok (.if_icmp .ne 38, 3) := by decide +kernel
theorem dX8_canBar_15 : decode cX8_canBar 15 = .ok (.aload_n 0, 1) := by decide +kernel
theorem dX8_canBar_16 : decode cX8_canBar 16 = .ok (.iload_n 2, 1) := by decide +kernel
theorem dX8_canBar_17 : decode cX8_canBar 17 = .ok (.invokevirtual 143, 3) := by decide +kernel
theorem dX8_canBar_20 : decode cX8_canBar 20 = .ok (.ifCond .eq 30, 3) := by decide +kernel
theorem dX8_canBar_23 : decode cX8_canBar 23 = .ok (.aload_n 0, 1) := by decide +kernel
theorem dX8_canBar_24 : decode cX8_canBar 24 = .ok (.iload_n 1, 1) := by decide +kernel
theorem dX8_canBar_25 : decode cX8_canBar 25 = .ok (.invokevirtual 146, 3) := by decide +kernel
theorem dX8_canBar_28 : decode cX8_canBar 28 = .ok (.ifCond .ne 22, 3) := by decide +kernel
theorem dX8_canBar_31 : decode cX8_canBar 31 = .ok (.aload_n 0, 1) := by decide +kernel
theorem dX8_canBar_32 : decode cX8_canBar 32 = .ok (.iload_n 1, 1) := by decide +kernel
theorem dX8_canBar_33 : decode cX8_canBar 33 = .ok (.aload_n 0, 1) := by decide +kernel
theorem dX8_canBar_34 : decode cX8_canBar 34 = .ok (.iload_n 2, 1) := by decide +kernel
theorem dX8_canBar_35 : decode cX8_canBar 35 = .ok (.iconst 1, 1) := by decide +kernel
theorem dX8_canBar_36 : decode cX8_canBar 36 = .ok (.isub, 1) := by decide +kernel
theorem dX8_canBar_37 : decode cX8_canBar 37 = .ok (.invokevirtual 128, 3) := by decide +kernel
theorem dX8_canBar_40 : decode cX8_canBar 40 = .ok (.invokevirtual 149, 3) := by decide +kernel
theorem dX8_canBar_43 : decode cX8_canBar 43 = .ok (.ifCond .eq 7, 3) := by decide +kernel
theorem dX8_canBar_46 : decode cX8_canBar 46 = .ok (.iconst 1, 1) := by decide +kernel
theorem dX8_canBar_47 : decode cX8_canBar 47 = .ok (.goto 4, 3) := by decide +kernel
theorem dX8_canBar_50 : decode cX8_canBar 50 = .ok (.iconst 0, 1) := by decide +kernel
theorem dX8_canBar_51 : decode cX8_canBar 51 = .ok (.ireturn, 1) := by decide +kernel
theorem dX8_lowestAhead_0 : decode cX8_lowestAhead 0 = .ok (.aload_n 0, 1) := by decide +kernel
theorem dX8_lowestAhead_1 : decode cX8_lowestAhead 1 = .ok (.iload_n 2, 1) := by decide +kernel
theorem dX8_lowestAhead_2 : decode cX8_lowestAhead 2 = .ok (.invokevirtual 128, 3) := by decide +kernel
theorem dX8_lowestAhead_5 : decode cX8_lowestAhead 5 = .ok (.aload_n 0, 1) := by decide +kernel
theorem dX8_lowestAhead_6 : decode cX8_lowestAhead 6 = .ok (.getfield 9, 3) := by decide +kernel
theorem dX8_lowestAhead_9 : decode cX8_lowestAhead 9 = .ok (.iload_n 1, 1) := by decide +kernel
theorem dX8_lowestAhead_10 : decode cX8_lowestAhead 10 = .ok (.invokevirtual 153, 3) := by decide +kernel
theorem dX8_lowestAhead_13 : decode cX8_lowestAhead 13 = .ok (.land, 1) := by decide +kernel
theorem dX8_lowestAhead_14 : decode cX8_lowestAhead 14 = .ok (.lconst 1, 1) := by decide +kernel
theorem dX8_lowestAhead_15 : decode cX8_lowestAhead 15 = .ok (.iload_n 1, 1) := by decide +kernel
theorem dX8_lowestAhead_16 : decode cX8_lowestAhead 16 = .ok (.lshl, 1) := by decide +kernel
theorem dX8_lowestAhead_17 : decode cX8_lowestAhead 17 = .ok (.ldc2_w 122, 3) := by decide +kernel
theorem dX8_lowestAhead_20 : decode cX8_lowestAhead 20 = .ok (.lxor, 1) := by decide +kernel
theorem dX8_lowestAhead_21 : decode cX8_lowestAhead 21 = .ok (.land, 1) := by decide +kernel
theorem dX8_lowestAhead_22 : decode cX8_lowestAhead 22 = .ok (.invokestatic 156, 3) := by decide +kernel
theorem dX8_lowestAhead_25 : decode cX8_lowestAhead 25 = .ok (.ireturn, 1) := by decide +kernel
theorem dX8_widen_0 : decode cX8_widen 0 = .ok (.aload_n 0, 1) := by decide +kernel
theorem dX8_widen_1 : decode cX8_widen 1 = .ok (.getfield 9, 3) := by decide +kernel
theorem dX8_widen_4 : decode cX8_widen 4 = .ok (.getfield 162, 3) := by decide +kernel
theorem dX8_widen_7 : decode cX8_widen 7 = .ok (.iconst 1, 1) := by decide +kernel
theorem dX8_widen_8 : decode cX8_widen 8 = .ok (.isub, 1) := by decide +kernel
theorem dX8_widen_9 : decode cX8_widen 9 = .ok (.iload_n 1, 1) := by decide +kernel
theorem dX8_widen_10 : decode cX8_widen 10 = .ok (.invokestatic 165, 3) := by decide +kernel
theorem dX8_widen_13 : decode cX8_widen 13 = .ok (.istore 4, 2) := by decide +kernel
theorem dX8_widen_15 : decode cX8_widen 15 = .ok (.aload_n 0, 1) := by decide +kernel
theorem dX8_widen_16 : decode cX8_widen 16 = .ok (.iload_n 2, 1) := by decide +kernel
theorem dX8_widen_17 : decode cX8_widen 17 = .ok (.iconst 1, 1) := by decide +kernel
theorem dX8_widen_18 : decode cX8_widen 18 = .ok (.isub, 1) := by decide +kernel
theorem dX8_widen_19 : decode cX8_widen 19 = .ok (.invokevirtual 128, 3) := by decide +kernel
theorem dX8_widen_22 : decode cX8_widen 22 = .ok (.lstore 5, 2) := by decide +kernel
theorem dX8_widen_24 : decode cX8_widen 24 = .ok (.iconst 0, 1) := by decide +kernel
theorem dX8_widen_25 : decode cX8_widen 25 = .ok (.istore 7, 2) := by decide +kernel
theorem dX8_widen_27 : decode cX8_widen 27 = .ok (.iload 7, 2) := by decide +kernel
theorem dX8_widen_29 : decode cX8_widen 29 = .ok (.aload_n 0, 1) := by decide +kernel
theorem dX8_widen_30 : decode cX8_widen 30 = .ok (.getfield 9, 3) := by decide +kernel
theorem dX8_widen_33 : decode cX8_widen 33 = .ok (.getfield 168, 3) := by decide +kernel
theorem dX8_widen_36 : decode cX8_widen 36 = .ok (.if_icmp .ge 79, 3) := by decide +kernel
theorem dX8_widen_39 : decode cX8_widen 39 = .ok (.iload 4, 2) := by decide +kernel
theorem dX8_widen_41 : decode cX8_widen 41 = .ok (.aload_n 0, 1) := by decide +kernel
theorem dX8_widen_42 : decode cX8_widen 42 = .ok (.getfield 39, 3) := by decide +kernel
theorem dX8_widen_45 : decode cX8_widen 45 = .ok (.iload 7, 2) := by decide +kernel
theorem dX8_widen_47 : decode cX8_widen 47 = .ok (.aload_n 0, 1) := by decide +kernel
theorem dX8_widen_48 : decode cX8_widen 48 = .ok (.getfield 49, 3) := by decide +kernel
theorem dX8_widen_51 : decode cX8_widen 51 = .ok (.aload_n 0, 1) := by decide +kernel
theorem dX8_widen_52 : decode cX8_widen 52 = .ok (.getfield 9, 3) := by decide +kernel
theorem dX8_widen_55 : decode cX8_widen 55 = .ok (.getfield 168, 3) := by decide +kernel
theorem dX8_widen_58 : decode cX8_widen 58 = .ok (.invokevirtual 171, 3) := by decide +kernel
theorem dX8_widen_61 : decode cX8_widen 61 = .ok (.invokestatic 175, 3) := by decide +kernel
theorem dX8_widen_64 : decode cX8_widen 64 = .ok (.istore 8, 2) := by decide +kernel
theorem dX8_widen_66 : decode cX8_widen 66 = .ok (.aload_n 0, 1) := by decide +kernel
theorem dX8_widen_67 : decode cX8_widen 67 = .ok (.iload 8, 2) := by decide +kernel
theorem dX8_widen_69 : decode cX8_widen 69 = .ok (.invokevirtual 146, 3) := by decide +kernel
theorem dX8_widen_72 : decode cX8_widen 72 = .ok (.ifCond .ne 37, 3) := by decide +kernel
theorem dX8_widen_75 : decode cX8_widen 75 = .ok (.iload_n 3, 1) := by decide +kernel
theorem dX8_widen_76 : decode cX8_widen 76 = .ok (.ifCond .eq 13, 3) := by decide +kernel
theorem dX8_widen_79 : decode cX8_widen 79 = .ok (.aload_n 0, 1) := by decide +kernel
theorem dX8_widen_80 : decode cX8_widen 80 = .ok (.dup, 1) := by decide +kernel
theorem dX8_widen_81 : decode cX8_widen 81 = .ok (.getfield 61, 3) := by decide +kernel
theorem dX8_widen_84 : decode cX8_widen 84 = .ok (.iconst 1, 1) := by decide +kernel
theorem dX8_widen_85 : decode cX8_widen 85 = .ok (.iadd, 1) := by decide +kernel
theorem dX8_widen_86 : decode cX8_widen 86 = .ok (.putfield 61, 3) := by decide +kernel
theorem dX8_widen_89 : decode cX8_widen 89 = .ok (.aload_n 0, 1) := by decide +kernel
theorem dX8_widen_90 : decode cX8_widen 90 = .ok (.iload 8, 2) := by decide +kernel
theorem dX8_widen_92 : decode cX8_widen 92 = .ok (.lload 5, 2) := by decide +kernel
theorem dX8_widen_94 : decode cX8_widen 94 = .ok (.invokevirtual 149, 3) := by decide +kernel
theorem dX8_widen_97 : decode cX8_widen 97 = .ok (.ifCond .eq 8, 3) := by decide +kernel
theorem dX8_widen_100 : decode cX8_widen 100 = .ok (.iload 8, 2) := by decide +kernel
theorem dX8_widen_102 : decode cX8_widen 102 = .ok (.goto 5, 3) := by decide +kernel
theorem dX8_widen_105 : decode cX8_widen 105 = .ok (.iload 4, 2) := by decide +kernel
theorem dX8_widen_107 : decode cX8_widen 107 = .ok (.istore 4, 2) := by decide +kernel
theorem dX8_widen_109 : decode cX8_widen 109 = .ok (.iinc 7 1, 3) := by decide +kernel
theorem dX8_widen_112 : decode cX8_widen 112 = .ok (.goto (-85), 3) := by decide +kernel
theorem dX8_widen_115 : decode cX8_widen 115 = .ok (.iload 4, 2) := by decide +kernel
theorem dX8_widen_117 : decode cX8_widen 117 = .ok (.ireturn, 1) := by decide +kernel
theorem dX8_goOn_0 : decode cX8_goOn 0 = .ok (.iconst 0, 1) := by decide +kernel
theorem dX8_goOn_1 : decode cX8_goOn 1 = .ok (.istore_n 2, 1) := by decide +kernel
theorem dX8_goOn_2 : decode cX8_goOn 2 = .ok (.iload_n 2, 1) := by decide +kernel
theorem dX8_goOn_3 : decode cX8_goOn 3 = .ok (.iload_n 1, 1) := by decide +kernel
theorem dX8_goOn_4 : decode cX8_goOn 4 = .ok (.if_icmp .ge 49, 3) := by decide +kernel
theorem dX8_goOn_7 : decode cX8_goOn 7 = .ok (.aload_n 0, 1) := by decide +kernel
theorem dX8_goOn_8 : decode cX8_goOn 8 = .ok (.invokevirtual 178, 3) := by decide +kernel
