theorem dX8_goOn_11 : decode cX8_goOn 11 = .ok (.ifCond .ne 42, 3) := by decide +kernel
theorem dX8_goOn_14 : decode cX8_goOn 14 = .ok (.aload_n 0, 1) := by decide +kernel
theorem dX8_goOn_15 : decode cX8_goOn 15 = .ok (.getfield 52, 3) := by decide +kernel
theorem dX8_goOn_18 : decode cX8_goOn 18 = .ok (.ifCond .ne 10, 3) := by decide +kernel
theorem dX8_goOn_21 : decode cX8_goOn 21 = .ok (.aload_n 0, 1) := by decide +kernel
theorem dX8_goOn_22 : decode cX8_goOn 22 = .ok (.invokevirtual 182, 3) := by decide +kernel
theorem dX8_goOn_25 : decode cX8_goOn 25 = .ok (.goto 22, 3) := by decide +kernel
theorem dX8_goOn_28 : decode cX8_goOn 28 = .ok (.aload_n 0, 1) := by decide +kernel
theorem dX8_goOn_29 : decode cX8_goOn 29 = .ok (.getfield 52, 3) := by decide +kernel
theorem dX8_goOn_32 : decode cX8_goOn 32 = .ok (.iconst 1, 1) := by decide +kernel
theorem dX8_goOn_33 : decode cX8_goOn 33 = .ok (.if_icmp .ne 10, 3) := by decide +kernel
theorem dX8_goOn_36 : decode cX8_goOn 36 = .ok (.aload_n 0, 1) := by decide +kernel
theorem dX8_goOn_37 : decode cX8_goOn 37 = .ok (.invokevirtual 185, 3) := by decide +kernel
theorem dX8_goOn_40 : decode cX8_goOn 40 = .ok (.goto 7, 3) := by decide +kernel
theorem dX8_goOn_43 : decode cX8_goOn 43 = .ok (.aload_n 0, 1) := by decide +kernel
theorem dX8_goOn_44 : decode cX8_goOn 44 = .ok (.invokevirtual 188, 3) := by decide +kernel
theorem dX8_goOn_47 : decode cX8_goOn 47 = .ok (.iinc 2 1, 3) := by decide +kernel
theorem dX8_goOn_50 : decode cX8_goOn 50 = .ok (.goto (-48), 3) := by decide +kernel
theorem dX8_goOn_53 : decode cX8_goOn 53 = .ok (.aload_n 0, 1) := by decide +kernel
theorem dX8_goOn_54 : decode cX8_goOn 54 = .ok (.dup, 1) := by decide +kernel
theorem dX8_goOn_55 : decode cX8_goOn 55 = .ok (.getfield 58, 3) := by decide +kernel
theorem dX8_goOn_58 : decode cX8_goOn 58 = .ok (.iload_n 2, 1) := by decide +kernel
theorem dX8_goOn_59 : decode cX8_goOn 59 = .ok (.iadd, 1) := by decide +kernel
theorem dX8_goOn_60 : decode cX8_goOn 60 = .ok (.putfield 58, 3) := by decide +kernel
theorem dX8_goOn_63 : decode cX8_goOn 63 = .ok (.iload_n 2, 1) := by decide +kernel
theorem dX8_goOn_64 : decode cX8_goOn 64 = .ok (.ireturn, 1) := by decide +kernel
theorem dX8_seek_0 : decode cX8_seek 0 = .ok (.aload_n 0, 1) := by decide +kernel
theorem dX8_seek_1 : decode cX8_seek 1 = .ok (.invokevirtual 191, 3) := by decide +kernel
theorem dX8_seek_4 : decode cX8_seek 4 = .ok (.lstore_n 1, 1) := by decide +kernel
theorem dX8_seek_5 : decode cX8_seek 5 = .ok (.lload_n 1, 1) := by decide +kernel
theorem dX8_seek_6 : decode cX8_seek 6 = .ok (.lconst 0, 1) := by decide +kernel
theorem dX8_seek_7 : decode cX8_seek 7 = .ok (.lcmp, 1) := by decide +kernel
theorem dX8_seek_8 : decode cX8_seek 8 = .ok (.ifCond .ne 24, 3) := by decide +kernel
theorem dX8_seek_11 : decode cX8_seek 11 = .ok (.aload_n 0, 1) := by decide +kernel
theorem dX8_seek_12 : decode cX8_seek 12 = .ok (.dup, 1) := by decide +kernel
theorem dX8_seek_13 : decode cX8_seek 13 = .ok (.getfield 15, 3) := by decide +kernel
theorem dX8_seek_16 : decode cX8_seek 16 = .ok (.iconst 1, 1) := by decide +kernel
theorem dX8_seek_17 : decode cX8_seek 17 = .ok (.iadd, 1) := by decide +kernel
theorem dX8_seek_18 : decode cX8_seek 18 = .ok (.putfield 15, 3) := by decide +kernel
theorem dX8_seek_21 : decode cX8_seek 21 = .ok (.aload_n 0, 1) := by decide +kernel
theorem dX8_seek_22 : decode cX8_seek 22 = .ok (.iconst 2, 1) := by decide +kernel
theorem dX8_seek_23 : decode cX8_seek 23 = .ok (.putfield 52, 3) := by decide +kernel
theorem dX8_seek_26 : decode cX8_seek 26 = .ok (.aload_n 0, 1) := by decide +kernel
theorem dX8_seek_27 : decode cX8_seek 27 = .ok (.iconst 1, 1) := by decide +kernel
theorem dX8_seek_28 : decode cX8_seek 28 = .ok (.putfield 19, 3) := by decide +kernel
theorem dX8_seek_31 : decode cX8_seek 31 = .ok (.return_, 1) := by decide +kernel
theorem dX8_seek_32 : decode cX8_seek 32 = .ok (.iconst 0, 1) := by decide +kernel
theorem dX8_seek_33 : decode cX8_seek 33 = .ok (.istore_n 3, 1) := by decide +kernel
theorem dX8_seek_34 : decode cX8_seek 34 = .ok (.iload_n 3, 1) := by decide +kernel
theorem dX8_seek_35 : decode cX8_seek 35 = .ok (.aload_n 0, 1) := by decide +kernel
theorem dX8_seek_36 : decode cX8_seek 36 = .ok (.getfield 9, 3) := by decide +kernel
theorem dX8_seek_39 : decode cX8_seek 39 = .ok (.getfield 162, 3) := by decide +kernel
theorem dX8_seek_42 : decode cX8_seek 42 = .ok (.if_icmp .ge 44, 3) := by decide +kernel
theorem dX8_seek_45 : decode cX8_seek 45 = .ok (.lload_n 1, 1) := by decide +kernel
theorem dX8_seek_46 : decode cX8_seek 46 = .ok (.iload_n 3, 1) := by decide +kernel
theorem dX8_seek_47 : decode cX8_seek 47 = .ok (.invokestatic 194, 3) := by decide +kernel
theorem dX8_seek_50 : decode cX8_seek 50 = .ok (.ifCond .eq 30, 3) := by decide +kernel
theorem dX8_seek_53 : decode cX8_seek 53 = .ok (.aload_n 0, 1) := by decide +kernel
theorem dX8_seek_54 : decode cX8_seek 54 = .ok (.dup, 1) := by decide +kernel
theorem dX8_seek_55 : decode cX8_seek 55 = .ok (.getfield 55, 3) := by decide +kernel
theorem dX8_seek_58 : decode cX8_seek 58 = .ok (.iconst 1, 1) := by decide +kernel
theorem dX8_seek_59 : decode cX8_seek 59 = .ok (.iadd, 1) := by decide +kernel
theorem dX8_seek_60 : decode cX8_seek 60 = .ok (.putfield 55, 3) := by decide +kernel
theorem dX8_seek_63 : decode cX8_seek 63 = .ok (.aload_n 0, 1) := by decide +kernel
theorem dX8_seek_64 : decode cX8_seek 64 = .ok (.getfield 32, 3) := by decide +kernel
theorem dX8_seek_67 : decode cX8_seek 67 = .ok (.iload_n 3, 1) := by decide +kernel
theorem dX8_seek_68 : decode cX8_seek 68 = .ok (.aload_n 0, 1) := by decide +kernel
theorem dX8_seek_69 : decode cX8_seek 69 = .ok (.getfield 15, 3) := by decide +kernel
theorem dX8_seek_72 : decode cX8_seek 72 = .ok (.aload_n 0, 1) := by decide +kernel
theorem dX8_seek_73 : decode cX8_seek 73 = .ok (.getfield 55, 3) := by decide +kernel
theorem dX8_seek_76 : decode cX8_seek 76 = .ok (.iconst 0, 1) := by decide +kernel
theorem dX8_seek_77 : decode cX8_seek 77 = .ok (.invokevirtual 198, 3) := by decide +kernel
theorem dX8_seek_80 : decode cX8_seek 80 = .ok (.iinc 3 1, 3) := by decide +kernel
theorem dX8_seek_83 : decode cX8_seek 83 = .ok (.goto (-49), 3) := by decide +kernel
theorem dX8_seek_86 : decode cX8_seek 86 = .ok (.aload_n 0, 1) := by decide +kernel
theorem dX8_seek_87 : decode cX8_seek 87 = .ok (.iconst 1, 1) := by decide +kernel
theorem dX8_seek_88 : decode cX8_seek 88 = .ok (.putfield 52, 3) := by decide +kernel
theorem dX8_seek_91 : decode cX8_seek 91 = .ok (.return_, 1) := by decide +kernel
theorem dX8_oblige_0 : decode cX8_oblige 0 = .ok (.aload_n 0, 1) := by decide +kernel
theorem dX8_oblige_1 : decode cX8_oblige 1 = .ok (.getfield 32, 3) := by decide +kernel
theorem dX8_oblige_4 : decode cX8_oblige 4 = .ok (.getfield 83, 3) := by decide +kernel
theorem dX8_oblige_7 : decode cX8_oblige 7 = .ok (.ifCond .ne 9, 3) := by decide +kernel
theorem dX8_oblige_10 : decode cX8_oblige 10 = .ok (.aload_n 0, 1) := by decide +kernel
theorem dX8_oblige_11 : decode cX8_oblige 11 = .ok (.iconst 0, 1) := by decide +kernel
theorem dX8_oblige_12 : decode cX8_oblige 12 = .ok (.putfield 52, 3) := by decide +kernel
theorem dX8_oblige_15 : decode cX8_oblige 15 = .ok (.return_, 1) := by decide +kernel
theorem dX8_oblige_16 : decode cX8_oblige 16 = .ok (.aload_n 0, 1) := by decide +kernel
theorem dX8_oblige_17 : decode cX8_oblige 17 = .ok (.getfield 32, 3) := by decide +kernel
theorem dX8_oblige_20 : decode cX8_oblige 20 = .ok (.iconst 0, 1) := by decide +kernel
theorem dX8_oblige_21 : decode cX8_oblige 21 = .ok (.iconst 0, 1) := by decide +kernel
theorem dX8_oblige_22 : decode cX8_oblige 22 = .ok (.invokevirtual 202, 3) := by decide +kernel
theorem dX8_oblige_25 : decode cX8_oblige 25 = .ok (.istore_n 1, 1) := by decide +kernel
theorem dX8_oblige_26 : decode cX8_oblige 26 = .ok (.aload_n 0, 1) := by decide +kernel
theorem dX8_oblige_27 : decode cX8_oblige 27 = .ok (.getfield 32, 3) := by decide +kernel
theorem dX8_oblige_30 : decode cX8_oblige 30 = .ok (.iconst 0, 1) := by decide +kernel
theorem dX8_oblige_31 : decode cX8_oblige 31 = .ok (.iconst 1, 1) := by decide +kernel
theorem dX8_oblige_32 : decode cX8_oblige 32 = .ok (.invokevirtual 202, 3) := by decide +kernel
theorem dX8_oblige_35 : decode cX8_oblige 35 = .ok (.istore_n 2, 1) := by decide +kernel
theorem dX8_oblige_36 : decode cX8_oblige 36 = .ok (.aload_n 0, 1) := by decide +kernel
theorem dX8_oblige_37 : decode cX8_oblige 37 = .ok (.getfield 9, 3) := by decide +kernel
theorem dX8_oblige_40 : decode cX8_oblige 40 = .ok (.getfield 107, 3) := by decide +kernel
theorem dX8_oblige_43 : decode cX8_oblige 43 = .ok (.iload_n 1, 1) := by decide +kernel
theorem dX8_oblige_44 : decode cX8_oblige 44 = .ok (.invokestatic 194, 3) := by decide +kernel
theorem dX8_oblige_47 : decode cX8_oblige 47 = .ok (.ifCond .eq 11, 3) := by decide +kernel
theorem dX8_oblige_50 : decode cX8_oblige 50 = .ok (.aload_n 0, 1) := by decide +kernel
theorem dX8_oblige_51 : decode cX8_oblige 51 = .ok (.iconst 4, 1) := by decide +kernel
theorem dX8_oblige_52 : decode cX8_oblige 52 = .ok (.putfield 52, 3) := by decide +kernel
theorem dX8_oblige_55 : decode cX8_oblige 55 = .ok (.goto 31, 3) := by decide +kernel
theorem dX8_oblige_58 : decode cX8_oblige 58 = .ok (.aload_n 0, 1) := by decide +kernel
theorem dX8_oblige_59 : decode cX8_oblige 59 = .ok (.iload_n 2, 1) := by decide +kernel
theorem dX8_oblige_60 : decode cX8_oblige 60 = .ok (.invokevirtual 128, 3) := by decide +kernel
theorem dX8_oblige_63 : decode cX8_oblige 63 = .ok (.iload_n 1, 1) := by decide +kernel
theorem dX8_oblige_64 : decode cX8_oblige 64 = .ok (.invokestatic 194, 3) := by decide +kernel
theorem dX8_oblige_67 : decode cX8_oblige 67 = .ok (.ifCond .ne 13, 3) := by decide +kernel
theorem dX8_oblige_70 : decode cX8_oblige 70 = .ok (.aload_n 0, 1) := by decide +kernel
theorem dX8_oblige_71 : decode cX8_oblige 71 = .ok (.getfield 32, 3) := by decide +kernel
theorem dX8_oblige_74 : decode cX8_oblige 74 = .ok (.invokevirtual 205, 3) := by decide +kernel
theorem dX8_oblige_77 : decode cX8_oblige 77 = .ok (.goto 9, 3) := by decide +kernel
theorem dX8_oblige_80 : decode cX8_oblige 80 = .ok (.aload_n 0, 1) := by decide +kernel
theorem dX8_oblige_81 : decode cX8_oblige 81 = .ok (.iload_n 1, 1) := by decide +kernel
theorem dX8_oblige_82 : decode cX8_oblige 82 = .ok (.iload_n 2, 1) := by decide +kernel
theorem dX8_oblige_83 : decode cX8_oblige 83 = .ok (.invokevirtual 208, 3) := by decide +kernel
theorem dX8_oblige_86 : decode cX8_oblige 86 = .ok (.return_, 1) := by decide +kernel
theorem dX8_meet_0 : decode cX8_meet 0 = .ok (.aload_n 0, 1) := by decide +kernel
theorem dX8_meet_1 : decode cX8_meet 1 = .ok (.dup, 1) := by decide +kernel
theorem dX8_meet_2 : decode cX8_meet 2 = .ok (.getfield 61, 3) := by decide +kernel
theorem dX8_meet_5 : decode cX8_meet 5 = .ok (.iconst 1, 1) := by decide +kernel
theorem dX8_meet_6 : decode cX8_meet 6 = .ok (.iadd, 1) := by decide +kernel
theorem dX8_meet_7 : decode cX8_meet 7 = .ok (.putfield 61, 3) := by decide +kernel
theorem dX8_meet_10 : decode cX8_meet 10 = .ok (.aload_n 0, 1) := by decide +kernel
theorem dX8_meet_11 : decode cX8_meet 11 = .ok (.iload_n 1, 1) := by decide +kernel
theorem dX8_meet_12 : decode cX8_meet 12 = .ok (.iload_n 2, 1) := by decide +kernel
theorem dX8_meet_13 : decode cX8_meet 13 = .ok (.iconst 1, 1) := by decide +kernel
theorem dX8_meet_14 : decode cX8_meet 14 = .ok (.isub, 1) := by decide +kernel
theorem dX8_meet_15 : decode cX8_meet 15 = .ok (.invokevirtual 212, 3) := by decide +kernel
theorem dX8_meet_18 : decode cX8_meet 18 = .ok (.istore_n 3, 1) := by decide +kernel
theorem dX8_meet_19 : decode cX8_meet 19 = .ok (.iload_n 3, 1) := by decide +kernel
theorem dX8_meet_20 : decode cX8_meet 20 = .ok (.iconst (-1), 1) := by decide +kernel
theorem dX8_meet_21 : decode cX8_meet 21 = .ok (.if_icmp .eq 38, 3) := by decide +kernel
theorem dX8_meet_24 : decode cX8_meet 24 = .ok (.aload_n 0, 1) := by decide +kernel
theorem dX8_meet_25 : decode cX8_meet 25 = .ok (.dup, 1) := by decide +kernel
theorem dX8_meet_26 : decode cX8_meet 26 = .ok (.getfield 55, 3) := by decide +kernel
theorem dX8_meet_29 : decode cX8_meet 29 = .ok (.iconst 1, 1) := by decide +kernel
theorem dX8_meet_30 : decode cX8_meet 30 = .ok (.iadd, 1) := by decide +kernel
theorem dX8_meet_31 : decode cX8_meet 31 = .ok (.putfield 55, 3) := by decide +kernel
theorem dX8_meet_34 : decode cX8_meet 34 = .ok (.aload_n 0, 1) := by decide +kernel
theorem dX8_meet_35 : decode cX8_meet 35 = .ok (.getfield 32, 3) := by decide +kernel
theorem dX8_meet_38 : decode cX8_meet 38 = .ok (.iload_n 3, 1) := by decide +kernel
theorem dX8_meet_39 : decode cX8_meet 39 = .ok (.iload_n 2, 1) := by decide +kernel
theorem dX8_meet_40 : decode cX8_meet 40 = .ok (.iconst 1, 1) := by decide +kernel
theorem dX8_meet_41 : decode cX8_meet 41 = .ok (.isub, 1) := by decide +kernel
theorem dX8_meet_42 : decode cX8_meet 42 = .ok (.aload_n 0, 1) := by decide +kernel
theorem dX8_meet_43 : decode cX8_meet 43 = .ok (.getfield 55, 3) := by decide +kernel
theorem dX8_meet_46 : decode cX8_meet 46 = .ok (.aload_n 0, 1) := by decide +kernel
theorem dX8_meet_47 : decode cX8_meet 47 = .ok (.getfield 32, 3) := by decide +kernel
theorem dX8_meet_50 : decode cX8_meet 50 = .ok (.iconst 0, 1) := by decide +kernel
theorem dX8_meet_51 : decode cX8_meet 51 = .ok (.iconst 2, 1) := by decide +kernel
theorem dX8_meet_52 : decode cX8_meet 52 = .ok (.invokevirtual 202, 3) := by decide +kernel
theorem dX8_meet_55 : decode cX8_meet 55 = .ok (.invokevirtual 198, 3) := by decide +kernel
theorem dX8_meet_58 : decode cX8_meet 58 = .ok (.return_, 1) := by decide +kernel
theorem dX8_meet_59 : decode cX8_meet 59 = .ok (.aload_n 0, 1) := by decide +kernel
theorem dX8_meet_60 : decode cX8_meet 60 = .ok (.iload_n 1, 1) := by decide +kernel
theorem dX8_meet_61 : decode cX8_meet 61 = .ok (.iload_n 2, 1) := by decide +kernel
theorem dX8_meet_62 : decode cX8_meet 62 = .ok (.iconst 1, 1) := by decide +kernel
theorem dX8_meet_63 : decode cX8_meet 63 = .ok (.invokevirtual 215, 3) := by decide +kernel
theorem dX8_meet_66 : decode cX8_meet 66 = .ok (.istore 4, 2) := by decide +kernel
theorem dX8_meet_68 : decode cX8_meet 68 = .ok (.aload_n 0, 1) := by decide +kernel
theorem dX8_meet_69 : decode cX8_meet 69 = .ok (.getfield 25, 3) := by decide +kernel
theorem dX8_meet_72 : decode cX8_meet 72 = .ok (.aload_n 0, 1) := by decide +kernel
theorem dX8_meet_73 : decode cX8_meet 73 = .ok (.iload 4, 2) := by decide +kernel
theorem dX8_meet_75 : decode cX8_meet 75 = .ok (.iload_n 2, 1) := by decide +kernel
theorem dX8_meet_76 : decode cX8_meet 76 = .ok (.invokevirtual 219, 3) := by decide +kernel
theorem dX8_meet_79 : decode cX8_meet 79 = .ok (.iload 4, 2) := by decide +kernel
theorem dX8_meet_81 : decode cX8_meet 81 = .ok (.invokevirtual 222, 3) := by decide +kernel
theorem dX8_meet_84 : decode cX8_meet 84 = .ok (.aload_n 0, 1) := by decide +kernel
theorem dX8_meet_85 : decode cX8_meet 85 = .ok (.getfield 39, 3) := by decide +kernel
theorem dX8_meet_88 : decode cX8_meet 88 = .ok (.iload 4, 2) := by decide +kernel
theorem dX8_meet_90 : decode cX8_meet 90 = .ok (.invokestatic 225, 3) := by decide +kernel
theorem dX8_meet_93 : decode cX8_meet 93 = .ok (.invokevirtual 228, 3) := by decide +kernel
theorem dX8_meet_96 : decode cX8_meet 96 = .ok (.aload_n 0, 1) := by decide +kernel
theorem dX8_meet_97 : decode cX8_meet 97 = .ok (.dup, 1) := by decide +kernel
theorem dX8_meet_98 : decode cX8_meet 98 = .ok (.getfield 64, 3) := by decide +kernel
theorem dX8_meet_101 : decode cX8_meet 101 = .ok (.iconst 1, 1) := by decide +kernel
theorem dX8_meet_102 : decode cX8_meet 102 = .ok (.iadd, 1) := by decide +kernel
theorem dX8_meet_103 : decode cX8_meet 103 = .ok (.putfield 64, 3) := by decide +kernel
theorem dX8_meet_106 : decode cX8_meet 106 = .ok (.aload_n 0, 1) := by decide +kernel
theorem dX8_meet_107 : decode cX8_meet 107 = .ok (.getfield 32, 3) := by decide +kernel
theorem dX8_meet_110 : decode cX8_meet 110 = .ok (.invokevirtual 205, 3) := by decide +kernel
theorem dX8_meet_113 : decode cX8_meet 113 = .ok (.return_, 1) := by decide +kernel
theorem dX8_highestFor_0 : decode cX8_highestFor 0 = .ok (.iload_n 2, 1) := by decide +kernel
theorem dX8_highestFor_1 : decode cX8_highestFor 1 = .ok (.istore_n 3, 1) := by decide +kernel
theorem dX8_highestFor_2 : decode cX8_highestFor 2 = .ok (.iconst 1, 1) := by decide +kernel
theorem dX8_highestFor_3 : decode cX8_highestFor 3 = .ok (.istore 4, 2) := by decide +kernel
theorem dX8_highestFor_5 : decode cX8_highestFor 5 = .ok (.iload_n 3, 1) := by decide +kernel
theorem dX8_highestFor_6 : decode cX8_highestFor 6 = .ok (.aload_n 0, 1) := by decide +kernel
theorem dX8_highestFor_7 : decode cX8_highestFor 7 = .ok (.getfield 15, 3) := by decide +kernel
theorem dX8_highestFor_10 : decode cX8_highestFor 10 = .ok (.if_icmp .ge 46, 3) := by decide +kernel
theorem dX8_highestFor_13 : decode cX8_highestFor 13 = .ok (.iload 4, 2) := by decide +kernel
theorem dX8_highestFor_15 : decode cX8_highestFor 15 = .ok (.ifCond .eq 41, 3) := by decide +kernel
theorem dX8_highestFor_18 : decode cX8_highestFor 18 = .ok (.aload_n 0, 1) := by decide +kernel
theorem dX8_highestFor_19 : decode cX8_highestFor 19 = .ok (.dup, 1) := by decide +kernel
theorem dX8_highestFor_20 : decode cX8_highestFor 20 = .ok (.getfield 61, 3) := by decide +kernel
theorem dX8_highestFor_23 : decode cX8_highestFor 23 = .ok (.iconst 1, 1) := by decide +kernel
theorem dX8_highestFor_24 : decode cX8_highestFor 24 = .ok (.iadd, 1) := by decide +kernel
theorem dX8_highestFor_25 : decode cX8_highestFor 25 = .ok (.putfield 61, 3) := by decide +kernel
theorem dX8_highestFor_28 : decode cX8_highestFor 28 = .ok (.aload_n 0, 1) := by decide +kernel
theorem dX8_highestFor_29 : decode cX8_highestFor 29 = .ok (.iload_n 1, 1) := by decide +kernel
theorem dX8_highestFor_30 : decode cX8_highestFor 30 = .ok (.aload_n 0, 1) := by decide +kernel
theorem dX8_highestFor_31 : decode cX8_highestFor 31 = .ok (.iload_n 3, 1) := by decide +kernel
theorem dX8_highestFor_32 : decode cX8_highestFor 32 = .ok (.invokevirtual 128, 3) := by decide +kernel
theorem dX8_highestFor_35 : decode cX8_highestFor 35 = .ok (.invokevirtual 149, 3) := by decide +kernel
theorem dX8_highestFor_38 : decode cX8_highestFor 38 = .ok (.istore 4, 2) := by decide +kernel
theorem dX8_highestFor_40 : decode cX8_highestFor 40 = .ok (.iload_n 3, 1) := by decide +kernel
theorem dX8_highestFor_41 : decode cX8_highestFor 41 = .ok (.iload 4, 2) := by decide +kernel
theorem dX8_highestFor_43 : decode cX8_highestFor 43 = .ok (.ifCond .eq 7, 3) := by decide +kernel
theorem dX8_highestFor_46 : decode cX8_highestFor 46 = .ok (.iconst 1, 1) := by decide +kernel
theorem dX8_highestFor_47 : decode cX8_highestFor 47 = .ok (.goto 4, 3) := by decide +kernel
theorem dX8_highestFor_50 : decode cX8_highestFor 50 = .ok (.iconst 0, 1) := by decide +kernel
theorem dX8_highestFor_51 : decode cX8_highestFor 51 = .ok (.iadd, 1) := by decide +kernel
theorem dX8_highestFor_52 : decode cX8_highestFor 52 = .ok (.istore_n 3, 1) := by decide +kernel
theorem dX8_highestFor_53 : decode cX8_highestFor 53 = .ok (.goto (-48), 3) := by decide +kernel
theorem dX8_highestFor_56 : decode cX8_highestFor 56 = .ok (.iload_n 3, 1) := by decide +kernel
theorem dX8_highestFor_57 : decode cX8_highestFor 57 = .ok (.ireturn, 1) := by decide +kernel
theorem dX8_push_0 : decode cX8_push 0 = .ok (.aload_n 0, 1) := by decide +kernel
theorem dX8_push_1 : decode cX8_push 1 = .ok (.aload_n 0, 1) := by decide +kernel
theorem dX8_push_2 : decode cX8_push 2 = .ok (.getfield 19, 3) := by decide +kernel
theorem dX8_push_5 : decode cX8_push 5 = .ok (.invokevirtual 128, 3) := by decide +kernel
theorem dX8_push_8 : decode cX8_push 8 = .ok (.lstore_n 1, 1) := by decide +kernel
theorem dX8_push_9 : decode cX8_push 9 = .ok (.aload_n 0, 1) := by decide +kernel
theorem dX8_push_10 : decode cX8_push 10 = .ok (.getfield 25, 3) := by decide +kernel
theorem dX8_push_13 : decode cX8_push 13 = .ok (.aload_n 0, 1) := by decide +kernel
theorem dX8_push_14 : decode cX8_push 14 = .ok (.getfield 19, 3) := by decide +kernel
theorem dX8_push_17 : decode cX8_push 17 = .ok (.invokevirtual 114, 3) := by decide +kernel
theorem dX8_push_20 : decode cX8_push 20 = .ok (.istore_n 3, 1) := by decide +kernel
theorem dX8_push_21 : decode cX8_push 21 = .ok (.aload_n 0, 1) := by decide +kernel
theorem dX8_push_22 : decode cX8_push 22 = .ok (.getfield 25, 3) := by decide +kernel
theorem dX8_push_25 : decode cX8_push 25 = .ok (.getfield 80, 3) := by decide +kernel
theorem dX8_push_28 : decode cX8_push 28 = .ok (.istore 4, 2) := by decide +kernel
theorem dX8_push_30 : decode cX8_push 30 = .ok (.iconst 0, 1) := by decide +kernel
theorem dX8_push_31 : decode cX8_push 31 = .ok (.istore 5, 2) := by decide +kernel
theorem dX8_push_33 : decode cX8_push 33 = .ok (.iload 5, 2) := by decide +kernel
theorem dX8_push_35 : decode cX8_push 35 = .ok (.iload 4, 2) := by decide +kernel
theorem dX8_push_37 : decode cX8_push 37 = .ok (.if_icmp .ge 85, 3) := by decide +kernel
theorem dX8_push_40 : decode cX8_push 40 = .ok (.aload_n 0, 1) := by decide +kernel
theorem dX8_push_41 : decode cX8_push 41 = .ok (.getfield 25, 3) := by decide +kernel
theorem dX8_push_44 : decode cX8_push 44 = .ok (.iload_n 3, 1) := by decide +kernel
theorem dX8_push_45 : decode cX8_push 45 = .ok (.aload_n 0, 1) := by decide +kernel
theorem dX8_push_46 : decode cX8_push 46 = .ok (.getfield 19, 3) := by decide +kernel
theorem dX8_push_49 : decode cX8_push 49 = .ok (.invokevirtual 232, 3) := by decide +kernel
theorem dX8_push_52 : decode cX8_push 52 = .ok (.ifCond .eq 70, 3) := by decide +kernel
theorem dX8_push_55 : decode cX8_push 55 = .ok (.aload_n 0, 1) := by decide +kernel
theorem dX8_push_56 : decode cX8_push 56 = .ok (.getfield 25, 3) := by decide +kernel
theorem dX8_push_59 : decode cX8_push 59 = .ok (.iload_n 3, 1) := by decide +kernel
theorem dX8_push_60 : decode cX8_push 60 = .ok (.invokevirtual 236, 3) := by decide +kernel
theorem dX8_push_63 : decode cX8_push 63 = .ok (.istore 6, 2) := by decide +kernel
theorem dX8_push_65 : decode cX8_push 65 = .ok (.aload_n 0, 1) := by decide +kernel
theorem dX8_push_66 : decode cX8_push 66 = .ok (.dup, 1) := by decide +kernel
theorem dX8_push_67 : decode cX8_push 67 = .ok (.getfield 61, 3) := by decide +kernel
theorem dX8_push_70 : decode cX8_push 70 = .ok (.iconst 1, 1) := by decide +kernel
theorem dX8_push_71 : decode cX8_push 71 = .ok (.iadd, 1) := by decide +kernel
theorem dX8_push_72 : decode cX8_push 72 = .ok (.putfield 61, 3) := by decide +kernel
theorem dX8_push_75 : decode cX8_push 75 = .ok (.aload_n 0, 1) := by decide +kernel
theorem dX8_push_76 : decode cX8_push 76 = .ok (.iload 6, 2) := by decide +kernel
theorem dX8_push_78 : decode cX8_push 78 = .ok (.lload_n 1, 1) := by decide +kernel
theorem dX8_push_79 : decode cX8_push 79 = .ok (.invokevirtual 149, 3) := by decide +kernel
theorem dX8_push_82 : decode cX8_push 82 = .ok (.ifCond .eq 31, 3) := by decide +kernel
theorem dX8_push_85 : decode cX8_push 85 = .ok (.aload_n 0, 1) := by decide +kernel
theorem dX8_push_86 : decode cX8_push 86 = .ok (.getfield 25, 3) := by decide +kernel
theorem dX8_push_89 : decode cX8_push 89 = .ok (.aload_n 0, 1) := by decide +kernel
theorem dX8_push_90 : decode cX8_push 90 = .ok (.getfield 19, 3) := by decide +kernel
theorem dX8_push_93 : decode cX8_push 93 = .ok (.iconst 1, 1) := by decide +kernel
theorem dX8_push_94 : decode cX8_push 94 = .ok (.iadd, 1) := by decide +kernel
theorem dX8_push_95 : decode cX8_push 95 = .ok (.iload 6, 2) := by decide +kernel
theorem dX8_push_97 : decode cX8_push 97 = .ok (.invokevirtual 222, 3) := by decide +kernel
theorem dX8_push_100 : decode cX8_push 100 = .ok (.aload_n 0, 1) := by decide +kernel
theorem dX8_push_101 : decode cX8_push 101 = .ok (.dup, 1) := by decide +kernel
theorem dX8_push_102 : decode cX8_push 102 = .ok (.getfield 67, 3) := by decide +kernel
theorem dX8_push_105 : decode cX8_push 105 = .ok (.iconst 1, 1) := by decide +kernel
theorem dX8_push_106 : decode cX8_push 106 = .ok (.iadd, 1) := by decide +kernel
theorem dX8_push_107 : decode cX8_push 107 = .ok (.putfield 67, 3) := by decide +kernel
theorem dX8_push_110 : decode cX8_push 110 = .ok (.goto 6, 3) := by decide +kernel
theorem dX8_push_113 : decode cX8_push 113 = .ok (.iinc 3 1, 3) := by decide +kernel
theorem dX8_push_116 : decode cX8_push 116 = .ok (.iinc 5 1, 3) := by decide +kernel
theorem dX8_push_119 : decode cX8_push 119 = .ok (.goto (-86), 3) := by decide +kernel
theorem dX8_push_122 : decode cX8_push 122 = .ok (.aload_n 0, 1) := by decide +kernel
theorem dX8_push_123 : decode cX8_push 123 = .ok (.getfield 25, 3) := by decide +kernel
theorem dX8_push_126 : decode cX8_push 126 = .ok (.aload_n 0, 1) := by decide +kernel
theorem dX8_push_127 : decode cX8_push 127 = .ok (.getfield 19, 3) := by decide +kernel
theorem dX8_push_130 : decode cX8_push 130 = .ok (.invokevirtual 239, 3) := by decide +kernel
theorem dX8_push_133 : decode cX8_push 133 = .ok (.ifCond .ne 9, 3) := by decide +kernel
theorem dX8_push_136 : decode cX8_push 136 = .ok (.aload_n 0, 1) := by decide +kernel
theorem dX8_push_137 : decode cX8_push 137 = .ok (.iconst 3, 1) := by decide +kernel
theorem dX8_push_138 : decode cX8_push 138 = .ok (.putfield 52, 3) := by decide +kernel
theorem dX8_push_141 : decode cX8_push 141 = .ok (.return_, 1) := by decide +kernel
theorem dX8_push_142 : decode cX8_push 142 = .ok (.aload_n 0, 1) := by decide +kernel
theorem dX8_push_143 : decode cX8_push 143 = .ok (.dup, 1) := by decide +kernel
theorem dX8_push_144 : decode cX8_push 144 = .ok (.getfield 19, 3) := by decide +kernel
theorem dX8_push_147 : decode cX8_push 147 = .ok (.iconst 1, 1) := by decide +kernel
theorem dX8_push_148 : decode cX8_push 148 = .ok (.iadd, 1) := by decide +kernel
theorem dX8_push_149 : decode cX8_push 149 = .ok (.putfield 19, 3) := by decide +kernel
theorem dX8_push_152 : decode cX8_push 152 = .ok (.aload_n 0, 1) := by decide +kernel
theorem dX8_push_153 : decode cX8_push 153 = .ok (.getfield 19, 3) := by decide +kernel
theorem dX8_push_156 : decode cX8_push 156 = .ok (.aload_n 0, 1) := by decide +kernel
theorem dX8_push_157 : decode cX8_push 157 = .ok (.getfield 15, 3) := by decide +kernel
theorem dX8_push_160 : decode cX8_push 160 = .ok (.if_icmp .lt 8, 3) := by decide +kernel
theorem dX8_push_163 : decode cX8_push 163 = .ok (.aload_n 0, 1) := by decide +kernel
theorem dX8_push_164 : decode cX8_push 164 = .ok (.iconst 0, 1) := by decide +kernel
theorem dX8_push_165 : decode cX8_push 165 = .ok (.putfield 52, 3) := by decide +kernel
theorem dX8_push_168 : decode cX8_push 168 = .ok (.return_, 1) := by decide +kernel
theorem dX8_fenceStart_0 : decode cX8_fenceStart 0 = .ok (.aload_n 0, 1) := by decide +kernel
theorem dX8_fenceStart_1 : decode cX8_fenceStart 1 = .ok (.getfield 25, 3) := by decide +kernel
theorem dX8_fenceStart_4 : decode cX8_fenceStart 4 = .ok (.aload_n 0, 1) := by decide +kernel
theorem dX8_fenceStart_5 : decode cX8_fenceStart 5 = .ok (.getfield 19, 3) := by decide +kernel
theorem dX8_fenceStart_8 : decode cX8_fenceStart 8 = .ok (.iconst 1, 1) := by decide +kernel
theorem dX8_fenceStart_9 : decode cX8_fenceStart 9 = .ok (.iadd, 1) := by decide +kernel
theorem dX8_fenceStart_10 : decode cX8_fenceStart 10 = .ok (.invokevirtual 114, 3) := by decide +kernel
theorem dX8_fenceStart_13 : decode cX8_fenceStart 13 = .ok (.ireturn, 1) := by decide +kernel
theorem dX8_judgementOf_0 : decode cX8_judgementOf 0 = .ok (.aload_n 0, 1) := by decide +kernel
theorem dX8_judgementOf_1 : decode cX8_judgementOf 1 = .ok (.getfield 9, 3) := by decide +kernel
theorem dX8_judgementOf_4 : decode cX8_judgementOf 4 = .ok (.getfield 107, 3) := by decide +kernel
theorem dX8_judgementOf_7 : decode cX8_judgementOf 7 = .ok (.lload_n 1, 1) := by decide +kernel
theorem dX8_judgementOf_8 : decode cX8_judgementOf 8 = .ok (.land, 1) := by decide +kernel
theorem dX8_judgementOf_9 : decode cX8_judgementOf 9 = .ok (.lconst 0, 1) := by decide +kernel
theorem dX8_judgementOf_10 : decode cX8_judgementOf 10 = .ok (.lcmp, 1) := by decide +kernel
theorem dX8_judgementOf_11 : decode cX8_judgementOf 11 = .ok (.ifCond .eq 5, 3) := by decide +kernel
theorem dX8_judgementOf_14 : decode cX8_judgementOf 14 = .ok (.iconst 1, 1) := by decide +kernel
theorem dX8_judgementOf_15 : decode cX8_judgementOf 15 = .ok (.ireturn, 1) := by decide +kernel
theorem dX8_judgementOf_16 : decode cX8_judgementOf 16 = .ok (.aload_n 0, 1) := by decide +kernel
theorem dX8_judgementOf_17 : decode cX8_judgementOf 17 = .ok (.getfield 9, 3) := by decide +kernel
theorem dX8_judgementOf_20 : decode cX8_judgementOf 20 = .ok (.lload_n 1, 1) := by decide +kernel
theorem dX8_judgementOf_21 : decode cX8_judgementOf 21 = .ok (.invokevirtual 139, 3) := by decide +kernel
theorem dX8_judgementOf_24 : decode cX8_judgementOf 24 = .ok (.lload_n 1, 1) := by decide +kernel
theorem dX8_judgementOf_25 : decode cX8_judgementOf 25 = .ok (.ldc2_w 122, 3) := by decide +kernel
theorem dX8_judgementOf_28 : decode cX8_judgementOf 28 = .ok (.lxor, 1) := by decide +kernel
theorem dX8_judgementOf_29 : decode cX8_judgementOf 29 = .ok (.land, 1) := by decide +kernel
theorem dX8_judgementOf_30 : decode cX8_judgementOf 30 = .ok (.lconst 0, 1) := by decide +kernel
theorem dX8_judgementOf_31 : decode cX8_judgementOf 31 = .ok (.lcmp, 1) := by decide +kernel
theorem dX8_judgementOf_32 : decode cX8_judgementOf 32 = .ok (.ifCond .eq 5, 3) := by decide +kernel
theorem dX8_judgementOf_35 : decode cX8_judgementOf 35 = .ok (.iconst 2, 1) := by decide +kernel
theorem dX8_judgementOf_36 : decode cX8_judgementOf 36 = .ok (.ireturn, 1) := by decide +kernel
theorem dX8_judgementOf_37 : decode cX8_judgementOf 37 = .ok (.aload_n 0, 1) := by decide +kernel
theorem dX8_judgementOf_38 : decode cX8_judgementOf 38 = .ok (.invokevirtual 124, 3) := by decide +kernel
theorem dX8_judgementOf_41 : decode cX8_judgementOf 41 = .ok (.lload_n 1, 1) := by decide +kernel
theorem dX8_judgementOf_42 : decode cX8_judgementOf 42 = .ok (.ldc2_w 122, 3) := by decide +kernel
theorem dX8_judgementOf_45 : decode cX8_judgementOf 45 = .ok (.lxor, 1) := by decide +kernel
theorem dX8_judgementOf_46 : decode cX8_judgementOf 46 = .ok (.land, 1) := by decide +kernel
theorem dX8_judgementOf_47 : decode cX8_judgementOf 47 = .ok (.lconst 0, 1) := by decide +kernel
theorem dX8_judgementOf_48 : decode cX8_judgementOf 48 = .ok (.lcmp, 1) := by decide +kernel
theorem dX8_judgementOf_49 : decode cX8_judgementOf 49 = .ok (.ifCond .eq 7, 3) := by decide +kernel
theorem dX8_judgementOf_52 : decode cX8_judgementOf 52 = .ok (.iconst 3, 1) := by decide +kernel
theorem dX8_judgementOf_53 : decode cX8_judgementOf 53 = .ok (.goto 4, 3) := by decide +kernel
theorem dX8_judgementOf_56 : decode cX8_judgementOf 56 = .ok (.iconst 0, 1) := by decide +kernel
theorem dX8_judgementOf_57 : decode cX8_judgementOf 57 = .ok (.ireturn, 1) := by decide +kernel
theorem dX8_witnessOf_0 : decode cX8_witnessOf 0 = .ok (.aload_n 0, 1) := by decide +kernel
theorem dX8_witnessOf_1 : decode cX8_witnessOf 1 = .ok (.lload_n 1, 1) := by decide +kernel
theorem dX8_witnessOf_2 : decode cX8_witnessOf 2 = .ok (.invokevirtual 242, 3) := by decide +kernel
theorem dX8_witnessOf_5 : decode cX8_witnessOf 5 = .ok (.tableswitch 72 1 3 #[27, 40, 58], 27) := by decide +kernel
theorem dX8_witnessOf_32 : decode cX8_witnessOf 32 = .ok (.aload_n 0, 1) := by decide +kernel
theorem dX8_witnessOf_33 : decode cX8_witnessOf 33 = .ok (.getfield 9, 3) := by decide +kernel
theorem dX8_witnessOf_36 : decode cX8_witnessOf 36 = .ok (.getfield 107, 3) := by decide +kernel
theorem dX8_witnessOf_39 : decode cX8_witnessOf 39 = .ok (.lload_n 1, 1) := by decide +kernel
theorem dX8_witnessOf_40 : decode cX8_witnessOf 40 = .ok (.land, 1) := by decide +kernel
theorem dX8_witnessOf_41 : decode cX8_witnessOf 41 = .ok (.invokestatic 156, 3) := by decide +kernel
theorem dX8_witnessOf_44 : decode cX8_witnessOf 44 = .ok (.ireturn, 1) := by decide +kernel
theorem dX8_witnessOf_45 : decode cX8_witnessOf 45 = .ok (.aload_n 0, 1) := by decide +kernel
theorem dX8_witnessOf_46 : decode cX8_witnessOf 46 = .ok (.getfield 9, 3) := by decide +kernel
theorem dX8_witnessOf_49 : decode cX8_witnessOf 49 = .ok (.lload_n 1, 1) := by decide +kernel
theorem dX8_witnessOf_50 : decode cX8_witnessOf 50 = .ok (.invokevirtual 139, 3) := by decide +kernel
theorem dX8_witnessOf_53 : decode cX8_witnessOf 53 = .ok (.lload_n 1, 1) := by decide +kernel
theorem dX8_witnessOf_54 : decode cX8_witnessOf 54 = .ok (.ldc2_w 122, 3) := by decide +kernel
theorem dX8_witnessOf_57 : decode cX8_witnessOf 57 = .ok (.lxor, 1) := by decide +kernel
theorem dX8_witnessOf_58 : decode cX8_witnessOf 58 = .ok (.land, 1) := by decide +kernel
theorem dX8_witnessOf_59 : decode cX8_witnessOf 59 = .ok (.invokestatic 156, 3) := by decide +kernel
theorem dX8_witnessOf_62 : decode cX8_witnessOf 62 = .ok (.ireturn, 1) := by decide +kernel
theorem dX8_witnessOf_63 : decode cX8_witnessOf 63 = .ok (.aload_n 0, 1) := by decide +kernel
theorem dX8_witnessOf_64 : decode cX8_witnessOf 64 = .ok (.invokevirtual 124, 3) := by decide +kernel
theorem dX8_witnessOf_67 : decode cX8_witnessOf 67 = .ok (.lload_n 1, 1) := by decide +kernel
theorem dX8_witnessOf_68 : decode cX8_witnessOf 68 = .ok (.ldc2_w 122, 3) := by decide +kernel
theorem dX8_witnessOf_71 : decode cX8_witnessOf 71 = .ok (.lxor, 1) := by decide +kernel
theorem dX8_witnessOf_72 : decode cX8_witnessOf 72 = .ok (.land, 1) := by decide +kernel
theorem dX8_witnessOf_73 : decode cX8_witnessOf 73 = .ok (.invokestatic 156, 3) := by decide +kernel
theorem dX8_witnessOf_76 : decode cX8_witnessOf 76 = .ok (.ireturn, 1) := by decide +kernel
theorem dX8_witnessOf_77 : decode cX8_witnessOf 77 = .ok (.iconst (-1), 1) := by decide +kernel
theorem dX8_witnessOf_78 : decode cX8_witnessOf 78 = .ok (.ireturn, 1) := by decide +kernel
theorem dX8_loosenClaim_0 : decode cX8_loosenClaim 0 = .ok (.aload_n 0, 1) := by decide +kernel
theorem dX8_loosenClaim_1 : decode cX8_loosenClaim 1 = .ok (.getfield 43, 3) := by decide +kernel
theorem dX8_loosenClaim_4 : decode cX8_loosenClaim 4 = .ok (.iload_n 1, 1) := by decide +kernel
theorem dX8_loosenClaim_5 : decode cX8_loosenClaim 5 = .ok (.invokevirtual 245, 3) := by decide +kernel
theorem dX8_loosenClaim_8 : decode cX8_loosenClaim 8 = .ok (.lstore_n 2, 1) := by decide +kernel
theorem dX8_loosenClaim_9 : decode cX8_loosenClaim 9 = .ok (.aload_n 0, 1) := by decide +kernel
theorem dX8_loosenClaim_10 : decode cX8_loosenClaim 10 = .ok (.getfield 43, 3) := by decide +kernel
theorem dX8_loosenClaim_13 : decode cX8_loosenClaim 13 = .ok (.iload_n 1, 1) := by decide +kernel
theorem dX8_loosenClaim_14 : decode cX8_loosenClaim 14 = .ok (.invokevirtual 236, 3) := by decide +kernel
theorem dX8_loosenClaim_17 : decode cX8_loosenClaim 17 = .ok (.istore 4, 2) := by decide +kernel
theorem dX8_loosenClaim_19 : decode cX8_loosenClaim 19 = .ok (.iconst 0, 1) := by decide +kernel
theorem dX8_loosenClaim_20 : decode cX8_loosenClaim 20 = .ok (.istore 5, 2) := by decide +kernel
theorem dX8_loosenClaim_22 : decode cX8_loosenClaim 22 = .ok (.iload 5, 2) := by decide +kernel
theorem dX8_loosenClaim_24 : decode cX8_loosenClaim 24 = .ok (.aload_n 0, 1) := by decide +kernel
theorem dX8_loosenClaim_25 : decode cX8_loosenClaim 25 = .ok (.getfield 9, 3) := by decide +kernel
theorem dX8_loosenClaim_28 : decode cX8_loosenClaim 28 = .ok (.getfield 168, 3) := by decide +kernel
theorem dX8_loosenClaim_31 : decode cX8_loosenClaim 31 = .ok (.if_icmp .ge 54, 3) := by decide +kernel
theorem dX8_loosenClaim_34 : decode cX8_loosenClaim 34 = .ok (.iload 4, 2) := by decide +kernel
theorem dX8_loosenClaim_36 : decode cX8_loosenClaim 36 = .ok (.aload_n 0, 1) := by decide +kernel
theorem dX8_loosenClaim_37 : decode cX8_loosenClaim 37 = .ok (.getfield 39, 3) := by decide +kernel
theorem dX8_loosenClaim_40 : decode cX8_loosenClaim 40 = .ok (.iload 5, 2) := by decide +kernel
theorem dX8_loosenClaim_42 : decode cX8_loosenClaim 42 = .ok (.aload_n 0, 1) := by decide +kernel
theorem dX8_loosenClaim_43 : decode cX8_loosenClaim 43 = .ok (.getfield 49, 3) := by decide +kernel
theorem dX8_loosenClaim_46 : decode cX8_loosenClaim 46 = .ok (.aload_n 0, 1) := by decide +kernel
theorem dX8_loosenClaim_47 : decode cX8_loosenClaim 47 = .ok (.getfield 9, 3) := by decide +kernel
theorem dX8_loosenClaim_50 : decode cX8_loosenClaim 50 = .ok (.getfield 168, 3) := by decide +kernel
theorem dX8_loosenClaim_53 : decode cX8_loosenClaim 53 = .ok (.invokevirtual 171, 3) := by decide +kernel
theorem dX8_loosenClaim_56 : decode cX8_loosenClaim 56 = .ok (.invokestatic 175, 3) := by decide +kernel
theorem dX8_loosenClaim_59 : decode cX8_loosenClaim 59 = .ok (.istore 6, 2) := by decide +kernel
theorem dX8_loosenClaim_61 : decode cX8_loosenClaim 61 = .ok (.aload_n 0, 1) := by decide +kernel
theorem dX8_loosenClaim_62 : decode cX8_loosenClaim 62 = .ok (.lload_n 2, 1) := by decide +kernel
theorem dX8_loosenClaim_63 : decode cX8_loosenClaim 63 = .ok (.iload 6, 2) := by decide +kernel
theorem dX8_loosenClaim_65 : decode cX8_loosenClaim 65 = .ok (.invokestatic 134, 3) := by decide +kernel
theorem dX8_loosenClaim_68 : decode cX8_loosenClaim 68 = .ok (.lor, 1) := by decide +kernel
theorem dX8_loosenClaim_69 : decode cX8_loosenClaim 69 = .ok (.invokevirtual 242, 3) := by decide +kernel
theorem dX8_loosenClaim_72 : decode cX8_loosenClaim 72 = .ok (.ifCond .ne 7, 3) := by decide +kernel
theorem dX8_loosenClaim_75 : decode cX8_loosenClaim 75 = .ok (.iload 6, 2) := by decide +kernel
theorem dX8_loosenClaim_77 : decode cX8_loosenClaim 77 = .ok (.istore 4, 2) := by decide +kernel
theorem dX8_loosenClaim_79 : decode cX8_loosenClaim 79 = .ok (.iinc 5 1, 3) := by decide +kernel
theorem dX8_loosenClaim_82 : decode cX8_loosenClaim 82 = .ok (.goto (-60), 3) := by decide +kernel
theorem dX8_loosenClaim_85 : decode cX8_loosenClaim 85 = .ok (.aload_n 0, 1) := by decide +kernel
theorem dX8_loosenClaim_86 : decode cX8_loosenClaim 86 = .ok (.getfield 43, 3) := by decide +kernel
theorem dX8_loosenClaim_89 : decode cX8_loosenClaim 89 = .ok (.iload_n 1, 1) := by decide +kernel
theorem dX8_loosenClaim_90 : decode cX8_loosenClaim 90 = .ok (.iload 4, 2) := by decide +kernel
theorem dX8_loosenClaim_92 : decode cX8_loosenClaim 92 = .ok (.invokevirtual 248, 3) := by decide +kernel
theorem dX8_loosenClaim_95 : decode cX8_loosenClaim 95 = .ok (.iload 4, 2) := by decide +kernel
theorem dX8_loosenClaim_97 : decode cX8_loosenClaim 97 = .ok (.ireturn, 1) := by decide +kernel
theorem dX9_has_0 : decode cX9_has 0 = .ok (.lload_n 0, 1) := by decide +kernel
theorem dX9_has_1 : decode cX9_has 1 = .ok (.iload_n 2, 1) := by decide +kernel
theorem dX9_has_2 : decode cX9_has 2 = .ok (.lushr, 1) := by decide +kernel
theorem dX9_has_3 : decode cX9_has 3 = .ok (.lconst 1, 1) := by decide +kernel
theorem dX9_has_4 : decode cX9_has 4 = .ok (.land, 1) := by decide +kernel
theorem dX9_has_5 : decode cX9_has 5 = .ok (.lconst 0, 1) := by decide +kernel
theorem dX9_has_6 : decode cX9_has 6 = .ok (.lcmp, 1) := by decide +kernel
theorem dX9_has_7 : decode cX9_has 7 = .ok (.ifCond .eq 7, 3) := by decide +kernel
theorem dX9_has_10 : decode cX9_has 10 = .ok (.iconst 1, 1) := by decide +kernel
theorem dX9_has_11 : decode cX9_has 11 = .ok (.goto 4, 3) := by decide +kernel
theorem dX9_has_14 : decode cX9_has 14 = .ok (.iconst 0, 1) := by decide +kernel
theorem dX9_has_15 : decode cX9_has 15 = .ok (.ireturn, 1) := by decide +kernel
theorem dX9_lowest_0 : decode cX9_lowest 0 = .ok (.lload_n 0, 1) := by decide +kernel
theorem dX9_lowest_1 : decode cX9_lowest 1 = .ok (.lconst 0, 1) := by decide +kernel
theorem dX9_lowest_2 : decode cX9_lowest 2 = .ok (.lcmp, 1) := by decide +kernel
theorem dX9_lowest_3 : decode cX9_lowest 3 = .ok (.ifCond .ne 7, 3) := by decide +kernel
theorem dX9_lowest_6 : decode cX9_lowest 6 = .ok (.iconst (-1), 1) := by decide +kernel
theorem dX9_lowest_7 : decode cX9_lowest 7 = .ok (.goto 7, 3) := by decide +kernel
theorem dX9_lowest_10 : decode cX9_lowest 10 = .ok (.lload_n 0, 1) := by decide +kernel
theorem dX9_lowest_11 : decode cX9_lowest 11 = .ok (.invokestatic 9, 3) := by decide +kernel
theorem dX9_lowest_14 : decode cX9_lowest 14 = .ok (.ireturn, 1) := by decide +kernel
theorem dX9_stateAt_0 : decode cX9_stateAt 0 = .ok (.iload_n 2, 1) := by decide +kernel
theorem dX9_stateAt_1 : decode cX9_stateAt 1 = .ok (.istore_n 3, 1) := by decide +kernel
theorem dX9_stateAt_2 : decode cX9_stateAt 2 = .ok (.iconst 0, 1) := by decide +kernel
theorem dX9_stateAt_3 : decode cX9_stateAt 3 = .ok (.istore 4, 2) := by decide +kernel
theorem dX9_stateAt_5 : decode cX9_stateAt 5 = .ok (.iload 4, 2) := by decide +kernel
theorem dX9_stateAt_7 : decode cX9_stateAt 7 = .ok (.bipush 64, 2) := by decide +kernel
theorem dX9_stateAt_9 : decode cX9_stateAt 9 = .ok (.if_icmp .ge 32, 3) := by decide +kernel
theorem dX9_stateAt_12 : decode cX9_stateAt 12 = .ok (.iload_n 3, 1) := by decide +kernel
theorem dX9_stateAt_13 : decode cX9_stateAt 13 = .ok (.ifCond .lt 28, 3) := by decide +kernel
theorem dX9_stateAt_16 : decode cX9_stateAt 16 = .ok (.lload_n 0, 1) := by decide +kernel
theorem dX9_stateAt_17 : decode cX9_stateAt 17 = .ok (.iload 4, 2) := by decide +kernel
theorem dX9_stateAt_19 : decode cX9_stateAt 19 = .ok (.invokestatic 15, 3) := by decide +kernel
theorem dX9_stateAt_22 : decode cX9_stateAt 22 = .ok (.ifCond .eq 13, 3) := by decide +kernel
theorem dX9_stateAt_25 : decode cX9_stateAt 25 = .ok (.iload_n 3, 1) := by decide +kernel
theorem dX9_stateAt_26 : decode cX9_stateAt 26 = .ok (.ifCond .ne 6, 3) := by decide +kernel
theorem dX9_stateAt_29 : decode cX9_stateAt 29 = .ok (.iload 4, 2) := by decide +kernel
theorem dX9_stateAt_31 : decode cX9_stateAt 31 = .ok (.ireturn, 1) := by decide +kernel
theorem dX9_stateAt_32 : decode cX9_stateAt 32 = .ok (.iinc 3 (-1), 3) := by decide +kernel
theorem dX9_stateAt_35 : decode cX9_stateAt 35 = .ok (.iinc 4 1, 3) := by decide +kernel
theorem dX9_stateAt_38 : decode cX9_stateAt 38 = .ok (.goto (-33), 3) := by decide +kernel
theorem dX9_stateAt_41 : decode cX9_stateAt 41 = .ok (.iconst (-1), 1) := by decide +kernel
theorem dX9_stateAt_42 : decode cX9_stateAt 42 = .ok (.ireturn, 1) := by decide +kernel
theorem dX10_init_0 : decode cX10_init 0 = .ok (.aload_n 0, 1) := by decide +kernel
theorem dX10_init_1 : decode cX10_init 1 = .ok (.invokespecial 3, 3) := by decide +kernel
theorem dX10_init_4 : decode cX10_init 4 = .ok (.aload_n 0, 1) := by decide +kernel
theorem dX10_init_5 : decode cX10_init 5 = .ok (.iconst 4, 1) := by decide +kernel
theorem dX10_init_6 : decode cX10_init 6 = .ok (.anewarray 9, 3) := by decide +kernel
theorem dX10_init_9 : decode cX10_init 9 = .ok (.putfield 11, 3) := by decide +kernel
theorem dX10_init_12 : decode cX10_init 12 = .ok (.aload_n 0, 1) := by decide +kernel
theorem dX10_init_13 : decode cX10_init 13 = .ok (.bipush 20, 2) := by decide +kernel
theorem dX10_init_15 : decode cX10_init 15 = .ok (.anewarray 17, 3) := by decide +kernel
theorem dX10_init_18 : decode cX10_init 18 = .ok (.putfield 19, 3) := by decide +kernel
theorem dX10_init_21 : decode cX10_init 21 = .ok (.aload_n 0, 1) := by decide +kernel
theorem dX10_init_22 : decode cX10_init 22 = .ok (.new 17, 3) := by decide +kernel
theorem dX10_init_25 : decode cX10_init 25 = .ok (.dup, 1) := by decide +kernel
theorem dX10_init_26 : decode cX10_init 26 = .ok (.aload_n 1, 1) := by decide +kernel
theorem dX10_init_27 : decode cX10_init 27 = .ok (.invokespecial 23, 3) := by decide +kernel
theorem dX10_init_30 : decode cX10_init 30 = .ok (.putfield 26, 3) := by decide +kernel
theorem dX10_init_33 : decode cX10_init 33 = .ok (.return_, 1) := by decide +kernel
theorem dX10_become_0 : decode cX10_become 0 = .ok (.iconst 0, 1) := by decide +kernel
theorem dX10_become_1 : decode cX10_become 1 = .ok (.istore_n 2, 1) := by decide +kernel
theorem dX10_become_2 : decode cX10_become 2 = .ok (.iload_n 2, 1) := by decide +kernel
theorem dX10_become_3 : decode cX10_become 3 = .ok (.aload_n 0, 1) := by decide +kernel
theorem dX10_become_4 : decode cX10_become 4 = .ok (.getfield 11, 3) := by decide +kernel
theorem dX10_become_7 : decode cX10_become 7 = .ok (.arraylength, 1) := by decide +kernel
theorem dX10_become_8 : decode cX10_become 8 = .ok (.if_icmp .ge 30, 3) := by decide +kernel
theorem dX10_become_11 : decode cX10_become 11 = .ok (.iload_n 2, 1) := by decide +kernel
theorem dX10_become_12 : decode cX10_become 12 = .ok (.aload_n 1, 1) := by decide +kernel
theorem dX10_become_13 : decode cX10_become 13 = .ok (.getfield 11, 3) := by decide +kernel
theorem dX10_become_16 : decode cX10_become 16 = .ok (.arraylength, 1) := by decide +kernel
theorem dX10_become_17 : decode cX10_become 17 = .ok (.if_icmp .ge 21, 3) := by decide +kernel
theorem dX10_become_20 : decode cX10_become 20 = .ok (.aload_n 0, 1) := by decide +kernel
theorem dX10_become_21 : decode cX10_become 21 = .ok (.getfield 11, 3) := by decide +kernel
theorem dX10_become_24 : decode cX10_become 24 = .ok (.iload_n 2, 1) := by decide +kernel
theorem dX10_become_25 : decode cX10_become 25 = .ok (.aload_n 1, 1) := by decide +kernel
theorem dX10_become_26 : decode cX10_become 26 = .ok (.getfield 11, 3) := by decide +kernel
theorem dX10_become_29 : decode cX10_become 29 = .ok (.iload_n 2, 1) := by decide +kernel
theorem dX10_become_30 : decode cX10_become 30 = .ok (.aaload, 1) := by decide +kernel
theorem dX10_become_31 : decode cX10_become 31 = .ok (.aastore, 1) := by decide +kernel
theorem dX10_become_32 : decode cX10_become 32 = .ok (.iinc 2 1, 3) := by decide +kernel
theorem dX10_become_35 : decode cX10_become 35 = .ok (.goto (-33), 3) := by decide +kernel
theorem dX10_become_38 : decode cX10_become 38 = .ok (.aload_n 0, 1) := by decide +kernel
theorem dX10_become_39 : decode cX10_become 39 = .ok (.aload_n 1, 1) := by decide +kernel
theorem dX10_become_40 : decode cX10_become 40 = .ok (.getfield 30, 3) := by decide +kernel
theorem dX10_become_43 : decode cX10_become 43 = .ok (.putfield 30, 3) := by decide +kernel
theorem dX10_become_46 : decode cX10_become 46 = .ok (.iconst 0, 1) := by decide +kernel
theorem dX10_become_47 : decode cX10_become 47 = .ok (.istore_n 2, 1) := by decide +kernel
theorem dX10_become_48 : decode cX10_become 48 = .ok (.iload_n 2, 1) := by decide +kernel
theorem dX10_become_49 : decode cX10_become 49 = .ok (.aload_n 0, 1) := by decide +kernel
theorem dX10_become_50 : decode cX10_become 50 = .ok (.getfield 19, 3) := by decide +kernel
theorem dX10_become_53 : decode cX10_become 53 = .ok (.arraylength, 1) := by decide +kernel
theorem dX10_become_54 : decode cX10_become 54 = .ok (.if_icmp .ge 30, 3) := by decide +kernel
theorem dX10_become_57 : decode cX10_become 57 = .ok (.iload_n 2, 1) := by decide +kernel
theorem dX10_become_58 : decode cX10_become 58 = .ok (.aload_n 1, 1) := by decide +kernel
theorem dX10_become_59 : decode cX10_become 59 = .ok (.getfield 19, 3) := by decide +kernel
theorem dX10_become_62 : decode cX10_become 62 = .ok (.arraylength, 1) := by decide +kernel
theorem dX10_become_63 : decode cX10_become 63 = .ok (.if_icmp .ge 21, 3) := by decide +kernel
theorem dX10_become_66 : decode cX10_become 66 = .ok (.aload_n 0, 1) := by decide +kernel
theorem dX10_become_67 : decode cX10_become 67 = .ok (.getfield 19, 3) := by decide +kernel
theorem dX10_become_70 : decode cX10_become 70 = .ok (.iload_n 2, 1) := by decide +kernel
theorem dX10_become_71 : decode cX10_become 71 = .ok (.aload_n 1, 1) := by decide +kernel
theorem dX10_become_72 : decode cX10_become 72 = .ok (.getfield 19, 3) := by decide +kernel
theorem dX10_become_75 : decode cX10_become 75 = .ok (.iload_n 2, 1) := by decide +kernel
theorem dX10_become_76 : decode cX10_become 76 = .ok (.aaload, 1) := by decide +kernel
theorem dX10_become_77 : decode cX10_become 77 = .ok (.aastore, 1) := by decide +kernel
theorem dX10_become_78 : decode cX10_become 78 = .ok (.iinc 2 1, 3) := by decide +kernel
theorem dX10_become_81 : decode cX10_become 81 = .ok (.goto (-33), 3) := by decide +kernel
theorem dX10_become_84 : decode cX10_become 84 = .ok (.aload_n 0, 1) := by decide +kernel
theorem dX10_become_85 : decode cX10_become 85 = .ok (.aload_n 1, 1) := by decide +kernel
theorem dX10_become_86 : decode cX10_become 86 = .ok (.getfield 34, 3) := by decide +kernel
theorem dX10_become_89 : decode cX10_become 89 = .ok (.putfield 34, 3) := by decide +kernel
theorem dX10_become_92 : decode cX10_become 92 = .ok (.aload_n 0, 1) := by decide +kernel
theorem dX10_become_93 : decode cX10_become 93 = .ok (.getfield 26, 3) := by decide +kernel
theorem dX10_become_96 : decode cX10_become 96 = .ok (.aload_n 1, 1) := by decide +kernel
theorem dX10_become_97 : decode cX10_become 97 = .ok (.getfield 26, 3) := by decide +kernel
theorem dX10_become_100 : decode cX10_become 100 = .ok (.invokevirtual 37, 3) := by decide +kernel
theorem dX10_become_103 : decode cX10_become 103 = .ok (.return_, 1) := by decide +kernel
theorem dX10_addText_0 : decode cX10_addText 0 = .ok (.aload_n 0, 1) := by decide +kernel
theorem dX10_addText_1 : decode cX10_addText 1 = .ok (.getfield 30, 3) := by decide +kernel
theorem dX10_addText_4 : decode cX10_addText 4 = .ok (.ifCond .lt 15, 3) := by decide +kernel
theorem dX10_addText_7 : decode cX10_addText 7 = .ok (.aload_n 0, 1) := by decide +kernel
theorem dX10_addText_8 : decode cX10_addText 8 = .ok (.getfield 30, 3) := by decide +kernel
theorem dX10_addText_11 : decode cX10_addText 11 = .ok (.aload_n 0, 1) := by decide +kernel
theorem dX10_addText_12 : decode cX10_addText 12 = .ok (.getfield 11, 3) := by decide +kernel
theorem dX10_addText_15 : decode cX10_addText 15 = .ok (.arraylength, 1) := by decide +kernel
theorem dX10_addText_16 : decode cX10_addText 16 = .ok (.if_icmp .lt 5, 3) := by decide +kernel
theorem dX10_addText_19 : decode cX10_addText 19 = .ok (.iconst (-1), 1) := by decide +kernel
theorem dX10_addText_20 : decode cX10_addText 20 = .ok (.ireturn, 1) := by decide +kernel
theorem dX10_addText_21 : decode cX10_addText 21 = .ok (.aload_n 0, 1) := by decide +kernel
theorem dX10_addText_22 : decode cX10_addText 22 = .ok (.getfield 11, 3) := by decide +kernel
theorem dX10_addText_25 : decode cX10_addText 25 = .ok (.aload_n 0, 1) := by decide +kernel
theorem dX10_addText_26 : decode cX10_addText 26 = .ok (.getfield 30, 3) := by decide +kernel
theorem dX10_addText_29 : decode cX10_addText 29 = .ok (.aload_n 1, 1) := by decide +kernel
theorem dX10_addText_30 : decode cX10_addText 30 = .ok (.aastore, 1) := by decide +kernel
theorem dX10_addText_31 : decode cX10_addText 31 = .ok (.aload_n 0, 1) := by decide +kernel
theorem dX10_addText_32 : decode cX10_addText 32 = .ok (.dup, 1) := by decide +kernel
theorem dX10_addText_33 : decode cX10_addText 33 = .ok (.getfield 30, 3) := by decide +kernel
theorem dX10_addText_36 : decode cX10_addText 36 = .ok (.iconst 1, 1) := by decide +kernel
theorem dX10_addText_37 : decode cX10_addText 37 = .ok (.iadd, 1) := by decide +kernel
theorem dX10_addText_38 : decode cX10_addText 38 = .ok (.putfield 30, 3) := by decide +kernel
theorem dX10_addText_41 : decode cX10_addText 41 = .ok (.aload_n 0, 1) := by decide +kernel
theorem dX10_addText_42 : decode cX10_addText 42 = .ok (.getfield 30, 3) := by decide +kernel
theorem dX10_addText_45 : decode cX10_addText 45 = .ok (.iconst 1, 1) := by decide +kernel
theorem dX10_addText_46 : decode cX10_addText 46 = .ok (.isub, 1) := by decide +kernel
theorem dX10_addText_47 : decode cX10_addText 47 = .ok (.ireturn, 1) := by decide +kernel
theorem dX10_textAt_0 : decode cX10_textAt 0 = .ok (.iload_n 1, 1) := by decide +kernel
theorem dX10_textAt_1 : decode cX10_textAt 1 = .ok (.ifCond .lt 29, 3) := by decide +kernel
theorem dX10_textAt_4 : decode cX10_textAt 4 = .ok (.iload_n 1, 1) := by decide +kernel
theorem dX10_textAt_5 : decode cX10_textAt 5 = .ok (.aload_n 0, 1) := by decide +kernel
theorem dX10_textAt_6 : decode cX10_textAt 6 = .ok (.getfield 30, 3) := by decide +kernel
theorem dX10_textAt_9 : decode cX10_textAt 9 = .ok (.if_icmp .ge 21, 3) := by decide +kernel
theorem dX10_textAt_12 : decode cX10_textAt 12 = .ok (.iload_n 1, 1) := by decide +kernel
theorem dX10_textAt_13 : decode cX10_textAt 13 = .ok (.aload_n 0, 1) := by decide +kernel
theorem dX10_textAt_14 : decode cX10_textAt 14 = .ok (.getfield 11, 3) := by decide +kernel
theorem dX10_textAt_17 : decode cX10_textAt 17 = .ok (.arraylength, 1) := by decide +kernel
theorem dX10_textAt_18 : decode cX10_textAt 18 = .ok (.if_icmp .ge 12, 3) := by decide +kernel
theorem dX10_textAt_21 : decode cX10_textAt 21 = .ok (.aload_n 0, 1) := by decide +kernel
theorem dX10_textAt_22 : decode cX10_textAt 22 = .ok (.getfield 11, 3) := by decide +kernel
theorem dX10_textAt_25 : decode cX10_textAt 25 = .ok (.iload_n 1, 1) := by decide +kernel
theorem dX10_textAt_26 : decode cX10_textAt 26 = .ok (.aaload, 1) := by decide +kernel
theorem dX10_textAt_27 : decode cX10_textAt 27 = .ok (.goto 4, 3) := by decide +kernel
theorem dX10_textAt_30 : decode cX10_textAt 30 = .ok (.aconst_null, 1) := by decide +kernel
theorem dX10_textAt_31 : decode cX10_textAt 31 = .ok (.areturn, 1) := by decide +kernel
theorem dX10_remember_0 : decode cX10_remember 0 = .ok (.aload_n 0, 1) := by decide +kernel
theorem dX10_remember_1 : decode cX10_remember 1 = .ok (.getfield 34, 3) := by decide +kernel
theorem dX10_remember_4 : decode cX10_remember 4 = .ok (.aload_n 0, 1) := by decide +kernel
theorem dX10_remember_5 : decode cX10_remember 5 = .ok (.getfield 19, 3) := by decide +kernel
theorem dX10_remember_8 : decode cX10_remember 8 = .ok (.arraylength, 1) := by decide +kernel
theorem dX10_remember_9 : decode cX10_remember 9 = .ok (.if_icmp .lt 45, 3) := by decide +kernel
theorem dX10_remember_12 : decode cX10_remember 12 = .ok (.iconst 1, 1) := by decide +kernel
theorem dX10_remember_13 : decode cX10_remember 13 = .ok (.istore_n 1, 1) := by decide +kernel
theorem dX10_remember_14 : decode cX10_remember 14 = .ok (.iload_n 1, 1) := by decide +kernel
theorem dX10_remember_15 : decode cX10_remember 15 = .ok (.aload_n 0, 1) := by decide +kernel
theorem dX10_remember_16 : decode cX10_remember 16 = .ok (.getfield 19, 3) := by decide +kernel
theorem dX10_remember_19 : decode cX10_remember 19 = .ok (.arraylength, 1) := by decide +kernel
theorem dX10_remember_20 : decode cX10_remember 20 = .ok (.if_icmp .ge 23, 3) := by decide +kernel
theorem dX10_remember_23 : decode cX10_remember 23 = .ok (.aload_n 0, 1) := by decide +kernel
theorem dX10_remember_24 : decode cX10_remember 24 = .ok (.getfield 19, 3) := by decide +kernel
theorem dX10_remember_27 : decode cX10_remember 27 = .ok (.iload_n 1, 1) := by decide +kernel
theorem dX10_remember_28 : decode cX10_remember 28 = .ok (.iconst 1, 1) := by decide +kernel
theorem dX10_remember_29 : decode cX10_remember 29 = .ok (.isub, 1) := by decide +kernel
theorem dX10_remember_30 : decode cX10_remember 30 = .ok (.aload_n 0, 1) := by decide +kernel
theorem dX10_remember_31 : decode cX10_remember 31 = .ok (.getfield 19, 3) := by decide +kernel
theorem dX10_remember_34 : decode cX10_remember 34 = .ok (.iload_n 1, 1) := by decide +kernel
theorem dX10_remember_35 : decode cX10_remember 35 = .ok (.aaload, 1) := by decide +kernel
theorem dX10_remember_36 : decode cX10_remember 36 = .ok (.aastore, 1) := by decide +kernel
theorem dX10_remember_37 : decode cX10_remember 37 = .ok (.iinc 1 1, 3) := by decide +kernel
theorem dX10_remember_40 : decode cX10_remember 40 = .ok (.goto (-26), 3) := by decide +kernel
theorem dX10_remember_43 : decode cX10_remember 43 = .ok (.aload_n 0, 1) := by decide +kernel
theorem dX10_remember_44 : decode cX10_remember 44 = .ok (.aload_n 0, 1) := by decide +kernel
theorem dX10_remember_45 : decode cX10_remember 45 = .ok (.getfield 19, 3) := by decide +kernel
theorem dX10_remember_48 : decode cX10_remember 48 = .ok (.arraylength, 1) := by decide +kernel
theorem dX10_remember_49 : decode cX10_remember 49 = .ok (.iconst 1, 1) := by decide +kernel
theorem dX10_remember_50 : decode cX10_remember 50 = .ok (.isub, 1) := by decide +kernel
theorem dX10_remember_51 : decode cX10_remember 51 = .ok (.putfield 34, 3) := by decide +kernel
theorem dX10_remember_54 : decode cX10_remember 54 = .ok (.new 17, 3) := by decide +kernel
theorem dX10_remember_57 : decode cX10_remember 57 = .ok (.dup, 1) := by decide +kernel
theorem dX10_remember_58 : decode cX10_remember 58 = .ok (.aload_n 0, 1) := by decide +kernel
theorem dX10_remember_59 : decode cX10_remember 59 = .ok (.getfield 26, 3) := by decide +kernel
theorem dX10_remember_62 : decode cX10_remember 62 = .ok (.getfield 41, 3) := by decide +kernel
theorem dX10_remember_65 : decode cX10_remember 65 = .ok (.invokespecial 23, 3) := by decide +kernel
theorem dX10_remember_68 : decode cX10_remember 68 = .ok (.astore_n 1, 1) := by decide +kernel
theorem dX10_remember_69 : decode cX10_remember 69 = .ok (.aload_n 1, 1) := by decide +kernel
theorem dX10_remember_70 : decode cX10_remember 70 = .ok (.aload_n 0, 1) := by decide +kernel
theorem dX10_remember_71 : decode cX10_remember 71 = .ok (.getfield 26, 3) := by decide +kernel
theorem dX10_remember_74 : decode cX10_remember 74 = .ok (.invokevirtual 37, 3) := by decide +kernel
theorem dX10_remember_77 : decode cX10_remember 77 = .ok (.aload_n 0, 1) := by decide +kernel
theorem dX10_remember_78 : decode cX10_remember 78 = .ok (.getfield 19, 3) := by decide +kernel
theorem dX10_remember_81 : decode cX10_remember 81 = .ok (.aload_n 0, 1) := by decide +kernel
theorem dX10_remember_82 : decode cX10_remember 82 = .ok (.getfield 34, 3) := by decide +kernel
theorem dX10_remember_85 : decode cX10_remember 85 = .ok (.aload_n 1, 1) := by decide +kernel
theorem dX10_remember_86 : decode cX10_remember 86 = .ok (.aastore, 1) := by decide +kernel
theorem dX10_remember_87 : decode cX10_remember 87 = .ok (.aload_n 0, 1) := by decide +kernel
theorem dX10_remember_88 : decode cX10_remember 88 = .ok (.dup, 1) := by decide +kernel
theorem dX10_remember_89 : decode cX10_remember 89 = .ok (.getfield 34, 3) := by decide +kernel
theorem dX10_remember_92 : decode cX10_remember 92 = .ok (.iconst 1, 1) := by decide +kernel
theorem dX10_remember_93 : decode cX10_remember 93 = .ok (.iadd, 1) := by decide +kernel
theorem dX10_remember_94 : decode cX10_remember 94 = .ok (.putfield 34, 3) := by decide +kernel
theorem dX10_remember_97 : decode cX10_remember 97 = .ok (.return_, 1) := by decide +kernel
theorem dX10_takeBack_0 : decode cX10_takeBack 0 = .ok (.aload_n 0, 1) := by decide +kernel
theorem dX10_takeBack_1 : decode cX10_takeBack 1 = .ok (.getfield 34, 3) := by decide +kernel
theorem dX10_takeBack_4 : decode cX10_takeBack 4 = .ok (.ifCond .le 15, 3) := by decide +kernel
theorem dX10_takeBack_7 : decode cX10_takeBack 7 = .ok (.aload_n 0, 1) := by decide +kernel
theorem dX10_takeBack_8 : decode cX10_takeBack 8 = .ok (.getfield 34, 3) := by decide +kernel
theorem dX10_takeBack_11 : decode cX10_takeBack 11 = .ok (.aload_n 0, 1) := by decide +kernel
theorem dX10_takeBack_12 : decode cX10_takeBack 12 = .ok (.getfield 19, 3) := by decide +kernel
theorem dX10_takeBack_15 : decode cX10_takeBack 15 = .ok (.arraylength, 1) := by decide +kernel
theorem dX10_takeBack_16 : decode cX10_takeBack 16 = .ok (.if_icmp .le 5, 3) := by decide +kernel
theorem dX10_takeBack_19 : decode cX10_takeBack 19 = .ok (.iconst (-1), 1) := by decide +kernel
theorem dX10_takeBack_20 : decode cX10_takeBack 20 = .ok (.ireturn, 1) := by decide +kernel
theorem dX10_takeBack_21 : decode cX10_takeBack 21 = .ok (.aload_n 0, 1) := by decide +kernel
theorem dX10_takeBack_22 : decode cX10_takeBack 22 = .ok (.getfield 19, 3) := by decide +kernel
theorem dX10_takeBack_25 : decode cX10_takeBack 25 = .ok (.aload_n 0, 1) := by decide +kernel
theorem dX10_takeBack_26 : decode cX10_takeBack 26 = .ok (.getfield 34, 3) := by decide +kernel
theorem dX10_takeBack_29 : decode cX10_takeBack 29 = .ok (.iconst 1, 1) := by decide +kernel
theorem dX10_takeBack_30 : decode cX10_takeBack 30 = .ok (.isub, 1) := by decide +kernel
theorem dX10_takeBack_31 : decode cX10_takeBack 31 = .ok (.aaload, 1) := by decide +kernel
theorem dX10_takeBack_32 : decode cX10_takeBack 32 = .ok (.astore_n 1, 1) := by decide +kernel
theorem dX10_takeBack_33 : decode cX10_takeBack 33 = .ok (.aload_n 1, 1) := by decide +kernel
theorem dX10_takeBack_34 : decode cX10_takeBack 34 = .ok (.ifnonnull 5, 3) := by decide +kernel
theorem dX10_takeBack_37 : decode cX10_takeBack 37 = .ok (.iconst (-1), 1) := by decide +kernel
theorem dX10_takeBack_38 : decode cX10_takeBack 38 = .ok (.ireturn, 1) := by decide +kernel
theorem dX10_takeBack_39 : decode cX10_takeBack 39 = .ok (.aload_n 0, 1) := by decide +kernel
theorem dX10_takeBack_40 : decode cX10_takeBack 40 = .ok (.dup, 1) := by decide +kernel
theorem dX10_takeBack_41 : decode cX10_takeBack 41 = .ok (.getfield 34, 3) := by decide +kernel
theorem dX10_takeBack_44 : decode cX10_takeBack 44 = .ok (.iconst 1, 1) := by decide +kernel
theorem dX10_takeBack_45 : decode cX10_takeBack 45 = .ok (.isub, 1) := by decide +kernel
theorem dX10_takeBack_46 : decode cX10_takeBack 46 = .ok (.putfield 34, 3) := by decide +kernel
theorem dX10_takeBack_49 : decode cX10_takeBack 49 = .ok (.aload_n 0, 1) := by decide +kernel
theorem dX10_takeBack_50 : decode cX10_takeBack 50 = .ok (.getfield 19, 3) := by decide +kernel
theorem dX10_takeBack_53 : decode cX10_takeBack 53 = .ok (.aload_n 0, 1) := by decide +kernel
theorem dX10_takeBack_54 : decode cX10_takeBack 54 = .ok (.getfield 34, 3) := by decide +kernel
theorem dX10_takeBack_57 : decode cX10_takeBack 57 = .ok (.aconst_null, 1) := by decide +kernel
theorem dX10_takeBack_58 : decode cX10_takeBack 58 = .ok (.aastore, 1) := by decide +kernel
theorem dX10_takeBack_59 : decode cX10_takeBack 59 = .ok (.aload_n 0, 1) := by decide +kernel
theorem dX10_takeBack_60 : decode cX10_takeBack 60 = .ok (.getfield 26, 3) := by decide +kernel
theorem dX10_takeBack_63 : decode cX10_takeBack 63 = .ok (.aload_n 1, 1) := by decide +kernel
theorem dX10_takeBack_64 : decode cX10_takeBack 64 = .ok (.invokevirtual 37, 3) := by decide +kernel
theorem dX10_takeBack_67 : decode cX10_takeBack 67 = .ok (.aload_n 0, 1) := by decide +kernel
theorem dX10_takeBack_68 : decode cX10_takeBack 68 = .ok (.getfield 34, 3) := by decide +kernel
theorem dX10_takeBack_71 : decode cX10_takeBack 71 = .ok (.ireturn, 1) := by decide +kernel
theorem dX11_init_0 : decode cX11_init 0 = .ok (.aload_n 0, 1) := by decide +kernel
theorem dX11_init_1 : decode cX11_init 1 = .ok (.invokespecial 3, 3) := by decide +kernel
theorem dX11_init_4 : decode cX11_init 4 = .ok (.aload_n 0, 1) := by decide +kernel
theorem dX11_init_5 : decode cX11_init 5 = .ok (.sipush 300, 3) := by decide +kernel
theorem dX11_init_8 : decode cX11_init 8 = .ok (.newarray .byte, 2) := by decide +kernel
theorem dX11_init_10 : decode cX11_init 10 = .ok (.putfield 9, 3) := by decide +kernel
theorem dX11_init_13 : decode cX11_init 13 = .ok (.aload_n 0, 1) := by decide +kernel
theorem dX11_init_14 : decode cX11_init 14 = .ok (.iconst (-1), 1) := by decide +kernel
theorem dX11_init_15 : decode cX11_init 15 = .ok (.putfield 13, 3) := by decide +kernel
theorem dX11_init_18 : decode cX11_init 18 = .ok (.aload_n 0, 1) := by decide +kernel
theorem dX11_init_19 : decode cX11_init 19 = .ok (.new 17, 3) := by decide +kernel
theorem dX11_init_22 : decode cX11_init 22 = .ok (.dup, 1) := by decide +kernel
theorem dX11_init_23 : decode cX11_init 23 = .ok (.invokespecial 19, 3) := by decide +kernel
theorem dX11_init_26 : decode cX11_init 26 = .ok (.putfield 20, 3) := by decide +kernel
theorem dX11_init_29 : decode cX11_init 29 = .ok (.invokestatic 24, 3) := by decide +kernel
theorem dX11_init_32 : decode cX11_init 32 = .ok (.astore_n 1, 1) := by decide +kernel
theorem dX11_init_33 : decode cX11_init 33 = .ok (.aload_n 0, 1) := by decide +kernel
theorem dX11_init_34 : decode cX11_init 34 = .ok (.new 30, 3) := by decide +kernel
theorem dX11_init_37 : decode cX11_init 37 = .ok (.dup, 1) := by decide +kernel
theorem dX11_init_38 : decode cX11_init 38 = .ok (.aload_n 1, 1) := by decide +kernel
theorem dX11_init_39 : decode cX11_init 39 = .ok (.invokespecial 32, 3) := by decide +kernel
theorem dX11_init_42 : decode cX11_init 42 = .ok (.putfield 35, 3) := by decide +kernel
theorem dX11_init_45 : decode cX11_init 45 = .ok (.aload_n 0, 1) := by decide +kernel
theorem dX11_init_46 : decode cX11_init 46 = .ok (.new 30, 3) := by decide +kernel
theorem dX11_init_49 : decode cX11_init 49 = .ok (.dup, 1) := by decide +kernel
theorem dX11_init_50 : decode cX11_init 50 = .ok (.aload_n 1, 1) := by decide +kernel
theorem dX11_init_51 : decode cX11_init 51 = .ok (.invokespecial 32, 3) := by decide +kernel
theorem dX11_init_54 : decode cX11_init 54 = .ok (.putfield 39, 3) := by decide +kernel
theorem dX11_init_57 : decode cX11_init 57 = .ok (.aload_n 0, 1) := by decide +kernel
theorem dX11_init_58 : decode cX11_init 58 = .ok (.new 42, 3) := by decide +kernel
theorem dX11_init_61 : decode cX11_init 61 = .ok (.dup, 1) := by decide +kernel
theorem dX11_init_62 : decode cX11_init 62 = .ok (.aload_n 1, 1) := by decide +kernel
theorem dX11_init_63 : decode cX11_init 63 = .ok (.invokespecial 44, 3) := by decide +kernel
theorem dX11_init_66 : decode cX11_init 66 = .ok (.putfield 45, 3) := by decide +kernel
theorem dX11_init_69 : decode cX11_init 69 = .ok (.aload_n 0, 1) := by decide +kernel
theorem dX11_init_70 : decode cX11_init 70 = .ok (.new 49, 3) := by decide +kernel
theorem dX11_init_73 : decode cX11_init 73 = .ok (.dup, 1) := by decide +kernel
theorem dX11_init_74 : decode cX11_init 74 = .ok (.invokespecial 51, 3) := by decide +kernel
theorem dX11_init_77 : decode cX11_init 77 = .ok (.putfield 52, 3) := by decide +kernel
theorem dX11_init_80 : decode cX11_init 80 = .ok (.aload_n 0, 1) := by decide +kernel
theorem dX11_init_81 : decode cX11_init 81 = .ok (.new 56, 3) := by decide +kernel
theorem dX11_init_84 : decode cX11_init 84 = .ok (.dup, 1) := by decide +kernel
theorem dX11_init_85 : decode cX11_init 85 = .ok (.invokespecial 58, 3) := by decide +kernel
theorem dX11_init_88 : decode cX11_init 88 = .ok (.putfield 59, 3) := by decide +kernel
theorem dX11_init_91 : decode cX11_init 91 = .ok (.aload_n 0, 1) := by decide +kernel
theorem dX11_init_92 : decode cX11_init 92 = .ok (.sipush 128, 3) := by decide +kernel
theorem dX11_init_95 : decode cX11_init 95 = .ok (.newarray .int, 2) := by decide +kernel
theorem dX11_init_97 : decode cX11_init 97 = .ok (.putfield 63, 3) := by decide +kernel
theorem dX11_init_100 : decode cX11_init 100 = .ok (.aload_n 0, 1) := by decide +kernel
theorem dX11_init_101 : decode cX11_init 101 = .ok (.bipush 64, 2) := by decide +kernel
theorem dX11_init_103 : decode cX11_init 103 = .ok (.newarray .long, 2) := by decide +kernel
theorem dX11_init_105 : decode cX11_init 105 = .ok (.putfield 67, 3) := by decide +kernel
theorem dX11_init_108 : decode cX11_init 108 = .ok (.return_, 1) := by decide +kernel
theorem dX11_feed_0 : decode cX11_feed 0 = .ok (.aload_n 0, 1) := by decide +kernel
theorem dX11_feed_1 : decode cX11_feed 1 = .ok (.getfield 71, 3) := by decide +kernel
theorem dX11_feed_4 : decode cX11_feed 4 = .ok (.bipush 20, 2) := by decide +kernel
theorem dX11_feed_6 : decode cX11_feed 6 = .ok (.iadd, 1) := by decide +kernel
theorem dX11_feed_7 : decode cX11_feed 7 = .ok (.sipush 300, 3) := by decide +kernel
theorem dX11_feed_10 : decode cX11_feed 10 = .ok (.if_icmp .le 5, 3) := by decide +kernel
theorem dX11_feed_13 : decode cX11_feed 13 = .ok (.iconst (-1), 1) := by decide +kernel
theorem dX11_feed_14 : decode cX11_feed 14 = .ok (.ireturn, 1) := by decide +kernel
theorem dX11_feed_15 : decode cX11_feed 15 = .ok (.aload_n 0, 1) := by decide +kernel
theorem dX11_feed_16 : decode cX11_feed 16 = .ok (.iload_n 1, 1) := by decide +kernel
theorem dX11_feed_17 : decode cX11_feed 17 = .ok (.invokevirtual 74, 3) := by decide +kernel
theorem dX11_feed_20 : decode cX11_feed 20 = .ok (.aload_n 0, 1) := by decide +kernel
theorem dX11_feed_21 : decode cX11_feed 21 = .ok (.iload_n 2, 1) := by decide +kernel
theorem dX11_feed_22 : decode cX11_feed 22 = .ok (.invokevirtual 74, 3) := by decide +kernel
theorem dX11_feed_25 : decode cX11_feed 25 = .ok (.aload_n 0, 1) := by decide +kernel
theorem dX11_feed_26 : decode cX11_feed 26 = .ok (.iload_n 3, 1) := by decide +kernel
theorem dX11_feed_27 : decode cX11_feed 27 = .ok (.invokevirtual 74, 3) := by decide +kernel
theorem dX11_feed_30 : decode cX11_feed 30 = .ok (.aload_n 0, 1) := by decide +kernel
theorem dX11_feed_31 : decode cX11_feed 31 = .ok (.iload 4, 2) := by decide +kernel
theorem dX11_feed_33 : decode cX11_feed 33 = .ok (.invokevirtual 74, 3) := by decide +kernel
theorem dX11_feed_36 : decode cX11_feed 36 = .ok (.aload_n 0, 1) := by decide +kernel
theorem dX11_feed_37 : decode cX11_feed 37 = .ok (.iload 5, 2) := by decide +kernel
theorem dX11_feed_39 : decode cX11_feed 39 = .ok (.invokevirtual 74, 3) := by decide +kernel
theorem dX11_feed_42 : decode cX11_feed 42 = .ok (.aload_n 0, 1) := by decide +kernel
theorem dX11_feed_43 : decode cX11_feed 43 = .ok (.getfield 71, 3) := by decide +kernel
theorem dX11_feed_46 : decode cX11_feed 46 = .ok (.ireturn, 1) := by decide +kernel
theorem dX11_putBytes_0 : decode cX11_putBytes 0 = .ok (.bipush 24, 2) := by decide +kernel
theorem dX11_putBytes_2 : decode cX11_putBytes 2 = .ok (.istore_n 2, 1) := by decide +kernel
theorem dX11_putBytes_3 : decode cX11_putBytes 3 = .ok (.iload_n 2, 1) := by decide +kernel
theorem dX11_putBytes_4 : decode cX11_putBytes 4 = .ok (.ifCond .lt 42, 3) := by decide +kernel
theorem dX11_putBytes_7 : decode cX11_putBytes 7 = .ok (.aload_n 0, 1) := by decide +kernel
theorem dX11_putBytes_8 : decode cX11_putBytes 8 = .ok (.getfield 71, 3) := by decide +kernel
theorem dX11_putBytes_11 : decode cX11_putBytes 11 = .ok (.sipush 300, 3) := by decide +kernel
theorem dX11_putBytes_14 : decode cX11_putBytes 14 = .ok (.if_icmp .ge 32, 3) := by decide +kernel
theorem dX11_putBytes_17 : decode cX11_putBytes 17 = .ok (.aload_n 0, 1) := by decide +kernel
theorem dX11_putBytes_18 : decode cX11_putBytes 18 = .ok (.getfield 9, 3) := by decide +kernel
theorem dX11_putBytes_21 : decode cX11_putBytes 21 = .ok (.aload_n 0, 1) := by decide +kernel
theorem dX11_putBytes_22 : decode cX11_putBytes 22 = .ok (.getfield 71, 3) := by decide +kernel
theorem dX11_putBytes_25 : decode cX11_putBytes 25 = .ok (.iload_n 1, 1) := by decide +kernel
theorem dX11_putBytes_26 : decode cX11_putBytes 26 = .ok (.iload_n 2, 1) := by decide +kernel
theorem dX11_putBytes_27 : decode cX11_putBytes 27 = .ok (.iushr, 1) := by decide +kernel
theorem dX11_putBytes_28 : decode cX11_putBytes 28 = .ok (.i2b, 1) := by decide +kernel
theorem dX11_putBytes_29 : decode cX11_putBytes 29 = .ok (.bastore, 1) := by decide +kernel
theorem dX11_putBytes_30 : decode cX11_putBytes 30 = .ok (.aload_n 0, 1) := by decide +kernel
theorem dX11_putBytes_31 : decode cX11_putBytes 31 = .ok (.dup, 1) := by decide +kernel
theorem dX11_putBytes_32 : decode cX11_putBytes 32 = .ok (.getfield 71, 3) := by decide +kernel
theorem dX11_putBytes_35 : decode cX11_putBytes 35 = .ok (.iconst 1, 1) := by decide +kernel
theorem dX11_putBytes_36 : decode cX11_putBytes 36 = .ok (.iadd, 1) := by decide +kernel
theorem dX11_putBytes_37 : decode cX11_putBytes 37 = .ok (.putfield 71, 3) := by decide +kernel
theorem dX11_putBytes_40 : decode cX11_putBytes 40 = .ok (.iinc 2 (-8), 3) := by decide +kernel
theorem dX11_putBytes_43 : decode cX11_putBytes 43 = .ok (.goto (-40), 3) := by decide +kernel
theorem dX11_putBytes_46 : decode cX11_putBytes 46 = .ok (.return_, 1) := by decide +kernel
theorem dX11_end_0 : decode cX11_end 0 = .ok (.iload_n 1, 1) := by decide +kernel
theorem dX11_end_1 : decode cX11_end 1 = .ok (.ifCond .lt 11, 3) := by decide +kernel
theorem dX11_end_4 : decode cX11_end 4 = .ok (.iload_n 1, 1) := by decide +kernel
theorem dX11_end_5 : decode cX11_end 5 = .ok (.aload_n 0, 1) := by decide +kernel
theorem dX11_end_6 : decode cX11_end 6 = .ok (.getfield 71, 3) := by decide +kernel
theorem dX11_end_9 : decode cX11_end 9 = .ok (.if_icmp .le 5, 3) := by decide +kernel
theorem dX11_end_12 : decode cX11_end 12 = .ok (.iconst (-1), 1) := by decide +kernel
theorem dX11_end_13 : decode cX11_end 13 = .ok (.ireturn, 1) := by decide +kernel
theorem dX11_end_14 : decode cX11_end 14 = .ok (.aload_n 0, 1) := by decide +kernel
theorem dX11_end_15 : decode cX11_end 15 = .ok (.iload_n 1, 1) := by decide +kernel
theorem dX11_end_16 : decode cX11_end 16 = .ok (.putfield 71, 3) := by decide +kernel
theorem dX11_end_19 : decode cX11_end 19 = .ok (.iload_n 1, 1) := by decide +kernel
theorem dX11_end_20 : decode cX11_end 20 = .ok (.ireturn, 1) := by decide +kernel
theorem dX11_text_0 : decode cX11_text 0 = .ok (.aload_n 0, 1) := by decide +kernel
theorem dX11_text_1 : decode cX11_text 1 = .ok (.getfield 35, 3) := by decide +kernel
theorem dX11_text_4 : decode cX11_text 4 = .ok (.getfield 78, 3) := by decide +kernel
theorem dX11_text_7 : decode cX11_text 7 = .ok (.iconst 4, 1) := by decide +kernel
theorem dX11_text_8 : decode cX11_text 8 = .ok (.if_icmp .lt 5, 3) := by decide +kernel
theorem dX11_text_11 : decode cX11_text 11 = .ok (.iconst (-1), 1) := by decide +kernel
theorem dX11_text_12 : decode cX11_text 12 = .ok (.ireturn, 1) := by decide +kernel
theorem dX11_text_13 : decode cX11_text 13 = .ok (.aload_n 0, 1) := by decide +kernel
theorem dX11_text_14 : decode cX11_text 14 = .ok (.getfield 20, 3) := by decide +kernel
theorem dX11_text_17 : decode cX11_text 17 = .ok (.aload_n 0, 1) := by decide +kernel
theorem dX11_text_18 : decode cX11_text 18 = .ok (.getfield 9, 3) := by decide +kernel
theorem dX11_text_21 : decode cX11_text 21 = .ok (.aload_n 0, 1) := by decide +kernel
theorem dX11_text_22 : decode cX11_text 22 = .ok (.getfield 71, 3) := by decide +kernel
theorem dX11_text_25 : decode cX11_text 25 = .ok (.invokevirtual 81, 3) := by decide +kernel
theorem dX11_text_28 : decode cX11_text 28 = .ok (.aload_n 0, 1) := by decide +kernel
theorem dX11_text_29 : decode cX11_text 29 = .ok (.iconst 0, 1) := by decide +kernel
theorem dX11_text_30 : decode cX11_text 30 = .ok (.putfield 71, 3) := by decide +kernel
theorem dX11_text_33 : decode cX11_text 33 = .ok (.aload_n 0, 1) := by decide +kernel
theorem dX11_text_34 : decode cX11_text 34 = .ok (.iconst 1, 1) := by decide +kernel
theorem dX11_text_35 : decode cX11_text 35 = .ok (.putfield 85, 3) := by decide +kernel
theorem dX11_text_38 : decode cX11_text 38 = .ok (.aload_n 0, 1) := by decide +kernel
theorem dX11_text_39 : decode cX11_text 39 = .ok (.aload_n 0, 1) := by decide +kernel
theorem dX11_text_40 : decode cX11_text 40 = .ok (.getfield 20, 3) := by decide +kernel
theorem dX11_text_43 : decode cX11_text 43 = .ok (.getfield 89, 3) := by decide +kernel
theorem dX11_text_46 : decode cX11_text 46 = .ok (.putfield 92, 3) := by decide +kernel
theorem dX11_text_49 : decode cX11_text 49 = .ok (.aload_n 0, 1) := by decide +kernel
theorem dX11_text_50 : decode cX11_text 50 = .ok (.aload_n 0, 1) := by decide +kernel
theorem dX11_text_51 : decode cX11_text 51 = .ok (.getfield 20, 3) := by decide +kernel
theorem dX11_text_54 : decode cX11_text 54 = .ok (.getfield 95, 3) := by decide +kernel
theorem dX11_text_57 : decode cX11_text 57 = .ok (.putfield 13, 3) := by decide +kernel
theorem dX11_text_60 : decode cX11_text 60 = .ok (.aload_n 0, 1) := by decide +kernel
theorem dX11_text_61 : decode cX11_text 61 = .ok (.getfield 92, 3) := by decide +kernel
theorem dX11_text_64 : decode cX11_text 64 = .ok (.ifCond .eq 5, 3) := by decide +kernel
theorem dX11_text_67 : decode cX11_text 67 = .ok (.iconst (-1), 1) := by decide +kernel
theorem dX11_text_68 : decode cX11_text 68 = .ok (.ireturn, 1) := by decide +kernel
theorem dX11_text_69 : decode cX11_text 69 = .ok (.aload_n 0, 1) := by decide +kernel
theorem dX11_text_70 : decode cX11_text 70 = .ok (.getfield 35, 3) := by decide +kernel
theorem dX11_text_73 : decode cX11_text 73 = .ok (.aload_n 0, 1) := by decide +kernel
theorem dX11_text_74 : decode cX11_text 74 = .ok (.getfield 20, 3) := by decide +kernel
theorem dX11_text_77 : decode cX11_text 77 = .ok (.invokevirtual 98, 3) := by decide +kernel
theorem dX11_text_80 : decode cX11_text 80 = .ok (.invokevirtual 101, 3) := by decide +kernel
theorem dX11_text_83 : decode cX11_text 83 = .ok (.ireturn, 1) := by decide +kernel
theorem dX11_fault_0 : decode cX11_fault 0 = .ok (.aload_n 0, 1) := by decide +kernel
theorem dX11_fault_1 : decode cX11_fault 1 = .ok (.getfield 85, 3) := by decide +kernel
theorem dX11_fault_4 : decode cX11_fault 4 = .ok (.ifCond .ne 5, 3) := by decide +kernel
theorem dX11_fault_7 : decode cX11_fault 7 = .ok (.iconst (-1), 1) := by decide +kernel
theorem dX11_fault_8 : decode cX11_fault 8 = .ok (.ireturn, 1) := by decide +kernel
theorem dX11_fault_9 : decode cX11_fault 9 = .ok (.iload_n 1, 1) := by decide +kernel
theorem dX11_fault_10 : decode cX11_fault 10 = .ok (.lookupswitch 36 #[(0, 26), (1, 31)], 26) := by decide +kernel
theorem dX11_fault_36 : decode cX11_fault 36 = .ok (.aload_n 0, 1) := by decide +kernel
theorem dX11_fault_37 : decode cX11_fault 37 = .ok (.getfield 92, 3) := by decide +kernel
theorem dX11_fault_40 : decode cX11_fault 40 = .ok (.ireturn, 1) := by decide +kernel
theorem dX11_fault_41 : decode cX11_fault 41 = .ok (.aload_n 0, 1) := by decide +kernel
theorem dX11_fault_42 : decode cX11_fault 42 = .ok (.getfield 13, 3) := by decide +kernel
theorem dX11_fault_45 : decode cX11_fault 45 = .ok (.ireturn, 1) := by decide +kernel
theorem dX11_fault_46 : decode cX11_fault 46 = .ok (.iconst (-1), 1) := by decide +kernel
theorem dX11_fault_47 : decode cX11_fault 47 = .ok (.ireturn, 1) := by decide +kernel
theorem dX11_load_0 : decode cX11_load 0 = .ok (.aload_n 0, 1) := by decide +kernel
theorem dX11_load_1 : decode cX11_load 1 = .ok (.getfield 35, 3) := by decide +kernel
theorem dX11_load_4 : decode cX11_load 4 = .ok (.iload_n 1, 1) := by decide +kernel
theorem dX11_load_5 : decode cX11_load 5 = .ok (.invokevirtual 105, 3) := by decide +kernel
theorem dX11_load_8 : decode cX11_load 8 = .ok (.astore_n 2, 1) := by decide +kernel
theorem dX11_load_9 : decode cX11_load 9 = .ok (.aload_n 2, 1) := by decide +kernel
theorem dX11_load_10 : decode cX11_load 10 = .ok (.ifnonnull 5, 3) := by decide +kernel
theorem dX11_load_13 : decode cX11_load 13 = .ok (.iconst (-1), 1) := by decide +kernel
theorem dX11_load_14 : decode cX11_load 14 = .ok (.ireturn, 1) := by decide +kernel
theorem dX11_load_15 : decode cX11_load 15 = .ok (.aload_n 0, 1) := by decide +kernel
theorem dX11_load_16 : decode cX11_load 16 = .ok (.getfield 35, 3) := by decide +kernel
theorem dX11_load_19 : decode cX11_load 19 = .ok (.invokevirtual 109, 3) := by decide +kernel
theorem dX11_load_22 : decode cX11_load 22 = .ok (.aload_n 0, 1) := by decide +kernel
theorem dX11_load_23 : decode cX11_load 23 = .ok (.getfield 35, 3) := by decide +kernel
theorem dX11_load_26 : decode cX11_load 26 = .ok (.getfield 112, 3) := by decide +kernel
theorem dX11_load_29 : decode cX11_load 29 = .ok (.aload_n 2, 1) := by decide +kernel
theorem dX11_load_30 : decode cX11_load 30 = .ok (.invokevirtual 115, 3) := by decide +kernel
theorem dX11_load_33 : decode cX11_load 33 = .ok (.aload_n 2, 1) := by decide +kernel
theorem dX11_load_34 : decode cX11_load 34 = .ok (.getfield 118, 3) := by decide +kernel
theorem dX11_load_37 : decode cX11_load 37 = .ok (.ireturn, 1) := by decide +kernel
theorem dX11_drawn_0 : decode cX11_drawn 0 = .ok (.iload_n 1, 1) := by decide +kernel
theorem dX11_drawn_1 : decode cX11_drawn 1 = .ok (.ifCond .lt 21, 3) := by decide +kernel
theorem dX11_drawn_4 : decode cX11_drawn 4 = .ok (.iload_n 1, 1) := by decide +kernel
theorem dX11_drawn_5 : decode cX11_drawn 5 = .ok (.sipush 9999, 3) := by decide +kernel
theorem dX11_drawn_8 : decode cX11_drawn 8 = .ok (.if_icmp .gt 14, 3) := by decide +kernel
theorem dX11_drawn_11 : decode cX11_drawn 11 = .ok (.iload_n 2, 1) := by decide +kernel
theorem dX11_drawn_12 : decode cX11_drawn 12 = .ok (.iconst 1, 1) := by decide +kernel
theorem dX11_drawn_13 : decode cX11_drawn 13 = .ok (.if_icmp .lt 9, 3) := by decide +kernel
theorem dX11_drawn_16 : decode cX11_drawn 16 = .ok (.iload_n 2, 1) := by decide +kernel
theorem dX11_drawn_17 : decode cX11_drawn 17 = .ok (.bipush 6, 2) := by decide +kernel
theorem dX11_drawn_19 : decode cX11_drawn 19 = .ok (.if_icmp .le 5, 3) := by decide +kernel
theorem dX11_drawn_22 : decode cX11_drawn 22 = .ok (.iconst 0, 1) := by decide +kernel
theorem dX11_drawn_23 : decode cX11_drawn 23 = .ok (.ireturn, 1) := by decide +kernel
theorem dX11_drawn_24 : decode cX11_drawn 24 = .ok (.aload_n 0, 1) := by decide +kernel
theorem dX11_drawn_25 : decode cX11_drawn 25 = .ok (.getfield 35, 3) := by decide +kernel
theorem dX11_drawn_28 : decode cX11_drawn 28 = .ok (.invokevirtual 109, 3) := by decide +kernel
theorem dX11_drawn_31 : decode cX11_drawn 31 = .ok (.aload_n 0, 1) := by decide +kernel
theorem dX11_drawn_32 : decode cX11_drawn 32 = .ok (.getfield 35, 3) := by decide +kernel
theorem dX11_drawn_35 : decode cX11_drawn 35 = .ok (.getfield 112, 3) := by decide +kernel
theorem dX11_drawn_38 : decode cX11_drawn 38 = .ok (.iload_n 1, 1) := by decide +kernel
theorem dX11_drawn_39 : decode cX11_drawn 39 = .ok (.iload_n 2, 1) := by decide +kernel
theorem dX11_drawn_40 : decode cX11_drawn 40 = .ok (.invokestatic 121, 3) := by decide +kernel
theorem dX11_drawn_43 : decode cX11_drawn 43 = .ok (.invokevirtual 115, 3) := by decide +kernel
theorem dX11_drawn_46 : decode cX11_drawn 46 = .ok (.iconst 1, 1) := by decide +kernel
theorem dX11_drawn_47 : decode cX11_drawn 47 = .ok (.ireturn, 1) := by decide +kernel
theorem dX11_aim_0 : decode cX11_aim 0 = .ok (.aload_n 0, 1) := by decide +kernel
theorem dX11_aim_1 : decode cX11_aim 1 = .ok (.getfield 35, 3) := by decide +kernel
theorem dX11_aim_4 : decode cX11_aim 4 = .ok (.getfield 112, 3) := by decide +kernel
theorem dX11_aim_7 : decode cX11_aim 7 = .ok (.getfield 125, 3) := by decide +kernel
theorem dX11_aim_10 : decode cX11_aim 10 = .ok (.iload_n 1, 1) := by decide +kernel
theorem dX11_aim_11 : decode cX11_aim 11 = .ok (.invokevirtual 128, 3) := by decide +kernel
theorem dX11_aim_14 : decode cX11_aim 14 = .ok (.ifCond .ne 5, 3) := by decide +kernel
theorem dX11_aim_17 : decode cX11_aim 17 = .ok (.iconst 0, 1) := by decide +kernel
theorem dX11_aim_18 : decode cX11_aim 18 = .ok (.ireturn, 1) := by decide +kernel
theorem dX11_aim_19 : decode cX11_aim 19 = .ok (.aload_n 0, 1) := by decide +kernel
theorem dX11_aim_20 : decode cX11_aim 20 = .ok (.getfield 35, 3) := by decide +kernel
theorem dX11_aim_23 : decode cX11_aim 23 = .ok (.invokevirtual 109, 3) := by decide +kernel
theorem dX11_aim_26 : decode cX11_aim 26 = .ok (.aload_n 0, 1) := by decide +kernel
theorem dX11_aim_27 : decode cX11_aim 27 = .ok (.getfield 35, 3) := by decide +kernel
theorem dX11_aim_30 : decode cX11_aim 30 = .ok (.getfield 112, 3) := by decide +kernel
theorem dX11_aim_33 : decode cX11_aim 33 = .ok (.iload_n 1, 1) := by decide +kernel
theorem dX11_aim_34 : decode cX11_aim 34 = .ok (.invokevirtual 132, 3) := by decide +kernel
theorem dX11_aim_37 : decode cX11_aim 37 = .ok (.iconst 1, 1) := by decide +kernel
theorem dX11_aim_38 : decode cX11_aim 38 = .ok (.ireturn, 1) := by decide +kernel
theorem dX11_mode_0 : decode cX11_mode 0 = .ok (.iload_n 1, 1) := by decide +kernel
theorem dX11_mode_1 : decode cX11_mode 1 = .ok (.ifCond .lt 8, 3) := by decide +kernel
theorem dX11_mode_4 : decode cX11_mode 4 = .ok (.iload_n 1, 1) := by decide +kernel
theorem dX11_mode_5 : decode cX11_mode 5 = .ok (.iconst 3, 1) := by decide +kernel
theorem dX11_mode_6 : decode cX11_mode 6 = .ok (.if_icmp .lt 5, 3) := by decide +kernel
theorem dX11_mode_9 : decode cX11_mode 9 = .ok (.iconst 0, 1) := by decide +kernel
theorem dX11_mode_10 : decode cX11_mode 10 = .ok (.ireturn, 1) := by decide +kernel
theorem dX11_mode_11 : decode cX11_mode 11 = .ok (.aload_n 0, 1) := by decide +kernel
theorem dX11_mode_12 : decode cX11_mode 12 = .ok (.getfield 35, 3) := by decide +kernel
theorem dX11_mode_15 : decode cX11_mode 15 = .ok (.invokevirtual 109, 3) := by decide +kernel
theorem dX11_mode_18 : decode cX11_mode 18 = .ok (.aload_n 0, 1) := by decide +kernel
theorem dX11_mode_19 : decode cX11_mode 19 = .ok (.getfield 35, 3) := by decide +kernel
theorem dX11_mode_22 : decode cX11_mode 22 = .ok (.getfield 112, 3) := by decide +kernel
theorem dX11_mode_25 : decode cX11_mode 25 = .ok (.iload_n 1, 1) := by decide +kernel
theorem dX11_mode_26 : decode cX11_mode 26 = .ok (.putfield 135, 3) := by decide +kernel
theorem dX11_mode_29 : decode cX11_mode 29 = .ok (.iconst 1, 1) := by decide +kernel
theorem dX11_mode_30 : decode cX11_mode 30 = .ok (.ireturn, 1) := by decide +kernel
theorem dX11_bar_0 : decode cX11_bar 0 = .ok (.aload_n 0, 1) := by decide +kernel
theorem dX11_bar_1 : decode cX11_bar 1 = .ok (.getfield 35, 3) := by decide +kernel
theorem dX11_bar_4 : decode cX11_bar 4 = .ok (.getfield 112, 3) := by decide +kernel
theorem dX11_bar_7 : decode cX11_bar 7 = .ok (.astore 4, 2) := by decide +kernel
theorem dX11_bar_9 : decode cX11_bar 9 = .ok (.aload 4, 2) := by decide +kernel
theorem dX11_bar_11 : decode cX11_bar 11 = .ok (.getfield 125, 3) := by decide +kernel
theorem dX11_bar_14 : decode cX11_bar 14 = .ok (.iload_n 1, 1) := by decide +kernel
theorem dX11_bar_15 : decode cX11_bar 15 = .ok (.iload_n 2, 1) := by decide +kernel
theorem dX11_bar_16 : decode cX11_bar 16 = .ok (.invokevirtual 138, 3) := by decide +kernel
theorem dX11_bar_19 : decode cX11_bar 19 = .ok (.ifCond .eq 17, 3) := by decide +kernel
theorem dX11_bar_22 : decode cX11_bar 22 = .ok (.aload 4, 2) := by decide +kernel
theorem dX11_bar_24 : decode cX11_bar 24 = .ok (.iload_n 1, 1) := by decide +kernel
theorem dX11_bar_25 : decode cX11_bar 25 = .ok (.iload_n 2, 1) := by decide +kernel
theorem dX11_bar_26 : decode cX11_bar 26 = .ok (.invokestatic 142, 3) := by decide +kernel
theorem dX11_bar_29 : decode cX11_bar 29 = .ok (.iload_n 3, 1) := by decide +kernel
theorem dX11_bar_30 : decode cX11_bar 30 = .ok (.invokevirtual 148, 3) := by decide +kernel
theorem dX11_bar_33 : decode cX11_bar 33 = .ok (.ifCond .ne 5, 3) := by decide +kernel
theorem dX11_bar_36 : decode cX11_bar 36 = .ok (.iconst (-1), 1) := by decide +kernel
theorem dX11_bar_37 : decode cX11_bar 37 = .ok (.ireturn, 1) := by decide +kernel
theorem dX11_bar_38 : decode cX11_bar 38 = .ok (.aload_n 0, 1) := by decide +kernel
theorem dX11_bar_39 : decode cX11_bar 39 = .ok (.getfield 35, 3) := by decide +kernel
theorem dX11_bar_42 : decode cX11_bar 42 = .ok (.invokevirtual 109, 3) := by decide +kernel
theorem dX11_bar_45 : decode cX11_bar 45 = .ok (.aload 4, 2) := by decide +kernel
theorem dX11_bar_47 : decode cX11_bar 47 = .ok (.getfield 151, 3) := by decide +kernel
theorem dX11_bar_50 : decode cX11_bar 50 = .ok (.iload_n 3, 1) := by decide +kernel
theorem dX11_bar_51 : decode cX11_bar 51 = .ok (.iload_n 1, 1) := by decide +kernel
theorem dX11_bar_52 : decode cX11_bar 52 = .ok (.iload_n 2, 1) := by decide +kernel
theorem dX11_bar_53 : decode cX11_bar 53 = .ok (.invokestatic 142, 3) := by decide +kernel
theorem dX11_bar_56 : decode cX11_bar 56 = .ok (.invokevirtual 154, 3) := by decide +kernel
theorem dX11_bar_59 : decode cX11_bar 59 = .ok (.aload 4, 2) := by decide +kernel
theorem dX11_bar_61 : decode cX11_bar 61 = .ok (.getfield 151, 3) := by decide +kernel
theorem dX11_bar_64 : decode cX11_bar 64 = .ok (.iload_n 3, 1) := by decide +kernel
theorem dX11_bar_65 : decode cX11_bar 65 = .ok (.invokevirtual 158, 3) := by decide +kernel
theorem dX11_bar_68 : decode cX11_bar 68 = .ok (.ireturn, 1) := by decide +kernel
theorem dX11_step_0 : decode cX11_step 0 = .ok (.iload_n 1, 1) := by decide +kernel
theorem dX11_step_1 : decode cX11_step 1 = .ok (.iconst 1, 1) := by decide +kernel
theorem dX11_step_2 : decode cX11_step 2 = .ok (.if_icmp .lt 23, 3) := by decide +kernel
theorem dX11_step_5 : decode cX11_step 5 = .ok (.iload_n 1, 1) := by decide +kernel
theorem dX11_step_6 : decode cX11_step 6 = .ok (.sipush 500, 3) := by decide +kernel
theorem dX11_step_9 : decode cX11_step 9 = .ok (.if_icmp .gt 16, 3) := by decide +kernel
theorem dX11_step_12 : decode cX11_step 12 = .ok (.aload_n 0, 1) := by decide +kernel
theorem dX11_step_13 : decode cX11_step 13 = .ok (.getfield 35, 3) := by decide +kernel
theorem dX11_step_16 : decode cX11_step 16 = .ok (.getfield 112, 3) := by decide +kernel
theorem dX11_step_19 : decode cX11_step 19 = .ok (.invokevirtual 162, 3) := by decide +kernel
theorem dX11_step_22 : decode cX11_step 22 = .ok (.ifCond .eq 5, 3) := by decide +kernel
theorem dX11_step_25 : decode cX11_step 25 = .ok (.iconst (-1), 1) := by decide +kernel
theorem dX11_step_26 : decode cX11_step 26 = .ok (.ireturn, 1) := by decide +kernel
theorem dX11_step_27 : decode cX11_step 27 = .ok (.aload_n 0, 1) := by decide +kernel
theorem dX11_step_28 : decode cX11_step 28 = .ok (.getfield 35, 3) := by decide +kernel
theorem dX11_step_31 : decode cX11_step 31 = .ok (.invokevirtual 109, 3) := by decide +kernel
theorem dX11_step_34 : decode cX11_step 34 = .ok (.aload_n 0, 1) := by decide +kernel
theorem dX11_step_35 : decode cX11_step 35 = .ok (.getfield 35, 3) := by decide +kernel
theorem dX11_step_38 : decode cX11_step 38 = .ok (.getfield 112, 3) := by decide +kernel
theorem dX11_step_41 : decode cX11_step 41 = .ok (.iload_n 1, 1) := by decide +kernel
theorem dX11_step_42 : decode cX11_step 42 = .ok (.invokevirtual 166, 3) := by decide +kernel
theorem dX11_step_45 : decode cX11_step 45 = .ok (.ireturn, 1) := by decide +kernel
theorem dX11_undo_0 : decode cX11_undo 0 = .ok (.aload_n 0, 1) := by decide +kernel
theorem dX11_undo_1 : decode cX11_undo 1 = .ok (.getfield 35, 3) := by decide +kernel
theorem dX11_undo_4 : decode cX11_undo 4 = .ok (.invokevirtual 169, 3) := by decide +kernel
theorem dX11_undo_7 : decode cX11_undo 7 = .ok (.ireturn, 1) := by decide +kernel
theorem dX11_is_0 : decode cX11_is 0 = .ok (.aload_n 0, 1) := by decide +kernel
theorem dX11_is_1 : decode cX11_is 1 = .ok (.getfield 35, 3) := by decide +kernel
theorem dX11_is_4 : decode cX11_is 4 = .ok (.getfield 112, 3) := by decide +kernel
theorem dX11_is_7 : decode cX11_is 7 = .ok (.astore_n 2, 1) := by decide +kernel
theorem dX11_is_8 : decode cX11_is 8 = .ok (.iload_n 1, 1) := by decide +kernel
theorem dX11_is_9 : decode cX11_is 9 = .ok (.tableswitch 145 0 11 #[63, 71, 76, 81, 98, 107, 112, 120, 125, 130, 135, 140], 63) := by decide +kernel
theorem dX11_is_72 : decode cX11_is 72 = .ok (.aload_n 2, 1) := by decide +kernel
theorem dX11_is_73 : decode cX11_is 73 = .ok (.getfield 125, 3) := by decide +kernel
theorem dX11_is_76 : decode cX11_is 76 = .ok (.getfield 118, 3) := by decide +kernel
theorem dX11_is_79 : decode cX11_is 79 = .ok (.ireturn, 1) := by decide +kernel
theorem dX11_is_80 : decode cX11_is 80 = .ok (.aload_n 2, 1) := by decide +kernel
theorem dX11_is_81 : decode cX11_is 81 = .ok (.getfield 173, 3) := by decide +kernel
theorem dX11_is_84 : decode cX11_is 84 = .ok (.ireturn, 1) := by decide +kernel
theorem dX11_is_85 : decode cX11_is 85 = .ok (.aload_n 2, 1) := by decide +kernel
theorem dX11_is_86 : decode cX11_is 86 = .ok (.getfield 176, 3) := by decide +kernel
theorem dX11_is_89 : decode cX11_is 89 = .ok (.ireturn, 1) := by decide +kernel
theorem dX11_is_90 : decode cX11_is 90 = .ok (.aload_n 2, 1) := by decide +kernel
theorem dX11_is_91 : decode cX11_is 91 = .ok (.getfield 176, 3) := by decide +kernel
theorem dX11_is_94 : decode cX11_is 94 = .ok (.iconst 2, 1) := by decide +kernel
theorem dX11_is_95 : decode cX11_is 95 = .ok (.if_icmp .ne 10, 3) := by decide +kernel
theorem dX11_is_98 : decode cX11_is 98 = .ok (.aload_n 2, 1) := by decide +kernel
theorem dX11_is_99 : decode cX11_is 99 = .ok (.getfield 179, 3) := by decide +kernel
theorem dX11_is_102 : decode cX11_is 102 = .ok (.goto 4, 3) := by decide +kernel
theorem dX11_is_105 : decode cX11_is 105 = .ok (.iconst (-1), 1) := by decide +kernel
theorem dX11_is_106 : decode cX11_is 106 = .ok (.ireturn, 1) := by decide +kernel
theorem dX11_is_107 : decode cX11_is 107 = .ok (.aload_n 2, 1) := by decide +kernel
theorem dX11_is_108 : decode cX11_is 108 = .ok (.getfield 125, 3) := by decide +kernel
theorem dX11_is_111 : decode cX11_is 111 = .ok (.getfield 182, 3) := by decide +kernel
theorem dX11_is_114 : decode cX11_is 114 = .ok (.arraylength, 1) := by decide +kernel
theorem dX11_is_115 : decode cX11_is 115 = .ok (.ireturn, 1) := by decide +kernel
theorem dX11_is_116 : decode cX11_is 116 = .ok (.aload_n 2, 1) := by decide +kernel
theorem dX11_is_117 : decode cX11_is 117 = .ok (.getfield 185, 3) := by decide +kernel
theorem dX11_is_120 : decode cX11_is 120 = .ok (.ireturn, 1) := by decide +kernel
theorem dX11_is_121 : decode cX11_is 121 = .ok (.aload_n 2, 1) := by decide +kernel
theorem dX11_is_122 : decode cX11_is 122 = .ok (.getfield 188, 3) := by decide +kernel
theorem dX11_is_125 : decode cX11_is 125 = .ok (.getfield 192, 3) := by decide +kernel
theorem dX11_is_128 : decode cX11_is 128 = .ok (.ireturn, 1) := by decide +kernel
theorem dX11_is_129 : decode cX11_is 129 = .ok (.aload_n 2, 1) := by decide +kernel
theorem dX11_is_130 : decode cX11_is 130 = .ok (.getfield 197, 3) := by decide +kernel
theorem dX11_is_133 : decode cX11_is 133 = .ok (.ireturn, 1) := by decide +kernel
theorem dX11_is_134 : decode cX11_is 134 = .ok (.aload_n 2, 1) := by decide +kernel
theorem dX11_is_135 : decode cX11_is 135 = .ok (.getfield 200, 3) := by decide +kernel
theorem dX11_is_138 : decode cX11_is 138 = .ok (.ireturn, 1) := by decide +kernel
theorem dX11_is_139 : decode cX11_is 139 = .ok (.aload_n 2, 1) := by decide +kernel
theorem dX11_is_140 : decode cX11_is 140 = .ok (.getfield 203, 3) := by decide +kernel
theorem dX11_is_143 : decode cX11_is 143 = .ok (.ireturn, 1) := by decide +kernel
theorem dX11_is_144 : decode cX11_is 144 = .ok (.aload_n 2, 1) := by decide +kernel
theorem dX11_is_145 : decode cX11_is 145 = .ok (.getfield 206, 3) := by decide +kernel
theorem dX11_is_148 : decode cX11_is 148 = .ok (.ireturn, 1) := by decide +kernel
theorem dX11_is_149 : decode cX11_is 149 = .ok (.aload_n 2, 1) := by decide +kernel
theorem dX11_is_150 : decode cX11_is 150 = .ok (.getfield 209, 3) := by decide +kernel
theorem dX11_is_153 : decode cX11_is 153 = .ok (.ireturn, 1) := by decide +kernel
theorem dX11_is_154 : decode cX11_is 154 = .ok (.iconst (-1), 1) := by decide +kernel
theorem dX11_is_155 : decode cX11_is 155 = .ok (.ireturn, 1) := by decide +kernel
theorem dX11_successor_0 : decode cX11_successor 0 = .ok (.aload_n 0, 1) := by decide +kernel
theorem dX11_successor_1 : decode cX11_successor 1 = .ok (.getfield 35, 3) := by decide +kernel
theorem dX11_successor_4 : decode cX11_successor 4 = .ok (.getfield 112, 3) := by decide +kernel
theorem dX11_successor_7 : decode cX11_successor 7 = .ok (.getfield 125, 3) := by decide +kernel
theorem dX11_successor_10 : decode cX11_successor 10 = .ok (.astore_n 3, 1) := by decide +kernel
theorem dX11_successor_11 : decode cX11_successor 11 = .ok (.aload_n 3, 1) := by decide +kernel
theorem dX11_successor_12 : decode cX11_successor 12 = .ok (.iload_n 1, 1) := by decide +kernel
theorem dX11_successor_13 : decode cX11_successor 13 = .ok (.invokevirtual 212, 3) := by decide +kernel
theorem dX11_successor_16 : decode cX11_successor 16 = .ok (.ifCond .eq 12, 3) := by decide +kernel
theorem dX11_successor_19 : decode cX11_successor 19 = .ok (.iload_n 2, 1) := by decide +kernel
theorem dX11_successor_20 : decode cX11_successor 20 = .ok (.ifCond .lt 8, 3) := by decide +kernel
theorem dX11_successor_23 : decode cX11_successor 23 = .ok (.iload_n 2, 1) := by decide +kernel
theorem dX11_successor_24 : decode cX11_successor 24 = .ok (.iconst 4, 1) := by decide +kernel
theorem dX11_successor_25 : decode cX11_successor 25 = .ok (.if_icmp .lt 5, 3) := by decide +kernel
theorem dX11_successor_28 : decode cX11_successor 28 = .ok (.iconst (-1), 1) := by decide +kernel
theorem dX11_successor_29 : decode cX11_successor 29 = .ok (.ireturn, 1) := by decide +kernel
theorem dX11_successor_30 : decode cX11_successor 30 = .ok (.aload_n 3, 1) := by decide +kernel
theorem dX11_successor_31 : decode cX11_successor 31 = .ok (.iload_n 1, 1) := by decide +kernel
theorem dX11_successor_32 : decode cX11_successor 32 = .ok (.iload_n 2, 1) := by decide +kernel
theorem dX11_successor_33 : decode cX11_successor 33 = .ok (.invokevirtual 215, 3) := by decide +kernel
theorem dX11_successor_36 : decode cX11_successor 36 = .ok (.ireturn, 1) := by decide +kernel
theorem dX11_leads_0 : decode cX11_leads 0 = .ok (.aload_n 0, 1) := by decide +kernel
theorem dX11_leads_1 : decode cX11_leads 1 = .ok (.getfield 35, 3) := by decide +kernel
theorem dX11_leads_4 : decode cX11_leads 4 = .ok (.getfield 112, 3) := by decide +kernel
theorem dX11_leads_7 : decode cX11_leads 7 = .ok (.getfield 125, 3) := by decide +kernel
theorem dX11_leads_10 : decode cX11_leads 10 = .ok (.astore_n 3, 1) := by decide +kernel
theorem dX11_leads_11 : decode cX11_leads 11 = .ok (.aload_n 3, 1) := by decide +kernel
theorem dX11_leads_12 : decode cX11_leads 12 = .ok (.iload_n 1, 1) := by decide +kernel
theorem dX11_leads_13 : decode cX11_leads 13 = .ok (.invokevirtual 212, 3) := by decide +kernel
theorem dX11_leads_16 : decode cX11_leads 16 = .ok (.ifCond .ne 5, 3) := by decide +kernel
theorem dX11_leads_19 : decode cX11_leads 19 = .ok (.iconst (-1), 1) := by decide +kernel
theorem dX11_leads_20 : decode cX11_leads 20 = .ok (.ireturn, 1) := by decide +kernel
theorem dX11_leads_21 : decode cX11_leads 21 = .ok (.aload_n 3, 1) := by decide +kernel
theorem dX11_leads_22 : decode cX11_leads 22 = .ok (.iload_n 1, 1) := by decide +kernel
theorem dX11_leads_23 : decode cX11_leads 23 = .ok (.invokevirtual 218, 3) := by decide +kernel
theorem dX11_leads_26 : decode cX11_leads 26 = .ok (.iload_n 2, 1) := by decide +kernel
theorem dX11_leads_27 : decode cX11_leads 27 = .ok (.invokestatic 222, 3) := by decide +kernel
theorem dX11_leads_30 : decode cX11_leads 30 = .ok (.ireturn, 1) := by decide +kernel
theorem dX11_countOrState_0 : decode cX11_countOrState 0 = .ok (.iload_n 2, 1) := by decide +kernel
theorem dX11_countOrState_1 : decode cX11_countOrState 1 = .ok (.iconst (-1), 1) := by decide +kernel
theorem dX11_countOrState_2 : decode cX11_countOrState 2 = .ok (.if_icmp .ne 10, 3) := by decide +kernel
theorem dX11_countOrState_5 : decode cX11_countOrState 5 = .ok (.lload_n 0, 1) := by decide +kernel
theorem dX11_countOrState_6 : decode cX11_countOrState 6 = .ok (.invokestatic 226, 3) := by decide +kernel
theorem dX11_countOrState_9 : decode cX11_countOrState 9 = .ok (.goto 8, 3) := by decide +kernel
theorem dX11_countOrState_12 : decode cX11_countOrState 12 = .ok (.lload_n 0, 1) := by decide +kernel
theorem dX11_countOrState_13 : decode cX11_countOrState 13 = .ok (.iload_n 2, 1) := by decide +kernel
theorem dX11_countOrState_14 : decode cX11_countOrState 14 = .ok (.invokestatic 232, 3) := by decide +kernel
theorem dX11_countOrState_17 : decode cX11_countOrState 17 = .ok (.ireturn, 1) := by decide +kernel
theorem dX11_of_0 : decode cX11_of 0 = .ok (.aload_n 0, 1) := by decide +kernel
theorem dX11_of_1 : decode cX11_of 1 = .ok (.getfield 35, 3) := by decide +kernel
theorem dX11_of_4 : decode cX11_of 4 = .ok (.getfield 112, 3) := by decide +kernel
theorem dX11_of_7 : decode cX11_of 7 = .ok (.getfield 125, 3) := by decide +kernel
theorem dX11_of_10 : decode cX11_of 10 = .ok (.astore_n 3, 1) := by decide +kernel
theorem dX11_of_11 : decode cX11_of 11 = .ok (.aload_n 3, 1) := by decide +kernel
theorem dX11_of_12 : decode cX11_of 12 = .ok (.iload_n 1, 1) := by decide +kernel
theorem dX11_of_13 : decode cX11_of 13 = .ok (.invokevirtual 212, 3) := by decide +kernel
theorem dX11_of_16 : decode cX11_of 16 = .ok (.ifCond .ne 5, 3) := by decide +kernel
theorem dX11_of_19 : decode cX11_of 19 = .ok (.iconst 0, 1) := by decide +kernel
theorem dX11_of_20 : decode cX11_of 20 = .ok (.ireturn, 1) := by decide +kernel
theorem dX11_of_21 : decode cX11_of 21 = .ok (.iload_n 2, 1) := by decide +kernel
theorem dX11_of_22 : decode cX11_of 22 = .ok (.iconst (-1), 1) := by decide +kernel
theorem dX11_of_23 : decode cX11_of 23 = .ok (.if_icmp .ne 12, 3) := by decide +kernel
theorem dX11_of_26 : decode cX11_of 26 = .ok (.aload_n 3, 1) := by decide +kernel
theorem dX11_of_27 : decode cX11_of 27 = .ok (.getfield 237, 3) := by decide +kernel
theorem dX11_of_30 : decode cX11_of 30 = .ok (.iload_n 1, 1) := by decide +kernel
theorem dX11_of_31 : decode cX11_of 31 = .ok (.invokestatic 241, 3) := by decide +kernel
theorem dX11_of_34 : decode cX11_of 34 = .ok (.ireturn, 1) := by decide +kernel
theorem dX11_of_35 : decode cX11_of 35 = .ok (.aload_n 3, 1) := by decide +kernel
theorem dX11_of_36 : decode cX11_of 36 = .ok (.iload_n 2, 1) := by decide +kernel
theorem dX11_of_37 : decode cX11_of 37 = .ok (.invokevirtual 128, 3) := by decide +kernel
theorem dX11_of_40 : decode cX11_of 40 = .ok (.ifCond .eq 20, 3) := by decide +kernel
theorem dX11_of_43 : decode cX11_of 43 = .ok (.aload_n 3, 1) := by decide +kernel
theorem dX11_of_44 : decode cX11_of 44 = .ok (.getfield 182, 3) := by decide +kernel
theorem dX11_of_47 : decode cX11_of 47 = .ok (.iload_n 2, 1) := by decide +kernel
theorem dX11_of_48 : decode cX11_of 48 = .ok (.laload, 1) := by decide +kernel
theorem dX11_of_49 : decode cX11_of 49 = .ok (.iload_n 1, 1) := by decide +kernel
theorem dX11_of_50 : decode cX11_of 50 = .ok (.invokestatic 241, 3) := by decide +kernel
theorem dX11_of_53 : decode cX11_of 53 = .ok (.ifCond .eq 7, 3) := by decide +kernel
theorem dX11_of_56 : decode cX11_of 56 = .ok (.iconst 1, 1) := by decide +kernel
theorem dX11_of_57 : decode cX11_of 57 = .ok (.goto 4, 3) := by decide +kernel
theorem dX11_of_60 : decode cX11_of 60 = .ok (.iconst 0, 1) := by decide +kernel
theorem dX11_of_61 : decode cX11_of 61 = .ok (.ireturn, 1) := by decide +kernel
theorem dX11_within_0 : decode cX11_within 0 = .ok (.aload_n 0, 1) := by decide +kernel
theorem dX11_within_1 : decode cX11_within 1 = .ok (.getfield 35, 3) := by decide +kernel
theorem dX11_within_4 : decode cX11_within 4 = .ok (.getfield 112, 3) := by decide +kernel
theorem dX11_within_7 : decode cX11_within 7 = .ok (.astore_n 3, 1) := by decide +kernel
theorem dX11_within_8 : decode cX11_within 8 = .ok (.aload_n 3, 1) := by decide +kernel
theorem dX11_within_9 : decode cX11_within 9 = .ok (.getfield 125, 3) := by decide +kernel
theorem dX11_within_12 : decode cX11_within 12 = .ok (.iload_n 1, 1) := by decide +kernel
theorem dX11_within_13 : decode cX11_within 13 = .ok (.invokevirtual 212, 3) := by decide +kernel
theorem dX11_within_16 : decode cX11_within 16 = .ok (.ifCond .eq 27, 3) := by decide +kernel
theorem dX11_within_19 : decode cX11_within 19 = .ok (.aload_n 3, 1) := by decide +kernel
theorem dX11_within_20 : decode cX11_within 20 = .ok (.iload_n 2, 1) := by decide +kernel
theorem dX11_within_21 : decode cX11_within 21 = .ok (.invokevirtual 245, 3) := by decide +kernel
theorem dX11_within_24 : decode cX11_within 24 = .ok (.ifCond .eq 19, 3) := by decide +kernel
theorem dX11_within_27 : decode cX11_within 27 = .ok (.aload_n 3, 1) := by decide +kernel
theorem dX11_within_28 : decode cX11_within 28 = .ok (.iload_n 2, 1) := by decide +kernel
theorem dX11_within_29 : decode cX11_within 29 = .ok (.invokevirtual 248, 3) := by decide +kernel
theorem dX11_within_32 : decode cX11_within 32 = .ok (.iload_n 1, 1) := by decide +kernel
theorem dX11_within_33 : decode cX11_within 33 = .ok (.invokestatic 241, 3) := by decide +kernel
theorem dX11_within_36 : decode cX11_within 36 = .ok (.ifCond .eq 7, 3) := by decide +kernel
theorem dX11_within_39 : decode cX11_within 39 = .ok (.iconst 1, 1) := by decide +kernel
theorem dX11_within_40 : decode cX11_within 40 = .ok (.goto 4, 3) := by decide +kernel
theorem dX11_within_43 : decode cX11_within 43 = .ok (.iconst 0, 1) := by decide +kernel
theorem dX11_within_44 : decode cX11_within 44 = .ok (.ireturn, 1) := by decide +kernel
theorem dX11_wide_0 : decode cX11_wide 0 = .ok (.aload_n 0, 1) := by decide +kernel
theorem dX11_wide_1 : decode cX11_wide 1 = .ok (.getfield 35, 3) := by decide +kernel
theorem dX11_wide_4 : decode cX11_wide 4 = .ok (.getfield 112, 3) := by decide +kernel
theorem dX11_wide_7 : decode cX11_wide 7 = .ok (.astore_n 2, 1) := by decide +kernel
theorem dX11_wide_8 : decode cX11_wide 8 = .ok (.aload_n 2, 1) := by decide +kernel
theorem dX11_wide_9 : decode cX11_wide 9 = .ok (.iload_n 1, 1) := by decide +kernel
theorem dX11_wide_10 : decode cX11_wide 10 = .ok (.invokevirtual 245, 3) := by decide +kernel
theorem dX11_wide_13 : decode cX11_wide 13 = .ok (.ifCond .eq 14, 3) := by decide +kernel
theorem dX11_wide_16 : decode cX11_wide 16 = .ok (.aload_n 2, 1) := by decide +kernel
theorem dX11_wide_17 : decode cX11_wide 17 = .ok (.iload_n 1, 1) := by decide +kernel
theorem dX11_wide_18 : decode cX11_wide 18 = .ok (.invokevirtual 248, 3) := by decide +kernel
theorem dX11_wide_21 : decode cX11_wide 21 = .ok (.invokestatic 226, 3) := by decide +kernel
theorem dX11_wide_24 : decode cX11_wide 24 = .ok (.goto 4, 3) := by decide +kernel
theorem dX11_wide_27 : decode cX11_wide 27 = .ok (.iconst (-1), 1) := by decide +kernel
theorem dX11_wide_28 : decode cX11_wide 28 = .ok (.ireturn, 1) := by decide +kernel
theorem dX11_bad_0 : decode cX11_bad 0 = .ok (.aload_n 0, 1) := by decide +kernel
theorem dX11_bad_1 : decode cX11_bad 1 = .ok (.getfield 35, 3) := by decide +kernel
theorem dX11_bad_4 : decode cX11_bad 4 = .ok (.getfield 112, 3) := by decide +kernel
theorem dX11_bad_7 : decode cX11_bad 7 = .ok (.astore_n 2, 1) := by decide +kernel
theorem dX11_bad_8 : decode cX11_bad 8 = .ok (.aload_n 2, 1) := by decide +kernel
theorem dX11_bad_9 : decode cX11_bad 9 = .ok (.iload_n 1, 1) := by decide +kernel
theorem dX11_bad_10 : decode cX11_bad 10 = .ok (.invokevirtual 245, 3) := by decide +kernel
theorem dX11_bad_13 : decode cX11_bad 13 = .ok (.ifCond .eq 14, 3) := by decide +kernel
theorem dX11_bad_16 : decode cX11_bad 16 = .ok (.aload_n 2, 1) := by decide +kernel
theorem dX11_bad_17 : decode cX11_bad 17 = .ok (.iload_n 1, 1) := by decide +kernel
theorem dX11_bad_18 : decode cX11_bad 18 = .ok (.invokevirtual 251, 3) := by decide +kernel
theorem dX11_bad_21 : decode cX11_bad 21 = .ok (.invokestatic 226, 3) := by decide +kernel
theorem dX11_bad_24 : decode cX11_bad 24 = .ok (.goto 4, 3) := by decide +kernel
theorem dX11_bad_27 : decode cX11_bad 27 = .ok (.iconst (-1), 1) := by decide +kernel
theorem dX11_bad_28 : decode cX11_bad 28 = .ok (.ireturn, 1) := by decide +kernel
theorem dX11_sought_0 : decode cX11_sought 0 = .ok (.aload_n 0, 1) := by decide +kernel
theorem dX11_sought_1 : decode cX11_sought 1 = .ok (.getfield 35, 3) := by decide +kernel
theorem dX11_sought_4 : decode cX11_sought 4 = .ok (.getfield 112, 3) := by decide +kernel
theorem dX11_sought_7 : decode cX11_sought 7 = .ok (.invokevirtual 254, 3) := by decide +kernel
theorem dX11_sought_10 : decode cX11_sought 10 = .ok (.iload_n 1, 1) := by decide +kernel
theorem dX11_sought_11 : decode cX11_sought 11 = .ok (.invokestatic 222, 3) := by decide +kernel
theorem dX11_sought_14 : decode cX11_sought 14 = .ok (.ireturn, 1) := by decide +kernel
theorem dX11_weight_0 : decode cX11_weight 0 = .ok (.aload_n 0, 1) := by decide +kernel
theorem dX11_weight_1 : decode cX11_weight 1 = .ok (.getfield 35, 3) := by decide +kernel
theorem dX11_weight_4 : decode cX11_weight 4 = .ok (.getfield 112, 3) := by decide +kernel
theorem dX11_weight_7 : decode cX11_weight 7 = .ok (.astore_n 2, 1) := by decide +kernel
theorem dX11_weight_8 : decode cX11_weight 8 = .ok (.aload_n 2, 1) := by decide +kernel
theorem dX11_weight_9 : decode cX11_weight 9 = .ok (.iload_n 1, 1) := by decide +kernel
theorem dX11_weight_10 : decode cX11_weight 10 = .ok (.invokevirtual 258, 3) := by decide +kernel
theorem dX11_weight_13 : decode cX11_weight 13 = .ok (.ifCond .ne 5, 3) := by decide +kernel
theorem dX11_weight_16 : decode cX11_weight 16 = .ok (.iconst (-1), 1) := by decide +kernel
theorem dX11_weight_17 : decode cX11_weight 17 = .ok (.ireturn, 1) := by decide +kernel
theorem dX11_weight_18 : decode cX11_weight 18 = .ok (.aload_n 2, 1) := by decide +kernel
theorem dX11_weight_19 : decode cX11_weight 19 = .ok (.getfield 151, 3) := by decide +kernel
theorem dX11_weight_22 : decode cX11_weight 22 = .ok (.iload_n 1, 1) := by decide +kernel
theorem dX11_weight_23 : decode cX11_weight 23 = .ok (.invokevirtual 261, 3) := by decide +kernel
theorem dX11_weight_26 : decode cX11_weight 26 = .ok (.ireturn, 1) := by decide +kernel
theorem dX11_cube_0 : decode cX11_cube 0 = .ok (.aload_n 0, 1) := by decide +kernel
theorem dX11_cube_1 : decode cX11_cube 1 = .ok (.getfield 35, 3) := by decide +kernel
theorem dX11_cube_4 : decode cX11_cube 4 = .ok (.getfield 112, 3) := by decide +kernel
theorem dX11_cube_7 : decode cX11_cube 7 = .ok (.astore 4, 2) := by decide +kernel
theorem dX11_cube_9 : decode cX11_cube 9 = .ok (.aload 4, 2) := by decide +kernel
theorem dX11_cube_11 : decode cX11_cube 11 = .ok (.iload_n 1, 1) := by decide +kernel
theorem dX11_cube_12 : decode cX11_cube 12 = .ok (.invokevirtual 258, 3) := by decide +kernel
theorem dX11_cube_15 : decode cX11_cube 15 = .ok (.ifCond .ne 6, 3) := by decide +kernel
theorem dX11_cube_18 : decode cX11_cube 18 = .ok (.bipush (-2), 2) := by decide +kernel
theorem dX11_cube_20 : decode cX11_cube 20 = .ok (.ireturn, 1) := by decide +kernel
theorem dX11_cube_21 : decode cX11_cube 21 = .ok (.aload 4, 2) := by decide +kernel
theorem dX11_cube_23 : decode cX11_cube 23 = .ok (.getfield 151, 3) := by decide +kernel
theorem dX11_cube_26 : decode cX11_cube 26 = .ok (.astore 5, 2) := by decide +kernel
theorem dX11_cube_28 : decode cX11_cube 28 = .ok (.aload 5, 2) := by decide +kernel
theorem dX11_cube_30 : decode cX11_cube 30 = .ok (.iload_n 1, 1) := by decide +kernel
theorem dX11_cube_31 : decode cX11_cube 31 = .ok (.invokevirtual 264, 3) := by decide +kernel
theorem dX11_cube_34 : decode cX11_cube 34 = .ok (.istore 6, 2) := by decide +kernel
theorem dX11_cube_36 : decode cX11_cube 36 = .ok (.aload 5, 2) := by decide +kernel
theorem dX11_cube_38 : decode cX11_cube 38 = .ok (.iload 6, 2) := by decide +kernel
theorem dX11_cube_40 : decode cX11_cube 40 = .ok (.iload 6, 2) := by decide +kernel
theorem dX11_cube_42 : decode cX11_cube 42 = .ok (.aload 5, 2) := by decide +kernel
theorem dX11_cube_44 : decode cX11_cube 44 = .ok (.iload_n 1, 1) := by decide +kernel
theorem dX11_cube_45 : decode cX11_cube 45 = .ok (.invokevirtual 158, 3) := by decide +kernel
theorem dX11_cube_48 : decode cX11_cube 48 = .ok (.iadd, 1) := by decide +kernel
theorem dX11_cube_49 : decode cX11_cube 49 = .ok (.iload_n 2, 1) := by decide +kernel
theorem dX11_cube_50 : decode cX11_cube 50 = .ok (.iload_n 3, 1) := by decide +kernel
theorem dX11_cube_51 : decode cX11_cube 51 = .ok (.invokestatic 267, 3) := by decide +kernel
theorem dX11_cube_54 : decode cX11_cube 54 = .ok (.ireturn, 1) := by decide +kernel
theorem dX11_cubePart_0 : decode cX11_cubePart 0 = .ok (.iload_n 3, 1) := by decide +kernel
theorem dX11_cubePart_1 : decode cX11_cubePart 1 = .ok (.iconst (-1), 1) := by decide +kernel
theorem dX11_cubePart_2 : decode cX11_cubePart 2 = .ok (.if_icmp .ne 7, 3) := by decide +kernel
theorem dX11_cubePart_5 : decode cX11_cubePart 5 = .ok (.iload_n 2, 1) := by decide +kernel
theorem dX11_cubePart_6 : decode cX11_cubePart 6 = .ok (.iload_n 1, 1) := by decide +kernel
theorem dX11_cubePart_7 : decode cX11_cubePart 7 = .ok (.isub, 1) := by decide +kernel
theorem dX11_cubePart_8 : decode cX11_cubePart 8 = .ok (.ireturn, 1) := by decide +kernel
theorem dX11_cubePart_9 : decode cX11_cubePart 9 = .ok (.iload_n 3, 1) := by decide +kernel
theorem dX11_cubePart_10 : decode cX11_cubePart 10 = .ok (.ifCond .lt 10, 3) := by decide +kernel
theorem dX11_cubePart_13 : decode cX11_cubePart 13 = .ok (.iload_n 3, 1) := by decide +kernel
theorem dX11_cubePart_14 : decode cX11_cubePart 14 = .ok (.iload_n 2, 1) := by decide +kernel
theorem dX11_cubePart_15 : decode cX11_cubePart 15 = .ok (.iload_n 1, 1) := by decide +kernel
theorem dX11_cubePart_16 : decode cX11_cubePart 16 = .ok (.isub, 1) := by decide +kernel
theorem dX11_cubePart_17 : decode cX11_cubePart 17 = .ok (.if_icmp .lt 6, 3) := by decide +kernel
theorem dX11_cubePart_20 : decode cX11_cubePart 20 = .ok (.bipush (-2), 2) := by decide +kernel
theorem dX11_cubePart_22 : decode cX11_cubePart 22 = .ok (.ireturn, 1) := by decide +kernel
theorem dX11_cubePart_23 : decode cX11_cubePart 23 = .ok (.iload 4, 2) := by decide +kernel
theorem dX11_cubePart_25 : decode cX11_cubePart 25 = .ok (.lookupswitch 49 #[(0, 27), (1, 38)], 27) := by decide +kernel
theorem dX11_cubePart_52 : decode cX11_cubePart 52 = .ok (.aload_n 0, 1) := by decide +kernel
theorem dX11_cubePart_53 : decode cX11_cubePart 53 = .ok (.iload_n 1, 1) := by decide +kernel
theorem dX11_cubePart_54 : decode cX11_cubePart 54 = .ok (.iload_n 3, 1) := by decide +kernel
theorem dX11_cubePart_55 : decode cX11_cubePart 55 = .ok (.iadd, 1) := by decide +kernel
theorem dX11_cubePart_56 : decode cX11_cubePart 56 = .ok (.invokevirtual 271, 3) := by decide +kernel
theorem dX11_cubePart_59 : decode cX11_cubePart 59 = .ok (.invokestatic 274, 3) := by decide +kernel
theorem dX11_cubePart_62 : decode cX11_cubePart 62 = .ok (.ireturn, 1) := by decide +kernel
theorem dX11_cubePart_63 : decode cX11_cubePart 63 = .ok (.aload_n 0, 1) := by decide +kernel
theorem dX11_cubePart_64 : decode cX11_cubePart 64 = .ok (.iload_n 1, 1) := by decide +kernel
theorem dX11_cubePart_65 : decode cX11_cubePart 65 = .ok (.iload_n 3, 1) := by decide +kernel
theorem dX11_cubePart_66 : decode cX11_cubePart 66 = .ok (.iadd, 1) := by decide +kernel
theorem dX11_cubePart_67 : decode cX11_cubePart 67 = .ok (.invokevirtual 271, 3) := by decide +kernel
theorem dX11_cubePart_70 : decode cX11_cubePart 70 = .ok (.invokestatic 277, 3) := by decide +kernel
theorem dX11_cubePart_73 : decode cX11_cubePart 73 = .ok (.ireturn, 1) := by decide +kernel
theorem dX11_cubePart_74 : decode cX11_cubePart 74 = .ok (.bipush (-2), 2) := by decide +kernel
theorem dX11_cubePart_76 : decode cX11_cubePart 76 = .ok (.ireturn, 1) := by decide +kernel
theorem dX11_obligation_0 : decode cX11_obligation 0 = .ok (.aload_n 0, 1) := by decide +kernel
theorem dX11_obligation_1 : decode cX11_obligation 1 = .ok (.getfield 35, 3) := by decide +kernel
theorem dX11_obligation_4 : decode cX11_obligation 4 = .ok (.getfield 112, 3) := by decide +kernel
theorem dX11_obligation_7 : decode cX11_obligation 7 = .ok (.getfield 188, 3) := by decide +kernel
theorem dX11_obligation_10 : decode cX11_obligation 10 = .ok (.astore_n 3, 1) := by decide +kernel
theorem dX11_obligation_11 : decode cX11_obligation 11 = .ok (.iload_n 1, 1) := by decide +kernel
theorem dX11_obligation_12 : decode cX11_obligation 12 = .ok (.iconst (-1), 1) := by decide +kernel
theorem dX11_obligation_13 : decode cX11_obligation 13 = .ok (.if_icmp .ne 8, 3) := by decide +kernel
theorem dX11_obligation_16 : decode cX11_obligation 16 = .ok (.aload_n 3, 1) := by decide +kernel
theorem dX11_obligation_17 : decode cX11_obligation 17 = .ok (.getfield 192, 3) := by decide +kernel
theorem dX11_obligation_20 : decode cX11_obligation 20 = .ok (.ireturn, 1) := by decide +kernel
theorem dX11_obligation_21 : decode cX11_obligation 21 = .ok (.iload_n 1, 1) := by decide +kernel
theorem dX11_obligation_22 : decode cX11_obligation 22 = .ok (.ifCond .lt 20, 3) := by decide +kernel
theorem dX11_obligation_25 : decode cX11_obligation 25 = .ok (.iload_n 1, 1) := by decide +kernel
theorem dX11_obligation_26 : decode cX11_obligation 26 = .ok (.aload_n 3, 1) := by decide +kernel
theorem dX11_obligation_27 : decode cX11_obligation 27 = .ok (.getfield 192, 3) := by decide +kernel
theorem dX11_obligation_30 : decode cX11_obligation 30 = .ok (.if_icmp .ge 12, 3) := by decide +kernel
theorem dX11_obligation_33 : decode cX11_obligation 33 = .ok (.iload_n 2, 1) := by decide +kernel
theorem dX11_obligation_34 : decode cX11_obligation 34 = .ok (.ifCond .lt 8, 3) := by decide +kernel
theorem dX11_obligation_37 : decode cX11_obligation 37 = .ok (.iload_n 2, 1) := by decide +kernel
theorem dX11_obligation_38 : decode cX11_obligation 38 = .ok (.iconst 4, 1) := by decide +kernel
theorem dX11_obligation_39 : decode cX11_obligation 39 = .ok (.if_icmp .lt 6, 3) := by decide +kernel
theorem dX11_obligation_42 : decode cX11_obligation 42 = .ok (.bipush (-2), 2) := by decide +kernel
theorem dX11_obligation_44 : decode cX11_obligation 44 = .ok (.ireturn, 1) := by decide +kernel
theorem dX11_obligation_45 : decode cX11_obligation 45 = .ok (.aload_n 3, 1) := by decide +kernel
theorem dX11_obligation_46 : decode cX11_obligation 46 = .ok (.iload_n 1, 1) := by decide +kernel
theorem dX11_obligation_47 : decode cX11_obligation 47 = .ok (.iload_n 2, 1) := by decide +kernel
theorem dX11_obligation_48 : decode cX11_obligation 48 = .ok (.invokevirtual 280, 3) := by decide +kernel
theorem dX11_obligation_51 : decode cX11_obligation 51 = .ok (.ireturn, 1) := by decide +kernel
theorem dX11_trace_0 : decode cX11_trace 0 = .ok (.aload_n 0, 1) := by decide +kernel
theorem dX11_trace_1 : decode cX11_trace 1 = .ok (.getfield 35, 3) := by decide +kernel
theorem dX11_trace_4 : decode cX11_trace 4 = .ok (.getfield 112, 3) := by decide +kernel
theorem dX11_trace_7 : decode cX11_trace 7 = .ok (.astore_n 3, 1) := by decide +kernel
theorem dX11_trace_8 : decode cX11_trace 8 = .ok (.aload_n 3, 1) := by decide +kernel
theorem dX11_trace_9 : decode cX11_trace 9 = .ok (.getfield 176, 3) := by decide +kernel
theorem dX11_trace_12 : decode cX11_trace 12 = .ok (.iconst 4, 1) := by decide +kernel
theorem dX11_trace_13 : decode cX11_trace 13 = .ok (.if_icmp .ne 17, 3) := by decide +kernel
theorem dX11_trace_16 : decode cX11_trace 16 = .ok (.aload_n 3, 1) := by decide +kernel
theorem dX11_trace_17 : decode cX11_trace 17 = .ok (.getfield 188, 3) := by decide +kernel
theorem dX11_trace_20 : decode cX11_trace 20 = .ok (.aload_n 0, 1) := by decide +kernel
theorem dX11_trace_21 : decode cX11_trace 21 = .ok (.getfield 63, 3) := by decide +kernel
theorem dX11_trace_24 : decode cX11_trace 24 = .ok (.invokevirtual 283, 3) := by decide +kernel
theorem dX11_trace_27 : decode cX11_trace 27 = .ok (.goto 4, 3) := by decide +kernel
theorem dX11_trace_30 : decode cX11_trace 30 = .ok (.iconst 0, 1) := by decide +kernel
theorem dX11_trace_31 : decode cX11_trace 31 = .ok (.istore 4, 2) := by decide +kernel
theorem dX11_trace_33 : decode cX11_trace 33 = .ok (.aload_n 0, 1) := by decide +kernel
theorem dX11_trace_34 : decode cX11_trace 34 = .ok (.iload 4, 2) := by decide +kernel
theorem dX11_trace_36 : decode cX11_trace 36 = .ok (.iload_n 1, 1) := by decide +kernel
theorem dX11_trace_37 : decode cX11_trace 37 = .ok (.iload_n 2, 1) := by decide +kernel
theorem dX11_trace_38 : decode cX11_trace 38 = .ok (.invokevirtual 287, 3) := by decide +kernel
theorem dX11_trace_41 : decode cX11_trace 41 = .ok (.ireturn, 1) := by decide +kernel
theorem dX11_pathPart_0 : decode cX11_pathPart 0 = .ok (.iload_n 2, 1) := by decide +kernel
theorem dX11_pathPart_1 : decode cX11_pathPart 1 = .ok (.iconst (-1), 1) := by decide +kernel
theorem dX11_pathPart_2 : decode cX11_pathPart 2 = .ok (.if_icmp .ne 5, 3) := by decide +kernel
theorem dX11_pathPart_5 : decode cX11_pathPart 5 = .ok (.iload_n 1, 1) := by decide +kernel
theorem dX11_pathPart_6 : decode cX11_pathPart 6 = .ok (.ireturn, 1) := by decide +kernel
theorem dX11_pathPart_7 : decode cX11_pathPart 7 = .ok (.iload_n 2, 1) := by decide +kernel
theorem dX11_pathPart_8 : decode cX11_pathPart 8 = .ok (.ifCond .lt 26, 3) := by decide +kernel
theorem dX11_pathPart_11 : decode cX11_pathPart 11 = .ok (.iload_n 2, 1) := by decide +kernel
theorem dX11_pathPart_12 : decode cX11_pathPart 12 = .ok (.iload_n 1, 1) := by decide +kernel
theorem dX11_pathPart_13 : decode cX11_pathPart 13 = .ok (.if_icmp .ge 21, 3) := by decide +kernel
theorem dX11_pathPart_16 : decode cX11_pathPart 16 = .ok (.iload_n 2, 1) := by decide +kernel
theorem dX11_pathPart_17 : decode cX11_pathPart 17 = .ok (.aload_n 0, 1) := by decide +kernel
theorem dX11_pathPart_18 : decode cX11_pathPart 18 = .ok (.getfield 63, 3) := by decide +kernel
theorem dX11_pathPart_21 : decode cX11_pathPart 21 = .ok (.arraylength, 1) := by decide +kernel
theorem dX11_pathPart_22 : decode cX11_pathPart 22 = .ok (.if_icmp .ge 12, 3) := by decide +kernel
theorem dX11_pathPart_25 : decode cX11_pathPart 25 = .ok (.iload_n 3, 1) := by decide +kernel
theorem dX11_pathPart_26 : decode cX11_pathPart 26 = .ok (.ifCond .lt 8, 3) := by decide +kernel
theorem dX11_pathPart_29 : decode cX11_pathPart 29 = .ok (.iload_n 3, 1) := by decide +kernel
theorem dX11_pathPart_30 : decode cX11_pathPart 30 = .ok (.iconst 1, 1) := by decide +kernel
theorem dX11_pathPart_31 : decode cX11_pathPart 31 = .ok (.if_icmp .le 6, 3) := by decide +kernel
theorem dX11_pathPart_34 : decode cX11_pathPart 34 = .ok (.bipush (-2), 2) := by decide +kernel
theorem dX11_pathPart_36 : decode cX11_pathPart 36 = .ok (.ireturn, 1) := by decide +kernel
theorem dX11_pathPart_37 : decode cX11_pathPart 37 = .ok (.iload_n 3, 1) := by decide +kernel
theorem dX11_pathPart_38 : decode cX11_pathPart 38 = .ok (.ifCond .ne 10, 3) := by decide +kernel
theorem dX11_pathPart_41 : decode cX11_pathPart 41 = .ok (.aload_n 0, 1) := by decide +kernel
theorem dX11_pathPart_42 : decode cX11_pathPart 42 = .ok (.getfield 63, 3) := by decide +kernel
theorem dX11_pathPart_45 : decode cX11_pathPart 45 = .ok (.iload_n 2, 1) := by decide +kernel
theorem dX11_pathPart_46 : decode cX11_pathPart 46 = .ok (.iaload, 1) := by decide +kernel
theorem dX11_pathPart_47 : decode cX11_pathPart 47 = .ok (.ireturn, 1) := by decide +kernel
theorem dX11_pathPart_48 : decode cX11_pathPart 48 = .ok (.iload_n 2, 1) := by decide +kernel
theorem dX11_pathPart_49 : decode cX11_pathPart 49 = .ok (.iconst 1, 1) := by decide +kernel
theorem dX11_pathPart_50 : decode cX11_pathPart 50 = .ok (.iadd, 1) := by decide +kernel
theorem dX11_pathPart_51 : decode cX11_pathPart 51 = .ok (.iload_n 1, 1) := by decide +kernel
theorem dX11_pathPart_52 : decode cX11_pathPart 52 = .ok (.if_icmp .ge 14, 3) := by decide +kernel
theorem dX11_pathPart_55 : decode cX11_pathPart 55 = .ok (.iload_n 2, 1) := by decide +kernel
theorem dX11_pathPart_56 : decode cX11_pathPart 56 = .ok (.iconst 1, 1) := by decide +kernel
theorem dX11_pathPart_57 : decode cX11_pathPart 57 = .ok (.iadd, 1) := by decide +kernel
theorem dX11_pathPart_58 : decode cX11_pathPart 58 = .ok (.aload_n 0, 1) := by decide +kernel
theorem dX11_pathPart_59 : decode cX11_pathPart 59 = .ok (.getfield 63, 3) := by decide +kernel
theorem dX11_pathPart_62 : decode cX11_pathPart 62 = .ok (.arraylength, 1) := by decide +kernel
theorem dX11_pathPart_63 : decode cX11_pathPart 63 = .ok (.if_icmp .lt 5, 3) := by decide +kernel
theorem dX11_pathPart_66 : decode cX11_pathPart 66 = .ok (.iconst (-1), 1) := by decide +kernel
theorem dX11_pathPart_67 : decode cX11_pathPart 67 = .ok (.ireturn, 1) := by decide +kernel
theorem dX11_pathPart_68 : decode cX11_pathPart 68 = .ok (.aload_n 0, 1) := by decide +kernel
theorem dX11_pathPart_69 : decode cX11_pathPart 69 = .ok (.getfield 35, 3) := by decide +kernel
theorem dX11_pathPart_72 : decode cX11_pathPart 72 = .ok (.getfield 112, 3) := by decide +kernel
theorem dX11_pathPart_75 : decode cX11_pathPart 75 = .ok (.getfield 125, 3) := by decide +kernel
theorem dX11_pathPart_78 : decode cX11_pathPart 78 = .ok (.aload_n 0, 1) := by decide +kernel
theorem dX11_pathPart_79 : decode cX11_pathPart 79 = .ok (.getfield 63, 3) := by decide +kernel
theorem dX11_pathPart_82 : decode cX11_pathPart 82 = .ok (.iload_n 2, 1) := by decide +kernel
theorem dX11_pathPart_83 : decode cX11_pathPart 83 = .ok (.iaload, 1) := by decide +kernel
theorem dX11_pathPart_84 : decode cX11_pathPart 84 = .ok (.aload_n 0, 1) := by decide +kernel
theorem dX11_pathPart_85 : decode cX11_pathPart 85 = .ok (.getfield 63, 3) := by decide +kernel
theorem dX11_pathPart_88 : decode cX11_pathPart 88 = .ok (.iload_n 2, 1) := by decide +kernel
theorem dX11_pathPart_89 : decode cX11_pathPart 89 = .ok (.iconst 1, 1) := by decide +kernel
theorem dX11_pathPart_90 : decode cX11_pathPart 90 = .ok (.iadd, 1) := by decide +kernel
theorem dX11_pathPart_91 : decode cX11_pathPart 91 = .ok (.iaload, 1) := by decide +kernel
theorem dX11_pathPart_92 : decode cX11_pathPart 92 = .ok (.invokevirtual 291, 3) := by decide +kernel
theorem dX11_pathPart_95 : decode cX11_pathPart 95 = .ok (.ireturn, 1) := by decide +kernel
theorem dX11_fence_0 : decode cX11_fence 0 = .ok (.aload_n 0, 1) := by decide +kernel
theorem dX11_fence_1 : decode cX11_fence 1 = .ok (.getfield 35, 3) := by decide +kernel
theorem dX11_fence_4 : decode cX11_fence 4 = .ok (.getfield 112, 3) := by decide +kernel
theorem dX11_fence_7 : decode cX11_fence 7 = .ok (.astore_n 3, 1) := by decide +kernel
theorem dX11_fence_8 : decode cX11_fence 8 = .ok (.aload_n 3, 1) := by decide +kernel
theorem dX11_fence_9 : decode cX11_fence 9 = .ok (.getfield 151, 3) := by decide +kernel
theorem dX11_fence_12 : decode cX11_fence 12 = .ok (.getfield 294, 3) := by decide +kernel
theorem dX11_fence_15 : decode cX11_fence 15 = .ok (.istore 4, 2) := by decide +kernel
theorem dX11_fence_17 : decode cX11_fence 17 = .ok (.aload_n 3, 1) := by decide +kernel
theorem dX11_fence_18 : decode cX11_fence 18 = .ok (.getfield 176, 3) := by decide +kernel
theorem dX11_fence_21 : decode cX11_fence 21 = .ok (.iconst 3, 1) := by decide +kernel
theorem dX11_fence_22 : decode cX11_fence 22 = .ok (.if_icmp .ne 10, 3) := by decide +kernel
theorem dX11_fence_25 : decode cX11_fence 25 = .ok (.aload_n 3, 1) := by decide +kernel
theorem dX11_fence_26 : decode cX11_fence 26 = .ok (.invokevirtual 295, 3) := by decide +kernel
theorem dX11_fence_29 : decode cX11_fence 29 = .ok (.goto 5, 3) := by decide +kernel
theorem dX11_fence_32 : decode cX11_fence 32 = .ok (.iload 4, 2) := by decide +kernel
theorem dX11_fence_34 : decode cX11_fence 34 = .ok (.istore 5, 2) := by decide +kernel
theorem dX11_fence_36 : decode cX11_fence 36 = .ok (.aload_n 3, 1) := by decide +kernel
theorem dX11_fence_37 : decode cX11_fence 37 = .ok (.getfield 151, 3) := by decide +kernel
theorem dX11_fence_40 : decode cX11_fence 40 = .ok (.iload 5, 2) := by decide +kernel
theorem dX11_fence_42 : decode cX11_fence 42 = .ok (.iload 4, 2) := by decide +kernel
theorem dX11_fence_44 : decode cX11_fence 44 = .ok (.iload_n 1, 1) := by decide +kernel
theorem dX11_fence_45 : decode cX11_fence 45 = .ok (.iload_n 2, 1) := by decide +kernel
theorem dX11_fence_46 : decode cX11_fence 46 = .ok (.invokestatic 267, 3) := by decide +kernel
theorem dX11_fence_49 : decode cX11_fence 49 = .ok (.ireturn, 1) := by decide +kernel
theorem dX11_activity_0 : decode cX11_activity 0 = .ok (.aload_n 0, 1) := by decide +kernel
theorem dX11_activity_1 : decode cX11_activity 1 = .ok (.getfield 35, 3) := by decide +kernel
theorem dX11_activity_4 : decode cX11_activity 4 = .ok (.getfield 112, 3) := by decide +kernel
theorem dX11_activity_7 : decode cX11_activity 7 = .ok (.astore_n 2, 1) := by decide +kernel
theorem dX11_activity_8 : decode cX11_activity 8 = .ok (.iload_n 1, 1) := by decide +kernel
theorem dX11_activity_9 : decode cX11_activity 9 = .ok (.iconst (-1), 1) := by decide +kernel
theorem dX11_activity_10 : decode cX11_activity 10 = .ok (.if_icmp .ne 14, 3) := by decide +kernel
theorem dX11_activity_13 : decode cX11_activity 13 = .ok (.aload_n 2, 1) := by decide +kernel
theorem dX11_activity_14 : decode cX11_activity 14 = .ok (.getfield 298, 3) := by decide +kernel
theorem dX11_activity_17 : decode cX11_activity 17 = .ok (.getfield 302, 3) := by decide +kernel
theorem dX11_activity_20 : decode cX11_activity 20 = .ok (.invokestatic 308, 3) := by decide +kernel
theorem dX11_activity_23 : decode cX11_activity 23 = .ok (.ireturn, 1) := by decide +kernel
theorem dX11_activity_24 : decode cX11_activity 24 = .ok (.iload_n 1, 1) := by decide +kernel
theorem dX11_activity_25 : decode cX11_activity 25 = .ok (.ifCond .lt 14, 3) := by decide +kernel
theorem dX11_activity_28 : decode cX11_activity 28 = .ok (.iload_n 1, 1) := by decide +kernel
theorem dX11_activity_29 : decode cX11_activity 29 = .ok (.aload_n 2, 1) := by decide +kernel
theorem dX11_activity_30 : decode cX11_activity 30 = .ok (.getfield 125, 3) := by decide +kernel
theorem dX11_activity_33 : decode cX11_activity 33 = .ok (.getfield 118, 3) := by decide +kernel
theorem dX11_activity_36 : decode cX11_activity 36 = .ok (.if_icmp .lt 6, 3) := by decide +kernel
theorem dX11_activity_39 : decode cX11_activity 39 = .ok (.bipush (-2), 2) := by decide +kernel
theorem dX11_activity_41 : decode cX11_activity 41 = .ok (.ireturn, 1) := by decide +kernel
theorem dX11_activity_42 : decode cX11_activity 42 = .ok (.aload_n 2, 1) := by decide +kernel
theorem dX11_activity_43 : decode cX11_activity 43 = .ok (.getfield 298, 3) := by decide +kernel
theorem dX11_activity_46 : decode cX11_activity 46 = .ok (.iload_n 1, 1) := by decide +kernel
theorem dX11_activity_47 : decode cX11_activity 47 = .ok (.invokevirtual 314, 3) := by decide +kernel
theorem dX11_activity_50 : decode cX11_activity 50 = .ok (.invokestatic 308, 3) := by decide +kernel
theorem dX11_activity_53 : decode cX11_activity 53 = .ok (.ireturn, 1) := by decide +kernel
theorem dX11_order_0 : decode cX11_order 0 = .ok (.aload_n 0, 1) := by decide +kernel
theorem dX11_order_1 : decode cX11_order 1 = .ok (.getfield 35, 3) := by decide +kernel
theorem dX11_order_4 : decode cX11_order 4 = .ok (.getfield 112, 3) := by decide +kernel
theorem dX11_order_7 : decode cX11_order 7 = .ok (.astore_n 2, 1) := by decide +kernel
theorem dX11_order_8 : decode cX11_order 8 = .ok (.aload_n 2, 1) := by decide +kernel
theorem dX11_order_9 : decode cX11_order 9 = .ok (.getfield 298, 3) := by decide +kernel
theorem dX11_order_12 : decode cX11_order 12 = .ok (.iload_n 1, 1) := by decide +kernel
theorem dX11_order_13 : decode cX11_order 13 = .ok (.aload_n 2, 1) := by decide +kernel
theorem dX11_order_14 : decode cX11_order 14 = .ok (.getfield 135, 3) := by decide +kernel
theorem dX11_order_17 : decode cX11_order 17 = .ok (.aload_n 2, 1) := by decide +kernel
theorem dX11_order_18 : decode cX11_order 18 = .ok (.getfield 125, 3) := by decide +kernel
theorem dX11_order_21 : decode cX11_order 21 = .ok (.getfield 118, 3) := by decide +kernel
theorem dX11_order_24 : decode cX11_order 24 = .ok (.invokevirtual 318, 3) := by decide +kernel
theorem dX11_order_27 : decode cX11_order 27 = .ok (.ireturn, 1) := by decide +kernel
theorem dX11_holds_0 : decode cX11_holds 0 = .ok (.aload_n 0, 1) := by decide +kernel
theorem dX11_holds_1 : decode cX11_holds 1 = .ok (.getfield 35, 3) := by decide +kernel
theorem dX11_holds_4 : decode cX11_holds 4 = .ok (.getfield 112, 3) := by decide +kernel
theorem dX11_holds_7 : decode cX11_holds 7 = .ok (.astore 4, 2) := by decide +kernel
theorem dX11_holds_9 : decode cX11_holds 9 = .ok (.aload 4, 2) := by decide +kernel
theorem dX11_holds_11 : decode cX11_holds 11 = .ok (.getfield 125, 3) := by decide +kernel
theorem dX11_holds_14 : decode cX11_holds 14 = .ok (.iload_n 1, 1) := by decide +kernel
theorem dX11_holds_15 : decode cX11_holds 15 = .ok (.iload_n 2, 1) := by decide +kernel
theorem dX11_holds_16 : decode cX11_holds 16 = .ok (.invokevirtual 138, 3) := by decide +kernel
theorem dX11_holds_19 : decode cX11_holds 19 = .ok (.ifCond .eq 35, 3) := by decide +kernel
theorem dX11_holds_22 : decode cX11_holds 22 = .ok (.aload 4, 2) := by decide +kernel
theorem dX11_holds_24 : decode cX11_holds 24 = .ok (.iload_n 3, 1) := by decide +kernel
theorem dX11_holds_25 : decode cX11_holds 25 = .ok (.invokevirtual 245, 3) := by decide +kernel
theorem dX11_holds_28 : decode cX11_holds 28 = .ok (.ifCond .eq 26, 3) := by decide +kernel
theorem dX11_holds_31 : decode cX11_holds 31 = .ok (.aload 4, 2) := by decide +kernel
theorem dX11_holds_33 : decode cX11_holds 33 = .ok (.iload_n 1, 1) := by decide +kernel
theorem dX11_holds_34 : decode cX11_holds 34 = .ok (.iload_n 2, 1) := by decide +kernel
theorem dX11_holds_35 : decode cX11_holds 35 = .ok (.invokestatic 142, 3) := by decide +kernel
theorem dX11_holds_38 : decode cX11_holds 38 = .ok (.aload 4, 2) := by decide +kernel
theorem dX11_holds_40 : decode cX11_holds 40 = .ok (.iload_n 3, 1) := by decide +kernel
theorem dX11_holds_41 : decode cX11_holds 41 = .ok (.invokevirtual 248, 3) := by decide +kernel
theorem dX11_holds_44 : decode cX11_holds 44 = .ok (.invokevirtual 321, 3) := by decide +kernel
theorem dX11_holds_47 : decode cX11_holds 47 = .ok (.ifCond .eq 7, 3) := by decide +kernel
theorem dX11_holds_50 : decode cX11_holds 50 = .ok (.iconst 1, 1) := by decide +kernel
theorem dX11_holds_51 : decode cX11_holds 51 = .ok (.goto 4, 3) := by decide +kernel
theorem dX11_holds_54 : decode cX11_holds 54 = .ok (.iconst 0, 1) := by decide +kernel
theorem dX11_holds_55 : decode cX11_holds 55 = .ok (.ireturn, 1) := by decide +kernel
theorem dX11_widened_0 : decode cX11_widened 0 = .ok (.aload_n 0, 1) := by decide +kernel
theorem dX11_widened_1 : decode cX11_widened 1 = .ok (.getfield 35, 3) := by decide +kernel
theorem dX11_widened_4 : decode cX11_widened 4 = .ok (.getfield 112, 3) := by decide +kernel
theorem dX11_widened_7 : decode cX11_widened 7 = .ok (.astore_n 3, 1) := by decide +kernel
theorem dX11_widened_8 : decode cX11_widened 8 = .ok (.aload_n 3, 1) := by decide +kernel
theorem dX11_widened_9 : decode cX11_widened 9 = .ok (.getfield 125, 3) := by decide +kernel
theorem dX11_widened_12 : decode cX11_widened 12 = .ok (.iload_n 1, 1) := by decide +kernel
theorem dX11_widened_13 : decode cX11_widened 13 = .ok (.invokevirtual 212, 3) := by decide +kernel
theorem dX11_widened_16 : decode cX11_widened 16 = .ok (.ifCond .eq 11, 3) := by decide +kernel
theorem dX11_widened_19 : decode cX11_widened 19 = .ok (.aload_n 3, 1) := by decide +kernel
theorem dX11_widened_20 : decode cX11_widened 20 = .ok (.iload_n 2, 1) := by decide +kernel
theorem dX11_widened_21 : decode cX11_widened 21 = .ok (.invokevirtual 258, 3) := by decide +kernel
theorem dX11_widened_24 : decode cX11_widened 24 = .ok (.ifCond .ne 5, 3) := by decide +kernel
theorem dX11_widened_27 : decode cX11_widened 27 = .ok (.iconst (-1), 1) := by decide +kernel
theorem dX11_widened_28 : decode cX11_widened 28 = .ok (.ireturn, 1) := by decide +kernel
theorem dX11_widened_29 : decode cX11_widened 29 = .ok (.aload_n 3, 1) := by decide +kernel
theorem dX11_widened_30 : decode cX11_widened 30 = .ok (.getfield 125, 3) := by decide +kernel
theorem dX11_widened_33 : decode cX11_widened 33 = .ok (.getfield 237, 3) := by decide +kernel
theorem dX11_widened_36 : decode cX11_widened 36 = .ok (.iload_n 1, 1) := by decide +kernel
theorem dX11_widened_37 : decode cX11_widened 37 = .ok (.invokestatic 241, 3) := by decide +kernel
theorem dX11_widened_40 : decode cX11_widened 40 = .ok (.ifCond .ne 15, 3) := by decide +kernel
theorem dX11_widened_43 : decode cX11_widened 43 = .ok (.aload_n 3, 1) := by decide +kernel
theorem dX11_widened_44 : decode cX11_widened 44 = .ok (.iload_n 1, 1) := by decide +kernel
theorem dX11_widened_45 : decode cX11_widened 45 = .ok (.iload_n 2, 1) := by decide +kernel
theorem dX11_widened_46 : decode cX11_widened 46 = .ok (.iconst 1, 1) := by decide +kernel
theorem dX11_widened_47 : decode cX11_widened 47 = .ok (.isub, 1) := by decide +kernel
theorem dX11_widened_48 : decode cX11_widened 48 = .ok (.invokevirtual 325, 3) := by decide +kernel
theorem dX11_widened_51 : decode cX11_widened 51 = .ok (.iconst (-1), 1) := by decide +kernel
theorem dX11_widened_52 : decode cX11_widened 52 = .ok (.if_icmp .eq 5, 3) := by decide +kernel
theorem dX11_widened_55 : decode cX11_widened 55 = .ok (.iconst (-1), 1) := by decide +kernel
theorem dX11_widened_56 : decode cX11_widened 56 = .ok (.ireturn, 1) := by decide +kernel
theorem dX11_widened_57 : decode cX11_widened 57 = .ok (.aload_n 3, 1) := by decide +kernel
theorem dX11_widened_58 : decode cX11_widened 58 = .ok (.iload_n 1, 1) := by decide +kernel
theorem dX11_widened_59 : decode cX11_widened 59 = .ok (.iload_n 2, 1) := by decide +kernel
theorem dX11_widened_60 : decode cX11_widened 60 = .ok (.iconst 0, 1) := by decide +kernel
theorem dX11_widened_61 : decode cX11_widened 61 = .ok (.invokevirtual 328, 3) := by decide +kernel
theorem dX11_widened_64 : decode cX11_widened 64 = .ok (.ireturn, 1) := by decide +kernel
theorem dX11_ahead_0 : decode cX11_ahead 0 = .ok (.aload_n 0, 1) := by decide +kernel
theorem dX11_ahead_1 : decode cX11_ahead 1 = .ok (.getfield 35, 3) := by decide +kernel
theorem dX11_ahead_4 : decode cX11_ahead 4 = .ok (.getfield 112, 3) := by decide +kernel
theorem dX11_ahead_7 : decode cX11_ahead 7 = .ok (.astore_n 3, 1) := by decide +kernel
theorem dX11_ahead_8 : decode cX11_ahead 8 = .ok (.aload_n 3, 1) := by decide +kernel
theorem dX11_ahead_9 : decode cX11_ahead 9 = .ok (.getfield 125, 3) := by decide +kernel
theorem dX11_ahead_12 : decode cX11_ahead 12 = .ok (.iload_n 1, 1) := by decide +kernel
theorem dX11_ahead_13 : decode cX11_ahead 13 = .ok (.invokevirtual 212, 3) := by decide +kernel
theorem dX11_ahead_16 : decode cX11_ahead 16 = .ok (.ifCond .eq 11, 3) := by decide +kernel
theorem dX11_ahead_19 : decode cX11_ahead 19 = .ok (.aload_n 3, 1) := by decide +kernel
theorem dX11_ahead_20 : decode cX11_ahead 20 = .ok (.iload_n 2, 1) := by decide +kernel
theorem dX11_ahead_21 : decode cX11_ahead 21 = .ok (.invokevirtual 245, 3) := by decide +kernel
theorem dX11_ahead_24 : decode cX11_ahead 24 = .ok (.ifCond .ne 5, 3) := by decide +kernel
theorem dX11_ahead_27 : decode cX11_ahead 27 = .ok (.iconst (-1), 1) := by decide +kernel
theorem dX11_ahead_28 : decode cX11_ahead 28 = .ok (.ireturn, 1) := by decide +kernel
theorem dX11_ahead_29 : decode cX11_ahead 29 = .ok (.aload_n 3, 1) := by decide +kernel
theorem dX11_ahead_30 : decode cX11_ahead 30 = .ok (.iload_n 1, 1) := by decide +kernel
theorem dX11_ahead_31 : decode cX11_ahead 31 = .ok (.iload_n 2, 1) := by decide +kernel
theorem dX11_ahead_32 : decode cX11_ahead 32 = .ok (.invokevirtual 325, 3) := by decide +kernel
theorem dX11_ahead_35 : decode cX11_ahead 35 = .ok (.ireturn, 1) := by decide +kernel
theorem dX11_distance_0 : decode cX11_distance 0 = .ok (.aload_n 0, 1) := by decide +kernel
theorem dX11_distance_1 : decode cX11_distance 1 = .ok (.iload_n 1, 1) := by decide +kernel
theorem dX11_distance_2 : decode cX11_distance 2 = .ok (.bipush 15, 2) := by decide +kernel
theorem dX11_distance_4 : decode cX11_distance 4 = .ok (.invokevirtual 332, 3) := by decide +kernel
theorem dX11_distance_7 : decode cX11_distance 7 = .ok (.ireturn, 1) := by decide +kernel
theorem dX11_distanceBy_0 : decode cX11_distanceBy 0 = .ok (.aload_n 0, 1) := by decide +kernel
theorem dX11_distanceBy_1 : decode cX11_distanceBy 1 = .ok (.getfield 35, 3) := by decide +kernel
theorem dX11_distanceBy_4 : decode cX11_distanceBy 4 = .ok (.getfield 112, 3) := by decide +kernel
theorem dX11_distanceBy_7 : decode cX11_distanceBy 7 = .ok (.getfield 125, 3) := by decide +kernel
theorem dX11_distanceBy_10 : decode cX11_distanceBy 10 = .ok (.astore_n 3, 1) := by decide +kernel
theorem dX11_distanceBy_11 : decode cX11_distanceBy 11 = .ok (.aload_n 3, 1) := by decide +kernel
theorem dX11_distanceBy_12 : decode cX11_distanceBy 12 = .ok (.iload_n 1, 1) := by decide +kernel
theorem dX11_distanceBy_13 : decode cX11_distanceBy 13 = .ok (.invokevirtual 212, 3) := by decide +kernel
theorem dX11_distanceBy_16 : decode cX11_distanceBy 16 = .ok (.ifCond .eq 14, 3) := by decide +kernel
theorem dX11_distanceBy_19 : decode cX11_distanceBy 19 = .ok (.iload_n 2, 1) := by decide +kernel
theorem dX11_distanceBy_20 : decode cX11_distanceBy 20 = .ok (.iconst 1, 1) := by decide +kernel
theorem dX11_distanceBy_21 : decode cX11_distanceBy 21 = .ok (.if_icmp .lt 9, 3) := by decide +kernel
theorem dX11_distanceBy_24 : decode cX11_distanceBy 24 = .ok (.iload_n 2, 1) := by decide +kernel
theorem dX11_distanceBy_25 : decode cX11_distanceBy 25 = .ok (.bipush 15, 2) := by decide +kernel
theorem dX11_distanceBy_27 : decode cX11_distanceBy 27 = .ok (.if_icmp .le 5, 3) := by decide +kernel
theorem dX11_distanceBy_30 : decode cX11_distanceBy 30 = .ok (.iconst (-1), 1) := by decide +kernel
theorem dX11_distanceBy_31 : decode cX11_distanceBy 31 = .ok (.ireturn, 1) := by decide +kernel
theorem dX11_distanceBy_32 : decode cX11_distanceBy 32 = .ok (.aload_n 3, 1) := by decide +kernel
theorem dX11_distanceBy_33 : decode cX11_distanceBy 33 = .ok (.lconst 1, 1) := by decide +kernel
theorem dX11_distanceBy_34 : decode cX11_distanceBy 34 = .ok (.iload_n 1, 1) := by decide +kernel
theorem dX11_distanceBy_35 : decode cX11_distanceBy 35 = .ok (.lshl, 1) := by decide +kernel
theorem dX11_distanceBy_36 : decode cX11_distanceBy 36 = .ok (.iload_n 2, 1) := by decide +kernel
theorem dX11_distanceBy_37 : decode cX11_distanceBy 37 = .ok (.invokevirtual 335, 3) := by decide +kernel
theorem dX11_distanceBy_40 : decode cX11_distanceBy 40 = .ok (.ireturn, 1) := by decide +kernel
theorem dX11_far_0 : decode cX11_far 0 = .ok (.aload_n 0, 1) := by decide +kernel
theorem dX11_far_1 : decode cX11_far 1 = .ok (.getfield 35, 3) := by decide +kernel
theorem dX11_far_4 : decode cX11_far 4 = .ok (.getfield 112, 3) := by decide +kernel
theorem dX11_far_7 : decode cX11_far 7 = .ok (.astore_n 2, 1) := by decide +kernel
theorem dX11_far_8 : decode cX11_far 8 = .ok (.aload_n 2, 1) := by decide +kernel
theorem dX11_far_9 : decode cX11_far 9 = .ok (.getfield 125, 3) := by decide +kernel
theorem dX11_far_12 : decode cX11_far 12 = .ok (.iload_n 1, 1) := by decide +kernel
theorem dX11_far_13 : decode cX11_far 13 = .ok (.invokevirtual 212, 3) := by decide +kernel
theorem dX11_far_16 : decode cX11_far 16 = .ok (.ifCond .ne 5, 3) := by decide +kernel
theorem dX11_far_19 : decode cX11_far 19 = .ok (.iconst (-1), 1) := by decide +kernel
theorem dX11_far_20 : decode cX11_far 20 = .ok (.ireturn, 1) := by decide +kernel
theorem dX11_far_21 : decode cX11_far 21 = .ok (.aload_n 2, 1) := by decide +kernel
theorem dX11_far_22 : decode cX11_far 22 = .ok (.getfield 125, 3) := by decide +kernel
theorem dX11_far_25 : decode cX11_far 25 = .ok (.lconst 1, 1) := by decide +kernel
theorem dX11_far_26 : decode cX11_far 26 = .ok (.iload_n 1, 1) := by decide +kernel
theorem dX11_far_27 : decode cX11_far 27 = .ok (.lshl, 1) := by decide +kernel
theorem dX11_far_28 : decode cX11_far 28 = .ok (.aload_n 2, 1) := by decide +kernel
theorem dX11_far_29 : decode cX11_far 29 = .ok (.invokevirtual 338, 3) := by decide +kernel
theorem dX11_far_32 : decode cX11_far 32 = .ok (.invokevirtual 341, 3) := by decide +kernel
theorem dX11_far_35 : decode cX11_far 35 = .ok (.ireturn, 1) := by decide +kernel
theorem dX11_doomed_0 : decode cX11_doomed 0 = .ok (.aload_n 0, 1) := by decide +kernel
theorem dX11_doomed_1 : decode cX11_doomed 1 = .ok (.getfield 35, 3) := by decide +kernel
theorem dX11_doomed_4 : decode cX11_doomed 4 = .ok (.getfield 112, 3) := by decide +kernel
theorem dX11_doomed_7 : decode cX11_doomed 7 = .ok (.astore_n 2, 1) := by decide +kernel
theorem dX11_doomed_8 : decode cX11_doomed 8 = .ok (.iload_n 1, 1) := by decide +kernel
theorem dX11_doomed_9 : decode cX11_doomed 9 = .ok (.ifCond .ge 7, 3) := by decide +kernel
theorem dX11_doomed_12 : decode cX11_doomed 12 = .ok (.iconst (-1), 1) := by decide +kernel
theorem dX11_doomed_13 : decode cX11_doomed 13 = .ok (.goto 18, 3) := by decide +kernel
theorem dX11_doomed_16 : decode cX11_doomed 16 = .ok (.aload_n 2, 1) := by decide +kernel
theorem dX11_doomed_17 : decode cX11_doomed 17 = .ok (.getfield 125, 3) := by decide +kernel
theorem dX11_doomed_20 : decode cX11_doomed 20 = .ok (.aload_n 2, 1) := by decide +kernel
theorem dX11_doomed_21 : decode cX11_doomed 21 = .ok (.invokevirtual 338, 3) := by decide +kernel
theorem dX11_doomed_24 : decode cX11_doomed 24 = .ok (.iload_n 1, 1) := by decide +kernel
theorem dX11_doomed_25 : decode cX11_doomed 25 = .ok (.invokevirtual 345, 3) := by decide +kernel
theorem dX11_doomed_28 : decode cX11_doomed 28 = .ok (.invokestatic 226, 3) := by decide +kernel
theorem dX11_doomed_31 : decode cX11_doomed 31 = .ok (.ireturn, 1) := by decide +kernel
theorem dX11_shortest_0 : decode cX11_shortest 0 = .ok (.aload_n 0, 1) := by decide +kernel
theorem dX11_shortest_1 : decode cX11_shortest 1 = .ok (.getfield 35, 3) := by decide +kernel
theorem dX11_shortest_4 : decode cX11_shortest 4 = .ok (.getfield 112, 3) := by decide +kernel
theorem dX11_shortest_7 : decode cX11_shortest 7 = .ok (.astore_n 3, 1) := by decide +kernel
theorem dX11_shortest_8 : decode cX11_shortest 8 = .ok (.aload_n 0, 1) := by decide +kernel
theorem dX11_shortest_9 : decode cX11_shortest 9 = .ok (.aload_n 3, 1) := by decide +kernel
theorem dX11_shortest_10 : decode cX11_shortest 10 = .ok (.getfield 125, 3) := by decide +kernel
theorem dX11_shortest_13 : decode cX11_shortest 13 = .ok (.aload_n 3, 1) := by decide +kernel
theorem dX11_shortest_14 : decode cX11_shortest 14 = .ok (.invokevirtual 338, 3) := by decide +kernel
theorem dX11_shortest_17 : decode cX11_shortest 17 = .ok (.aload_n 0, 1) := by decide +kernel
theorem dX11_shortest_18 : decode cX11_shortest 18 = .ok (.getfield 67, 3) := by decide +kernel
theorem dX11_shortest_21 : decode cX11_shortest 21 = .ok (.aload_n 0, 1) := by decide +kernel
theorem dX11_shortest_22 : decode cX11_shortest 22 = .ok (.getfield 63, 3) := by decide +kernel
theorem dX11_shortest_25 : decode cX11_shortest 25 = .ok (.invokevirtual 349, 3) := by decide +kernel
theorem dX11_shortest_28 : decode cX11_shortest 28 = .ok (.iload_n 1, 1) := by decide +kernel
theorem dX11_shortest_29 : decode cX11_shortest 29 = .ok (.iload_n 2, 1) := by decide +kernel
theorem dX11_shortest_30 : decode cX11_shortest 30 = .ok (.invokevirtual 287, 3) := by decide +kernel
theorem dX11_shortest_33 : decode cX11_shortest 33 = .ok (.ireturn, 1) := by decide +kernel
theorem dX11_detour_0 : decode cX11_detour 0 = .ok (.aload_n 0, 1) := by decide +kernel
theorem dX11_detour_1 : decode cX11_detour 1 = .ok (.getfield 35, 3) := by decide +kernel
theorem dX11_detour_4 : decode cX11_detour 4 = .ok (.getfield 112, 3) := by decide +kernel
theorem dX11_detour_7 : decode cX11_detour 7 = .ok (.astore_n 1, 1) := by decide +kernel
theorem dX11_detour_8 : decode cX11_detour 8 = .ok (.aload_n 1, 1) := by decide +kernel
theorem dX11_detour_9 : decode cX11_detour 9 = .ok (.getfield 176, 3) := by decide +kernel
theorem dX11_detour_12 : decode cX11_detour 12 = .ok (.iconst 4, 1) := by decide +kernel
theorem dX11_detour_13 : decode cX11_detour 13 = .ok (.if_icmp .eq 5, 3) := by decide +kernel
theorem dX11_detour_16 : decode cX11_detour 16 = .ok (.iconst (-1), 1) := by decide +kernel
theorem dX11_detour_17 : decode cX11_detour 17 = .ok (.ireturn, 1) := by decide +kernel
theorem dX11_detour_18 : decode cX11_detour 18 = .ok (.aload_n 1, 1) := by decide +kernel
theorem dX11_detour_19 : decode cX11_detour 19 = .ok (.getfield 188, 3) := by decide +kernel
theorem dX11_detour_22 : decode cX11_detour 22 = .ok (.aload_n 0, 1) := by decide +kernel
theorem dX11_detour_23 : decode cX11_detour 23 = .ok (.getfield 63, 3) := by decide +kernel
theorem dX11_detour_26 : decode cX11_detour 26 = .ok (.invokevirtual 283, 3) := by decide +kernel
theorem dX11_detour_29 : decode cX11_detour 29 = .ok (.istore_n 2, 1) := by decide +kernel
theorem dX11_detour_30 : decode cX11_detour 30 = .ok (.iload_n 2, 1) := by decide +kernel
theorem dX11_detour_31 : decode cX11_detour 31 = .ok (.aload_n 1, 1) := by decide +kernel
theorem dX11_detour_32 : decode cX11_detour 32 = .ok (.getfield 125, 3) := by decide +kernel
theorem dX11_detour_35 : decode cX11_detour 35 = .ok (.aload_n 1, 1) := by decide +kernel
theorem dX11_detour_36 : decode cX11_detour 36 = .ok (.invokevirtual 338, 3) := by decide +kernel
theorem dX11_detour_39 : decode cX11_detour 39 = .ok (.aload_n 0, 1) := by decide +kernel
theorem dX11_detour_40 : decode cX11_detour 40 = .ok (.getfield 67, 3) := by decide +kernel
theorem dX11_detour_43 : decode cX11_detour 43 = .ok (.aload_n 0, 1) := by decide +kernel
theorem dX11_detour_44 : decode cX11_detour 44 = .ok (.getfield 63, 3) := by decide +kernel
theorem dX11_detour_47 : decode cX11_detour 47 = .ok (.invokevirtual 349, 3) := by decide +kernel
theorem dX11_detour_50 : decode cX11_detour 50 = .ok (.isub, 1) := by decide +kernel
theorem dX11_detour_51 : decode cX11_detour 51 = .ok (.ireturn, 1) := by decide +kernel
theorem dX11_nearest_0 : decode cX11_nearest 0 = .ok (.aload_n 0, 1) := by decide +kernel
theorem dX11_nearest_1 : decode cX11_nearest 1 = .ok (.getfield 35, 3) := by decide +kernel
theorem dX11_nearest_4 : decode cX11_nearest 4 = .ok (.getfield 112, 3) := by decide +kernel
theorem dX11_nearest_7 : decode cX11_nearest 7 = .ok (.astore_n 1, 1) := by decide +kernel
theorem dX11_nearest_8 : decode cX11_nearest 8 = .ok (.aload_n 1, 1) := by decide +kernel
theorem dX11_nearest_9 : decode cX11_nearest 9 = .ok (.getfield 125, 3) := by decide +kernel
theorem dX11_nearest_12 : decode cX11_nearest 12 = .ok (.aload_n 1, 1) := by decide +kernel
theorem dX11_nearest_13 : decode cX11_nearest 13 = .ok (.invokevirtual 338, 3) := by decide +kernel
theorem dX11_nearest_16 : decode cX11_nearest 16 = .ok (.bipush 15, 2) := by decide +kernel
theorem dX11_nearest_18 : decode cX11_nearest 18 = .ok (.invokevirtual 335, 3) := by decide +kernel
theorem dX11_nearest_21 : decode cX11_nearest 21 = .ok (.ireturn, 1) := by decide +kernel
theorem dX11_reach_0 : decode cX11_reach 0 = .ok (.iload_n 1, 1) := by decide +kernel
theorem dX11_reach_1 : decode cX11_reach 1 = .ok (.ifCond .ge 7, 3) := by decide +kernel
theorem dX11_reach_4 : decode cX11_reach 4 = .ok (.iconst (-1), 1) := by decide +kernel
theorem dX11_reach_5 : decode cX11_reach 5 = .ok (.goto 20, 3) := by decide +kernel
theorem dX11_reach_8 : decode cX11_reach 8 = .ok (.aload_n 0, 1) := by decide +kernel
theorem dX11_reach_9 : decode cX11_reach 9 = .ok (.getfield 35, 3) := by decide +kernel
theorem dX11_reach_12 : decode cX11_reach 12 = .ok (.getfield 112, 3) := by decide +kernel
theorem dX11_reach_15 : decode cX11_reach 15 = .ok (.getfield 125, 3) := by decide +kernel
theorem dX11_reach_18 : decode cX11_reach 18 = .ok (.iload_n 1, 1) := by decide +kernel
theorem dX11_reach_19 : decode cX11_reach 19 = .ok (.invokevirtual 353, 3) := by decide +kernel
theorem dX11_reach_22 : decode cX11_reach 22 = .ok (.invokestatic 226, 3) := by decide +kernel
theorem dX11_reach_25 : decode cX11_reach 25 = .ok (.ireturn, 1) := by decide +kernel
theorem dX11_slack_0 : decode cX11_slack 0 = .ok (.aload_n 0, 1) := by decide +kernel
theorem dX11_slack_1 : decode cX11_slack 1 = .ok (.getfield 35, 3) := by decide +kernel
theorem dX11_slack_4 : decode cX11_slack 4 = .ok (.getfield 112, 3) := by decide +kernel
theorem dX11_slack_7 : decode cX11_slack 7 = .ok (.astore_n 2, 1) := by decide +kernel
theorem dX11_slack_8 : decode cX11_slack 8 = .ok (.aload_n 2, 1) := by decide +kernel
theorem dX11_slack_9 : decode cX11_slack 9 = .ok (.iload_n 1, 1) := by decide +kernel
theorem dX11_slack_10 : decode cX11_slack 10 = .ok (.invokevirtual 245, 3) := by decide +kernel
theorem dX11_slack_13 : decode cX11_slack 13 = .ok (.ifCond .ne 5, 3) := by decide +kernel
theorem dX11_slack_16 : decode cX11_slack 16 = .ok (.iconst (-1), 1) := by decide +kernel
theorem dX11_slack_17 : decode cX11_slack 17 = .ok (.ireturn, 1) := by decide +kernel
theorem dX11_slack_18 : decode cX11_slack 18 = .ok (.aload_n 2, 1) := by decide +kernel
theorem dX11_slack_19 : decode cX11_slack 19 = .ok (.iload_n 1, 1) := by decide +kernel
theorem dX11_slack_20 : decode cX11_slack 20 = .ok (.invokevirtual 248, 3) := by decide +kernel
theorem dX11_slack_23 : decode cX11_slack 23 = .ok (.aload_n 2, 1) := by decide +kernel
theorem dX11_slack_24 : decode cX11_slack 24 = .ok (.getfield 125, 3) := by decide +kernel
theorem dX11_slack_27 : decode cX11_slack 27 = .ok (.iload_n 1, 1) := by decide +kernel
theorem dX11_slack_28 : decode cX11_slack 28 = .ok (.invokevirtual 353, 3) := by decide +kernel
theorem dX11_slack_31 : decode cX11_slack 31 = .ok (.ldc2_w 356, 3) := by decide +kernel
theorem dX11_slack_34 : decode cX11_slack 34 = .ok (.lxor, 1) := by decide +kernel
theorem dX11_slack_35 : decode cX11_slack 35 = .ok (.land, 1) := by decide +kernel
theorem dX11_slack_36 : decode cX11_slack 36 = .ok (.invokestatic 226, 3) := by decide +kernel
theorem dX11_slack_39 : decode cX11_slack 39 = .ok (.ireturn, 1) := by decide +kernel
theorem dX11_claim_0 : decode cX11_claim 0 = .ok (.aload_n 0, 1) := by decide +kernel
theorem dX11_claim_1 : decode cX11_claim 1 = .ok (.getfield 35, 3) := by decide +kernel
theorem dX11_claim_4 : decode cX11_claim 4 = .ok (.getfield 112, 3) := by decide +kernel
theorem dX11_claim_7 : decode cX11_claim 7 = .ok (.astore_n 3, 1) := by decide +kernel
theorem dX11_claim_8 : decode cX11_claim 8 = .ok (.aload_n 3, 1) := by decide +kernel
theorem dX11_claim_9 : decode cX11_claim 9 = .ok (.getfield 125, 3) := by decide +kernel
theorem dX11_claim_12 : decode cX11_claim 12 = .ok (.iload_n 1, 1) := by decide +kernel
theorem dX11_claim_13 : decode cX11_claim 13 = .ok (.iload_n 2, 1) := by decide +kernel
theorem dX11_claim_14 : decode cX11_claim 14 = .ok (.invokevirtual 138, 3) := by decide +kernel
theorem dX11_claim_17 : decode cX11_claim 17 = .ok (.ifCond .eq 15, 3) := by decide +kernel
theorem dX11_claim_20 : decode cX11_claim 20 = .ok (.aload_n 3, 1) := by decide +kernel
theorem dX11_claim_21 : decode cX11_claim 21 = .ok (.getfield 358, 3) := by decide +kernel
theorem dX11_claim_24 : decode cX11_claim 24 = .ok (.getfield 294, 3) := by decide +kernel
theorem dX11_claim_27 : decode cX11_claim 27 = .ok (.bipush 12, 2) := by decide +kernel
theorem dX11_claim_29 : decode cX11_claim 29 = .ok (.if_icmp .lt 5, 3) := by decide +kernel
theorem dX11_claim_32 : decode cX11_claim 32 = .ok (.iconst (-1), 1) := by decide +kernel
theorem dX11_claim_33 : decode cX11_claim 33 = .ok (.ireturn, 1) := by decide +kernel
theorem dX11_claim_34 : decode cX11_claim 34 = .ok (.aload_n 0, 1) := by decide +kernel
theorem dX11_claim_35 : decode cX11_claim 35 = .ok (.getfield 35, 3) := by decide +kernel
theorem dX11_claim_38 : decode cX11_claim 38 = .ok (.invokevirtual 109, 3) := by decide +kernel
theorem dX11_claim_41 : decode cX11_claim 41 = .ok (.aload_n 3, 1) := by decide +kernel
theorem dX11_claim_42 : decode cX11_claim 42 = .ok (.getfield 358, 3) := by decide +kernel
theorem dX11_claim_45 : decode cX11_claim 45 = .ok (.iload_n 1, 1) := by decide +kernel
theorem dX11_claim_46 : decode cX11_claim 46 = .ok (.iload_n 2, 1) := by decide +kernel
theorem dX11_claim_47 : decode cX11_claim 47 = .ok (.invokestatic 142, 3) := by decide +kernel
theorem dX11_claim_50 : decode cX11_claim 50 = .ok (.invokevirtual 361, 3) := by decide +kernel
theorem dX11_claim_53 : decode cX11_claim 53 = .ok (.aload_n 3, 1) := by decide +kernel
theorem dX11_claim_54 : decode cX11_claim 54 = .ok (.getfield 358, 3) := by decide +kernel
theorem dX11_claim_57 : decode cX11_claim 57 = .ok (.getfield 294, 3) := by decide +kernel
theorem dX11_claim_60 : decode cX11_claim 60 = .ok (.ireturn, 1) := by decide +kernel
theorem dX11_adopt_0 : decode cX11_adopt 0 = .ok (.aload_n 0, 1) := by decide +kernel
theorem dX11_adopt_1 : decode cX11_adopt 1 = .ok (.getfield 35, 3) := by decide +kernel
theorem dX11_adopt_4 : decode cX11_adopt 4 = .ok (.getfield 112, 3) := by decide +kernel
theorem dX11_adopt_7 : decode cX11_adopt 7 = .ok (.astore_n 1, 1) := by decide +kernel
theorem dX11_adopt_8 : decode cX11_adopt 8 = .ok (.aload_n 1, 1) := by decide +kernel
theorem dX11_adopt_9 : decode cX11_adopt 9 = .ok (.getfield 176, 3) := by decide +kernel
theorem dX11_adopt_12 : decode cX11_adopt 12 = .ok (.iconst 3, 1) := by decide +kernel
theorem dX11_adopt_13 : decode cX11_adopt 13 = .ok (.if_icmp .ne 20, 3) := by decide +kernel
theorem dX11_adopt_16 : decode cX11_adopt 16 = .ok (.aload_n 1, 1) := by decide +kernel
theorem dX11_adopt_17 : decode cX11_adopt 17 = .ok (.getfield 151, 3) := by decide +kernel
theorem dX11_adopt_20 : decode cX11_adopt 20 = .ok (.getfield 294, 3) := by decide +kernel
theorem dX11_adopt_23 : decode cX11_adopt 23 = .ok (.aload_n 1, 1) := by decide +kernel
theorem dX11_adopt_24 : decode cX11_adopt 24 = .ok (.invokevirtual 295, 3) := by decide +kernel
theorem dX11_adopt_27 : decode cX11_adopt 27 = .ok (.isub, 1) := by decide +kernel
theorem dX11_adopt_28 : decode cX11_adopt 28 = .ok (.bipush 12, 2) := by decide +kernel
theorem dX11_adopt_30 : decode cX11_adopt 30 = .ok (.if_icmp .le 5, 3) := by decide +kernel
theorem dX11_adopt_33 : decode cX11_adopt 33 = .ok (.iconst (-1), 1) := by decide +kernel
theorem dX11_adopt_34 : decode cX11_adopt 34 = .ok (.ireturn, 1) := by decide +kernel
theorem dX11_adopt_35 : decode cX11_adopt 35 = .ok (.aload_n 0, 1) := by decide +kernel
theorem dX11_adopt_36 : decode cX11_adopt 36 = .ok (.getfield 35, 3) := by decide +kernel
theorem dX11_adopt_39 : decode cX11_adopt 39 = .ok (.invokevirtual 109, 3) := by decide +kernel
theorem dX11_adopt_42 : decode cX11_adopt 42 = .ok (.aload_n 1, 1) := by decide +kernel
theorem dX11_adopt_43 : decode cX11_adopt 43 = .ok (.getfield 358, 3) := by decide +kernel
theorem dX11_adopt_46 : decode cX11_adopt 46 = .ok (.aload_n 1, 1) := by decide +kernel
theorem dX11_adopt_47 : decode cX11_adopt 47 = .ok (.getfield 151, 3) := by decide +kernel
theorem dX11_adopt_50 : decode cX11_adopt 50 = .ok (.aload_n 1, 1) := by decide +kernel
theorem dX11_adopt_51 : decode cX11_adopt 51 = .ok (.invokevirtual 295, 3) := by decide +kernel
theorem dX11_adopt_54 : decode cX11_adopt 54 = .ok (.invokevirtual 364, 3) := by decide +kernel
theorem dX11_adopt_57 : decode cX11_adopt 57 = .ok (.aload_n 1, 1) := by decide +kernel
theorem dX11_adopt_58 : decode cX11_adopt 58 = .ok (.getfield 358, 3) := by decide +kernel
theorem dX11_adopt_61 : decode cX11_adopt 61 = .ok (.getfield 294, 3) := by decide +kernel
theorem dX11_adopt_64 : decode cX11_adopt 64 = .ok (.ireturn, 1) := by decide +kernel
theorem dX11_unclaim_0 : decode cX11_unclaim 0 = .ok (.aload_n 0, 1) := by decide +kernel
theorem dX11_unclaim_1 : decode cX11_unclaim 1 = .ok (.getfield 35, 3) := by decide +kernel
theorem dX11_unclaim_4 : decode cX11_unclaim 4 = .ok (.getfield 112, 3) := by decide +kernel
theorem dX11_unclaim_7 : decode cX11_unclaim 7 = .ok (.getfield 358, 3) := by decide +kernel
theorem dX11_unclaim_10 : decode cX11_unclaim 10 = .ok (.astore_n 2, 1) := by decide +kernel
theorem dX11_unclaim_11 : decode cX11_unclaim 11 = .ok (.iload_n 1, 1) := by decide +kernel
theorem dX11_unclaim_12 : decode cX11_unclaim 12 = .ok (.ifCond .lt 11, 3) := by decide +kernel
theorem dX11_unclaim_15 : decode cX11_unclaim 15 = .ok (.iload_n 1, 1) := by decide +kernel
theorem dX11_unclaim_16 : decode cX11_unclaim 16 = .ok (.aload_n 2, 1) := by decide +kernel
theorem dX11_unclaim_17 : decode cX11_unclaim 17 = .ok (.getfield 294, 3) := by decide +kernel
theorem dX11_unclaim_20 : decode cX11_unclaim 20 = .ok (.if_icmp .lt 5, 3) := by decide +kernel
theorem dX11_unclaim_23 : decode cX11_unclaim 23 = .ok (.iconst (-1), 1) := by decide +kernel
theorem dX11_unclaim_24 : decode cX11_unclaim 24 = .ok (.ireturn, 1) := by decide +kernel
theorem dX11_unclaim_25 : decode cX11_unclaim 25 = .ok (.aload_n 0, 1) := by decide +kernel
theorem dX11_unclaim_26 : decode cX11_unclaim 26 = .ok (.getfield 35, 3) := by decide +kernel
theorem dX11_unclaim_29 : decode cX11_unclaim 29 = .ok (.invokevirtual 109, 3) := by decide +kernel
theorem dX11_unclaim_32 : decode cX11_unclaim 32 = .ok (.aload_n 2, 1) := by decide +kernel
theorem dX11_unclaim_33 : decode cX11_unclaim 33 = .ok (.iload_n 1, 1) := by decide +kernel
theorem dX11_unclaim_34 : decode cX11_unclaim 34 = .ok (.invokevirtual 368, 3) := by decide +kernel
theorem dX11_unclaim_37 : decode cX11_unclaim 37 = .ok (.aload_n 2, 1) := by decide +kernel
theorem dX11_unclaim_38 : decode cX11_unclaim 38 = .ok (.getfield 294, 3) := by decide +kernel
theorem dX11_unclaim_41 : decode cX11_unclaim 41 = .ok (.ireturn, 1) := by decide +kernel
theorem dX11_loosen_0 : decode cX11_loosen 0 = .ok (.aload_n 0, 1) := by decide +kernel
theorem dX11_loosen_1 : decode cX11_loosen 1 = .ok (.getfield 35, 3) := by decide +kernel
theorem dX11_loosen_4 : decode cX11_loosen 4 = .ok (.getfield 112, 3) := by decide +kernel
theorem dX11_loosen_7 : decode cX11_loosen 7 = .ok (.astore_n 2, 1) := by decide +kernel
theorem dX11_loosen_8 : decode cX11_loosen 8 = .ok (.iload_n 1, 1) := by decide +kernel
theorem dX11_loosen_9 : decode cX11_loosen 9 = .ok (.ifCond .lt 22, 3) := by decide +kernel
theorem dX11_loosen_12 : decode cX11_loosen 12 = .ok (.iload_n 1, 1) := by decide +kernel
theorem dX11_loosen_13 : decode cX11_loosen 13 = .ok (.aload_n 2, 1) := by decide +kernel
theorem dX11_loosen_14 : decode cX11_loosen 14 = .ok (.getfield 358, 3) := by decide +kernel
theorem dX11_loosen_17 : decode cX11_loosen 17 = .ok (.getfield 294, 3) := by decide +kernel
theorem dX11_loosen_20 : decode cX11_loosen 20 = .ok (.if_icmp .ge 11, 3) := by decide +kernel
theorem dX11_loosen_23 : decode cX11_loosen 23 = .ok (.aload_n 0, 1) := by decide +kernel
theorem dX11_loosen_24 : decode cX11_loosen 24 = .ok (.iconst 0, 1) := by decide +kernel
theorem dX11_loosen_25 : decode cX11_loosen 25 = .ok (.invokevirtual 371, 3) := by decide +kernel
theorem dX11_loosen_28 : decode cX11_loosen 28 = .ok (.ifCond .eq 5, 3) := by decide +kernel
theorem dX11_loosen_31 : decode cX11_loosen 31 = .ok (.iconst (-1), 1) := by decide +kernel
theorem dX11_loosen_32 : decode cX11_loosen 32 = .ok (.ireturn, 1) := by decide +kernel
theorem dX11_loosen_33 : decode cX11_loosen 33 = .ok (.aload_n 0, 1) := by decide +kernel
theorem dX11_loosen_34 : decode cX11_loosen 34 = .ok (.getfield 35, 3) := by decide +kernel
theorem dX11_loosen_37 : decode cX11_loosen 37 = .ok (.invokevirtual 109, 3) := by decide +kernel
theorem dX11_loosen_40 : decode cX11_loosen 40 = .ok (.aload_n 2, 1) := by decide +kernel
theorem dX11_loosen_41 : decode cX11_loosen 41 = .ok (.iload_n 1, 1) := by decide +kernel
theorem dX11_loosen_42 : decode cX11_loosen 42 = .ok (.invokevirtual 374, 3) := by decide +kernel
theorem dX11_loosen_45 : decode cX11_loosen 45 = .ok (.invokestatic 274, 3) := by decide +kernel
theorem dX11_loosen_48 : decode cX11_loosen 48 = .ok (.ireturn, 1) := by decide +kernel
theorem dX11_claimed_0 : decode cX11_claimed 0 = .ok (.aload_n 0, 1) := by decide +kernel
theorem dX11_claimed_1 : decode cX11_claimed 1 = .ok (.getfield 35, 3) := by decide +kernel
theorem dX11_claimed_4 : decode cX11_claimed 4 = .ok (.getfield 112, 3) := by decide +kernel
theorem dX11_claimed_7 : decode cX11_claimed 7 = .ok (.getfield 358, 3) := by decide +kernel
theorem dX11_claimed_10 : decode cX11_claimed 10 = .ok (.astore_n 3, 1) := by decide +kernel
theorem dX11_claimed_11 : decode cX11_claimed 11 = .ok (.aload_n 3, 1) := by decide +kernel
theorem dX11_claimed_12 : decode cX11_claimed 12 = .ok (.iconst 0, 1) := by decide +kernel
theorem dX11_claimed_13 : decode cX11_claimed 13 = .ok (.aload_n 3, 1) := by decide +kernel
theorem dX11_claimed_14 : decode cX11_claimed 14 = .ok (.getfield 294, 3) := by decide +kernel
theorem dX11_claimed_17 : decode cX11_claimed 17 = .ok (.iload_n 1, 1) := by decide +kernel
theorem dX11_claimed_18 : decode cX11_claimed 18 = .ok (.iload_n 2, 1) := by decide +kernel
theorem dX11_claimed_19 : decode cX11_claimed 19 = .ok (.invokestatic 267, 3) := by decide +kernel
theorem dX11_claimed_22 : decode cX11_claimed 22 = .ok (.ireturn, 1) := by decide +kernel
theorem dX11_judged_0 : decode cX11_judged 0 = .ok (.aload_n 0, 1) := by decide +kernel
theorem dX11_judged_1 : decode cX11_judged 1 = .ok (.iload_n 1, 1) := by decide +kernel
theorem dX11_judged_2 : decode cX11_judged 2 = .ok (.invokevirtual 377, 3) := by decide +kernel
theorem dX11_judged_5 : decode cX11_judged 5 = .ok (.astore_n 2, 1) := by decide +kernel
theorem dX11_judged_6 : decode cX11_judged 6 = .ok (.aload_n 2, 1) := by decide +kernel
theorem dX11_judged_7 : decode cX11_judged 7 = .ok (.ifnonnull 7, 3) := by decide +kernel
theorem dX11_judged_10 : decode cX11_judged 10 = .ok (.iconst (-1), 1) := by decide +kernel
theorem dX11_judged_11 : decode cX11_judged 11 = .ok (.goto 22, 3) := by decide +kernel
theorem dX11_judged_14 : decode cX11_judged 14 = .ok (.aload_n 0, 1) := by decide +kernel
theorem dX11_judged_15 : decode cX11_judged 15 = .ok (.getfield 35, 3) := by decide +kernel
theorem dX11_judged_18 : decode cX11_judged 18 = .ok (.getfield 112, 3) := by decide +kernel
theorem dX11_judged_21 : decode cX11_judged 21 = .ok (.aload_n 2, 1) := by decide +kernel
theorem dX11_judged_22 : decode cX11_judged 22 = .ok (.aload_n 0, 1) := by decide +kernel
theorem dX11_judged_23 : decode cX11_judged 23 = .ok (.iload_n 1, 1) := by decide +kernel
theorem dX11_judged_24 : decode cX11_judged 24 = .ok (.invokevirtual 381, 3) := by decide +kernel
theorem dX11_judged_27 : decode cX11_judged 27 = .ok (.invokevirtual 384, 3) := by decide +kernel
theorem dX11_judged_30 : decode cX11_judged 30 = .ok (.invokevirtual 387, 3) := by decide +kernel
theorem dX11_judged_33 : decode cX11_judged 33 = .ok (.ireturn, 1) := by decide +kernel
theorem dX11_rowOf_0 : decode cX11_rowOf 0 = .ok (.aload_n 0, 1) := by decide +kernel
theorem dX11_rowOf_1 : decode cX11_rowOf 1 = .ok (.getfield 35, 3) := by decide +kernel
theorem dX11_rowOf_4 : decode cX11_rowOf 4 = .ok (.getfield 112, 3) := by decide +kernel
theorem dX11_rowOf_7 : decode cX11_rowOf 7 = .ok (.astore_n 2, 1) := by decide +kernel
theorem dX11_rowOf_8 : decode cX11_rowOf 8 = .ok (.iload_n 1, 1) := by decide +kernel
theorem dX11_rowOf_9 : decode cX11_rowOf 9 = .ok (.tableswitch 54 0 2 #[27, 32, 49], 27) := by decide +kernel
theorem dX11_rowOf_36 : decode cX11_rowOf 36 = .ok (.aload_n 2, 1) := by decide +kernel
theorem dX11_rowOf_37 : decode cX11_rowOf 37 = .ok (.getfield 358, 3) := by decide +kernel
theorem dX11_rowOf_40 : decode cX11_rowOf 40 = .ok (.areturn, 1) := by decide +kernel
theorem dX11_rowOf_41 : decode cX11_rowOf 41 = .ok (.aload_n 2, 1) := by decide +kernel
theorem dX11_rowOf_42 : decode cX11_rowOf 42 = .ok (.getfield 176, 3) := by decide +kernel
theorem dX11_rowOf_45 : decode cX11_rowOf 45 = .ok (.iconst 3, 1) := by decide +kernel
theorem dX11_rowOf_46 : decode cX11_rowOf 46 = .ok (.if_icmp .ne 10, 3) := by decide +kernel
theorem dX11_rowOf_49 : decode cX11_rowOf 49 = .ok (.aload_n 2, 1) := by decide +kernel
theorem dX11_rowOf_50 : decode cX11_rowOf 50 = .ok (.getfield 151, 3) := by decide +kernel
theorem dX11_rowOf_53 : decode cX11_rowOf 53 = .ok (.goto 4, 3) := by decide +kernel
theorem dX11_rowOf_56 : decode cX11_rowOf 56 = .ok (.aconst_null, 1) := by decide +kernel
theorem dX11_rowOf_57 : decode cX11_rowOf 57 = .ok (.areturn, 1) := by decide +kernel
theorem dX11_rowOf_58 : decode cX11_rowOf 58 = .ok (.aload_n 2, 1) := by decide +kernel
theorem dX11_rowOf_59 : decode cX11_rowOf 59 = .ok (.getfield 151, 3) := by decide +kernel
theorem dX11_rowOf_62 : decode cX11_rowOf 62 = .ok (.areturn, 1) := by decide +kernel
theorem dX11_rowOf_63 : decode cX11_rowOf 63 = .ok (.aconst_null, 1) := by decide +kernel
theorem dX11_rowOf_64 : decode cX11_rowOf 64 = .ok (.areturn, 1) := by decide +kernel
theorem dX11_startIn_0 : decode cX11_startIn 0 = .ok (.iload_n 1, 1) := by decide +kernel
theorem dX11_startIn_1 : decode cX11_startIn 1 = .ok (.iconst 1, 1) := by decide +kernel
theorem dX11_startIn_2 : decode cX11_startIn 2 = .ok (.if_icmp .ne 16, 3) := by decide +kernel
theorem dX11_startIn_5 : decode cX11_startIn 5 = .ok (.aload_n 0, 1) := by decide +kernel
theorem dX11_startIn_6 : decode cX11_startIn 6 = .ok (.getfield 35, 3) := by decide +kernel
theorem dX11_startIn_9 : decode cX11_startIn 9 = .ok (.getfield 112, 3) := by decide +kernel
theorem dX11_startIn_12 : decode cX11_startIn 12 = .ok (.invokevirtual 295, 3) := by decide +kernel
theorem dX11_startIn_15 : decode cX11_startIn 15 = .ok (.goto 4, 3) := by decide +kernel
theorem dX11_startIn_18 : decode cX11_startIn 18 = .ok (.iconst 0, 1) := by decide +kernel
theorem dX11_startIn_19 : decode cX11_startIn 19 = .ok (.ireturn, 1) := by decide +kernel
theorem dX11_witness_0 : decode cX11_witness 0 = .ok (.aload_n 0, 1) := by decide +kernel
theorem dX11_witness_1 : decode cX11_witness 1 = .ok (.iload_n 1, 1) := by decide +kernel
theorem dX11_witness_2 : decode cX11_witness 2 = .ok (.invokevirtual 377, 3) := by decide +kernel
theorem dX11_witness_5 : decode cX11_witness 5 = .ok (.astore_n 2, 1) := by decide +kernel
theorem dX11_witness_6 : decode cX11_witness 6 = .ok (.aload_n 2, 1) := by decide +kernel
theorem dX11_witness_7 : decode cX11_witness 7 = .ok (.ifnonnull 7, 3) := by decide +kernel
theorem dX11_witness_10 : decode cX11_witness 10 = .ok (.iconst (-1), 1) := by decide +kernel
theorem dX11_witness_11 : decode cX11_witness 11 = .ok (.goto 22, 3) := by decide +kernel
theorem dX11_witness_14 : decode cX11_witness 14 = .ok (.aload_n 0, 1) := by decide +kernel
theorem dX11_witness_15 : decode cX11_witness 15 = .ok (.getfield 35, 3) := by decide +kernel
theorem dX11_witness_18 : decode cX11_witness 18 = .ok (.getfield 112, 3) := by decide +kernel
theorem dX11_witness_21 : decode cX11_witness 21 = .ok (.aload_n 2, 1) := by decide +kernel
theorem dX11_witness_22 : decode cX11_witness 22 = .ok (.aload_n 0, 1) := by decide +kernel
theorem dX11_witness_23 : decode cX11_witness 23 = .ok (.iload_n 1, 1) := by decide +kernel
theorem dX11_witness_24 : decode cX11_witness 24 = .ok (.invokevirtual 381, 3) := by decide +kernel
theorem dX11_witness_27 : decode cX11_witness 27 = .ok (.invokevirtual 384, 3) := by decide +kernel
theorem dX11_witness_30 : decode cX11_witness 30 = .ok (.invokevirtual 390, 3) := by decide +kernel
theorem dX11_witness_33 : decode cX11_witness 33 = .ok (.ireturn, 1) := by decide +kernel
theorem dX11_spare_0 : decode cX11_spare 0 = .ok (.iload_n 1, 1) := by decide +kernel
theorem dX11_spare_1 : decode cX11_spare 1 = .ok (.iconst 2, 1) := by decide +kernel
theorem dX11_spare_2 : decode cX11_spare 2 = .ok (.if_icmp .eq 11, 3) := by decide +kernel
theorem dX11_spare_5 : decode cX11_spare 5 = .ok (.aload_n 0, 1) := by decide +kernel
theorem dX11_spare_6 : decode cX11_spare 6 = .ok (.iload_n 1, 1) := by decide +kernel
theorem dX11_spare_7 : decode cX11_spare 7 = .ok (.invokevirtual 371, 3) := by decide +kernel
theorem dX11_spare_10 : decode cX11_spare 10 = .ok (.ifCond .eq 5, 3) := by decide +kernel
theorem dX11_spare_13 : decode cX11_spare 13 = .ok (.iconst (-1), 1) := by decide +kernel
theorem dX11_spare_14 : decode cX11_spare 14 = .ok (.ireturn, 1) := by decide +kernel
theorem dX11_spare_15 : decode cX11_spare 15 = .ok (.aload_n 0, 1) := by decide +kernel
theorem dX11_spare_16 : decode cX11_spare 16 = .ok (.getfield 52, 3) := by decide +kernel
theorem dX11_spare_19 : decode cX11_spare 19 = .ok (.aload_n 0, 1) := by decide +kernel
theorem dX11_spare_20 : decode cX11_spare 20 = .ok (.iload_n 1, 1) := by decide +kernel
theorem dX11_spare_21 : decode cX11_spare 21 = .ok (.invokevirtual 377, 3) := by decide +kernel
theorem dX11_spare_24 : decode cX11_spare 24 = .ok (.aload_n 0, 1) := by decide +kernel
theorem dX11_spare_25 : decode cX11_spare 25 = .ok (.iload_n 1, 1) := by decide +kernel
theorem dX11_spare_26 : decode cX11_spare 26 = .ok (.invokevirtual 381, 3) := by decide +kernel
theorem dX11_spare_29 : decode cX11_spare 29 = .ok (.invokevirtual 364, 3) := by decide +kernel
theorem dX11_spare_32 : decode cX11_spare 32 = .ok (.aload_n 0, 1) := by decide +kernel
theorem dX11_spare_33 : decode cX11_spare 33 = .ok (.aload_n 0, 1) := by decide +kernel
theorem dX11_spare_34 : decode cX11_spare 34 = .ok (.getfield 52, 3) := by decide +kernel
theorem dX11_spare_37 : decode cX11_spare 37 = .ok (.invokevirtual 393, 3) := by decide +kernel
theorem dX11_spare_40 : decode cX11_spare 40 = .ok (.ireturn, 1) := by decide +kernel
theorem dX11_leaveOut_0 : decode cX11_leaveOut 0 = .ok (.aload_n 1, 1) := by decide +kernel
theorem dX11_leaveOut_1 : decode cX11_leaveOut 1 = .ok (.getfield 294, 3) := by decide +kernel
theorem dX11_leaveOut_4 : decode cX11_leaveOut 4 = .ok (.istore_n 2, 1) := by decide +kernel
theorem dX11_leaveOut_5 : decode cX11_leaveOut 5 = .ok (.iconst 0, 1) := by decide +kernel
theorem dX11_leaveOut_6 : decode cX11_leaveOut 6 = .ok (.istore_n 3, 1) := by decide +kernel
theorem dX11_leaveOut_7 : decode cX11_leaveOut 7 = .ok (.iconst 0, 1) := by decide +kernel
theorem dX11_leaveOut_8 : decode cX11_leaveOut 8 = .ok (.istore 4, 2) := by decide +kernel
theorem dX11_leaveOut_10 : decode cX11_leaveOut 10 = .ok (.iload 4, 2) := by decide +kernel
theorem dX11_leaveOut_12 : decode cX11_leaveOut 12 = .ok (.iload_n 2, 1) := by decide +kernel
theorem dX11_leaveOut_13 : decode cX11_leaveOut 13 = .ok (.if_icmp .ge 38, 3) := by decide +kernel
theorem dX11_leaveOut_16 : decode cX11_leaveOut 16 = .ok (.aload_n 0, 1) := by decide +kernel
theorem dX11_leaveOut_17 : decode cX11_leaveOut 17 = .ok (.getfield 35, 3) := by decide +kernel
theorem dX11_leaveOut_20 : decode cX11_leaveOut 20 = .ok (.getfield 112, 3) := by decide +kernel
theorem dX11_leaveOut_23 : decode cX11_leaveOut 23 = .ok (.aload_n 1, 1) := by decide +kernel
theorem dX11_leaveOut_24 : decode cX11_leaveOut 24 = .ok (.iload_n 3, 1) := by decide +kernel
theorem dX11_leaveOut_25 : decode cX11_leaveOut 25 = .ok (.invokevirtual 397, 3) := by decide +kernel
theorem dX11_leaveOut_28 : decode cX11_leaveOut 28 = .ok (.invokevirtual 387, 3) := by decide +kernel
theorem dX11_leaveOut_31 : decode cX11_leaveOut 31 = .ok (.ifCond .ne 11, 3) := by decide +kernel
theorem dX11_leaveOut_34 : decode cX11_leaveOut 34 = .ok (.aload_n 1, 1) := by decide +kernel
theorem dX11_leaveOut_35 : decode cX11_leaveOut 35 = .ok (.iload_n 3, 1) := by decide +kernel
theorem dX11_leaveOut_36 : decode cX11_leaveOut 36 = .ok (.invokevirtual 368, 3) := by decide +kernel
theorem dX11_leaveOut_39 : decode cX11_leaveOut 39 = .ok (.goto 6, 3) := by decide +kernel
theorem dX11_leaveOut_42 : decode cX11_leaveOut 42 = .ok (.iinc 3 1, 3) := by decide +kernel
theorem dX11_leaveOut_45 : decode cX11_leaveOut 45 = .ok (.iinc 4 1, 3) := by decide +kernel
theorem dX11_leaveOut_48 : decode cX11_leaveOut 48 = .ok (.goto (-38), 3) := by decide +kernel
theorem dX11_leaveOut_51 : decode cX11_leaveOut 51 = .ok (.iload_n 2, 1) := by decide +kernel
theorem dX11_leaveOut_52 : decode cX11_leaveOut 52 = .ok (.aload_n 1, 1) := by decide +kernel
theorem dX11_leaveOut_53 : decode cX11_leaveOut 53 = .ok (.getfield 294, 3) := by decide +kernel
theorem dX11_leaveOut_56 : decode cX11_leaveOut 56 = .ok (.isub, 1) := by decide +kernel
theorem dX11_leaveOut_57 : decode cX11_leaveOut 57 = .ok (.ireturn, 1) := by decide +kernel
theorem dX11_fewest_0 : decode cX11_fewest 0 = .ok (.aload_n 0, 1) := by decide +kernel
theorem dX11_fewest_1 : decode cX11_fewest 1 = .ok (.iload_n 1, 1) := by decide +kernel
theorem dX11_fewest_2 : decode cX11_fewest 2 = .ok (.invokevirtual 400, 3) := by decide +kernel
theorem dX11_fewest_5 : decode cX11_fewest 5 = .ok (.istore_n 2, 1) := by decide +kernel
theorem dX11_fewest_6 : decode cX11_fewest 6 = .ok (.iload_n 2, 1) := by decide +kernel
theorem dX11_fewest_7 : decode cX11_fewest 7 = .ok (.iconst (-1), 1) := by decide +kernel
theorem dX11_fewest_8 : decode cX11_fewest 8 = .ok (.if_icmp .ne 7, 3) := by decide +kernel
theorem dX11_fewest_11 : decode cX11_fewest 11 = .ok (.iconst (-1), 1) := by decide +kernel
theorem dX11_fewest_12 : decode cX11_fewest 12 = .ok (.goto 7, 3) := by decide +kernel
theorem dX11_fewest_15 : decode cX11_fewest 15 = .ok (.iload_n 2, 1) := by decide +kernel
theorem dX11_fewest_16 : decode cX11_fewest 16 = .ok (.invokestatic 403, 3) := by decide +kernel
theorem dX11_fewest_19 : decode cX11_fewest 19 = .ok (.ireturn, 1) := by decide +kernel
theorem dX11_chosen_0 : decode cX11_chosen 0 = .ok (.iload_n 1, 1) := by decide +kernel
theorem dX11_chosen_1 : decode cX11_chosen 1 = .ok (.iconst 2, 1) := by decide +kernel
theorem dX11_chosen_2 : decode cX11_chosen 2 = .ok (.if_icmp .eq 11, 3) := by decide +kernel
theorem dX11_chosen_5 : decode cX11_chosen 5 = .ok (.aload_n 0, 1) := by decide +kernel
theorem dX11_chosen_6 : decode cX11_chosen 6 = .ok (.iload_n 1, 1) := by decide +kernel
theorem dX11_chosen_7 : decode cX11_chosen 7 = .ok (.invokevirtual 371, 3) := by decide +kernel
theorem dX11_chosen_10 : decode cX11_chosen 10 = .ok (.ifCond .eq 5, 3) := by decide +kernel
theorem dX11_chosen_13 : decode cX11_chosen 13 = .ok (.iconst (-1), 1) := by decide +kernel
theorem dX11_chosen_14 : decode cX11_chosen 14 = .ok (.ireturn, 1) := by decide +kernel
theorem dX11_chosen_15 : decode cX11_chosen 15 = .ok (.aload_n 0, 1) := by decide +kernel
theorem dX11_chosen_16 : decode cX11_chosen 16 = .ok (.getfield 59, 3) := by decide +kernel
theorem dX11_chosen_19 : decode cX11_chosen 19 = .ok (.aload_n 0, 1) := by decide +kernel
theorem dX11_chosen_20 : decode cX11_chosen 20 = .ok (.iload_n 1, 1) := by decide +kernel
theorem dX11_chosen_21 : decode cX11_chosen 21 = .ok (.invokevirtual 377, 3) := by decide +kernel
theorem dX11_chosen_24 : decode cX11_chosen 24 = .ok (.aload_n 0, 1) := by decide +kernel
theorem dX11_chosen_25 : decode cX11_chosen 25 = .ok (.iload_n 1, 1) := by decide +kernel
theorem dX11_chosen_26 : decode cX11_chosen 26 = .ok (.invokevirtual 381, 3) := by decide +kernel
theorem dX11_chosen_29 : decode cX11_chosen 29 = .ok (.aload_n 0, 1) := by decide +kernel
theorem dX11_chosen_30 : decode cX11_chosen 30 = .ok (.getfield 35, 3) := by decide +kernel
theorem dX11_chosen_33 : decode cX11_chosen 33 = .ok (.getfield 112, 3) := by decide +kernel
theorem dX11_chosen_36 : decode cX11_chosen 36 = .ok (.invokevirtual 407, 3) := by decide +kernel
theorem dX11_chosen_39 : decode cX11_chosen 39 = .ok (.ireturn, 1) := by decide +kernel
theorem dX11_inside_0 : decode cX11_inside 0 = .ok (.aload_n 0, 1) := by decide +kernel
theorem dX11_inside_1 : decode cX11_inside 1 = .ok (.iload_n 1, 1) := by decide +kernel
theorem dX11_inside_2 : decode cX11_inside 2 = .ok (.invokevirtual 377, 3) := by decide +kernel
theorem dX11_inside_5 : decode cX11_inside 5 = .ok (.astore_n 2, 1) := by decide +kernel
theorem dX11_inside_6 : decode cX11_inside 6 = .ok (.iload_n 1, 1) := by decide +kernel
theorem dX11_inside_7 : decode cX11_inside 7 = .ok (.iconst 2, 1) := by decide +kernel
theorem dX11_inside_8 : decode cX11_inside 8 = .ok (.if_icmp .eq 7, 3) := by decide +kernel
theorem dX11_inside_11 : decode cX11_inside 11 = .ok (.aload_n 2, 1) := by decide +kernel
theorem dX11_inside_12 : decode cX11_inside 12 = .ok (.ifnonnull 5, 3) := by decide +kernel
theorem dX11_inside_15 : decode cX11_inside 15 = .ok (.iconst (-1), 1) := by decide +kernel
theorem dX11_inside_16 : decode cX11_inside 16 = .ok (.ireturn, 1) := by decide +kernel
theorem dX11_inside_17 : decode cX11_inside 17 = .ok (.aload_n 0, 1) := by decide +kernel
theorem dX11_inside_18 : decode cX11_inside 18 = .ok (.getfield 35, 3) := by decide +kernel
theorem dX11_inside_21 : decode cX11_inside 21 = .ok (.getfield 112, 3) := by decide +kernel
theorem dX11_inside_24 : decode cX11_inside 24 = .ok (.getfield 125, 3) := by decide +kernel
theorem dX11_inside_27 : decode cX11_inside 27 = .ok (.getfield 411, 3) := by decide +kernel
theorem dX11_inside_30 : decode cX11_inside 30 = .ok (.aload_n 2, 1) := by decide +kernel
theorem dX11_inside_31 : decode cX11_inside 31 = .ok (.aload_n 0, 1) := by decide +kernel
theorem dX11_inside_32 : decode cX11_inside 32 = .ok (.iload_n 1, 1) := by decide +kernel
theorem dX11_inside_33 : decode cX11_inside 33 = .ok (.invokevirtual 381, 3) := by decide +kernel
theorem dX11_inside_36 : decode cX11_inside 36 = .ok (.invokevirtual 384, 3) := by decide +kernel
theorem dX11_inside_39 : decode cX11_inside 39 = .ok (.ldc2_w 356, 3) := by decide +kernel
theorem dX11_inside_42 : decode cX11_inside 42 = .ok (.lxor, 1) := by decide +kernel
theorem dX11_inside_43 : decode cX11_inside 43 = .ok (.land, 1) := by decide +kernel
theorem dX11_inside_44 : decode cX11_inside 44 = .ok (.invokestatic 226, 3) := by decide +kernel
theorem dX11_inside_47 : decode cX11_inside 47 = .ok (.ireturn, 1) := by decide +kernel
theorem dX11_foretold_0 : decode cX11_foretold 0 = .ok (.iload_n 1, 1) := by decide +kernel
theorem dX11_foretold_1 : decode cX11_foretold 1 = .ok (.iconst 1, 1) := by decide +kernel
theorem dX11_foretold_2 : decode cX11_foretold 2 = .ok (.if_icmp .lt 10, 3) := by decide +kernel
theorem dX11_foretold_5 : decode cX11_foretold 5 = .ok (.iload_n 1, 1) := by decide +kernel
theorem dX11_foretold_6 : decode cX11_foretold 6 = .ok (.sipush 500, 3) := by decide +kernel
theorem dX11_foretold_9 : decode cX11_foretold 9 = .ok (.if_icmp .le 5, 3) := by decide +kernel
theorem dX11_foretold_12 : decode cX11_foretold 12 = .ok (.iconst (-1), 1) := by decide +kernel
theorem dX11_foretold_13 : decode cX11_foretold 13 = .ok (.ireturn, 1) := by decide +kernel
theorem dX11_foretold_14 : decode cX11_foretold 14 = .ok (.aload_n 0, 1) := by decide +kernel
theorem dX11_foretold_15 : decode cX11_foretold 15 = .ok (.getfield 45, 3) := by decide +kernel
theorem dX11_foretold_18 : decode cX11_foretold 18 = .ok (.aload_n 0, 1) := by decide +kernel
theorem dX11_foretold_19 : decode cX11_foretold 19 = .ok (.getfield 35, 3) := by decide +kernel
theorem dX11_foretold_22 : decode cX11_foretold 22 = .ok (.getfield 112, 3) := by decide +kernel
theorem dX11_foretold_25 : decode cX11_foretold 25 = .ok (.invokevirtual 414, 3) := by decide +kernel
theorem dX11_foretold_28 : decode cX11_foretold 28 = .ok (.aload_n 0, 1) := by decide +kernel
theorem dX11_foretold_29 : decode cX11_foretold 29 = .ok (.getfield 45, 3) := by decide +kernel
theorem dX11_foretold_32 : decode cX11_foretold 32 = .ok (.iload_n 1, 1) := by decide +kernel
theorem dX11_foretold_33 : decode cX11_foretold 33 = .ok (.invokevirtual 166, 3) := by decide +kernel
theorem dX11_foretold_36 : decode cX11_foretold 36 = .ok (.pop, 1) := by decide +kernel
theorem dX11_foretold_37 : decode cX11_foretold 37 = .ok (.aload_n 0, 1) := by decide +kernel
theorem dX11_foretold_38 : decode cX11_foretold 38 = .ok (.getfield 45, 3) := by decide +kernel
theorem dX11_foretold_41 : decode cX11_foretold 41 = .ok (.getfield 176, 3) := by decide +kernel
theorem dX11_foretold_44 : decode cX11_foretold 44 = .ok (.ireturn, 1) := by decide +kernel
theorem dX11_till_0 : decode cX11_till 0 = .ok (.aload_n 0, 1) := by decide +kernel
theorem dX11_till_1 : decode cX11_till 1 = .ok (.getfield 45, 3) := by decide +kernel
theorem dX11_till_4 : decode cX11_till 4 = .ok (.aload_n 0, 1) := by decide +kernel
theorem dX11_till_5 : decode cX11_till 5 = .ok (.getfield 35, 3) := by decide +kernel
theorem dX11_till_8 : decode cX11_till 8 = .ok (.getfield 112, 3) := by decide +kernel
theorem dX11_till_11 : decode cX11_till 11 = .ok (.invokevirtual 414, 3) := by decide +kernel
theorem dX11_till_14 : decode cX11_till 14 = .ok (.aload_n 0, 1) := by decide +kernel
theorem dX11_till_15 : decode cX11_till 15 = .ok (.getfield 45, 3) := by decide +kernel
theorem dX11_till_18 : decode cX11_till 18 = .ok (.sipush 400, 3) := by decide +kernel
theorem dX11_till_21 : decode cX11_till 21 = .ok (.invokevirtual 166, 3) := by decide +kernel
theorem dX11_till_24 : decode cX11_till 24 = .ok (.istore_n 1, 1) := by decide +kernel
theorem dX11_till_25 : decode cX11_till 25 = .ok (.aload_n 0, 1) := by decide +kernel
theorem dX11_till_26 : decode cX11_till 26 = .ok (.getfield 45, 3) := by decide +kernel
theorem dX11_till_29 : decode cX11_till 29 = .ok (.invokevirtual 162, 3) := by decide +kernel
theorem dX11_till_32 : decode cX11_till 32 = .ok (.ifCond .eq 7, 3) := by decide +kernel
theorem dX11_till_35 : decode cX11_till 35 = .ok (.iload_n 1, 1) := by decide +kernel
theorem dX11_till_36 : decode cX11_till 36 = .ok (.goto 4, 3) := by decide +kernel
theorem dX11_till_39 : decode cX11_till 39 = .ok (.iconst (-1), 1) := by decide +kernel
theorem dX11_till_40 : decode cX11_till 40 = .ok (.ireturn, 1) := by decide +kernel
theorem dX11_quickest_0 : decode cX11_quickest 0 = .ok (.iconst (-1), 1) := by decide +kernel
theorem dX11_quickest_1 : decode cX11_quickest 1 = .ok (.istore_n 1, 1) := by decide +kernel
theorem dX11_quickest_2 : decode cX11_quickest 2 = .ok (.sipush 401, 3) := by decide +kernel
theorem dX11_quickest_5 : decode cX11_quickest 5 = .ok (.istore_n 2, 1) := by decide +kernel
theorem dX11_quickest_6 : decode cX11_quickest 6 = .ok (.iconst 0, 1) := by decide +kernel
theorem dX11_quickest_7 : decode cX11_quickest 7 = .ok (.istore_n 3, 1) := by decide +kernel
theorem dX11_quickest_8 : decode cX11_quickest 8 = .ok (.iload_n 3, 1) := by decide +kernel
theorem dX11_quickest_9 : decode cX11_quickest 9 = .ok (.aload_n 0, 1) := by decide +kernel
theorem dX11_quickest_10 : decode cX11_quickest 10 = .ok (.getfield 35, 3) := by decide +kernel
theorem dX11_quickest_13 : decode cX11_quickest 13 = .ok (.getfield 112, 3) := by decide +kernel
theorem dX11_quickest_16 : decode cX11_quickest 16 = .ok (.getfield 125, 3) := by decide +kernel
theorem dX11_quickest_19 : decode cX11_quickest 19 = .ok (.getfield 182, 3) := by decide +kernel
theorem dX11_quickest_22 : decode cX11_quickest 22 = .ok (.arraylength, 1) := by decide +kernel
theorem dX11_quickest_23 : decode cX11_quickest 23 = .ok (.if_icmp .ge 64, 3) := by decide +kernel
theorem dX11_quickest_26 : decode cX11_quickest 26 = .ok (.aload_n 0, 1) := by decide +kernel
theorem dX11_quickest_27 : decode cX11_quickest 27 = .ok (.getfield 45, 3) := by decide +kernel
theorem dX11_quickest_30 : decode cX11_quickest 30 = .ok (.aload_n 0, 1) := by decide +kernel
theorem dX11_quickest_31 : decode cX11_quickest 31 = .ok (.getfield 35, 3) := by decide +kernel
theorem dX11_quickest_34 : decode cX11_quickest 34 = .ok (.getfield 112, 3) := by decide +kernel
theorem dX11_quickest_37 : decode cX11_quickest 37 = .ok (.invokevirtual 414, 3) := by decide +kernel
theorem dX11_quickest_40 : decode cX11_quickest 40 = .ok (.aload_n 0, 1) := by decide +kernel
theorem dX11_quickest_41 : decode cX11_quickest 41 = .ok (.getfield 45, 3) := by decide +kernel
theorem dX11_quickest_44 : decode cX11_quickest 44 = .ok (.iload_n 3, 1) := by decide +kernel
theorem dX11_quickest_45 : decode cX11_quickest 45 = .ok (.invokevirtual 132, 3) := by decide +kernel
theorem dX11_quickest_48 : decode cX11_quickest 48 = .ok (.aload_n 0, 1) := by decide +kernel
theorem dX11_quickest_49 : decode cX11_quickest 49 = .ok (.getfield 45, 3) := by decide +kernel
theorem dX11_quickest_52 : decode cX11_quickest 52 = .ok (.sipush 400, 3) := by decide +kernel
theorem dX11_quickest_55 : decode cX11_quickest 55 = .ok (.invokevirtual 166, 3) := by decide +kernel
theorem dX11_quickest_58 : decode cX11_quickest 58 = .ok (.istore 4, 2) := by decide +kernel
theorem dX11_quickest_60 : decode cX11_quickest 60 = .ok (.aload_n 0, 1) := by decide +kernel
theorem dX11_quickest_61 : decode cX11_quickest 61 = .ok (.getfield 45, 3) := by decide +kernel
theorem dX11_quickest_64 : decode cX11_quickest 64 = .ok (.invokevirtual 162, 3) := by decide +kernel
theorem dX11_quickest_67 : decode cX11_quickest 67 = .ok (.ifCond .eq 14, 3) := by decide +kernel
theorem dX11_quickest_70 : decode cX11_quickest 70 = .ok (.iload 4, 2) := by decide +kernel
theorem dX11_quickest_72 : decode cX11_quickest 72 = .ok (.iload_n 2, 1) := by decide +kernel
theorem dX11_quickest_73 : decode cX11_quickest 73 = .ok (.if_icmp .ge 8, 3) := by decide +kernel
theorem dX11_quickest_76 : decode cX11_quickest 76 = .ok (.iload_n 3, 1) := by decide +kernel
theorem dX11_quickest_77 : decode cX11_quickest 77 = .ok (.istore_n 1, 1) := by decide +kernel
theorem dX11_quickest_78 : decode cX11_quickest 78 = .ok (.iload 4, 2) := by decide +kernel
theorem dX11_quickest_80 : decode cX11_quickest 80 = .ok (.istore_n 2, 1) := by decide +kernel
theorem dX11_quickest_81 : decode cX11_quickest 81 = .ok (.iinc 3 1, 3) := by decide +kernel
theorem dX11_quickest_84 : decode cX11_quickest 84 = .ok (.goto (-76), 3) := by decide +kernel
theorem dX11_quickest_87 : decode cX11_quickest 87 = .ok (.iload_n 1, 1) := by decide +kernel
theorem dX11_quickest_88 : decode cX11_quickest 88 = .ok (.ireturn, 1) := by decide +kernel
theorem dX11_bestMode_0 : decode cX11_bestMode 0 = .ok (.iconst (-1), 1) := by decide +kernel
theorem dX11_bestMode_1 : decode cX11_bestMode 1 = .ok (.istore_n 1, 1) := by decide +kernel
theorem dX11_bestMode_2 : decode cX11_bestMode 2 = .ok (.sipush 401, 3) := by decide +kernel
theorem dX11_bestMode_5 : decode cX11_bestMode 5 = .ok (.istore_n 2, 1) := by decide +kernel
theorem dX11_bestMode_6 : decode cX11_bestMode 6 = .ok (.iconst 0, 1) := by decide +kernel
theorem dX11_bestMode_7 : decode cX11_bestMode 7 = .ok (.istore_n 3, 1) := by decide +kernel
theorem dX11_bestMode_8 : decode cX11_bestMode 8 = .ok (.iload_n 3, 1) := by decide +kernel
theorem dX11_bestMode_9 : decode cX11_bestMode 9 = .ok (.iconst 3, 1) := by decide +kernel
theorem dX11_bestMode_10 : decode cX11_bestMode 10 = .ok (.if_icmp .ge 84, 3) := by decide +kernel
theorem dX11_bestMode_13 : decode cX11_bestMode 13 = .ok (.aload_n 0, 1) := by decide +kernel
theorem dX11_bestMode_14 : decode cX11_bestMode 14 = .ok (.getfield 45, 3) := by decide +kernel
theorem dX11_bestMode_17 : decode cX11_bestMode 17 = .ok (.aload_n 0, 1) := by decide +kernel
theorem dX11_bestMode_18 : decode cX11_bestMode 18 = .ok (.getfield 35, 3) := by decide +kernel
theorem dX11_bestMode_21 : decode cX11_bestMode 21 = .ok (.getfield 112, 3) := by decide +kernel
theorem dX11_bestMode_24 : decode cX11_bestMode 24 = .ok (.getfield 125, 3) := by decide +kernel
theorem dX11_bestMode_27 : decode cX11_bestMode 27 = .ok (.invokevirtual 115, 3) := by decide +kernel
theorem dX11_bestMode_30 : decode cX11_bestMode 30 = .ok (.aload_n 0, 1) := by decide +kernel
theorem dX11_bestMode_31 : decode cX11_bestMode 31 = .ok (.getfield 45, 3) := by decide +kernel
theorem dX11_bestMode_34 : decode cX11_bestMode 34 = .ok (.aload_n 0, 1) := by decide +kernel
theorem dX11_bestMode_35 : decode cX11_bestMode 35 = .ok (.getfield 35, 3) := by decide +kernel
theorem dX11_bestMode_38 : decode cX11_bestMode 38 = .ok (.getfield 112, 3) := by decide +kernel
theorem dX11_bestMode_41 : decode cX11_bestMode 41 = .ok (.getfield 185, 3) := by decide +kernel
theorem dX11_bestMode_44 : decode cX11_bestMode 44 = .ok (.invokevirtual 132, 3) := by decide +kernel
theorem dX11_bestMode_47 : decode cX11_bestMode 47 = .ok (.aload_n 0, 1) := by decide +kernel
theorem dX11_bestMode_48 : decode cX11_bestMode 48 = .ok (.getfield 45, 3) := by decide +kernel
theorem dX11_bestMode_51 : decode cX11_bestMode 51 = .ok (.iload_n 3, 1) := by decide +kernel
theorem dX11_bestMode_52 : decode cX11_bestMode 52 = .ok (.putfield 135, 3) := by decide +kernel
theorem dX11_bestMode_55 : decode cX11_bestMode 55 = .ok (.aload_n 0, 1) := by decide +kernel
theorem dX11_bestMode_56 : decode cX11_bestMode 56 = .ok (.getfield 45, 3) := by decide +kernel
theorem dX11_bestMode_59 : decode cX11_bestMode 59 = .ok (.sipush 400, 3) := by decide +kernel
theorem dX11_bestMode_62 : decode cX11_bestMode 62 = .ok (.invokevirtual 166, 3) := by decide +kernel
theorem dX11_bestMode_65 : decode cX11_bestMode 65 = .ok (.istore 4, 2) := by decide +kernel
theorem dX11_bestMode_67 : decode cX11_bestMode 67 = .ok (.aload_n 0, 1) := by decide +kernel
theorem dX11_bestMode_68 : decode cX11_bestMode 68 = .ok (.getfield 45, 3) := by decide +kernel
theorem dX11_bestMode_71 : decode cX11_bestMode 71 = .ok (.invokevirtual 162, 3) := by decide +kernel
theorem dX11_bestMode_74 : decode cX11_bestMode 74 = .ok (.ifCond .eq 14, 3) := by decide +kernel
theorem dX11_bestMode_77 : decode cX11_bestMode 77 = .ok (.iload 4, 2) := by decide +kernel
theorem dX11_bestMode_79 : decode cX11_bestMode 79 = .ok (.iload_n 2, 1) := by decide +kernel
theorem dX11_bestMode_80 : decode cX11_bestMode 80 = .ok (.if_icmp .ge 8, 3) := by decide +kernel
theorem dX11_bestMode_83 : decode cX11_bestMode 83 = .ok (.iload_n 3, 1) := by decide +kernel
theorem dX11_bestMode_84 : decode cX11_bestMode 84 = .ok (.istore_n 1, 1) := by decide +kernel
theorem dX11_bestMode_85 : decode cX11_bestMode 85 = .ok (.iload 4, 2) := by decide +kernel
theorem dX11_bestMode_87 : decode cX11_bestMode 87 = .ok (.istore_n 2, 1) := by decide +kernel
theorem dX11_bestMode_88 : decode cX11_bestMode 88 = .ok (.iinc 3 1, 3) := by decide +kernel
theorem dX11_bestMode_91 : decode cX11_bestMode 91 = .ok (.goto (-83), 3) := by decide +kernel
theorem dX11_bestMode_94 : decode cX11_bestMode 94 = .ok (.iload_n 1, 1) := by decide +kernel
theorem dX11_bestMode_95 : decode cX11_bestMode 95 = .ok (.ireturn, 1) := by decide +kernel
theorem dX11_mean_0 : decode cX11_mean 0 = .ok (.aload_n 0, 1) := by decide +kernel
theorem dX11_mean_1 : decode cX11_mean 1 = .ok (.getfield 35, 3) := by decide +kernel
theorem dX11_mean_4 : decode cX11_mean 4 = .ok (.getfield 112, 3) := by decide +kernel
theorem dX11_mean_7 : decode cX11_mean 7 = .ok (.astore_n 1, 1) := by decide +kernel
theorem dX11_mean_8 : decode cX11_mean 8 = .ok (.aload_n 1, 1) := by decide +kernel
theorem dX11_mean_9 : decode cX11_mean 9 = .ok (.getfield 200, 3) := by decide +kernel
theorem dX11_mean_12 : decode cX11_mean 12 = .ok (.ifCond .gt 5, 3) := by decide +kernel
theorem dX11_mean_15 : decode cX11_mean 15 = .ok (.lconst 0, 1) := by decide +kernel
theorem dX11_mean_16 : decode cX11_mean 16 = .ok (.lreturn, 1) := by decide +kernel
theorem dX11_mean_17 : decode cX11_mean 17 = .ok (.aload_n 1, 1) := by decide +kernel
theorem dX11_mean_18 : decode cX11_mean 18 = .ok (.getfield 203, 3) := by decide +kernel
theorem dX11_mean_21 : decode cX11_mean 21 = .ok (.i2d, 1) := by decide +kernel
theorem dX11_mean_22 : decode cX11_mean 22 = .ok (.aload_n 1, 1) := by decide +kernel
theorem dX11_mean_23 : decode cX11_mean 23 = .ok (.getfield 200, 3) := by decide +kernel
theorem dX11_mean_26 : decode cX11_mean 26 = .ok (.i2d, 1) := by decide +kernel
theorem dX11_mean_27 : decode cX11_mean 27 = .ok (.ddiv, 1) := by decide +kernel
theorem dX11_mean_28 : decode cX11_mean 28 = .ok (.invokestatic 418, 3) := by decide +kernel
theorem dX11_mean_31 : decode cX11_mean 31 = .ok (.lreturn, 1) := by decide +kernel
theorem dX11_image_0 : decode cX11_image 0 = .ok (.aload_n 0, 1) := by decide +kernel
theorem dX11_image_1 : decode cX11_image 1 = .ok (.getfield 39, 3) := by decide +kernel
theorem dX11_image_4 : decode cX11_image 4 = .ok (.aload_n 0, 1) := by decide +kernel
theorem dX11_image_5 : decode cX11_image 5 = .ok (.getfield 35, 3) := by decide +kernel
theorem dX11_image_8 : decode cX11_image 8 = .ok (.invokevirtual 422, 3) := by decide +kernel
theorem dX11_image_11 : decode cX11_image 11 = .ok (.aload_n 0, 1) := by decide +kernel
theorem dX11_image_12 : decode cX11_image 12 = .ok (.getfield 35, 3) := by decide +kernel
theorem dX11_image_15 : decode cX11_image 15 = .ok (.getfield 112, 3) := by decide +kernel
theorem dX11_image_18 : decode cX11_image 18 = .ok (.getfield 176, 3) := by decide +kernel
theorem dX11_image_21 : decode cX11_image 21 = .ok (.ireturn, 1) := by decide +kernel
theorem dX11_back_0 : decode cX11_back 0 = .ok (.aload_n 0, 1) := by decide +kernel
theorem dX11_back_1 : decode cX11_back 1 = .ok (.getfield 35, 3) := by decide +kernel
theorem dX11_back_4 : decode cX11_back 4 = .ok (.aload_n 0, 1) := by decide +kernel
theorem dX11_back_5 : decode cX11_back 5 = .ok (.getfield 39, 3) := by decide +kernel
theorem dX11_back_8 : decode cX11_back 8 = .ok (.invokevirtual 422, 3) := by decide +kernel
theorem dX11_back_11 : decode cX11_back 11 = .ok (.aload_n 0, 1) := by decide +kernel
theorem dX11_back_12 : decode cX11_back 12 = .ok (.getfield 35, 3) := by decide +kernel
theorem dX11_back_15 : decode cX11_back 15 = .ok (.getfield 112, 3) := by decide +kernel
theorem dX11_back_18 : decode cX11_back 18 = .ok (.getfield 176, 3) := by decide +kernel
theorem dX11_back_21 : decode cX11_back 21 = .ok (.ireturn, 1) := by decide +kernel
theorem dX11_about_0 : decode cX11_about 0 = .ok (.iload_n 1, 1) := by decide +kernel
theorem dX11_about_1 : decode cX11_about 1 = .ok (.tableswitch 81 0 4 #[35, 43, 51, 65, 70], 35) := by decide +kernel
theorem dX11_about_36 : decode cX11_about 36 = .ok (.aload_n 0, 1) := by decide +kernel
theorem dX11_about_37 : decode cX11_about 37 = .ok (.getfield 35, 3) := by decide +kernel
theorem dX11_about_40 : decode cX11_about 40 = .ok (.getfield 78, 3) := by decide +kernel
theorem dX11_about_43 : decode cX11_about 43 = .ok (.ireturn, 1) := by decide +kernel
theorem dX11_about_44 : decode cX11_about 44 = .ok (.aload_n 0, 1) := by decide +kernel
theorem dX11_about_45 : decode cX11_about 45 = .ok (.getfield 35, 3) := by decide +kernel
theorem dX11_about_48 : decode cX11_about 48 = .ok (.getfield 425, 3) := by decide +kernel
theorem dX11_about_51 : decode cX11_about 51 = .ok (.ireturn, 1) := by decide +kernel
theorem dX11_about_52 : decode cX11_about 52 = .ok (.aload_n 0, 1) := by decide +kernel
theorem dX11_about_53 : decode cX11_about 53 = .ok (.getfield 35, 3) := by decide +kernel
theorem dX11_about_56 : decode cX11_about 56 = .ok (.getfield 112, 3) := by decide +kernel
theorem dX11_about_59 : decode cX11_about 59 = .ok (.getfield 358, 3) := by decide +kernel
theorem dX11_about_62 : decode cX11_about 62 = .ok (.getfield 294, 3) := by decide +kernel
theorem dX11_about_65 : decode cX11_about 65 = .ok (.ireturn, 1) := by decide +kernel
theorem dX11_about_66 : decode cX11_about 66 = .ok (.aload_n 0, 1) := by decide +kernel
theorem dX11_about_67 : decode cX11_about 67 = .ok (.getfield 71, 3) := by decide +kernel
theorem dX11_about_70 : decode cX11_about 70 = .ok (.ireturn, 1) := by decide +kernel
theorem dX11_about_71 : decode cX11_about 71 = .ok (.aload_n 0, 1) := by decide +kernel
theorem dX11_about_72 : decode cX11_about 72 = .ok (.getfield 35, 3) := by decide +kernel
theorem dX11_about_75 : decode cX11_about 75 = .ok (.getfield 112, 3) := by decide +kernel
theorem dX11_about_78 : decode cX11_about 78 = .ok (.getfield 135, 3) := by decide +kernel
theorem dX11_about_81 : decode cX11_about 81 = .ok (.ireturn, 1) := by decide +kernel
theorem dX11_about_82 : decode cX11_about 82 = .ok (.bipush (-2), 2) := by decide +kernel
theorem dX11_about_84 : decode cX11_about 84 = .ok (.ireturn, 1) := by decide +kernel
theorem dX12_init_0 : decode cX12_init 0 = .ok (.aload_n 0, 1) := by decide +kernel
theorem dX12_init_1 : decode cX12_init 1 = .ok (.invokespecial 1, 3) := by decide +kernel
theorem dX12_init_4 : decode cX12_init 4 = .ok (.aload_n 0, 1) := by decide +kernel
theorem dX12_init_5 : decode cX12_init 5 = .ok (.ldc 7, 2) := by decide +kernel
theorem dX12_init_7 : decode cX12_init 7 = .ok (.newarray .int, 2) := by decide +kernel
theorem dX12_init_9 : decode cX12_init 9 = .ok (.putfield 8, 3) := by decide +kernel
theorem dX12_init_12 : decode cX12_init 12 = .ok (.aload_n 0, 1) := by decide +kernel
theorem dX12_init_13 : decode cX12_init 13 = .ok (.ldc 7, 2) := by decide +kernel
theorem dX12_init_15 : decode cX12_init 15 = .ok (.newarray .int, 2) := by decide +kernel
theorem dX12_init_17 : decode cX12_init 17 = .ok (.putfield 14, 3) := by decide +kernel
theorem dX12_init_20 : decode cX12_init 20 = .ok (.aload_n 0, 1) := by decide +kernel
theorem dX12_init_21 : decode cX12_init 21 = .ok (.sipush 147, 3) := by decide +kernel
theorem dX12_init_24 : decode cX12_init 24 = .ok (.newarray .float, 2) := by decide +kernel
theorem dX12_init_26 : decode cX12_init 26 = .ok (.putfield 17, 3) := by decide +kernel
theorem dX12_init_29 : decode cX12_init 29 = .ok (.aload_n 0, 1) := by decide +kernel
theorem dX12_init_30 : decode cX12_init 30 = .ok (.sipush 147, 3) := by decide +kernel
theorem dX12_init_33 : decode cX12_init 33 = .ok (.newarray .float, 2) := by decide +kernel
theorem dX12_init_35 : decode cX12_init 35 = .ok (.putfield 21, 3) := by decide +kernel
theorem dX12_init_38 : decode cX12_init 38 = .ok (.aload_n 0, 1) := by decide +kernel
theorem dX12_init_39 : decode cX12_init 39 = .ok (.bipush 8, 2) := by decide +kernel
theorem dX12_init_41 : decode cX12_init 41 = .ok (.newarray .int, 2) := by decide +kernel
theorem dX12_init_43 : decode cX12_init 43 = .ok (.putfield 24, 3) := by decide +kernel
theorem dX12_init_46 : decode cX12_init 46 = .ok (.aload_n 0, 1) := by decide +kernel
theorem dX12_init_47 : decode cX12_init 47 = .ok (.bipush 116, 2) := by decide +kernel
theorem dX12_init_49 : decode cX12_init 49 = .ok (.newarray .long, 2) := by decide +kernel
theorem dX12_init_51 : decode cX12_init 51 = .ok (.putfield 27, 3) := by decide +kernel
theorem dX12_init_54 : decode cX12_init 54 = .ok (.aload_n 0, 1) := by decide +kernel
theorem dX12_init_55 : decode cX12_init 55 = .ok (.sipush 300, 3) := by decide +kernel
theorem dX12_init_58 : decode cX12_init 58 = .ok (.newarray .int, 2) := by decide +kernel
theorem dX12_init_60 : decode cX12_init 60 = .ok (.putfield 31, 3) := by decide +kernel
theorem dX12_init_63 : decode cX12_init 63 = .ok (.aload_n 0, 1) := by decide +kernel
theorem dX12_init_64 : decode cX12_init 64 = .ok (.iconst (-1), 1) := by decide +kernel
theorem dX12_init_65 : decode cX12_init 65 = .ok (.putfield 34, 3) := by decide +kernel
theorem dX12_init_68 : decode cX12_init 68 = .ok (.aload_n 0, 1) := by decide +kernel
theorem dX12_init_69 : decode cX12_init 69 = .ok (.iconst (-1), 1) := by decide +kernel
theorem dX12_init_70 : decode cX12_init 70 = .ok (.putfield 38, 3) := by decide +kernel
theorem dX12_init_73 : decode cX12_init 73 = .ok (.aload_n 0, 1) := by decide +kernel
theorem dX12_init_74 : decode cX12_init 74 = .ok (.sipush 160, 3) := by decide +kernel
theorem dX12_init_77 : decode cX12_init 77 = .ok (.newarray .long, 2) := by decide +kernel
theorem dX12_init_79 : decode cX12_init 79 = .ok (.putfield 41, 3) := by decide +kernel
theorem dX12_init_82 : decode cX12_init 82 = .ok (.aload_n 0, 1) := by decide +kernel
theorem dX12_init_83 : decode cX12_init 83 = .ok (.bipush 80, 2) := by decide +kernel
theorem dX12_init_85 : decode cX12_init 85 = .ok (.newarray .int, 2) := by decide +kernel
theorem dX12_init_87 : decode cX12_init 87 = .ok (.putfield 44, 3) := by decide +kernel
theorem dX12_init_90 : decode cX12_init 90 = .ok (.aload_n 0, 1) := by decide +kernel
theorem dX12_init_91 : decode cX12_init 91 = .ok (.bipush 6, 2) := by decide +kernel
theorem dX12_init_93 : decode cX12_init 93 = .ok (.newarray .int, 2) := by decide +kernel
theorem dX12_init_95 : decode cX12_init 95 = .ok (.putfield 47, 3) := by decide +kernel
theorem dX12_init_98 : decode cX12_init 98 = .ok (.aload_n 0, 1) := by decide +kernel
theorem dX12_init_99 : decode cX12_init 99 = .ok (.sipush 5000, 3) := by decide +kernel
theorem dX12_init_102 : decode cX12_init 102 = .ok (.newarray .int, 2) := by decide +kernel
theorem dX12_init_104 : decode cX12_init 104 = .ok (.putfield 50, 3) := by decide +kernel
theorem dX12_init_107 : decode cX12_init 107 = .ok (.aload_n 0, 1) := by decide +kernel
theorem dX12_init_108 : decode cX12_init 108 = .ok (.sipush 5421, 3) := by decide +kernel
theorem dX12_init_111 : decode cX12_init 111 = .ok (.newarray .int, 2) := by decide +kernel
theorem dX12_init_113 : decode cX12_init 113 = .ok (.putfield 53, 3) := by decide +kernel
theorem dX12_init_116 : decode cX12_init 116 = .ok (.aload_n 0, 1) := by decide +kernel
theorem dX12_init_117 : decode cX12_init 117 = .ok (.bipush 7, 2) := by decide +kernel
theorem dX12_init_119 : decode cX12_init 119 = .ok (.newarray .float, 2) := by decide +kernel
theorem dX12_init_121 : decode cX12_init 121 = .ok (.putfield 56, 3) := by decide +kernel
theorem dX12_init_124 : decode cX12_init 124 = .ok (.aload_n 0, 1) := by decide +kernel
theorem dX12_init_125 : decode cX12_init 125 = .ok (.bipush 80, 2) := by decide +kernel
theorem dX12_init_127 : decode cX12_init 127 = .ok (.newarray .int, 2) := by decide +kernel
theorem dX12_init_129 : decode cX12_init 129 = .ok (.putfield 59, 3) := by decide +kernel
theorem dX12_init_132 : decode cX12_init 132 = .ok (.aload_n 0, 1) := by decide +kernel
theorem dX12_init_133 : decode cX12_init 133 = .ok (.sipush 5000, 3) := by decide +kernel
theorem dX12_init_136 : decode cX12_init 136 = .ok (.newarray .int, 2) := by decide +kernel
theorem dX12_init_138 : decode cX12_init 138 = .ok (.putfield 62, 3) := by decide +kernel
theorem dX12_init_141 : decode cX12_init 141 = .ok (.aload_n 0, 1) := by decide +kernel
theorem dX12_init_142 : decode cX12_init 142 = .ok (.sipush 5000, 3) := by decide +kernel
theorem dX12_init_145 : decode cX12_init 145 = .ok (.newarray .int, 2) := by decide +kernel
theorem dX12_init_147 : decode cX12_init 147 = .ok (.putfield 65, 3) := by decide +kernel
theorem dX12_init_150 : decode cX12_init 150 = .ok (.aload_n 0, 1) := by decide +kernel
theorem dX12_init_151 : decode cX12_init 151 = .ok (.bipush 12, 2) := by decide +kernel
theorem dX12_init_153 : decode cX12_init 153 = .ok (.newarray .long, 2) := by decide +kernel
theorem dX12_init_155 : decode cX12_init 155 = .ok (.putfield 68, 3) := by decide +kernel
theorem dX12_init_158 : decode cX12_init 158 = .ok (.aload_n 0, 1) := by decide +kernel
theorem dX12_init_159 : decode cX12_init 159 = .ok (.getfield 8, 3) := by decide +kernel
theorem dX12_init_162 : decode cX12_init 162 = .ok (.iconst 3, 1) := by decide +kernel
theorem dX12_init_163 : decode cX12_init 163 = .ok (.iconst 3, 1) := by decide +kernel
theorem dX12_init_164 : decode cX12_init 164 = .ok (.iastore, 1) := by decide +kernel
theorem dX12_init_165 : decode cX12_init 165 = .ok (.aload_n 0, 1) := by decide +kernel
theorem dX12_init_166 : decode cX12_init 166 = .ok (.getfield 8, 3) := by decide +kernel
theorem dX12_init_169 : decode cX12_init 169 = .ok (.bipush 7, 2) := by decide +kernel
theorem dX12_init_171 : decode cX12_init 171 = .ok (.iconst 1, 1) := by decide +kernel
theorem dX12_init_172 : decode cX12_init 172 = .ok (.iastore, 1) := by decide +kernel
theorem dX12_init_173 : decode cX12_init 173 = .ok (.iconst 0, 1) := by decide +kernel
theorem dX12_init_174 : decode cX12_init 174 = .ok (.istore_n 1, 1) := by decide +kernel
theorem dX12_init_175 : decode cX12_init 175 = .ok (.iload_n 1, 1) := by decide +kernel
theorem dX12_init_176 : decode cX12_init 176 = .ok (.bipush 8, 2) := by decide +kernel
theorem dX12_init_178 : decode cX12_init 178 = .ok (.if_icmp .ge 40, 3) := by decide +kernel
theorem dX12_init_181 : decode cX12_init 181 = .ok (.iconst 0, 1) := by decide +kernel
theorem dX12_init_182 : decode cX12_init 182 = .ok (.istore_n 2, 1) := by decide +kernel
theorem dX12_init_183 : decode cX12_init 183 = .ok (.iload_n 2, 1) := by decide +kernel
theorem dX12_init_184 : decode cX12_init 184 = .ok (.iconst 4, 1) := by decide +kernel
theorem dX12_init_185 : decode cX12_init 185 = .ok (.if_icmp .ge 27, 3) := by decide +kernel
theorem dX12_init_188 : decode cX12_init 188 = .ok (.aload_n 0, 1) := by decide +kernel
theorem dX12_init_189 : decode cX12_init 189 = .ok (.getfield 8, 3) := by decide +kernel
theorem dX12_init_192 : decode cX12_init 192 = .ok (.bipush 28, 2) := by decide +kernel
theorem dX12_init_194 : decode cX12_init 194 = .ok (.iload_n 1, 1) := by decide +kernel
theorem dX12_init_195 : decode cX12_init 195 = .ok (.iadd, 1) := by decide +kernel
theorem dX12_init_196 : decode cX12_init 196 = .ok (.dup2, 1) := by decide +kernel
theorem dX12_init_197 : decode cX12_init 197 = .ok (.iaload, 1) := by decide +kernel
theorem dX12_init_198 : decode cX12_init 198 = .ok (.iload_n 1, 1) := by decide +kernel
theorem dX12_init_199 : decode cX12_init 199 = .ok (.bipush 6, 2) := by decide +kernel
theorem dX12_init_201 : decode cX12_init 201 = .ok (.iload_n 2, 1) := by decide +kernel
theorem dX12_init_202 : decode cX12_init 202 = .ok (.imul, 1) := by decide +kernel
theorem dX12_init_203 : decode cX12_init 203 = .ok (.ishl, 1) := by decide +kernel
theorem dX12_init_204 : decode cX12_init 204 = .ok (.ior, 1) := by decide +kernel
theorem dX12_init_205 : decode cX12_init 205 = .ok (.iastore, 1) := by decide +kernel
theorem dX12_init_206 : decode cX12_init 206 = .ok (.iinc 2 1, 3) := by decide +kernel
theorem dX12_init_209 : decode cX12_init 209 = .ok (.goto (-26), 3) := by decide +kernel
theorem dX12_init_212 : decode cX12_init 212 = .ok (.iinc 1 1, 3) := by decide +kernel
theorem dX12_init_215 : decode cX12_init 215 = .ok (.goto (-40), 3) := by decide +kernel
theorem dX12_init_218 : decode cX12_init 218 = .ok (.aload_n 0, 1) := by decide +kernel
theorem dX12_init_219 : decode cX12_init 219 = .ok (.iconst 0, 1) := by decide +kernel
theorem dX12_init_220 : decode cX12_init 220 = .ok (.lconst 1, 1) := by decide +kernel
theorem dX12_init_221 : decode cX12_init 221 = .ok (.invokevirtual 71, 3) := by decide +kernel
theorem dX12_init_224 : decode cX12_init 224 = .ok (.aload_n 0, 1) := by decide +kernel
theorem dX12_init_225 : decode cX12_init 225 = .ok (.invokevirtual 75, 3) := by decide +kernel
theorem dX12_init_228 : decode cX12_init 228 = .ok (.aload_n 0, 1) := by decide +kernel
theorem dX12_init_229 : decode cX12_init 229 = .ok (.getfield 8, 3) := by decide +kernel
theorem dX12_init_232 : decode cX12_init 232 = .ok (.aload_n 0, 1) := by decide +kernel
theorem dX12_init_233 : decode cX12_init 233 = .ok (.getfield 14, 3) := by decide +kernel
theorem dX12_init_236 : decode cX12_init 236 = .ok (.invokestatic 78, 3) := by decide +kernel
theorem dX12_init_239 : decode cX12_init 239 = .ok (.aload_n 0, 1) := by decide +kernel
theorem dX12_init_240 : decode cX12_init 240 = .ok (.getfield 17, 3) := by decide +kernel
theorem dX12_init_243 : decode cX12_init 243 = .ok (.aload_n 0, 1) := by decide +kernel
theorem dX12_init_244 : decode cX12_init 244 = .ok (.getfield 21, 3) := by decide +kernel
theorem dX12_init_247 : decode cX12_init 247 = .ok (.invokestatic 82, 3) := by decide +kernel
theorem dX12_init_250 : decode cX12_init 250 = .ok (.return_, 1) := by decide +kernel
theorem dX12_copy_0 : decode cX12_copy 0 = .ok (.iconst 0, 1) := by decide +kernel
theorem dX12_copy_1 : decode cX12_copy 1 = .ok (.istore_n 2, 1) := by decide +kernel
theorem dX12_copy_2 : decode cX12_copy 2 = .ok (.iload_n 2, 1) := by decide +kernel
theorem dX12_copy_3 : decode cX12_copy 3 = .ok (.ldc 7, 2) := by decide +kernel
theorem dX12_copy_5 : decode cX12_copy 5 = .ok (.if_icmp .ge 15, 3) := by decide +kernel
theorem dX12_copy_8 : decode cX12_copy 8 = .ok (.aload_n 1, 1) := by decide +kernel
theorem dX12_copy_9 : decode cX12_copy 9 = .ok (.iload_n 2, 1) := by decide +kernel
theorem dX12_copy_10 : decode cX12_copy 10 = .ok (.aload_n 0, 1) := by decide +kernel
theorem dX12_copy_11 : decode cX12_copy 11 = .ok (.iload_n 2, 1) := by decide +kernel
theorem dX12_copy_12 : decode cX12_copy 12 = .ok (.iaload, 1) := by decide +kernel
theorem dX12_copy_13 : decode cX12_copy 13 = .ok (.iastore, 1) := by decide +kernel
theorem dX12_copy_14 : decode cX12_copy 14 = .ok (.iinc 2 1, 3) := by decide +kernel
theorem dX12_copy_17 : decode cX12_copy 17 = .ok (.goto (-15), 3) := by decide +kernel
theorem dX12_copy_20 : decode cX12_copy 20 = .ok (.return_, 1) := by decide +kernel
theorem dX12_copyFloats_0 : decode cX12_copyFloats 0 = .ok (.iconst 0, 1) := by decide +kernel
theorem dX12_copyFloats_1 : decode cX12_copyFloats 1 = .ok (.istore_n 2, 1) := by decide +kernel
theorem dX12_copyFloats_2 : decode cX12_copyFloats 2 = .ok (.iload_n 2, 1) := by decide +kernel
theorem dX12_copyFloats_3 : decode cX12_copyFloats 3 = .ok (.sipush 147, 3) := by decide +kernel
theorem dX12_copyFloats_6 : decode cX12_copyFloats 6 = .ok (.if_icmp .ge 15, 3) := by decide +kernel
theorem dX12_copyFloats_9 : decode cX12_copyFloats 9 = .ok (.aload_n 1, 1) := by decide +kernel
theorem dX12_copyFloats_10 : decode cX12_copyFloats 10 = .ok (.iload_n 2, 1) := by decide +kernel
theorem dX12_copyFloats_11 : decode cX12_copyFloats 11 = .ok (.aload_n 0, 1) := by decide +kernel
theorem dX12_copyFloats_12 : decode cX12_copyFloats 12 = .ok (.iload_n 2, 1) := by decide +kernel
theorem dX12_copyFloats_13 : decode cX12_copyFloats 13 = .ok (.faload, 1) := by decide +kernel
theorem dX12_copyFloats_14 : decode cX12_copyFloats 14 = .ok (.fastore, 1) := by decide +kernel
theorem dX12_copyFloats_15 : decode cX12_copyFloats 15 = .ok (.iinc 2 1, 3) := by decide +kernel
theorem dX12_copyFloats_18 : decode cX12_copyFloats 18 = .ok (.goto (-16), 3) := by decide +kernel
theorem dX12_copyFloats_21 : decode cX12_copyFloats 21 = .ok (.return_, 1) := by decide +kernel
theorem dX12_isIn_0 : decode cX12_isIn 0 = .ok (.iload_n 0, 1) := by decide +kernel
theorem dX12_isIn_1 : decode cX12_isIn 1 = .ok (.iload_n 1, 1) := by decide +kernel
theorem dX12_isIn_2 : decode cX12_isIn 2 = .ok (.if_icmp .lt 12, 3) := by decide +kernel
theorem dX12_isIn_5 : decode cX12_isIn 5 = .ok (.iload_n 0, 1) := by decide +kernel
theorem dX12_isIn_6 : decode cX12_isIn 6 = .ok (.iload_n 2, 1) := by decide +kernel
theorem dX12_isIn_7 : decode cX12_isIn 7 = .ok (.if_icmp .gt 7, 3) := by decide +kernel
theorem dX12_isIn_10 : decode cX12_isIn 10 = .ok (.iconst 1, 1) := by decide +kernel
theorem dX12_isIn_11 : decode cX12_isIn 11 = .ok (.goto 4, 3) := by decide +kernel
theorem dX12_isIn_14 : decode cX12_isIn 14 = .ok (.iconst 0, 1) := by decide +kernel
theorem dX12_isIn_15 : decode cX12_isIn 15 = .ok (.ireturn, 1) := by decide +kernel
theorem dX12_has_0 : decode cX12_has 0 = .ok (.lload_n 0, 1) := by decide +kernel
theorem dX12_has_1 : decode cX12_has 1 = .ok (.iload_n 2, 1) := by decide +kernel
theorem dX12_has_2 : decode cX12_has 2 = .ok (.lshr, 1) := by decide +kernel
theorem dX12_has_3 : decode cX12_has 3 = .ok (.lconst 1, 1) := by decide +kernel
theorem dX12_has_4 : decode cX12_has 4 = .ok (.land, 1) := by decide +kernel
theorem dX12_has_5 : decode cX12_has 5 = .ok (.lconst 1, 1) := by decide +kernel
theorem dX12_has_6 : decode cX12_has 6 = .ok (.lcmp, 1) := by decide +kernel
theorem dX12_has_7 : decode cX12_has 7 = .ok (.ifCond .ne 7, 3) := by decide +kernel
theorem dX12_has_10 : decode cX12_has 10 = .ok (.iconst 1, 1) := by decide +kernel
theorem dX12_has_11 : decode cX12_has 11 = .ok (.goto 4, 3) := by decide +kernel
theorem dX12_has_14 : decode cX12_has 14 = .ok (.iconst 0, 1) := by decide +kernel
theorem dX12_has_15 : decode cX12_has 15 = .ok (.ireturn, 1) := by decide +kernel
theorem dX12_many_0 : decode cX12_many 0 = .ok (.iconst 0, 1) := by decide +kernel
theorem dX12_many_1 : decode cX12_many 1 = .ok (.istore_n 2, 1) := by decide +kernel
theorem dX12_many_2 : decode cX12_many 2 = .ok (.lload_n 0, 1) := by decide +kernel
theorem dX12_many_3 : decode cX12_many 3 = .ok (.lstore_n 3, 1) := by decide +kernel
theorem dX12_many_4 : decode cX12_many 4 = .ok (.lload_n 3, 1) := by decide +kernel
theorem dX12_many_5 : decode cX12_many 5 = .ok (.lconst 0, 1) := by decide +kernel
theorem dX12_many_6 : decode cX12_many 6 = .ok (.lcmp, 1) := by decide +kernel
theorem dX12_many_7 : decode cX12_many 7 = .ok (.ifCond .eq 15, 3) := by decide +kernel
theorem dX12_many_10 : decode cX12_many 10 = .ok (.iinc 2 1, 3) := by decide +kernel
theorem dX12_many_13 : decode cX12_many 13 = .ok (.lload_n 3, 1) := by decide +kernel
theorem dX12_many_14 : decode cX12_many 14 = .ok (.lload_n 3, 1) := by decide +kernel
theorem dX12_many_15 : decode cX12_many 15 = .ok (.lconst 1, 1) := by decide +kernel
theorem dX12_many_16 : decode cX12_many 16 = .ok (.lsub, 1) := by decide +kernel
theorem dX12_many_17 : decode cX12_many 17 = .ok (.land, 1) := by decide +kernel
theorem dX12_many_18 : decode cX12_many 18 = .ok (.lstore_n 3, 1) := by decide +kernel
theorem dX12_many_19 : decode cX12_many 19 = .ok (.goto (-15), 3) := by decide +kernel
theorem dX12_many_22 : decode cX12_many 22 = .ok (.iload_n 2, 1) := by decide +kernel
theorem dX12_many_23 : decode cX12_many 23 = .ok (.ireturn, 1) := by decide +kernel
theorem dX12_lowest_0 : decode cX12_lowest 0 = .ok (.iconst 0, 1) := by decide +kernel
theorem dX12_lowest_1 : decode cX12_lowest 1 = .ok (.istore_n 2, 1) := by decide +kernel
theorem dX12_lowest_2 : decode cX12_lowest 2 = .ok (.iload_n 2, 1) := by decide +kernel
theorem dX12_lowest_3 : decode cX12_lowest 3 = .ok (.bipush 64, 2) := by decide +kernel
theorem dX12_lowest_5 : decode cX12_lowest 5 = .ok (.if_icmp .ge 19, 3) := by decide +kernel
theorem dX12_lowest_8 : decode cX12_lowest 8 = .ok (.lload_n 0, 1) := by decide +kernel
theorem dX12_lowest_9 : decode cX12_lowest 9 = .ok (.iload_n 2, 1) := by decide +kernel
theorem dX12_lowest_10 : decode cX12_lowest 10 = .ok (.invokestatic 86, 3) := by decide +kernel
theorem dX12_lowest_13 : decode cX12_lowest 13 = .ok (.ifCond .eq 5, 3) := by decide +kernel
theorem dX12_lowest_16 : decode cX12_lowest 16 = .ok (.iload_n 2, 1) := by decide +kernel
theorem dX12_lowest_17 : decode cX12_lowest 17 = .ok (.ireturn, 1) := by decide +kernel
theorem dX12_lowest_18 : decode cX12_lowest 18 = .ok (.iinc 2 1, 3) := by decide +kernel
theorem dX12_lowest_21 : decode cX12_lowest 21 = .ok (.goto (-19), 3) := by decide +kernel
theorem dX12_lowest_24 : decode cX12_lowest 24 = .ok (.iconst (-1), 1) := by decide +kernel
theorem dX12_lowest_25 : decode cX12_lowest 25 = .ok (.ireturn, 1) := by decide +kernel
theorem dX12_putSet_0 : decode cX12_putSet 0 = .ok (.aload_n 0, 1) := by decide +kernel
theorem dX12_putSet_1 : decode cX12_putSet 1 = .ok (.getfield 8, 3) := by decide +kernel
theorem dX12_putSet_4 : decode cX12_putSet 4 = .ok (.bipush 18, 2) := by decide +kernel
theorem dX12_putSet_6 : decode cX12_putSet 6 = .ok (.iconst 2, 1) := by decide +kernel
theorem dX12_putSet_7 : decode cX12_putSet 7 = .ok (.iload_n 1, 1) := by decide +kernel
theorem dX12_putSet_8 : decode cX12_putSet 8 = .ok (.imul, 1) := by decide +kernel
theorem dX12_putSet_9 : decode cX12_putSet 9 = .ok (.iadd, 1) := by decide +kernel
theorem dX12_putSet_10 : decode cX12_putSet 10 = .ok (.lload_n 2, 1) := by decide +kernel
theorem dX12_putSet_11 : decode cX12_putSet 11 = .ok (.l2i, 1) := by decide +kernel
theorem dX12_putSet_12 : decode cX12_putSet 12 = .ok (.iastore, 1) := by decide +kernel
theorem dX12_putSet_13 : decode cX12_putSet 13 = .ok (.aload_n 0, 1) := by decide +kernel
theorem dX12_putSet_14 : decode cX12_putSet 14 = .ok (.getfield 8, 3) := by decide +kernel
theorem dX12_putSet_17 : decode cX12_putSet 17 = .ok (.bipush 18, 2) := by decide +kernel
theorem dX12_putSet_19 : decode cX12_putSet 19 = .ok (.iconst 2, 1) := by decide +kernel
theorem dX12_putSet_20 : decode cX12_putSet 20 = .ok (.iload_n 1, 1) := by decide +kernel
theorem dX12_putSet_21 : decode cX12_putSet 21 = .ok (.imul, 1) := by decide +kernel
theorem dX12_putSet_22 : decode cX12_putSet 22 = .ok (.iadd, 1) := by decide +kernel
theorem dX12_putSet_23 : decode cX12_putSet 23 = .ok (.iconst 1, 1) := by decide +kernel
theorem dX12_putSet_24 : decode cX12_putSet 24 = .ok (.iadd, 1) := by decide +kernel
theorem dX12_putSet_25 : decode cX12_putSet 25 = .ok (.lload_n 2, 1) := by decide +kernel
theorem dX12_putSet_26 : decode cX12_putSet 26 = .ok (.bipush 32, 2) := by decide +kernel
theorem dX12_putSet_28 : decode cX12_putSet 28 = .ok (.lshr, 1) := by decide +kernel
theorem dX12_putSet_29 : decode cX12_putSet 29 = .ok (.l2i, 1) := by decide +kernel
theorem dX12_putSet_30 : decode cX12_putSet 30 = .ok (.iastore, 1) := by decide +kernel
theorem dX12_putSet_31 : decode cX12_putSet 31 = .ok (.return_, 1) := by decide +kernel
theorem dX12_setOf_0 : decode cX12_setOf 0 = .ok (.aload_n 0, 1) := by decide +kernel
theorem dX12_setOf_1 : decode cX12_setOf 1 = .ok (.getfield 8, 3) := by decide +kernel
theorem dX12_setOf_4 : decode cX12_setOf 4 = .ok (.bipush 18, 2) := by decide +kernel
theorem dX12_setOf_6 : decode cX12_setOf 6 = .ok (.iconst 2, 1) := by decide +kernel
theorem dX12_setOf_7 : decode cX12_setOf 7 = .ok (.iload_n 1, 1) := by decide +kernel
theorem dX12_setOf_8 : decode cX12_setOf 8 = .ok (.imul, 1) := by decide +kernel
theorem dX12_setOf_9 : decode cX12_setOf 9 = .ok (.iadd, 1) := by decide +kernel
theorem dX12_setOf_10 : decode cX12_setOf 10 = .ok (.iconst 1, 1) := by decide +kernel
theorem dX12_setOf_11 : decode cX12_setOf 11 = .ok (.iadd, 1) := by decide +kernel
theorem dX12_setOf_12 : decode cX12_setOf 12 = .ok (.iaload, 1) := by decide +kernel
theorem dX12_setOf_13 : decode cX12_setOf 13 = .ok (.i2l, 1) := by decide +kernel
theorem dX12_setOf_14 : decode cX12_setOf 14 = .ok (.bipush 32, 2) := by decide +kernel
theorem dX12_setOf_16 : decode cX12_setOf 16 = .ok (.lshl, 1) := by decide +kernel
theorem dX12_setOf_17 : decode cX12_setOf 17 = .ok (.aload_n 0, 1) := by decide +kernel
theorem dX12_setOf_18 : decode cX12_setOf 18 = .ok (.getfield 8, 3) := by decide +kernel
theorem dX12_setOf_21 : decode cX12_setOf 21 = .ok (.bipush 18, 2) := by decide +kernel
theorem dX12_setOf_23 : decode cX12_setOf 23 = .ok (.iconst 2, 1) := by decide +kernel
theorem dX12_setOf_24 : decode cX12_setOf 24 = .ok (.iload_n 1, 1) := by decide +kernel
theorem dX12_setOf_25 : decode cX12_setOf 25 = .ok (.imul, 1) := by decide +kernel
theorem dX12_setOf_26 : decode cX12_setOf 26 = .ok (.iadd, 1) := by decide +kernel
theorem dX12_setOf_27 : decode cX12_setOf 27 = .ok (.iaload, 1) := by decide +kernel
theorem dX12_setOf_28 : decode cX12_setOf 28 = .ok (.i2l, 1) := by decide +kernel
theorem dX12_setOf_29 : decode cX12_setOf 29 = .ok (.ldc2_w 90, 3) := by decide +kernel
theorem dX12_setOf_32 : decode cX12_setOf 32 = .ok (.land, 1) := by decide +kernel
theorem dX12_setOf_33 : decode cX12_setOf 33 = .ok (.lor, 1) := by decide +kernel
theorem dX12_setOf_34 : decode cX12_setOf 34 = .ok (.lreturn, 1) := by decide +kernel
theorem dX12_states_0 : decode cX12_states 0 = .ok (.iconst 1, 1) := by decide +kernel
theorem dX12_states_1 : decode cX12_states 1 = .ok (.aload_n 0, 1) := by decide +kernel
theorem dX12_states_2 : decode cX12_states 2 = .ok (.getfield 8, 3) := by decide +kernel
theorem dX12_states_5 : decode cX12_states 5 = .ok (.iconst 3, 1) := by decide +kernel
theorem dX12_states_6 : decode cX12_states 6 = .ok (.iaload, 1) := by decide +kernel
theorem dX12_states_7 : decode cX12_states 7 = .ok (.ishl, 1) := by decide +kernel
theorem dX12_states_8 : decode cX12_states 8 = .ok (.ireturn, 1) := by decide +kernel
theorem dX12_allOf_0 : decode cX12_allOf 0 = .ok (.iload_n 0, 1) := by decide +kernel
theorem dX12_allOf_1 : decode cX12_allOf 1 = .ok (.bipush 6, 2) := by decide +kernel
theorem dX12_allOf_3 : decode cX12_allOf 3 = .ok (.if_icmp .ne 9, 3) := by decide +kernel
theorem dX12_allOf_6 : decode cX12_allOf 6 = .ok (.ldc2_w 92, 3) := by decide +kernel
theorem dX12_allOf_9 : decode cX12_allOf 9 = .ok (.goto 10, 3) := by decide +kernel
theorem dX12_allOf_12 : decode cX12_allOf 12 = .ok (.lconst 1, 1) := by decide +kernel
theorem dX12_allOf_13 : decode cX12_allOf 13 = .ok (.iconst 1, 1) := by decide +kernel
theorem dX12_allOf_14 : decode cX12_allOf 14 = .ok (.iload_n 0, 1) := by decide +kernel
theorem dX12_allOf_15 : decode cX12_allOf 15 = .ok (.ishl, 1) := by decide +kernel
theorem dX12_allOf_16 : decode cX12_allOf 16 = .ok (.lshl, 1) := by decide +kernel
theorem dX12_allOf_17 : decode cX12_allOf 17 = .ok (.lconst 1, 1) := by decide +kernel
theorem dX12_allOf_18 : decode cX12_allOf 18 = .ok (.lsub, 1) := by decide +kernel
theorem dX12_allOf_19 : decode cX12_allOf 19 = .ok (.lreturn, 1) := by decide +kernel
theorem dX12_all_0 : decode cX12_all 0 = .ok (.aload_n 0, 1) := by decide +kernel
theorem dX12_all_1 : decode cX12_all 1 = .ok (.getfield 8, 3) := by decide +kernel
theorem dX12_all_4 : decode cX12_all 4 = .ok (.iconst 3, 1) := by decide +kernel
theorem dX12_all_5 : decode cX12_all 5 = .ok (.iaload, 1) := by decide +kernel
theorem dX12_all_6 : decode cX12_all 6 = .ok (.invokestatic 94, 3) := by decide +kernel
theorem dX12_all_9 : decode cX12_all 9 = .ok (.lreturn, 1) := by decide +kernel
theorem dX12_starts_0 : decode cX12_starts 0 = .ok (.aload_n 0, 1) := by decide +kernel
theorem dX12_starts_1 : decode cX12_starts 1 = .ok (.iconst 0, 1) := by decide +kernel
theorem dX12_starts_2 : decode cX12_starts 2 = .ok (.invokevirtual 98, 3) := by decide +kernel
theorem dX12_starts_5 : decode cX12_starts 5 = .ok (.lreturn, 1) := by decide +kernel
theorem dX12_aims_0 : decode cX12_aims 0 = .ok (.aload_n 0, 1) := by decide +kernel
theorem dX12_aims_1 : decode cX12_aims 1 = .ok (.iconst 1, 1) := by decide +kernel
theorem dX12_aims_2 : decode cX12_aims 2 = .ok (.aload_n 0, 1) := by decide +kernel
theorem dX12_aims_3 : decode cX12_aims 3 = .ok (.getfield 8, 3) := by decide +kernel
theorem dX12_aims_6 : decode cX12_aims 6 = .ok (.bipush 8, 2) := by decide +kernel
theorem dX12_aims_8 : decode cX12_aims 8 = .ok (.iaload, 1) := by decide +kernel
theorem dX12_aims_9 : decode cX12_aims 9 = .ok (.iadd, 1) := by decide +kernel
theorem dX12_aims_10 : decode cX12_aims 10 = .ok (.invokevirtual 98, 3) := by decide +kernel
theorem dX12_aims_13 : decode cX12_aims 13 = .ok (.lreturn, 1) := by decide +kernel
theorem dX12_isState_0 : decode cX12_isState 0 = .ok (.iload_n 1, 1) := by decide +kernel
theorem dX12_isState_1 : decode cX12_isState 1 = .ok (.iconst 0, 1) := by decide +kernel
theorem dX12_isState_2 : decode cX12_isState 2 = .ok (.aload_n 0, 1) := by decide +kernel
theorem dX12_isState_3 : decode cX12_isState 3 = .ok (.invokevirtual 101, 3) := by decide +kernel
theorem dX12_isState_6 : decode cX12_isState 6 = .ok (.iconst 1, 1) := by decide +kernel
theorem dX12_isState_7 : decode cX12_isState 7 = .ok (.isub, 1) := by decide +kernel
theorem dX12_isState_8 : decode cX12_isState 8 = .ok (.invokestatic 105, 3) := by decide +kernel
theorem dX12_isState_11 : decode cX12_isState 11 = .ok (.ireturn, 1) := by decide +kernel
theorem dX12_isMask_0 : decode cX12_isMask 0 = .ok (.iload_n 1, 1) := by decide +kernel
theorem dX12_isMask_1 : decode cX12_isMask 1 = .ok (.iconst 0, 1) := by decide +kernel
theorem dX12_isMask_2 : decode cX12_isMask 2 = .ok (.aload_n 0, 1) := by decide +kernel
theorem dX12_isMask_3 : decode cX12_isMask 3 = .ok (.invokevirtual 101, 3) := by decide +kernel
theorem dX12_isMask_6 : decode cX12_isMask 6 = .ok (.iconst 1, 1) := by decide +kernel
theorem dX12_isMask_7 : decode cX12_isMask 7 = .ok (.isub, 1) := by decide +kernel
theorem dX12_isMask_8 : decode cX12_isMask 8 = .ok (.invokestatic 105, 3) := by decide +kernel
theorem dX12_isMask_11 : decode cX12_isMask 11 = .ok (.ifCond .eq 19, 3) := by decide +kernel
theorem dX12_isMask_14 : decode cX12_isMask 14 = .ok (.iload_n 2, 1) := by decide +kernel
theorem dX12_isMask_15 : decode cX12_isMask 15 = .ok (.ifCond .lt 15, 3) := by decide +kernel
theorem dX12_isMask_18 : decode cX12_isMask 18 = .ok (.iload_n 2, 1) := by decide +kernel
theorem dX12_isMask_19 : decode cX12_isMask 19 = .ok (.iload_n 1, 1) := by decide +kernel
theorem dX12_isMask_20 : decode cX12_isMask 20 = .ok (.iconst (-1), 1) := by decide +kernel
theorem dX12_isMask_21 : decode cX12_isMask 21 = .ok (.ixor, 1) := by decide +kernel
theorem dX12_isMask_22 : decode cX12_isMask 22 = .ok (.iand, 1) := by decide +kernel
theorem dX12_isMask_23 : decode cX12_isMask 23 = .ok (.ifCond .ne 7, 3) := by decide +kernel
theorem dX12_isMask_26 : decode cX12_isMask 26 = .ok (.iconst 1, 1) := by decide +kernel
theorem dX12_isMask_27 : decode cX12_isMask 27 = .ok (.goto 4, 3) := by decide +kernel
theorem dX12_isMask_30 : decode cX12_isMask 30 = .ok (.iconst 0, 1) := by decide +kernel
theorem dX12_isMask_31 : decode cX12_isMask 31 = .ok (.ireturn, 1) := by decide +kernel
theorem dX12_succOf_0 : decode cX12_succOf 0 = .ok (.aload_n 0, 1) := by decide +kernel
theorem dX12_succOf_1 : decode cX12_succOf 1 = .ok (.getfield 8, 3) := by decide +kernel
theorem dX12_succOf_4 : decode cX12_succOf 4 = .ok (.bipush 28, 2) := by decide +kernel
theorem dX12_succOf_6 : decode cX12_succOf 6 = .ok (.iload_n 1, 1) := by decide +kernel
theorem dX12_succOf_7 : decode cX12_succOf 7 = .ok (.iadd, 1) := by decide +kernel
theorem dX12_succOf_8 : decode cX12_succOf 8 = .ok (.iaload, 1) := by decide +kernel
theorem dX12_succOf_9 : decode cX12_succOf 9 = .ok (.bipush 6, 2) := by decide +kernel
theorem dX12_succOf_11 : decode cX12_succOf 11 = .ok (.iload_n 2, 1) := by decide +kernel
theorem dX12_succOf_12 : decode cX12_succOf 12 = .ok (.imul, 1) := by decide +kernel
theorem dX12_succOf_13 : decode cX12_succOf 13 = .ok (.ishr, 1) := by decide +kernel
theorem dX12_succOf_14 : decode cX12_succOf 14 = .ok (.bipush 63, 2) := by decide +kernel
theorem dX12_succOf_16 : decode cX12_succOf 16 = .ok (.iand, 1) := by decide +kernel
theorem dX12_succOf_17 : decode cX12_succOf 17 = .ok (.ireturn, 1) := by decide +kernel
theorem dX12_afterBy_0 : decode cX12_afterBy 0 = .ok (.lconst 0, 1) := by decide +kernel
theorem dX12_afterBy_1 : decode cX12_afterBy 1 = .ok (.lstore_n 3, 1) := by decide +kernel
theorem dX12_afterBy_2 : decode cX12_afterBy 2 = .ok (.iconst 0, 1) := by decide +kernel
theorem dX12_afterBy_3 : decode cX12_afterBy 3 = .ok (.istore 5, 2) := by decide +kernel
theorem dX12_afterBy_5 : decode cX12_afterBy 5 = .ok (.iload 5, 2) := by decide +kernel
theorem dX12_afterBy_7 : decode cX12_afterBy 7 = .ok (.iconst 4, 1) := by decide +kernel
theorem dX12_afterBy_8 : decode cX12_afterBy 8 = .ok (.if_icmp .ge 31, 3) := by decide +kernel
theorem dX12_afterBy_11 : decode cX12_afterBy 11 = .ok (.iload_n 2, 1) := by decide +kernel
theorem dX12_afterBy_12 : decode cX12_afterBy 12 = .ok (.iload 5, 2) := by decide +kernel
theorem dX12_afterBy_14 : decode cX12_afterBy 14 = .ok (.ishr, 1) := by decide +kernel
theorem dX12_afterBy_15 : decode cX12_afterBy 15 = .ok (.iconst 1, 1) := by decide +kernel
theorem dX12_afterBy_16 : decode cX12_afterBy 16 = .ok (.iand, 1) := by decide +kernel
theorem dX12_afterBy_17 : decode cX12_afterBy 17 = .ok (.iconst 1, 1) := by decide +kernel
theorem dX12_afterBy_18 : decode cX12_afterBy 18 = .ok (.if_icmp .ne 15, 3) := by decide +kernel
theorem dX12_afterBy_21 : decode cX12_afterBy 21 = .ok (.lload_n 3, 1) := by decide +kernel
theorem dX12_afterBy_22 : decode cX12_afterBy 22 = .ok (.lconst 1, 1) := by decide +kernel
theorem dX12_afterBy_23 : decode cX12_afterBy 23 = .ok (.aload_n 0, 1) := by decide +kernel
theorem dX12_afterBy_24 : decode cX12_afterBy 24 = .ok (.iload_n 1, 1) := by decide +kernel
theorem dX12_afterBy_25 : decode cX12_afterBy 25 = .ok (.iload 5, 2) := by decide +kernel
theorem dX12_afterBy_27 : decode cX12_afterBy 27 = .ok (.invokevirtual 109, 3) := by decide +kernel
theorem dX12_afterBy_30 : decode cX12_afterBy 30 = .ok (.lshl, 1) := by decide +kernel
theorem dX12_afterBy_31 : decode cX12_afterBy 31 = .ok (.lor, 1) := by decide +kernel
theorem dX12_afterBy_32 : decode cX12_afterBy 32 = .ok (.lstore_n 3, 1) := by decide +kernel
theorem dX12_afterBy_33 : decode cX12_afterBy 33 = .ok (.iinc 5 1, 3) := by decide +kernel
theorem dX12_afterBy_36 : decode cX12_afterBy 36 = .ok (.goto (-31), 3) := by decide +kernel
theorem dX12_afterBy_39 : decode cX12_afterBy 39 = .ok (.lload_n 3, 1) := by decide +kernel
theorem dX12_afterBy_40 : decode cX12_afterBy 40 = .ok (.lreturn, 1) := by decide +kernel
theorem dX12_after_0 : decode cX12_after 0 = .ok (.aload_n 0, 1) := by decide +kernel
theorem dX12_after_1 : decode cX12_after 1 = .ok (.iload_n 1, 1) := by decide +kernel
theorem dX12_after_2 : decode cX12_after 2 = .ok (.bipush 15, 2) := by decide +kernel
theorem dX12_after_4 : decode cX12_after 4 = .ok (.invokevirtual 113, 3) := by decide +kernel
theorem dX12_after_7 : decode cX12_after 7 = .ok (.lreturn, 1) := by decide +kernel
theorem dX12_letterSet_0 : decode cX12_letterSet 0 = .ok (.lconst 0, 1) := by decide +kernel
theorem dX12_letterSet_1 : decode cX12_letterSet 1 = .ok (.lstore_n 1, 1) := by decide +kernel
theorem dX12_letterSet_2 : decode cX12_letterSet 2 = .ok (.iconst 0, 1) := by decide +kernel
theorem dX12_letterSet_3 : decode cX12_letterSet 3 = .ok (.istore_n 3, 1) := by decide +kernel
theorem dX12_letterSet_4 : decode cX12_letterSet 4 = .ok (.iload_n 3, 1) := by decide +kernel
theorem dX12_letterSet_5 : decode cX12_letterSet 5 = .ok (.bipush 64, 2) := by decide +kernel
theorem dX12_letterSet_7 : decode cX12_letterSet 7 = .ok (.if_icmp .ge 24, 3) := by decide +kernel
theorem dX12_letterSet_10 : decode cX12_letterSet 10 = .ok (.iload_n 3, 1) := by decide +kernel
theorem dX12_letterSet_11 : decode cX12_letterSet 11 = .ok (.iload_n 0, 1) := by decide +kernel
theorem dX12_letterSet_12 : decode cX12_letterSet 12 = .ok (.ishr, 1) := by decide +kernel
theorem dX12_letterSet_13 : decode cX12_letterSet 13 = .ok (.iconst 1, 1) := by decide +kernel
theorem dX12_letterSet_14 : decode cX12_letterSet 14 = .ok (.iand, 1) := by decide +kernel
theorem dX12_letterSet_15 : decode cX12_letterSet 15 = .ok (.iconst 1, 1) := by decide +kernel
theorem dX12_letterSet_16 : decode cX12_letterSet 16 = .ok (.if_icmp .ne 9, 3) := by decide +kernel
theorem dX12_letterSet_19 : decode cX12_letterSet 19 = .ok (.lload_n 1, 1) := by decide +kernel
theorem dX12_letterSet_20 : decode cX12_letterSet 20 = .ok (.lconst 1, 1) := by decide +kernel
theorem dX12_letterSet_21 : decode cX12_letterSet 21 = .ok (.iload_n 3, 1) := by decide +kernel
theorem dX12_letterSet_22 : decode cX12_letterSet 22 = .ok (.lshl, 1) := by decide +kernel
theorem dX12_letterSet_23 : decode cX12_letterSet 23 = .ok (.lor, 1) := by decide +kernel
theorem dX12_letterSet_24 : decode cX12_letterSet 24 = .ok (.lstore_n 1, 1) := by decide +kernel
theorem dX12_letterSet_25 : decode cX12_letterSet 25 = .ok (.iinc 3 1, 3) := by decide +kernel
theorem dX12_letterSet_28 : decode cX12_letterSet 28 = .ok (.goto (-24), 3) := by decide +kernel
theorem dX12_letterSet_31 : decode cX12_letterSet 31 = .ok (.lload_n 1, 1) := by decide +kernel
theorem dX12_letterSet_32 : decode cX12_letterSet 32 = .ok (.lreturn, 1) := by decide +kernel
theorem dX12_cubeSet_0 : decode cX12_cubeSet 0 = .ok (.aload_n 0, 1) := by decide +kernel
theorem dX12_cubeSet_1 : decode cX12_cubeSet 1 = .ok (.invokevirtual 117, 3) := by decide +kernel
theorem dX12_cubeSet_4 : decode cX12_cubeSet 4 = .ok (.lstore_n 3, 1) := by decide +kernel
theorem dX12_cubeSet_5 : decode cX12_cubeSet 5 = .ok (.iconst 0, 1) := by decide +kernel
theorem dX12_cubeSet_6 : decode cX12_cubeSet 6 = .ok (.istore 5, 2) := by decide +kernel
theorem dX12_cubeSet_8 : decode cX12_cubeSet 8 = .ok (.iload 5, 2) := by decide +kernel
theorem dX12_cubeSet_10 : decode cX12_cubeSet 10 = .ok (.aload_n 0, 1) := by decide +kernel
theorem dX12_cubeSet_11 : decode cX12_cubeSet 11 = .ok (.getfield 8, 3) := by decide +kernel
theorem dX12_cubeSet_14 : decode cX12_cubeSet 14 = .ok (.iconst 3, 1) := by decide +kernel
theorem dX12_cubeSet_15 : decode cX12_cubeSet 15 = .ok (.iaload, 1) := by decide +kernel
theorem dX12_cubeSet_16 : decode cX12_cubeSet 16 = .ok (.if_icmp .ge 49, 3) := by decide +kernel
theorem dX12_cubeSet_19 : decode cX12_cubeSet 19 = .ok (.iload_n 1, 1) := by decide +kernel
theorem dX12_cubeSet_20 : decode cX12_cubeSet 20 = .ok (.iload 5, 2) := by decide +kernel
theorem dX12_cubeSet_22 : decode cX12_cubeSet 22 = .ok (.ishr, 1) := by decide +kernel
theorem dX12_cubeSet_23 : decode cX12_cubeSet 23 = .ok (.iconst 1, 1) := by decide +kernel
theorem dX12_cubeSet_24 : decode cX12_cubeSet 24 = .ok (.iand, 1) := by decide +kernel
theorem dX12_cubeSet_25 : decode cX12_cubeSet 25 = .ok (.iconst 1, 1) := by decide +kernel
theorem dX12_cubeSet_26 : decode cX12_cubeSet 26 = .ok (.if_icmp .ne 33, 3) := by decide +kernel
theorem dX12_cubeSet_29 : decode cX12_cubeSet 29 = .ok (.lload_n 3, 1) := by decide +kernel
theorem dX12_cubeSet_30 : decode cX12_cubeSet 30 = .ok (.iload_n 2, 1) := by decide +kernel
theorem dX12_cubeSet_31 : decode cX12_cubeSet 31 = .ok (.iload 5, 2) := by decide +kernel
theorem dX12_cubeSet_33 : decode cX12_cubeSet 33 = .ok (.ishr, 1) := by decide +kernel
theorem dX12_cubeSet_34 : decode cX12_cubeSet 34 = .ok (.iconst 1, 1) := by decide +kernel
theorem dX12_cubeSet_35 : decode cX12_cubeSet 35 = .ok (.iand, 1) := by decide +kernel
theorem dX12_cubeSet_36 : decode cX12_cubeSet 36 = .ok (.iconst 1, 1) := by decide +kernel
theorem dX12_cubeSet_37 : decode cX12_cubeSet 37 = .ok (.if_icmp .ne 11, 3) := by decide +kernel
theorem dX12_cubeSet_40 : decode cX12_cubeSet 40 = .ok (.iload 5, 2) := by decide +kernel
theorem dX12_cubeSet_42 : decode cX12_cubeSet 42 = .ok (.invokestatic 121, 3) := by decide +kernel
theorem dX12_cubeSet_45 : decode cX12_cubeSet 45 = .ok (.goto 12, 3) := by decide +kernel
theorem dX12_cubeSet_48 : decode cX12_cubeSet 48 = .ok (.iload 5, 2) := by decide +kernel
theorem dX12_cubeSet_50 : decode cX12_cubeSet 50 = .ok (.invokestatic 121, 3) := by decide +kernel
theorem dX12_cubeSet_53 : decode cX12_cubeSet 53 = .ok (.ldc2_w 92, 3) := by decide +kernel
theorem dX12_cubeSet_56 : decode cX12_cubeSet 56 = .ok (.lxor, 1) := by decide +kernel
theorem dX12_cubeSet_57 : decode cX12_cubeSet 57 = .ok (.land, 1) := by decide +kernel
theorem dX12_cubeSet_58 : decode cX12_cubeSet 58 = .ok (.lstore_n 3, 1) := by decide +kernel
theorem dX12_cubeSet_59 : decode cX12_cubeSet 59 = .ok (.iinc 5 1, 3) := by decide +kernel
theorem dX12_cubeSet_62 : decode cX12_cubeSet 62 = .ok (.goto (-54), 3) := by decide +kernel
theorem dX12_cubeSet_65 : decode cX12_cubeSet 65 = .ok (.lload_n 3, 1) := by decide +kernel
theorem dX12_cubeSet_66 : decode cX12_cubeSet 66 = .ok (.lreturn, 1) := by decide +kernel
theorem dX12_four_0 : decode cX12_four 0 = .ok (.bipush 24, 2) := by decide +kernel
theorem dX12_four_2 : decode cX12_four 2 = .ok (.istore_n 2, 1) := by decide +kernel
theorem dX12_four_3 : decode cX12_four 3 = .ok (.iload_n 2, 1) := by decide +kernel
theorem dX12_four_4 : decode cX12_four 4 = .ok (.ifCond .lt 35, 3) := by decide +kernel
theorem dX12_four_7 : decode cX12_four 7 = .ok (.aload_n 0, 1) := by decide +kernel
theorem dX12_four_8 : decode cX12_four 8 = .ok (.getfield 31, 3) := by decide +kernel
theorem dX12_four_11 : decode cX12_four 11 = .ok (.aload_n 0, 1) := by decide +kernel
theorem dX12_four_12 : decode cX12_four 12 = .ok (.getfield 124, 3) := by decide +kernel
theorem dX12_four_15 : decode cX12_four 15 = .ok (.iload_n 1, 1) := by decide +kernel
theorem dX12_four_16 : decode cX12_four 16 = .ok (.iload_n 2, 1) := by decide +kernel
theorem dX12_four_17 : decode cX12_four 17 = .ok (.ishr, 1) := by decide +kernel
theorem dX12_four_18 : decode cX12_four 18 = .ok (.sipush 255, 3) := by decide +kernel
theorem dX12_four_21 : decode cX12_four 21 = .ok (.iand, 1) := by decide +kernel
theorem dX12_four_22 : decode cX12_four 22 = .ok (.iastore, 1) := by decide +kernel
theorem dX12_four_23 : decode cX12_four 23 = .ok (.aload_n 0, 1) := by decide +kernel
theorem dX12_four_24 : decode cX12_four 24 = .ok (.dup, 1) := by decide +kernel
theorem dX12_four_25 : decode cX12_four 25 = .ok (.getfield 124, 3) := by decide +kernel
theorem dX12_four_28 : decode cX12_four 28 = .ok (.iconst 1, 1) := by decide +kernel
theorem dX12_four_29 : decode cX12_four 29 = .ok (.iadd, 1) := by decide +kernel
theorem dX12_four_30 : decode cX12_four 30 = .ok (.putfield 124, 3) := by decide +kernel
theorem dX12_four_33 : decode cX12_four 33 = .ok (.iinc 2 (-8), 3) := by decide +kernel
theorem dX12_four_36 : decode cX12_four 36 = .ok (.goto (-33), 3) := by decide +kernel
theorem dX12_four_39 : decode cX12_four 39 = .ok (.return_, 1) := by decide +kernel
theorem dX12_feed_0 : decode cX12_feed 0 = .ok (.aload_n 0, 1) := by decide +kernel
theorem dX12_feed_1 : decode cX12_feed 1 = .ok (.getfield 124, 3) := by decide +kernel
theorem dX12_feed_4 : decode cX12_feed 4 = .ok (.bipush 20, 2) := by decide +kernel
theorem dX12_feed_6 : decode cX12_feed 6 = .ok (.iadd, 1) := by decide +kernel
theorem dX12_feed_7 : decode cX12_feed 7 = .ok (.sipush 300, 3) := by decide +kernel
theorem dX12_feed_10 : decode cX12_feed 10 = .ok (.if_icmp .le 5, 3) := by decide +kernel
theorem dX12_feed_13 : decode cX12_feed 13 = .ok (.iconst (-1), 1) := by decide +kernel
theorem dX12_feed_14 : decode cX12_feed 14 = .ok (.ireturn, 1) := by decide +kernel
theorem dX12_feed_15 : decode cX12_feed 15 = .ok (.aload_n 0, 1) := by decide +kernel
theorem dX12_feed_16 : decode cX12_feed 16 = .ok (.iload_n 1, 1) := by decide +kernel
theorem dX12_feed_17 : decode cX12_feed 17 = .ok (.invokevirtual 127, 3) := by decide +kernel
theorem dX12_feed_20 : decode cX12_feed 20 = .ok (.aload_n 0, 1) := by decide +kernel
theorem dX12_feed_21 : decode cX12_feed 21 = .ok (.iload_n 2, 1) := by decide +kernel
theorem dX12_feed_22 : decode cX12_feed 22 = .ok (.invokevirtual 127, 3) := by decide +kernel
theorem dX12_feed_25 : decode cX12_feed 25 = .ok (.aload_n 0, 1) := by decide +kernel
theorem dX12_feed_26 : decode cX12_feed 26 = .ok (.iload_n 3, 1) := by decide +kernel
theorem dX12_feed_27 : decode cX12_feed 27 = .ok (.invokevirtual 127, 3) := by decide +kernel
theorem dX12_feed_30 : decode cX12_feed 30 = .ok (.aload_n 0, 1) := by decide +kernel
theorem dX12_feed_31 : decode cX12_feed 31 = .ok (.iload 4, 2) := by decide +kernel
theorem dX12_feed_33 : decode cX12_feed 33 = .ok (.invokevirtual 127, 3) := by decide +kernel
theorem dX12_feed_36 : decode cX12_feed 36 = .ok (.aload_n 0, 1) := by decide +kernel
theorem dX12_feed_37 : decode cX12_feed 37 = .ok (.iload 5, 2) := by decide +kernel
theorem dX12_feed_39 : decode cX12_feed 39 = .ok (.invokevirtual 127, 3) := by decide +kernel
theorem dX12_feed_42 : decode cX12_feed 42 = .ok (.aload_n 0, 1) := by decide +kernel
theorem dX12_feed_43 : decode cX12_feed 43 = .ok (.getfield 124, 3) := by decide +kernel
theorem dX12_feed_46 : decode cX12_feed 46 = .ok (.ireturn, 1) := by decide +kernel
theorem dX12_end_0 : decode cX12_end 0 = .ok (.iload_n 1, 1) := by decide +kernel
theorem dX12_end_1 : decode cX12_end 1 = .ok (.iconst 0, 1) := by decide +kernel
theorem dX12_end_2 : decode cX12_end 2 = .ok (.aload_n 0, 1) := by decide +kernel
theorem dX12_end_3 : decode cX12_end 3 = .ok (.getfield 124, 3) := by decide +kernel
theorem dX12_end_6 : decode cX12_end 6 = .ok (.invokestatic 105, 3) := by decide +kernel
theorem dX12_end_9 : decode cX12_end 9 = .ok (.ifCond .ne 5, 3) := by decide +kernel
theorem dX12_end_12 : decode cX12_end 12 = .ok (.iconst (-1), 1) := by decide +kernel
theorem dX12_end_13 : decode cX12_end 13 = .ok (.ireturn, 1) := by decide +kernel
theorem dX12_end_14 : decode cX12_end 14 = .ok (.aload_n 0, 1) := by decide +kernel
theorem dX12_end_15 : decode cX12_end 15 = .ok (.iload_n 1, 1) := by decide +kernel
theorem dX12_end_16 : decode cX12_end 16 = .ok (.putfield 124, 3) := by decide +kernel
theorem dX12_end_19 : decode cX12_end 19 = .ok (.iload_n 1, 1) := by decide +kernel
theorem dX12_end_20 : decode cX12_end 20 = .ok (.ireturn, 1) := by decide +kernel
theorem dX12_byteAt_0 : decode cX12_byteAt 0 = .ok (.iload_n 1, 1) := by decide +kernel
theorem dX12_byteAt_1 : decode cX12_byteAt 1 = .ok (.aload_n 0, 1) := by decide +kernel
theorem dX12_byteAt_2 : decode cX12_byteAt 2 = .ok (.getfield 124, 3) := by decide +kernel
theorem dX12_byteAt_5 : decode cX12_byteAt 5 = .ok (.if_icmp .ge 12, 3) := by decide +kernel
theorem dX12_byteAt_8 : decode cX12_byteAt 8 = .ok (.aload_n 0, 1) := by decide +kernel
theorem dX12_byteAt_9 : decode cX12_byteAt 9 = .ok (.getfield 31, 3) := by decide +kernel
theorem dX12_byteAt_12 : decode cX12_byteAt 12 = .ok (.iload_n 1, 1) := by decide +kernel
theorem dX12_byteAt_13 : decode cX12_byteAt 13 = .ok (.iaload, 1) := by decide +kernel
theorem dX12_byteAt_14 : decode cX12_byteAt 14 = .ok (.goto 4, 3) := by decide +kernel
theorem dX12_byteAt_17 : decode cX12_byteAt 17 = .ok (.iconst (-1), 1) := by decide +kernel
theorem dX12_byteAt_18 : decode cX12_byteAt 18 = .ok (.ireturn, 1) := by decide +kernel
theorem dX12_isLetterByte_0 : decode cX12_isLetterByte 0 = .ok (.iload_n 0, 1) := by decide +kernel
theorem dX12_isLetterByte_1 : decode cX12_isLetterByte 1 = .ok (.bipush 97, 2) := by decide +kernel
theorem dX12_isLetterByte_3 : decode cX12_isLetterByte 3 = .ok (.if_icmp .lt 13, 3) := by decide +kernel
theorem dX12_isLetterByte_6 : decode cX12_isLetterByte 6 = .ok (.iload_n 0, 1) := by decide +kernel
theorem dX12_isLetterByte_7 : decode cX12_isLetterByte 7 = .ok (.bipush 122, 2) := by decide +kernel
theorem dX12_isLetterByte_9 : decode cX12_isLetterByte 9 = .ok (.if_icmp .gt 7, 3) := by decide +kernel
theorem dX12_isLetterByte_12 : decode cX12_isLetterByte 12 = .ok (.iconst 1, 1) := by decide +kernel
theorem dX12_isLetterByte_13 : decode cX12_isLetterByte 13 = .ok (.goto 4, 3) := by decide +kernel
theorem dX12_isLetterByte_16 : decode cX12_isLetterByte 16 = .ok (.iconst 0, 1) := by decide +kernel
theorem dX12_isLetterByte_17 : decode cX12_isLetterByte 17 = .ok (.ireturn, 1) := by decide +kernel
theorem dX12_isFigure_0 : decode cX12_isFigure 0 = .ok (.iload_n 0, 1) := by decide +kernel
theorem dX12_isFigure_1 : decode cX12_isFigure 1 = .ok (.bipush 48, 2) := by decide +kernel
theorem dX12_isFigure_3 : decode cX12_isFigure 3 = .ok (.if_icmp .lt 13, 3) := by decide +kernel
theorem dX12_isFigure_6 : decode cX12_isFigure 6 = .ok (.iload_n 0, 1) := by decide +kernel
theorem dX12_isFigure_7 : decode cX12_isFigure 7 = .ok (.bipush 57, 2) := by decide +kernel
theorem dX12_isFigure_9 : decode cX12_isFigure 9 = .ok (.if_icmp .gt 7, 3) := by decide +kernel
theorem dX12_isFigure_12 : decode cX12_isFigure 12 = .ok (.iconst 1, 1) := by decide +kernel
theorem dX12_isFigure_13 : decode cX12_isFigure 13 = .ok (.goto 4, 3) := by decide +kernel
theorem dX12_isFigure_16 : decode cX12_isFigure 16 = .ok (.iconst 0, 1) := by decide +kernel
theorem dX12_isFigure_17 : decode cX12_isFigure 17 = .ok (.ireturn, 1) := by decide +kernel
theorem dX12_isSign_0 : decode cX12_isSign 0 = .ok (.iload_n 0, 1) := by decide +kernel
theorem dX12_isSign_1 : decode cX12_isSign 1 = .ok (.bipush 40, 2) := by decide +kernel
theorem dX12_isSign_3 : decode cX12_isSign 3 = .ok (.if_icmp .eq 39, 3) := by decide +kernel
theorem dX12_isSign_6 : decode cX12_isSign 6 = .ok (.iload_n 0, 1) := by decide +kernel
theorem dX12_isSign_7 : decode cX12_isSign 7 = .ok (.bipush 41, 2) := by decide +kernel
theorem dX12_isSign_9 : decode cX12_isSign 9 = .ok (.if_icmp .eq 33, 3) := by decide +kernel
theorem dX12_isSign_12 : decode cX12_isSign 12 = .ok (.iload_n 0, 1) := by decide +kernel
theorem dX12_isSign_13 : decode cX12_isSign 13 = .ok (.bipush 33, 2) := by decide +kernel
theorem dX12_isSign_15 : decode cX12_isSign 15 = .ok (.if_icmp .eq 27, 3) := by decide +kernel
theorem dX12_isSign_18 : decode cX12_isSign 18 = .ok (.iload_n 0, 1) := by decide +kernel
theorem dX12_isSign_19 : decode cX12_isSign 19 = .ok (.bipush 38, 2) := by decide +kernel
theorem dX12_isSign_21 : decode cX12_isSign 21 = .ok (.if_icmp .eq 21, 3) := by decide +kernel
theorem dX12_isSign_24 : decode cX12_isSign 24 = .ok (.iload_n 0, 1) := by decide +kernel
theorem dX12_isSign_25 : decode cX12_isSign 25 = .ok (.bipush 94, 2) := by decide +kernel
theorem dX12_isSign_27 : decode cX12_isSign 27 = .ok (.if_icmp .eq 15, 3) := by decide +kernel
theorem dX12_isSign_30 : decode cX12_isSign 30 = .ok (.iload_n 0, 1) := by decide +kernel
theorem dX12_isSign_31 : decode cX12_isSign 31 = .ok (.bipush 124, 2) := by decide +kernel
theorem dX12_isSign_33 : decode cX12_isSign 33 = .ok (.if_icmp .eq 9, 3) := by decide +kernel
theorem dX12_isSign_36 : decode cX12_isSign 36 = .ok (.iload_n 0, 1) := by decide +kernel
theorem dX12_isSign_37 : decode cX12_isSign 37 = .ok (.bipush 59, 2) := by decide +kernel
theorem dX12_isSign_39 : decode cX12_isSign 39 = .ok (.if_icmp .ne 7, 3) := by decide +kernel
theorem dX12_isSign_42 : decode cX12_isSign 42 = .ok (.iconst 1, 1) := by decide +kernel
theorem dX12_isSign_43 : decode cX12_isSign 43 = .ok (.goto 4, 3) := by decide +kernel
theorem dX12_isSign_46 : decode cX12_isSign 46 = .ok (.iconst 0, 1) := by decide +kernel
theorem dX12_isSign_47 : decode cX12_isSign 47 = .ok (.ireturn, 1) := by decide +kernel
theorem dX12_isFour_0 : decode cX12_isFour 0 = .ok (.iload_n 1, 1) := by decide +kernel
theorem dX12_isFour_1 : decode cX12_isFour 1 = .ok (.iconst 4, 1) := by decide +kernel
theorem dX12_isFour_2 : decode cX12_isFour 2 = .ok (.if_icmp .ne 63, 3) := by decide +kernel
theorem dX12_isFour_5 : decode cX12_isFour 5 = .ok (.aload_n 0, 1) := by decide +kernel
theorem dX12_isFour_6 : decode cX12_isFour 6 = .ok (.aload_n 0, 1) := by decide +kernel
theorem dX12_isFour_7 : decode cX12_isFour 7 = .ok (.getfield 131, 3) := by decide +kernel
theorem dX12_isFour_10 : decode cX12_isFour 10 = .ok (.invokevirtual 134, 3) := by decide +kernel
theorem dX12_isFour_13 : decode cX12_isFour 13 = .ok (.iload_n 2, 1) := by decide +kernel
theorem dX12_isFour_14 : decode cX12_isFour 14 = .ok (.if_icmp .ne 51, 3) := by decide +kernel
theorem dX12_isFour_17 : decode cX12_isFour 17 = .ok (.aload_n 0, 1) := by decide +kernel
theorem dX12_isFour_18 : decode cX12_isFour 18 = .ok (.aload_n 0, 1) := by decide +kernel
theorem dX12_isFour_19 : decode cX12_isFour 19 = .ok (.getfield 131, 3) := by decide +kernel
theorem dX12_isFour_22 : decode cX12_isFour 22 = .ok (.iconst 1, 1) := by decide +kernel
theorem dX12_isFour_23 : decode cX12_isFour 23 = .ok (.iadd, 1) := by decide +kernel
theorem dX12_isFour_24 : decode cX12_isFour 24 = .ok (.invokevirtual 134, 3) := by decide +kernel
theorem dX12_isFour_27 : decode cX12_isFour 27 = .ok (.iload_n 3, 1) := by decide +kernel
theorem dX12_isFour_28 : decode cX12_isFour 28 = .ok (.if_icmp .ne 37, 3) := by decide +kernel
theorem dX12_isFour_31 : decode cX12_isFour 31 = .ok (.aload_n 0, 1) := by decide +kernel
theorem dX12_isFour_32 : decode cX12_isFour 32 = .ok (.aload_n 0, 1) := by decide +kernel
theorem dX12_isFour_33 : decode cX12_isFour 33 = .ok (.getfield 131, 3) := by decide +kernel
theorem dX12_isFour_36 : decode cX12_isFour 36 = .ok (.iconst 2, 1) := by decide +kernel
theorem dX12_isFour_37 : decode cX12_isFour 37 = .ok (.iadd, 1) := by decide +kernel
theorem dX12_isFour_38 : decode cX12_isFour 38 = .ok (.invokevirtual 134, 3) := by decide +kernel
theorem dX12_isFour_41 : decode cX12_isFour 41 = .ok (.iload 4, 2) := by decide +kernel
theorem dX12_isFour_43 : decode cX12_isFour 43 = .ok (.if_icmp .ne 22, 3) := by decide +kernel
theorem dX12_isFour_46 : decode cX12_isFour 46 = .ok (.aload_n 0, 1) := by decide +kernel
theorem dX12_isFour_47 : decode cX12_isFour 47 = .ok (.aload_n 0, 1) := by decide +kernel
theorem dX12_isFour_48 : decode cX12_isFour 48 = .ok (.getfield 131, 3) := by decide +kernel
theorem dX12_isFour_51 : decode cX12_isFour 51 = .ok (.iconst 3, 1) := by decide +kernel
theorem dX12_isFour_52 : decode cX12_isFour 52 = .ok (.iadd, 1) := by decide +kernel
theorem dX12_isFour_53 : decode cX12_isFour 53 = .ok (.invokevirtual 134, 3) := by decide +kernel
theorem dX12_isFour_56 : decode cX12_isFour 56 = .ok (.iload 5, 2) := by decide +kernel
theorem dX12_isFour_58 : decode cX12_isFour 58 = .ok (.if_icmp .ne 7, 3) := by decide +kernel
theorem dX12_isFour_61 : decode cX12_isFour 61 = .ok (.iconst 1, 1) := by decide +kernel
theorem dX12_isFour_62 : decode cX12_isFour 62 = .ok (.goto 4, 3) := by decide +kernel
theorem dX12_isFour_65 : decode cX12_isFour 65 = .ok (.iconst 0, 1) := by decide +kernel
theorem dX12_isFour_66 : decode cX12_isFour 66 = .ok (.ireturn, 1) := by decide +kernel
theorem dX12_wordOf_0 : decode cX12_wordOf 0 = .ok (.aload_n 0, 1) := by decide +kernel
theorem dX12_wordOf_1 : decode cX12_wordOf 1 = .ok (.aload_n 0, 1) := by decide +kernel
theorem dX12_wordOf_2 : decode cX12_wordOf 2 = .ok (.getfield 131, 3) := by decide +kernel
theorem dX12_wordOf_5 : decode cX12_wordOf 5 = .ok (.invokevirtual 134, 3) := by decide +kernel
theorem dX12_wordOf_8 : decode cX12_wordOf 8 = .ok (.istore_n 2, 1) := by decide +kernel
theorem dX12_wordOf_9 : decode cX12_wordOf 9 = .ok (.aload_n 0, 1) := by decide +kernel
theorem dX12_wordOf_10 : decode cX12_wordOf 10 = .ok (.iload_n 2, 1) := by decide +kernel
theorem dX12_wordOf_11 : decode cX12_wordOf 11 = .ok (.bipush 97, 2) := by decide +kernel
theorem dX12_wordOf_13 : decode cX12_wordOf 13 = .ok (.isub, 1) := by decide +kernel
theorem dX12_wordOf_14 : decode cX12_wordOf 14 = .ok (.putfield 138, 3) := by decide +kernel
theorem dX12_wordOf_17 : decode cX12_wordOf 17 = .ok (.iload_n 1, 1) := by decide +kernel
theorem dX12_wordOf_18 : decode cX12_wordOf 18 = .ok (.iconst 1, 1) := by decide +kernel
theorem dX12_wordOf_19 : decode cX12_wordOf 19 = .ok (.if_icmp .ne 13, 3) := by decide +kernel
theorem dX12_wordOf_22 : decode cX12_wordOf 22 = .ok (.iload_n 2, 1) := by decide +kernel
theorem dX12_wordOf_23 : decode cX12_wordOf 23 = .ok (.bipush 102, 2) := by decide +kernel
theorem dX12_wordOf_25 : decode cX12_wordOf 25 = .ok (.if_icmp .gt 7, 3) := by decide +kernel
theorem dX12_wordOf_28 : decode cX12_wordOf 28 = .ok (.sipush 204, 3) := by decide +kernel
theorem dX12_wordOf_31 : decode cX12_wordOf 31 = .ok (.ireturn, 1) := by decide +kernel
theorem dX12_wordOf_32 : decode cX12_wordOf 32 = .ok (.aload_n 0, 1) := by decide +kernel
theorem dX12_wordOf_33 : decode cX12_wordOf 33 = .ok (.iload_n 2, 1) := by decide +kernel
theorem dX12_wordOf_34 : decode cX12_wordOf 34 = .ok (.bipush 120, 2) := by decide +kernel
theorem dX12_wordOf_36 : decode cX12_wordOf 36 = .ok (.isub, 1) := by decide +kernel
theorem dX12_wordOf_37 : decode cX12_wordOf 37 = .ok (.putfield 138, 3) := by decide +kernel
theorem dX12_wordOf_40 : decode cX12_wordOf 40 = .ok (.iload_n 1, 1) := by decide +kernel
theorem dX12_wordOf_41 : decode cX12_wordOf 41 = .ok (.iconst 1, 1) := by decide +kernel
theorem dX12_wordOf_42 : decode cX12_wordOf 42 = .ok (.if_icmp .ne 19, 3) := by decide +kernel
theorem dX12_wordOf_45 : decode cX12_wordOf 45 = .ok (.iload_n 2, 1) := by decide +kernel
theorem dX12_wordOf_46 : decode cX12_wordOf 46 = .ok (.bipush 120, 2) := by decide +kernel
theorem dX12_wordOf_48 : decode cX12_wordOf 48 = .ok (.if_icmp .eq 9, 3) := by decide +kernel
theorem dX12_wordOf_51 : decode cX12_wordOf 51 = .ok (.iload_n 2, 1) := by decide +kernel
theorem dX12_wordOf_52 : decode cX12_wordOf 52 = .ok (.bipush 121, 2) := by decide +kernel
theorem dX12_wordOf_54 : decode cX12_wordOf 54 = .ok (.if_icmp .ne 7, 3) := by decide +kernel
theorem dX12_wordOf_57 : decode cX12_wordOf 57 = .ok (.sipush 205, 3) := by decide +kernel
theorem dX12_wordOf_60 : decode cX12_wordOf 60 = .ok (.ireturn, 1) := by decide +kernel
theorem dX12_wordOf_61 : decode cX12_wordOf 61 = .ok (.aload_n 0, 1) := by decide +kernel
theorem dX12_wordOf_62 : decode cX12_wordOf 62 = .ok (.iload_n 1, 1) := by decide +kernel
theorem dX12_wordOf_63 : decode cX12_wordOf 63 = .ok (.bipush 105, 2) := by decide +kernel
theorem dX12_wordOf_65 : decode cX12_wordOf 65 = .ok (.bipush 110, 2) := by decide +kernel
theorem dX12_wordOf_67 : decode cX12_wordOf 67 = .ok (.bipush 105, 2) := by decide +kernel
theorem dX12_wordOf_69 : decode cX12_wordOf 69 = .ok (.bipush 116, 2) := by decide +kernel
theorem dX12_wordOf_71 : decode cX12_wordOf 71 = .ok (.invokevirtual 141, 3) := by decide +kernel
theorem dX12_wordOf_74 : decode cX12_wordOf 74 = .ok (.ifCond .eq 7, 3) := by decide +kernel
theorem dX12_wordOf_77 : decode cX12_wordOf 77 = .ok (.sipush 201, 3) := by decide +kernel
theorem dX12_wordOf_80 : decode cX12_wordOf 80 = .ok (.ireturn, 1) := by decide +kernel
theorem dX12_wordOf_81 : decode cX12_wordOf 81 = .ok (.aload_n 0, 1) := by decide +kernel
theorem dX12_wordOf_82 : decode cX12_wordOf 82 = .ok (.iload_n 1, 1) := by decide +kernel
theorem dX12_wordOf_83 : decode cX12_wordOf 83 = .ok (.bipush 110, 2) := by decide +kernel
theorem dX12_wordOf_85 : decode cX12_wordOf 85 = .ok (.bipush 101, 2) := by decide +kernel
theorem dX12_wordOf_87 : decode cX12_wordOf 87 = .ok (.bipush 120, 2) := by decide +kernel
theorem dX12_wordOf_89 : decode cX12_wordOf 89 = .ok (.bipush 116, 2) := by decide +kernel
theorem dX12_wordOf_91 : decode cX12_wordOf 91 = .ok (.invokevirtual 141, 3) := by decide +kernel
theorem dX12_wordOf_94 : decode cX12_wordOf 94 = .ok (.ifCond .eq 7, 3) := by decide +kernel
theorem dX12_wordOf_97 : decode cX12_wordOf 97 = .ok (.sipush 203, 3) := by decide +kernel
theorem dX12_wordOf_100 : decode cX12_wordOf 100 = .ok (.ireturn, 1) := by decide +kernel
theorem dX12_wordOf_101 : decode cX12_wordOf 101 = .ok (.iload_n 1, 1) := by decide +kernel
theorem dX12_wordOf_102 : decode cX12_wordOf 102 = .ok (.iconst 3, 1) := by decide +kernel
theorem dX12_wordOf_103 : decode cX12_wordOf 103 = .ok (.if_icmp .ne 43, 3) := by decide +kernel
theorem dX12_wordOf_106 : decode cX12_wordOf 106 = .ok (.iload_n 2, 1) := by decide +kernel
theorem dX12_wordOf_107 : decode cX12_wordOf 107 = .ok (.bipush 98, 2) := by decide +kernel
theorem dX12_wordOf_109 : decode cX12_wordOf 109 = .ok (.if_icmp .ne 37, 3) := by decide +kernel
theorem dX12_wordOf_112 : decode cX12_wordOf 112 = .ok (.aload_n 0, 1) := by decide +kernel
theorem dX12_wordOf_113 : decode cX12_wordOf 113 = .ok (.aload_n 0, 1) := by decide +kernel
theorem dX12_wordOf_114 : decode cX12_wordOf 114 = .ok (.getfield 131, 3) := by decide +kernel
theorem dX12_wordOf_117 : decode cX12_wordOf 117 = .ok (.iconst 1, 1) := by decide +kernel
theorem dX12_wordOf_118 : decode cX12_wordOf 118 = .ok (.iadd, 1) := by decide +kernel
theorem dX12_wordOf_119 : decode cX12_wordOf 119 = .ok (.invokevirtual 134, 3) := by decide +kernel
theorem dX12_wordOf_122 : decode cX12_wordOf 122 = .ok (.bipush 97, 2) := by decide +kernel
theorem dX12_wordOf_124 : decode cX12_wordOf 124 = .ok (.if_icmp .ne 22, 3) := by decide +kernel
theorem dX12_wordOf_127 : decode cX12_wordOf 127 = .ok (.aload_n 0, 1) := by decide +kernel
theorem dX12_wordOf_128 : decode cX12_wordOf 128 = .ok (.aload_n 0, 1) := by decide +kernel
theorem dX12_wordOf_129 : decode cX12_wordOf 129 = .ok (.getfield 131, 3) := by decide +kernel
theorem dX12_wordOf_132 : decode cX12_wordOf 132 = .ok (.iconst 2, 1) := by decide +kernel
theorem dX12_wordOf_133 : decode cX12_wordOf 133 = .ok (.iadd, 1) := by decide +kernel
theorem dX12_wordOf_134 : decode cX12_wordOf 134 = .ok (.invokevirtual 134, 3) := by decide +kernel
theorem dX12_wordOf_137 : decode cX12_wordOf 137 = .ok (.bipush 100, 2) := by decide +kernel
theorem dX12_wordOf_139 : decode cX12_wordOf 139 = .ok (.if_icmp .ne 7, 3) := by decide +kernel
theorem dX12_wordOf_142 : decode cX12_wordOf 142 = .ok (.sipush 202, 3) := by decide +kernel
theorem dX12_wordOf_145 : decode cX12_wordOf 145 = .ok (.ireturn, 1) := by decide +kernel
theorem dX12_wordOf_146 : decode cX12_wordOf 146 = .ok (.iload_n 1, 1) := by decide +kernel
theorem dX12_wordOf_147 : decode cX12_wordOf 147 = .ok (.bipush 7, 2) := by decide +kernel
theorem dX12_wordOf_149 : decode cX12_wordOf 149 = .ok (.if_icmp .ne 53, 3) := by decide +kernel
theorem dX12_wordOf_152 : decode cX12_wordOf 152 = .ok (.aload_n 0, 1) := by decide +kernel
theorem dX12_wordOf_153 : decode cX12_wordOf 153 = .ok (.aload_n 0, 1) := by decide +kernel
theorem dX12_wordOf_154 : decode cX12_wordOf 154 = .ok (.getfield 131, 3) := by decide +kernel
theorem dX12_wordOf_157 : decode cX12_wordOf 157 = .ok (.iconst 4, 1) := by decide +kernel
theorem dX12_wordOf_158 : decode cX12_wordOf 158 = .ok (.iadd, 1) := by decide +kernel
theorem dX12_wordOf_159 : decode cX12_wordOf 159 = .ok (.invokevirtual 134, 3) := by decide +kernel
theorem dX12_wordOf_162 : decode cX12_wordOf 162 = .ok (.bipush 101, 2) := by decide +kernel
theorem dX12_wordOf_164 : decode cX12_wordOf 164 = .ok (.if_icmp .ne 38, 3) := by decide +kernel
theorem dX12_wordOf_167 : decode cX12_wordOf 167 = .ok (.aload_n 0, 1) := by decide +kernel
theorem dX12_wordOf_168 : decode cX12_wordOf 168 = .ok (.aload_n 0, 1) := by decide +kernel
theorem dX12_wordOf_169 : decode cX12_wordOf 169 = .ok (.getfield 131, 3) := by decide +kernel
theorem dX12_wordOf_172 : decode cX12_wordOf 172 = .ok (.iconst 5, 1) := by decide +kernel
theorem dX12_wordOf_173 : decode cX12_wordOf 173 = .ok (.iadd, 1) := by decide +kernel
theorem dX12_wordOf_174 : decode cX12_wordOf 174 = .ok (.invokevirtual 134, 3) := by decide +kernel
theorem dX12_wordOf_177 : decode cX12_wordOf 177 = .ok (.bipush 114, 2) := by decide +kernel
theorem dX12_wordOf_179 : decode cX12_wordOf 179 = .ok (.if_icmp .ne 23, 3) := by decide +kernel
theorem dX12_wordOf_182 : decode cX12_wordOf 182 = .ok (.aload_n 0, 1) := by decide +kernel
theorem dX12_wordOf_183 : decode cX12_wordOf 183 = .ok (.aload_n 0, 1) := by decide +kernel
theorem dX12_wordOf_184 : decode cX12_wordOf 184 = .ok (.getfield 131, 3) := by decide +kernel
theorem dX12_wordOf_187 : decode cX12_wordOf 187 = .ok (.bipush 6, 2) := by decide +kernel
theorem dX12_wordOf_189 : decode cX12_wordOf 189 = .ok (.iadd, 1) := by decide +kernel
theorem dX12_wordOf_190 : decode cX12_wordOf 190 = .ok (.invokevirtual 134, 3) := by decide +kernel
theorem dX12_wordOf_193 : decode cX12_wordOf 193 = .ok (.bipush 115, 2) := by decide +kernel
theorem dX12_wordOf_195 : decode cX12_wordOf 195 = .ok (.if_icmp .ne 7, 3) := by decide +kernel
theorem dX12_wordOf_198 : decode cX12_wordOf 198 = .ok (.iconst 1, 1) := by decide +kernel
theorem dX12_wordOf_199 : decode cX12_wordOf 199 = .ok (.goto 4, 3) := by decide +kernel
theorem dX12_wordOf_202 : decode cX12_wordOf 202 = .ok (.iconst 0, 1) := by decide +kernel
theorem dX12_wordOf_203 : decode cX12_wordOf 203 = .ok (.istore_n 3, 1) := by decide +kernel
theorem dX12_wordOf_204 : decode cX12_wordOf 204 = .ok (.iload_n 3, 1) := by decide +kernel
theorem dX12_wordOf_205 : decode cX12_wordOf 205 = .ok (.ifCond .eq 25, 3) := by decide +kernel
theorem dX12_wordOf_208 : decode cX12_wordOf 208 = .ok (.aload_n 0, 1) := by decide +kernel
theorem dX12_wordOf_209 : decode cX12_wordOf 209 = .ok (.iconst 4, 1) := by decide +kernel
theorem dX12_wordOf_210 : decode cX12_wordOf 210 = .ok (.bipush 108, 2) := by decide +kernel
theorem dX12_wordOf_212 : decode cX12_wordOf 212 = .ok (.bipush 101, 2) := by decide +kernel
theorem dX12_wordOf_214 : decode cX12_wordOf 214 = .ok (.bipush 116, 2) := by decide +kernel
theorem dX12_wordOf_216 : decode cX12_wordOf 216 = .ok (.bipush 116, 2) := by decide +kernel
theorem dX12_wordOf_218 : decode cX12_wordOf 218 = .ok (.invokevirtual 141, 3) := by decide +kernel
theorem dX12_wordOf_221 : decode cX12_wordOf 221 = .ok (.ifCond .eq 9, 3) := by decide +kernel
theorem dX12_wordOf_224 : decode cX12_wordOf 224 = .ok (.sipush 200, 3) := by decide +kernel
theorem dX12_wordOf_227 : decode cX12_wordOf 227 = .ok (.goto 4, 3) := by decide +kernel
theorem dX12_wordOf_230 : decode cX12_wordOf 230 = .ok (.iconst 2, 1) := by decide +kernel
theorem dX12_wordOf_231 : decode cX12_wordOf 231 = .ok (.ireturn, 1) := by decide +kernel
theorem dX12_nextToken_0 : decode cX12_nextToken 0 = .ok (.aload_n 0, 1) := by decide +kernel
theorem dX12_nextToken_1 : decode cX12_nextToken 1 = .ok (.aload_n 0, 1) := by decide +kernel
theorem dX12_nextToken_2 : decode cX12_nextToken 2 = .ok (.getfield 145, 3) := by decide +kernel
theorem dX12_nextToken_5 : decode cX12_nextToken 5 = .ok (.invokevirtual 134, 3) := by decide +kernel
theorem dX12_nextToken_8 : decode cX12_nextToken 8 = .ok (.bipush 32, 2) := by decide +kernel
theorem dX12_nextToken_10 : decode cX12_nextToken 10 = .ok (.if_icmp .eq 16, 3) := by decide +kernel
theorem dX12_nextToken_13 : decode cX12_nextToken 13 = .ok (.aload_n 0, 1) := by decide +kernel
theorem dX12_nextToken_14 : decode cX12_nextToken 14 = .ok (.aload_n 0, 1) := by decide +kernel
theorem dX12_nextToken_15 : decode cX12_nextToken 15 = .ok (.getfield 145, 3) := by decide +kernel
theorem dX12_nextToken_18 : decode cX12_nextToken 18 = .ok (.invokevirtual 134, 3) := by decide +kernel
theorem dX12_nextToken_21 : decode cX12_nextToken 21 = .ok (.bipush 10, 2) := by decide +kernel
theorem dX12_nextToken_23 : decode cX12_nextToken 23 = .ok (.if_icmp .ne 16, 3) := by decide +kernel
theorem dX12_nextToken_26 : decode cX12_nextToken 26 = .ok (.aload_n 0, 1) := by decide +kernel
theorem dX12_nextToken_27 : decode cX12_nextToken 27 = .ok (.dup, 1) := by decide +kernel
theorem dX12_nextToken_28 : decode cX12_nextToken 28 = .ok (.getfield 145, 3) := by decide +kernel
theorem dX12_nextToken_31 : decode cX12_nextToken 31 = .ok (.iconst 1, 1) := by decide +kernel
theorem dX12_nextToken_32 : decode cX12_nextToken 32 = .ok (.iadd, 1) := by decide +kernel
theorem dX12_nextToken_33 : decode cX12_nextToken 33 = .ok (.putfield 145, 3) := by decide +kernel
theorem dX12_nextToken_36 : decode cX12_nextToken 36 = .ok (.goto (-36), 3) := by decide +kernel
theorem dX12_nextToken_39 : decode cX12_nextToken 39 = .ok (.aload_n 0, 1) := by decide +kernel
theorem dX12_nextToken_40 : decode cX12_nextToken 40 = .ok (.aload_n 0, 1) := by decide +kernel
theorem dX12_nextToken_41 : decode cX12_nextToken 41 = .ok (.getfield 145, 3) := by decide +kernel
theorem dX12_nextToken_44 : decode cX12_nextToken 44 = .ok (.putfield 131, 3) := by decide +kernel
theorem dX12_nextToken_47 : decode cX12_nextToken 47 = .ok (.aload_n 0, 1) := by decide +kernel
theorem dX12_nextToken_48 : decode cX12_nextToken 48 = .ok (.aload_n 0, 1) := by decide +kernel
theorem dX12_nextToken_49 : decode cX12_nextToken 49 = .ok (.getfield 145, 3) := by decide +kernel
theorem dX12_nextToken_52 : decode cX12_nextToken 52 = .ok (.invokevirtual 134, 3) := by decide +kernel
theorem dX12_nextToken_55 : decode cX12_nextToken 55 = .ok (.istore_n 1, 1) := by decide +kernel
theorem dX12_nextToken_56 : decode cX12_nextToken 56 = .ok (.iload_n 1, 1) := by decide +kernel
theorem dX12_nextToken_57 : decode cX12_nextToken 57 = .ok (.ifCond .ge 11, 3) := by decide +kernel
theorem dX12_nextToken_60 : decode cX12_nextToken 60 = .ok (.aload_n 0, 1) := by decide +kernel
theorem dX12_nextToken_61 : decode cX12_nextToken 61 = .ok (.iconst 0, 1) := by decide +kernel
theorem dX12_nextToken_62 : decode cX12_nextToken 62 = .ok (.putfield 148, 3) := by decide +kernel
theorem dX12_nextToken_65 : decode cX12_nextToken 65 = .ok (.goto 167, 3) := by decide +kernel
theorem dX12_nextToken_68 : decode cX12_nextToken 68 = .ok (.iload_n 1, 1) := by decide +kernel
theorem dX12_nextToken_69 : decode cX12_nextToken 69 = .ok (.invokestatic 151, 3) := by decide +kernel
theorem dX12_nextToken_72 : decode cX12_nextToken 72 = .ok (.ifCond .eq 80, 3) := by decide +kernel
theorem dX12_nextToken_75 : decode cX12_nextToken 75 = .ok (.aload_n 0, 1) := by decide +kernel
theorem dX12_nextToken_76 : decode cX12_nextToken 76 = .ok (.iconst 1, 1) := by decide +kernel
theorem dX12_nextToken_77 : decode cX12_nextToken 77 = .ok (.putfield 148, 3) := by decide +kernel
theorem dX12_nextToken_80 : decode cX12_nextToken 80 = .ok (.aload_n 0, 1) := by decide +kernel
theorem dX12_nextToken_81 : decode cX12_nextToken 81 = .ok (.iconst 0, 1) := by decide +kernel
theorem dX12_nextToken_82 : decode cX12_nextToken 82 = .ok (.putfield 138, 3) := by decide +kernel
theorem dX12_nextToken_85 : decode cX12_nextToken 85 = .ok (.aload_n 0, 1) := by decide +kernel
theorem dX12_nextToken_86 : decode cX12_nextToken 86 = .ok (.aload_n 0, 1) := by decide +kernel
theorem dX12_nextToken_87 : decode cX12_nextToken 87 = .ok (.getfield 145, 3) := by decide +kernel
theorem dX12_nextToken_90 : decode cX12_nextToken 90 = .ok (.invokevirtual 134, 3) := by decide +kernel
theorem dX12_nextToken_93 : decode cX12_nextToken 93 = .ok (.invokestatic 151, 3) := by decide +kernel
theorem dX12_nextToken_96 : decode cX12_nextToken 96 = .ok (.ifCond .eq 136, 3) := by decide +kernel
theorem dX12_nextToken_99 : decode cX12_nextToken 99 = .ok (.aload_n 0, 1) := by decide +kernel
theorem dX12_nextToken_100 : decode cX12_nextToken 100 = .ok (.aload_n 0, 1) := by decide +kernel
theorem dX12_nextToken_101 : decode cX12_nextToken 101 = .ok (.getfield 138, 3) := by decide +kernel
theorem dX12_nextToken_104 : decode cX12_nextToken 104 = .ok (.sipush 9999, 3) := by decide +kernel
theorem dX12_nextToken_107 : decode cX12_nextToken 107 = .ok (.if_icmp .le 10, 3) := by decide +kernel
theorem dX12_nextToken_110 : decode cX12_nextToken 110 = .ok (.aload_n 0, 1) := by decide +kernel
theorem dX12_nextToken_111 : decode cX12_nextToken 111 = .ok (.getfield 138, 3) := by decide +kernel
theorem dX12_nextToken_114 : decode cX12_nextToken 114 = .ok (.goto 22, 3) := by decide +kernel
theorem dX12_nextToken_117 : decode cX12_nextToken 117 = .ok (.bipush 10, 2) := by decide +kernel
theorem dX12_nextToken_119 : decode cX12_nextToken 119 = .ok (.aload_n 0, 1) := by decide +kernel
theorem dX12_nextToken_120 : decode cX12_nextToken 120 = .ok (.getfield 138, 3) := by decide +kernel
theorem dX12_nextToken_123 : decode cX12_nextToken 123 = .ok (.imul, 1) := by decide +kernel
theorem dX12_nextToken_124 : decode cX12_nextToken 124 = .ok (.aload_n 0, 1) := by decide +kernel
theorem dX12_nextToken_125 : decode cX12_nextToken 125 = .ok (.aload_n 0, 1) := by decide +kernel
theorem dX12_nextToken_126 : decode cX12_nextToken 126 = .ok (.getfield 145, 3) := by decide +kernel
theorem dX12_nextToken_129 : decode cX12_nextToken 129 = .ok (.invokevirtual 134, 3) := by decide +kernel
theorem dX12_nextToken_132 : decode cX12_nextToken 132 = .ok (.iadd, 1) := by decide +kernel
theorem dX12_nextToken_133 : decode cX12_nextToken 133 = .ok (.bipush 48, 2) := by decide +kernel
theorem dX12_nextToken_135 : decode cX12_nextToken 135 = .ok (.isub, 1) := by decide +kernel
theorem dX12_nextToken_136 : decode cX12_nextToken 136 = .ok (.putfield 138, 3) := by decide +kernel
theorem dX12_nextToken_139 : decode cX12_nextToken 139 = .ok (.aload_n 0, 1) := by decide +kernel
theorem dX12_nextToken_140 : decode cX12_nextToken 140 = .ok (.dup, 1) := by decide +kernel
theorem dX12_nextToken_141 : decode cX12_nextToken 141 = .ok (.getfield 145, 3) := by decide +kernel
theorem dX12_nextToken_144 : decode cX12_nextToken 144 = .ok (.iconst 1, 1) := by decide +kernel
theorem dX12_nextToken_145 : decode cX12_nextToken 145 = .ok (.iadd, 1) := by decide +kernel
theorem dX12_nextToken_146 : decode cX12_nextToken 146 = .ok (.putfield 145, 3) := by decide +kernel
theorem dX12_nextToken_149 : decode cX12_nextToken 149 = .ok (.goto (-64), 3) := by decide +kernel
theorem dX12_nextToken_152 : decode cX12_nextToken 152 = .ok (.iload_n 1, 1) := by decide +kernel
theorem dX12_nextToken_153 : decode cX12_nextToken 153 = .ok (.invokestatic 155, 3) := by decide +kernel
theorem dX12_nextToken_156 : decode cX12_nextToken 156 = .ok (.ifCond .eq 50, 3) := by decide +kernel
theorem dX12_nextToken_159 : decode cX12_nextToken 159 = .ok (.aload_n 0, 1) := by decide +kernel
theorem dX12_nextToken_160 : decode cX12_nextToken 160 = .ok (.aload_n 0, 1) := by decide +kernel
theorem dX12_nextToken_161 : decode cX12_nextToken 161 = .ok (.getfield 145, 3) := by decide +kernel
theorem dX12_nextToken_164 : decode cX12_nextToken 164 = .ok (.invokevirtual 134, 3) := by decide +kernel
theorem dX12_nextToken_167 : decode cX12_nextToken 167 = .ok (.invokestatic 155, 3) := by decide +kernel
theorem dX12_nextToken_170 : decode cX12_nextToken 170 = .ok (.ifCond .eq 16, 3) := by decide +kernel
theorem dX12_nextToken_173 : decode cX12_nextToken 173 = .ok (.aload_n 0, 1) := by decide +kernel
theorem dX12_nextToken_174 : decode cX12_nextToken 174 = .ok (.dup, 1) := by decide +kernel
theorem dX12_nextToken_175 : decode cX12_nextToken 175 = .ok (.getfield 145, 3) := by decide +kernel
theorem dX12_nextToken_178 : decode cX12_nextToken 178 = .ok (.iconst 1, 1) := by decide +kernel
theorem dX12_nextToken_179 : decode cX12_nextToken 179 = .ok (.iadd, 1) := by decide +kernel
theorem dX12_nextToken_180 : decode cX12_nextToken 180 = .ok (.putfield 145, 3) := by decide +kernel
theorem dX12_nextToken_183 : decode cX12_nextToken 183 = .ok (.goto (-24), 3) := by decide +kernel
theorem dX12_nextToken_186 : decode cX12_nextToken 186 = .ok (.aload_n 0, 1) := by decide +kernel
theorem dX12_nextToken_187 : decode cX12_nextToken 187 = .ok (.aload_n 0, 1) := by decide +kernel
theorem dX12_nextToken_188 : decode cX12_nextToken 188 = .ok (.aload_n 0, 1) := by decide +kernel
theorem dX12_nextToken_189 : decode cX12_nextToken 189 = .ok (.getfield 145, 3) := by decide +kernel
theorem dX12_nextToken_192 : decode cX12_nextToken 192 = .ok (.aload_n 0, 1) := by decide +kernel
theorem dX12_nextToken_193 : decode cX12_nextToken 193 = .ok (.getfield 131, 3) := by decide +kernel
theorem dX12_nextToken_196 : decode cX12_nextToken 196 = .ok (.isub, 1) := by decide +kernel
theorem dX12_nextToken_197 : decode cX12_nextToken 197 = .ok (.invokevirtual 158, 3) := by decide +kernel
theorem dX12_nextToken_200 : decode cX12_nextToken 200 = .ok (.putfield 148, 3) := by decide +kernel
theorem dX12_nextToken_203 : decode cX12_nextToken 203 = .ok (.goto 29, 3) := by decide +kernel
theorem dX12_nextToken_206 : decode cX12_nextToken 206 = .ok (.aload_n 0, 1) := by decide +kernel
theorem dX12_nextToken_207 : decode cX12_nextToken 207 = .ok (.iload_n 1, 1) := by decide +kernel
theorem dX12_nextToken_208 : decode cX12_nextToken 208 = .ok (.invokestatic 161, 3) := by decide +kernel
theorem dX12_nextToken_211 : decode cX12_nextToken 211 = .ok (.ifCond .eq 7, 3) := by decide +kernel
theorem dX12_nextToken_214 : decode cX12_nextToken 214 = .ok (.iload_n 1, 1) := by decide +kernel
theorem dX12_nextToken_215 : decode cX12_nextToken 215 = .ok (.goto 4, 3) := by decide +kernel
theorem dX12_nextToken_218 : decode cX12_nextToken 218 = .ok (.iconst 2, 1) := by decide +kernel
theorem dX12_nextToken_219 : decode cX12_nextToken 219 = .ok (.putfield 148, 3) := by decide +kernel
theorem dX12_nextToken_222 : decode cX12_nextToken 222 = .ok (.aload_n 0, 1) := by decide +kernel
theorem dX12_nextToken_223 : decode cX12_nextToken 223 = .ok (.dup, 1) := by decide +kernel
theorem dX12_nextToken_224 : decode cX12_nextToken 224 = .ok (.getfield 145, 3) := by decide +kernel
theorem dX12_nextToken_227 : decode cX12_nextToken 227 = .ok (.iconst 1, 1) := by decide +kernel
theorem dX12_nextToken_228 : decode cX12_nextToken 228 = .ok (.iadd, 1) := by decide +kernel
theorem dX12_nextToken_229 : decode cX12_nextToken 229 = .ok (.putfield 145, 3) := by decide +kernel
theorem dX12_nextToken_232 : decode cX12_nextToken 232 = .ok (.return_, 1) := by decide +kernel
theorem dX12_push_0 : decode cX12_push 0 = .ok (.aload_n 0, 1) := by decide +kernel
theorem dX12_push_1 : decode cX12_push 1 = .ok (.getfield 41, 3) := by decide +kernel
theorem dX12_push_4 : decode cX12_push 4 = .ok (.iconst 4, 1) := by decide +kernel
theorem dX12_push_5 : decode cX12_push 5 = .ok (.aload_n 0, 1) := by decide +kernel
theorem dX12_push_6 : decode cX12_push 6 = .ok (.getfield 164, 3) := by decide +kernel
theorem dX12_push_9 : decode cX12_push 9 = .ok (.imul, 1) := by decide +kernel
theorem dX12_push_10 : decode cX12_push 10 = .ok (.lload_n 1, 1) := by decide +kernel
theorem dX12_push_11 : decode cX12_push 11 = .ok (.lastore, 1) := by decide +kernel
theorem dX12_push_12 : decode cX12_push 12 = .ok (.aload_n 0, 1) := by decide +kernel
theorem dX12_push_13 : decode cX12_push 13 = .ok (.getfield 41, 3) := by decide +kernel
theorem dX12_push_16 : decode cX12_push 16 = .ok (.iconst 4, 1) := by decide +kernel
theorem dX12_push_17 : decode cX12_push 17 = .ok (.aload_n 0, 1) := by decide +kernel
theorem dX12_push_18 : decode cX12_push 18 = .ok (.getfield 164, 3) := by decide +kernel
theorem dX12_push_21 : decode cX12_push 21 = .ok (.imul, 1) := by decide +kernel
theorem dX12_push_22 : decode cX12_push 22 = .ok (.iconst 1, 1) := by decide +kernel
theorem dX12_push_23 : decode cX12_push 23 = .ok (.iadd, 1) := by decide +kernel
theorem dX12_push_24 : decode cX12_push 24 = .ok (.lload_n 3, 1) := by decide +kernel
theorem dX12_push_25 : decode cX12_push 25 = .ok (.lastore, 1) := by decide +kernel
theorem dX12_push_26 : decode cX12_push 26 = .ok (.aload_n 0, 1) := by decide +kernel
theorem dX12_push_27 : decode cX12_push 27 = .ok (.getfield 41, 3) := by decide +kernel
theorem dX12_push_30 : decode cX12_push 30 = .ok (.iconst 4, 1) := by decide +kernel
theorem dX12_push_31 : decode cX12_push 31 = .ok (.aload_n 0, 1) := by decide +kernel
theorem dX12_push_32 : decode cX12_push 32 = .ok (.getfield 164, 3) := by decide +kernel
theorem dX12_push_35 : decode cX12_push 35 = .ok (.imul, 1) := by decide +kernel
theorem dX12_push_36 : decode cX12_push 36 = .ok (.iconst 2, 1) := by decide +kernel
theorem dX12_push_37 : decode cX12_push 37 = .ok (.iadd, 1) := by decide +kernel
theorem dX12_push_38 : decode cX12_push 38 = .ok (.lload 5, 2) := by decide +kernel
theorem dX12_push_40 : decode cX12_push 40 = .ok (.lastore, 1) := by decide +kernel
theorem dX12_push_41 : decode cX12_push 41 = .ok (.aload_n 0, 1) := by decide +kernel
theorem dX12_push_42 : decode cX12_push 42 = .ok (.getfield 41, 3) := by decide +kernel
theorem dX12_push_45 : decode cX12_push 45 = .ok (.iconst 4, 1) := by decide +kernel
theorem dX12_push_46 : decode cX12_push 46 = .ok (.aload_n 0, 1) := by decide +kernel
theorem dX12_push_47 : decode cX12_push 47 = .ok (.getfield 164, 3) := by decide +kernel
theorem dX12_push_50 : decode cX12_push 50 = .ok (.imul, 1) := by decide +kernel
theorem dX12_push_51 : decode cX12_push 51 = .ok (.iconst 3, 1) := by decide +kernel
theorem dX12_push_52 : decode cX12_push 52 = .ok (.iadd, 1) := by decide +kernel
theorem dX12_push_53 : decode cX12_push 53 = .ok (.lload 7, 2) := by decide +kernel
theorem dX12_push_55 : decode cX12_push 55 = .ok (.lastore, 1) := by decide +kernel
theorem dX12_push_56 : decode cX12_push 56 = .ok (.aload_n 0, 1) := by decide +kernel
theorem dX12_push_57 : decode cX12_push 57 = .ok (.dup, 1) := by decide +kernel
theorem dX12_push_58 : decode cX12_push 58 = .ok (.getfield 164, 3) := by decide +kernel
theorem dX12_push_61 : decode cX12_push 61 = .ok (.iconst 1, 1) := by decide +kernel
theorem dX12_push_62 : decode cX12_push 62 = .ok (.iadd, 1) := by decide +kernel
theorem dX12_push_63 : decode cX12_push 63 = .ok (.putfield 164, 3) := by decide +kernel
theorem dX12_push_66 : decode cX12_push 66 = .ok (.return_, 1) := by decide +kernel
theorem dX12_rank_0 : decode cX12_rank 0 = .ok (.iload_n 0, 1) := by decide +kernel
theorem dX12_rank_1 : decode cX12_rank 1 = .ok (.bipush 33, 2) := by decide +kernel
theorem dX12_rank_3 : decode cX12_rank 3 = .ok (.if_icmp .ne 7, 3) := by decide +kernel
theorem dX12_rank_6 : decode cX12_rank 6 = .ok (.iconst 4, 1) := by decide +kernel
theorem dX12_rank_7 : decode cX12_rank 7 = .ok (.goto 34, 3) := by decide +kernel
theorem dX12_rank_10 : decode cX12_rank 10 = .ok (.iload_n 0, 1) := by decide +kernel
theorem dX12_rank_11 : decode cX12_rank 11 = .ok (.bipush 38, 2) := by decide +kernel
theorem dX12_rank_13 : decode cX12_rank 13 = .ok (.if_icmp .ne 7, 3) := by decide +kernel
theorem dX12_rank_16 : decode cX12_rank 16 = .ok (.iconst 3, 1) := by decide +kernel
theorem dX12_rank_17 : decode cX12_rank 17 = .ok (.goto 24, 3) := by decide +kernel
theorem dX12_rank_20 : decode cX12_rank 20 = .ok (.iload_n 0, 1) := by decide +kernel
theorem dX12_rank_21 : decode cX12_rank 21 = .ok (.bipush 94, 2) := by decide +kernel
theorem dX12_rank_23 : decode cX12_rank 23 = .ok (.if_icmp .ne 7, 3) := by decide +kernel
theorem dX12_rank_26 : decode cX12_rank 26 = .ok (.iconst 2, 1) := by decide +kernel
theorem dX12_rank_27 : decode cX12_rank 27 = .ok (.goto 14, 3) := by decide +kernel
theorem dX12_rank_30 : decode cX12_rank 30 = .ok (.iload_n 0, 1) := by decide +kernel
theorem dX12_rank_31 : decode cX12_rank 31 = .ok (.bipush 124, 2) := by decide +kernel
theorem dX12_rank_33 : decode cX12_rank 33 = .ok (.if_icmp .ne 7, 3) := by decide +kernel
theorem dX12_rank_36 : decode cX12_rank 36 = .ok (.iconst 1, 1) := by decide +kernel
theorem dX12_rank_37 : decode cX12_rank 37 = .ok (.goto 4, 3) := by decide +kernel
theorem dX12_rank_40 : decode cX12_rank 40 = .ok (.iconst 0, 1) := by decide +kernel
theorem dX12_rank_41 : decode cX12_rank 41 = .ok (.ireturn, 1) := by decide +kernel
theorem dX12_apply_0 : decode cX12_apply 0 = .ok (.iconst 4, 1) := by decide +kernel
theorem dX12_apply_1 : decode cX12_apply 1 = .ok (.aload_n 0, 1) := by decide +kernel
theorem dX12_apply_2 : decode cX12_apply 2 = .ok (.getfield 164, 3) := by decide +kernel
theorem dX12_apply_5 : decode cX12_apply 5 = .ok (.imul, 1) := by decide +kernel
theorem dX12_apply_6 : decode cX12_apply 6 = .ok (.iconst 4, 1) := by decide +kernel
theorem dX12_apply_7 : decode cX12_apply 7 = .ok (.isub, 1) := by decide +kernel
theorem dX12_apply_8 : decode cX12_apply 8 = .ok (.istore_n 2, 1) := by decide +kernel
theorem dX12_apply_9 : decode cX12_apply 9 = .ok (.iload_n 1, 1) := by decide +kernel
theorem dX12_apply_10 : decode cX12_apply 10 = .ok (.bipush 33, 2) := by decide +kernel
theorem dX12_apply_12 : decode cX12_apply 12 = .ok (.if_icmp .ne 47, 3) := by decide +kernel
theorem dX12_apply_15 : decode cX12_apply 15 = .ok (.iconst 0, 1) := by decide +kernel
theorem dX12_apply_16 : decode cX12_apply 16 = .ok (.istore_n 3, 1) := by decide +kernel
theorem dX12_apply_17 : decode cX12_apply 17 = .ok (.iload_n 3, 1) := by decide +kernel
theorem dX12_apply_18 : decode cX12_apply 18 = .ok (.iconst 4, 1) := by decide +kernel
theorem dX12_apply_19 : decode cX12_apply 19 = .ok (.if_icmp .ge 29, 3) := by decide +kernel
theorem dX12_apply_22 : decode cX12_apply 22 = .ok (.aload_n 0, 1) := by decide +kernel
theorem dX12_apply_23 : decode cX12_apply 23 = .ok (.getfield 41, 3) := by decide +kernel
theorem dX12_apply_26 : decode cX12_apply 26 = .ok (.iload_n 2, 1) := by decide +kernel
theorem dX12_apply_27 : decode cX12_apply 27 = .ok (.iload_n 3, 1) := by decide +kernel
theorem dX12_apply_28 : decode cX12_apply 28 = .ok (.iadd, 1) := by decide +kernel
theorem dX12_apply_29 : decode cX12_apply 29 = .ok (.aload_n 0, 1) := by decide +kernel
theorem dX12_apply_30 : decode cX12_apply 30 = .ok (.getfield 41, 3) := by decide +kernel
theorem dX12_apply_33 : decode cX12_apply 33 = .ok (.iload_n 2, 1) := by decide +kernel
theorem dX12_apply_34 : decode cX12_apply 34 = .ok (.iload_n 3, 1) := by decide +kernel
theorem dX12_apply_35 : decode cX12_apply 35 = .ok (.iadd, 1) := by decide +kernel
theorem dX12_apply_36 : decode cX12_apply 36 = .ok (.laload, 1) := by decide +kernel
theorem dX12_apply_37 : decode cX12_apply 37 = .ok (.ldc2_w 92, 3) := by decide +kernel
theorem dX12_apply_40 : decode cX12_apply 40 = .ok (.lxor, 1) := by decide +kernel
theorem dX12_apply_41 : decode cX12_apply 41 = .ok (.lastore, 1) := by decide +kernel
theorem dX12_apply_42 : decode cX12_apply 42 = .ok (.iinc 3 1, 3) := by decide +kernel
theorem dX12_apply_45 : decode cX12_apply 45 = .ok (.goto (-28), 3) := by decide +kernel
theorem dX12_apply_48 : decode cX12_apply 48 = .ok (.aload_n 0, 1) := by decide +kernel
theorem dX12_apply_49 : decode cX12_apply 49 = .ok (.dup, 1) := by decide +kernel
theorem dX12_apply_50 : decode cX12_apply 50 = .ok (.getfield 167, 3) := by decide +kernel
theorem dX12_apply_53 : decode cX12_apply 53 = .ok (.iconst 1, 1) := by decide +kernel
theorem dX12_apply_54 : decode cX12_apply 54 = .ok (.isub, 1) := by decide +kernel
theorem dX12_apply_55 : decode cX12_apply 55 = .ok (.putfield 167, 3) := by decide +kernel
theorem dX12_apply_58 : decode cX12_apply 58 = .ok (.return_, 1) := by decide +kernel
theorem dX12_apply_59 : decode cX12_apply 59 = .ok (.iload_n 2, 1) := by decide +kernel
theorem dX12_apply_60 : decode cX12_apply 60 = .ok (.istore_n 3, 1) := by decide +kernel
theorem dX12_apply_61 : decode cX12_apply 61 = .ok (.iload_n 3, 1) := by decide +kernel
theorem dX12_apply_62 : decode cX12_apply 62 = .ok (.iload_n 2, 1) := by decide +kernel
theorem dX12_apply_63 : decode cX12_apply 63 = .ok (.iconst 4, 1) := by decide +kernel
theorem dX12_apply_64 : decode cX12_apply 64 = .ok (.iadd, 1) := by decide +kernel
theorem dX12_apply_65 : decode cX12_apply 65 = .ok (.if_icmp .ge 80, 3) := by decide +kernel
theorem dX12_apply_68 : decode cX12_apply 68 = .ok (.aload_n 0, 1) := by decide +kernel
theorem dX12_apply_69 : decode cX12_apply 69 = .ok (.getfield 41, 3) := by decide +kernel
theorem dX12_apply_72 : decode cX12_apply 72 = .ok (.iload_n 3, 1) := by decide +kernel
theorem dX12_apply_73 : decode cX12_apply 73 = .ok (.iconst 4, 1) := by decide +kernel
theorem dX12_apply_74 : decode cX12_apply 74 = .ok (.isub, 1) := by decide +kernel
theorem dX12_apply_75 : decode cX12_apply 75 = .ok (.iload_n 1, 1) := by decide +kernel
theorem dX12_apply_76 : decode cX12_apply 76 = .ok (.bipush 38, 2) := by decide +kernel
theorem dX12_apply_78 : decode cX12_apply 78 = .ok (.if_icmp .ne 21, 3) := by decide +kernel
theorem dX12_apply_81 : decode cX12_apply 81 = .ok (.aload_n 0, 1) := by decide +kernel
theorem dX12_apply_82 : decode cX12_apply 82 = .ok (.getfield 41, 3) := by decide +kernel
theorem dX12_apply_85 : decode cX12_apply 85 = .ok (.iload_n 3, 1) := by decide +kernel
theorem dX12_apply_86 : decode cX12_apply 86 = .ok (.iconst 4, 1) := by decide +kernel
theorem dX12_apply_87 : decode cX12_apply 87 = .ok (.isub, 1) := by decide +kernel
theorem dX12_apply_88 : decode cX12_apply 88 = .ok (.laload, 1) := by decide +kernel
theorem dX12_apply_89 : decode cX12_apply 89 = .ok (.aload_n 0, 1) := by decide +kernel
theorem dX12_apply_90 : decode cX12_apply 90 = .ok (.getfield 41, 3) := by decide +kernel
theorem dX12_apply_93 : decode cX12_apply 93 = .ok (.iload_n 3, 1) := by decide +kernel
theorem dX12_apply_94 : decode cX12_apply 94 = .ok (.laload, 1) := by decide +kernel
theorem dX12_apply_95 : decode cX12_apply 95 = .ok (.land, 1) := by decide +kernel
theorem dX12_apply_96 : decode cX12_apply 96 = .ok (.goto 42, 3) := by decide +kernel
theorem dX12_apply_99 : decode cX12_apply 99 = .ok (.iload_n 1, 1) := by decide +kernel
theorem dX12_apply_100 : decode cX12_apply 100 = .ok (.bipush 94, 2) := by decide +kernel
theorem dX12_apply_102 : decode cX12_apply 102 = .ok (.if_icmp .ne 21, 3) := by decide +kernel
theorem dX12_apply_105 : decode cX12_apply 105 = .ok (.aload_n 0, 1) := by decide +kernel
theorem dX12_apply_106 : decode cX12_apply 106 = .ok (.getfield 41, 3) := by decide +kernel
theorem dX12_apply_109 : decode cX12_apply 109 = .ok (.iload_n 3, 1) := by decide +kernel
theorem dX12_apply_110 : decode cX12_apply 110 = .ok (.iconst 4, 1) := by decide +kernel
theorem dX12_apply_111 : decode cX12_apply 111 = .ok (.isub, 1) := by decide +kernel
theorem dX12_apply_112 : decode cX12_apply 112 = .ok (.laload, 1) := by decide +kernel
theorem dX12_apply_113 : decode cX12_apply 113 = .ok (.aload_n 0, 1) := by decide +kernel
theorem dX12_apply_114 : decode cX12_apply 114 = .ok (.getfield 41, 3) := by decide +kernel
theorem dX12_apply_117 : decode cX12_apply 117 = .ok (.iload_n 3, 1) := by decide +kernel
theorem dX12_apply_118 : decode cX12_apply 118 = .ok (.laload, 1) := by decide +kernel
theorem dX12_apply_119 : decode cX12_apply 119 = .ok (.lxor, 1) := by decide +kernel
theorem dX12_apply_120 : decode cX12_apply 120 = .ok (.goto 18, 3) := by decide +kernel
theorem dX12_apply_123 : decode cX12_apply 123 = .ok (.aload_n 0, 1) := by decide +kernel
theorem dX12_apply_124 : decode cX12_apply 124 = .ok (.getfield 41, 3) := by decide +kernel
theorem dX12_apply_127 : decode cX12_apply 127 = .ok (.iload_n 3, 1) := by decide +kernel
theorem dX12_apply_128 : decode cX12_apply 128 = .ok (.iconst 4, 1) := by decide +kernel
theorem dX12_apply_129 : decode cX12_apply 129 = .ok (.isub, 1) := by decide +kernel
theorem dX12_apply_130 : decode cX12_apply 130 = .ok (.laload, 1) := by decide +kernel
theorem dX12_apply_131 : decode cX12_apply 131 = .ok (.aload_n 0, 1) := by decide +kernel
theorem dX12_apply_132 : decode cX12_apply 132 = .ok (.getfield 41, 3) := by decide +kernel
theorem dX12_apply_135 : decode cX12_apply 135 = .ok (.iload_n 3, 1) := by decide +kernel
theorem dX12_apply_136 : decode cX12_apply 136 = .ok (.laload, 1) := by decide +kernel
theorem dX12_apply_137 : decode cX12_apply 137 = .ok (.lor, 1) := by decide +kernel
theorem dX12_apply_138 : decode cX12_apply 138 = .ok (.lastore, 1) := by decide +kernel
theorem dX12_apply_139 : decode cX12_apply 139 = .ok (.iinc 3 1, 3) := by decide +kernel
theorem dX12_apply_142 : decode cX12_apply 142 = .ok (.goto (-81), 3) := by decide +kernel
theorem dX12_apply_145 : decode cX12_apply 145 = .ok (.aload_n 0, 1) := by decide +kernel
theorem dX12_apply_146 : decode cX12_apply 146 = .ok (.dup, 1) := by decide +kernel
theorem dX12_apply_147 : decode cX12_apply 147 = .ok (.getfield 164, 3) := by decide +kernel
theorem dX12_apply_150 : decode cX12_apply 150 = .ok (.iconst 1, 1) := by decide +kernel
theorem dX12_apply_151 : decode cX12_apply 151 = .ok (.isub, 1) := by decide +kernel
