theorem dX12_apply_152 : decode cX12_apply 152 = .ok (.putfield 164, 3) := by decide +kernel
theorem dX12_apply_155 : decode cX12_apply 155 = .ok (.return_, 1) := by decide +kernel
theorem dX12_settle_0 : decode cX12_settle 0 = .ok (.aload_n 0, 1) := by decide +kernel
theorem dX12_settle_1 : decode cX12_settle 1 = .ok (.getfield 170, 3) := by decide +kernel
theorem dX12_settle_4 : decode cX12_settle 4 = .ok (.ifCond .le 47, 3) := by decide +kernel
theorem dX12_settle_7 : decode cX12_settle 7 = .ok (.aload_n 0, 1) := by decide +kernel
theorem dX12_settle_8 : decode cX12_settle 8 = .ok (.getfield 44, 3) := by decide +kernel
theorem dX12_settle_11 : decode cX12_settle 11 = .ok (.aload_n 0, 1) := by decide +kernel
theorem dX12_settle_12 : decode cX12_settle 12 = .ok (.getfield 170, 3) := by decide +kernel
theorem dX12_settle_15 : decode cX12_settle 15 = .ok (.iconst 1, 1) := by decide +kernel
theorem dX12_settle_16 : decode cX12_settle 16 = .ok (.isub, 1) := by decide +kernel
theorem dX12_settle_17 : decode cX12_settle 17 = .ok (.iaload, 1) := by decide +kernel
theorem dX12_settle_18 : decode cX12_settle 18 = .ok (.invokestatic 173, 3) := by decide +kernel
theorem dX12_settle_21 : decode cX12_settle 21 = .ok (.iload_n 1, 1) := by decide +kernel
theorem dX12_settle_22 : decode cX12_settle 22 = .ok (.if_icmp .lt 29, 3) := by decide +kernel
theorem dX12_settle_25 : decode cX12_settle 25 = .ok (.aload_n 0, 1) := by decide +kernel
theorem dX12_settle_26 : decode cX12_settle 26 = .ok (.dup, 1) := by decide +kernel
theorem dX12_settle_27 : decode cX12_settle 27 = .ok (.getfield 170, 3) := by decide +kernel
theorem dX12_settle_30 : decode cX12_settle 30 = .ok (.iconst 1, 1) := by decide +kernel
theorem dX12_settle_31 : decode cX12_settle 31 = .ok (.isub, 1) := by decide +kernel
theorem dX12_settle_32 : decode cX12_settle 32 = .ok (.putfield 170, 3) := by decide +kernel
theorem dX12_settle_35 : decode cX12_settle 35 = .ok (.aload_n 0, 1) := by decide +kernel
theorem dX12_settle_36 : decode cX12_settle 36 = .ok (.aload_n 0, 1) := by decide +kernel
theorem dX12_settle_37 : decode cX12_settle 37 = .ok (.getfield 44, 3) := by decide +kernel
theorem dX12_settle_40 : decode cX12_settle 40 = .ok (.aload_n 0, 1) := by decide +kernel
theorem dX12_settle_41 : decode cX12_settle 41 = .ok (.getfield 170, 3) := by decide +kernel
theorem dX12_settle_44 : decode cX12_settle 44 = .ok (.iaload, 1) := by decide +kernel
theorem dX12_settle_45 : decode cX12_settle 45 = .ok (.invokevirtual 176, 3) := by decide +kernel
theorem dX12_settle_48 : decode cX12_settle 48 = .ok (.goto (-48), 3) := by decide +kernel
theorem dX12_settle_51 : decode cX12_settle 51 = .ok (.return_, 1) := by decide +kernel
theorem dX12_opened_0 : decode cX12_opened 0 = .ok (.aload_n 0, 1) := by decide +kernel
theorem dX12_opened_1 : decode cX12_opened 1 = .ok (.getfield 167, 3) := by decide +kernel
theorem dX12_opened_4 : decode cX12_opened 4 = .ok (.bipush 10, 2) := by decide +kernel
theorem dX12_opened_6 : decode cX12_opened 6 = .ok (.if_icmp .ne 6, 3) := by decide +kernel
theorem dX12_opened_9 : decode cX12_opened 9 = .ok (.bipush 6, 2) := by decide +kernel
theorem dX12_opened_11 : decode cX12_opened 11 = .ok (.ireturn, 1) := by decide +kernel
theorem dX12_opened_12 : decode cX12_opened 12 = .ok (.aload_n 0, 1) := by decide +kernel
theorem dX12_opened_13 : decode cX12_opened 13 = .ok (.dup, 1) := by decide +kernel
theorem dX12_opened_14 : decode cX12_opened 14 = .ok (.getfield 167, 3) := by decide +kernel
theorem dX12_opened_17 : decode cX12_opened 17 = .ok (.iconst 1, 1) := by decide +kernel
theorem dX12_opened_18 : decode cX12_opened 18 = .ok (.iadd, 1) := by decide +kernel
theorem dX12_opened_19 : decode cX12_opened 19 = .ok (.putfield 167, 3) := by decide +kernel
theorem dX12_opened_22 : decode cX12_opened 22 = .ok (.aload_n 0, 1) := by decide +kernel
theorem dX12_opened_23 : decode cX12_opened 23 = .ok (.getfield 44, 3) := by decide +kernel
theorem dX12_opened_26 : decode cX12_opened 26 = .ok (.aload_n 0, 1) := by decide +kernel
theorem dX12_opened_27 : decode cX12_opened 27 = .ok (.getfield 170, 3) := by decide +kernel
theorem dX12_opened_30 : decode cX12_opened 30 = .ok (.aload_n 0, 1) := by decide +kernel
theorem dX12_opened_31 : decode cX12_opened 31 = .ok (.getfield 148, 3) := by decide +kernel
theorem dX12_opened_34 : decode cX12_opened 34 = .ok (.iastore, 1) := by decide +kernel
theorem dX12_opened_35 : decode cX12_opened 35 = .ok (.aload_n 0, 1) := by decide +kernel
theorem dX12_opened_36 : decode cX12_opened 36 = .ok (.dup, 1) := by decide +kernel
theorem dX12_opened_37 : decode cX12_opened 37 = .ok (.getfield 170, 3) := by decide +kernel
theorem dX12_opened_40 : decode cX12_opened 40 = .ok (.iconst 1, 1) := by decide +kernel
theorem dX12_opened_41 : decode cX12_opened 41 = .ok (.iadd, 1) := by decide +kernel
theorem dX12_opened_42 : decode cX12_opened 42 = .ok (.putfield 170, 3) := by decide +kernel
theorem dX12_opened_45 : decode cX12_opened 45 = .ok (.aload_n 0, 1) := by decide +kernel
theorem dX12_opened_46 : decode cX12_opened 46 = .ok (.invokevirtual 179, 3) := by decide +kernel
theorem dX12_opened_49 : decode cX12_opened 49 = .ok (.iconst 0, 1) := by decide +kernel
theorem dX12_opened_50 : decode cX12_opened 50 = .ok (.ireturn, 1) := by decide +kernel
theorem dX12_atom_0 : decode cX12_atom 0 = .ok (.aload_n 0, 1) := by decide +kernel
theorem dX12_atom_1 : decode cX12_atom 1 = .ok (.getfield 148, 3) := by decide +kernel
theorem dX12_atom_4 : decode cX12_atom 4 = .ok (.sipush 204, 3) := by decide +kernel
theorem dX12_atom_7 : decode cX12_atom 7 = .ok (.if_icmp .ne 35, 3) := by decide +kernel
theorem dX12_atom_10 : decode cX12_atom 10 = .ok (.aload_n 0, 1) := by decide +kernel
theorem dX12_atom_11 : decode cX12_atom 11 = .ok (.getfield 138, 3) := by decide +kernel
theorem dX12_atom_14 : decode cX12_atom 14 = .ok (.aload_n 0, 1) := by decide +kernel
theorem dX12_atom_15 : decode cX12_atom 15 = .ok (.getfield 182, 3) := by decide +kernel
theorem dX12_atom_18 : decode cX12_atom 18 = .ok (.if_icmp .lt 5, 3) := by decide +kernel
theorem dX12_atom_21 : decode cX12_atom 21 = .ok (.iconst 3, 1) := by decide +kernel
theorem dX12_atom_22 : decode cX12_atom 22 = .ok (.ireturn, 1) := by decide +kernel
theorem dX12_atom_23 : decode cX12_atom 23 = .ok (.aload_n 0, 1) := by decide +kernel
theorem dX12_atom_24 : decode cX12_atom 24 = .ok (.getfield 138, 3) := by decide +kernel
theorem dX12_atom_27 : decode cX12_atom 27 = .ok (.invokestatic 121, 3) := by decide +kernel
theorem dX12_atom_30 : decode cX12_atom 30 = .ok (.lstore_n 1, 1) := by decide +kernel
theorem dX12_atom_31 : decode cX12_atom 31 = .ok (.aload_n 0, 1) := by decide +kernel
theorem dX12_atom_32 : decode cX12_atom 32 = .ok (.lload_n 1, 1) := by decide +kernel
theorem dX12_atom_33 : decode cX12_atom 33 = .ok (.lload_n 1, 1) := by decide +kernel
theorem dX12_atom_34 : decode cX12_atom 34 = .ok (.lload_n 1, 1) := by decide +kernel
theorem dX12_atom_35 : decode cX12_atom 35 = .ok (.lload_n 1, 1) := by decide +kernel
theorem dX12_atom_36 : decode cX12_atom 36 = .ok (.invokevirtual 185, 3) := by decide +kernel
theorem dX12_atom_39 : decode cX12_atom 39 = .ok (.goto 109, 3) := by decide +kernel
theorem dX12_atom_42 : decode cX12_atom 42 = .ok (.aload_n 0, 1) := by decide +kernel
theorem dX12_atom_43 : decode cX12_atom 43 = .ok (.getfield 148, 3) := by decide +kernel
theorem dX12_atom_46 : decode cX12_atom 46 = .ok (.sipush 205, 3) := by decide +kernel
theorem dX12_atom_49 : decode cX12_atom 49 = .ok (.if_icmp .ne 52, 3) := by decide +kernel
theorem dX12_atom_52 : decode cX12_atom 52 = .ok (.aload_n 0, 1) := by decide +kernel
theorem dX12_atom_53 : decode cX12_atom 53 = .ok (.getfield 189, 3) := by decide +kernel
theorem dX12_atom_56 : decode cX12_atom 56 = .ok (.ifCond .ne 5, 3) := by decide +kernel
theorem dX12_atom_59 : decode cX12_atom 59 = .ok (.iconst 5, 1) := by decide +kernel
theorem dX12_atom_60 : decode cX12_atom 60 = .ok (.ireturn, 1) := by decide +kernel
theorem dX12_atom_61 : decode cX12_atom 61 = .ok (.aload_n 0, 1) := by decide +kernel
theorem dX12_atom_62 : decode cX12_atom 62 = .ok (.lconst 0, 1) := by decide +kernel
theorem dX12_atom_63 : decode cX12_atom 63 = .ok (.aload_n 0, 1) := by decide +kernel
theorem dX12_atom_64 : decode cX12_atom 64 = .ok (.getfield 138, 3) := by decide +kernel
theorem dX12_atom_67 : decode cX12_atom 67 = .ok (.ifCond .ne 9, 3) := by decide +kernel
theorem dX12_atom_70 : decode cX12_atom 70 = .ok (.ldc2_w 92, 3) := by decide +kernel
theorem dX12_atom_73 : decode cX12_atom 73 = .ok (.goto 4, 3) := by decide +kernel
theorem dX12_atom_76 : decode cX12_atom 76 = .ok (.lconst 0, 1) := by decide +kernel
theorem dX12_atom_77 : decode cX12_atom 77 = .ok (.aload_n 0, 1) := by decide +kernel
theorem dX12_atom_78 : decode cX12_atom 78 = .ok (.getfield 138, 3) := by decide +kernel
theorem dX12_atom_81 : decode cX12_atom 81 = .ok (.iconst 1, 1) := by decide +kernel
theorem dX12_atom_82 : decode cX12_atom 82 = .ok (.if_icmp .ne 9, 3) := by decide +kernel
theorem dX12_atom_85 : decode cX12_atom 85 = .ok (.ldc2_w 92, 3) := by decide +kernel
theorem dX12_atom_88 : decode cX12_atom 88 = .ok (.goto 4, 3) := by decide +kernel
theorem dX12_atom_91 : decode cX12_atom 91 = .ok (.lconst 0, 1) := by decide +kernel
theorem dX12_atom_92 : decode cX12_atom 92 = .ok (.ldc2_w 92, 3) := by decide +kernel
theorem dX12_atom_95 : decode cX12_atom 95 = .ok (.invokevirtual 185, 3) := by decide +kernel
theorem dX12_atom_98 : decode cX12_atom 98 = .ok (.goto 50, 3) := by decide +kernel
theorem dX12_atom_101 : decode cX12_atom 101 = .ok (.aload_n 0, 1) := by decide +kernel
theorem dX12_atom_102 : decode cX12_atom 102 = .ok (.getfield 148, 3) := by decide +kernel
theorem dX12_atom_105 : decode cX12_atom 105 = .ok (.iconst 1, 1) := by decide +kernel
theorem dX12_atom_106 : decode cX12_atom 106 = .ok (.if_icmp .ne 40, 3) := by decide +kernel
theorem dX12_atom_109 : decode cX12_atom 109 = .ok (.aload_n 0, 1) := by decide +kernel
theorem dX12_atom_110 : decode cX12_atom 110 = .ok (.getfield 138, 3) := by decide +kernel
theorem dX12_atom_113 : decode cX12_atom 113 = .ok (.iconst 1, 1) := by decide +kernel
theorem dX12_atom_114 : decode cX12_atom 114 = .ok (.if_icmp .le 5, 3) := by decide +kernel
theorem dX12_atom_117 : decode cX12_atom 117 = .ok (.iconst 2, 1) := by decide +kernel
theorem dX12_atom_118 : decode cX12_atom 118 = .ok (.ireturn, 1) := by decide +kernel
theorem dX12_atom_119 : decode cX12_atom 119 = .ok (.aload_n 0, 1) := by decide +kernel
theorem dX12_atom_120 : decode cX12_atom 120 = .ok (.getfield 138, 3) := by decide +kernel
theorem dX12_atom_123 : decode cX12_atom 123 = .ok (.iconst 1, 1) := by decide +kernel
theorem dX12_atom_124 : decode cX12_atom 124 = .ok (.if_icmp .ne 9, 3) := by decide +kernel
theorem dX12_atom_127 : decode cX12_atom 127 = .ok (.ldc2_w 92, 3) := by decide +kernel
theorem dX12_atom_130 : decode cX12_atom 130 = .ok (.goto 4, 3) := by decide +kernel
theorem dX12_atom_133 : decode cX12_atom 133 = .ok (.lconst 0, 1) := by decide +kernel
theorem dX12_atom_134 : decode cX12_atom 134 = .ok (.lstore_n 1, 1) := by decide +kernel
theorem dX12_atom_135 : decode cX12_atom 135 = .ok (.aload_n 0, 1) := by decide +kernel
theorem dX12_atom_136 : decode cX12_atom 136 = .ok (.lload_n 1, 1) := by decide +kernel
theorem dX12_atom_137 : decode cX12_atom 137 = .ok (.lload_n 1, 1) := by decide +kernel
theorem dX12_atom_138 : decode cX12_atom 138 = .ok (.lload_n 1, 1) := by decide +kernel
theorem dX12_atom_139 : decode cX12_atom 139 = .ok (.lload_n 1, 1) := by decide +kernel
theorem dX12_atom_140 : decode cX12_atom 140 = .ok (.invokevirtual 185, 3) := by decide +kernel
theorem dX12_atom_143 : decode cX12_atom 143 = .ok (.goto 5, 3) := by decide +kernel
theorem dX12_atom_146 : decode cX12_atom 146 = .ok (.iconst 1, 1) := by decide +kernel
theorem dX12_atom_147 : decode cX12_atom 147 = .ok (.ireturn, 1) := by decide +kernel
theorem dX12_atom_148 : decode cX12_atom 148 = .ok (.aload_n 0, 1) := by decide +kernel
theorem dX12_atom_149 : decode cX12_atom 149 = .ok (.invokevirtual 179, 3) := by decide +kernel
theorem dX12_atom_152 : decode cX12_atom 152 = .ok (.aload_n 0, 1) := by decide +kernel
theorem dX12_atom_153 : decode cX12_atom 153 = .ok (.iconst 4, 1) := by decide +kernel
theorem dX12_atom_154 : decode cX12_atom 154 = .ok (.invokevirtual 193, 3) := by decide +kernel
theorem dX12_atom_157 : decode cX12_atom 157 = .ok (.iconst 0, 1) := by decide +kernel
theorem dX12_atom_158 : decode cX12_atom 158 = .ok (.ireturn, 1) := by decide +kernel
theorem dX12_isBetween_0 : decode cX12_isBetween 0 = .ok (.aload_n 0, 1) := by decide +kernel
theorem dX12_isBetween_1 : decode cX12_isBetween 1 = .ok (.getfield 148, 3) := by decide +kernel
theorem dX12_isBetween_4 : decode cX12_isBetween 4 = .ok (.bipush 38, 2) := by decide +kernel
theorem dX12_isBetween_6 : decode cX12_isBetween 6 = .ok (.if_icmp .eq 21, 3) := by decide +kernel
theorem dX12_isBetween_9 : decode cX12_isBetween 9 = .ok (.aload_n 0, 1) := by decide +kernel
theorem dX12_isBetween_10 : decode cX12_isBetween 10 = .ok (.getfield 148, 3) := by decide +kernel
theorem dX12_isBetween_13 : decode cX12_isBetween 13 = .ok (.bipush 94, 2) := by decide +kernel
theorem dX12_isBetween_15 : decode cX12_isBetween 15 = .ok (.if_icmp .eq 12, 3) := by decide +kernel
theorem dX12_isBetween_18 : decode cX12_isBetween 18 = .ok (.aload_n 0, 1) := by decide +kernel
theorem dX12_isBetween_19 : decode cX12_isBetween 19 = .ok (.getfield 148, 3) := by decide +kernel
theorem dX12_isBetween_22 : decode cX12_isBetween 22 = .ok (.bipush 124, 2) := by decide +kernel
theorem dX12_isBetween_24 : decode cX12_isBetween 24 = .ok (.if_icmp .ne 7, 3) := by decide +kernel
theorem dX12_isBetween_27 : decode cX12_isBetween 27 = .ok (.iconst 1, 1) := by decide +kernel
theorem dX12_isBetween_28 : decode cX12_isBetween 28 = .ok (.goto 4, 3) := by decide +kernel
theorem dX12_isBetween_31 : decode cX12_isBetween 31 = .ok (.iconst 0, 1) := by decide +kernel
theorem dX12_isBetween_32 : decode cX12_isBetween 32 = .ok (.ireturn, 1) := by decide +kernel
theorem dX12_form_0 : decode cX12_form 0 = .ok (.aload_n 0, 1) := by decide +kernel
theorem dX12_form_1 : decode cX12_form 1 = .ok (.iconst 0, 1) := by decide +kernel
theorem dX12_form_2 : decode cX12_form 2 = .ok (.putfield 164, 3) := by decide +kernel
theorem dX12_form_5 : decode cX12_form 5 = .ok (.aload_n 0, 1) := by decide +kernel
theorem dX12_form_6 : decode cX12_form 6 = .ok (.iconst 0, 1) := by decide +kernel
theorem dX12_form_7 : decode cX12_form 7 = .ok (.putfield 170, 3) := by decide +kernel
theorem dX12_form_10 : decode cX12_form 10 = .ok (.aload_n 0, 1) := by decide +kernel
theorem dX12_form_11 : decode cX12_form 11 = .ok (.iconst 0, 1) := by decide +kernel
theorem dX12_form_12 : decode cX12_form 12 = .ok (.putfield 167, 3) := by decide +kernel
theorem dX12_form_15 : decode cX12_form 15 = .ok (.iconst 0, 1) := by decide +kernel
theorem dX12_form_16 : decode cX12_form 16 = .ok (.istore_n 1, 1) := by decide +kernel
theorem dX12_form_17 : decode cX12_form 17 = .ok (.iload_n 1, 1) := by decide +kernel
theorem dX12_form_18 : decode cX12_form 18 = .ok (.ifCond .ne 62, 3) := by decide +kernel
theorem dX12_form_21 : decode cX12_form 21 = .ok (.aload_n 0, 1) := by decide +kernel
theorem dX12_form_22 : decode cX12_form 22 = .ok (.getfield 148, 3) := by decide +kernel
theorem dX12_form_25 : decode cX12_form 25 = .ok (.bipush 40, 2) := by decide +kernel
theorem dX12_form_27 : decode cX12_form 27 = .ok (.if_icmp .eq 12, 3) := by decide +kernel
theorem dX12_form_30 : decode cX12_form 30 = .ok (.aload_n 0, 1) := by decide +kernel
theorem dX12_form_31 : decode cX12_form 31 = .ok (.getfield 148, 3) := by decide +kernel
theorem dX12_form_34 : decode cX12_form 34 = .ok (.bipush 33, 2) := by decide +kernel
theorem dX12_form_36 : decode cX12_form 36 = .ok (.if_icmp .ne 7, 3) := by decide +kernel
theorem dX12_form_39 : decode cX12_form 39 = .ok (.iconst 1, 1) := by decide +kernel
theorem dX12_form_40 : decode cX12_form 40 = .ok (.goto 4, 3) := by decide +kernel
theorem dX12_form_43 : decode cX12_form 43 = .ok (.iconst 0, 1) := by decide +kernel
theorem dX12_form_44 : decode cX12_form 44 = .ok (.istore_n 2, 1) := by decide +kernel
theorem dX12_form_45 : decode cX12_form 45 = .ok (.iload_n 2, 1) := by decide +kernel
theorem dX12_form_46 : decode cX12_form 46 = .ok (.ifCond .eq 10, 3) := by decide +kernel
theorem dX12_form_49 : decode cX12_form 49 = .ok (.aload_n 0, 1) := by decide +kernel
theorem dX12_form_50 : decode cX12_form 50 = .ok (.invokevirtual 196, 3) := by decide +kernel
theorem dX12_form_53 : decode cX12_form 53 = .ok (.goto 7, 3) := by decide +kernel
theorem dX12_form_56 : decode cX12_form 56 = .ok (.aload_n 0, 1) := by decide +kernel
theorem dX12_form_57 : decode cX12_form 57 = .ok (.invokevirtual 199, 3) := by decide +kernel
theorem dX12_form_60 : decode cX12_form 60 = .ok (.istore_n 3, 1) := by decide +kernel
theorem dX12_form_61 : decode cX12_form 61 = .ok (.iload_n 3, 1) := by decide +kernel
theorem dX12_form_62 : decode cX12_form 62 = .ok (.ifCond .eq 5, 3) := by decide +kernel
theorem dX12_form_65 : decode cX12_form 65 = .ok (.iload_n 3, 1) := by decide +kernel
theorem dX12_form_66 : decode cX12_form 66 = .ok (.ireturn, 1) := by decide +kernel
theorem dX12_form_67 : decode cX12_form 67 = .ok (.iload_n 2, 1) := by decide +kernel
theorem dX12_form_68 : decode cX12_form 68 = .ok (.ifCond .ne 7, 3) := by decide +kernel
theorem dX12_form_71 : decode cX12_form 71 = .ok (.iconst 1, 1) := by decide +kernel
theorem dX12_form_72 : decode cX12_form 72 = .ok (.goto 4, 3) := by decide +kernel
theorem dX12_form_75 : decode cX12_form 75 = .ok (.iconst 0, 1) := by decide +kernel
theorem dX12_form_76 : decode cX12_form 76 = .ok (.istore_n 1, 1) := by decide +kernel
theorem dX12_form_77 : decode cX12_form 77 = .ok (.goto (-60), 3) := by decide +kernel
theorem dX12_form_80 : decode cX12_form 80 = .ok (.aload_n 0, 1) := by decide +kernel
theorem dX12_form_81 : decode cX12_form 81 = .ok (.invokevirtual 202, 3) := by decide +kernel
theorem dX12_form_84 : decode cX12_form 84 = .ok (.ifCond .eq 46, 3) := by decide +kernel
theorem dX12_form_87 : decode cX12_form 87 = .ok (.aload_n 0, 1) := by decide +kernel
theorem dX12_form_88 : decode cX12_form 88 = .ok (.aload_n 0, 1) := by decide +kernel
theorem dX12_form_89 : decode cX12_form 89 = .ok (.getfield 148, 3) := by decide +kernel
theorem dX12_form_92 : decode cX12_form 92 = .ok (.invokestatic 173, 3) := by decide +kernel
theorem dX12_form_95 : decode cX12_form 95 = .ok (.invokevirtual 193, 3) := by decide +kernel
theorem dX12_form_98 : decode cX12_form 98 = .ok (.aload_n 0, 1) := by decide +kernel
theorem dX12_form_99 : decode cX12_form 99 = .ok (.getfield 44, 3) := by decide +kernel
theorem dX12_form_102 : decode cX12_form 102 = .ok (.aload_n 0, 1) := by decide +kernel
theorem dX12_form_103 : decode cX12_form 103 = .ok (.getfield 170, 3) := by decide +kernel
theorem dX12_form_106 : decode cX12_form 106 = .ok (.aload_n 0, 1) := by decide +kernel
theorem dX12_form_107 : decode cX12_form 107 = .ok (.getfield 148, 3) := by decide +kernel
theorem dX12_form_110 : decode cX12_form 110 = .ok (.iastore, 1) := by decide +kernel
theorem dX12_form_111 : decode cX12_form 111 = .ok (.aload_n 0, 1) := by decide +kernel
theorem dX12_form_112 : decode cX12_form 112 = .ok (.dup, 1) := by decide +kernel
theorem dX12_form_113 : decode cX12_form 113 = .ok (.getfield 170, 3) := by decide +kernel
theorem dX12_form_116 : decode cX12_form 116 = .ok (.iconst 1, 1) := by decide +kernel
theorem dX12_form_117 : decode cX12_form 117 = .ok (.iadd, 1) := by decide +kernel
theorem dX12_form_118 : decode cX12_form 118 = .ok (.putfield 170, 3) := by decide +kernel
theorem dX12_form_121 : decode cX12_form 121 = .ok (.aload_n 0, 1) := by decide +kernel
theorem dX12_form_122 : decode cX12_form 122 = .ok (.invokevirtual 179, 3) := by decide +kernel
theorem dX12_form_125 : decode cX12_form 125 = .ok (.iconst 0, 1) := by decide +kernel
theorem dX12_form_126 : decode cX12_form 126 = .ok (.istore_n 1, 1) := by decide +kernel
theorem dX12_form_127 : decode cX12_form 127 = .ok (.goto (-110), 3) := by decide +kernel
theorem dX12_form_130 : decode cX12_form 130 = .ok (.aload_n 0, 1) := by decide +kernel
theorem dX12_form_131 : decode cX12_form 131 = .ok (.iconst 1, 1) := by decide +kernel
theorem dX12_form_132 : decode cX12_form 132 = .ok (.invokevirtual 193, 3) := by decide +kernel
theorem dX12_form_135 : decode cX12_form 135 = .ok (.aload_n 0, 1) := by decide +kernel
theorem dX12_form_136 : decode cX12_form 136 = .ok (.getfield 170, 3) := by decide +kernel
theorem dX12_form_139 : decode cX12_form 139 = .ok (.ifCond .ne 5, 3) := by decide +kernel
theorem dX12_form_142 : decode cX12_form 142 = .ok (.iconst 0, 1) := by decide +kernel
theorem dX12_form_143 : decode cX12_form 143 = .ok (.ireturn, 1) := by decide +kernel
theorem dX12_form_144 : decode cX12_form 144 = .ok (.aload_n 0, 1) := by decide +kernel
theorem dX12_form_145 : decode cX12_form 145 = .ok (.getfield 148, 3) := by decide +kernel
theorem dX12_form_148 : decode cX12_form 148 = .ok (.bipush 41, 2) := by decide +kernel
theorem dX12_form_150 : decode cX12_form 150 = .ok (.if_icmp .eq 5, 3) := by decide +kernel
theorem dX12_form_153 : decode cX12_form 153 = .ok (.iconst 1, 1) := by decide +kernel
theorem dX12_form_154 : decode cX12_form 154 = .ok (.ireturn, 1) := by decide +kernel
theorem dX12_form_155 : decode cX12_form 155 = .ok (.aload_n 0, 1) := by decide +kernel
theorem dX12_form_156 : decode cX12_form 156 = .ok (.dup, 1) := by decide +kernel
theorem dX12_form_157 : decode cX12_form 157 = .ok (.getfield 170, 3) := by decide +kernel
theorem dX12_form_160 : decode cX12_form 160 = .ok (.iconst 1, 1) := by decide +kernel
theorem dX12_form_161 : decode cX12_form 161 = .ok (.isub, 1) := by decide +kernel
theorem dX12_form_162 : decode cX12_form 162 = .ok (.putfield 170, 3) := by decide +kernel
theorem dX12_form_165 : decode cX12_form 165 = .ok (.aload_n 0, 1) := by decide +kernel
theorem dX12_form_166 : decode cX12_form 166 = .ok (.dup, 1) := by decide +kernel
theorem dX12_form_167 : decode cX12_form 167 = .ok (.getfield 167, 3) := by decide +kernel
theorem dX12_form_170 : decode cX12_form 170 = .ok (.iconst 1, 1) := by decide +kernel
theorem dX12_form_171 : decode cX12_form 171 = .ok (.isub, 1) := by decide +kernel
theorem dX12_form_172 : decode cX12_form 172 = .ok (.putfield 167, 3) := by decide +kernel
theorem dX12_form_175 : decode cX12_form 175 = .ok (.aload_n 0, 1) := by decide +kernel
theorem dX12_form_176 : decode cX12_form 176 = .ok (.invokevirtual 179, 3) := by decide +kernel
theorem dX12_form_179 : decode cX12_form 179 = .ok (.aload_n 0, 1) := by decide +kernel
theorem dX12_form_180 : decode cX12_form 180 = .ok (.iconst 4, 1) := by decide +kernel
theorem dX12_form_181 : decode cX12_form 181 = .ok (.invokevirtual 193, 3) := by decide +kernel
theorem dX12_form_184 : decode cX12_form 184 = .ok (.goto (-167), 3) := by decide +kernel
theorem dX12_formAt_0 : decode cX12_formAt 0 = .ok (.aload_n 0, 1) := by decide +kernel
theorem dX12_formAt_1 : decode cX12_formAt 1 = .ok (.iload_n 2, 1) := by decide +kernel
theorem dX12_formAt_2 : decode cX12_formAt 2 = .ok (.putfield 189, 3) := by decide +kernel
theorem dX12_formAt_5 : decode cX12_formAt 5 = .ok (.aload_n 0, 1) := by decide +kernel
theorem dX12_formAt_6 : decode cX12_formAt 6 = .ok (.invokevirtual 206, 3) := by decide +kernel
theorem dX12_formAt_9 : decode cX12_formAt 9 = .ok (.istore_n 3, 1) := by decide +kernel
theorem dX12_formAt_10 : decode cX12_formAt 10 = .ok (.iload_n 3, 1) := by decide +kernel
theorem dX12_formAt_11 : decode cX12_formAt 11 = .ok (.ifCond .eq 5, 3) := by decide +kernel
theorem dX12_formAt_14 : decode cX12_formAt 14 = .ok (.iload_n 3, 1) := by decide +kernel
theorem dX12_formAt_15 : decode cX12_formAt 15 = .ok (.ireturn, 1) := by decide +kernel
theorem dX12_formAt_16 : decode cX12_formAt 16 = .ok (.iconst 0, 1) := by decide +kernel
theorem dX12_formAt_17 : decode cX12_formAt 17 = .ok (.istore 4, 2) := by decide +kernel
theorem dX12_formAt_19 : decode cX12_formAt 19 = .ok (.iload 4, 2) := by decide +kernel
theorem dX12_formAt_21 : decode cX12_formAt 21 = .ok (.iload_n 2, 1) := by decide +kernel
theorem dX12_formAt_22 : decode cX12_formAt 22 = .ok (.ifCond .eq 7, 3) := by decide +kernel
theorem dX12_formAt_25 : decode cX12_formAt 25 = .ok (.iconst 4, 1) := by decide +kernel
theorem dX12_formAt_26 : decode cX12_formAt 26 = .ok (.goto 4, 3) := by decide +kernel
theorem dX12_formAt_29 : decode cX12_formAt 29 = .ok (.iconst 1, 1) := by decide +kernel
theorem dX12_formAt_30 : decode cX12_formAt 30 = .ok (.if_icmp .ge 25, 3) := by decide +kernel
theorem dX12_formAt_33 : decode cX12_formAt 33 = .ok (.aload_n 0, 1) := by decide +kernel
theorem dX12_formAt_34 : decode cX12_formAt 34 = .ok (.getfield 27, 3) := by decide +kernel
theorem dX12_formAt_37 : decode cX12_formAt 37 = .ok (.iload_n 1, 1) := by decide +kernel
theorem dX12_formAt_38 : decode cX12_formAt 38 = .ok (.iload 4, 2) := by decide +kernel
theorem dX12_formAt_40 : decode cX12_formAt 40 = .ok (.iadd, 1) := by decide +kernel
theorem dX12_formAt_41 : decode cX12_formAt 41 = .ok (.aload_n 0, 1) := by decide +kernel
theorem dX12_formAt_42 : decode cX12_formAt 42 = .ok (.getfield 41, 3) := by decide +kernel
theorem dX12_formAt_45 : decode cX12_formAt 45 = .ok (.iload 4, 2) := by decide +kernel
theorem dX12_formAt_47 : decode cX12_formAt 47 = .ok (.laload, 1) := by decide +kernel
theorem dX12_formAt_48 : decode cX12_formAt 48 = .ok (.lastore, 1) := by decide +kernel
theorem dX12_formAt_49 : decode cX12_formAt 49 = .ok (.iinc 4 1, 3) := by decide +kernel
theorem dX12_formAt_52 : decode cX12_formAt 52 = .ok (.goto (-33), 3) := by decide +kernel
theorem dX12_formAt_55 : decode cX12_formAt 55 = .ok (.iconst 0, 1) := by decide +kernel
theorem dX12_formAt_56 : decode cX12_formAt 56 = .ok (.ireturn, 1) := by decide +kernel
theorem dX12_formsOf_0 : decode cX12_formsOf 0 = .ok (.bipush 29, 2) := by decide +kernel
theorem dX12_formsOf_2 : decode cX12_formsOf 2 = .ok (.iload_n 0, 1) := by decide +kernel
theorem dX12_formsOf_3 : decode cX12_formsOf 3 = .ok (.imul, 1) := by decide +kernel
theorem dX12_formsOf_4 : decode cX12_formsOf 4 = .ok (.ireturn, 1) := by decide +kernel
theorem dX12_lettersClause_0 : decode cX12_lettersClause 0 = .ok (.iload_n 2, 1) := by decide +kernel
theorem dX12_lettersClause_1 : decode cX12_lettersClause 1 = .ok (.ifCond .le 5, 3) := by decide +kernel
theorem dX12_lettersClause_4 : decode cX12_lettersClause 4 = .ok (.iconst 1, 1) := by decide +kernel
theorem dX12_lettersClause_5 : decode cX12_lettersClause 5 = .ok (.ireturn, 1) := by decide +kernel
theorem dX12_lettersClause_6 : decode cX12_lettersClause 6 = .ok (.aload_n 0, 1) := by decide +kernel
theorem dX12_lettersClause_7 : decode cX12_lettersClause 7 = .ok (.invokevirtual 179, 3) := by decide +kernel
theorem dX12_lettersClause_10 : decode cX12_lettersClause 10 = .ok (.aload_n 0, 1) := by decide +kernel
theorem dX12_lettersClause_11 : decode cX12_lettersClause 11 = .ok (.getfield 148, 3) := by decide +kernel
theorem dX12_lettersClause_14 : decode cX12_lettersClause 14 = .ok (.iconst 1, 1) := by decide +kernel
theorem dX12_lettersClause_15 : decode cX12_lettersClause 15 = .ok (.if_icmp .eq 5, 3) := by decide +kernel
theorem dX12_lettersClause_18 : decode cX12_lettersClause 18 = .ok (.iconst 1, 1) := by decide +kernel
theorem dX12_lettersClause_19 : decode cX12_lettersClause 19 = .ok (.ireturn, 1) := by decide +kernel
theorem dX12_lettersClause_20 : decode cX12_lettersClause 20 = .ok (.aload_n 0, 1) := by decide +kernel
theorem dX12_lettersClause_21 : decode cX12_lettersClause 21 = .ok (.getfield 138, 3) := by decide +kernel
theorem dX12_lettersClause_24 : decode cX12_lettersClause 24 = .ok (.iconst 1, 1) := by decide +kernel
theorem dX12_lettersClause_25 : decode cX12_lettersClause 25 = .ok (.bipush 6, 2) := by decide +kernel
theorem dX12_lettersClause_27 : decode cX12_lettersClause 27 = .ok (.invokestatic 105, 3) := by decide +kernel
theorem dX12_lettersClause_30 : decode cX12_lettersClause 30 = .ok (.ifCond .ne 5, 3) := by decide +kernel
theorem dX12_lettersClause_33 : decode cX12_lettersClause 33 = .ok (.iconst 2, 1) := by decide +kernel
theorem dX12_lettersClause_34 : decode cX12_lettersClause 34 = .ok (.ireturn, 1) := by decide +kernel
theorem dX12_lettersClause_35 : decode cX12_lettersClause 35 = .ok (.aload_n 0, 1) := by decide +kernel
theorem dX12_lettersClause_36 : decode cX12_lettersClause 36 = .ok (.aload_n 0, 1) := by decide +kernel
theorem dX12_lettersClause_37 : decode cX12_lettersClause 37 = .ok (.getfield 138, 3) := by decide +kernel
theorem dX12_lettersClause_40 : decode cX12_lettersClause 40 = .ok (.putfield 182, 3) := by decide +kernel
theorem dX12_lettersClause_43 : decode cX12_lettersClause 43 = .ok (.aload_n 0, 1) := by decide +kernel
theorem dX12_lettersClause_44 : decode cX12_lettersClause 44 = .ok (.getfield 24, 3) := by decide +kernel
theorem dX12_lettersClause_47 : decode cX12_lettersClause 47 = .ok (.iconst 2, 1) := by decide +kernel
theorem dX12_lettersClause_48 : decode cX12_lettersClause 48 = .ok (.iload_n 1, 1) := by decide +kernel
theorem dX12_lettersClause_49 : decode cX12_lettersClause 49 = .ok (.imul, 1) := by decide +kernel
theorem dX12_lettersClause_50 : decode cX12_lettersClause 50 = .ok (.aload_n 0, 1) := by decide +kernel
theorem dX12_lettersClause_51 : decode cX12_lettersClause 51 = .ok (.getfield 138, 3) := by decide +kernel
theorem dX12_lettersClause_54 : decode cX12_lettersClause 54 = .ok (.iastore, 1) := by decide +kernel
theorem dX12_lettersClause_55 : decode cX12_lettersClause 55 = .ok (.aload_n 0, 1) := by decide +kernel
theorem dX12_lettersClause_56 : decode cX12_lettersClause 56 = .ok (.invokevirtual 179, 3) := by decide +kernel
theorem dX12_lettersClause_59 : decode cX12_lettersClause 59 = .ok (.iconst 0, 1) := by decide +kernel
theorem dX12_lettersClause_60 : decode cX12_lettersClause 60 = .ok (.ireturn, 1) := by decide +kernel
theorem dX12_nextClause_0 : decode cX12_nextClause 0 = .ok (.aload_n 0, 1) := by decide +kernel
theorem dX12_nextClause_1 : decode cX12_nextClause 1 = .ok (.invokevirtual 179, 3) := by decide +kernel
theorem dX12_nextClause_4 : decode cX12_nextClause 4 = .ok (.aload_n 0, 1) := by decide +kernel
theorem dX12_nextClause_5 : decode cX12_nextClause 5 = .ok (.getfield 148, 3) := by decide +kernel
theorem dX12_nextClause_8 : decode cX12_nextClause 8 = .ok (.sipush 204, 3) := by decide +kernel
theorem dX12_nextClause_11 : decode cX12_nextClause 11 = .ok (.if_icmp .eq 5, 3) := by decide +kernel
theorem dX12_nextClause_14 : decode cX12_nextClause 14 = .ok (.iconst 1, 1) := by decide +kernel
theorem dX12_nextClause_15 : decode cX12_nextClause 15 = .ok (.ireturn, 1) := by decide +kernel
theorem dX12_nextClause_16 : decode cX12_nextClause 16 = .ok (.aload_n 0, 1) := by decide +kernel
theorem dX12_nextClause_17 : decode cX12_nextClause 17 = .ok (.getfield 138, 3) := by decide +kernel
theorem dX12_nextClause_20 : decode cX12_nextClause 20 = .ok (.aload_n 0, 1) := by decide +kernel
theorem dX12_nextClause_21 : decode cX12_nextClause 21 = .ok (.getfield 182, 3) := by decide +kernel
theorem dX12_nextClause_24 : decode cX12_nextClause 24 = .ok (.if_icmp .lt 5, 3) := by decide +kernel
theorem dX12_nextClause_27 : decode cX12_nextClause 27 = .ok (.iconst 3, 1) := by decide +kernel
theorem dX12_nextClause_28 : decode cX12_nextClause 28 = .ok (.ireturn, 1) := by decide +kernel
theorem dX12_nextClause_29 : decode cX12_nextClause 29 = .ok (.aload_n 0, 1) := by decide +kernel
theorem dX12_nextClause_30 : decode cX12_nextClause 30 = .ok (.getfield 209, 3) := by decide +kernel
theorem dX12_nextClause_33 : decode cX12_nextClause 33 = .ok (.aload_n 0, 1) := by decide +kernel
theorem dX12_nextClause_34 : decode cX12_nextClause 34 = .ok (.getfield 138, 3) := by decide +kernel
theorem dX12_nextClause_37 : decode cX12_nextClause 37 = .ok (.ishr, 1) := by decide +kernel
theorem dX12_nextClause_38 : decode cX12_nextClause 38 = .ok (.iconst 1, 1) := by decide +kernel
theorem dX12_nextClause_39 : decode cX12_nextClause 39 = .ok (.iand, 1) := by decide +kernel
theorem dX12_nextClause_40 : decode cX12_nextClause 40 = .ok (.iconst 1, 1) := by decide +kernel
theorem dX12_nextClause_41 : decode cX12_nextClause 41 = .ok (.if_icmp .ne 5, 3) := by decide +kernel
theorem dX12_nextClause_44 : decode cX12_nextClause 44 = .ok (.iconst 4, 1) := by decide +kernel
theorem dX12_nextClause_45 : decode cX12_nextClause 45 = .ok (.ireturn, 1) := by decide +kernel
theorem dX12_nextClause_46 : decode cX12_nextClause 46 = .ok (.aload_n 0, 1) := by decide +kernel
theorem dX12_nextClause_47 : decode cX12_nextClause 47 = .ok (.getfield 138, 3) := by decide +kernel
theorem dX12_nextClause_50 : decode cX12_nextClause 50 = .ok (.istore_n 2, 1) := by decide +kernel
theorem dX12_nextClause_51 : decode cX12_nextClause 51 = .ok (.aload_n 0, 1) := by decide +kernel
theorem dX12_nextClause_52 : decode cX12_nextClause 52 = .ok (.dup, 1) := by decide +kernel
theorem dX12_nextClause_53 : decode cX12_nextClause 53 = .ok (.getfield 209, 3) := by decide +kernel
theorem dX12_nextClause_56 : decode cX12_nextClause 56 = .ok (.iconst 1, 1) := by decide +kernel
theorem dX12_nextClause_57 : decode cX12_nextClause 57 = .ok (.iload_n 2, 1) := by decide +kernel
theorem dX12_nextClause_58 : decode cX12_nextClause 58 = .ok (.ishl, 1) := by decide +kernel
theorem dX12_nextClause_59 : decode cX12_nextClause 59 = .ok (.ior, 1) := by decide +kernel
theorem dX12_nextClause_60 : decode cX12_nextClause 60 = .ok (.putfield 209, 3) := by decide +kernel
theorem dX12_nextClause_63 : decode cX12_nextClause 63 = .ok (.aload_n 0, 1) := by decide +kernel
theorem dX12_nextClause_64 : decode cX12_nextClause 64 = .ok (.invokevirtual 179, 3) := by decide +kernel
theorem dX12_nextClause_67 : decode cX12_nextClause 67 = .ok (.aload_n 0, 1) := by decide +kernel
theorem dX12_nextClause_68 : decode cX12_nextClause 68 = .ok (.iload_n 1, 1) := by decide +kernel
theorem dX12_nextClause_69 : decode cX12_nextClause 69 = .ok (.invokestatic 212, 3) := by decide +kernel
theorem dX12_nextClause_72 : decode cX12_nextClause 72 = .ok (.iconst 5, 1) := by decide +kernel
theorem dX12_nextClause_73 : decode cX12_nextClause 73 = .ok (.iadd, 1) := by decide +kernel
theorem dX12_nextClause_74 : decode cX12_nextClause 74 = .ok (.iconst 4, 1) := by decide +kernel
theorem dX12_nextClause_75 : decode cX12_nextClause 75 = .ok (.iload_n 2, 1) := by decide +kernel
theorem dX12_nextClause_76 : decode cX12_nextClause 76 = .ok (.imul, 1) := by decide +kernel
theorem dX12_nextClause_77 : decode cX12_nextClause 77 = .ok (.iadd, 1) := by decide +kernel
theorem dX12_nextClause_78 : decode cX12_nextClause 78 = .ok (.iconst 1, 1) := by decide +kernel
theorem dX12_nextClause_79 : decode cX12_nextClause 79 = .ok (.invokevirtual 215, 3) := by decide +kernel
theorem dX12_nextClause_82 : decode cX12_nextClause 82 = .ok (.ireturn, 1) := by decide +kernel
theorem dX12_clause_0 : decode cX12_clause 0 = .ok (.iconst 1, 1) := by decide +kernel
theorem dX12_clause_1 : decode cX12_clause 1 = .ok (.istore_n 3, 1) := by decide +kernel
theorem dX12_clause_2 : decode cX12_clause 2 = .ok (.aload_n 0, 1) := by decide +kernel
theorem dX12_clause_3 : decode cX12_clause 3 = .ok (.getfield 148, 3) := by decide +kernel
theorem dX12_clause_6 : decode cX12_clause 6 = .ok (.tableswitch 140 200 203 #[30, 40, 71, 131], 30) := by decide +kernel
theorem dX12_clause_36 : decode cX12_clause 36 = .ok (.aload_n 0, 1) := by decide +kernel
theorem dX12_clause_37 : decode cX12_clause 37 = .ok (.iload_n 1, 1) := by decide +kernel
theorem dX12_clause_38 : decode cX12_clause 38 = .ok (.iload_n 2, 1) := by decide +kernel
theorem dX12_clause_39 : decode cX12_clause 39 = .ok (.invokevirtual 219, 3) := by decide +kernel
theorem dX12_clause_42 : decode cX12_clause 42 = .ok (.istore_n 3, 1) := by decide +kernel
theorem dX12_clause_43 : decode cX12_clause 43 = .ok (.goto 103, 3) := by decide +kernel
theorem dX12_clause_46 : decode cX12_clause 46 = .ok (.aload_n 0, 1) := by decide +kernel
theorem dX12_clause_47 : decode cX12_clause 47 = .ok (.getfield 222, 3) := by decide +kernel
theorem dX12_clause_50 : decode cX12_clause 50 = .ok (.ifCond .eq 5, 3) := by decide +kernel
theorem dX12_clause_53 : decode cX12_clause 53 = .ok (.iconst 4, 1) := by decide +kernel
theorem dX12_clause_54 : decode cX12_clause 54 = .ok (.ireturn, 1) := by decide +kernel
theorem dX12_clause_55 : decode cX12_clause 55 = .ok (.aload_n 0, 1) := by decide +kernel
theorem dX12_clause_56 : decode cX12_clause 56 = .ok (.iconst 1, 1) := by decide +kernel
theorem dX12_clause_57 : decode cX12_clause 57 = .ok (.putfield 222, 3) := by decide +kernel
theorem dX12_clause_60 : decode cX12_clause 60 = .ok (.aload_n 0, 1) := by decide +kernel
theorem dX12_clause_61 : decode cX12_clause 61 = .ok (.invokevirtual 179, 3) := by decide +kernel
theorem dX12_clause_64 : decode cX12_clause 64 = .ok (.aload_n 0, 1) := by decide +kernel
theorem dX12_clause_65 : decode cX12_clause 65 = .ok (.iload_n 1, 1) := by decide +kernel
theorem dX12_clause_66 : decode cX12_clause 66 = .ok (.invokestatic 212, 3) := by decide +kernel
theorem dX12_clause_69 : decode cX12_clause 69 = .ok (.iconst 0, 1) := by decide +kernel
theorem dX12_clause_70 : decode cX12_clause 70 = .ok (.invokevirtual 215, 3) := by decide +kernel
theorem dX12_clause_73 : decode cX12_clause 73 = .ok (.istore_n 3, 1) := by decide +kernel
theorem dX12_clause_74 : decode cX12_clause 74 = .ok (.goto 72, 3) := by decide +kernel
theorem dX12_clause_77 : decode cX12_clause 77 = .ok (.aload_n 0, 1) := by decide +kernel
theorem dX12_clause_78 : decode cX12_clause 78 = .ok (.getfield 24, 3) := by decide +kernel
theorem dX12_clause_81 : decode cX12_clause 81 = .ok (.iconst 2, 1) := by decide +kernel
theorem dX12_clause_82 : decode cX12_clause 82 = .ok (.iload_n 1, 1) := by decide +kernel
theorem dX12_clause_83 : decode cX12_clause 83 = .ok (.imul, 1) := by decide +kernel
theorem dX12_clause_84 : decode cX12_clause 84 = .ok (.iconst 1, 1) := by decide +kernel
theorem dX12_clause_85 : decode cX12_clause 85 = .ok (.iadd, 1) := by decide +kernel
theorem dX12_clause_86 : decode cX12_clause 86 = .ok (.iaload, 1) := by decide +kernel
theorem dX12_clause_87 : decode cX12_clause 87 = .ok (.iconst 4, 1) := by decide +kernel
theorem dX12_clause_88 : decode cX12_clause 88 = .ok (.if_icmp .ne 5, 3) := by decide +kernel
theorem dX12_clause_91 : decode cX12_clause 91 = .ok (.iconst 4, 1) := by decide +kernel
theorem dX12_clause_92 : decode cX12_clause 92 = .ok (.ireturn, 1) := by decide +kernel
theorem dX12_clause_93 : decode cX12_clause 93 = .ok (.aload_n 0, 1) := by decide +kernel
theorem dX12_clause_94 : decode cX12_clause 94 = .ok (.invokevirtual 179, 3) := by decide +kernel
theorem dX12_clause_97 : decode cX12_clause 97 = .ok (.aload_n 0, 1) := by decide +kernel
theorem dX12_clause_98 : decode cX12_clause 98 = .ok (.iload_n 1, 1) := by decide +kernel
theorem dX12_clause_99 : decode cX12_clause 99 = .ok (.invokestatic 212, 3) := by decide +kernel
theorem dX12_clause_102 : decode cX12_clause 102 = .ok (.iconst 1, 1) := by decide +kernel
theorem dX12_clause_103 : decode cX12_clause 103 = .ok (.iadd, 1) := by decide +kernel
theorem dX12_clause_104 : decode cX12_clause 104 = .ok (.aload_n 0, 1) := by decide +kernel
theorem dX12_clause_105 : decode cX12_clause 105 = .ok (.getfield 24, 3) := by decide +kernel
theorem dX12_clause_108 : decode cX12_clause 108 = .ok (.iconst 2, 1) := by decide +kernel
theorem dX12_clause_109 : decode cX12_clause 109 = .ok (.iload_n 1, 1) := by decide +kernel
theorem dX12_clause_110 : decode cX12_clause 110 = .ok (.imul, 1) := by decide +kernel
theorem dX12_clause_111 : decode cX12_clause 111 = .ok (.iconst 1, 1) := by decide +kernel
theorem dX12_clause_112 : decode cX12_clause 112 = .ok (.iadd, 1) := by decide +kernel
theorem dX12_clause_113 : decode cX12_clause 113 = .ok (.iaload, 1) := by decide +kernel
theorem dX12_clause_114 : decode cX12_clause 114 = .ok (.iadd, 1) := by decide +kernel
theorem dX12_clause_115 : decode cX12_clause 115 = .ok (.iconst 0, 1) := by decide +kernel
theorem dX12_clause_116 : decode cX12_clause 116 = .ok (.invokevirtual 215, 3) := by decide +kernel
theorem dX12_clause_119 : decode cX12_clause 119 = .ok (.istore_n 3, 1) := by decide +kernel
theorem dX12_clause_120 : decode cX12_clause 120 = .ok (.aload_n 0, 1) := by decide +kernel
theorem dX12_clause_121 : decode cX12_clause 121 = .ok (.getfield 24, 3) := by decide +kernel
theorem dX12_clause_124 : decode cX12_clause 124 = .ok (.iconst 2, 1) := by decide +kernel
theorem dX12_clause_125 : decode cX12_clause 125 = .ok (.iload_n 1, 1) := by decide +kernel
theorem dX12_clause_126 : decode cX12_clause 126 = .ok (.imul, 1) := by decide +kernel
theorem dX12_clause_127 : decode cX12_clause 127 = .ok (.iconst 1, 1) := by decide +kernel
theorem dX12_clause_128 : decode cX12_clause 128 = .ok (.iadd, 1) := by decide +kernel
theorem dX12_clause_129 : decode cX12_clause 129 = .ok (.dup2, 1) := by decide +kernel
theorem dX12_clause_130 : decode cX12_clause 130 = .ok (.iaload, 1) := by decide +kernel
theorem dX12_clause_131 : decode cX12_clause 131 = .ok (.iconst 1, 1) := by decide +kernel
theorem dX12_clause_132 : decode cX12_clause 132 = .ok (.iadd, 1) := by decide +kernel
theorem dX12_clause_133 : decode cX12_clause 133 = .ok (.iastore, 1) := by decide +kernel
theorem dX12_clause_134 : decode cX12_clause 134 = .ok (.goto 12, 3) := by decide +kernel
theorem dX12_clause_137 : decode cX12_clause 137 = .ok (.aload_n 0, 1) := by decide +kernel
theorem dX12_clause_138 : decode cX12_clause 138 = .ok (.iload_n 1, 1) := by decide +kernel
theorem dX12_clause_139 : decode cX12_clause 139 = .ok (.invokevirtual 225, 3) := by decide +kernel
theorem dX12_clause_142 : decode cX12_clause 142 = .ok (.istore_n 3, 1) := by decide +kernel
theorem dX12_clause_143 : decode cX12_clause 143 = .ok (.goto 3, 3) := by decide +kernel
theorem dX12_clause_146 : decode cX12_clause 146 = .ok (.iload_n 3, 1) := by decide +kernel
theorem dX12_clause_147 : decode cX12_clause 147 = .ok (.ifCond .eq 5, 3) := by decide +kernel
theorem dX12_clause_150 : decode cX12_clause 150 = .ok (.iload_n 3, 1) := by decide +kernel
theorem dX12_clause_151 : decode cX12_clause 151 = .ok (.ireturn, 1) := by decide +kernel
theorem dX12_clause_152 : decode cX12_clause 152 = .ok (.aload_n 0, 1) := by decide +kernel
theorem dX12_clause_153 : decode cX12_clause 153 = .ok (.getfield 148, 3) := by decide +kernel
theorem dX12_clause_156 : decode cX12_clause 156 = .ok (.bipush 59, 2) := by decide +kernel
theorem dX12_clause_158 : decode cX12_clause 158 = .ok (.if_icmp .eq 5, 3) := by decide +kernel
theorem dX12_clause_161 : decode cX12_clause 161 = .ok (.iconst 1, 1) := by decide +kernel
theorem dX12_clause_162 : decode cX12_clause 162 = .ok (.ireturn, 1) := by decide +kernel
theorem dX12_clause_163 : decode cX12_clause 163 = .ok (.aload_n 0, 1) := by decide +kernel
theorem dX12_clause_164 : decode cX12_clause 164 = .ok (.invokevirtual 179, 3) := by decide +kernel
theorem dX12_clause_167 : decode cX12_clause 167 = .ok (.iconst 0, 1) := by decide +kernel
theorem dX12_clause_168 : decode cX12_clause 168 = .ok (.ireturn, 1) := by decide +kernel
theorem dX12_readText_0 : decode cX12_readText 0 = .ok (.aload_n 0, 1) := by decide +kernel
theorem dX12_readText_1 : decode cX12_readText 1 = .ok (.getfield 8, 3) := by decide +kernel
theorem dX12_readText_4 : decode cX12_readText 4 = .ok (.iconst 0, 1) := by decide +kernel
theorem dX12_readText_5 : decode cX12_readText 5 = .ok (.iaload, 1) := by decide +kernel
theorem dX12_readText_6 : decode cX12_readText 6 = .ok (.istore_n 1, 1) := by decide +kernel
theorem dX12_readText_7 : decode cX12_readText 7 = .ok (.iload_n 1, 1) := by decide +kernel
theorem dX12_readText_8 : decode cX12_readText 8 = .ok (.invokestatic 212, 3) := by decide +kernel
theorem dX12_readText_11 : decode cX12_readText 11 = .ok (.istore_n 2, 1) := by decide +kernel
theorem dX12_readText_12 : decode cX12_readText 12 = .ok (.aload_n 0, 1) := by decide +kernel
theorem dX12_readText_13 : decode cX12_readText 13 = .ok (.getfield 24, 3) := by decide +kernel
theorem dX12_readText_16 : decode cX12_readText 16 = .ok (.iconst 2, 1) := by decide +kernel
theorem dX12_readText_17 : decode cX12_readText 17 = .ok (.iload_n 1, 1) := by decide +kernel
theorem dX12_readText_18 : decode cX12_readText 18 = .ok (.imul, 1) := by decide +kernel
theorem dX12_readText_19 : decode cX12_readText 19 = .ok (.iconst 3, 1) := by decide +kernel
theorem dX12_readText_20 : decode cX12_readText 20 = .ok (.iastore, 1) := by decide +kernel
theorem dX12_readText_21 : decode cX12_readText 21 = .ok (.aload_n 0, 1) := by decide +kernel
theorem dX12_readText_22 : decode cX12_readText 22 = .ok (.getfield 24, 3) := by decide +kernel
theorem dX12_readText_25 : decode cX12_readText 25 = .ok (.iconst 2, 1) := by decide +kernel
theorem dX12_readText_26 : decode cX12_readText 26 = .ok (.iload_n 1, 1) := by decide +kernel
theorem dX12_readText_27 : decode cX12_readText 27 = .ok (.imul, 1) := by decide +kernel
theorem dX12_readText_28 : decode cX12_readText 28 = .ok (.iconst 1, 1) := by decide +kernel
theorem dX12_readText_29 : decode cX12_readText 29 = .ok (.iadd, 1) := by decide +kernel
theorem dX12_readText_30 : decode cX12_readText 30 = .ok (.iconst 0, 1) := by decide +kernel
theorem dX12_readText_31 : decode cX12_readText 31 = .ok (.iastore, 1) := by decide +kernel
theorem dX12_readText_32 : decode cX12_readText 32 = .ok (.aload_n 0, 1) := by decide +kernel
theorem dX12_readText_33 : decode cX12_readText 33 = .ok (.iconst 3, 1) := by decide +kernel
theorem dX12_readText_34 : decode cX12_readText 34 = .ok (.putfield 182, 3) := by decide +kernel
theorem dX12_readText_37 : decode cX12_readText 37 = .ok (.aload_n 0, 1) := by decide +kernel
theorem dX12_readText_38 : decode cX12_readText 38 = .ok (.iconst 0, 1) := by decide +kernel
theorem dX12_readText_39 : decode cX12_readText 39 = .ok (.putfield 222, 3) := by decide +kernel
theorem dX12_readText_42 : decode cX12_readText 42 = .ok (.aload_n 0, 1) := by decide +kernel
theorem dX12_readText_43 : decode cX12_readText 43 = .ok (.iconst 0, 1) := by decide +kernel
theorem dX12_readText_44 : decode cX12_readText 44 = .ok (.putfield 209, 3) := by decide +kernel
theorem dX12_readText_47 : decode cX12_readText 47 = .ok (.aload_n 0, 1) := by decide +kernel
theorem dX12_readText_48 : decode cX12_readText 48 = .ok (.getfield 27, 3) := by decide +kernel
theorem dX12_readText_51 : decode cX12_readText 51 = .ok (.iload_n 2, 1) := by decide +kernel
theorem dX12_readText_52 : decode cX12_readText 52 = .ok (.lconst 1, 1) := by decide +kernel
theorem dX12_readText_53 : decode cX12_readText 53 = .ok (.lastore, 1) := by decide +kernel
theorem dX12_readText_54 : decode cX12_readText 54 = .ok (.aload_n 0, 1) := by decide +kernel
theorem dX12_readText_55 : decode cX12_readText 55 = .ok (.getfield 27, 3) := by decide +kernel
theorem dX12_readText_58 : decode cX12_readText 58 = .ok (.iload_n 2, 1) := by decide +kernel
theorem dX12_readText_59 : decode cX12_readText 59 = .ok (.iconst 1, 1) := by decide +kernel
theorem dX12_readText_60 : decode cX12_readText 60 = .ok (.iadd, 1) := by decide +kernel
theorem dX12_readText_61 : decode cX12_readText 61 = .ok (.lconst 0, 1) := by decide +kernel
theorem dX12_readText_62 : decode cX12_readText 62 = .ok (.lastore, 1) := by decide +kernel
theorem dX12_readText_63 : decode cX12_readText 63 = .ok (.iconst 0, 1) := by decide +kernel
theorem dX12_readText_64 : decode cX12_readText 64 = .ok (.istore_n 3, 1) := by decide +kernel
theorem dX12_readText_65 : decode cX12_readText 65 = .ok (.iload_n 3, 1) := by decide +kernel
theorem dX12_readText_66 : decode cX12_readText 66 = .ok (.bipush 6, 2) := by decide +kernel
theorem dX12_readText_68 : decode cX12_readText 68 = .ok (.if_icmp .ge 43, 3) := by decide +kernel
theorem dX12_readText_71 : decode cX12_readText 71 = .ok (.iconst 0, 1) := by decide +kernel
theorem dX12_readText_72 : decode cX12_readText 72 = .ok (.istore 4, 2) := by decide +kernel
theorem dX12_readText_74 : decode cX12_readText 74 = .ok (.iload 4, 2) := by decide +kernel
theorem dX12_readText_76 : decode cX12_readText 76 = .ok (.iconst 4, 1) := by decide +kernel
theorem dX12_readText_77 : decode cX12_readText 77 = .ok (.if_icmp .ge 28, 3) := by decide +kernel
theorem dX12_readText_80 : decode cX12_readText 80 = .ok (.aload_n 0, 1) := by decide +kernel
theorem dX12_readText_81 : decode cX12_readText 81 = .ok (.getfield 27, 3) := by decide +kernel
theorem dX12_readText_84 : decode cX12_readText 84 = .ok (.iload_n 2, 1) := by decide +kernel
theorem dX12_readText_85 : decode cX12_readText 85 = .ok (.iconst 5, 1) := by decide +kernel
theorem dX12_readText_86 : decode cX12_readText 86 = .ok (.iadd, 1) := by decide +kernel
theorem dX12_readText_87 : decode cX12_readText 87 = .ok (.iconst 4, 1) := by decide +kernel
theorem dX12_readText_88 : decode cX12_readText 88 = .ok (.iload_n 3, 1) := by decide +kernel
theorem dX12_readText_89 : decode cX12_readText 89 = .ok (.imul, 1) := by decide +kernel
theorem dX12_readText_90 : decode cX12_readText 90 = .ok (.iadd, 1) := by decide +kernel
theorem dX12_readText_91 : decode cX12_readText 91 = .ok (.iload 4, 2) := by decide +kernel
theorem dX12_readText_93 : decode cX12_readText 93 = .ok (.iadd, 1) := by decide +kernel
theorem dX12_readText_94 : decode cX12_readText 94 = .ok (.iload_n 3, 1) := by decide +kernel
theorem dX12_readText_95 : decode cX12_readText 95 = .ok (.invokestatic 121, 3) := by decide +kernel
theorem dX12_readText_98 : decode cX12_readText 98 = .ok (.lastore, 1) := by decide +kernel
theorem dX12_readText_99 : decode cX12_readText 99 = .ok (.iinc 4 1, 3) := by decide +kernel
theorem dX12_readText_102 : decode cX12_readText 102 = .ok (.goto (-28), 3) := by decide +kernel
theorem dX12_readText_105 : decode cX12_readText 105 = .ok (.iinc 3 1, 3) := by decide +kernel
theorem dX12_readText_108 : decode cX12_readText 108 = .ok (.goto (-43), 3) := by decide +kernel
theorem dX12_readText_111 : decode cX12_readText 111 = .ok (.aload_n 0, 1) := by decide +kernel
theorem dX12_readText_112 : decode cX12_readText 112 = .ok (.iconst 0, 1) := by decide +kernel
theorem dX12_readText_113 : decode cX12_readText 113 = .ok (.putfield 145, 3) := by decide +kernel
theorem dX12_readText_116 : decode cX12_readText 116 = .ok (.aload_n 0, 1) := by decide +kernel
theorem dX12_readText_117 : decode cX12_readText 117 = .ok (.invokevirtual 179, 3) := by decide +kernel
theorem dX12_readText_120 : decode cX12_readText 120 = .ok (.iconst 0, 1) := by decide +kernel
theorem dX12_readText_121 : decode cX12_readText 121 = .ok (.istore_n 3, 1) := by decide +kernel
theorem dX12_readText_122 : decode cX12_readText 122 = .ok (.aload_n 0, 1) := by decide +kernel
theorem dX12_readText_123 : decode cX12_readText 123 = .ok (.getfield 148, 3) := by decide +kernel
theorem dX12_readText_126 : decode cX12_readText 126 = .ok (.ifCond .eq 25, 3) := by decide +kernel
theorem dX12_readText_129 : decode cX12_readText 129 = .ok (.aload_n 0, 1) := by decide +kernel
theorem dX12_readText_130 : decode cX12_readText 130 = .ok (.iload_n 1, 1) := by decide +kernel
theorem dX12_readText_131 : decode cX12_readText 131 = .ok (.iload_n 3, 1) := by decide +kernel
theorem dX12_readText_132 : decode cX12_readText 132 = .ok (.invokevirtual 228, 3) := by decide +kernel
theorem dX12_readText_135 : decode cX12_readText 135 = .ok (.istore 4, 2) := by decide +kernel
theorem dX12_readText_137 : decode cX12_readText 137 = .ok (.iload 4, 2) := by decide +kernel
theorem dX12_readText_139 : decode cX12_readText 139 = .ok (.ifCond .eq 6, 3) := by decide +kernel
theorem dX12_readText_142 : decode cX12_readText 142 = .ok (.iload 4, 2) := by decide +kernel
theorem dX12_readText_144 : decode cX12_readText 144 = .ok (.ireturn, 1) := by decide +kernel
theorem dX12_readText_145 : decode cX12_readText 145 = .ok (.iinc 3 1, 3) := by decide +kernel
theorem dX12_readText_148 : decode cX12_readText 148 = .ok (.goto (-26), 3) := by decide +kernel
theorem dX12_readText_151 : decode cX12_readText 151 = .ok (.aload_n 0, 1) := by decide +kernel
theorem dX12_readText_152 : decode cX12_readText 152 = .ok (.getfield 24, 3) := by decide +kernel
theorem dX12_readText_155 : decode cX12_readText 155 = .ok (.iconst 2, 1) := by decide +kernel
theorem dX12_readText_156 : decode cX12_readText 156 = .ok (.iload_n 1, 1) := by decide +kernel
theorem dX12_readText_157 : decode cX12_readText 157 = .ok (.imul, 1) := by decide +kernel
theorem dX12_readText_158 : decode cX12_readText 158 = .ok (.iconst 1, 1) := by decide +kernel
theorem dX12_readText_159 : decode cX12_readText 159 = .ok (.iadd, 1) := by decide +kernel
theorem dX12_readText_160 : decode cX12_readText 160 = .ok (.iaload, 1) := by decide +kernel
theorem dX12_readText_161 : decode cX12_readText 161 = .ok (.ifCond .ne 14, 3) := by decide +kernel
theorem dX12_readText_164 : decode cX12_readText 164 = .ok (.aload_n 0, 1) := by decide +kernel
theorem dX12_readText_165 : decode cX12_readText 165 = .ok (.getfield 24, 3) := by decide +kernel
theorem dX12_readText_168 : decode cX12_readText 168 = .ok (.iconst 2, 1) := by decide +kernel
theorem dX12_readText_169 : decode cX12_readText 169 = .ok (.iload_n 1, 1) := by decide +kernel
theorem dX12_readText_170 : decode cX12_readText 170 = .ok (.imul, 1) := by decide +kernel
theorem dX12_readText_171 : decode cX12_readText 171 = .ok (.iconst 1, 1) := by decide +kernel
theorem dX12_readText_172 : decode cX12_readText 172 = .ok (.iadd, 1) := by decide +kernel
theorem dX12_readText_173 : decode cX12_readText 173 = .ok (.iconst 1, 1) := by decide +kernel
theorem dX12_readText_174 : decode cX12_readText 174 = .ok (.iastore, 1) := by decide +kernel
theorem dX12_readText_175 : decode cX12_readText 175 = .ok (.iconst 0, 1) := by decide +kernel
theorem dX12_readText_176 : decode cX12_readText 176 = .ok (.ireturn, 1) := by decide +kernel
theorem dX12_text_0 : decode cX12_text 0 = .ok (.aload_n 0, 1) := by decide +kernel
theorem dX12_text_1 : decode cX12_text 1 = .ok (.getfield 8, 3) := by decide +kernel
theorem dX12_text_4 : decode cX12_text 4 = .ok (.iconst 0, 1) := by decide +kernel
theorem dX12_text_5 : decode cX12_text 5 = .ok (.iaload, 1) := by decide +kernel
theorem dX12_text_6 : decode cX12_text 6 = .ok (.iconst 4, 1) := by decide +kernel
theorem dX12_text_7 : decode cX12_text 7 = .ok (.if_icmp .ne 5, 3) := by decide +kernel
theorem dX12_text_10 : decode cX12_text 10 = .ok (.iconst (-1), 1) := by decide +kernel
theorem dX12_text_11 : decode cX12_text 11 = .ok (.ireturn, 1) := by decide +kernel
theorem dX12_text_12 : decode cX12_text 12 = .ok (.aload_n 0, 1) := by decide +kernel
theorem dX12_text_13 : decode cX12_text 13 = .ok (.aload_n 0, 1) := by decide +kernel
theorem dX12_text_14 : decode cX12_text 14 = .ok (.invokevirtual 231, 3) := by decide +kernel
theorem dX12_text_17 : decode cX12_text 17 = .ok (.putfield 34, 3) := by decide +kernel
theorem dX12_text_20 : decode cX12_text 20 = .ok (.aload_n 0, 1) := by decide +kernel
theorem dX12_text_21 : decode cX12_text 21 = .ok (.aload_n 0, 1) := by decide +kernel
theorem dX12_text_22 : decode cX12_text 22 = .ok (.getfield 34, 3) := by decide +kernel
theorem dX12_text_25 : decode cX12_text 25 = .ok (.ifCond .ne 7, 3) := by decide +kernel
theorem dX12_text_28 : decode cX12_text 28 = .ok (.iconst (-1), 1) := by decide +kernel
theorem dX12_text_29 : decode cX12_text 29 = .ok (.goto 7, 3) := by decide +kernel
theorem dX12_text_32 : decode cX12_text 32 = .ok (.aload_n 0, 1) := by decide +kernel
theorem dX12_text_33 : decode cX12_text 33 = .ok (.getfield 131, 3) := by decide +kernel
theorem dX12_text_36 : decode cX12_text 36 = .ok (.putfield 38, 3) := by decide +kernel
theorem dX12_text_39 : decode cX12_text 39 = .ok (.aload_n 0, 1) := by decide +kernel
theorem dX12_text_40 : decode cX12_text 40 = .ok (.iconst 0, 1) := by decide +kernel
theorem dX12_text_41 : decode cX12_text 41 = .ok (.putfield 124, 3) := by decide +kernel
theorem dX12_text_44 : decode cX12_text 44 = .ok (.aload_n 0, 1) := by decide +kernel
theorem dX12_text_45 : decode cX12_text 45 = .ok (.getfield 34, 3) := by decide +kernel
theorem dX12_text_48 : decode cX12_text 48 = .ok (.ifCond .eq 5, 3) := by decide +kernel
theorem dX12_text_51 : decode cX12_text 51 = .ok (.iconst (-1), 1) := by decide +kernel
theorem dX12_text_52 : decode cX12_text 52 = .ok (.ireturn, 1) := by decide +kernel
theorem dX12_text_53 : decode cX12_text 53 = .ok (.aload_n 0, 1) := by decide +kernel
theorem dX12_text_54 : decode cX12_text 54 = .ok (.getfield 8, 3) := by decide +kernel
theorem dX12_text_57 : decode cX12_text 57 = .ok (.iconst 0, 1) := by decide +kernel
theorem dX12_text_58 : decode cX12_text 58 = .ok (.dup2, 1) := by decide +kernel
theorem dX12_text_59 : decode cX12_text 59 = .ok (.iaload, 1) := by decide +kernel
theorem dX12_text_60 : decode cX12_text 60 = .ok (.iconst 1, 1) := by decide +kernel
theorem dX12_text_61 : decode cX12_text 61 = .ok (.iadd, 1) := by decide +kernel
theorem dX12_text_62 : decode cX12_text 62 = .ok (.iastore, 1) := by decide +kernel
theorem dX12_text_63 : decode cX12_text 63 = .ok (.aload_n 0, 1) := by decide +kernel
theorem dX12_text_64 : decode cX12_text 64 = .ok (.getfield 8, 3) := by decide +kernel
theorem dX12_text_67 : decode cX12_text 67 = .ok (.iconst 0, 1) := by decide +kernel
theorem dX12_text_68 : decode cX12_text 68 = .ok (.iaload, 1) := by decide +kernel
theorem dX12_text_69 : decode cX12_text 69 = .ok (.iconst 1, 1) := by decide +kernel
theorem dX12_text_70 : decode cX12_text 70 = .ok (.isub, 1) := by decide +kernel
theorem dX12_text_71 : decode cX12_text 71 = .ok (.ireturn, 1) := by decide +kernel
theorem dX12_fault_0 : decode cX12_fault 0 = .ok (.iload_n 1, 1) := by decide +kernel
theorem dX12_fault_1 : decode cX12_fault 1 = .ok (.ifCond .ne 10, 3) := by decide +kernel
theorem dX12_fault_4 : decode cX12_fault 4 = .ok (.aload_n 0, 1) := by decide +kernel
theorem dX12_fault_5 : decode cX12_fault 5 = .ok (.getfield 34, 3) := by decide +kernel
theorem dX12_fault_8 : decode cX12_fault 8 = .ok (.goto 16, 3) := by decide +kernel
theorem dX12_fault_11 : decode cX12_fault 11 = .ok (.iload_n 1, 1) := by decide +kernel
theorem dX12_fault_12 : decode cX12_fault 12 = .ok (.iconst 1, 1) := by decide +kernel
theorem dX12_fault_13 : decode cX12_fault 13 = .ok (.if_icmp .ne 10, 3) := by decide +kernel
theorem dX12_fault_16 : decode cX12_fault 16 = .ok (.aload_n 0, 1) := by decide +kernel
theorem dX12_fault_17 : decode cX12_fault 17 = .ok (.getfield 38, 3) := by decide +kernel
theorem dX12_fault_20 : decode cX12_fault 20 = .ok (.goto 4, 3) := by decide +kernel
theorem dX12_fault_23 : decode cX12_fault 23 = .ok (.iconst (-1), 1) := by decide +kernel
theorem dX12_fault_24 : decode cX12_fault 24 = .ok (.ireturn, 1) := by decide +kernel
theorem dX12_anew_0 : decode cX12_anew 0 = .ok (.aload_n 0, 1) := by decide +kernel
theorem dX12_anew_1 : decode cX12_anew 1 = .ok (.getfield 8, 3) := by decide +kernel
theorem dX12_anew_4 : decode cX12_anew 4 = .ok (.iconst 4, 1) := by decide +kernel
theorem dX12_anew_5 : decode cX12_anew 5 = .ok (.iconst 1, 1) := by decide +kernel
theorem dX12_anew_6 : decode cX12_anew 6 = .ok (.iastore, 1) := by decide +kernel
theorem dX12_anew_7 : decode cX12_anew 7 = .ok (.aload_n 0, 1) := by decide +kernel
theorem dX12_anew_8 : decode cX12_anew 8 = .ok (.getfield 8, 3) := by decide +kernel
theorem dX12_anew_11 : decode cX12_anew 11 = .ok (.iconst 5, 1) := by decide +kernel
theorem dX12_anew_12 : decode cX12_anew 12 = .ok (.iconst 0, 1) := by decide +kernel
theorem dX12_anew_13 : decode cX12_anew 13 = .ok (.iastore, 1) := by decide +kernel
theorem dX12_anew_14 : decode cX12_anew 14 = .ok (.aload_n 0, 1) := by decide +kernel
theorem dX12_anew_15 : decode cX12_anew 15 = .ok (.getfield 8, 3) := by decide +kernel
theorem dX12_anew_18 : decode cX12_anew 18 = .ok (.bipush 6, 2) := by decide +kernel
theorem dX12_anew_20 : decode cX12_anew 20 = .ok (.iconst 0, 1) := by decide +kernel
theorem dX12_anew_21 : decode cX12_anew 21 = .ok (.iastore, 1) := by decide +kernel
theorem dX12_anew_22 : decode cX12_anew 22 = .ok (.aload_n 0, 1) := by decide +kernel
theorem dX12_anew_23 : decode cX12_anew 23 = .ok (.getfield 8, 3) := by decide +kernel
theorem dX12_anew_26 : decode cX12_anew 26 = .ok (.bipush 8, 2) := by decide +kernel
theorem dX12_anew_28 : decode cX12_anew 28 = .ok (.iconst 0, 1) := by decide +kernel
theorem dX12_anew_29 : decode cX12_anew 29 = .ok (.iastore, 1) := by decide +kernel
theorem dX12_anew_30 : decode cX12_anew 30 = .ok (.aload_n 0, 1) := by decide +kernel
theorem dX12_anew_31 : decode cX12_anew 31 = .ok (.getfield 8, 3) := by decide +kernel
theorem dX12_anew_34 : decode cX12_anew 34 = .ok (.bipush 10, 2) := by decide +kernel
theorem dX12_anew_36 : decode cX12_anew 36 = .ok (.iconst 0, 1) := by decide +kernel
theorem dX12_anew_37 : decode cX12_anew 37 = .ok (.iastore, 1) := by decide +kernel
theorem dX12_anew_38 : decode cX12_anew 38 = .ok (.aload_n 0, 1) := by decide +kernel
theorem dX12_anew_39 : decode cX12_anew 39 = .ok (.getfield 8, 3) := by decide +kernel
theorem dX12_anew_42 : decode cX12_anew 42 = .ok (.bipush 11, 2) := by decide +kernel
theorem dX12_anew_44 : decode cX12_anew 44 = .ok (.iconst 0, 1) := by decide +kernel
theorem dX12_anew_45 : decode cX12_anew 45 = .ok (.iastore, 1) := by decide +kernel
theorem dX12_anew_46 : decode cX12_anew 46 = .ok (.aload_n 0, 1) := by decide +kernel
theorem dX12_anew_47 : decode cX12_anew 47 = .ok (.getfield 8, 3) := by decide +kernel
theorem dX12_anew_50 : decode cX12_anew 50 = .ok (.bipush 12, 2) := by decide +kernel
theorem dX12_anew_52 : decode cX12_anew 52 = .ok (.iconst 0, 1) := by decide +kernel
theorem dX12_anew_53 : decode cX12_anew 53 = .ok (.iastore, 1) := by decide +kernel
theorem dX12_anew_54 : decode cX12_anew 54 = .ok (.aload_n 0, 1) := by decide +kernel
theorem dX12_anew_55 : decode cX12_anew 55 = .ok (.getfield 8, 3) := by decide +kernel
theorem dX12_anew_58 : decode cX12_anew 58 = .ok (.bipush 13, 2) := by decide +kernel
theorem dX12_anew_60 : decode cX12_anew 60 = .ok (.iconst 0, 1) := by decide +kernel
theorem dX12_anew_61 : decode cX12_anew 61 = .ok (.iastore, 1) := by decide +kernel
theorem dX12_anew_62 : decode cX12_anew 62 = .ok (.aload_n 0, 1) := by decide +kernel
theorem dX12_anew_63 : decode cX12_anew 63 = .ok (.getfield 8, 3) := by decide +kernel
theorem dX12_anew_66 : decode cX12_anew 66 = .ok (.bipush 14, 2) := by decide +kernel
theorem dX12_anew_68 : decode cX12_anew 68 = .ok (.iconst 0, 1) := by decide +kernel
theorem dX12_anew_69 : decode cX12_anew 69 = .ok (.iastore, 1) := by decide +kernel
theorem dX12_anew_70 : decode cX12_anew 70 = .ok (.aload_n 0, 1) := by decide +kernel
theorem dX12_anew_71 : decode cX12_anew 71 = .ok (.getfield 8, 3) := by decide +kernel
theorem dX12_anew_74 : decode cX12_anew 74 = .ok (.bipush 16, 2) := by decide +kernel
theorem dX12_anew_76 : decode cX12_anew 76 = .ok (.iconst 0, 1) := by decide +kernel
theorem dX12_anew_77 : decode cX12_anew 77 = .ok (.iastore, 1) := by decide +kernel
theorem dX12_anew_78 : decode cX12_anew 78 = .ok (.aload_n 0, 1) := by decide +kernel
theorem dX12_anew_79 : decode cX12_anew 79 = .ok (.getfield 8, 3) := by decide +kernel
theorem dX12_anew_82 : decode cX12_anew 82 = .ok (.bipush 17, 2) := by decide +kernel
theorem dX12_anew_84 : decode cX12_anew 84 = .ok (.iconst 0, 1) := by decide +kernel
theorem dX12_anew_85 : decode cX12_anew 85 = .ok (.iastore, 1) := by decide +kernel
theorem dX12_anew_86 : decode cX12_anew 86 = .ok (.aload_n 0, 1) := by decide +kernel
theorem dX12_anew_87 : decode cX12_anew 87 = .ok (.getfield 8, 3) := by decide +kernel
theorem dX12_anew_90 : decode cX12_anew 90 = .ok (.bipush 9, 2) := by decide +kernel
theorem dX12_anew_92 : decode cX12_anew 92 = .ok (.iconst 0, 1) := by decide +kernel
theorem dX12_anew_93 : decode cX12_anew 93 = .ok (.iastore, 1) := by decide +kernel
theorem dX12_anew_94 : decode cX12_anew 94 = .ok (.iconst 0, 1) := by decide +kernel
theorem dX12_anew_95 : decode cX12_anew 95 = .ok (.istore_n 1, 1) := by decide +kernel
theorem dX12_anew_96 : decode cX12_anew 96 = .ok (.iload_n 1, 1) := by decide +kernel
theorem dX12_anew_97 : decode cX12_anew 97 = .ok (.bipush 6, 2) := by decide +kernel
theorem dX12_anew_99 : decode cX12_anew 99 = .ok (.if_icmp .ge 16, 3) := by decide +kernel
theorem dX12_anew_102 : decode cX12_anew 102 = .ok (.aload_n 0, 1) := by decide +kernel
theorem dX12_anew_103 : decode cX12_anew 103 = .ok (.getfield 17, 3) := by decide +kernel
theorem dX12_anew_106 : decode cX12_anew 106 = .ok (.iload_n 1, 1) := by decide +kernel
theorem dX12_anew_107 : decode cX12_anew 107 = .ok (.fconst 0, 1) := by decide +kernel
theorem dX12_anew_108 : decode cX12_anew 108 = .ok (.fastore, 1) := by decide +kernel
theorem dX12_anew_109 : decode cX12_anew 109 = .ok (.iinc 1 1, 3) := by decide +kernel
theorem dX12_anew_112 : decode cX12_anew 112 = .ok (.goto (-16), 3) := by decide +kernel
theorem dX12_anew_115 : decode cX12_anew 115 = .ok (.aload_n 0, 1) := by decide +kernel
theorem dX12_anew_116 : decode cX12_anew 116 = .ok (.getfield 17, 3) := by decide +kernel
theorem dX12_anew_119 : decode cX12_anew 119 = .ok (.bipush 6, 2) := by decide +kernel
theorem dX12_anew_121 : decode cX12_anew 121 = .ok (.fconst 1, 1) := by decide +kernel
theorem dX12_anew_122 : decode cX12_anew 122 = .ok (.fastore, 1) := by decide +kernel
theorem dX12_anew_123 : decode cX12_anew 123 = .ok (.return_, 1) := by decide +kernel
theorem dX12_load_0 : decode cX12_load 0 = .ok (.iload_n 1, 1) := by decide +kernel
theorem dX12_load_1 : decode cX12_load 1 = .ok (.iconst 0, 1) := by decide +kernel
theorem dX12_load_2 : decode cX12_load 2 = .ok (.aload_n 0, 1) := by decide +kernel
theorem dX12_load_3 : decode cX12_load 3 = .ok (.getfield 8, 3) := by decide +kernel
theorem dX12_load_6 : decode cX12_load 6 = .ok (.iconst 0, 1) := by decide +kernel
theorem dX12_load_7 : decode cX12_load 7 = .ok (.iaload, 1) := by decide +kernel
theorem dX12_load_8 : decode cX12_load 8 = .ok (.iconst 1, 1) := by decide +kernel
theorem dX12_load_9 : decode cX12_load 9 = .ok (.isub, 1) := by decide +kernel
theorem dX12_load_10 : decode cX12_load 10 = .ok (.invokestatic 105, 3) := by decide +kernel
theorem dX12_load_13 : decode cX12_load 13 = .ok (.ifCond .ne 5, 3) := by decide +kernel
theorem dX12_load_16 : decode cX12_load 16 = .ok (.iconst (-1), 1) := by decide +kernel
theorem dX12_load_17 : decode cX12_load 17 = .ok (.ireturn, 1) := by decide +kernel
theorem dX12_load_18 : decode cX12_load 18 = .ok (.aload_n 0, 1) := by decide +kernel
theorem dX12_load_19 : decode cX12_load 19 = .ok (.invokevirtual 234, 3) := by decide +kernel
theorem dX12_load_22 : decode cX12_load 22 = .ok (.iload_n 1, 1) := by decide +kernel
theorem dX12_load_23 : decode cX12_load 23 = .ok (.invokestatic 212, 3) := by decide +kernel
theorem dX12_load_26 : decode cX12_load 26 = .ok (.istore_n 2, 1) := by decide +kernel
theorem dX12_load_27 : decode cX12_load 27 = .ok (.aload_n 0, 1) := by decide +kernel
theorem dX12_load_28 : decode cX12_load 28 = .ok (.getfield 8, 3) := by decide +kernel
theorem dX12_load_31 : decode cX12_load 31 = .ok (.iconst 3, 1) := by decide +kernel
theorem dX12_load_32 : decode cX12_load 32 = .ok (.aload_n 0, 1) := by decide +kernel
theorem dX12_load_33 : decode cX12_load 33 = .ok (.getfield 24, 3) := by decide +kernel
theorem dX12_load_36 : decode cX12_load 36 = .ok (.iconst 2, 1) := by decide +kernel
theorem dX12_load_37 : decode cX12_load 37 = .ok (.iload_n 1, 1) := by decide +kernel
theorem dX12_load_38 : decode cX12_load 38 = .ok (.imul, 1) := by decide +kernel
theorem dX12_load_39 : decode cX12_load 39 = .ok (.iaload, 1) := by decide +kernel
theorem dX12_load_40 : decode cX12_load 40 = .ok (.iastore, 1) := by decide +kernel
theorem dX12_load_41 : decode cX12_load 41 = .ok (.aload_n 0, 1) := by decide +kernel
theorem dX12_load_42 : decode cX12_load 42 = .ok (.getfield 8, 3) := by decide +kernel
theorem dX12_load_45 : decode cX12_load 45 = .ok (.bipush 7, 2) := by decide +kernel
theorem dX12_load_47 : decode cX12_load 47 = .ok (.aload_n 0, 1) := by decide +kernel
theorem dX12_load_48 : decode cX12_load 48 = .ok (.getfield 24, 3) := by decide +kernel
theorem dX12_load_51 : decode cX12_load 51 = .ok (.iconst 2, 1) := by decide +kernel
theorem dX12_load_52 : decode cX12_load 52 = .ok (.iload_n 1, 1) := by decide +kernel
theorem dX12_load_53 : decode cX12_load 53 = .ok (.imul, 1) := by decide +kernel
theorem dX12_load_54 : decode cX12_load 54 = .ok (.iconst 1, 1) := by decide +kernel
theorem dX12_load_55 : decode cX12_load 55 = .ok (.iadd, 1) := by decide +kernel
theorem dX12_load_56 : decode cX12_load 56 = .ok (.iaload, 1) := by decide +kernel
theorem dX12_load_57 : decode cX12_load 57 = .ok (.iastore, 1) := by decide +kernel
theorem dX12_load_58 : decode cX12_load 58 = .ok (.iconst 0, 1) := by decide +kernel
theorem dX12_load_59 : decode cX12_load 59 = .ok (.istore_n 3, 1) := by decide +kernel
theorem dX12_load_60 : decode cX12_load 60 = .ok (.iload_n 3, 1) := by decide +kernel
theorem dX12_load_61 : decode cX12_load 61 = .ok (.iconst 4, 1) := by decide +kernel
theorem dX12_load_62 : decode cX12_load 62 = .ok (.if_icmp .gt 42, 3) := by decide +kernel
theorem dX12_load_65 : decode cX12_load 65 = .ok (.aload_n 0, 1) := by decide +kernel
theorem dX12_load_66 : decode cX12_load 66 = .ok (.iload_n 3, 1) := by decide +kernel
theorem dX12_load_67 : decode cX12_load 67 = .ok (.iload_n 3, 1) := by decide +kernel
theorem dX12_load_68 : decode cX12_load 68 = .ok (.aload_n 0, 1) := by decide +kernel
theorem dX12_load_69 : decode cX12_load 69 = .ok (.getfield 8, 3) := by decide +kernel
theorem dX12_load_72 : decode cX12_load 72 = .ok (.bipush 7, 2) := by decide +kernel
theorem dX12_load_74 : decode cX12_load 74 = .ok (.iaload, 1) := by decide +kernel
theorem dX12_load_75 : decode cX12_load 75 = .ok (.if_icmp .gt 19, 3) := by decide +kernel
theorem dX12_load_78 : decode cX12_load 78 = .ok (.aload_n 0, 1) := by decide +kernel
theorem dX12_load_79 : decode cX12_load 79 = .ok (.getfield 27, 3) := by decide +kernel
theorem dX12_load_82 : decode cX12_load 82 = .ok (.iload_n 2, 1) := by decide +kernel
theorem dX12_load_83 : decode cX12_load 83 = .ok (.iload_n 3, 1) := by decide +kernel
theorem dX12_load_84 : decode cX12_load 84 = .ok (.iadd, 1) := by decide +kernel
theorem dX12_load_85 : decode cX12_load 85 = .ok (.laload, 1) := by decide +kernel
theorem dX12_load_86 : decode cX12_load 86 = .ok (.aload_n 0, 1) := by decide +kernel
theorem dX12_load_87 : decode cX12_load 87 = .ok (.invokevirtual 117, 3) := by decide +kernel
theorem dX12_load_90 : decode cX12_load 90 = .ok (.land, 1) := by decide +kernel
theorem dX12_load_91 : decode cX12_load 91 = .ok (.goto 4, 3) := by decide +kernel
theorem dX12_load_94 : decode cX12_load 94 = .ok (.lconst 0, 1) := by decide +kernel
theorem dX12_load_95 : decode cX12_load 95 = .ok (.invokevirtual 71, 3) := by decide +kernel
theorem dX12_load_98 : decode cX12_load 98 = .ok (.iinc 3 1, 3) := by decide +kernel
theorem dX12_load_101 : decode cX12_load 101 = .ok (.goto (-41), 3) := by decide +kernel
theorem dX12_load_104 : decode cX12_load 104 = .ok (.iconst 0, 1) := by decide +kernel
theorem dX12_load_105 : decode cX12_load 105 = .ok (.istore_n 3, 1) := by decide +kernel
theorem dX12_load_106 : decode cX12_load 106 = .ok (.iload_n 3, 1) := by decide +kernel
theorem dX12_load_107 : decode cX12_load 107 = .ok (.aload_n 0, 1) := by decide +kernel
theorem dX12_load_108 : decode cX12_load 108 = .ok (.invokevirtual 101, 3) := by decide +kernel
theorem dX12_load_111 : decode cX12_load 111 = .ok (.if_icmp .ge 99, 3) := by decide +kernel
theorem dX12_load_114 : decode cX12_load 114 = .ok (.aload_n 0, 1) := by decide +kernel
theorem dX12_load_115 : decode cX12_load 115 = .ok (.getfield 8, 3) := by decide +kernel
theorem dX12_load_118 : decode cX12_load 118 = .ok (.bipush 28, 2) := by decide +kernel
theorem dX12_load_120 : decode cX12_load 120 = .ok (.iload_n 3, 1) := by decide +kernel
theorem dX12_load_121 : decode cX12_load 121 = .ok (.iadd, 1) := by decide +kernel
theorem dX12_load_122 : decode cX12_load 122 = .ok (.iconst 0, 1) := by decide +kernel
theorem dX12_load_123 : decode cX12_load 123 = .ok (.iastore, 1) := by decide +kernel
theorem dX12_load_124 : decode cX12_load 124 = .ok (.iconst 0, 1) := by decide +kernel
theorem dX12_load_125 : decode cX12_load 125 = .ok (.istore 4, 2) := by decide +kernel
theorem dX12_load_127 : decode cX12_load 127 = .ok (.iload 4, 2) := by decide +kernel
theorem dX12_load_129 : decode cX12_load 129 = .ok (.aload_n 0, 1) := by decide +kernel
theorem dX12_load_130 : decode cX12_load 130 = .ok (.getfield 8, 3) := by decide +kernel
theorem dX12_load_133 : decode cX12_load 133 = .ok (.iconst 3, 1) := by decide +kernel
theorem dX12_load_134 : decode cX12_load 134 = .ok (.iaload, 1) := by decide +kernel
theorem dX12_load_135 : decode cX12_load 135 = .ok (.if_icmp .ge 69, 3) := by decide +kernel
theorem dX12_load_138 : decode cX12_load 138 = .ok (.iconst 0, 1) := by decide +kernel
theorem dX12_load_139 : decode cX12_load 139 = .ok (.istore 5, 2) := by decide +kernel
theorem dX12_load_141 : decode cX12_load 141 = .ok (.iload 5, 2) := by decide +kernel
theorem dX12_load_143 : decode cX12_load 143 = .ok (.iconst 4, 1) := by decide +kernel
theorem dX12_load_144 : decode cX12_load 144 = .ok (.if_icmp .ge 54, 3) := by decide +kernel
theorem dX12_load_147 : decode cX12_load 147 = .ok (.aload_n 0, 1) := by decide +kernel
theorem dX12_load_148 : decode cX12_load 148 = .ok (.getfield 27, 3) := by decide +kernel
theorem dX12_load_151 : decode cX12_load 151 = .ok (.iload_n 2, 1) := by decide +kernel
theorem dX12_load_152 : decode cX12_load 152 = .ok (.iconst 5, 1) := by decide +kernel
theorem dX12_load_153 : decode cX12_load 153 = .ok (.iadd, 1) := by decide +kernel
theorem dX12_load_154 : decode cX12_load 154 = .ok (.iconst 4, 1) := by decide +kernel
theorem dX12_load_155 : decode cX12_load 155 = .ok (.iload 4, 2) := by decide +kernel
theorem dX12_load_157 : decode cX12_load 157 = .ok (.imul, 1) := by decide +kernel
theorem dX12_load_158 : decode cX12_load 158 = .ok (.iadd, 1) := by decide +kernel
theorem dX12_load_159 : decode cX12_load 159 = .ok (.iload 5, 2) := by decide +kernel
theorem dX12_load_161 : decode cX12_load 161 = .ok (.iadd, 1) := by decide +kernel
theorem dX12_load_162 : decode cX12_load 162 = .ok (.laload, 1) := by decide +kernel
theorem dX12_load_163 : decode cX12_load 163 = .ok (.iload_n 3, 1) := by decide +kernel
theorem dX12_load_164 : decode cX12_load 164 = .ok (.invokestatic 86, 3) := by decide +kernel
theorem dX12_load_167 : decode cX12_load 167 = .ok (.ifCond .eq 25, 3) := by decide +kernel
theorem dX12_load_170 : decode cX12_load 170 = .ok (.aload_n 0, 1) := by decide +kernel
theorem dX12_load_171 : decode cX12_load 171 = .ok (.getfield 8, 3) := by decide +kernel
theorem dX12_load_174 : decode cX12_load 174 = .ok (.bipush 28, 2) := by decide +kernel
theorem dX12_load_176 : decode cX12_load 176 = .ok (.iload_n 3, 1) := by decide +kernel
theorem dX12_load_177 : decode cX12_load 177 = .ok (.iadd, 1) := by decide +kernel
theorem dX12_load_178 : decode cX12_load 178 = .ok (.dup2, 1) := by decide +kernel
theorem dX12_load_179 : decode cX12_load 179 = .ok (.iaload, 1) := by decide +kernel
theorem dX12_load_180 : decode cX12_load 180 = .ok (.iconst 1, 1) := by decide +kernel
theorem dX12_load_181 : decode cX12_load 181 = .ok (.bipush 6, 2) := by decide +kernel
theorem dX12_load_183 : decode cX12_load 183 = .ok (.iload 5, 2) := by decide +kernel
theorem dX12_load_185 : decode cX12_load 185 = .ok (.imul, 1) := by decide +kernel
theorem dX12_load_186 : decode cX12_load 186 = .ok (.iload 4, 2) := by decide +kernel
theorem dX12_load_188 : decode cX12_load 188 = .ok (.iadd, 1) := by decide +kernel
theorem dX12_load_189 : decode cX12_load 189 = .ok (.ishl, 1) := by decide +kernel
theorem dX12_load_190 : decode cX12_load 190 = .ok (.ior, 1) := by decide +kernel
theorem dX12_load_191 : decode cX12_load 191 = .ok (.iastore, 1) := by decide +kernel
theorem dX12_load_192 : decode cX12_load 192 = .ok (.iinc 5 1, 3) := by decide +kernel
theorem dX12_load_195 : decode cX12_load 195 = .ok (.goto (-54), 3) := by decide +kernel
theorem dX12_load_198 : decode cX12_load 198 = .ok (.iinc 4 1, 3) := by decide +kernel
theorem dX12_load_201 : decode cX12_load 201 = .ok (.goto (-74), 3) := by decide +kernel
theorem dX12_load_204 : decode cX12_load 204 = .ok (.iinc 3 1, 3) := by decide +kernel
theorem dX12_load_207 : decode cX12_load 207 = .ok (.goto (-101), 3) := by decide +kernel
theorem dX12_load_210 : decode cX12_load 210 = .ok (.aload_n 0, 1) := by decide +kernel
theorem dX12_load_211 : decode cX12_load 211 = .ok (.invokevirtual 75, 3) := by decide +kernel
theorem dX12_load_214 : decode cX12_load 214 = .ok (.aload_n 0, 1) := by decide +kernel
theorem dX12_load_215 : decode cX12_load 215 = .ok (.getfield 8, 3) := by decide +kernel
theorem dX12_load_218 : decode cX12_load 218 = .ok (.iconst 3, 1) := by decide +kernel
theorem dX12_load_219 : decode cX12_load 219 = .ok (.iaload, 1) := by decide +kernel
theorem dX12_load_220 : decode cX12_load 220 = .ok (.ireturn, 1) := by decide +kernel
theorem dX12_drawn_0 : decode cX12_drawn 0 = .ok (.iload_n 1, 1) := by decide +kernel
theorem dX12_drawn_1 : decode cX12_drawn 1 = .ok (.iconst 0, 1) := by decide +kernel
theorem dX12_drawn_2 : decode cX12_drawn 2 = .ok (.sipush 9999, 3) := by decide +kernel
theorem dX12_drawn_5 : decode cX12_drawn 5 = .ok (.invokestatic 105, 3) := by decide +kernel
theorem dX12_drawn_8 : decode cX12_drawn 8 = .ok (.ifCond .eq 13, 3) := by decide +kernel
theorem dX12_drawn_11 : decode cX12_drawn 11 = .ok (.iload_n 2, 1) := by decide +kernel
theorem dX12_drawn_12 : decode cX12_drawn 12 = .ok (.iconst 1, 1) := by decide +kernel
theorem dX12_drawn_13 : decode cX12_drawn 13 = .ok (.bipush 6, 2) := by decide +kernel
theorem dX12_drawn_15 : decode cX12_drawn 15 = .ok (.invokestatic 105, 3) := by decide +kernel
theorem dX12_drawn_18 : decode cX12_drawn 18 = .ok (.ifCond .ne 5, 3) := by decide +kernel
theorem dX12_drawn_21 : decode cX12_drawn 21 = .ok (.iconst 0, 1) := by decide +kernel
theorem dX12_drawn_22 : decode cX12_drawn 22 = .ok (.ireturn, 1) := by decide +kernel
theorem dX12_drawn_23 : decode cX12_drawn 23 = .ok (.aload_n 0, 1) := by decide +kernel
theorem dX12_drawn_24 : decode cX12_drawn 24 = .ok (.invokevirtual 234, 3) := by decide +kernel
theorem dX12_drawn_27 : decode cX12_drawn 27 = .ok (.aload_n 0, 1) := by decide +kernel
theorem dX12_drawn_28 : decode cX12_drawn 28 = .ok (.getfield 8, 3) := by decide +kernel
theorem dX12_drawn_31 : decode cX12_drawn 31 = .ok (.iconst 3, 1) := by decide +kernel
theorem dX12_drawn_32 : decode cX12_drawn 32 = .ok (.iload_n 2, 1) := by decide +kernel
theorem dX12_drawn_33 : decode cX12_drawn 33 = .ok (.iastore, 1) := by decide +kernel
theorem dX12_drawn_34 : decode cX12_drawn 34 = .ok (.aload_n 0, 1) := by decide +kernel
theorem dX12_drawn_35 : decode cX12_drawn 35 = .ok (.getfield 8, 3) := by decide +kernel
theorem dX12_drawn_38 : decode cX12_drawn 38 = .ok (.bipush 7, 2) := by decide +kernel
theorem dX12_drawn_40 : decode cX12_drawn 40 = .ok (.iconst 1, 1) := by decide +kernel
theorem dX12_drawn_41 : decode cX12_drawn 41 = .ok (.iastore, 1) := by decide +kernel
theorem dX12_drawn_42 : decode cX12_drawn 42 = .ok (.iload_n 1, 1) := by decide +kernel
theorem dX12_drawn_43 : decode cX12_drawn 43 = .ok (.istore_n 3, 1) := by decide +kernel
theorem dX12_drawn_44 : decode cX12_drawn 44 = .ok (.iconst 0, 1) := by decide +kernel
theorem dX12_drawn_45 : decode cX12_drawn 45 = .ok (.istore 4, 2) := by decide +kernel
theorem dX12_drawn_47 : decode cX12_drawn 47 = .ok (.iload 4, 2) := by decide +kernel
theorem dX12_drawn_49 : decode cX12_drawn 49 = .ok (.aload_n 0, 1) := by decide +kernel
theorem dX12_drawn_50 : decode cX12_drawn 50 = .ok (.invokevirtual 101, 3) := by decide +kernel
theorem dX12_drawn_53 : decode cX12_drawn 53 = .ok (.if_icmp .ge 77, 3) := by decide +kernel
theorem dX12_drawn_56 : decode cX12_drawn 56 = .ok (.aload_n 0, 1) := by decide +kernel
theorem dX12_drawn_57 : decode cX12_drawn 57 = .ok (.getfield 8, 3) := by decide +kernel
theorem dX12_drawn_60 : decode cX12_drawn 60 = .ok (.bipush 28, 2) := by decide +kernel
theorem dX12_drawn_62 : decode cX12_drawn 62 = .ok (.iload 4, 2) := by decide +kernel
theorem dX12_drawn_64 : decode cX12_drawn 64 = .ok (.iadd, 1) := by decide +kernel
theorem dX12_drawn_65 : decode cX12_drawn 65 = .ok (.iconst 0, 1) := by decide +kernel
theorem dX12_drawn_66 : decode cX12_drawn 66 = .ok (.iastore, 1) := by decide +kernel
theorem dX12_drawn_67 : decode cX12_drawn 67 = .ok (.iconst 0, 1) := by decide +kernel
theorem dX12_drawn_68 : decode cX12_drawn 68 = .ok (.istore 5, 2) := by decide +kernel
theorem dX12_drawn_70 : decode cX12_drawn 70 = .ok (.iload 5, 2) := by decide +kernel
theorem dX12_drawn_72 : decode cX12_drawn 72 = .ok (.iconst 4, 1) := by decide +kernel
theorem dX12_drawn_73 : decode cX12_drawn 73 = .ok (.if_icmp .ge 51, 3) := by decide +kernel
theorem dX12_drawn_76 : decode cX12_drawn 76 = .ok (.iload_n 3, 1) := by decide +kernel
theorem dX12_drawn_77 : decode cX12_drawn 77 = .ok (.sipush 773, 3) := by decide +kernel
theorem dX12_drawn_80 : decode cX12_drawn 80 = .ok (.imul, 1) := by decide +kernel
theorem dX12_drawn_81 : decode cX12_drawn 81 = .ok (.sipush 641, 3) := by decide +kernel
theorem dX12_drawn_84 : decode cX12_drawn 84 = .ok (.iadd, 1) := by decide +kernel
theorem dX12_drawn_85 : decode cX12_drawn 85 = .ok (.sipush 31139, 3) := by decide +kernel
theorem dX12_drawn_88 : decode cX12_drawn 88 = .ok (.irem, 1) := by decide +kernel
theorem dX12_drawn_89 : decode cX12_drawn 89 = .ok (.istore_n 3, 1) := by decide +kernel
theorem dX12_drawn_90 : decode cX12_drawn 90 = .ok (.aload_n 0, 1) := by decide +kernel
theorem dX12_drawn_91 : decode cX12_drawn 91 = .ok (.getfield 8, 3) := by decide +kernel
theorem dX12_drawn_94 : decode cX12_drawn 94 = .ok (.bipush 28, 2) := by decide +kernel
theorem dX12_drawn_96 : decode cX12_drawn 96 = .ok (.iload 4, 2) := by decide +kernel
theorem dX12_drawn_98 : decode cX12_drawn 98 = .ok (.iadd, 1) := by decide +kernel
theorem dX12_drawn_99 : decode cX12_drawn 99 = .ok (.dup2, 1) := by decide +kernel
theorem dX12_drawn_100 : decode cX12_drawn 100 = .ok (.iaload, 1) := by decide +kernel
theorem dX12_drawn_101 : decode cX12_drawn 101 = .ok (.iload_n 3, 1) := by decide +kernel
theorem dX12_drawn_102 : decode cX12_drawn 102 = .ok (.bipush 7, 2) := by decide +kernel
theorem dX12_drawn_104 : decode cX12_drawn 104 = .ok (.idiv, 1) := by decide +kernel
theorem dX12_drawn_105 : decode cX12_drawn 105 = .ok (.aload_n 0, 1) := by decide +kernel
theorem dX12_drawn_106 : decode cX12_drawn 106 = .ok (.invokevirtual 101, 3) := by decide +kernel
theorem dX12_drawn_109 : decode cX12_drawn 109 = .ok (.irem, 1) := by decide +kernel
theorem dX12_drawn_110 : decode cX12_drawn 110 = .ok (.bipush 6, 2) := by decide +kernel
theorem dX12_drawn_112 : decode cX12_drawn 112 = .ok (.iload 5, 2) := by decide +kernel
theorem dX12_drawn_114 : decode cX12_drawn 114 = .ok (.imul, 1) := by decide +kernel
theorem dX12_drawn_115 : decode cX12_drawn 115 = .ok (.ishl, 1) := by decide +kernel
theorem dX12_drawn_116 : decode cX12_drawn 116 = .ok (.ior, 1) := by decide +kernel
theorem dX12_drawn_117 : decode cX12_drawn 117 = .ok (.iastore, 1) := by decide +kernel
theorem dX12_drawn_118 : decode cX12_drawn 118 = .ok (.iinc 5 1, 3) := by decide +kernel
theorem dX12_drawn_121 : decode cX12_drawn 121 = .ok (.goto (-51), 3) := by decide +kernel
theorem dX12_drawn_124 : decode cX12_drawn 124 = .ok (.iinc 4 1, 3) := by decide +kernel
theorem dX12_drawn_127 : decode cX12_drawn 127 = .ok (.goto (-80), 3) := by decide +kernel
theorem dX12_drawn_130 : decode cX12_drawn 130 = .ok (.aload_n 0, 1) := by decide +kernel
theorem dX12_drawn_131 : decode cX12_drawn 131 = .ok (.iconst 0, 1) := by decide +kernel
theorem dX12_drawn_132 : decode cX12_drawn 132 = .ok (.lconst 1, 1) := by decide +kernel
theorem dX12_drawn_133 : decode cX12_drawn 133 = .ok (.invokevirtual 71, 3) := by decide +kernel
theorem dX12_drawn_136 : decode cX12_drawn 136 = .ok (.aload_n 0, 1) := by decide +kernel
theorem dX12_drawn_137 : decode cX12_drawn 137 = .ok (.iconst 1, 1) := by decide +kernel
theorem dX12_drawn_138 : decode cX12_drawn 138 = .ok (.lconst 1, 1) := by decide +kernel
theorem dX12_drawn_139 : decode cX12_drawn 139 = .ok (.aload_n 0, 1) := by decide +kernel
theorem dX12_drawn_140 : decode cX12_drawn 140 = .ok (.invokevirtual 101, 3) := by decide +kernel
theorem dX12_drawn_143 : decode cX12_drawn 143 = .ok (.iconst 1, 1) := by decide +kernel
theorem dX12_drawn_144 : decode cX12_drawn 144 = .ok (.isub, 1) := by decide +kernel
theorem dX12_drawn_145 : decode cX12_drawn 145 = .ok (.lshl, 1) := by decide +kernel
theorem dX12_drawn_146 : decode cX12_drawn 146 = .ok (.invokevirtual 71, 3) := by decide +kernel
theorem dX12_drawn_149 : decode cX12_drawn 149 = .ok (.aload_n 0, 1) := by decide +kernel
theorem dX12_drawn_150 : decode cX12_drawn 150 = .ok (.invokevirtual 75, 3) := by decide +kernel
theorem dX12_drawn_153 : decode cX12_drawn 153 = .ok (.iconst 1, 1) := by decide +kernel
theorem dX12_drawn_154 : decode cX12_drawn 154 = .ok (.ireturn, 1) := by decide +kernel
theorem dX12_highest_0 : decode cX12_highest 0 = .ok (.iconst 1, 1) := by decide +kernel
theorem dX12_highest_1 : decode cX12_highest 1 = .ok (.istore_n 1, 1) := by decide +kernel
theorem dX12_highest_2 : decode cX12_highest 2 = .ok (.iconst 0, 1) := by decide +kernel
theorem dX12_highest_3 : decode cX12_highest 3 = .ok (.istore_n 2, 1) := by decide +kernel
theorem dX12_highest_4 : decode cX12_highest 4 = .ok (.iload_n 2, 1) := by decide +kernel
theorem dX12_highest_5 : decode cX12_highest 5 = .ok (.aload_n 0, 1) := by decide +kernel
theorem dX12_highest_6 : decode cX12_highest 6 = .ok (.getfield 8, 3) := by decide +kernel
theorem dX12_highest_9 : decode cX12_highest 9 = .ok (.bipush 17, 2) := by decide +kernel
theorem dX12_highest_11 : decode cX12_highest 11 = .ok (.iaload, 1) := by decide +kernel
theorem dX12_highest_12 : decode cX12_highest 12 = .ok (.if_icmp .ge 28, 3) := by decide +kernel
theorem dX12_highest_15 : decode cX12_highest 15 = .ok (.aload_n 0, 1) := by decide +kernel
theorem dX12_highest_16 : decode cX12_highest 16 = .ok (.iload_n 2, 1) := by decide +kernel
theorem dX12_highest_17 : decode cX12_highest 17 = .ok (.invokevirtual 237, 3) := by decide +kernel
theorem dX12_highest_20 : decode cX12_highest 20 = .ok (.iload_n 1, 1) := by decide +kernel
theorem dX12_highest_21 : decode cX12_highest 21 = .ok (.if_icmp .le 11, 3) := by decide +kernel
theorem dX12_highest_24 : decode cX12_highest 24 = .ok (.aload_n 0, 1) := by decide +kernel
theorem dX12_highest_25 : decode cX12_highest 25 = .ok (.iload_n 2, 1) := by decide +kernel
theorem dX12_highest_26 : decode cX12_highest 26 = .ok (.invokevirtual 237, 3) := by decide +kernel
theorem dX12_highest_29 : decode cX12_highest 29 = .ok (.goto 4, 3) := by decide +kernel
theorem dX12_highest_32 : decode cX12_highest 32 = .ok (.iload_n 1, 1) := by decide +kernel
theorem dX12_highest_33 : decode cX12_highest 33 = .ok (.istore_n 1, 1) := by decide +kernel
theorem dX12_highest_34 : decode cX12_highest 34 = .ok (.iinc 2 1, 3) := by decide +kernel
theorem dX12_highest_37 : decode cX12_highest 37 = .ok (.goto (-33), 3) := by decide +kernel
theorem dX12_highest_40 : decode cX12_highest 40 = .ok (.iload_n 1, 1) := by decide +kernel
theorem dX12_highest_41 : decode cX12_highest 41 = .ok (.ireturn, 1) := by decide +kernel
theorem dX12_aimAt_0 : decode cX12_aimAt 0 = .ok (.aload_n 0, 1) := by decide +kernel
theorem dX12_aimAt_1 : decode cX12_aimAt 1 = .ok (.getfield 8, 3) := by decide +kernel
theorem dX12_aimAt_4 : decode cX12_aimAt 4 = .ok (.bipush 8, 2) := by decide +kernel
theorem dX12_aimAt_6 : decode cX12_aimAt 6 = .ok (.iload_n 1, 1) := by decide +kernel
theorem dX12_aimAt_7 : decode cX12_aimAt 7 = .ok (.iastore, 1) := by decide +kernel
theorem dX12_aimAt_8 : decode cX12_aimAt 8 = .ok (.aload_n 0, 1) := by decide +kernel
theorem dX12_aimAt_9 : decode cX12_aimAt 9 = .ok (.getfield 8, 3) := by decide +kernel
theorem dX12_aimAt_12 : decode cX12_aimAt 12 = .ok (.bipush 9, 2) := by decide +kernel
theorem dX12_aimAt_14 : decode cX12_aimAt 14 = .ok (.iconst 0, 1) := by decide +kernel
theorem dX12_aimAt_15 : decode cX12_aimAt 15 = .ok (.iastore, 1) := by decide +kernel
theorem dX12_aimAt_16 : decode cX12_aimAt 16 = .ok (.aload_n 0, 1) := by decide +kernel
theorem dX12_aimAt_17 : decode cX12_aimAt 17 = .ok (.getfield 8, 3) := by decide +kernel
theorem dX12_aimAt_20 : decode cX12_aimAt 20 = .ok (.iconst 5, 1) := by decide +kernel
theorem dX12_aimAt_21 : decode cX12_aimAt 21 = .ok (.iconst 0, 1) := by decide +kernel
theorem dX12_aimAt_22 : decode cX12_aimAt 22 = .ok (.iastore, 1) := by decide +kernel
theorem dX12_aimAt_23 : decode cX12_aimAt 23 = .ok (.aload_n 0, 1) := by decide +kernel
theorem dX12_aimAt_24 : decode cX12_aimAt 24 = .ok (.getfield 8, 3) := by decide +kernel
theorem dX12_aimAt_27 : decode cX12_aimAt 27 = .ok (.iconst 4, 1) := by decide +kernel
theorem dX12_aimAt_28 : decode cX12_aimAt 28 = .ok (.aload_n 0, 1) := by decide +kernel
theorem dX12_aimAt_29 : decode cX12_aimAt 29 = .ok (.invokevirtual 240, 3) := by decide +kernel
theorem dX12_aimAt_32 : decode cX12_aimAt 32 = .ok (.iastore, 1) := by decide +kernel
theorem dX12_aimAt_33 : decode cX12_aimAt 33 = .ok (.return_, 1) := by decide +kernel
theorem dX12_aim_0 : decode cX12_aim 0 = .ok (.iload_n 1, 1) := by decide +kernel
theorem dX12_aim_1 : decode cX12_aim 1 = .ok (.iconst 0, 1) := by decide +kernel
theorem dX12_aim_2 : decode cX12_aim 2 = .ok (.aload_n 0, 1) := by decide +kernel
theorem dX12_aim_3 : decode cX12_aim 3 = .ok (.getfield 8, 3) := by decide +kernel
theorem dX12_aim_6 : decode cX12_aim 6 = .ok (.bipush 7, 2) := by decide +kernel
theorem dX12_aim_8 : decode cX12_aim 8 = .ok (.iaload, 1) := by decide +kernel
theorem dX12_aim_9 : decode cX12_aim 9 = .ok (.iconst 1, 1) := by decide +kernel
theorem dX12_aim_10 : decode cX12_aim 10 = .ok (.isub, 1) := by decide +kernel
theorem dX12_aim_11 : decode cX12_aim 11 = .ok (.invokestatic 105, 3) := by decide +kernel
theorem dX12_aim_14 : decode cX12_aim 14 = .ok (.ifCond .ne 5, 3) := by decide +kernel
theorem dX12_aim_17 : decode cX12_aim 17 = .ok (.iconst 0, 1) := by decide +kernel
theorem dX12_aim_18 : decode cX12_aim 18 = .ok (.ireturn, 1) := by decide +kernel
theorem dX12_aim_19 : decode cX12_aim 19 = .ok (.aload_n 0, 1) := by decide +kernel
theorem dX12_aim_20 : decode cX12_aim 20 = .ok (.invokevirtual 234, 3) := by decide +kernel
theorem dX12_aim_23 : decode cX12_aim 23 = .ok (.aload_n 0, 1) := by decide +kernel
theorem dX12_aim_24 : decode cX12_aim 24 = .ok (.iload_n 1, 1) := by decide +kernel
theorem dX12_aim_25 : decode cX12_aim 25 = .ok (.invokevirtual 243, 3) := by decide +kernel
theorem dX12_aim_28 : decode cX12_aim 28 = .ok (.iconst 1, 1) := by decide +kernel
theorem dX12_aim_29 : decode cX12_aim 29 = .ok (.ireturn, 1) := by decide +kernel
theorem dX12_mode_0 : decode cX12_mode 0 = .ok (.iload_n 1, 1) := by decide +kernel
theorem dX12_mode_1 : decode cX12_mode 1 = .ok (.iconst 0, 1) := by decide +kernel
theorem dX12_mode_2 : decode cX12_mode 2 = .ok (.iconst 2, 1) := by decide +kernel
theorem dX12_mode_3 : decode cX12_mode 3 = .ok (.invokestatic 105, 3) := by decide +kernel
theorem dX12_mode_6 : decode cX12_mode 6 = .ok (.ifCond .ne 5, 3) := by decide +kernel
theorem dX12_mode_9 : decode cX12_mode 9 = .ok (.iconst 0, 1) := by decide +kernel
theorem dX12_mode_10 : decode cX12_mode 10 = .ok (.ireturn, 1) := by decide +kernel
theorem dX12_mode_11 : decode cX12_mode 11 = .ok (.aload_n 0, 1) := by decide +kernel
theorem dX12_mode_12 : decode cX12_mode 12 = .ok (.invokevirtual 234, 3) := by decide +kernel
theorem dX12_mode_15 : decode cX12_mode 15 = .ok (.aload_n 0, 1) := by decide +kernel
theorem dX12_mode_16 : decode cX12_mode 16 = .ok (.getfield 8, 3) := by decide +kernel
theorem dX12_mode_19 : decode cX12_mode 19 = .ok (.bipush 15, 2) := by decide +kernel
theorem dX12_mode_21 : decode cX12_mode 21 = .ok (.iload_n 1, 1) := by decide +kernel
theorem dX12_mode_22 : decode cX12_mode 22 = .ok (.iastore, 1) := by decide +kernel
theorem dX12_mode_23 : decode cX12_mode 23 = .ok (.iconst 1, 1) := by decide +kernel
theorem dX12_mode_24 : decode cX12_mode 24 = .ok (.ireturn, 1) := by decide +kernel
theorem dX12_frameOf_0 : decode cX12_frameOf 0 = .ok (.aload_n 0, 1) := by decide +kernel
theorem dX12_frameOf_1 : decode cX12_frameOf 1 = .ok (.getfield 8, 3) := by decide +kernel
theorem dX12_frameOf_4 : decode cX12_frameOf 4 = .ok (.bipush 104, 2) := by decide +kernel
theorem dX12_frameOf_6 : decode cX12_frameOf 6 = .ok (.iload_n 1, 1) := by decide +kernel
theorem dX12_frameOf_7 : decode cX12_frameOf 7 = .ok (.iadd, 1) := by decide +kernel
theorem dX12_frameOf_8 : decode cX12_frameOf 8 = .ok (.iaload, 1) := by decide +kernel
theorem dX12_frameOf_9 : decode cX12_frameOf 9 = .ok (.bipush 12, 2) := by decide +kernel
theorem dX12_frameOf_11 : decode cX12_frameOf 11 = .ok (.ishr, 1) := by decide +kernel
theorem dX12_frameOf_12 : decode cX12_frameOf 12 = .ok (.ireturn, 1) := by decide +kernel
theorem dX12_maskOf_0 : decode cX12_maskOf 0 = .ok (.aload_n 0, 1) := by decide +kernel
theorem dX12_maskOf_1 : decode cX12_maskOf 1 = .ok (.getfield 8, 3) := by decide +kernel
theorem dX12_maskOf_4 : decode cX12_maskOf 4 = .ok (.bipush 104, 2) := by decide +kernel
theorem dX12_maskOf_6 : decode cX12_maskOf 6 = .ok (.iload_n 1, 1) := by decide +kernel
theorem dX12_maskOf_7 : decode cX12_maskOf 7 = .ok (.iadd, 1) := by decide +kernel
theorem dX12_maskOf_8 : decode cX12_maskOf 8 = .ok (.iaload, 1) := by decide +kernel
theorem dX12_maskOf_9 : decode cX12_maskOf 9 = .ok (.bipush 6, 2) := by decide +kernel
theorem dX12_maskOf_11 : decode cX12_maskOf 11 = .ok (.ishr, 1) := by decide +kernel
theorem dX12_maskOf_12 : decode cX12_maskOf 12 = .ok (.bipush 63, 2) := by decide +kernel
theorem dX12_maskOf_14 : decode cX12_maskOf 14 = .ok (.iand, 1) := by decide +kernel
theorem dX12_maskOf_15 : decode cX12_maskOf 15 = .ok (.ireturn, 1) := by decide +kernel
theorem dX12_bitsOf_0 : decode cX12_bitsOf 0 = .ok (.aload_n 0, 1) := by decide +kernel
theorem dX12_bitsOf_1 : decode cX12_bitsOf 1 = .ok (.getfield 8, 3) := by decide +kernel
theorem dX12_bitsOf_4 : decode cX12_bitsOf 4 = .ok (.bipush 104, 2) := by decide +kernel
theorem dX12_bitsOf_6 : decode cX12_bitsOf 6 = .ok (.iload_n 1, 1) := by decide +kernel
theorem dX12_bitsOf_7 : decode cX12_bitsOf 7 = .ok (.iadd, 1) := by decide +kernel
theorem dX12_bitsOf_8 : decode cX12_bitsOf 8 = .ok (.iaload, 1) := by decide +kernel
theorem dX12_bitsOf_9 : decode cX12_bitsOf 9 = .ok (.bipush 63, 2) := by decide +kernel
theorem dX12_bitsOf_11 : decode cX12_bitsOf 11 = .ok (.iand, 1) := by decide +kernel
theorem dX12_bitsOf_12 : decode cX12_bitsOf 12 = .ok (.ireturn, 1) := by decide +kernel
theorem dX12_setOfCube_0 : decode cX12_setOfCube 0 = .ok (.aload_n 0, 1) := by decide +kernel
theorem dX12_setOfCube_1 : decode cX12_setOfCube 1 = .ok (.aload_n 0, 1) := by decide +kernel
theorem dX12_setOfCube_2 : decode cX12_setOfCube 2 = .ok (.iload_n 1, 1) := by decide +kernel
theorem dX12_setOfCube_3 : decode cX12_setOfCube 3 = .ok (.invokevirtual 246, 3) := by decide +kernel
theorem dX12_setOfCube_6 : decode cX12_setOfCube 6 = .ok (.aload_n 0, 1) := by decide +kernel
theorem dX12_setOfCube_7 : decode cX12_setOfCube 7 = .ok (.iload_n 1, 1) := by decide +kernel
theorem dX12_setOfCube_8 : decode cX12_setOfCube 8 = .ok (.invokevirtual 249, 3) := by decide +kernel
theorem dX12_setOfCube_11 : decode cX12_setOfCube 11 = .ok (.invokevirtual 252, 3) := by decide +kernel
theorem dX12_setOfCube_14 : decode cX12_setOfCube 14 = .ok (.lreturn, 1) := by decide +kernel
theorem dX12_openAt_0 : decode cX12_openAt 0 = .ok (.iload_n 1, 1) := by decide +kernel
theorem dX12_openAt_1 : decode cX12_openAt 1 = .ok (.ifCond .ne 8, 3) := by decide +kernel
theorem dX12_openAt_4 : decode cX12_openAt 4 = .ok (.aload_n 0, 1) := by decide +kernel
theorem dX12_openAt_5 : decode cX12_openAt 5 = .ok (.invokevirtual 255, 3) := by decide +kernel
theorem dX12_openAt_8 : decode cX12_openAt 8 = .ok (.lreturn, 1) := by decide +kernel
theorem dX12_openAt_9 : decode cX12_openAt 9 = .ok (.aload_n 0, 1) := by decide +kernel
theorem dX12_openAt_10 : decode cX12_openAt 10 = .ok (.invokevirtual 117, 3) := by decide +kernel
theorem dX12_openAt_13 : decode cX12_openAt 13 = .ok (.lstore_n 2, 1) := by decide +kernel
theorem dX12_openAt_14 : decode cX12_openAt 14 = .ok (.iconst 0, 1) := by decide +kernel
theorem dX12_openAt_15 : decode cX12_openAt 15 = .ok (.istore 4, 2) := by decide +kernel
theorem dX12_openAt_17 : decode cX12_openAt 17 = .ok (.iload 4, 2) := by decide +kernel
theorem dX12_openAt_19 : decode cX12_openAt 19 = .ok (.aload_n 0, 1) := by decide +kernel
theorem dX12_openAt_20 : decode cX12_openAt 20 = .ok (.getfield 8, 3) := by decide +kernel
theorem dX12_openAt_23 : decode cX12_openAt 23 = .ok (.bipush 17, 2) := by decide +kernel
theorem dX12_openAt_25 : decode cX12_openAt 25 = .ok (.iaload, 1) := by decide +kernel
theorem dX12_openAt_26 : decode cX12_openAt 26 = .ok (.if_icmp .ge 32, 3) := by decide +kernel
theorem dX12_openAt_29 : decode cX12_openAt 29 = .ok (.aload_n 0, 1) := by decide +kernel
theorem dX12_openAt_30 : decode cX12_openAt 30 = .ok (.iload 4, 2) := by decide +kernel
theorem dX12_openAt_32 : decode cX12_openAt 32 = .ok (.invokevirtual 237, 3) := by decide +kernel
theorem dX12_openAt_35 : decode cX12_openAt 35 = .ok (.iload_n 1, 1) := by decide +kernel
theorem dX12_openAt_36 : decode cX12_openAt 36 = .ok (.if_icmp .lt 16, 3) := by decide +kernel
theorem dX12_openAt_39 : decode cX12_openAt 39 = .ok (.lload_n 2, 1) := by decide +kernel
theorem dX12_openAt_40 : decode cX12_openAt 40 = .ok (.aload_n 0, 1) := by decide +kernel
theorem dX12_openAt_41 : decode cX12_openAt 41 = .ok (.iload 4, 2) := by decide +kernel
theorem dX12_openAt_43 : decode cX12_openAt 43 = .ok (.invokevirtual 258, 3) := by decide +kernel
theorem dX12_openAt_46 : decode cX12_openAt 46 = .ok (.ldc2_w 92, 3) := by decide +kernel
theorem dX12_openAt_49 : decode cX12_openAt 49 = .ok (.lxor, 1) := by decide +kernel
theorem dX12_openAt_50 : decode cX12_openAt 50 = .ok (.land, 1) := by decide +kernel
theorem dX12_openAt_51 : decode cX12_openAt 51 = .ok (.lstore_n 2, 1) := by decide +kernel
theorem dX12_openAt_52 : decode cX12_openAt 52 = .ok (.iinc 4 1, 3) := by decide +kernel
theorem dX12_openAt_55 : decode cX12_openAt 55 = .ok (.goto (-38), 3) := by decide +kernel
theorem dX12_openAt_58 : decode cX12_openAt 58 = .ok (.lload_n 2, 1) := by decide +kernel
theorem dX12_openAt_59 : decode cX12_openAt 59 = .ok (.lreturn, 1) := by decide +kernel
theorem dX12_isClosed_0 : decode cX12_isClosed 0 = .ok (.iconst 0, 1) := by decide +kernel
theorem dX12_isClosed_1 : decode cX12_isClosed 1 = .ok (.istore 5, 2) := by decide +kernel
theorem dX12_isClosed_3 : decode cX12_isClosed 3 = .ok (.iload 5, 2) := by decide +kernel
theorem dX12_isClosed_5 : decode cX12_isClosed 5 = .ok (.aload_n 0, 1) := by decide +kernel
theorem dX12_isClosed_6 : decode cX12_isClosed 6 = .ok (.invokevirtual 101, 3) := by decide +kernel
theorem dX12_isClosed_9 : decode cX12_isClosed 9 = .ok (.if_icmp .ge 39, 3) := by decide +kernel
theorem dX12_isClosed_12 : decode cX12_isClosed 12 = .ok (.lload_n 1, 1) := by decide +kernel
theorem dX12_isClosed_13 : decode cX12_isClosed 13 = .ok (.lload_n 3, 1) := by decide +kernel
theorem dX12_isClosed_14 : decode cX12_isClosed 14 = .ok (.ldc2_w 92, 3) := by decide +kernel
theorem dX12_isClosed_17 : decode cX12_isClosed 17 = .ok (.lxor, 1) := by decide +kernel
theorem dX12_isClosed_18 : decode cX12_isClosed 18 = .ok (.land, 1) := by decide +kernel
theorem dX12_isClosed_19 : decode cX12_isClosed 19 = .ok (.iload 5, 2) := by decide +kernel
theorem dX12_isClosed_21 : decode cX12_isClosed 21 = .ok (.invokestatic 86, 3) := by decide +kernel
theorem dX12_isClosed_24 : decode cX12_isClosed 24 = .ok (.ifCond .eq 18, 3) := by decide +kernel
theorem dX12_isClosed_27 : decode cX12_isClosed 27 = .ok (.aload_n 0, 1) := by decide +kernel
theorem dX12_isClosed_28 : decode cX12_isClosed 28 = .ok (.iload 5, 2) := by decide +kernel
theorem dX12_isClosed_30 : decode cX12_isClosed 30 = .ok (.invokevirtual 261, 3) := by decide +kernel
theorem dX12_isClosed_33 : decode cX12_isClosed 33 = .ok (.lload_n 3, 1) := by decide +kernel
theorem dX12_isClosed_34 : decode cX12_isClosed 34 = .ok (.land, 1) := by decide +kernel
theorem dX12_isClosed_35 : decode cX12_isClosed 35 = .ok (.lconst 0, 1) := by decide +kernel
theorem dX12_isClosed_36 : decode cX12_isClosed 36 = .ok (.lcmp, 1) := by decide +kernel
theorem dX12_isClosed_37 : decode cX12_isClosed 37 = .ok (.ifCond .eq 5, 3) := by decide +kernel
theorem dX12_isClosed_40 : decode cX12_isClosed 40 = .ok (.iconst 0, 1) := by decide +kernel
theorem dX12_isClosed_41 : decode cX12_isClosed 41 = .ok (.ireturn, 1) := by decide +kernel
theorem dX12_isClosed_42 : decode cX12_isClosed 42 = .ok (.iinc 5 1, 3) := by decide +kernel
theorem dX12_isClosed_45 : decode cX12_isClosed 45 = .ok (.goto (-42), 3) := by decide +kernel
theorem dX12_isClosed_48 : decode cX12_isClosed 48 = .ok (.iconst 1, 1) := by decide +kernel
theorem dX12_isClosed_49 : decode cX12_isClosed 49 = .ok (.ireturn, 1) := by decide +kernel
theorem dX12_doesHold_0 : decode cX12_doesHold 0 = .ok (.aload_n 0, 1) := by decide +kernel
theorem dX12_doesHold_1 : decode cX12_doesHold 1 = .ok (.aload_n 0, 1) := by decide +kernel
theorem dX12_doesHold_2 : decode cX12_doesHold 2 = .ok (.iload_n 3, 1) := by decide +kernel
theorem dX12_doesHold_3 : decode cX12_doesHold 3 = .ok (.invokevirtual 264, 3) := by decide +kernel
theorem dX12_doesHold_6 : decode cX12_doesHold 6 = .ok (.aload_n 0, 1) := by decide +kernel
theorem dX12_doesHold_7 : decode cX12_doesHold 7 = .ok (.iload_n 1, 1) := by decide +kernel
theorem dX12_doesHold_8 : decode cX12_doesHold 8 = .ok (.iload_n 2, 1) := by decide +kernel
theorem dX12_doesHold_9 : decode cX12_doesHold 9 = .ok (.invokevirtual 252, 3) := by decide +kernel
theorem dX12_doesHold_12 : decode cX12_doesHold 12 = .ok (.invokevirtual 267, 3) := by decide +kernel
theorem dX12_doesHold_15 : decode cX12_doesHold 15 = .ok (.ireturn, 1) := by decide +kernel
theorem dX12_isAsked_0 : decode cX12_isAsked 0 = .ok (.aload_n 0, 1) := by decide +kernel
theorem dX12_isAsked_1 : decode cX12_isAsked 1 = .ok (.getfield 8, 3) := by decide +kernel
theorem dX12_isAsked_4 : decode cX12_isAsked 4 = .ok (.bipush 12, 2) := by decide +kernel
theorem dX12_isAsked_6 : decode cX12_isAsked 6 = .ok (.dup2, 1) := by decide +kernel
theorem dX12_isAsked_7 : decode cX12_isAsked 7 = .ok (.iaload, 1) := by decide +kernel
theorem dX12_isAsked_8 : decode cX12_isAsked 8 = .ok (.iconst 1, 1) := by decide +kernel
theorem dX12_isAsked_9 : decode cX12_isAsked 9 = .ok (.iadd, 1) := by decide +kernel
theorem dX12_isAsked_10 : decode cX12_isAsked 10 = .ok (.iastore, 1) := by decide +kernel
theorem dX12_isAsked_11 : decode cX12_isAsked 11 = .ok (.aload_n 0, 1) := by decide +kernel
theorem dX12_isAsked_12 : decode cX12_isAsked 12 = .ok (.iload_n 1, 1) := by decide +kernel
theorem dX12_isAsked_13 : decode cX12_isAsked 13 = .ok (.iload_n 2, 1) := by decide +kernel
theorem dX12_isAsked_14 : decode cX12_isAsked 14 = .ok (.iload_n 3, 1) := by decide +kernel
theorem dX12_isAsked_15 : decode cX12_isAsked 15 = .ok (.invokevirtual 271, 3) := by decide +kernel
theorem dX12_isAsked_18 : decode cX12_isAsked 18 = .ok (.ireturn, 1) := by decide +kernel
theorem dX12_outCube_0 : decode cX12_outCube 0 = .ok (.iload_n 1, 1) := by decide +kernel
theorem dX12_outCube_1 : decode cX12_outCube 1 = .ok (.istore_n 2, 1) := by decide +kernel
theorem dX12_outCube_2 : decode cX12_outCube 2 = .ok (.iload_n 2, 1) := by decide +kernel
theorem dX12_outCube_3 : decode cX12_outCube 3 = .ok (.aload_n 0, 1) := by decide +kernel
theorem dX12_outCube_4 : decode cX12_outCube 4 = .ok (.getfield 8, 3) := by decide +kernel
theorem dX12_outCube_7 : decode cX12_outCube 7 = .ok (.bipush 17, 2) := by decide +kernel
theorem dX12_outCube_9 : decode cX12_outCube 9 = .ok (.iaload, 1) := by decide +kernel
theorem dX12_outCube_10 : decode cX12_outCube 10 = .ok (.iconst 1, 1) := by decide +kernel
theorem dX12_outCube_11 : decode cX12_outCube 11 = .ok (.isub, 1) := by decide +kernel
theorem dX12_outCube_12 : decode cX12_outCube 12 = .ok (.if_icmp .ge 29, 3) := by decide +kernel
theorem dX12_outCube_15 : decode cX12_outCube 15 = .ok (.aload_n 0, 1) := by decide +kernel
theorem dX12_outCube_16 : decode cX12_outCube 16 = .ok (.getfield 8, 3) := by decide +kernel
theorem dX12_outCube_19 : decode cX12_outCube 19 = .ok (.bipush 104, 2) := by decide +kernel
theorem dX12_outCube_21 : decode cX12_outCube 21 = .ok (.iload_n 2, 1) := by decide +kernel
theorem dX12_outCube_22 : decode cX12_outCube 22 = .ok (.iadd, 1) := by decide +kernel
theorem dX12_outCube_23 : decode cX12_outCube 23 = .ok (.aload_n 0, 1) := by decide +kernel
theorem dX12_outCube_24 : decode cX12_outCube 24 = .ok (.getfield 8, 3) := by decide +kernel
theorem dX12_outCube_27 : decode cX12_outCube 27 = .ok (.bipush 104, 2) := by decide +kernel
theorem dX12_outCube_29 : decode cX12_outCube 29 = .ok (.iload_n 2, 1) := by decide +kernel
theorem dX12_outCube_30 : decode cX12_outCube 30 = .ok (.iadd, 1) := by decide +kernel
theorem dX12_outCube_31 : decode cX12_outCube 31 = .ok (.iconst 1, 1) := by decide +kernel
theorem dX12_outCube_32 : decode cX12_outCube 32 = .ok (.iadd, 1) := by decide +kernel
theorem dX12_outCube_33 : decode cX12_outCube 33 = .ok (.iaload, 1) := by decide +kernel
theorem dX12_outCube_34 : decode cX12_outCube 34 = .ok (.iastore, 1) := by decide +kernel
theorem dX12_outCube_35 : decode cX12_outCube 35 = .ok (.iinc 2 1, 3) := by decide +kernel
theorem dX12_outCube_38 : decode cX12_outCube 38 = .ok (.goto (-36), 3) := by decide +kernel
theorem dX12_outCube_41 : decode cX12_outCube 41 = .ok (.aload_n 0, 1) := by decide +kernel
theorem dX12_outCube_42 : decode cX12_outCube 42 = .ok (.getfield 8, 3) := by decide +kernel
theorem dX12_outCube_45 : decode cX12_outCube 45 = .ok (.bipush 17, 2) := by decide +kernel
theorem dX12_outCube_47 : decode cX12_outCube 47 = .ok (.dup2, 1) := by decide +kernel
theorem dX12_outCube_48 : decode cX12_outCube 48 = .ok (.iaload, 1) := by decide +kernel
theorem dX12_outCube_49 : decode cX12_outCube 49 = .ok (.iconst 1, 1) := by decide +kernel
theorem dX12_outCube_50 : decode cX12_outCube 50 = .ok (.isub, 1) := by decide +kernel
theorem dX12_outCube_51 : decode cX12_outCube 51 = .ok (.iastore, 1) := by decide +kernel
theorem dX12_outCube_52 : decode cX12_outCube 52 = .ok (.return_, 1) := by decide +kernel
theorem dX12_liesIn_0 : decode cX12_liesIn 0 = .ok (.iload_n 2, 1) := by decide +kernel
theorem dX12_liesIn_1 : decode cX12_liesIn 1 = .ok (.iload_n 0, 1) := by decide +kernel
theorem dX12_liesIn_2 : decode cX12_liesIn 2 = .ok (.iconst (-1), 1) := by decide +kernel
theorem dX12_liesIn_3 : decode cX12_liesIn 3 = .ok (.ixor, 1) := by decide +kernel
theorem dX12_liesIn_4 : decode cX12_liesIn 4 = .ok (.iand, 1) := by decide +kernel
theorem dX12_liesIn_5 : decode cX12_liesIn 5 = .ok (.ifCond .ne 14, 3) := by decide +kernel
theorem dX12_liesIn_8 : decode cX12_liesIn 8 = .ok (.iload_n 1, 1) := by decide +kernel
theorem dX12_liesIn_9 : decode cX12_liesIn 9 = .ok (.iload_n 2, 1) := by decide +kernel
theorem dX12_liesIn_10 : decode cX12_liesIn 10 = .ok (.iand, 1) := by decide +kernel
theorem dX12_liesIn_11 : decode cX12_liesIn 11 = .ok (.iload_n 3, 1) := by decide +kernel
theorem dX12_liesIn_12 : decode cX12_liesIn 12 = .ok (.if_icmp .ne 7, 3) := by decide +kernel
theorem dX12_liesIn_15 : decode cX12_liesIn 15 = .ok (.iconst 1, 1) := by decide +kernel
theorem dX12_liesIn_16 : decode cX12_liesIn 16 = .ok (.goto 4, 3) := by decide +kernel
theorem dX12_liesIn_19 : decode cX12_liesIn 19 = .ok (.iconst 0, 1) := by decide +kernel
theorem dX12_liesIn_20 : decode cX12_liesIn 20 = .ok (.ireturn, 1) := by decide +kernel
theorem dX12_addCube_0 : decode cX12_addCube 0 = .ok (.iconst 0, 1) := by decide +kernel
theorem dX12_addCube_1 : decode cX12_addCube 1 = .ok (.istore 4, 2) := by decide +kernel
theorem dX12_addCube_3 : decode cX12_addCube 3 = .ok (.iload 4, 2) := by decide +kernel
theorem dX12_addCube_5 : decode cX12_addCube 5 = .ok (.aload_n 0, 1) := by decide +kernel
theorem dX12_addCube_6 : decode cX12_addCube 6 = .ok (.getfield 8, 3) := by decide +kernel
theorem dX12_addCube_9 : decode cX12_addCube 9 = .ok (.bipush 17, 2) := by decide +kernel
theorem dX12_addCube_11 : decode cX12_addCube 11 = .ok (.iaload, 1) := by decide +kernel
theorem dX12_addCube_12 : decode cX12_addCube 12 = .ok (.if_icmp .ge 48, 3) := by decide +kernel
theorem dX12_addCube_15 : decode cX12_addCube 15 = .ok (.aload_n 0, 1) := by decide +kernel
theorem dX12_addCube_16 : decode cX12_addCube 16 = .ok (.iload 4, 2) := by decide +kernel
theorem dX12_addCube_18 : decode cX12_addCube 18 = .ok (.invokevirtual 237, 3) := by decide +kernel
theorem dX12_addCube_21 : decode cX12_addCube 21 = .ok (.iload_n 3, 1) := by decide +kernel
theorem dX12_addCube_22 : decode cX12_addCube 22 = .ok (.if_icmp .gt 32, 3) := by decide +kernel
theorem dX12_addCube_25 : decode cX12_addCube 25 = .ok (.aload_n 0, 1) := by decide +kernel
theorem dX12_addCube_26 : decode cX12_addCube 26 = .ok (.iload 4, 2) := by decide +kernel
theorem dX12_addCube_28 : decode cX12_addCube 28 = .ok (.invokevirtual 246, 3) := by decide +kernel
theorem dX12_addCube_31 : decode cX12_addCube 31 = .ok (.aload_n 0, 1) := by decide +kernel
theorem dX12_addCube_32 : decode cX12_addCube 32 = .ok (.iload 4, 2) := by decide +kernel
theorem dX12_addCube_34 : decode cX12_addCube 34 = .ok (.invokevirtual 249, 3) := by decide +kernel
theorem dX12_addCube_37 : decode cX12_addCube 37 = .ok (.iload_n 1, 1) := by decide +kernel
theorem dX12_addCube_38 : decode cX12_addCube 38 = .ok (.iload_n 2, 1) := by decide +kernel
theorem dX12_addCube_39 : decode cX12_addCube 39 = .ok (.invokestatic 274, 3) := by decide +kernel
theorem dX12_addCube_42 : decode cX12_addCube 42 = .ok (.ifCond .eq 12, 3) := by decide +kernel
theorem dX12_addCube_45 : decode cX12_addCube 45 = .ok (.aload_n 0, 1) := by decide +kernel
theorem dX12_addCube_46 : decode cX12_addCube 46 = .ok (.iload 4, 2) := by decide +kernel
theorem dX12_addCube_48 : decode cX12_addCube 48 = .ok (.invokevirtual 278, 3) := by decide +kernel
theorem dX12_addCube_51 : decode cX12_addCube 51 = .ok (.goto (-48), 3) := by decide +kernel
theorem dX12_addCube_54 : decode cX12_addCube 54 = .ok (.iinc 4 1, 3) := by decide +kernel
theorem dX12_addCube_57 : decode cX12_addCube 57 = .ok (.goto (-54), 3) := by decide +kernel
theorem dX12_addCube_60 : decode cX12_addCube 60 = .ok (.aload_n 0, 1) := by decide +kernel
theorem dX12_addCube_61 : decode cX12_addCube 61 = .ok (.getfield 8, 3) := by decide +kernel
theorem dX12_addCube_64 : decode cX12_addCube 64 = .ok (.bipush 104, 2) := by decide +kernel
theorem dX12_addCube_66 : decode cX12_addCube 66 = .ok (.aload_n 0, 1) := by decide +kernel
theorem dX12_addCube_67 : decode cX12_addCube 67 = .ok (.getfield 8, 3) := by decide +kernel
theorem dX12_addCube_70 : decode cX12_addCube 70 = .ok (.bipush 17, 2) := by decide +kernel
theorem dX12_addCube_72 : decode cX12_addCube 72 = .ok (.iaload, 1) := by decide +kernel
theorem dX12_addCube_73 : decode cX12_addCube 73 = .ok (.iadd, 1) := by decide +kernel
theorem dX12_addCube_74 : decode cX12_addCube 74 = .ok (.iload_n 3, 1) := by decide +kernel
theorem dX12_addCube_75 : decode cX12_addCube 75 = .ok (.bipush 12, 2) := by decide +kernel
theorem dX12_addCube_77 : decode cX12_addCube 77 = .ok (.ishl, 1) := by decide +kernel
theorem dX12_addCube_78 : decode cX12_addCube 78 = .ok (.iload_n 1, 1) := by decide +kernel
theorem dX12_addCube_79 : decode cX12_addCube 79 = .ok (.bipush 6, 2) := by decide +kernel
theorem dX12_addCube_81 : decode cX12_addCube 81 = .ok (.ishl, 1) := by decide +kernel
theorem dX12_addCube_82 : decode cX12_addCube 82 = .ok (.ior, 1) := by decide +kernel
theorem dX12_addCube_83 : decode cX12_addCube 83 = .ok (.iload_n 2, 1) := by decide +kernel
theorem dX12_addCube_84 : decode cX12_addCube 84 = .ok (.ior, 1) := by decide +kernel
theorem dX12_addCube_85 : decode cX12_addCube 85 = .ok (.iastore, 1) := by decide +kernel
theorem dX12_addCube_86 : decode cX12_addCube 86 = .ok (.aload_n 0, 1) := by decide +kernel
theorem dX12_addCube_87 : decode cX12_addCube 87 = .ok (.getfield 8, 3) := by decide +kernel
theorem dX12_addCube_90 : decode cX12_addCube 90 = .ok (.bipush 17, 2) := by decide +kernel
theorem dX12_addCube_92 : decode cX12_addCube 92 = .ok (.dup2, 1) := by decide +kernel
theorem dX12_addCube_93 : decode cX12_addCube 93 = .ok (.iaload, 1) := by decide +kernel
theorem dX12_addCube_94 : decode cX12_addCube 94 = .ok (.iconst 1, 1) := by decide +kernel
theorem dX12_addCube_95 : decode cX12_addCube 95 = .ok (.iadd, 1) := by decide +kernel
theorem dX12_addCube_96 : decode cX12_addCube 96 = .ok (.iastore, 1) := by decide +kernel
theorem dX12_addCube_97 : decode cX12_addCube 97 = .ok (.return_, 1) := by decide +kernel
theorem dX12_manyOf_0 : decode cX12_manyOf 0 = .ok (.iconst 0, 1) := by decide +kernel
theorem dX12_manyOf_1 : decode cX12_manyOf 1 = .ok (.istore_n 2, 1) := by decide +kernel
theorem dX12_manyOf_2 : decode cX12_manyOf 2 = .ok (.iconst 0, 1) := by decide +kernel
theorem dX12_manyOf_3 : decode cX12_manyOf 3 = .ok (.istore_n 3, 1) := by decide +kernel
theorem dX12_manyOf_4 : decode cX12_manyOf 4 = .ok (.iload_n 3, 1) := by decide +kernel
theorem dX12_manyOf_5 : decode cX12_manyOf 5 = .ok (.aload_n 0, 1) := by decide +kernel
theorem dX12_manyOf_6 : decode cX12_manyOf 6 = .ok (.getfield 8, 3) := by decide +kernel
theorem dX12_manyOf_9 : decode cX12_manyOf 9 = .ok (.bipush 17, 2) := by decide +kernel
theorem dX12_manyOf_11 : decode cX12_manyOf 11 = .ok (.iaload, 1) := by decide +kernel
theorem dX12_manyOf_12 : decode cX12_manyOf 12 = .ok (.if_icmp .ge 26, 3) := by decide +kernel
theorem dX12_manyOf_15 : decode cX12_manyOf 15 = .ok (.iload_n 2, 1) := by decide +kernel
theorem dX12_manyOf_16 : decode cX12_manyOf 16 = .ok (.aload_n 0, 1) := by decide +kernel
theorem dX12_manyOf_17 : decode cX12_manyOf 17 = .ok (.iload_n 3, 1) := by decide +kernel
theorem dX12_manyOf_18 : decode cX12_manyOf 18 = .ok (.invokevirtual 237, 3) := by decide +kernel
theorem dX12_manyOf_21 : decode cX12_manyOf 21 = .ok (.iload_n 1, 1) := by decide +kernel
theorem dX12_manyOf_22 : decode cX12_manyOf 22 = .ok (.if_icmp .ne 7, 3) := by decide +kernel
theorem dX12_manyOf_25 : decode cX12_manyOf 25 = .ok (.iconst 1, 1) := by decide +kernel
theorem dX12_manyOf_26 : decode cX12_manyOf 26 = .ok (.goto 4, 3) := by decide +kernel
theorem dX12_manyOf_29 : decode cX12_manyOf 29 = .ok (.iconst 0, 1) := by decide +kernel
theorem dX12_manyOf_30 : decode cX12_manyOf 30 = .ok (.iadd, 1) := by decide +kernel
theorem dX12_manyOf_31 : decode cX12_manyOf 31 = .ok (.istore_n 2, 1) := by decide +kernel
theorem dX12_manyOf_32 : decode cX12_manyOf 32 = .ok (.iinc 3 1, 3) := by decide +kernel
theorem dX12_manyOf_35 : decode cX12_manyOf 35 = .ok (.goto (-31), 3) := by decide +kernel
theorem dX12_manyOf_38 : decode cX12_manyOf 38 = .ok (.iload_n 2, 1) := by decide +kernel
theorem dX12_manyOf_39 : decode cX12_manyOf 39 = .ok (.ireturn, 1) := by decide +kernel
theorem dX12_cubeBy_0 : decode cX12_cubeBy 0 = .ok (.iconst 0, 1) := by decide +kernel
theorem dX12_cubeBy_1 : decode cX12_cubeBy 1 = .ok (.istore_n 3, 1) := by decide +kernel
theorem dX12_cubeBy_2 : decode cX12_cubeBy 2 = .ok (.iconst 0, 1) := by decide +kernel
theorem dX12_cubeBy_3 : decode cX12_cubeBy 3 = .ok (.istore 4, 2) := by decide +kernel
theorem dX12_cubeBy_5 : decode cX12_cubeBy 5 = .ok (.iload 4, 2) := by decide +kernel
theorem dX12_cubeBy_7 : decode cX12_cubeBy 7 = .ok (.aload_n 0, 1) := by decide +kernel
theorem dX12_cubeBy_8 : decode cX12_cubeBy 8 = .ok (.getfield 8, 3) := by decide +kernel
theorem dX12_cubeBy_11 : decode cX12_cubeBy 11 = .ok (.bipush 17, 2) := by decide +kernel
theorem dX12_cubeBy_13 : decode cX12_cubeBy 13 = .ok (.iaload, 1) := by decide +kernel
theorem dX12_cubeBy_14 : decode cX12_cubeBy 14 = .ok (.if_icmp .ge 33, 3) := by decide +kernel
theorem dX12_cubeBy_17 : decode cX12_cubeBy 17 = .ok (.aload_n 0, 1) := by decide +kernel
theorem dX12_cubeBy_18 : decode cX12_cubeBy 18 = .ok (.iload 4, 2) := by decide +kernel
theorem dX12_cubeBy_20 : decode cX12_cubeBy 20 = .ok (.invokevirtual 237, 3) := by decide +kernel
theorem dX12_cubeBy_23 : decode cX12_cubeBy 23 = .ok (.iload_n 1, 1) := by decide +kernel
theorem dX12_cubeBy_24 : decode cX12_cubeBy 24 = .ok (.if_icmp .eq 6, 3) := by decide +kernel
theorem dX12_cubeBy_27 : decode cX12_cubeBy 27 = .ok (.goto 14, 3) := by decide +kernel
theorem dX12_cubeBy_30 : decode cX12_cubeBy 30 = .ok (.iload_n 3, 1) := by decide +kernel
theorem dX12_cubeBy_31 : decode cX12_cubeBy 31 = .ok (.iload_n 2, 1) := by decide +kernel
theorem dX12_cubeBy_32 : decode cX12_cubeBy 32 = .ok (.if_icmp .ne 6, 3) := by decide +kernel
theorem dX12_cubeBy_35 : decode cX12_cubeBy 35 = .ok (.iload 4, 2) := by decide +kernel
theorem dX12_cubeBy_37 : decode cX12_cubeBy 37 = .ok (.ireturn, 1) := by decide +kernel
theorem dX12_cubeBy_38 : decode cX12_cubeBy 38 = .ok (.iinc 3 1, 3) := by decide +kernel
theorem dX12_cubeBy_41 : decode cX12_cubeBy 41 = .ok (.iinc 4 1, 3) := by decide +kernel
theorem dX12_cubeBy_44 : decode cX12_cubeBy 44 = .ok (.goto (-39), 3) := by decide +kernel
theorem dX12_cubeBy_47 : decode cX12_cubeBy 47 = .ok (.iconst (-1), 1) := by decide +kernel
theorem dX12_cubeBy_48 : decode cX12_cubeBy 48 = .ok (.ireturn, 1) := by decide +kernel
theorem dX12_isAhead_0 : decode cX12_isAhead 0 = .ok (.aload_n 0, 1) := by decide +kernel
theorem dX12_isAhead_1 : decode cX12_isAhead 1 = .ok (.getfield 8, 3) := by decide +kernel
theorem dX12_isAhead_4 : decode cX12_isAhead 4 = .ok (.bipush 15, 2) := by decide +kernel
theorem dX12_isAhead_6 : decode cX12_isAhead 6 = .ok (.iaload, 1) := by decide +kernel
theorem dX12_isAhead_7 : decode cX12_isAhead 7 = .ok (.ifCond .ne 27, 3) := by decide +kernel
theorem dX12_isAhead_10 : decode cX12_isAhead 10 = .ok (.aload_n 0, 1) := by decide +kernel
theorem dX12_isAhead_11 : decode cX12_isAhead 11 = .ok (.getfield 17, 3) := by decide +kernel
theorem dX12_isAhead_14 : decode cX12_isAhead 14 = .ok (.iload_n 1, 1) := by decide +kernel
theorem dX12_isAhead_15 : decode cX12_isAhead 15 = .ok (.faload, 1) := by decide +kernel
theorem dX12_isAhead_16 : decode cX12_isAhead 16 = .ok (.aload_n 0, 1) := by decide +kernel
theorem dX12_isAhead_17 : decode cX12_isAhead 17 = .ok (.getfield 17, 3) := by decide +kernel
theorem dX12_isAhead_20 : decode cX12_isAhead 20 = .ok (.iload_n 2, 1) := by decide +kernel
theorem dX12_isAhead_21 : decode cX12_isAhead 21 = .ok (.faload, 1) := by decide +kernel
theorem dX12_isAhead_22 : decode cX12_isAhead 22 = .ok (.fcmp .g, 1) := by decide +kernel
theorem dX12_isAhead_23 : decode cX12_isAhead 23 = .ok (.ifCond .ge 7, 3) := by decide +kernel
theorem dX12_isAhead_26 : decode cX12_isAhead 26 = .ok (.iconst 1, 1) := by decide +kernel
theorem dX12_isAhead_27 : decode cX12_isAhead 27 = .ok (.goto 39, 3) := by decide +kernel
theorem dX12_isAhead_30 : decode cX12_isAhead 30 = .ok (.iconst 0, 1) := by decide +kernel
theorem dX12_isAhead_31 : decode cX12_isAhead 31 = .ok (.goto 35, 3) := by decide +kernel
theorem dX12_isAhead_34 : decode cX12_isAhead 34 = .ok (.aload_n 0, 1) := by decide +kernel
theorem dX12_isAhead_35 : decode cX12_isAhead 35 = .ok (.getfield 8, 3) := by decide +kernel
theorem dX12_isAhead_38 : decode cX12_isAhead 38 = .ok (.bipush 15, 2) := by decide +kernel
theorem dX12_isAhead_40 : decode cX12_isAhead 40 = .ok (.iaload, 1) := by decide +kernel
theorem dX12_isAhead_41 : decode cX12_isAhead 41 = .ok (.iconst 2, 1) := by decide +kernel
theorem dX12_isAhead_42 : decode cX12_isAhead 42 = .ok (.if_icmp .ne 23, 3) := by decide +kernel
theorem dX12_isAhead_45 : decode cX12_isAhead 45 = .ok (.aload_n 0, 1) := by decide +kernel
theorem dX12_isAhead_46 : decode cX12_isAhead 46 = .ok (.getfield 17, 3) := by decide +kernel
theorem dX12_isAhead_49 : decode cX12_isAhead 49 = .ok (.iload_n 1, 1) := by decide +kernel
theorem dX12_isAhead_50 : decode cX12_isAhead 50 = .ok (.faload, 1) := by decide +kernel
theorem dX12_isAhead_51 : decode cX12_isAhead 51 = .ok (.aload_n 0, 1) := by decide +kernel
theorem dX12_isAhead_52 : decode cX12_isAhead 52 = .ok (.getfield 17, 3) := by decide +kernel
theorem dX12_isAhead_55 : decode cX12_isAhead 55 = .ok (.iload_n 2, 1) := by decide +kernel
theorem dX12_isAhead_56 : decode cX12_isAhead 56 = .ok (.faload, 1) := by decide +kernel
theorem dX12_isAhead_57 : decode cX12_isAhead 57 = .ok (.fcmp .l, 1) := by decide +kernel
theorem dX12_isAhead_58 : decode cX12_isAhead 58 = .ok (.ifCond .le 7, 3) := by decide +kernel
theorem dX12_isAhead_61 : decode cX12_isAhead 61 = .ok (.iconst 1, 1) := by decide +kernel
theorem dX12_isAhead_62 : decode cX12_isAhead 62 = .ok (.goto 4, 3) := by decide +kernel
theorem dX12_isAhead_65 : decode cX12_isAhead 65 = .ok (.iconst 0, 1) := by decide +kernel
theorem dX12_isAhead_66 : decode cX12_isAhead 66 = .ok (.ireturn, 1) := by decide +kernel
theorem dX12_layOrder_0 : decode cX12_layOrder 0 = .ok (.iconst 0, 1) := by decide +kernel
theorem dX12_layOrder_1 : decode cX12_layOrder 1 = .ok (.istore_n 1, 1) := by decide +kernel
theorem dX12_layOrder_2 : decode cX12_layOrder 2 = .ok (.iload_n 1, 1) := by decide +kernel
theorem dX12_layOrder_3 : decode cX12_layOrder 3 = .ok (.aload_n 0, 1) := by decide +kernel
theorem dX12_layOrder_4 : decode cX12_layOrder 4 = .ok (.getfield 8, 3) := by decide +kernel
theorem dX12_layOrder_7 : decode cX12_layOrder 7 = .ok (.iconst 3, 1) := by decide +kernel
theorem dX12_layOrder_8 : decode cX12_layOrder 8 = .ok (.iaload, 1) := by decide +kernel
theorem dX12_layOrder_9 : decode cX12_layOrder 9 = .ok (.if_icmp .ge 58, 3) := by decide +kernel
theorem dX12_layOrder_12 : decode cX12_layOrder 12 = .ok (.iload_n 1, 1) := by decide +kernel
theorem dX12_layOrder_13 : decode cX12_layOrder 13 = .ok (.istore_n 2, 1) := by decide +kernel
theorem dX12_layOrder_14 : decode cX12_layOrder 14 = .ok (.iload_n 2, 1) := by decide +kernel
theorem dX12_layOrder_15 : decode cX12_layOrder 15 = .ok (.ifCond .le 39, 3) := by decide +kernel
theorem dX12_layOrder_18 : decode cX12_layOrder 18 = .ok (.aload_n 0, 1) := by decide +kernel
theorem dX12_layOrder_19 : decode cX12_layOrder 19 = .ok (.iload_n 1, 1) := by decide +kernel
theorem dX12_layOrder_20 : decode cX12_layOrder 20 = .ok (.aload_n 0, 1) := by decide +kernel
theorem dX12_layOrder_21 : decode cX12_layOrder 21 = .ok (.getfield 47, 3) := by decide +kernel
theorem dX12_layOrder_24 : decode cX12_layOrder 24 = .ok (.iload_n 2, 1) := by decide +kernel
theorem dX12_layOrder_25 : decode cX12_layOrder 25 = .ok (.iconst 1, 1) := by decide +kernel
theorem dX12_layOrder_26 : decode cX12_layOrder 26 = .ok (.isub, 1) := by decide +kernel
theorem dX12_layOrder_27 : decode cX12_layOrder 27 = .ok (.iaload, 1) := by decide +kernel
theorem dX12_layOrder_28 : decode cX12_layOrder 28 = .ok (.invokevirtual 281, 3) := by decide +kernel
theorem dX12_layOrder_31 : decode cX12_layOrder 31 = .ok (.ifCond .eq 23, 3) := by decide +kernel
theorem dX12_layOrder_34 : decode cX12_layOrder 34 = .ok (.aload_n 0, 1) := by decide +kernel
theorem dX12_layOrder_35 : decode cX12_layOrder 35 = .ok (.getfield 47, 3) := by decide +kernel
theorem dX12_layOrder_38 : decode cX12_layOrder 38 = .ok (.iload_n 2, 1) := by decide +kernel
theorem dX12_layOrder_39 : decode cX12_layOrder 39 = .ok (.aload_n 0, 1) := by decide +kernel
theorem dX12_layOrder_40 : decode cX12_layOrder 40 = .ok (.getfield 47, 3) := by decide +kernel
theorem dX12_layOrder_43 : decode cX12_layOrder 43 = .ok (.iload_n 2, 1) := by decide +kernel
theorem dX12_layOrder_44 : decode cX12_layOrder 44 = .ok (.iconst 1, 1) := by decide +kernel
theorem dX12_layOrder_45 : decode cX12_layOrder 45 = .ok (.isub, 1) := by decide +kernel
theorem dX12_layOrder_46 : decode cX12_layOrder 46 = .ok (.iaload, 1) := by decide +kernel
theorem dX12_layOrder_47 : decode cX12_layOrder 47 = .ok (.iastore, 1) := by decide +kernel
theorem dX12_layOrder_48 : decode cX12_layOrder 48 = .ok (.iinc 2 (-1), 3) := by decide +kernel
theorem dX12_layOrder_51 : decode cX12_layOrder 51 = .ok (.goto (-37), 3) := by decide +kernel
theorem dX12_layOrder_54 : decode cX12_layOrder 54 = .ok (.aload_n 0, 1) := by decide +kernel
theorem dX12_layOrder_55 : decode cX12_layOrder 55 = .ok (.getfield 47, 3) := by decide +kernel
theorem dX12_layOrder_58 : decode cX12_layOrder 58 = .ok (.iload_n 2, 1) := by decide +kernel
theorem dX12_layOrder_59 : decode cX12_layOrder 59 = .ok (.iload_n 1, 1) := by decide +kernel
theorem dX12_layOrder_60 : decode cX12_layOrder 60 = .ok (.iastore, 1) := by decide +kernel
theorem dX12_layOrder_61 : decode cX12_layOrder 61 = .ok (.iinc 1 1, 3) := by decide +kernel
theorem dX12_layOrder_64 : decode cX12_layOrder 64 = .ok (.goto (-62), 3) := by decide +kernel
theorem dX12_layOrder_67 : decode cX12_layOrder 67 = .ok (.return_, 1) := by decide +kernel
theorem dX12_widen_0 : decode cX12_widen 0 = .ok (.aload_n 0, 1) := by decide +kernel
theorem dX12_widen_1 : decode cX12_widen 1 = .ok (.invokevirtual 101, 3) := by decide +kernel
theorem dX12_widen_4 : decode cX12_widen 4 = .ok (.iconst 1, 1) := by decide +kernel
theorem dX12_widen_5 : decode cX12_widen 5 = .ok (.isub, 1) := by decide +kernel
theorem dX12_widen_6 : decode cX12_widen 6 = .ok (.istore_n 3, 1) := by decide +kernel
theorem dX12_widen_7 : decode cX12_widen 7 = .ok (.aload_n 0, 1) := by decide +kernel
theorem dX12_widen_8 : decode cX12_widen 8 = .ok (.invokevirtual 285, 3) := by decide +kernel
theorem dX12_widen_11 : decode cX12_widen 11 = .ok (.iconst 0, 1) := by decide +kernel
theorem dX12_widen_12 : decode cX12_widen 12 = .ok (.istore 4, 2) := by decide +kernel
theorem dX12_widen_14 : decode cX12_widen 14 = .ok (.iload 4, 2) := by decide +kernel
theorem dX12_widen_16 : decode cX12_widen 16 = .ok (.aload_n 0, 1) := by decide +kernel
theorem dX12_widen_17 : decode cX12_widen 17 = .ok (.getfield 8, 3) := by decide +kernel
theorem dX12_widen_20 : decode cX12_widen 20 = .ok (.iconst 3, 1) := by decide +kernel
theorem dX12_widen_21 : decode cX12_widen 21 = .ok (.iaload, 1) := by decide +kernel
theorem dX12_widen_22 : decode cX12_widen 22 = .ok (.if_icmp .ge 63, 3) := by decide +kernel
theorem dX12_widen_25 : decode cX12_widen 25 = .ok (.iload_n 3, 1) := by decide +kernel
theorem dX12_widen_26 : decode cX12_widen 26 = .ok (.iconst 1, 1) := by decide +kernel
theorem dX12_widen_27 : decode cX12_widen 27 = .ok (.aload_n 0, 1) := by decide +kernel
theorem dX12_widen_28 : decode cX12_widen 28 = .ok (.getfield 47, 3) := by decide +kernel
theorem dX12_widen_31 : decode cX12_widen 31 = .ok (.iload 4, 2) := by decide +kernel
theorem dX12_widen_33 : decode cX12_widen 33 = .ok (.iaload, 1) := by decide +kernel
theorem dX12_widen_34 : decode cX12_widen 34 = .ok (.ishl, 1) := by decide +kernel
theorem dX12_widen_35 : decode cX12_widen 35 = .ok (.iconst (-1), 1) := by decide +kernel
theorem dX12_widen_36 : decode cX12_widen 36 = .ok (.ixor, 1) := by decide +kernel
theorem dX12_widen_37 : decode cX12_widen 37 = .ok (.iand, 1) := by decide +kernel
theorem dX12_widen_38 : decode cX12_widen 38 = .ok (.istore 5, 2) := by decide +kernel
theorem dX12_widen_40 : decode cX12_widen 40 = .ok (.aload_n 0, 1) := by decide +kernel
theorem dX12_widen_41 : decode cX12_widen 41 = .ok (.iload 5, 2) := by decide +kernel
theorem dX12_widen_43 : decode cX12_widen 43 = .ok (.iload_n 1, 1) := by decide +kernel
theorem dX12_widen_44 : decode cX12_widen 44 = .ok (.iload 5, 2) := by decide +kernel
theorem dX12_widen_46 : decode cX12_widen 46 = .ok (.iand, 1) := by decide +kernel
theorem dX12_widen_47 : decode cX12_widen 47 = .ok (.invokevirtual 252, 3) := by decide +kernel
theorem dX12_widen_50 : decode cX12_widen 50 = .ok (.aload_n 0, 1) := by decide +kernel
theorem dX12_widen_51 : decode cX12_widen 51 = .ok (.invokevirtual 255, 3) := by decide +kernel
theorem dX12_widen_54 : decode cX12_widen 54 = .ok (.land, 1) := by decide +kernel
theorem dX12_widen_55 : decode cX12_widen 55 = .ok (.lconst 0, 1) := by decide +kernel
theorem dX12_widen_56 : decode cX12_widen 56 = .ok (.lcmp, 1) := by decide +kernel
theorem dX12_widen_57 : decode cX12_widen 57 = .ok (.ifCond .ne 22, 3) := by decide +kernel
theorem dX12_widen_60 : decode cX12_widen 60 = .ok (.aload_n 0, 1) := by decide +kernel
theorem dX12_widen_61 : decode cX12_widen 61 = .ok (.iload 5, 2) := by decide +kernel
theorem dX12_widen_63 : decode cX12_widen 63 = .ok (.iload_n 1, 1) := by decide +kernel
theorem dX12_widen_64 : decode cX12_widen 64 = .ok (.iload 5, 2) := by decide +kernel
theorem dX12_widen_66 : decode cX12_widen 66 = .ok (.iand, 1) := by decide +kernel
theorem dX12_widen_67 : decode cX12_widen 67 = .ok (.iload_n 2, 1) := by decide +kernel
theorem dX12_widen_68 : decode cX12_widen 68 = .ok (.iconst 1, 1) := by decide +kernel
theorem dX12_widen_69 : decode cX12_widen 69 = .ok (.isub, 1) := by decide +kernel
theorem dX12_widen_70 : decode cX12_widen 70 = .ok (.invokevirtual 288, 3) := by decide +kernel
theorem dX12_widen_73 : decode cX12_widen 73 = .ok (.ifCond .eq 6, 3) := by decide +kernel
theorem dX12_widen_76 : decode cX12_widen 76 = .ok (.iload 5, 2) := by decide +kernel
theorem dX12_widen_78 : decode cX12_widen 78 = .ok (.istore_n 3, 1) := by decide +kernel
theorem dX12_widen_79 : decode cX12_widen 79 = .ok (.iinc 4 1, 3) := by decide +kernel
theorem dX12_widen_82 : decode cX12_widen 82 = .ok (.goto (-68), 3) := by decide +kernel
theorem dX12_widen_85 : decode cX12_widen 85 = .ok (.iload_n 3, 1) := by decide +kernel
theorem dX12_widen_86 : decode cX12_widen 86 = .ok (.ireturn, 1) := by decide +kernel
theorem dX12_bump_0 : decode cX12_bump 0 = .ok (.iconst 0, 1) := by decide +kernel
theorem dX12_bump_1 : decode cX12_bump 1 = .ok (.istore_n 2, 1) := by decide +kernel
theorem dX12_bump_2 : decode cX12_bump 2 = .ok (.iconst 0, 1) := by decide +kernel
theorem dX12_bump_3 : decode cX12_bump 3 = .ok (.istore_n 3, 1) := by decide +kernel
theorem dX12_bump_4 : decode cX12_bump 4 = .ok (.iload_n 3, 1) := by decide +kernel
theorem dX12_bump_5 : decode cX12_bump 5 = .ok (.aload_n 0, 1) := by decide +kernel
theorem dX12_bump_6 : decode cX12_bump 6 = .ok (.getfield 8, 3) := by decide +kernel
theorem dX12_bump_9 : decode cX12_bump 9 = .ok (.iconst 3, 1) := by decide +kernel
theorem dX12_bump_10 : decode cX12_bump 10 = .ok (.iaload, 1) := by decide +kernel
theorem dX12_bump_11 : decode cX12_bump 11 = .ok (.if_icmp .ge 34, 3) := by decide +kernel
theorem dX12_bump_14 : decode cX12_bump 14 = .ok (.iload_n 1, 1) := by decide +kernel
theorem dX12_bump_15 : decode cX12_bump 15 = .ok (.iload_n 3, 1) := by decide +kernel
theorem dX12_bump_16 : decode cX12_bump 16 = .ok (.ishr, 1) := by decide +kernel
theorem dX12_bump_17 : decode cX12_bump 17 = .ok (.iconst 1, 1) := by decide +kernel
theorem dX12_bump_18 : decode cX12_bump 18 = .ok (.iand, 1) := by decide +kernel
theorem dX12_bump_19 : decode cX12_bump 19 = .ok (.iconst 1, 1) := by decide +kernel
theorem dX12_bump_20 : decode cX12_bump 20 = .ok (.if_icmp .ne 19, 3) := by decide +kernel
theorem dX12_bump_23 : decode cX12_bump 23 = .ok (.aload_n 0, 1) := by decide +kernel
theorem dX12_bump_24 : decode cX12_bump 24 = .ok (.getfield 17, 3) := by decide +kernel
theorem dX12_bump_27 : decode cX12_bump 27 = .ok (.iload_n 3, 1) := by decide +kernel
theorem dX12_bump_28 : decode cX12_bump 28 = .ok (.dup2, 1) := by decide +kernel
theorem dX12_bump_29 : decode cX12_bump 29 = .ok (.faload, 1) := by decide +kernel
theorem dX12_bump_30 : decode cX12_bump 30 = .ok (.aload_n 0, 1) := by decide +kernel
theorem dX12_bump_31 : decode cX12_bump 31 = .ok (.getfield 17, 3) := by decide +kernel
theorem dX12_bump_34 : decode cX12_bump 34 = .ok (.bipush 6, 2) := by decide +kernel
theorem dX12_bump_36 : decode cX12_bump 36 = .ok (.faload, 1) := by decide +kernel
theorem dX12_bump_37 : decode cX12_bump 37 = .ok (.fadd, 1) := by decide +kernel
theorem dX12_bump_38 : decode cX12_bump 38 = .ok (.fastore, 1) := by decide +kernel
theorem dX12_bump_39 : decode cX12_bump 39 = .ok (.iinc 3 1, 3) := by decide +kernel
theorem dX12_bump_42 : decode cX12_bump 42 = .ok (.goto (-38), 3) := by decide +kernel
theorem dX12_bump_45 : decode cX12_bump 45 = .ok (.aload_n 0, 1) := by decide +kernel
theorem dX12_bump_46 : decode cX12_bump 46 = .ok (.getfield 17, 3) := by decide +kernel
theorem dX12_bump_49 : decode cX12_bump 49 = .ok (.bipush 6, 2) := by decide +kernel
theorem dX12_bump_51 : decode cX12_bump 51 = .ok (.dup2, 1) := by decide +kernel
theorem dX12_bump_52 : decode cX12_bump 52 = .ok (.faload, 1) := by decide +kernel
theorem dX12_bump_53 : decode cX12_bump 53 = .ok (.ldc_w 291, 3) := by decide +kernel
theorem dX12_bump_56 : decode cX12_bump 56 = .ok (.fmul, 1) := by decide +kernel
theorem dX12_bump_57 : decode cX12_bump 57 = .ok (.fastore, 1) := by decide +kernel
theorem dX12_bump_58 : decode cX12_bump 58 = .ok (.iconst 0, 1) := by decide +kernel
theorem dX12_bump_59 : decode cX12_bump 59 = .ok (.istore_n 3, 1) := by decide +kernel
theorem dX12_bump_60 : decode cX12_bump 60 = .ok (.iload_n 3, 1) := by decide +kernel
theorem dX12_bump_61 : decode cX12_bump 61 = .ok (.aload_n 0, 1) := by decide +kernel
theorem dX12_bump_62 : decode cX12_bump 62 = .ok (.getfield 8, 3) := by decide +kernel
theorem dX12_bump_65 : decode cX12_bump 65 = .ok (.iconst 3, 1) := by decide +kernel
theorem dX12_bump_66 : decode cX12_bump 66 = .ok (.iaload, 1) := by decide +kernel
theorem dX12_bump_67 : decode cX12_bump 67 = .ok (.if_icmp .ge 32, 3) := by decide +kernel
theorem dX12_bump_70 : decode cX12_bump 70 = .ok (.iload_n 2, 1) := by decide +kernel
theorem dX12_bump_71 : decode cX12_bump 71 = .ok (.ifCond .ne 16, 3) := by decide +kernel
theorem dX12_bump_74 : decode cX12_bump 74 = .ok (.aload_n 0, 1) := by decide +kernel
theorem dX12_bump_75 : decode cX12_bump 75 = .ok (.getfield 17, 3) := by decide +kernel
theorem dX12_bump_78 : decode cX12_bump 78 = .ok (.iload_n 3, 1) := by decide +kernel
theorem dX12_bump_79 : decode cX12_bump 79 = .ok (.faload, 1) := by decide +kernel
theorem dX12_bump_80 : decode cX12_bump 80 = .ok (.ldc_w 292, 3) := by decide +kernel
theorem dX12_bump_83 : decode cX12_bump 83 = .ok (.fcmp .l, 1) := by decide +kernel
theorem dX12_bump_84 : decode cX12_bump 84 = .ok (.ifCond .le 7, 3) := by decide +kernel
theorem dX12_bump_87 : decode cX12_bump 87 = .ok (.iconst 1, 1) := by decide +kernel
theorem dX12_bump_88 : decode cX12_bump 88 = .ok (.goto 4, 3) := by decide +kernel
theorem dX12_bump_91 : decode cX12_bump 91 = .ok (.iconst 0, 1) := by decide +kernel
theorem dX12_bump_92 : decode cX12_bump 92 = .ok (.istore_n 2, 1) := by decide +kernel
theorem dX12_bump_93 : decode cX12_bump 93 = .ok (.iinc 3 1, 3) := by decide +kernel
theorem dX12_bump_96 : decode cX12_bump 96 = .ok (.goto (-36), 3) := by decide +kernel
theorem dX12_bump_99 : decode cX12_bump 99 = .ok (.iconst 0, 1) := by decide +kernel
theorem dX12_bump_100 : decode cX12_bump 100 = .ok (.istore_n 3, 1) := by decide +kernel
theorem dX12_bump_101 : decode cX12_bump 101 = .ok (.iload_n 3, 1) := by decide +kernel
theorem dX12_bump_102 : decode cX12_bump 102 = .ok (.bipush 6, 2) := by decide +kernel
theorem dX12_bump_104 : decode cX12_bump 104 = .ok (.if_icmp .gt 25, 3) := by decide +kernel
theorem dX12_bump_107 : decode cX12_bump 107 = .ok (.iload_n 2, 1) := by decide +kernel
theorem dX12_bump_108 : decode cX12_bump 108 = .ok (.ifCond .eq 21, 3) := by decide +kernel
theorem dX12_bump_111 : decode cX12_bump 111 = .ok (.aload_n 0, 1) := by decide +kernel
theorem dX12_bump_112 : decode cX12_bump 112 = .ok (.getfield 17, 3) := by decide +kernel
theorem dX12_bump_115 : decode cX12_bump 115 = .ok (.iload_n 3, 1) := by decide +kernel
theorem dX12_bump_116 : decode cX12_bump 116 = .ok (.dup2, 1) := by decide +kernel
theorem dX12_bump_117 : decode cX12_bump 117 = .ok (.faload, 1) := by decide +kernel
theorem dX12_bump_118 : decode cX12_bump 118 = .ok (.ldc_w 293, 3) := by decide +kernel
theorem dX12_bump_121 : decode cX12_bump 121 = .ok (.fmul, 1) := by decide +kernel
theorem dX12_bump_122 : decode cX12_bump 122 = .ok (.fastore, 1) := by decide +kernel
theorem dX12_bump_123 : decode cX12_bump 123 = .ok (.iinc 3 1, 3) := by decide +kernel
theorem dX12_bump_126 : decode cX12_bump 126 = .ok (.goto (-25), 3) := by decide +kernel
theorem dX12_bump_129 : decode cX12_bump 129 = .ok (.return_, 1) := by decide +kernel
theorem dX12_ofLine_0 : decode cX12_ofLine 0 = .ok (.aload_n 0, 1) := by decide +kernel
theorem dX12_ofLine_1 : decode cX12_ofLine 1 = .ok (.getfield 8, 3) := by decide +kernel
theorem dX12_ofLine_4 : decode cX12_ofLine 4 = .ok (.sipush 5104, 3) := by decide +kernel
theorem dX12_ofLine_7 : decode cX12_ofLine 7 = .ok (.iconst 4, 1) := by decide +kernel
theorem dX12_ofLine_8 : decode cX12_ofLine 8 = .ok (.iload_n 1, 1) := by decide +kernel
theorem dX12_ofLine_9 : decode cX12_ofLine 9 = .ok (.imul, 1) := by decide +kernel
theorem dX12_ofLine_10 : decode cX12_ofLine 10 = .ok (.iadd, 1) := by decide +kernel
theorem dX12_ofLine_11 : decode cX12_ofLine 11 = .ok (.iload_n 2, 1) := by decide +kernel
theorem dX12_ofLine_12 : decode cX12_ofLine 12 = .ok (.iadd, 1) := by decide +kernel
theorem dX12_ofLine_13 : decode cX12_ofLine 13 = .ok (.iaload, 1) := by decide +kernel
theorem dX12_ofLine_14 : decode cX12_ofLine 14 = .ok (.ireturn, 1) := by decide +kernel
theorem dX12_oblige_0 : decode cX12_oblige 0 = .ok (.sipush 5104, 3) := by decide +kernel
theorem dX12_oblige_3 : decode cX12_oblige 3 = .ok (.iconst 4, 1) := by decide +kernel
theorem dX12_oblige_4 : decode cX12_oblige 4 = .ok (.aload_n 0, 1) := by decide +kernel
theorem dX12_oblige_5 : decode cX12_oblige 5 = .ok (.getfield 8, 3) := by decide +kernel
theorem dX12_oblige_8 : decode cX12_oblige 8 = .ok (.bipush 9, 2) := by decide +kernel
theorem dX12_oblige_10 : decode cX12_oblige 10 = .ok (.iaload, 1) := by decide +kernel
theorem dX12_oblige_11 : decode cX12_oblige 11 = .ok (.imul, 1) := by decide +kernel
theorem dX12_oblige_12 : decode cX12_oblige 12 = .ok (.iadd, 1) := by decide +kernel
theorem dX12_oblige_13 : decode cX12_oblige 13 = .ok (.istore 4, 2) := by decide +kernel
theorem dX12_oblige_15 : decode cX12_oblige 15 = .ok (.aload_n 0, 1) := by decide +kernel
theorem dX12_oblige_16 : decode cX12_oblige 16 = .ok (.getfield 8, 3) := by decide +kernel
theorem dX12_oblige_19 : decode cX12_oblige 19 = .ok (.bipush 10, 2) := by decide +kernel
theorem dX12_oblige_21 : decode cX12_oblige 21 = .ok (.dup2, 1) := by decide +kernel
theorem dX12_oblige_22 : decode cX12_oblige 22 = .ok (.iaload, 1) := by decide +kernel
theorem dX12_oblige_23 : decode cX12_oblige 23 = .ok (.iconst 1, 1) := by decide +kernel
theorem dX12_oblige_24 : decode cX12_oblige 24 = .ok (.iadd, 1) := by decide +kernel
theorem dX12_oblige_25 : decode cX12_oblige 25 = .ok (.iastore, 1) := by decide +kernel
theorem dX12_oblige_26 : decode cX12_oblige 26 = .ok (.aload_n 0, 1) := by decide +kernel
theorem dX12_oblige_27 : decode cX12_oblige 27 = .ok (.getfield 8, 3) := by decide +kernel
theorem dX12_oblige_30 : decode cX12_oblige 30 = .ok (.iload 4, 2) := by decide +kernel
theorem dX12_oblige_32 : decode cX12_oblige 32 = .ok (.iload_n 1, 1) := by decide +kernel
theorem dX12_oblige_33 : decode cX12_oblige 33 = .ok (.iastore, 1) := by decide +kernel
theorem dX12_oblige_34 : decode cX12_oblige 34 = .ok (.aload_n 0, 1) := by decide +kernel
theorem dX12_oblige_35 : decode cX12_oblige 35 = .ok (.getfield 8, 3) := by decide +kernel
theorem dX12_oblige_38 : decode cX12_oblige 38 = .ok (.iload 4, 2) := by decide +kernel
theorem dX12_oblige_40 : decode cX12_oblige 40 = .ok (.iconst 1, 1) := by decide +kernel
theorem dX12_oblige_41 : decode cX12_oblige 41 = .ok (.iadd, 1) := by decide +kernel
theorem dX12_oblige_42 : decode cX12_oblige 42 = .ok (.iload_n 2, 1) := by decide +kernel
theorem dX12_oblige_43 : decode cX12_oblige 43 = .ok (.iastore, 1) := by decide +kernel
theorem dX12_oblige_44 : decode cX12_oblige 44 = .ok (.aload_n 0, 1) := by decide +kernel
theorem dX12_oblige_45 : decode cX12_oblige 45 = .ok (.getfield 8, 3) := by decide +kernel
theorem dX12_oblige_48 : decode cX12_oblige 48 = .ok (.iload 4, 2) := by decide +kernel
theorem dX12_oblige_50 : decode cX12_oblige 50 = .ok (.iconst 2, 1) := by decide +kernel
theorem dX12_oblige_51 : decode cX12_oblige 51 = .ok (.iadd, 1) := by decide +kernel
theorem dX12_oblige_52 : decode cX12_oblige 52 = .ok (.aload_n 0, 1) := by decide +kernel
theorem dX12_oblige_53 : decode cX12_oblige 53 = .ok (.getfield 8, 3) := by decide +kernel
theorem dX12_oblige_56 : decode cX12_oblige 56 = .ok (.bipush 10, 2) := by decide +kernel
theorem dX12_oblige_58 : decode cX12_oblige 58 = .ok (.iaload, 1) := by decide +kernel
theorem dX12_oblige_59 : decode cX12_oblige 59 = .ok (.iastore, 1) := by decide +kernel
theorem dX12_oblige_60 : decode cX12_oblige 60 = .ok (.aload_n 0, 1) := by decide +kernel
theorem dX12_oblige_61 : decode cX12_oblige 61 = .ok (.getfield 8, 3) := by decide +kernel
theorem dX12_oblige_64 : decode cX12_oblige 64 = .ok (.iload 4, 2) := by decide +kernel
theorem dX12_oblige_66 : decode cX12_oblige 66 = .ok (.iconst 3, 1) := by decide +kernel
theorem dX12_oblige_67 : decode cX12_oblige 67 = .ok (.iadd, 1) := by decide +kernel
theorem dX12_oblige_68 : decode cX12_oblige 68 = .ok (.iload_n 3, 1) := by decide +kernel
theorem dX12_oblige_69 : decode cX12_oblige 69 = .ok (.iastore, 1) := by decide +kernel
theorem dX12_oblige_70 : decode cX12_oblige 70 = .ok (.aload_n 0, 1) := by decide +kernel
theorem dX12_oblige_71 : decode cX12_oblige 71 = .ok (.getfield 8, 3) := by decide +kernel
theorem dX12_oblige_74 : decode cX12_oblige 74 = .ok (.bipush 9, 2) := by decide +kernel
theorem dX12_oblige_76 : decode cX12_oblige 76 = .ok (.dup2, 1) := by decide +kernel
theorem dX12_oblige_77 : decode cX12_oblige 77 = .ok (.iaload, 1) := by decide +kernel
theorem dX12_oblige_78 : decode cX12_oblige 78 = .ok (.iconst 1, 1) := by decide +kernel
theorem dX12_oblige_79 : decode cX12_oblige 79 = .ok (.iadd, 1) := by decide +kernel
theorem dX12_oblige_80 : decode cX12_oblige 80 = .ok (.iastore, 1) := by decide +kernel
theorem dX12_oblige_81 : decode cX12_oblige 81 = .ok (.return_, 1) := by decide +kernel
theorem dX12_outLine_0 : decode cX12_outLine 0 = .ok (.sipush 5104, 3) := by decide +kernel
theorem dX12_outLine_3 : decode cX12_outLine 3 = .ok (.iconst 4, 1) := by decide +kernel
theorem dX12_outLine_4 : decode cX12_outLine 4 = .ok (.iload_n 1, 1) := by decide +kernel
theorem dX12_outLine_5 : decode cX12_outLine 5 = .ok (.imul, 1) := by decide +kernel
theorem dX12_outLine_6 : decode cX12_outLine 6 = .ok (.iadd, 1) := by decide +kernel
theorem dX12_outLine_7 : decode cX12_outLine 7 = .ok (.istore_n 2, 1) := by decide +kernel
theorem dX12_outLine_8 : decode cX12_outLine 8 = .ok (.iload_n 2, 1) := by decide +kernel
theorem dX12_outLine_9 : decode cX12_outLine 9 = .ok (.sipush 5104, 3) := by decide +kernel
theorem dX12_outLine_12 : decode cX12_outLine 12 = .ok (.iconst 4, 1) := by decide +kernel
theorem dX12_outLine_13 : decode cX12_outLine 13 = .ok (.aload_n 0, 1) := by decide +kernel
theorem dX12_outLine_14 : decode cX12_outLine 14 = .ok (.getfield 8, 3) := by decide +kernel
theorem dX12_outLine_17 : decode cX12_outLine 17 = .ok (.bipush 9, 2) := by decide +kernel
theorem dX12_outLine_19 : decode cX12_outLine 19 = .ok (.iaload, 1) := by decide +kernel
theorem dX12_outLine_20 : decode cX12_outLine 20 = .ok (.imul, 1) := by decide +kernel
theorem dX12_outLine_21 : decode cX12_outLine 21 = .ok (.iadd, 1) := by decide +kernel
theorem dX12_outLine_22 : decode cX12_outLine 22 = .ok (.iconst 4, 1) := by decide +kernel
theorem dX12_outLine_23 : decode cX12_outLine 23 = .ok (.isub, 1) := by decide +kernel
theorem dX12_outLine_24 : decode cX12_outLine 24 = .ok (.if_icmp .ge 23, 3) := by decide +kernel
theorem dX12_outLine_27 : decode cX12_outLine 27 = .ok (.aload_n 0, 1) := by decide +kernel
theorem dX12_outLine_28 : decode cX12_outLine 28 = .ok (.getfield 8, 3) := by decide +kernel
theorem dX12_outLine_31 : decode cX12_outLine 31 = .ok (.iload_n 2, 1) := by decide +kernel
theorem dX12_outLine_32 : decode cX12_outLine 32 = .ok (.aload_n 0, 1) := by decide +kernel
theorem dX12_outLine_33 : decode cX12_outLine 33 = .ok (.getfield 8, 3) := by decide +kernel
theorem dX12_outLine_36 : decode cX12_outLine 36 = .ok (.iload_n 2, 1) := by decide +kernel
theorem dX12_outLine_37 : decode cX12_outLine 37 = .ok (.iconst 4, 1) := by decide +kernel
theorem dX12_outLine_38 : decode cX12_outLine 38 = .ok (.iadd, 1) := by decide +kernel
theorem dX12_outLine_39 : decode cX12_outLine 39 = .ok (.iaload, 1) := by decide +kernel
theorem dX12_outLine_40 : decode cX12_outLine 40 = .ok (.iastore, 1) := by decide +kernel
theorem dX12_outLine_41 : decode cX12_outLine 41 = .ok (.iinc 2 1, 3) := by decide +kernel
theorem dX12_outLine_44 : decode cX12_outLine 44 = .ok (.goto (-36), 3) := by decide +kernel
theorem dX12_outLine_47 : decode cX12_outLine 47 = .ok (.aload_n 0, 1) := by decide +kernel
theorem dX12_outLine_48 : decode cX12_outLine 48 = .ok (.getfield 8, 3) := by decide +kernel
theorem dX12_outLine_51 : decode cX12_outLine 51 = .ok (.bipush 9, 2) := by decide +kernel
theorem dX12_outLine_53 : decode cX12_outLine 53 = .ok (.dup2, 1) := by decide +kernel
theorem dX12_outLine_54 : decode cX12_outLine 54 = .ok (.iaload, 1) := by decide +kernel
theorem dX12_outLine_55 : decode cX12_outLine 55 = .ok (.iconst 1, 1) := by decide +kernel
theorem dX12_outLine_56 : decode cX12_outLine 56 = .ok (.isub, 1) := by decide +kernel
theorem dX12_outLine_57 : decode cX12_outLine 57 = .ok (.iastore, 1) := by decide +kernel
theorem dX12_outLine_58 : decode cX12_outLine 58 = .ok (.iconst 0, 1) := by decide +kernel
theorem dX12_outLine_59 : decode cX12_outLine 59 = .ok (.istore_n 2, 1) := by decide +kernel
theorem dX12_outLine_60 : decode cX12_outLine 60 = .ok (.iload_n 2, 1) := by decide +kernel
theorem dX12_outLine_61 : decode cX12_outLine 61 = .ok (.iconst 4, 1) := by decide +kernel
theorem dX12_outLine_62 : decode cX12_outLine 62 = .ok (.if_icmp .ge 30, 3) := by decide +kernel
theorem dX12_outLine_65 : decode cX12_outLine 65 = .ok (.aload_n 0, 1) := by decide +kernel
theorem dX12_outLine_66 : decode cX12_outLine 66 = .ok (.getfield 8, 3) := by decide +kernel
theorem dX12_outLine_69 : decode cX12_outLine 69 = .ok (.sipush 5104, 3) := by decide +kernel
theorem dX12_outLine_72 : decode cX12_outLine 72 = .ok (.iconst 4, 1) := by decide +kernel
theorem dX12_outLine_73 : decode cX12_outLine 73 = .ok (.aload_n 0, 1) := by decide +kernel
theorem dX12_outLine_74 : decode cX12_outLine 74 = .ok (.getfield 8, 3) := by decide +kernel
theorem dX12_outLine_77 : decode cX12_outLine 77 = .ok (.bipush 9, 2) := by decide +kernel
theorem dX12_outLine_79 : decode cX12_outLine 79 = .ok (.iaload, 1) := by decide +kernel
theorem dX12_outLine_80 : decode cX12_outLine 80 = .ok (.imul, 1) := by decide +kernel
theorem dX12_outLine_81 : decode cX12_outLine 81 = .ok (.iadd, 1) := by decide +kernel
theorem dX12_outLine_82 : decode cX12_outLine 82 = .ok (.iload_n 2, 1) := by decide +kernel
theorem dX12_outLine_83 : decode cX12_outLine 83 = .ok (.iadd, 1) := by decide +kernel
theorem dX12_outLine_84 : decode cX12_outLine 84 = .ok (.iconst 0, 1) := by decide +kernel
theorem dX12_outLine_85 : decode cX12_outLine 85 = .ok (.iastore, 1) := by decide +kernel
theorem dX12_outLine_86 : decode cX12_outLine 86 = .ok (.iinc 2 1, 3) := by decide +kernel
theorem dX12_outLine_89 : decode cX12_outLine 89 = .ok (.goto (-29), 3) := by decide +kernel
theorem dX12_outLine_92 : decode cX12_outLine 92 = .ok (.return_, 1) := by decide +kernel
theorem dX12_isEarlier_0 : decode cX12_isEarlier 0 = .ok (.aload_n 0, 1) := by decide +kernel
theorem dX12_isEarlier_1 : decode cX12_isEarlier 1 = .ok (.iload_n 1, 1) := by decide +kernel
theorem dX12_isEarlier_2 : decode cX12_isEarlier 2 = .ok (.iconst 1, 1) := by decide +kernel
theorem dX12_isEarlier_3 : decode cX12_isEarlier 3 = .ok (.invokevirtual 294, 3) := by decide +kernel
theorem dX12_isEarlier_6 : decode cX12_isEarlier 6 = .ok (.aload_n 0, 1) := by decide +kernel
theorem dX12_isEarlier_7 : decode cX12_isEarlier 7 = .ok (.iload_n 2, 1) := by decide +kernel
theorem dX12_isEarlier_8 : decode cX12_isEarlier 8 = .ok (.iconst 1, 1) := by decide +kernel
theorem dX12_isEarlier_9 : decode cX12_isEarlier 9 = .ok (.invokevirtual 294, 3) := by decide +kernel
theorem dX12_isEarlier_12 : decode cX12_isEarlier 12 = .ok (.if_icmp .eq 7, 3) := by decide +kernel
theorem dX12_isEarlier_15 : decode cX12_isEarlier 15 = .ok (.iconst 1, 1) := by decide +kernel
theorem dX12_isEarlier_16 : decode cX12_isEarlier 16 = .ok (.goto 23, 3) := by decide +kernel
theorem dX12_isEarlier_19 : decode cX12_isEarlier 19 = .ok (.aload_n 0, 1) := by decide +kernel
theorem dX12_isEarlier_20 : decode cX12_isEarlier 20 = .ok (.iload_n 1, 1) := by decide +kernel
theorem dX12_isEarlier_21 : decode cX12_isEarlier 21 = .ok (.iconst 0, 1) := by decide +kernel
theorem dX12_isEarlier_22 : decode cX12_isEarlier 22 = .ok (.invokevirtual 294, 3) := by decide +kernel
theorem dX12_isEarlier_25 : decode cX12_isEarlier 25 = .ok (.aload_n 0, 1) := by decide +kernel
theorem dX12_isEarlier_26 : decode cX12_isEarlier 26 = .ok (.iload_n 2, 1) := by decide +kernel
theorem dX12_isEarlier_27 : decode cX12_isEarlier 27 = .ok (.iconst 0, 1) := by decide +kernel
theorem dX12_isEarlier_28 : decode cX12_isEarlier 28 = .ok (.invokevirtual 294, 3) := by decide +kernel
theorem dX12_isEarlier_31 : decode cX12_isEarlier 31 = .ok (.if_icmp .eq 7, 3) := by decide +kernel
theorem dX12_isEarlier_34 : decode cX12_isEarlier 34 = .ok (.iconst 0, 1) := by decide +kernel
theorem dX12_isEarlier_35 : decode cX12_isEarlier 35 = .ok (.goto 4, 3) := by decide +kernel
theorem dX12_isEarlier_38 : decode cX12_isEarlier 38 = .ok (.iconst 2, 1) := by decide +kernel
theorem dX12_isEarlier_39 : decode cX12_isEarlier 39 = .ok (.istore_n 3, 1) := by decide +kernel
theorem dX12_isEarlier_40 : decode cX12_isEarlier 40 = .ok (.aload_n 0, 1) := by decide +kernel
theorem dX12_isEarlier_41 : decode cX12_isEarlier 41 = .ok (.iload_n 1, 1) := by decide +kernel
theorem dX12_isEarlier_42 : decode cX12_isEarlier 42 = .ok (.iload_n 3, 1) := by decide +kernel
theorem dX12_isEarlier_43 : decode cX12_isEarlier 43 = .ok (.invokevirtual 294, 3) := by decide +kernel
theorem dX12_isEarlier_46 : decode cX12_isEarlier 46 = .ok (.aload_n 0, 1) := by decide +kernel
theorem dX12_isEarlier_47 : decode cX12_isEarlier 47 = .ok (.iload_n 2, 1) := by decide +kernel
theorem dX12_isEarlier_48 : decode cX12_isEarlier 48 = .ok (.iload_n 3, 1) := by decide +kernel
theorem dX12_isEarlier_49 : decode cX12_isEarlier 49 = .ok (.invokevirtual 294, 3) := by decide +kernel
theorem dX12_isEarlier_52 : decode cX12_isEarlier 52 = .ok (.if_icmp .ge 7, 3) := by decide +kernel
theorem dX12_isEarlier_55 : decode cX12_isEarlier 55 = .ok (.iconst 1, 1) := by decide +kernel
theorem dX12_isEarlier_56 : decode cX12_isEarlier 56 = .ok (.goto 4, 3) := by decide +kernel
theorem dX12_isEarlier_59 : decode cX12_isEarlier 59 = .ok (.iconst 0, 1) := by decide +kernel
theorem dX12_isEarlier_60 : decode cX12_isEarlier 60 = .ok (.ireturn, 1) := by decide +kernel
theorem dX12_nextLine_0 : decode cX12_nextLine 0 = .ok (.iconst (-1), 1) := by decide +kernel
theorem dX12_nextLine_1 : decode cX12_nextLine 1 = .ok (.istore_n 2, 1) := by decide +kernel
theorem dX12_nextLine_2 : decode cX12_nextLine 2 = .ok (.iconst 0, 1) := by decide +kernel
theorem dX12_nextLine_3 : decode cX12_nextLine 3 = .ok (.istore_n 3, 1) := by decide +kernel
theorem dX12_nextLine_4 : decode cX12_nextLine 4 = .ok (.iload_n 3, 1) := by decide +kernel
theorem dX12_nextLine_5 : decode cX12_nextLine 5 = .ok (.aload_n 0, 1) := by decide +kernel
theorem dX12_nextLine_6 : decode cX12_nextLine 6 = .ok (.getfield 8, 3) := by decide +kernel
theorem dX12_nextLine_9 : decode cX12_nextLine 9 = .ok (.bipush 9, 2) := by decide +kernel
theorem dX12_nextLine_11 : decode cX12_nextLine 11 = .ok (.iaload, 1) := by decide +kernel
theorem dX12_nextLine_12 : decode cX12_nextLine 12 = .ok (.if_icmp .ge 39, 3) := by decide +kernel
theorem dX12_nextLine_15 : decode cX12_nextLine 15 = .ok (.iload_n 1, 1) := by decide +kernel
theorem dX12_nextLine_16 : decode cX12_nextLine 16 = .ok (.iconst (-1), 1) := by decide +kernel
theorem dX12_nextLine_17 : decode cX12_nextLine 17 = .ok (.if_icmp .eq 12, 3) := by decide +kernel
theorem dX12_nextLine_20 : decode cX12_nextLine 20 = .ok (.aload_n 0, 1) := by decide +kernel
theorem dX12_nextLine_21 : decode cX12_nextLine 21 = .ok (.iload_n 1, 1) := by decide +kernel
theorem dX12_nextLine_22 : decode cX12_nextLine 22 = .ok (.iload_n 3, 1) := by decide +kernel
theorem dX12_nextLine_23 : decode cX12_nextLine 23 = .ok (.invokevirtual 297, 3) := by decide +kernel
theorem dX12_nextLine_26 : decode cX12_nextLine 26 = .ok (.ifCond .eq 19, 3) := by decide +kernel
theorem dX12_nextLine_29 : decode cX12_nextLine 29 = .ok (.iload_n 2, 1) := by decide +kernel
theorem dX12_nextLine_30 : decode cX12_nextLine 30 = .ok (.iconst (-1), 1) := by decide +kernel
theorem dX12_nextLine_31 : decode cX12_nextLine 31 = .ok (.if_icmp .eq 12, 3) := by decide +kernel
theorem dX12_nextLine_34 : decode cX12_nextLine 34 = .ok (.aload_n 0, 1) := by decide +kernel
theorem dX12_nextLine_35 : decode cX12_nextLine 35 = .ok (.iload_n 3, 1) := by decide +kernel
theorem dX12_nextLine_36 : decode cX12_nextLine 36 = .ok (.iload_n 2, 1) := by decide +kernel
theorem dX12_nextLine_37 : decode cX12_nextLine 37 = .ok (.invokevirtual 297, 3) := by decide +kernel
theorem dX12_nextLine_40 : decode cX12_nextLine 40 = .ok (.ifCond .eq 5, 3) := by decide +kernel
theorem dX12_nextLine_43 : decode cX12_nextLine 43 = .ok (.iload_n 3, 1) := by decide +kernel
theorem dX12_nextLine_44 : decode cX12_nextLine 44 = .ok (.istore_n 2, 1) := by decide +kernel
theorem dX12_nextLine_45 : decode cX12_nextLine 45 = .ok (.iinc 3 1, 3) := by decide +kernel
theorem dX12_nextLine_48 : decode cX12_nextLine 48 = .ok (.goto (-44), 3) := by decide +kernel
theorem dX12_nextLine_51 : decode cX12_nextLine 51 = .ok (.iload_n 2, 1) := by decide +kernel
theorem dX12_nextLine_52 : decode cX12_nextLine 52 = .ok (.ireturn, 1) := by decide +kernel
theorem dX12_lineOf_0 : decode cX12_lineOf 0 = .ok (.iconst 0, 1) := by decide +kernel
theorem dX12_lineOf_1 : decode cX12_lineOf 1 = .ok (.istore_n 2, 1) := by decide +kernel
theorem dX12_lineOf_2 : decode cX12_lineOf 2 = .ok (.iload_n 2, 1) := by decide +kernel
theorem dX12_lineOf_3 : decode cX12_lineOf 3 = .ok (.aload_n 0, 1) := by decide +kernel
theorem dX12_lineOf_4 : decode cX12_lineOf 4 = .ok (.getfield 8, 3) := by decide +kernel
theorem dX12_lineOf_7 : decode cX12_lineOf 7 = .ok (.bipush 9, 2) := by decide +kernel
theorem dX12_lineOf_9 : decode cX12_lineOf 9 = .ok (.iaload, 1) := by decide +kernel
theorem dX12_lineOf_10 : decode cX12_lineOf 10 = .ok (.if_icmp .ge 21, 3) := by decide +kernel
theorem dX12_lineOf_13 : decode cX12_lineOf 13 = .ok (.aload_n 0, 1) := by decide +kernel
theorem dX12_lineOf_14 : decode cX12_lineOf 14 = .ok (.iload_n 2, 1) := by decide +kernel
theorem dX12_lineOf_15 : decode cX12_lineOf 15 = .ok (.iconst 2, 1) := by decide +kernel
theorem dX12_lineOf_16 : decode cX12_lineOf 16 = .ok (.invokevirtual 294, 3) := by decide +kernel
theorem dX12_lineOf_19 : decode cX12_lineOf 19 = .ok (.iload_n 1, 1) := by decide +kernel
theorem dX12_lineOf_20 : decode cX12_lineOf 20 = .ok (.if_icmp .ne 5, 3) := by decide +kernel
theorem dX12_lineOf_23 : decode cX12_lineOf 23 = .ok (.iload_n 2, 1) := by decide +kernel
theorem dX12_lineOf_24 : decode cX12_lineOf 24 = .ok (.ireturn, 1) := by decide +kernel
theorem dX12_lineOf_25 : decode cX12_lineOf 25 = .ok (.iinc 2 1, 3) := by decide +kernel
theorem dX12_lineOf_28 : decode cX12_lineOf 28 = .ok (.goto (-26), 3) := by decide +kernel
theorem dX12_lineOf_31 : decode cX12_lineOf 31 = .ok (.iconst (-1), 1) := by decide +kernel
theorem dX12_lineOf_32 : decode cX12_lineOf 32 = .ok (.ireturn, 1) := by decide +kernel
theorem dX12_aheadOf_0 : decode cX12_aheadOf 0 = .ok (.iconst 0, 1) := by decide +kernel
theorem dX12_aheadOf_1 : decode cX12_aheadOf 1 = .ok (.istore 4, 2) := by decide +kernel
theorem dX12_aheadOf_3 : decode cX12_aheadOf 3 = .ok (.iload 4, 2) := by decide +kernel
theorem dX12_aheadOf_5 : decode cX12_aheadOf 5 = .ok (.aload_n 0, 1) := by decide +kernel
theorem dX12_aheadOf_6 : decode cX12_aheadOf 6 = .ok (.invokevirtual 101, 3) := by decide +kernel
theorem dX12_aheadOf_9 : decode cX12_aheadOf 9 = .ok (.if_icmp .ge 40, 3) := by decide +kernel
theorem dX12_aheadOf_12 : decode cX12_aheadOf 12 = .ok (.iload 4, 2) := by decide +kernel
theorem dX12_aheadOf_14 : decode cX12_aheadOf 14 = .ok (.iload_n 1, 1) := by decide +kernel
theorem dX12_aheadOf_15 : decode cX12_aheadOf 15 = .ok (.if_icmp .eq 28, 3) := by decide +kernel
theorem dX12_aheadOf_18 : decode cX12_aheadOf 18 = .ok (.lload_n 2, 1) := by decide +kernel
theorem dX12_aheadOf_19 : decode cX12_aheadOf 19 = .ok (.iload 4, 2) := by decide +kernel
theorem dX12_aheadOf_21 : decode cX12_aheadOf 21 = .ok (.invokestatic 86, 3) := by decide +kernel
theorem dX12_aheadOf_24 : decode cX12_aheadOf 24 = .ok (.ifCond .eq 19, 3) := by decide +kernel
theorem dX12_aheadOf_27 : decode cX12_aheadOf 27 = .ok (.aload_n 0, 1) := by decide +kernel
theorem dX12_aheadOf_28 : decode cX12_aheadOf 28 = .ok (.iload 4, 2) := by decide +kernel
theorem dX12_aheadOf_30 : decode cX12_aheadOf 30 = .ok (.invokevirtual 261, 3) := by decide +kernel
theorem dX12_aheadOf_33 : decode cX12_aheadOf 33 = .ok (.iload_n 1, 1) := by decide +kernel
theorem dX12_aheadOf_34 : decode cX12_aheadOf 34 = .ok (.invokestatic 86, 3) := by decide +kernel
theorem dX12_aheadOf_37 : decode cX12_aheadOf 37 = .ok (.ifCond .eq 6, 3) := by decide +kernel
theorem dX12_aheadOf_40 : decode cX12_aheadOf 40 = .ok (.iload 4, 2) := by decide +kernel
theorem dX12_aheadOf_42 : decode cX12_aheadOf 42 = .ok (.ireturn, 1) := by decide +kernel
theorem dX12_aheadOf_43 : decode cX12_aheadOf 43 = .ok (.iinc 4 1, 3) := by decide +kernel
theorem dX12_aheadOf_46 : decode cX12_aheadOf 46 = .ok (.goto (-43), 3) := by decide +kernel
theorem dX12_aheadOf_49 : decode cX12_aheadOf 49 = .ok (.iconst (-1), 1) := by decide +kernel
theorem dX12_aheadOf_50 : decode cX12_aheadOf 50 = .ok (.ireturn, 1) := by decide +kernel
theorem dX12_seek_0 : decode cX12_seek 0 = .ok (.aload_n 0, 1) := by decide +kernel
theorem dX12_seek_1 : decode cX12_seek 1 = .ok (.invokevirtual 300, 3) := by decide +kernel
theorem dX12_seek_4 : decode cX12_seek 4 = .ok (.aload_n 0, 1) := by decide +kernel
theorem dX12_seek_5 : decode cX12_seek 5 = .ok (.aload_n 0, 1) := by decide +kernel
theorem dX12_seek_6 : decode cX12_seek 6 = .ok (.getfield 8, 3) := by decide +kernel
theorem dX12_seek_9 : decode cX12_seek 9 = .ok (.iconst 4, 1) := by decide +kernel
theorem dX12_seek_10 : decode cX12_seek 10 = .ok (.iaload, 1) := by decide +kernel
theorem dX12_seek_11 : decode cX12_seek 11 = .ok (.invokevirtual 264, 3) := by decide +kernel
theorem dX12_seek_14 : decode cX12_seek 14 = .ok (.land, 1) := by decide +kernel
theorem dX12_seek_15 : decode cX12_seek 15 = .ok (.lstore_n 1, 1) := by decide +kernel
theorem dX12_seek_16 : decode cX12_seek 16 = .ok (.lload_n 1, 1) := by decide +kernel
theorem dX12_seek_17 : decode cX12_seek 17 = .ok (.lconst 0, 1) := by decide +kernel
theorem dX12_seek_18 : decode cX12_seek 18 = .ok (.lcmp, 1) := by decide +kernel
theorem dX12_seek_19 : decode cX12_seek 19 = .ok (.ifCond .ne 29, 3) := by decide +kernel
theorem dX12_seek_22 : decode cX12_seek 22 = .ok (.aload_n 0, 1) := by decide +kernel
theorem dX12_seek_23 : decode cX12_seek 23 = .ok (.getfield 8, 3) := by decide +kernel
theorem dX12_seek_26 : decode cX12_seek 26 = .ok (.iconst 4, 1) := by decide +kernel
theorem dX12_seek_27 : decode cX12_seek 27 = .ok (.dup2, 1) := by decide +kernel
theorem dX12_seek_28 : decode cX12_seek 28 = .ok (.iaload, 1) := by decide +kernel
theorem dX12_seek_29 : decode cX12_seek 29 = .ok (.iconst 1, 1) := by decide +kernel
theorem dX12_seek_30 : decode cX12_seek 30 = .ok (.iadd, 1) := by decide +kernel
theorem dX12_seek_31 : decode cX12_seek 31 = .ok (.iastore, 1) := by decide +kernel
theorem dX12_seek_32 : decode cX12_seek 32 = .ok (.aload_n 0, 1) := by decide +kernel
theorem dX12_seek_33 : decode cX12_seek 33 = .ok (.getfield 8, 3) := by decide +kernel
theorem dX12_seek_36 : decode cX12_seek 36 = .ok (.iconst 5, 1) := by decide +kernel
theorem dX12_seek_37 : decode cX12_seek 37 = .ok (.iconst 2, 1) := by decide +kernel
theorem dX12_seek_38 : decode cX12_seek 38 = .ok (.iastore, 1) := by decide +kernel
theorem dX12_seek_39 : decode cX12_seek 39 = .ok (.aload_n 0, 1) := by decide +kernel
theorem dX12_seek_40 : decode cX12_seek 40 = .ok (.getfield 8, 3) := by decide +kernel
theorem dX12_seek_43 : decode cX12_seek 43 = .ok (.bipush 6, 2) := by decide +kernel
theorem dX12_seek_45 : decode cX12_seek 45 = .ok (.iconst 1, 1) := by decide +kernel
theorem dX12_seek_46 : decode cX12_seek 46 = .ok (.iastore, 1) := by decide +kernel
theorem dX12_seek_47 : decode cX12_seek 47 = .ok (.return_, 1) := by decide +kernel
theorem dX12_seek_48 : decode cX12_seek 48 = .ok (.iconst 0, 1) := by decide +kernel
theorem dX12_seek_49 : decode cX12_seek 49 = .ok (.istore_n 3, 1) := by decide +kernel
theorem dX12_seek_50 : decode cX12_seek 50 = .ok (.iload_n 3, 1) := by decide +kernel
theorem dX12_seek_51 : decode cX12_seek 51 = .ok (.bipush 8, 2) := by decide +kernel
theorem dX12_seek_53 : decode cX12_seek 53 = .ok (.if_icmp .ge 36, 3) := by decide +kernel
theorem dX12_seek_56 : decode cX12_seek 56 = .ok (.lload_n 1, 1) := by decide +kernel
theorem dX12_seek_57 : decode cX12_seek 57 = .ok (.lconst 0, 1) := by decide +kernel
theorem dX12_seek_58 : decode cX12_seek 58 = .ok (.lcmp, 1) := by decide +kernel
theorem dX12_seek_59 : decode cX12_seek 59 = .ok (.ifCond .eq 30, 3) := by decide +kernel
theorem dX12_seek_62 : decode cX12_seek 62 = .ok (.aload_n 0, 1) := by decide +kernel
theorem dX12_seek_63 : decode cX12_seek 63 = .ok (.lload_n 1, 1) := by decide +kernel
theorem dX12_seek_64 : decode cX12_seek 64 = .ok (.invokestatic 303, 3) := by decide +kernel
theorem dX12_seek_67 : decode cX12_seek 67 = .ok (.aload_n 0, 1) := by decide +kernel
theorem dX12_seek_68 : decode cX12_seek 68 = .ok (.getfield 8, 3) := by decide +kernel
theorem dX12_seek_71 : decode cX12_seek 71 = .ok (.iconst 4, 1) := by decide +kernel
theorem dX12_seek_72 : decode cX12_seek 72 = .ok (.iaload, 1) := by decide +kernel
theorem dX12_seek_73 : decode cX12_seek 73 = .ok (.iconst 0, 1) := by decide +kernel
theorem dX12_seek_74 : decode cX12_seek 74 = .ok (.invokevirtual 307, 3) := by decide +kernel
theorem dX12_seek_77 : decode cX12_seek 77 = .ok (.lload_n 1, 1) := by decide +kernel
theorem dX12_seek_78 : decode cX12_seek 78 = .ok (.lload_n 1, 1) := by decide +kernel
theorem dX12_seek_79 : decode cX12_seek 79 = .ok (.lconst 1, 1) := by decide +kernel
theorem dX12_seek_80 : decode cX12_seek 80 = .ok (.lsub, 1) := by decide +kernel
theorem dX12_seek_81 : decode cX12_seek 81 = .ok (.land, 1) := by decide +kernel
theorem dX12_seek_82 : decode cX12_seek 82 = .ok (.lstore_n 1, 1) := by decide +kernel
theorem dX12_seek_83 : decode cX12_seek 83 = .ok (.iinc 3 1, 3) := by decide +kernel
theorem dX12_seek_86 : decode cX12_seek 86 = .ok (.goto (-36), 3) := by decide +kernel
theorem dX12_seek_89 : decode cX12_seek 89 = .ok (.aload_n 0, 1) := by decide +kernel
theorem dX12_seek_90 : decode cX12_seek 90 = .ok (.getfield 8, 3) := by decide +kernel
theorem dX12_seek_93 : decode cX12_seek 93 = .ok (.iconst 5, 1) := by decide +kernel
theorem dX12_seek_94 : decode cX12_seek 94 = .ok (.iconst 1, 1) := by decide +kernel
theorem dX12_seek_95 : decode cX12_seek 95 = .ok (.iastore, 1) := by decide +kernel
theorem dX12_seek_96 : decode cX12_seek 96 = .ok (.return_, 1) := by decide +kernel
theorem dX12_barState_0 : decode cX12_barState 0 = .ok (.aload_n 0, 1) := by decide +kernel
theorem dX12_barState_1 : decode cX12_barState 1 = .ok (.iload_n 1, 1) := by decide +kernel
theorem dX12_barState_2 : decode cX12_barState 2 = .ok (.iconst 0, 1) := by decide +kernel
theorem dX12_barState_3 : decode cX12_barState 3 = .ok (.invokevirtual 294, 3) := by decide +kernel
theorem dX12_barState_6 : decode cX12_barState 6 = .ok (.istore_n 2, 1) := by decide +kernel
theorem dX12_barState_7 : decode cX12_barState 7 = .ok (.aload_n 0, 1) := by decide +kernel
theorem dX12_barState_8 : decode cX12_barState 8 = .ok (.iload_n 1, 1) := by decide +kernel
theorem dX12_barState_9 : decode cX12_barState 9 = .ok (.iconst 1, 1) := by decide +kernel
theorem dX12_barState_10 : decode cX12_barState 10 = .ok (.invokevirtual 294, 3) := by decide +kernel
theorem dX12_barState_13 : decode cX12_barState 13 = .ok (.istore_n 3, 1) := by decide +kernel
theorem dX12_barState_14 : decode cX12_barState 14 = .ok (.aload_n 0, 1) := by decide +kernel
theorem dX12_barState_15 : decode cX12_barState 15 = .ok (.iload_n 2, 1) := by decide +kernel
theorem dX12_barState_16 : decode cX12_barState 16 = .ok (.iload_n 3, 1) := by decide +kernel
theorem dX12_barState_17 : decode cX12_barState 17 = .ok (.invokevirtual 311, 3) := by decide +kernel
theorem dX12_barState_20 : decode cX12_barState 20 = .ok (.istore 4, 2) := by decide +kernel
theorem dX12_barState_22 : decode cX12_barState 22 = .ok (.iload_n 2, 1) := by decide +kernel
theorem dX12_barState_23 : decode cX12_barState 23 = .ok (.iload 4, 2) := by decide +kernel
theorem dX12_barState_25 : decode cX12_barState 25 = .ok (.iand, 1) := by decide +kernel
theorem dX12_barState_26 : decode cX12_barState 26 = .ok (.istore 5, 2) := by decide +kernel
theorem dX12_barState_28 : decode cX12_barState 28 = .ok (.iload_n 3, 1) := by decide +kernel
theorem dX12_barState_29 : decode cX12_barState 29 = .ok (.aload_n 0, 1) := by decide +kernel
theorem dX12_barState_30 : decode cX12_barState 30 = .ok (.getfield 8, 3) := by decide +kernel
theorem dX12_barState_33 : decode cX12_barState 33 = .ok (.iconst 4, 1) := by decide +kernel
theorem dX12_barState_34 : decode cX12_barState 34 = .ok (.iaload, 1) := by decide +kernel
theorem dX12_barState_35 : decode cX12_barState 35 = .ok (.if_icmp .ge 21, 3) := by decide +kernel
theorem dX12_barState_38 : decode cX12_barState 38 = .ok (.aload_n 0, 1) := by decide +kernel
theorem dX12_barState_39 : decode cX12_barState 39 = .ok (.iload 4, 2) := by decide +kernel
theorem dX12_barState_41 : decode cX12_barState 41 = .ok (.iload 5, 2) := by decide +kernel
theorem dX12_barState_43 : decode cX12_barState 43 = .ok (.iload_n 3, 1) := by decide +kernel
theorem dX12_barState_44 : decode cX12_barState 44 = .ok (.invokevirtual 288, 3) := by decide +kernel
theorem dX12_barState_47 : decode cX12_barState 47 = .ok (.ifCond .eq 9, 3) := by decide +kernel
theorem dX12_barState_50 : decode cX12_barState 50 = .ok (.iinc 3 1, 3) := by decide +kernel
theorem dX12_barState_53 : decode cX12_barState 53 = .ok (.goto (-25), 3) := by decide +kernel
theorem dX12_barState_56 : decode cX12_barState 56 = .ok (.aload_n 0, 1) := by decide +kernel
theorem dX12_barState_57 : decode cX12_barState 57 = .ok (.iload 4, 2) := by decide +kernel
theorem dX12_barState_59 : decode cX12_barState 59 = .ok (.iload 5, 2) := by decide +kernel
theorem dX12_barState_61 : decode cX12_barState 61 = .ok (.iload_n 3, 1) := by decide +kernel
theorem dX12_barState_62 : decode cX12_barState 62 = .ok (.invokevirtual 314, 3) := by decide +kernel
theorem dX12_barState_65 : decode cX12_barState 65 = .ok (.aload_n 0, 1) := by decide +kernel
theorem dX12_barState_66 : decode cX12_barState 66 = .ok (.getfield 8, 3) := by decide +kernel
theorem dX12_barState_69 : decode cX12_barState 69 = .ok (.bipush 13, 2) := by decide +kernel
theorem dX12_barState_71 : decode cX12_barState 71 = .ok (.dup2, 1) := by decide +kernel
theorem dX12_barState_72 : decode cX12_barState 72 = .ok (.iaload, 1) := by decide +kernel
theorem dX12_barState_73 : decode cX12_barState 73 = .ok (.iconst 1, 1) := by decide +kernel
theorem dX12_barState_74 : decode cX12_barState 74 = .ok (.iadd, 1) := by decide +kernel
theorem dX12_barState_75 : decode cX12_barState 75 = .ok (.iastore, 1) := by decide +kernel
theorem dX12_barState_76 : decode cX12_barState 76 = .ok (.aload_n 0, 1) := by decide +kernel
theorem dX12_barState_77 : decode cX12_barState 77 = .ok (.iload 4, 2) := by decide +kernel
theorem dX12_barState_79 : decode cX12_barState 79 = .ok (.invokevirtual 317, 3) := by decide +kernel
theorem dX12_barState_82 : decode cX12_barState 82 = .ok (.aload_n 0, 1) := by decide +kernel
theorem dX12_barState_83 : decode cX12_barState 83 = .ok (.iload_n 1, 1) := by decide +kernel
theorem dX12_barState_84 : decode cX12_barState 84 = .ok (.invokevirtual 320, 3) := by decide +kernel
theorem dX12_barState_87 : decode cX12_barState 87 = .ok (.return_, 1) := by decide +kernel
theorem dX12_obligeOne_0 : decode cX12_obligeOne 0 = .ok (.aload_n 0, 1) := by decide +kernel
theorem dX12_obligeOne_1 : decode cX12_obligeOne 1 = .ok (.iconst (-1), 1) := by decide +kernel
theorem dX12_obligeOne_2 : decode cX12_obligeOne 2 = .ok (.invokevirtual 323, 3) := by decide +kernel
theorem dX12_obligeOne_5 : decode cX12_obligeOne 5 = .ok (.istore_n 1, 1) := by decide +kernel
theorem dX12_obligeOne_6 : decode cX12_obligeOne 6 = .ok (.iload_n 1, 1) := by decide +kernel
theorem dX12_obligeOne_7 : decode cX12_obligeOne 7 = .ok (.iconst (-1), 1) := by decide +kernel
theorem dX12_obligeOne_8 : decode cX12_obligeOne 8 = .ok (.if_icmp .ne 11, 3) := by decide +kernel
theorem dX12_obligeOne_11 : decode cX12_obligeOne 11 = .ok (.aload_n 0, 1) := by decide +kernel
theorem dX12_obligeOne_12 : decode cX12_obligeOne 12 = .ok (.getfield 8, 3) := by decide +kernel
theorem dX12_obligeOne_15 : decode cX12_obligeOne 15 = .ok (.iconst 5, 1) := by decide +kernel
theorem dX12_obligeOne_16 : decode cX12_obligeOne 16 = .ok (.iconst 0, 1) := by decide +kernel
theorem dX12_obligeOne_17 : decode cX12_obligeOne 17 = .ok (.iastore, 1) := by decide +kernel
theorem dX12_obligeOne_18 : decode cX12_obligeOne 18 = .ok (.return_, 1) := by decide +kernel
theorem dX12_obligeOne_19 : decode cX12_obligeOne 19 = .ok (.aload_n 0, 1) := by decide +kernel
theorem dX12_obligeOne_20 : decode cX12_obligeOne 20 = .ok (.iload_n 1, 1) := by decide +kernel
theorem dX12_obligeOne_21 : decode cX12_obligeOne 21 = .ok (.iconst 0, 1) := by decide +kernel
theorem dX12_obligeOne_22 : decode cX12_obligeOne 22 = .ok (.invokevirtual 294, 3) := by decide +kernel
theorem dX12_obligeOne_25 : decode cX12_obligeOne 25 = .ok (.istore_n 2, 1) := by decide +kernel
theorem dX12_obligeOne_26 : decode cX12_obligeOne 26 = .ok (.aload_n 0, 1) := by decide +kernel
theorem dX12_obligeOne_27 : decode cX12_obligeOne 27 = .ok (.iload_n 1, 1) := by decide +kernel
theorem dX12_obligeOne_28 : decode cX12_obligeOne 28 = .ok (.iconst 1, 1) := by decide +kernel
theorem dX12_obligeOne_29 : decode cX12_obligeOne 29 = .ok (.invokevirtual 294, 3) := by decide +kernel
theorem dX12_obligeOne_32 : decode cX12_obligeOne 32 = .ok (.istore_n 3, 1) := by decide +kernel
theorem dX12_obligeOne_33 : decode cX12_obligeOne 33 = .ok (.aload_n 0, 1) := by decide +kernel
theorem dX12_obligeOne_34 : decode cX12_obligeOne 34 = .ok (.invokevirtual 255, 3) := by decide +kernel
theorem dX12_obligeOne_37 : decode cX12_obligeOne 37 = .ok (.iload_n 2, 1) := by decide +kernel
theorem dX12_obligeOne_38 : decode cX12_obligeOne 38 = .ok (.invokestatic 86, 3) := by decide +kernel
theorem dX12_obligeOne_41 : decode cX12_obligeOne 41 = .ok (.ifCond .eq 11, 3) := by decide +kernel
theorem dX12_obligeOne_44 : decode cX12_obligeOne 44 = .ok (.aload_n 0, 1) := by decide +kernel
theorem dX12_obligeOne_45 : decode cX12_obligeOne 45 = .ok (.getfield 8, 3) := by decide +kernel
theorem dX12_obligeOne_48 : decode cX12_obligeOne 48 = .ok (.iconst 5, 1) := by decide +kernel
theorem dX12_obligeOne_49 : decode cX12_obligeOne 49 = .ok (.iconst 4, 1) := by decide +kernel
theorem dX12_obligeOne_50 : decode cX12_obligeOne 50 = .ok (.iastore, 1) := by decide +kernel
theorem dX12_obligeOne_51 : decode cX12_obligeOne 51 = .ok (.return_, 1) := by decide +kernel
theorem dX12_obligeOne_52 : decode cX12_obligeOne 52 = .ok (.aload_n 0, 1) := by decide +kernel
theorem dX12_obligeOne_53 : decode cX12_obligeOne 53 = .ok (.iload_n 3, 1) := by decide +kernel
theorem dX12_obligeOne_54 : decode cX12_obligeOne 54 = .ok (.invokevirtual 264, 3) := by decide +kernel
theorem dX12_obligeOne_57 : decode cX12_obligeOne 57 = .ok (.iload_n 2, 1) := by decide +kernel
theorem dX12_obligeOne_58 : decode cX12_obligeOne 58 = .ok (.invokestatic 86, 3) := by decide +kernel
theorem dX12_obligeOne_61 : decode cX12_obligeOne 61 = .ok (.ifCond .ne 9, 3) := by decide +kernel
theorem dX12_obligeOne_64 : decode cX12_obligeOne 64 = .ok (.aload_n 0, 1) := by decide +kernel
theorem dX12_obligeOne_65 : decode cX12_obligeOne 65 = .ok (.iload_n 1, 1) := by decide +kernel
theorem dX12_obligeOne_66 : decode cX12_obligeOne 66 = .ok (.invokevirtual 320, 3) := by decide +kernel
theorem dX12_obligeOne_69 : decode cX12_obligeOne 69 = .ok (.return_, 1) := by decide +kernel
theorem dX12_obligeOne_70 : decode cX12_obligeOne 70 = .ok (.aload_n 0, 1) := by decide +kernel
theorem dX12_obligeOne_71 : decode cX12_obligeOne 71 = .ok (.getfield 8, 3) := by decide +kernel
theorem dX12_obligeOne_74 : decode cX12_obligeOne 74 = .ok (.bipush 12, 2) := by decide +kernel
theorem dX12_obligeOne_76 : decode cX12_obligeOne 76 = .ok (.dup2, 1) := by decide +kernel
theorem dX12_obligeOne_77 : decode cX12_obligeOne 77 = .ok (.iaload, 1) := by decide +kernel
theorem dX12_obligeOne_78 : decode cX12_obligeOne 78 = .ok (.iconst 1, 1) := by decide +kernel
theorem dX12_obligeOne_79 : decode cX12_obligeOne 79 = .ok (.iadd, 1) := by decide +kernel
theorem dX12_obligeOne_80 : decode cX12_obligeOne 80 = .ok (.iastore, 1) := by decide +kernel
theorem dX12_obligeOne_81 : decode cX12_obligeOne 81 = .ok (.aload_n 0, 1) := by decide +kernel
theorem dX12_obligeOne_82 : decode cX12_obligeOne 82 = .ok (.iload_n 2, 1) := by decide +kernel
theorem dX12_obligeOne_83 : decode cX12_obligeOne 83 = .ok (.aload_n 0, 1) := by decide +kernel
theorem dX12_obligeOne_84 : decode cX12_obligeOne 84 = .ok (.iload_n 3, 1) := by decide +kernel
theorem dX12_obligeOne_85 : decode cX12_obligeOne 85 = .ok (.iconst 1, 1) := by decide +kernel
theorem dX12_obligeOne_86 : decode cX12_obligeOne 86 = .ok (.isub, 1) := by decide +kernel
theorem dX12_obligeOne_87 : decode cX12_obligeOne 87 = .ok (.invokevirtual 264, 3) := by decide +kernel
theorem dX12_obligeOne_90 : decode cX12_obligeOne 90 = .ok (.invokevirtual 326, 3) := by decide +kernel
theorem dX12_obligeOne_93 : decode cX12_obligeOne 93 = .ok (.istore 4, 2) := by decide +kernel
theorem dX12_obligeOne_95 : decode cX12_obligeOne 95 = .ok (.iload 4, 2) := by decide +kernel
theorem dX12_obligeOne_97 : decode cX12_obligeOne 97 = .ok (.iconst (-1), 1) := by decide +kernel
theorem dX12_obligeOne_98 : decode cX12_obligeOne 98 = .ok (.if_icmp .ne 11, 3) := by decide +kernel
theorem dX12_obligeOne_101 : decode cX12_obligeOne 101 = .ok (.aload_n 0, 1) := by decide +kernel
theorem dX12_obligeOne_102 : decode cX12_obligeOne 102 = .ok (.iload_n 1, 1) := by decide +kernel
theorem dX12_obligeOne_103 : decode cX12_obligeOne 103 = .ok (.invokevirtual 330, 3) := by decide +kernel
theorem dX12_obligeOne_106 : decode cX12_obligeOne 106 = .ok (.goto 18, 3) := by decide +kernel
theorem dX12_obligeOne_109 : decode cX12_obligeOne 109 = .ok (.aload_n 0, 1) := by decide +kernel
theorem dX12_obligeOne_110 : decode cX12_obligeOne 110 = .ok (.iload 4, 2) := by decide +kernel
theorem dX12_obligeOne_112 : decode cX12_obligeOne 112 = .ok (.iload_n 3, 1) := by decide +kernel
theorem dX12_obligeOne_113 : decode cX12_obligeOne 113 = .ok (.iconst 1, 1) := by decide +kernel
theorem dX12_obligeOne_114 : decode cX12_obligeOne 114 = .ok (.isub, 1) := by decide +kernel
theorem dX12_obligeOne_115 : decode cX12_obligeOne 115 = .ok (.aload_n 0, 1) := by decide +kernel
theorem dX12_obligeOne_116 : decode cX12_obligeOne 116 = .ok (.iload_n 1, 1) := by decide +kernel
theorem dX12_obligeOne_117 : decode cX12_obligeOne 117 = .ok (.iconst 2, 1) := by decide +kernel
theorem dX12_obligeOne_118 : decode cX12_obligeOne 118 = .ok (.invokevirtual 294, 3) := by decide +kernel
theorem dX12_obligeOne_121 : decode cX12_obligeOne 121 = .ok (.invokevirtual 307, 3) := by decide +kernel
theorem dX12_obligeOne_124 : decode cX12_obligeOne 124 = .ok (.return_, 1) := by decide +kernel
theorem dX12_pushAll_0 : decode cX12_pushAll 0 = .ok (.aload_n 0, 1) := by decide +kernel
theorem dX12_pushAll_1 : decode cX12_pushAll 1 = .ok (.getfield 8, 3) := by decide +kernel
theorem dX12_pushAll_4 : decode cX12_pushAll 4 = .ok (.bipush 6, 2) := by decide +kernel
theorem dX12_pushAll_6 : decode cX12_pushAll 6 = .ok (.iaload, 1) := by decide +kernel
theorem dX12_pushAll_7 : decode cX12_pushAll 7 = .ok (.istore_n 1, 1) := by decide +kernel
theorem dX12_pushAll_8 : decode cX12_pushAll 8 = .ok (.iconst 0, 1) := by decide +kernel
theorem dX12_pushAll_9 : decode cX12_pushAll 9 = .ok (.istore_n 2, 1) := by decide +kernel
theorem dX12_pushAll_10 : decode cX12_pushAll 10 = .ok (.iconst 0, 1) := by decide +kernel
theorem dX12_pushAll_11 : decode cX12_pushAll 11 = .ok (.istore_n 3, 1) := by decide +kernel
theorem dX12_pushAll_12 : decode cX12_pushAll 12 = .ok (.iload_n 3, 1) := by decide +kernel
theorem dX12_pushAll_13 : decode cX12_pushAll 13 = .ok (.aload_n 0, 1) := by decide +kernel
theorem dX12_pushAll_14 : decode cX12_pushAll 14 = .ok (.getfield 8, 3) := by decide +kernel
theorem dX12_pushAll_17 : decode cX12_pushAll 17 = .ok (.bipush 17, 2) := by decide +kernel
theorem dX12_pushAll_19 : decode cX12_pushAll 19 = .ok (.iaload, 1) := by decide +kernel
theorem dX12_pushAll_20 : decode cX12_pushAll 20 = .ok (.if_icmp .ge 39, 3) := by decide +kernel
theorem dX12_pushAll_23 : decode cX12_pushAll 23 = .ok (.aload_n 0, 1) := by decide +kernel
theorem dX12_pushAll_24 : decode cX12_pushAll 24 = .ok (.iload_n 3, 1) := by decide +kernel
theorem dX12_pushAll_25 : decode cX12_pushAll 25 = .ok (.invokevirtual 237, 3) := by decide +kernel
theorem dX12_pushAll_28 : decode cX12_pushAll 28 = .ok (.iload_n 1, 1) := by decide +kernel
theorem dX12_pushAll_29 : decode cX12_pushAll 29 = .ok (.if_icmp .eq 6, 3) := by decide +kernel
theorem dX12_pushAll_32 : decode cX12_pushAll 32 = .ok (.goto 21, 3) := by decide +kernel
theorem dX12_pushAll_35 : decode cX12_pushAll 35 = .ok (.aload_n 0, 1) := by decide +kernel
theorem dX12_pushAll_36 : decode cX12_pushAll 36 = .ok (.getfield 50, 3) := by decide +kernel
theorem dX12_pushAll_39 : decode cX12_pushAll 39 = .ok (.iload_n 2, 1) := by decide +kernel
theorem dX12_pushAll_40 : decode cX12_pushAll 40 = .ok (.aload_n 0, 1) := by decide +kernel
theorem dX12_pushAll_41 : decode cX12_pushAll 41 = .ok (.getfield 8, 3) := by decide +kernel
theorem dX12_pushAll_44 : decode cX12_pushAll 44 = .ok (.bipush 104, 2) := by decide +kernel
theorem dX12_pushAll_46 : decode cX12_pushAll 46 = .ok (.iload_n 3, 1) := by decide +kernel
theorem dX12_pushAll_47 : decode cX12_pushAll 47 = .ok (.iadd, 1) := by decide +kernel
theorem dX12_pushAll_48 : decode cX12_pushAll 48 = .ok (.iaload, 1) := by decide +kernel
theorem dX12_pushAll_49 : decode cX12_pushAll 49 = .ok (.iastore, 1) := by decide +kernel
theorem dX12_pushAll_50 : decode cX12_pushAll 50 = .ok (.iinc 2 1, 3) := by decide +kernel
theorem dX12_pushAll_53 : decode cX12_pushAll 53 = .ok (.iinc 3 1, 3) := by decide +kernel
theorem dX12_pushAll_56 : decode cX12_pushAll 56 = .ok (.goto (-44), 3) := by decide +kernel
theorem dX12_pushAll_59 : decode cX12_pushAll 59 = .ok (.iconst 0, 1) := by decide +kernel
theorem dX12_pushAll_60 : decode cX12_pushAll 60 = .ok (.istore_n 3, 1) := by decide +kernel
theorem dX12_pushAll_61 : decode cX12_pushAll 61 = .ok (.iload_n 3, 1) := by decide +kernel
theorem dX12_pushAll_62 : decode cX12_pushAll 62 = .ok (.iload_n 2, 1) := by decide +kernel
theorem dX12_pushAll_63 : decode cX12_pushAll 63 = .ok (.if_icmp .ge 131, 3) := by decide +kernel
theorem dX12_pushAll_66 : decode cX12_pushAll 66 = .ok (.iconst 0, 1) := by decide +kernel
theorem dX12_pushAll_67 : decode cX12_pushAll 67 = .ok (.istore 4, 2) := by decide +kernel
theorem dX12_pushAll_69 : decode cX12_pushAll 69 = .ok (.iconst 0, 1) := by decide +kernel
theorem dX12_pushAll_70 : decode cX12_pushAll 70 = .ok (.istore 5, 2) := by decide +kernel
theorem dX12_pushAll_72 : decode cX12_pushAll 72 = .ok (.iload 5, 2) := by decide +kernel
theorem dX12_pushAll_74 : decode cX12_pushAll 74 = .ok (.aload_n 0, 1) := by decide +kernel
theorem dX12_pushAll_75 : decode cX12_pushAll 75 = .ok (.getfield 8, 3) := by decide +kernel
theorem dX12_pushAll_78 : decode cX12_pushAll 78 = .ok (.bipush 17, 2) := by decide +kernel
theorem dX12_pushAll_80 : decode cX12_pushAll 80 = .ok (.iaload, 1) := by decide +kernel
theorem dX12_pushAll_81 : decode cX12_pushAll 81 = .ok (.if_icmp .ge 40, 3) := by decide +kernel
theorem dX12_pushAll_84 : decode cX12_pushAll 84 = .ok (.iload 4, 2) := by decide +kernel
theorem dX12_pushAll_86 : decode cX12_pushAll 86 = .ok (.ifCond .ne 22, 3) := by decide +kernel
theorem dX12_pushAll_89 : decode cX12_pushAll 89 = .ok (.aload_n 0, 1) := by decide +kernel
theorem dX12_pushAll_90 : decode cX12_pushAll 90 = .ok (.getfield 8, 3) := by decide +kernel
theorem dX12_pushAll_93 : decode cX12_pushAll 93 = .ok (.bipush 104, 2) := by decide +kernel
theorem dX12_pushAll_95 : decode cX12_pushAll 95 = .ok (.iload 5, 2) := by decide +kernel
theorem dX12_pushAll_97 : decode cX12_pushAll 97 = .ok (.iadd, 1) := by decide +kernel
theorem dX12_pushAll_98 : decode cX12_pushAll 98 = .ok (.iaload, 1) := by decide +kernel
theorem dX12_pushAll_99 : decode cX12_pushAll 99 = .ok (.aload_n 0, 1) := by decide +kernel
theorem dX12_pushAll_100 : decode cX12_pushAll 100 = .ok (.getfield 50, 3) := by decide +kernel
theorem dX12_pushAll_103 : decode cX12_pushAll 103 = .ok (.iload_n 3, 1) := by decide +kernel
theorem dX12_pushAll_104 : decode cX12_pushAll 104 = .ok (.iaload, 1) := by decide +kernel
theorem dX12_pushAll_105 : decode cX12_pushAll 105 = .ok (.if_icmp .ne 7, 3) := by decide +kernel
theorem dX12_pushAll_108 : decode cX12_pushAll 108 = .ok (.iconst 1, 1) := by decide +kernel
theorem dX12_pushAll_109 : decode cX12_pushAll 109 = .ok (.goto 4, 3) := by decide +kernel
theorem dX12_pushAll_112 : decode cX12_pushAll 112 = .ok (.iconst 0, 1) := by decide +kernel
theorem dX12_pushAll_113 : decode cX12_pushAll 113 = .ok (.istore 4, 2) := by decide +kernel
theorem dX12_pushAll_115 : decode cX12_pushAll 115 = .ok (.iinc 5 1, 3) := by decide +kernel
theorem dX12_pushAll_118 : decode cX12_pushAll 118 = .ok (.goto (-46), 3) := by decide +kernel
theorem dX12_pushAll_121 : decode cX12_pushAll 121 = .ok (.aload_n 0, 1) := by decide +kernel
theorem dX12_pushAll_122 : decode cX12_pushAll 122 = .ok (.getfield 50, 3) := by decide +kernel
theorem dX12_pushAll_125 : decode cX12_pushAll 125 = .ok (.iload_n 3, 1) := by decide +kernel
theorem dX12_pushAll_126 : decode cX12_pushAll 126 = .ok (.iaload, 1) := by decide +kernel
theorem dX12_pushAll_127 : decode cX12_pushAll 127 = .ok (.bipush 6, 2) := by decide +kernel
theorem dX12_pushAll_129 : decode cX12_pushAll 129 = .ok (.ishr, 1) := by decide +kernel
theorem dX12_pushAll_130 : decode cX12_pushAll 130 = .ok (.bipush 63, 2) := by decide +kernel
theorem dX12_pushAll_132 : decode cX12_pushAll 132 = .ok (.iand, 1) := by decide +kernel
theorem dX12_pushAll_133 : decode cX12_pushAll 133 = .ok (.istore 5, 2) := by decide +kernel
theorem dX12_pushAll_135 : decode cX12_pushAll 135 = .ok (.aload_n 0, 1) := by decide +kernel
theorem dX12_pushAll_136 : decode cX12_pushAll 136 = .ok (.getfield 50, 3) := by decide +kernel
theorem dX12_pushAll_139 : decode cX12_pushAll 139 = .ok (.iload_n 3, 1) := by decide +kernel
theorem dX12_pushAll_140 : decode cX12_pushAll 140 = .ok (.iaload, 1) := by decide +kernel
theorem dX12_pushAll_141 : decode cX12_pushAll 141 = .ok (.bipush 63, 2) := by decide +kernel
theorem dX12_pushAll_143 : decode cX12_pushAll 143 = .ok (.iand, 1) := by decide +kernel
theorem dX12_pushAll_144 : decode cX12_pushAll 144 = .ok (.istore 6, 2) := by decide +kernel
theorem dX12_pushAll_146 : decode cX12_pushAll 146 = .ok (.iload 4, 2) := by decide +kernel
theorem dX12_pushAll_148 : decode cX12_pushAll 148 = .ok (.ifCond .eq 40, 3) := by decide +kernel
theorem dX12_pushAll_151 : decode cX12_pushAll 151 = .ok (.aload_n 0, 1) := by decide +kernel
theorem dX12_pushAll_152 : decode cX12_pushAll 152 = .ok (.iload 5, 2) := by decide +kernel
theorem dX12_pushAll_154 : decode cX12_pushAll 154 = .ok (.iload 6, 2) := by decide +kernel
theorem dX12_pushAll_156 : decode cX12_pushAll 156 = .ok (.iload_n 1, 1) := by decide +kernel
theorem dX12_pushAll_157 : decode cX12_pushAll 157 = .ok (.invokevirtual 288, 3) := by decide +kernel
theorem dX12_pushAll_160 : decode cX12_pushAll 160 = .ok (.ifCond .ne 6, 3) := by decide +kernel
theorem dX12_pushAll_163 : decode cX12_pushAll 163 = .ok (.goto 25, 3) := by decide +kernel
theorem dX12_pushAll_166 : decode cX12_pushAll 166 = .ok (.aload_n 0, 1) := by decide +kernel
theorem dX12_pushAll_167 : decode cX12_pushAll 167 = .ok (.iload 5, 2) := by decide +kernel
theorem dX12_pushAll_169 : decode cX12_pushAll 169 = .ok (.iload 6, 2) := by decide +kernel
theorem dX12_pushAll_171 : decode cX12_pushAll 171 = .ok (.iload_n 1, 1) := by decide +kernel
theorem dX12_pushAll_172 : decode cX12_pushAll 172 = .ok (.iconst 1, 1) := by decide +kernel
theorem dX12_pushAll_173 : decode cX12_pushAll 173 = .ok (.iadd, 1) := by decide +kernel
theorem dX12_pushAll_174 : decode cX12_pushAll 174 = .ok (.invokevirtual 314, 3) := by decide +kernel
theorem dX12_pushAll_177 : decode cX12_pushAll 177 = .ok (.aload_n 0, 1) := by decide +kernel
theorem dX12_pushAll_178 : decode cX12_pushAll 178 = .ok (.getfield 8, 3) := by decide +kernel
theorem dX12_pushAll_181 : decode cX12_pushAll 181 = .ok (.bipush 14, 2) := by decide +kernel
theorem dX12_pushAll_183 : decode cX12_pushAll 183 = .ok (.dup2, 1) := by decide +kernel
theorem dX12_pushAll_184 : decode cX12_pushAll 184 = .ok (.iaload, 1) := by decide +kernel
theorem dX12_pushAll_185 : decode cX12_pushAll 185 = .ok (.iconst 1, 1) := by decide +kernel
theorem dX12_pushAll_186 : decode cX12_pushAll 186 = .ok (.iadd, 1) := by decide +kernel
theorem dX12_pushAll_187 : decode cX12_pushAll 187 = .ok (.iastore, 1) := by decide +kernel
theorem dX12_pushAll_188 : decode cX12_pushAll 188 = .ok (.iinc 3 1, 3) := by decide +kernel
theorem dX12_pushAll_191 : decode cX12_pushAll 191 = .ok (.goto (-130), 3) := by decide +kernel
theorem dX12_pushAll_194 : decode cX12_pushAll 194 = .ok (.aload_n 0, 1) := by decide +kernel
theorem dX12_pushAll_195 : decode cX12_pushAll 195 = .ok (.iload_n 1, 1) := by decide +kernel
theorem dX12_pushAll_196 : decode cX12_pushAll 196 = .ok (.invokevirtual 333, 3) := by decide +kernel
theorem dX12_pushAll_199 : decode cX12_pushAll 199 = .ok (.ifCond .ne 11, 3) := by decide +kernel
theorem dX12_pushAll_202 : decode cX12_pushAll 202 = .ok (.aload_n 0, 1) := by decide +kernel
theorem dX12_pushAll_203 : decode cX12_pushAll 203 = .ok (.getfield 8, 3) := by decide +kernel
theorem dX12_pushAll_206 : decode cX12_pushAll 206 = .ok (.iconst 5, 1) := by decide +kernel
theorem dX12_pushAll_207 : decode cX12_pushAll 207 = .ok (.iconst 3, 1) := by decide +kernel
theorem dX12_pushAll_208 : decode cX12_pushAll 208 = .ok (.iastore, 1) := by decide +kernel
theorem dX12_pushAll_209 : decode cX12_pushAll 209 = .ok (.return_, 1) := by decide +kernel
theorem dX12_pushAll_210 : decode cX12_pushAll 210 = .ok (.aload_n 0, 1) := by decide +kernel
theorem dX12_pushAll_211 : decode cX12_pushAll 211 = .ok (.getfield 8, 3) := by decide +kernel
theorem dX12_pushAll_214 : decode cX12_pushAll 214 = .ok (.bipush 6, 2) := by decide +kernel
theorem dX12_pushAll_216 : decode cX12_pushAll 216 = .ok (.dup2, 1) := by decide +kernel
theorem dX12_pushAll_217 : decode cX12_pushAll 217 = .ok (.iaload, 1) := by decide +kernel
theorem dX12_pushAll_218 : decode cX12_pushAll 218 = .ok (.iconst 1, 1) := by decide +kernel
theorem dX12_pushAll_219 : decode cX12_pushAll 219 = .ok (.iadd, 1) := by decide +kernel
theorem dX12_pushAll_220 : decode cX12_pushAll 220 = .ok (.iastore, 1) := by decide +kernel
theorem dX12_pushAll_221 : decode cX12_pushAll 221 = .ok (.aload_n 0, 1) := by decide +kernel
theorem dX12_pushAll_222 : decode cX12_pushAll 222 = .ok (.getfield 8, 3) := by decide +kernel
theorem dX12_pushAll_225 : decode cX12_pushAll 225 = .ok (.bipush 6, 2) := by decide +kernel
theorem dX12_pushAll_227 : decode cX12_pushAll 227 = .ok (.iaload, 1) := by decide +kernel
theorem dX12_pushAll_228 : decode cX12_pushAll 228 = .ok (.aload_n 0, 1) := by decide +kernel
theorem dX12_pushAll_229 : decode cX12_pushAll 229 = .ok (.getfield 8, 3) := by decide +kernel
theorem dX12_pushAll_232 : decode cX12_pushAll 232 = .ok (.iconst 4, 1) := by decide +kernel
theorem dX12_pushAll_233 : decode cX12_pushAll 233 = .ok (.iaload, 1) := by decide +kernel
theorem dX12_pushAll_234 : decode cX12_pushAll 234 = .ok (.if_icmp .ne 10, 3) := by decide +kernel
theorem dX12_pushAll_237 : decode cX12_pushAll 237 = .ok (.aload_n 0, 1) := by decide +kernel
theorem dX12_pushAll_238 : decode cX12_pushAll 238 = .ok (.getfield 8, 3) := by decide +kernel
theorem dX12_pushAll_241 : decode cX12_pushAll 241 = .ok (.iconst 5, 1) := by decide +kernel
theorem dX12_pushAll_242 : decode cX12_pushAll 242 = .ok (.iconst 0, 1) := by decide +kernel
theorem dX12_pushAll_243 : decode cX12_pushAll 243 = .ok (.iastore, 1) := by decide +kernel
theorem dX12_pushAll_244 : decode cX12_pushAll 244 = .ok (.return_, 1) := by decide +kernel
theorem dX12_isOver_0 : decode cX12_isOver 0 = .ok (.aload_n 0, 1) := by decide +kernel
theorem dX12_isOver_1 : decode cX12_isOver 1 = .ok (.getfield 8, 3) := by decide +kernel
theorem dX12_isOver_4 : decode cX12_isOver 4 = .ok (.iconst 5, 1) := by decide +kernel
theorem dX12_isOver_5 : decode cX12_isOver 5 = .ok (.iaload, 1) := by decide +kernel
theorem dX12_isOver_6 : decode cX12_isOver 6 = .ok (.iconst 3, 1) := by decide +kernel
theorem dX12_isOver_7 : decode cX12_isOver 7 = .ok (.if_icmp .lt 7, 3) := by decide +kernel
theorem dX12_isOver_10 : decode cX12_isOver 10 = .ok (.iconst 1, 1) := by decide +kernel
theorem dX12_isOver_11 : decode cX12_isOver 11 = .ok (.goto 4, 3) := by decide +kernel
theorem dX12_isOver_14 : decode cX12_isOver 14 = .ok (.iconst 0, 1) := by decide +kernel
theorem dX12_isOver_15 : decode cX12_isOver 15 = .ok (.ireturn, 1) := by decide +kernel
theorem dX12_stepNow_0 : decode cX12_stepNow 0 = .ok (.aload_n 0, 1) := by decide +kernel
theorem dX12_stepNow_1 : decode cX12_stepNow 1 = .ok (.getfield 8, 3) := by decide +kernel
theorem dX12_stepNow_4 : decode cX12_stepNow 4 = .ok (.bipush 11, 2) := by decide +kernel
theorem dX12_stepNow_6 : decode cX12_stepNow 6 = .ok (.dup2, 1) := by decide +kernel
theorem dX12_stepNow_7 : decode cX12_stepNow 7 = .ok (.iaload, 1) := by decide +kernel
theorem dX12_stepNow_8 : decode cX12_stepNow 8 = .ok (.iconst 1, 1) := by decide +kernel
theorem dX12_stepNow_9 : decode cX12_stepNow 9 = .ok (.iadd, 1) := by decide +kernel
theorem dX12_stepNow_10 : decode cX12_stepNow 10 = .ok (.iastore, 1) := by decide +kernel
theorem dX12_stepNow_11 : decode cX12_stepNow 11 = .ok (.aload_n 0, 1) := by decide +kernel
theorem dX12_stepNow_12 : decode cX12_stepNow 12 = .ok (.getfield 8, 3) := by decide +kernel
theorem dX12_stepNow_15 : decode cX12_stepNow 15 = .ok (.iconst 5, 1) := by decide +kernel
theorem dX12_stepNow_16 : decode cX12_stepNow 16 = .ok (.iaload, 1) := by decide +kernel
theorem dX12_stepNow_17 : decode cX12_stepNow 17 = .ok (.ifCond .ne 10, 3) := by decide +kernel
theorem dX12_stepNow_20 : decode cX12_stepNow 20 = .ok (.aload_n 0, 1) := by decide +kernel
theorem dX12_stepNow_21 : decode cX12_stepNow 21 = .ok (.invokevirtual 336, 3) := by decide +kernel
theorem dX12_stepNow_24 : decode cX12_stepNow 24 = .ok (.goto 24, 3) := by decide +kernel
theorem dX12_stepNow_27 : decode cX12_stepNow 27 = .ok (.aload_n 0, 1) := by decide +kernel
theorem dX12_stepNow_28 : decode cX12_stepNow 28 = .ok (.getfield 8, 3) := by decide +kernel
theorem dX12_stepNow_31 : decode cX12_stepNow 31 = .ok (.iconst 5, 1) := by decide +kernel
theorem dX12_stepNow_32 : decode cX12_stepNow 32 = .ok (.iaload, 1) := by decide +kernel
theorem dX12_stepNow_33 : decode cX12_stepNow 33 = .ok (.iconst 1, 1) := by decide +kernel
theorem dX12_stepNow_34 : decode cX12_stepNow 34 = .ok (.if_icmp .ne 10, 3) := by decide +kernel
theorem dX12_stepNow_37 : decode cX12_stepNow 37 = .ok (.aload_n 0, 1) := by decide +kernel
theorem dX12_stepNow_38 : decode cX12_stepNow 38 = .ok (.invokevirtual 339, 3) := by decide +kernel
theorem dX12_stepNow_41 : decode cX12_stepNow 41 = .ok (.goto 7, 3) := by decide +kernel
theorem dX12_stepNow_44 : decode cX12_stepNow 44 = .ok (.aload_n 0, 1) := by decide +kernel
theorem dX12_stepNow_45 : decode cX12_stepNow 45 = .ok (.invokevirtual 342, 3) := by decide +kernel
theorem dX12_stepNow_48 : decode cX12_stepNow 48 = .ok (.return_, 1) := by decide +kernel
theorem dX12_stepsNow_0 : decode cX12_stepsNow 0 = .ok (.iconst 0, 1) := by decide +kernel
theorem dX12_stepsNow_1 : decode cX12_stepsNow 1 = .ok (.istore_n 2, 1) := by decide +kernel
theorem dX12_stepsNow_2 : decode cX12_stepsNow 2 = .ok (.iload_n 2, 1) := by decide +kernel
theorem dX12_stepsNow_3 : decode cX12_stepsNow 3 = .ok (.iload_n 1, 1) := by decide +kernel
theorem dX12_stepsNow_4 : decode cX12_stepsNow 4 = .ok (.if_icmp .ge 20, 3) := by decide +kernel
theorem dX12_stepsNow_7 : decode cX12_stepsNow 7 = .ok (.aload_n 0, 1) := by decide +kernel
theorem dX12_stepsNow_8 : decode cX12_stepsNow 8 = .ok (.invokevirtual 345, 3) := by decide +kernel
theorem dX12_stepsNow_11 : decode cX12_stepsNow 11 = .ok (.ifCond .ne 13, 3) := by decide +kernel
theorem dX12_stepsNow_14 : decode cX12_stepsNow 14 = .ok (.aload_n 0, 1) := by decide +kernel
theorem dX12_stepsNow_15 : decode cX12_stepsNow 15 = .ok (.invokevirtual 348, 3) := by decide +kernel
theorem dX12_stepsNow_18 : decode cX12_stepsNow 18 = .ok (.iinc 2 1, 3) := by decide +kernel
theorem dX12_stepsNow_21 : decode cX12_stepsNow 21 = .ok (.goto (-19), 3) := by decide +kernel
theorem dX12_stepsNow_24 : decode cX12_stepsNow 24 = .ok (.iload_n 2, 1) := by decide +kernel
theorem dX12_stepsNow_25 : decode cX12_stepsNow 25 = .ok (.ireturn, 1) := by decide +kernel
theorem dX12_putAside_0 : decode cX12_putAside 0 = .ok (.iconst 0, 1) := by decide +kernel
theorem dX12_putAside_1 : decode cX12_putAside 1 = .ok (.istore_n 1, 1) := by decide +kernel
theorem dX12_putAside_2 : decode cX12_putAside 2 = .ok (.iload_n 1, 1) := by decide +kernel
theorem dX12_putAside_3 : decode cX12_putAside 3 = .ok (.sipush 5421, 3) := by decide +kernel
theorem dX12_putAside_6 : decode cX12_putAside 6 = .ok (.if_icmp .ge 23, 3) := by decide +kernel
theorem dX12_putAside_9 : decode cX12_putAside 9 = .ok (.aload_n 0, 1) := by decide +kernel
theorem dX12_putAside_10 : decode cX12_putAside 10 = .ok (.getfield 53, 3) := by decide +kernel
theorem dX12_putAside_13 : decode cX12_putAside 13 = .ok (.iload_n 1, 1) := by decide +kernel
theorem dX12_putAside_14 : decode cX12_putAside 14 = .ok (.aload_n 0, 1) := by decide +kernel
theorem dX12_putAside_15 : decode cX12_putAside 15 = .ok (.getfield 8, 3) := by decide +kernel
theorem dX12_putAside_18 : decode cX12_putAside 18 = .ok (.iconst 3, 1) := by decide +kernel
theorem dX12_putAside_19 : decode cX12_putAside 19 = .ok (.iload_n 1, 1) := by decide +kernel
theorem dX12_putAside_20 : decode cX12_putAside 20 = .ok (.iadd, 1) := by decide +kernel
theorem dX12_putAside_21 : decode cX12_putAside 21 = .ok (.iaload, 1) := by decide +kernel
theorem dX12_putAside_22 : decode cX12_putAside 22 = .ok (.iastore, 1) := by decide +kernel
theorem dX12_putAside_23 : decode cX12_putAside 23 = .ok (.iinc 1 1, 3) := by decide +kernel
theorem dX12_putAside_26 : decode cX12_putAside 26 = .ok (.goto (-24), 3) := by decide +kernel
theorem dX12_putAside_29 : decode cX12_putAside 29 = .ok (.iconst 0, 1) := by decide +kernel
theorem dX12_putAside_30 : decode cX12_putAside 30 = .ok (.istore_n 1, 1) := by decide +kernel
theorem dX12_putAside_31 : decode cX12_putAside 31 = .ok (.iload_n 1, 1) := by decide +kernel
theorem dX12_putAside_32 : decode cX12_putAside 32 = .ok (.bipush 7, 2) := by decide +kernel
theorem dX12_putAside_34 : decode cX12_putAside 34 = .ok (.if_icmp .ge 21, 3) := by decide +kernel
theorem dX12_putAside_37 : decode cX12_putAside 37 = .ok (.aload_n 0, 1) := by decide +kernel
theorem dX12_putAside_38 : decode cX12_putAside 38 = .ok (.getfield 56, 3) := by decide +kernel
theorem dX12_putAside_41 : decode cX12_putAside 41 = .ok (.iload_n 1, 1) := by decide +kernel
theorem dX12_putAside_42 : decode cX12_putAside 42 = .ok (.aload_n 0, 1) := by decide +kernel
theorem dX12_putAside_43 : decode cX12_putAside 43 = .ok (.getfield 17, 3) := by decide +kernel
theorem dX12_putAside_46 : decode cX12_putAside 46 = .ok (.iload_n 1, 1) := by decide +kernel
theorem dX12_putAside_47 : decode cX12_putAside 47 = .ok (.faload, 1) := by decide +kernel
theorem dX12_putAside_48 : decode cX12_putAside 48 = .ok (.fastore, 1) := by decide +kernel
theorem dX12_putAside_49 : decode cX12_putAside 49 = .ok (.iinc 1 1, 3) := by decide +kernel
theorem dX12_putAside_52 : decode cX12_putAside 52 = .ok (.goto (-21), 3) := by decide +kernel
theorem dX12_putAside_55 : decode cX12_putAside 55 = .ok (.return_, 1) := by decide +kernel
theorem dX12_bringBack_0 : decode cX12_bringBack 0 = .ok (.iconst 0, 1) := by decide +kernel
theorem dX12_bringBack_1 : decode cX12_bringBack 1 = .ok (.istore_n 1, 1) := by decide +kernel
theorem dX12_bringBack_2 : decode cX12_bringBack 2 = .ok (.iload_n 1, 1) := by decide +kernel
theorem dX12_bringBack_3 : decode cX12_bringBack 3 = .ok (.sipush 5421, 3) := by decide +kernel
theorem dX12_bringBack_6 : decode cX12_bringBack 6 = .ok (.if_icmp .ge 23, 3) := by decide +kernel
theorem dX12_bringBack_9 : decode cX12_bringBack 9 = .ok (.aload_n 0, 1) := by decide +kernel
theorem dX12_bringBack_10 : decode cX12_bringBack 10 = .ok (.getfield 8, 3) := by decide +kernel
theorem dX12_bringBack_13 : decode cX12_bringBack 13 = .ok (.iconst 3, 1) := by decide +kernel
theorem dX12_bringBack_14 : decode cX12_bringBack 14 = .ok (.iload_n 1, 1) := by decide +kernel
theorem dX12_bringBack_15 : decode cX12_bringBack 15 = .ok (.iadd, 1) := by decide +kernel
theorem dX12_bringBack_16 : decode cX12_bringBack 16 = .ok (.aload_n 0, 1) := by decide +kernel
theorem dX12_bringBack_17 : decode cX12_bringBack 17 = .ok (.getfield 53, 3) := by decide +kernel
theorem dX12_bringBack_20 : decode cX12_bringBack 20 = .ok (.iload_n 1, 1) := by decide +kernel
theorem dX12_bringBack_21 : decode cX12_bringBack 21 = .ok (.iaload, 1) := by decide +kernel
theorem dX12_bringBack_22 : decode cX12_bringBack 22 = .ok (.iastore, 1) := by decide +kernel
theorem dX12_bringBack_23 : decode cX12_bringBack 23 = .ok (.iinc 1 1, 3) := by decide +kernel
theorem dX12_bringBack_26 : decode cX12_bringBack 26 = .ok (.goto (-24), 3) := by decide +kernel
theorem dX12_bringBack_29 : decode cX12_bringBack 29 = .ok (.iconst 0, 1) := by decide +kernel
theorem dX12_bringBack_30 : decode cX12_bringBack 30 = .ok (.istore_n 1, 1) := by decide +kernel
theorem dX12_bringBack_31 : decode cX12_bringBack 31 = .ok (.iload_n 1, 1) := by decide +kernel
theorem dX12_bringBack_32 : decode cX12_bringBack 32 = .ok (.bipush 7, 2) := by decide +kernel
theorem dX12_bringBack_34 : decode cX12_bringBack 34 = .ok (.if_icmp .ge 21, 3) := by decide +kernel
theorem dX12_bringBack_37 : decode cX12_bringBack 37 = .ok (.aload_n 0, 1) := by decide +kernel
theorem dX12_bringBack_38 : decode cX12_bringBack 38 = .ok (.getfield 17, 3) := by decide +kernel
theorem dX12_bringBack_41 : decode cX12_bringBack 41 = .ok (.iload_n 1, 1) := by decide +kernel
theorem dX12_bringBack_42 : decode cX12_bringBack 42 = .ok (.aload_n 0, 1) := by decide +kernel
theorem dX12_bringBack_43 : decode cX12_bringBack 43 = .ok (.getfield 56, 3) := by decide +kernel
theorem dX12_bringBack_46 : decode cX12_bringBack 46 = .ok (.iload_n 1, 1) := by decide +kernel
theorem dX12_bringBack_47 : decode cX12_bringBack 47 = .ok (.faload, 1) := by decide +kernel
theorem dX12_bringBack_48 : decode cX12_bringBack 48 = .ok (.fastore, 1) := by decide +kernel
theorem dX12_bringBack_49 : decode cX12_bringBack 49 = .ok (.iinc 1 1, 3) := by decide +kernel
theorem dX12_bringBack_52 : decode cX12_bringBack 52 = .ok (.goto (-21), 3) := by decide +kernel
theorem dX12_bringBack_55 : decode cX12_bringBack 55 = .ok (.return_, 1) := by decide +kernel
theorem dX12_stepAt_0 : decode cX12_stepAt 0 = .ok (.iload_n 0, 1) := by decide +kernel
theorem dX12_stepAt_1 : decode cX12_stepAt 1 = .ok (.iload_n 1, 1) := by decide +kernel
theorem dX12_stepAt_2 : decode cX12_stepAt 2 = .ok (.iadd, 1) := by decide +kernel
theorem dX12_stepAt_3 : decode cX12_stepAt 3 = .ok (.bipush 20, 2) := by decide +kernel
theorem dX12_stepAt_5 : decode cX12_stepAt 5 = .ok (.irem, 1) := by decide +kernel
theorem dX12_stepAt_6 : decode cX12_stepAt 6 = .ok (.ireturn, 1) := by decide +kernel
theorem dX12_keep_0 : decode cX12_keep 0 = .ok (.aload_n 0, 1) := by decide +kernel
theorem dX12_keep_1 : decode cX12_keep 1 = .ok (.getfield 8, 3) := by decide +kernel
theorem dX12_keep_4 : decode cX12_keep 4 = .ok (.iconst 1, 1) := by decide +kernel
theorem dX12_keep_5 : decode cX12_keep 5 = .ok (.iaload, 1) := by decide +kernel
theorem dX12_keep_6 : decode cX12_keep 6 = .ok (.bipush 20, 2) := by decide +kernel
theorem dX12_keep_8 : decode cX12_keep 8 = .ok (.if_icmp .ne 30, 3) := by decide +kernel
theorem dX12_keep_11 : decode cX12_keep 11 = .ok (.aload_n 0, 1) := by decide +kernel
theorem dX12_keep_12 : decode cX12_keep 12 = .ok (.getfield 8, 3) := by decide +kernel
theorem dX12_keep_15 : decode cX12_keep 15 = .ok (.iconst 2, 1) := by decide +kernel
theorem dX12_keep_16 : decode cX12_keep 16 = .ok (.aload_n 0, 1) := by decide +kernel
theorem dX12_keep_17 : decode cX12_keep 17 = .ok (.getfield 8, 3) := by decide +kernel
theorem dX12_keep_20 : decode cX12_keep 20 = .ok (.iconst 2, 1) := by decide +kernel
theorem dX12_keep_21 : decode cX12_keep 21 = .ok (.iaload, 1) := by decide +kernel
theorem dX12_keep_22 : decode cX12_keep 22 = .ok (.iconst 1, 1) := by decide +kernel
theorem dX12_keep_23 : decode cX12_keep 23 = .ok (.iadd, 1) := by decide +kernel
theorem dX12_keep_24 : decode cX12_keep 24 = .ok (.bipush 20, 2) := by decide +kernel
theorem dX12_keep_26 : decode cX12_keep 26 = .ok (.irem, 1) := by decide +kernel
theorem dX12_keep_27 : decode cX12_keep 27 = .ok (.iastore, 1) := by decide +kernel
theorem dX12_keep_28 : decode cX12_keep 28 = .ok (.aload_n 0, 1) := by decide +kernel
theorem dX12_keep_29 : decode cX12_keep 29 = .ok (.getfield 8, 3) := by decide +kernel
theorem dX12_keep_32 : decode cX12_keep 32 = .ok (.iconst 1, 1) := by decide +kernel
theorem dX12_keep_33 : decode cX12_keep 33 = .ok (.dup2, 1) := by decide +kernel
theorem dX12_keep_34 : decode cX12_keep 34 = .ok (.iaload, 1) := by decide +kernel
theorem dX12_keep_35 : decode cX12_keep 35 = .ok (.iconst 1, 1) := by decide +kernel
theorem dX12_keep_36 : decode cX12_keep 36 = .ok (.isub, 1) := by decide +kernel
theorem dX12_keep_37 : decode cX12_keep 37 = .ok (.iastore, 1) := by decide +kernel
theorem dX12_keep_38 : decode cX12_keep 38 = .ok (.aload_n 0, 1) := by decide +kernel
theorem dX12_keep_39 : decode cX12_keep 39 = .ok (.getfield 8, 3) := by decide +kernel
theorem dX12_keep_42 : decode cX12_keep 42 = .ok (.iconst 2, 1) := by decide +kernel
theorem dX12_keep_43 : decode cX12_keep 43 = .ok (.iaload, 1) := by decide +kernel
theorem dX12_keep_44 : decode cX12_keep 44 = .ok (.aload_n 0, 1) := by decide +kernel
theorem dX12_keep_45 : decode cX12_keep 45 = .ok (.getfield 8, 3) := by decide +kernel
theorem dX12_keep_48 : decode cX12_keep 48 = .ok (.iconst 1, 1) := by decide +kernel
theorem dX12_keep_49 : decode cX12_keep 49 = .ok (.iaload, 1) := by decide +kernel
theorem dX12_keep_50 : decode cX12_keep 50 = .ok (.invokestatic 351, 3) := by decide +kernel
theorem dX12_keep_53 : decode cX12_keep 53 = .ok (.istore_n 1, 1) := by decide +kernel
theorem dX12_keep_54 : decode cX12_keep 54 = .ok (.iconst 0, 1) := by decide +kernel
theorem dX12_keep_55 : decode cX12_keep 55 = .ok (.istore_n 2, 1) := by decide +kernel
theorem dX12_keep_56 : decode cX12_keep 56 = .ok (.iload_n 2, 1) := by decide +kernel
theorem dX12_keep_57 : decode cX12_keep 57 = .ok (.sipush 5421, 3) := by decide +kernel
theorem dX12_keep_60 : decode cX12_keep 60 = .ok (.if_icmp .ge 33, 3) := by decide +kernel
theorem dX12_keep_63 : decode cX12_keep 63 = .ok (.aload_n 0, 1) := by decide +kernel
theorem dX12_keep_64 : decode cX12_keep 64 = .ok (.getfield 8, 3) := by decide +kernel
theorem dX12_keep_67 : decode cX12_keep 67 = .ok (.sipush 5424, 3) := by decide +kernel
theorem dX12_keep_70 : decode cX12_keep 70 = .ok (.sipush 5421, 3) := by decide +kernel
theorem dX12_keep_73 : decode cX12_keep 73 = .ok (.iload_n 1, 1) := by decide +kernel
theorem dX12_keep_74 : decode cX12_keep 74 = .ok (.imul, 1) := by decide +kernel
theorem dX12_keep_75 : decode cX12_keep 75 = .ok (.iadd, 1) := by decide +kernel
theorem dX12_keep_76 : decode cX12_keep 76 = .ok (.iload_n 2, 1) := by decide +kernel
theorem dX12_keep_77 : decode cX12_keep 77 = .ok (.iadd, 1) := by decide +kernel
theorem dX12_keep_78 : decode cX12_keep 78 = .ok (.aload_n 0, 1) := by decide +kernel
theorem dX12_keep_79 : decode cX12_keep 79 = .ok (.getfield 8, 3) := by decide +kernel
theorem dX12_keep_82 : decode cX12_keep 82 = .ok (.iconst 3, 1) := by decide +kernel
theorem dX12_keep_83 : decode cX12_keep 83 = .ok (.iload_n 2, 1) := by decide +kernel
theorem dX12_keep_84 : decode cX12_keep 84 = .ok (.iadd, 1) := by decide +kernel
theorem dX12_keep_85 : decode cX12_keep 85 = .ok (.iaload, 1) := by decide +kernel
theorem dX12_keep_86 : decode cX12_keep 86 = .ok (.iastore, 1) := by decide +kernel
theorem dX12_keep_87 : decode cX12_keep 87 = .ok (.iinc 2 1, 3) := by decide +kernel
theorem dX12_keep_90 : decode cX12_keep 90 = .ok (.goto (-34), 3) := by decide +kernel
theorem dX12_keep_93 : decode cX12_keep 93 = .ok (.iconst 0, 1) := by decide +kernel
theorem dX12_keep_94 : decode cX12_keep 94 = .ok (.istore_n 2, 1) := by decide +kernel
theorem dX12_keep_95 : decode cX12_keep 95 = .ok (.iload_n 2, 1) := by decide +kernel
theorem dX12_keep_96 : decode cX12_keep 96 = .ok (.bipush 7, 2) := by decide +kernel
theorem dX12_keep_98 : decode cX12_keep 98 = .ok (.if_icmp .ge 29, 3) := by decide +kernel
theorem dX12_keep_101 : decode cX12_keep 101 = .ok (.aload_n 0, 1) := by decide +kernel
theorem dX12_keep_102 : decode cX12_keep 102 = .ok (.getfield 17, 3) := by decide +kernel
theorem dX12_keep_105 : decode cX12_keep 105 = .ok (.bipush 7, 2) := by decide +kernel
theorem dX12_keep_107 : decode cX12_keep 107 = .ok (.bipush 7, 2) := by decide +kernel
theorem dX12_keep_109 : decode cX12_keep 109 = .ok (.iload_n 1, 1) := by decide +kernel
theorem dX12_keep_110 : decode cX12_keep 110 = .ok (.imul, 1) := by decide +kernel
theorem dX12_keep_111 : decode cX12_keep 111 = .ok (.iadd, 1) := by decide +kernel
theorem dX12_keep_112 : decode cX12_keep 112 = .ok (.iload_n 2, 1) := by decide +kernel
theorem dX12_keep_113 : decode cX12_keep 113 = .ok (.iadd, 1) := by decide +kernel
theorem dX12_keep_114 : decode cX12_keep 114 = .ok (.aload_n 0, 1) := by decide +kernel
theorem dX12_keep_115 : decode cX12_keep 115 = .ok (.getfield 17, 3) := by decide +kernel
theorem dX12_keep_118 : decode cX12_keep 118 = .ok (.iload_n 2, 1) := by decide +kernel
theorem dX12_keep_119 : decode cX12_keep 119 = .ok (.faload, 1) := by decide +kernel
theorem dX12_keep_120 : decode cX12_keep 120 = .ok (.fastore, 1) := by decide +kernel
theorem dX12_keep_121 : decode cX12_keep 121 = .ok (.iinc 2 1, 3) := by decide +kernel
theorem dX12_keep_124 : decode cX12_keep 124 = .ok (.goto (-29), 3) := by decide +kernel
theorem dX12_keep_127 : decode cX12_keep 127 = .ok (.aload_n 0, 1) := by decide +kernel
theorem dX12_keep_128 : decode cX12_keep 128 = .ok (.getfield 8, 3) := by decide +kernel
theorem dX12_keep_131 : decode cX12_keep 131 = .ok (.iconst 1, 1) := by decide +kernel
theorem dX12_keep_132 : decode cX12_keep 132 = .ok (.dup2, 1) := by decide +kernel
theorem dX12_keep_133 : decode cX12_keep 133 = .ok (.iaload, 1) := by decide +kernel
theorem dX12_keep_134 : decode cX12_keep 134 = .ok (.iconst 1, 1) := by decide +kernel
theorem dX12_keep_135 : decode cX12_keep 135 = .ok (.iadd, 1) := by decide +kernel
theorem dX12_keep_136 : decode cX12_keep 136 = .ok (.iastore, 1) := by decide +kernel
theorem dX12_keep_137 : decode cX12_keep 137 = .ok (.return_, 1) := by decide +kernel
theorem dX12_undo_0 : decode cX12_undo 0 = .ok (.aload_n 0, 1) := by decide +kernel
theorem dX12_undo_1 : decode cX12_undo 1 = .ok (.getfield 8, 3) := by decide +kernel
theorem dX12_undo_4 : decode cX12_undo 4 = .ok (.iconst 1, 1) := by decide +kernel
theorem dX12_undo_5 : decode cX12_undo 5 = .ok (.iaload, 1) := by decide +kernel
theorem dX12_undo_6 : decode cX12_undo 6 = .ok (.ifCond .ne 5, 3) := by decide +kernel
theorem dX12_undo_9 : decode cX12_undo 9 = .ok (.iconst (-1), 1) := by decide +kernel
theorem dX12_undo_10 : decode cX12_undo 10 = .ok (.ireturn, 1) := by decide +kernel
theorem dX12_undo_11 : decode cX12_undo 11 = .ok (.aload_n 0, 1) := by decide +kernel
theorem dX12_undo_12 : decode cX12_undo 12 = .ok (.getfield 8, 3) := by decide +kernel
theorem dX12_undo_15 : decode cX12_undo 15 = .ok (.iconst 1, 1) := by decide +kernel
theorem dX12_undo_16 : decode cX12_undo 16 = .ok (.dup2, 1) := by decide +kernel
theorem dX12_undo_17 : decode cX12_undo 17 = .ok (.iaload, 1) := by decide +kernel
theorem dX12_undo_18 : decode cX12_undo 18 = .ok (.iconst 1, 1) := by decide +kernel
theorem dX12_undo_19 : decode cX12_undo 19 = .ok (.isub, 1) := by decide +kernel
theorem dX12_undo_20 : decode cX12_undo 20 = .ok (.iastore, 1) := by decide +kernel
theorem dX12_undo_21 : decode cX12_undo 21 = .ok (.aload_n 0, 1) := by decide +kernel
theorem dX12_undo_22 : decode cX12_undo 22 = .ok (.getfield 8, 3) := by decide +kernel
theorem dX12_undo_25 : decode cX12_undo 25 = .ok (.iconst 2, 1) := by decide +kernel
theorem dX12_undo_26 : decode cX12_undo 26 = .ok (.iaload, 1) := by decide +kernel
theorem dX12_undo_27 : decode cX12_undo 27 = .ok (.aload_n 0, 1) := by decide +kernel
theorem dX12_undo_28 : decode cX12_undo 28 = .ok (.getfield 8, 3) := by decide +kernel
theorem dX12_undo_31 : decode cX12_undo 31 = .ok (.iconst 1, 1) := by decide +kernel
theorem dX12_undo_32 : decode cX12_undo 32 = .ok (.iaload, 1) := by decide +kernel
theorem dX12_undo_33 : decode cX12_undo 33 = .ok (.invokestatic 351, 3) := by decide +kernel
theorem dX12_undo_36 : decode cX12_undo 36 = .ok (.istore_n 1, 1) := by decide +kernel
theorem dX12_undo_37 : decode cX12_undo 37 = .ok (.iconst 0, 1) := by decide +kernel
theorem dX12_undo_38 : decode cX12_undo 38 = .ok (.istore_n 2, 1) := by decide +kernel
theorem dX12_undo_39 : decode cX12_undo 39 = .ok (.iload_n 2, 1) := by decide +kernel
theorem dX12_undo_40 : decode cX12_undo 40 = .ok (.sipush 5421, 3) := by decide +kernel
theorem dX12_undo_43 : decode cX12_undo 43 = .ok (.if_icmp .ge 33, 3) := by decide +kernel
theorem dX12_undo_46 : decode cX12_undo 46 = .ok (.aload_n 0, 1) := by decide +kernel
theorem dX12_undo_47 : decode cX12_undo 47 = .ok (.getfield 8, 3) := by decide +kernel
theorem dX12_undo_50 : decode cX12_undo 50 = .ok (.iconst 3, 1) := by decide +kernel
theorem dX12_undo_51 : decode cX12_undo 51 = .ok (.iload_n 2, 1) := by decide +kernel
theorem dX12_undo_52 : decode cX12_undo 52 = .ok (.iadd, 1) := by decide +kernel
theorem dX12_undo_53 : decode cX12_undo 53 = .ok (.aload_n 0, 1) := by decide +kernel
theorem dX12_undo_54 : decode cX12_undo 54 = .ok (.getfield 8, 3) := by decide +kernel
theorem dX12_undo_57 : decode cX12_undo 57 = .ok (.sipush 5424, 3) := by decide +kernel
theorem dX12_undo_60 : decode cX12_undo 60 = .ok (.sipush 5421, 3) := by decide +kernel
theorem dX12_undo_63 : decode cX12_undo 63 = .ok (.iload_n 1, 1) := by decide +kernel
theorem dX12_undo_64 : decode cX12_undo 64 = .ok (.imul, 1) := by decide +kernel
theorem dX12_undo_65 : decode cX12_undo 65 = .ok (.iadd, 1) := by decide +kernel
theorem dX12_undo_66 : decode cX12_undo 66 = .ok (.iload_n 2, 1) := by decide +kernel
theorem dX12_undo_67 : decode cX12_undo 67 = .ok (.iadd, 1) := by decide +kernel
theorem dX12_undo_68 : decode cX12_undo 68 = .ok (.iaload, 1) := by decide +kernel
theorem dX12_undo_69 : decode cX12_undo 69 = .ok (.iastore, 1) := by decide +kernel
theorem dX12_undo_70 : decode cX12_undo 70 = .ok (.iinc 2 1, 3) := by decide +kernel
theorem dX12_undo_73 : decode cX12_undo 73 = .ok (.goto (-34), 3) := by decide +kernel
theorem dX12_undo_76 : decode cX12_undo 76 = .ok (.iconst 0, 1) := by decide +kernel
theorem dX12_undo_77 : decode cX12_undo 77 = .ok (.istore_n 2, 1) := by decide +kernel
theorem dX12_undo_78 : decode cX12_undo 78 = .ok (.iload_n 2, 1) := by decide +kernel
theorem dX12_undo_79 : decode cX12_undo 79 = .ok (.bipush 7, 2) := by decide +kernel
theorem dX12_undo_81 : decode cX12_undo 81 = .ok (.if_icmp .ge 29, 3) := by decide +kernel
theorem dX12_undo_84 : decode cX12_undo 84 = .ok (.aload_n 0, 1) := by decide +kernel
theorem dX12_undo_85 : decode cX12_undo 85 = .ok (.getfield 17, 3) := by decide +kernel
theorem dX12_undo_88 : decode cX12_undo 88 = .ok (.iload_n 2, 1) := by decide +kernel
theorem dX12_undo_89 : decode cX12_undo 89 = .ok (.aload_n 0, 1) := by decide +kernel
theorem dX12_undo_90 : decode cX12_undo 90 = .ok (.getfield 17, 3) := by decide +kernel
theorem dX12_undo_93 : decode cX12_undo 93 = .ok (.bipush 7, 2) := by decide +kernel
theorem dX12_undo_95 : decode cX12_undo 95 = .ok (.bipush 7, 2) := by decide +kernel
theorem dX12_undo_97 : decode cX12_undo 97 = .ok (.iload_n 1, 1) := by decide +kernel
theorem dX12_undo_98 : decode cX12_undo 98 = .ok (.imul, 1) := by decide +kernel
theorem dX12_undo_99 : decode cX12_undo 99 = .ok (.iadd, 1) := by decide +kernel
theorem dX12_undo_100 : decode cX12_undo 100 = .ok (.iload_n 2, 1) := by decide +kernel
theorem dX12_undo_101 : decode cX12_undo 101 = .ok (.iadd, 1) := by decide +kernel
theorem dX12_undo_102 : decode cX12_undo 102 = .ok (.faload, 1) := by decide +kernel
theorem dX12_undo_103 : decode cX12_undo 103 = .ok (.fastore, 1) := by decide +kernel
theorem dX12_undo_104 : decode cX12_undo 104 = .ok (.iinc 2 1, 3) := by decide +kernel
theorem dX12_undo_107 : decode cX12_undo 107 = .ok (.goto (-29), 3) := by decide +kernel
theorem dX12_undo_110 : decode cX12_undo 110 = .ok (.aload_n 0, 1) := by decide +kernel
theorem dX12_undo_111 : decode cX12_undo 111 = .ok (.getfield 8, 3) := by decide +kernel
theorem dX12_undo_114 : decode cX12_undo 114 = .ok (.iconst 1, 1) := by decide +kernel
theorem dX12_undo_115 : decode cX12_undo 115 = .ok (.iaload, 1) := by decide +kernel
theorem dX12_undo_116 : decode cX12_undo 116 = .ok (.ireturn, 1) := by decide +kernel
theorem dX12_step_0 : decode cX12_step 0 = .ok (.iload_n 1, 1) := by decide +kernel
theorem dX12_step_1 : decode cX12_step 1 = .ok (.iconst 1, 1) := by decide +kernel
theorem dX12_step_2 : decode cX12_step 2 = .ok (.sipush 500, 3) := by decide +kernel
theorem dX12_step_5 : decode cX12_step 5 = .ok (.invokestatic 105, 3) := by decide +kernel
theorem dX12_step_8 : decode cX12_step 8 = .ok (.ifCond .eq 10, 3) := by decide +kernel
theorem dX12_step_11 : decode cX12_step 11 = .ok (.aload_n 0, 1) := by decide +kernel
theorem dX12_step_12 : decode cX12_step 12 = .ok (.invokevirtual 345, 3) := by decide +kernel
theorem dX12_step_15 : decode cX12_step 15 = .ok (.ifCond .eq 5, 3) := by decide +kernel
theorem dX12_step_18 : decode cX12_step 18 = .ok (.iconst (-1), 1) := by decide +kernel
theorem dX12_step_19 : decode cX12_step 19 = .ok (.ireturn, 1) := by decide +kernel
theorem dX12_step_20 : decode cX12_step 20 = .ok (.aload_n 0, 1) := by decide +kernel
theorem dX12_step_21 : decode cX12_step 21 = .ok (.invokevirtual 234, 3) := by decide +kernel
theorem dX12_step_24 : decode cX12_step 24 = .ok (.aload_n 0, 1) := by decide +kernel
theorem dX12_step_25 : decode cX12_step 25 = .ok (.iload_n 1, 1) := by decide +kernel
theorem dX12_step_26 : decode cX12_step 26 = .ok (.invokevirtual 354, 3) := by decide +kernel
theorem dX12_step_29 : decode cX12_step 29 = .ok (.ireturn, 1) := by decide +kernel
theorem dX12_bar_0 : decode cX12_bar 0 = .ok (.aload_n 0, 1) := by decide +kernel
theorem dX12_bar_1 : decode cX12_bar 1 = .ok (.getfield 8, 3) := by decide +kernel
theorem dX12_bar_4 : decode cX12_bar 4 = .ok (.iconst 5, 1) := by decide +kernel
theorem dX12_bar_5 : decode cX12_bar 5 = .ok (.iaload, 1) := by decide +kernel
theorem dX12_bar_6 : decode cX12_bar 6 = .ok (.iconst 1, 1) := by decide +kernel
theorem dX12_bar_7 : decode cX12_bar 7 = .ok (.if_icmp .gt 26, 3) := by decide +kernel
theorem dX12_bar_10 : decode cX12_bar 10 = .ok (.aload_n 0, 1) := by decide +kernel
theorem dX12_bar_11 : decode cX12_bar 11 = .ok (.iload_n 1, 1) := by decide +kernel
theorem dX12_bar_12 : decode cX12_bar 12 = .ok (.iload_n 2, 1) := by decide +kernel
theorem dX12_bar_13 : decode cX12_bar 13 = .ok (.invokevirtual 357, 3) := by decide +kernel
theorem dX12_bar_16 : decode cX12_bar 16 = .ok (.ifCond .eq 17, 3) := by decide +kernel
theorem dX12_bar_19 : decode cX12_bar 19 = .ok (.iload_n 3, 1) := by decide +kernel
theorem dX12_bar_20 : decode cX12_bar 20 = .ok (.iconst 1, 1) := by decide +kernel
theorem dX12_bar_21 : decode cX12_bar 21 = .ok (.aload_n 0, 1) := by decide +kernel
theorem dX12_bar_22 : decode cX12_bar 22 = .ok (.getfield 8, 3) := by decide +kernel
theorem dX12_bar_25 : decode cX12_bar 25 = .ok (.iconst 4, 1) := by decide +kernel
theorem dX12_bar_26 : decode cX12_bar 26 = .ok (.iaload, 1) := by decide +kernel
theorem dX12_bar_27 : decode cX12_bar 27 = .ok (.invokestatic 105, 3) := by decide +kernel
theorem dX12_bar_30 : decode cX12_bar 30 = .ok (.ifCond .ne 5, 3) := by decide +kernel
theorem dX12_bar_33 : decode cX12_bar 33 = .ok (.iconst (-1), 1) := by decide +kernel
theorem dX12_bar_34 : decode cX12_bar 34 = .ok (.ireturn, 1) := by decide +kernel
theorem dX12_bar_35 : decode cX12_bar 35 = .ok (.aload_n 0, 1) := by decide +kernel
theorem dX12_bar_36 : decode cX12_bar 36 = .ok (.iload_n 1, 1) := by decide +kernel
theorem dX12_bar_37 : decode cX12_bar 37 = .ok (.iload_n 2, 1) := by decide +kernel
theorem dX12_bar_38 : decode cX12_bar 38 = .ok (.invokevirtual 252, 3) := by decide +kernel
theorem dX12_bar_41 : decode cX12_bar 41 = .ok (.aload_n 0, 1) := by decide +kernel
theorem dX12_bar_42 : decode cX12_bar 42 = .ok (.invokevirtual 255, 3) := by decide +kernel
theorem dX12_bar_45 : decode cX12_bar 45 = .ok (.land, 1) := by decide +kernel
theorem dX12_bar_46 : decode cX12_bar 46 = .ok (.lconst 0, 1) := by decide +kernel
theorem dX12_bar_47 : decode cX12_bar 47 = .ok (.lcmp, 1) := by decide +kernel
theorem dX12_bar_48 : decode cX12_bar 48 = .ok (.ifCond .ne 15, 3) := by decide +kernel
theorem dX12_bar_51 : decode cX12_bar 51 = .ok (.aload_n 0, 1) := by decide +kernel
theorem dX12_bar_52 : decode cX12_bar 52 = .ok (.iload_n 1, 1) := by decide +kernel
theorem dX12_bar_53 : decode cX12_bar 53 = .ok (.iload_n 2, 1) := by decide +kernel
theorem dX12_bar_54 : decode cX12_bar 54 = .ok (.iload_n 3, 1) := by decide +kernel
theorem dX12_bar_55 : decode cX12_bar 55 = .ok (.iconst 1, 1) := by decide +kernel
theorem dX12_bar_56 : decode cX12_bar 56 = .ok (.isub, 1) := by decide +kernel
theorem dX12_bar_57 : decode cX12_bar 57 = .ok (.invokevirtual 271, 3) := by decide +kernel
theorem dX12_bar_60 : decode cX12_bar 60 = .ok (.ifCond .ne 5, 3) := by decide +kernel
theorem dX12_bar_63 : decode cX12_bar 63 = .ok (.iconst (-1), 1) := by decide +kernel
theorem dX12_bar_64 : decode cX12_bar 64 = .ok (.ireturn, 1) := by decide +kernel
theorem dX12_bar_65 : decode cX12_bar 65 = .ok (.aload_n 0, 1) := by decide +kernel
theorem dX12_bar_66 : decode cX12_bar 66 = .ok (.invokevirtual 234, 3) := by decide +kernel
theorem dX12_bar_69 : decode cX12_bar 69 = .ok (.aload_n 0, 1) := by decide +kernel
theorem dX12_bar_70 : decode cX12_bar 70 = .ok (.iload_n 1, 1) := by decide +kernel
theorem dX12_bar_71 : decode cX12_bar 71 = .ok (.iload_n 2, 1) := by decide +kernel
theorem dX12_bar_72 : decode cX12_bar 72 = .ok (.iload_n 3, 1) := by decide +kernel
theorem dX12_bar_73 : decode cX12_bar 73 = .ok (.invokevirtual 314, 3) := by decide +kernel
theorem dX12_bar_76 : decode cX12_bar 76 = .ok (.aload_n 0, 1) := by decide +kernel
theorem dX12_bar_77 : decode cX12_bar 77 = .ok (.iload_n 3, 1) := by decide +kernel
theorem dX12_bar_78 : decode cX12_bar 78 = .ok (.invokevirtual 333, 3) := by decide +kernel
theorem dX12_bar_81 : decode cX12_bar 81 = .ok (.ireturn, 1) := by decide +kernel
theorem dX12_is_0 : decode cX12_is 0 = .ok (.iload_n 1, 1) := by decide +kernel
theorem dX12_is_1 : decode cX12_is 1 = .ok (.tableswitch 170 0 11 #[63, 70, 77, 84, 106, 114, 122, 130, 138, 146, 154, 162], 63) := by decide +kernel
theorem dX12_is_64 : decode cX12_is 64 = .ok (.aload_n 0, 1) := by decide +kernel
theorem dX12_is_65 : decode cX12_is 65 = .ok (.getfield 8, 3) := by decide +kernel
theorem dX12_is_68 : decode cX12_is 68 = .ok (.iconst 3, 1) := by decide +kernel
theorem dX12_is_69 : decode cX12_is 69 = .ok (.iaload, 1) := by decide +kernel
theorem dX12_is_70 : decode cX12_is 70 = .ok (.ireturn, 1) := by decide +kernel
theorem dX12_is_71 : decode cX12_is 71 = .ok (.aload_n 0, 1) := by decide +kernel
theorem dX12_is_72 : decode cX12_is 72 = .ok (.getfield 8, 3) := by decide +kernel
theorem dX12_is_75 : decode cX12_is 75 = .ok (.iconst 4, 1) := by decide +kernel
theorem dX12_is_76 : decode cX12_is 76 = .ok (.iaload, 1) := by decide +kernel
theorem dX12_is_77 : decode cX12_is 77 = .ok (.ireturn, 1) := by decide +kernel
theorem dX12_is_78 : decode cX12_is 78 = .ok (.aload_n 0, 1) := by decide +kernel
theorem dX12_is_79 : decode cX12_is 79 = .ok (.getfield 8, 3) := by decide +kernel
theorem dX12_is_82 : decode cX12_is 82 = .ok (.iconst 5, 1) := by decide +kernel
theorem dX12_is_83 : decode cX12_is 83 = .ok (.iaload, 1) := by decide +kernel
theorem dX12_is_84 : decode cX12_is 84 = .ok (.ireturn, 1) := by decide +kernel
theorem dX12_is_85 : decode cX12_is 85 = .ok (.aload_n 0, 1) := by decide +kernel
theorem dX12_is_86 : decode cX12_is 86 = .ok (.getfield 8, 3) := by decide +kernel
theorem dX12_is_89 : decode cX12_is 89 = .ok (.iconst 5, 1) := by decide +kernel
theorem dX12_is_90 : decode cX12_is 90 = .ok (.iaload, 1) := by decide +kernel
theorem dX12_is_91 : decode cX12_is 91 = .ok (.iconst 2, 1) := by decide +kernel
theorem dX12_is_92 : decode cX12_is 92 = .ok (.if_icmp .ne 13, 3) := by decide +kernel
theorem dX12_is_95 : decode cX12_is 95 = .ok (.aload_n 0, 1) := by decide +kernel
theorem dX12_is_96 : decode cX12_is 96 = .ok (.getfield 8, 3) := by decide +kernel
theorem dX12_is_99 : decode cX12_is 99 = .ok (.bipush 6, 2) := by decide +kernel
theorem dX12_is_101 : decode cX12_is 101 = .ok (.iaload, 1) := by decide +kernel
theorem dX12_is_102 : decode cX12_is 102 = .ok (.goto 4, 3) := by decide +kernel
theorem dX12_is_105 : decode cX12_is 105 = .ok (.iconst (-1), 1) := by decide +kernel
theorem dX12_is_106 : decode cX12_is 106 = .ok (.ireturn, 1) := by decide +kernel
theorem dX12_is_107 : decode cX12_is 107 = .ok (.aload_n 0, 1) := by decide +kernel
theorem dX12_is_108 : decode cX12_is 108 = .ok (.getfield 8, 3) := by decide +kernel
theorem dX12_is_111 : decode cX12_is 111 = .ok (.bipush 7, 2) := by decide +kernel
theorem dX12_is_113 : decode cX12_is 113 = .ok (.iaload, 1) := by decide +kernel
theorem dX12_is_114 : decode cX12_is 114 = .ok (.ireturn, 1) := by decide +kernel
theorem dX12_is_115 : decode cX12_is 115 = .ok (.aload_n 0, 1) := by decide +kernel
theorem dX12_is_116 : decode cX12_is 116 = .ok (.getfield 8, 3) := by decide +kernel
theorem dX12_is_119 : decode cX12_is 119 = .ok (.bipush 8, 2) := by decide +kernel
theorem dX12_is_121 : decode cX12_is 121 = .ok (.iaload, 1) := by decide +kernel
theorem dX12_is_122 : decode cX12_is 122 = .ok (.ireturn, 1) := by decide +kernel
theorem dX12_is_123 : decode cX12_is 123 = .ok (.aload_n 0, 1) := by decide +kernel
theorem dX12_is_124 : decode cX12_is 124 = .ok (.getfield 8, 3) := by decide +kernel
theorem dX12_is_127 : decode cX12_is 127 = .ok (.bipush 9, 2) := by decide +kernel
theorem dX12_is_129 : decode cX12_is 129 = .ok (.iaload, 1) := by decide +kernel
theorem dX12_is_130 : decode cX12_is 130 = .ok (.ireturn, 1) := by decide +kernel
theorem dX12_is_131 : decode cX12_is 131 = .ok (.aload_n 0, 1) := by decide +kernel
theorem dX12_is_132 : decode cX12_is 132 = .ok (.getfield 8, 3) := by decide +kernel
theorem dX12_is_135 : decode cX12_is 135 = .ok (.bipush 10, 2) := by decide +kernel
theorem dX12_is_137 : decode cX12_is 137 = .ok (.iaload, 1) := by decide +kernel
theorem dX12_is_138 : decode cX12_is 138 = .ok (.ireturn, 1) := by decide +kernel
theorem dX12_is_139 : decode cX12_is 139 = .ok (.aload_n 0, 1) := by decide +kernel
theorem dX12_is_140 : decode cX12_is 140 = .ok (.getfield 8, 3) := by decide +kernel
theorem dX12_is_143 : decode cX12_is 143 = .ok (.bipush 11, 2) := by decide +kernel
theorem dX12_is_145 : decode cX12_is 145 = .ok (.iaload, 1) := by decide +kernel
theorem dX12_is_146 : decode cX12_is 146 = .ok (.ireturn, 1) := by decide +kernel
theorem dX12_is_147 : decode cX12_is 147 = .ok (.aload_n 0, 1) := by decide +kernel
theorem dX12_is_148 : decode cX12_is 148 = .ok (.getfield 8, 3) := by decide +kernel
theorem dX12_is_151 : decode cX12_is 151 = .ok (.bipush 12, 2) := by decide +kernel
theorem dX12_is_153 : decode cX12_is 153 = .ok (.iaload, 1) := by decide +kernel
theorem dX12_is_154 : decode cX12_is 154 = .ok (.ireturn, 1) := by decide +kernel
theorem dX12_is_155 : decode cX12_is 155 = .ok (.aload_n 0, 1) := by decide +kernel
theorem dX12_is_156 : decode cX12_is 156 = .ok (.getfield 8, 3) := by decide +kernel
theorem dX12_is_159 : decode cX12_is 159 = .ok (.bipush 13, 2) := by decide +kernel
theorem dX12_is_161 : decode cX12_is 161 = .ok (.iaload, 1) := by decide +kernel
theorem dX12_is_162 : decode cX12_is 162 = .ok (.ireturn, 1) := by decide +kernel
theorem dX12_is_163 : decode cX12_is 163 = .ok (.aload_n 0, 1) := by decide +kernel
theorem dX12_is_164 : decode cX12_is 164 = .ok (.getfield 8, 3) := by decide +kernel
theorem dX12_is_167 : decode cX12_is 167 = .ok (.bipush 14, 2) := by decide +kernel
theorem dX12_is_169 : decode cX12_is 169 = .ok (.iaload, 1) := by decide +kernel
theorem dX12_is_170 : decode cX12_is 170 = .ok (.ireturn, 1) := by decide +kernel
theorem dX12_is_171 : decode cX12_is 171 = .ok (.iconst (-1), 1) := by decide +kernel
theorem dX12_is_172 : decode cX12_is 172 = .ok (.ireturn, 1) := by decide +kernel
theorem dX12_successor_0 : decode cX12_successor 0 = .ok (.aload_n 0, 1) := by decide +kernel
theorem dX12_successor_1 : decode cX12_successor 1 = .ok (.iload_n 1, 1) := by decide +kernel
theorem dX12_successor_2 : decode cX12_successor 2 = .ok (.invokevirtual 360, 3) := by decide +kernel
theorem dX12_successor_5 : decode cX12_successor 5 = .ok (.ifCond .eq 21, 3) := by decide +kernel
theorem dX12_successor_8 : decode cX12_successor 8 = .ok (.iload_n 2, 1) := by decide +kernel
theorem dX12_successor_9 : decode cX12_successor 9 = .ok (.iconst 0, 1) := by decide +kernel
theorem dX12_successor_10 : decode cX12_successor 10 = .ok (.iconst 3, 1) := by decide +kernel
theorem dX12_successor_11 : decode cX12_successor 11 = .ok (.invokestatic 105, 3) := by decide +kernel
theorem dX12_successor_14 : decode cX12_successor 14 = .ok (.ifCond .eq 12, 3) := by decide +kernel
theorem dX12_successor_17 : decode cX12_successor 17 = .ok (.aload_n 0, 1) := by decide +kernel
theorem dX12_successor_18 : decode cX12_successor 18 = .ok (.iload_n 1, 1) := by decide +kernel
theorem dX12_successor_19 : decode cX12_successor 19 = .ok (.iload_n 2, 1) := by decide +kernel
theorem dX12_successor_20 : decode cX12_successor 20 = .ok (.invokevirtual 109, 3) := by decide +kernel
theorem dX12_successor_23 : decode cX12_successor 23 = .ok (.goto 4, 3) := by decide +kernel
theorem dX12_successor_26 : decode cX12_successor 26 = .ok (.iconst (-1), 1) := by decide +kernel
theorem dX12_successor_27 : decode cX12_successor 27 = .ok (.ireturn, 1) := by decide +kernel
theorem dX12_leads_0 : decode cX12_leads 0 = .ok (.aload_n 0, 1) := by decide +kernel
theorem dX12_leads_1 : decode cX12_leads 1 = .ok (.iload_n 1, 1) := by decide +kernel
theorem dX12_leads_2 : decode cX12_leads 2 = .ok (.invokevirtual 360, 3) := by decide +kernel
theorem dX12_leads_5 : decode cX12_leads 5 = .ok (.ifCond .eq 8, 3) := by decide +kernel
theorem dX12_leads_8 : decode cX12_leads 8 = .ok (.iload_n 2, 1) := by decide +kernel
theorem dX12_leads_9 : decode cX12_leads 9 = .ok (.iconst (-1), 1) := by decide +kernel
theorem dX12_leads_10 : decode cX12_leads 10 = .ok (.if_icmp .ge 5, 3) := by decide +kernel
theorem dX12_leads_13 : decode cX12_leads 13 = .ok (.iconst (-1), 1) := by decide +kernel
theorem dX12_leads_14 : decode cX12_leads 14 = .ok (.ireturn, 1) := by decide +kernel
theorem dX12_leads_15 : decode cX12_leads 15 = .ok (.iconst 0, 1) := by decide +kernel
theorem dX12_leads_16 : decode cX12_leads 16 = .ok (.istore_n 3, 1) := by decide +kernel
theorem dX12_leads_17 : decode cX12_leads 17 = .ok (.iconst 0, 1) := by decide +kernel
theorem dX12_leads_18 : decode cX12_leads 18 = .ok (.istore 4, 2) := by decide +kernel
theorem dX12_leads_20 : decode cX12_leads 20 = .ok (.iload 4, 2) := by decide +kernel
theorem dX12_leads_22 : decode cX12_leads 22 = .ok (.aload_n 0, 1) := by decide +kernel
theorem dX12_leads_23 : decode cX12_leads 23 = .ok (.invokevirtual 101, 3) := by decide +kernel
theorem dX12_leads_26 : decode cX12_leads 26 = .ok (.if_icmp .ge 36, 3) := by decide +kernel
theorem dX12_leads_29 : decode cX12_leads 29 = .ok (.aload_n 0, 1) := by decide +kernel
theorem dX12_leads_30 : decode cX12_leads 30 = .ok (.iload 4, 2) := by decide +kernel
theorem dX12_leads_32 : decode cX12_leads 32 = .ok (.invokevirtual 261, 3) := by decide +kernel
theorem dX12_leads_35 : decode cX12_leads 35 = .ok (.iload_n 1, 1) := by decide +kernel
theorem dX12_leads_36 : decode cX12_leads 36 = .ok (.invokestatic 86, 3) := by decide +kernel
theorem dX12_leads_39 : decode cX12_leads 39 = .ok (.ifCond .ne 6, 3) := by decide +kernel
theorem dX12_leads_42 : decode cX12_leads 42 = .ok (.goto 14, 3) := by decide +kernel
theorem dX12_leads_45 : decode cX12_leads 45 = .ok (.iload_n 3, 1) := by decide +kernel
theorem dX12_leads_46 : decode cX12_leads 46 = .ok (.iload_n 2, 1) := by decide +kernel
theorem dX12_leads_47 : decode cX12_leads 47 = .ok (.if_icmp .ne 6, 3) := by decide +kernel
theorem dX12_leads_50 : decode cX12_leads 50 = .ok (.iload 4, 2) := by decide +kernel
theorem dX12_leads_52 : decode cX12_leads 52 = .ok (.ireturn, 1) := by decide +kernel
theorem dX12_leads_53 : decode cX12_leads 53 = .ok (.iinc 3 1, 3) := by decide +kernel
theorem dX12_leads_56 : decode cX12_leads 56 = .ok (.iinc 4 1, 3) := by decide +kernel
theorem dX12_leads_59 : decode cX12_leads 59 = .ok (.goto (-39), 3) := by decide +kernel
theorem dX12_leads_62 : decode cX12_leads 62 = .ok (.iload_n 2, 1) := by decide +kernel
theorem dX12_leads_63 : decode cX12_leads 63 = .ok (.iconst (-1), 1) := by decide +kernel
theorem dX12_leads_64 : decode cX12_leads 64 = .ok (.if_icmp .ne 7, 3) := by decide +kernel
theorem dX12_leads_67 : decode cX12_leads 67 = .ok (.iload_n 3, 1) := by decide +kernel
theorem dX12_leads_68 : decode cX12_leads 68 = .ok (.goto 4, 3) := by decide +kernel
theorem dX12_leads_71 : decode cX12_leads 71 = .ok (.iconst (-1), 1) := by decide +kernel
theorem dX12_leads_72 : decode cX12_leads 72 = .ok (.ireturn, 1) := by decide +kernel
theorem dX12_of_0 : decode cX12_of 0 = .ok (.aload_n 0, 1) := by decide +kernel
theorem dX12_of_1 : decode cX12_of 1 = .ok (.iload_n 1, 1) := by decide +kernel
theorem dX12_of_2 : decode cX12_of 2 = .ok (.invokevirtual 360, 3) := by decide +kernel
theorem dX12_of_5 : decode cX12_of 5 = .ok (.ifCond .eq 38, 3) := by decide +kernel
theorem dX12_of_8 : decode cX12_of 8 = .ok (.iload_n 2, 1) := by decide +kernel
theorem dX12_of_9 : decode cX12_of 9 = .ok (.iconst (-1), 1) := by decide +kernel
theorem dX12_of_10 : decode cX12_of 10 = .ok (.aload_n 0, 1) := by decide +kernel
theorem dX12_of_11 : decode cX12_of 11 = .ok (.getfield 8, 3) := by decide +kernel
theorem dX12_of_14 : decode cX12_of 14 = .ok (.bipush 7, 2) := by decide +kernel
theorem dX12_of_16 : decode cX12_of 16 = .ok (.iaload, 1) := by decide +kernel
theorem dX12_of_17 : decode cX12_of 17 = .ok (.iconst 1, 1) := by decide +kernel
theorem dX12_of_18 : decode cX12_of 18 = .ok (.isub, 1) := by decide +kernel
theorem dX12_of_19 : decode cX12_of 19 = .ok (.invokestatic 105, 3) := by decide +kernel
theorem dX12_of_22 : decode cX12_of 22 = .ok (.ifCond .eq 21, 3) := by decide +kernel
theorem dX12_of_25 : decode cX12_of 25 = .ok (.aload_n 0, 1) := by decide +kernel
theorem dX12_of_26 : decode cX12_of 26 = .ok (.iconst 1, 1) := by decide +kernel
theorem dX12_of_27 : decode cX12_of 27 = .ok (.iload_n 2, 1) := by decide +kernel
theorem dX12_of_28 : decode cX12_of 28 = .ok (.iadd, 1) := by decide +kernel
theorem dX12_of_29 : decode cX12_of 29 = .ok (.invokevirtual 98, 3) := by decide +kernel
theorem dX12_of_32 : decode cX12_of 32 = .ok (.iload_n 1, 1) := by decide +kernel
theorem dX12_of_33 : decode cX12_of 33 = .ok (.invokestatic 86, 3) := by decide +kernel
theorem dX12_of_36 : decode cX12_of 36 = .ok (.ifCond .eq 7, 3) := by decide +kernel
theorem dX12_of_39 : decode cX12_of 39 = .ok (.iconst 1, 1) := by decide +kernel
theorem dX12_of_40 : decode cX12_of 40 = .ok (.goto 4, 3) := by decide +kernel
theorem dX12_of_43 : decode cX12_of 43 = .ok (.iconst 0, 1) := by decide +kernel
theorem dX12_of_44 : decode cX12_of 44 = .ok (.ireturn, 1) := by decide +kernel
theorem dX12_isFrame_0 : decode cX12_isFrame 0 = .ok (.iload_n 1, 1) := by decide +kernel
theorem dX12_isFrame_1 : decode cX12_isFrame 1 = .ok (.iconst 0, 1) := by decide +kernel
theorem dX12_isFrame_2 : decode cX12_isFrame 2 = .ok (.aload_n 0, 1) := by decide +kernel
theorem dX12_isFrame_3 : decode cX12_isFrame 3 = .ok (.getfield 8, 3) := by decide +kernel
theorem dX12_isFrame_6 : decode cX12_isFrame 6 = .ok (.iconst 4, 1) := by decide +kernel
theorem dX12_isFrame_7 : decode cX12_isFrame 7 = .ok (.iaload, 1) := by decide +kernel
theorem dX12_isFrame_8 : decode cX12_isFrame 8 = .ok (.invokestatic 105, 3) := by decide +kernel
theorem dX12_isFrame_11 : decode cX12_isFrame 11 = .ok (.ireturn, 1) := by decide +kernel
theorem dX12_within_0 : decode cX12_within 0 = .ok (.aload_n 0, 1) := by decide +kernel
theorem dX12_within_1 : decode cX12_within 1 = .ok (.iload_n 1, 1) := by decide +kernel
theorem dX12_within_2 : decode cX12_within 2 = .ok (.invokevirtual 360, 3) := by decide +kernel
theorem dX12_within_5 : decode cX12_within 5 = .ok (.ifCond .eq 27, 3) := by decide +kernel
theorem dX12_within_8 : decode cX12_within 8 = .ok (.aload_n 0, 1) := by decide +kernel
theorem dX12_within_9 : decode cX12_within 9 = .ok (.iload_n 2, 1) := by decide +kernel
theorem dX12_within_10 : decode cX12_within 10 = .ok (.invokevirtual 363, 3) := by decide +kernel
theorem dX12_within_13 : decode cX12_within 13 = .ok (.ifCond .eq 19, 3) := by decide +kernel
theorem dX12_within_16 : decode cX12_within 16 = .ok (.aload_n 0, 1) := by decide +kernel
theorem dX12_within_17 : decode cX12_within 17 = .ok (.iload_n 2, 1) := by decide +kernel
theorem dX12_within_18 : decode cX12_within 18 = .ok (.invokevirtual 264, 3) := by decide +kernel
theorem dX12_within_21 : decode cX12_within 21 = .ok (.iload_n 1, 1) := by decide +kernel
theorem dX12_within_22 : decode cX12_within 22 = .ok (.invokestatic 86, 3) := by decide +kernel
theorem dX12_within_25 : decode cX12_within 25 = .ok (.ifCond .eq 7, 3) := by decide +kernel
theorem dX12_within_28 : decode cX12_within 28 = .ok (.iconst 1, 1) := by decide +kernel
theorem dX12_within_29 : decode cX12_within 29 = .ok (.goto 4, 3) := by decide +kernel
theorem dX12_within_32 : decode cX12_within 32 = .ok (.iconst 0, 1) := by decide +kernel
theorem dX12_within_33 : decode cX12_within 33 = .ok (.ireturn, 1) := by decide +kernel
theorem dX12_wide_0 : decode cX12_wide 0 = .ok (.aload_n 0, 1) := by decide +kernel
theorem dX12_wide_1 : decode cX12_wide 1 = .ok (.iload_n 1, 1) := by decide +kernel
theorem dX12_wide_2 : decode cX12_wide 2 = .ok (.invokevirtual 363, 3) := by decide +kernel
theorem dX12_wide_5 : decode cX12_wide 5 = .ok (.ifCond .eq 14, 3) := by decide +kernel
theorem dX12_wide_8 : decode cX12_wide 8 = .ok (.aload_n 0, 1) := by decide +kernel
theorem dX12_wide_9 : decode cX12_wide 9 = .ok (.iload_n 1, 1) := by decide +kernel
theorem dX12_wide_10 : decode cX12_wide 10 = .ok (.invokevirtual 264, 3) := by decide +kernel
theorem dX12_wide_13 : decode cX12_wide 13 = .ok (.invokestatic 366, 3) := by decide +kernel
theorem dX12_wide_16 : decode cX12_wide 16 = .ok (.goto 4, 3) := by decide +kernel
theorem dX12_wide_19 : decode cX12_wide 19 = .ok (.iconst (-1), 1) := by decide +kernel
theorem dX12_wide_20 : decode cX12_wide 20 = .ok (.ireturn, 1) := by decide +kernel
theorem dX12_bad_0 : decode cX12_bad 0 = .ok (.aload_n 0, 1) := by decide +kernel
theorem dX12_bad_1 : decode cX12_bad 1 = .ok (.iload_n 1, 1) := by decide +kernel
theorem dX12_bad_2 : decode cX12_bad 2 = .ok (.invokevirtual 363, 3) := by decide +kernel
theorem dX12_bad_5 : decode cX12_bad 5 = .ok (.ifCond .eq 19, 3) := by decide +kernel
theorem dX12_bad_8 : decode cX12_bad 8 = .ok (.aload_n 0, 1) := by decide +kernel
theorem dX12_bad_9 : decode cX12_bad 9 = .ok (.iload_n 1, 1) := by decide +kernel
theorem dX12_bad_10 : decode cX12_bad 10 = .ok (.invokevirtual 264, 3) := by decide +kernel
theorem dX12_bad_13 : decode cX12_bad 13 = .ok (.aload_n 0, 1) := by decide +kernel
theorem dX12_bad_14 : decode cX12_bad 14 = .ok (.invokevirtual 300, 3) := by decide +kernel
theorem dX12_bad_17 : decode cX12_bad 17 = .ok (.land, 1) := by decide +kernel
theorem dX12_bad_18 : decode cX12_bad 18 = .ok (.invokestatic 366, 3) := by decide +kernel
theorem dX12_bad_21 : decode cX12_bad 21 = .ok (.goto 4, 3) := by decide +kernel
theorem dX12_bad_24 : decode cX12_bad 24 = .ok (.iconst (-1), 1) := by decide +kernel
theorem dX12_bad_25 : decode cX12_bad 25 = .ok (.ireturn, 1) := by decide +kernel
theorem dX12_sought_0 : decode cX12_sought 0 = .ok (.aload_n 0, 1) := by decide +kernel
theorem dX12_sought_1 : decode cX12_sought 1 = .ok (.invokevirtual 300, 3) := by decide +kernel
theorem dX12_sought_4 : decode cX12_sought 4 = .ok (.aload_n 0, 1) := by decide +kernel
theorem dX12_sought_5 : decode cX12_sought 5 = .ok (.aload_n 0, 1) := by decide +kernel
theorem dX12_sought_6 : decode cX12_sought 6 = .ok (.getfield 8, 3) := by decide +kernel
theorem dX12_sought_9 : decode cX12_sought 9 = .ok (.iconst 4, 1) := by decide +kernel
theorem dX12_sought_10 : decode cX12_sought 10 = .ok (.iaload, 1) := by decide +kernel
theorem dX12_sought_11 : decode cX12_sought 11 = .ok (.invokevirtual 264, 3) := by decide +kernel
theorem dX12_sought_14 : decode cX12_sought 14 = .ok (.land, 1) := by decide +kernel
theorem dX12_sought_15 : decode cX12_sought 15 = .ok (.lstore_n 2, 1) := by decide +kernel
theorem dX12_sought_16 : decode cX12_sought 16 = .ok (.lload_n 2, 1) := by decide +kernel
theorem dX12_sought_17 : decode cX12_sought 17 = .ok (.invokestatic 366, 3) := by decide +kernel
theorem dX12_sought_20 : decode cX12_sought 20 = .ok (.bipush 8, 2) := by decide +kernel
theorem dX12_sought_22 : decode cX12_sought 22 = .ok (.if_icmp .le 8, 3) := by decide +kernel
theorem dX12_sought_25 : decode cX12_sought 25 = .ok (.bipush 8, 2) := by decide +kernel
theorem dX12_sought_27 : decode cX12_sought 27 = .ok (.goto 7, 3) := by decide +kernel
theorem dX12_sought_30 : decode cX12_sought 30 = .ok (.lload_n 2, 1) := by decide +kernel
theorem dX12_sought_31 : decode cX12_sought 31 = .ok (.invokestatic 366, 3) := by decide +kernel
theorem dX12_sought_34 : decode cX12_sought 34 = .ok (.istore 4, 2) := by decide +kernel
theorem dX12_sought_36 : decode cX12_sought 36 = .ok (.iload_n 1, 1) := by decide +kernel
theorem dX12_sought_37 : decode cX12_sought 37 = .ok (.iconst (-1), 1) := by decide +kernel
theorem dX12_sought_38 : decode cX12_sought 38 = .ok (.if_icmp .ne 6, 3) := by decide +kernel
theorem dX12_sought_41 : decode cX12_sought 41 = .ok (.iload 4, 2) := by decide +kernel
theorem dX12_sought_43 : decode cX12_sought 43 = .ok (.ireturn, 1) := by decide +kernel
theorem dX12_sought_44 : decode cX12_sought 44 = .ok (.iload_n 1, 1) := by decide +kernel
theorem dX12_sought_45 : decode cX12_sought 45 = .ok (.iconst 0, 1) := by decide +kernel
theorem dX12_sought_46 : decode cX12_sought 46 = .ok (.iload 4, 2) := by decide +kernel
theorem dX12_sought_48 : decode cX12_sought 48 = .ok (.iconst 1, 1) := by decide +kernel
theorem dX12_sought_49 : decode cX12_sought 49 = .ok (.isub, 1) := by decide +kernel
theorem dX12_sought_50 : decode cX12_sought 50 = .ok (.invokestatic 105, 3) := by decide +kernel
theorem dX12_sought_53 : decode cX12_sought 53 = .ok (.ifCond .ne 5, 3) := by decide +kernel
theorem dX12_sought_56 : decode cX12_sought 56 = .ok (.iconst (-1), 1) := by decide +kernel
theorem dX12_sought_57 : decode cX12_sought 57 = .ok (.ireturn, 1) := by decide +kernel
theorem dX12_sought_58 : decode cX12_sought 58 = .ok (.iconst 0, 1) := by decide +kernel
theorem dX12_sought_59 : decode cX12_sought 59 = .ok (.istore 5, 2) := by decide +kernel
theorem dX12_sought_61 : decode cX12_sought 61 = .ok (.iload 5, 2) := by decide +kernel
theorem dX12_sought_63 : decode cX12_sought 63 = .ok (.iload_n 1, 1) := by decide +kernel
theorem dX12_sought_64 : decode cX12_sought 64 = .ok (.if_icmp .ge 15, 3) := by decide +kernel
theorem dX12_sought_67 : decode cX12_sought 67 = .ok (.lload_n 2, 1) := by decide +kernel
theorem dX12_sought_68 : decode cX12_sought 68 = .ok (.lload_n 2, 1) := by decide +kernel
theorem dX12_sought_69 : decode cX12_sought 69 = .ok (.lconst 1, 1) := by decide +kernel
theorem dX12_sought_70 : decode cX12_sought 70 = .ok (.lsub, 1) := by decide +kernel
theorem dX12_sought_71 : decode cX12_sought 71 = .ok (.land, 1) := by decide +kernel
theorem dX12_sought_72 : decode cX12_sought 72 = .ok (.lstore_n 2, 1) := by decide +kernel
theorem dX12_sought_73 : decode cX12_sought 73 = .ok (.iinc 5 1, 3) := by decide +kernel
theorem dX12_sought_76 : decode cX12_sought 76 = .ok (.goto (-15), 3) := by decide +kernel
theorem dX12_sought_79 : decode cX12_sought 79 = .ok (.lload_n 2, 1) := by decide +kernel
theorem dX12_sought_80 : decode cX12_sought 80 = .ok (.invokestatic 303, 3) := by decide +kernel
theorem dX12_sought_83 : decode cX12_sought 83 = .ok (.ireturn, 1) := by decide +kernel
theorem dX12_weight_0 : decode cX12_weight 0 = .ok (.iload_n 1, 1) := by decide +kernel
theorem dX12_weight_1 : decode cX12_weight 1 = .ok (.iconst 1, 1) := by decide +kernel
theorem dX12_weight_2 : decode cX12_weight 2 = .ok (.aload_n 0, 1) := by decide +kernel
theorem dX12_weight_3 : decode cX12_weight 3 = .ok (.getfield 8, 3) := by decide +kernel
theorem dX12_weight_6 : decode cX12_weight 6 = .ok (.iconst 4, 1) := by decide +kernel
theorem dX12_weight_7 : decode cX12_weight 7 = .ok (.iaload, 1) := by decide +kernel
theorem dX12_weight_8 : decode cX12_weight 8 = .ok (.invokestatic 105, 3) := by decide +kernel
theorem dX12_weight_11 : decode cX12_weight 11 = .ok (.ifCond .ne 5, 3) := by decide +kernel
theorem dX12_weight_14 : decode cX12_weight 14 = .ok (.iconst (-1), 1) := by decide +kernel
theorem dX12_weight_15 : decode cX12_weight 15 = .ok (.ireturn, 1) := by decide +kernel
theorem dX12_weight_16 : decode cX12_weight 16 = .ok (.iconst 0, 1) := by decide +kernel
theorem dX12_weight_17 : decode cX12_weight 17 = .ok (.istore_n 2, 1) := by decide +kernel
theorem dX12_weight_18 : decode cX12_weight 18 = .ok (.iconst 0, 1) := by decide +kernel
theorem dX12_weight_19 : decode cX12_weight 19 = .ok (.istore_n 3, 1) := by decide +kernel
theorem dX12_weight_20 : decode cX12_weight 20 = .ok (.iload_n 3, 1) := by decide +kernel
theorem dX12_weight_21 : decode cX12_weight 21 = .ok (.aload_n 0, 1) := by decide +kernel
theorem dX12_weight_22 : decode cX12_weight 22 = .ok (.getfield 8, 3) := by decide +kernel
theorem dX12_weight_25 : decode cX12_weight 25 = .ok (.bipush 17, 2) := by decide +kernel
theorem dX12_weight_27 : decode cX12_weight 27 = .ok (.iaload, 1) := by decide +kernel
theorem dX12_weight_28 : decode cX12_weight 28 = .ok (.if_icmp .ge 34, 3) := by decide +kernel
theorem dX12_weight_31 : decode cX12_weight 31 = .ok (.iload_n 2, 1) := by decide +kernel
theorem dX12_weight_32 : decode cX12_weight 32 = .ok (.aload_n 0, 1) := by decide +kernel
theorem dX12_weight_33 : decode cX12_weight 33 = .ok (.iload_n 3, 1) := by decide +kernel
theorem dX12_weight_34 : decode cX12_weight 34 = .ok (.invokevirtual 237, 3) := by decide +kernel
theorem dX12_weight_37 : decode cX12_weight 37 = .ok (.iload_n 1, 1) := by decide +kernel
theorem dX12_weight_38 : decode cX12_weight 38 = .ok (.if_icmp .ne 15, 3) := by decide +kernel
theorem dX12_weight_41 : decode cX12_weight 41 = .ok (.aload_n 0, 1) := by decide +kernel
theorem dX12_weight_42 : decode cX12_weight 42 = .ok (.iload_n 3, 1) := by decide +kernel
theorem dX12_weight_43 : decode cX12_weight 43 = .ok (.invokevirtual 246, 3) := by decide +kernel
theorem dX12_weight_46 : decode cX12_weight 46 = .ok (.i2l, 1) := by decide +kernel
theorem dX12_weight_47 : decode cX12_weight 47 = .ok (.invokestatic 366, 3) := by decide +kernel
theorem dX12_weight_50 : decode cX12_weight 50 = .ok (.goto 4, 3) := by decide +kernel
theorem dX12_weight_53 : decode cX12_weight 53 = .ok (.iconst 0, 1) := by decide +kernel
theorem dX12_weight_54 : decode cX12_weight 54 = .ok (.iadd, 1) := by decide +kernel
theorem dX12_weight_55 : decode cX12_weight 55 = .ok (.istore_n 2, 1) := by decide +kernel
theorem dX12_weight_56 : decode cX12_weight 56 = .ok (.iinc 3 1, 3) := by decide +kernel
theorem dX12_weight_59 : decode cX12_weight 59 = .ok (.goto (-39), 3) := by decide +kernel
theorem dX12_weight_62 : decode cX12_weight 62 = .ok (.iload_n 2, 1) := by decide +kernel
theorem dX12_weight_63 : decode cX12_weight 63 = .ok (.ireturn, 1) := by decide +kernel
theorem dX12_cubeAt_0 : decode cX12_cubeAt 0 = .ok (.iload_n 2, 1) := by decide +kernel
theorem dX12_cubeAt_1 : decode cX12_cubeAt 1 = .ok (.ifCond .ne 11, 3) := by decide +kernel
theorem dX12_cubeAt_4 : decode cX12_cubeAt 4 = .ok (.aload_n 0, 1) := by decide +kernel
theorem dX12_cubeAt_5 : decode cX12_cubeAt 5 = .ok (.iload_n 1, 1) := by decide +kernel
theorem dX12_cubeAt_6 : decode cX12_cubeAt 6 = .ok (.invokevirtual 246, 3) := by decide +kernel
theorem dX12_cubeAt_9 : decode cX12_cubeAt 9 = .ok (.goto 8, 3) := by decide +kernel
theorem dX12_cubeAt_12 : decode cX12_cubeAt 12 = .ok (.aload_n 0, 1) := by decide +kernel
theorem dX12_cubeAt_13 : decode cX12_cubeAt 13 = .ok (.iload_n 1, 1) := by decide +kernel
theorem dX12_cubeAt_14 : decode cX12_cubeAt 14 = .ok (.invokevirtual 249, 3) := by decide +kernel
theorem dX12_cubeAt_17 : decode cX12_cubeAt 17 = .ok (.ireturn, 1) := by decide +kernel
theorem dX12_cube_0 : decode cX12_cube 0 = .ok (.iload_n 1, 1) := by decide +kernel
theorem dX12_cube_1 : decode cX12_cube 1 = .ok (.iconst 1, 1) := by decide +kernel
theorem dX12_cube_2 : decode cX12_cube 2 = .ok (.aload_n 0, 1) := by decide +kernel
theorem dX12_cube_3 : decode cX12_cube 3 = .ok (.getfield 8, 3) := by decide +kernel
theorem dX12_cube_6 : decode cX12_cube 6 = .ok (.iconst 4, 1) := by decide +kernel
theorem dX12_cube_7 : decode cX12_cube 7 = .ok (.iaload, 1) := by decide +kernel
theorem dX12_cube_8 : decode cX12_cube 8 = .ok (.invokestatic 105, 3) := by decide +kernel
theorem dX12_cube_11 : decode cX12_cube 11 = .ok (.ifCond .ne 6, 3) := by decide +kernel
theorem dX12_cube_14 : decode cX12_cube 14 = .ok (.bipush (-2), 2) := by decide +kernel
theorem dX12_cube_16 : decode cX12_cube 16 = .ok (.ireturn, 1) := by decide +kernel
theorem dX12_cube_17 : decode cX12_cube 17 = .ok (.iload_n 2, 1) := by decide +kernel
theorem dX12_cube_18 : decode cX12_cube 18 = .ok (.iconst (-1), 1) := by decide +kernel
theorem dX12_cube_19 : decode cX12_cube 19 = .ok (.if_icmp .ne 9, 3) := by decide +kernel
theorem dX12_cube_22 : decode cX12_cube 22 = .ok (.aload_n 0, 1) := by decide +kernel
theorem dX12_cube_23 : decode cX12_cube 23 = .ok (.iload_n 1, 1) := by decide +kernel
theorem dX12_cube_24 : decode cX12_cube 24 = .ok (.invokevirtual 333, 3) := by decide +kernel
theorem dX12_cube_27 : decode cX12_cube 27 = .ok (.ireturn, 1) := by decide +kernel
theorem dX12_cube_28 : decode cX12_cube 28 = .ok (.iload_n 2, 1) := by decide +kernel
theorem dX12_cube_29 : decode cX12_cube 29 = .ok (.ifCond .ge 7, 3) := by decide +kernel
theorem dX12_cube_32 : decode cX12_cube 32 = .ok (.iconst (-1), 1) := by decide +kernel
theorem dX12_cube_33 : decode cX12_cube 33 = .ok (.goto 9, 3) := by decide +kernel
theorem dX12_cube_36 : decode cX12_cube 36 = .ok (.aload_n 0, 1) := by decide +kernel
theorem dX12_cube_37 : decode cX12_cube 37 = .ok (.iload_n 1, 1) := by decide +kernel
theorem dX12_cube_38 : decode cX12_cube 38 = .ok (.iload_n 2, 1) := by decide +kernel
theorem dX12_cube_39 : decode cX12_cube 39 = .ok (.invokevirtual 369, 3) := by decide +kernel
theorem dX12_cube_42 : decode cX12_cube 42 = .ok (.istore 4, 2) := by decide +kernel
theorem dX12_cube_44 : decode cX12_cube 44 = .ok (.iload 4, 2) := by decide +kernel
theorem dX12_cube_46 : decode cX12_cube 46 = .ok (.iconst (-1), 1) := by decide +kernel
theorem dX12_cube_47 : decode cX12_cube 47 = .ok (.if_icmp .eq 12, 3) := by decide +kernel
theorem dX12_cube_50 : decode cX12_cube 50 = .ok (.iload_n 3, 1) := by decide +kernel
theorem dX12_cube_51 : decode cX12_cube 51 = .ok (.iconst 0, 1) := by decide +kernel
theorem dX12_cube_52 : decode cX12_cube 52 = .ok (.iconst 1, 1) := by decide +kernel
theorem dX12_cube_53 : decode cX12_cube 53 = .ok (.invokestatic 105, 3) := by decide +kernel
theorem dX12_cube_56 : decode cX12_cube 56 = .ok (.ifCond .ne 8, 3) := by decide +kernel
theorem dX12_cube_59 : decode cX12_cube 59 = .ok (.bipush (-2), 2) := by decide +kernel
theorem dX12_cube_61 : decode cX12_cube 61 = .ok (.goto 10, 3) := by decide +kernel
theorem dX12_cube_64 : decode cX12_cube 64 = .ok (.aload_n 0, 1) := by decide +kernel
theorem dX12_cube_65 : decode cX12_cube 65 = .ok (.iload 4, 2) := by decide +kernel
theorem dX12_cube_67 : decode cX12_cube 67 = .ok (.iload_n 3, 1) := by decide +kernel
theorem dX12_cube_68 : decode cX12_cube 68 = .ok (.invokevirtual 372, 3) := by decide +kernel
theorem dX12_cube_71 : decode cX12_cube 71 = .ok (.ireturn, 1) := by decide +kernel
theorem dX12_lineBy_0 : decode cX12_lineBy 0 = .ok (.aload_n 0, 1) := by decide +kernel
theorem dX12_lineBy_1 : decode cX12_lineBy 1 = .ok (.iconst (-1), 1) := by decide +kernel
theorem dX12_lineBy_2 : decode cX12_lineBy 2 = .ok (.invokevirtual 323, 3) := by decide +kernel
theorem dX12_lineBy_5 : decode cX12_lineBy 5 = .ok (.istore_n 2, 1) := by decide +kernel
theorem dX12_lineBy_6 : decode cX12_lineBy 6 = .ok (.iconst 0, 1) := by decide +kernel
theorem dX12_lineBy_7 : decode cX12_lineBy 7 = .ok (.istore_n 3, 1) := by decide +kernel
theorem dX12_lineBy_8 : decode cX12_lineBy 8 = .ok (.iload_n 3, 1) := by decide +kernel
theorem dX12_lineBy_9 : decode cX12_lineBy 9 = .ok (.iload_n 1, 1) := by decide +kernel
theorem dX12_lineBy_10 : decode cX12_lineBy 10 = .ok (.if_icmp .ge 20, 3) := by decide +kernel
theorem dX12_lineBy_13 : decode cX12_lineBy 13 = .ok (.iload_n 2, 1) := by decide +kernel
theorem dX12_lineBy_14 : decode cX12_lineBy 14 = .ok (.iconst (-1), 1) := by decide +kernel
theorem dX12_lineBy_15 : decode cX12_lineBy 15 = .ok (.if_icmp .eq 15, 3) := by decide +kernel
theorem dX12_lineBy_18 : decode cX12_lineBy 18 = .ok (.aload_n 0, 1) := by decide +kernel
theorem dX12_lineBy_19 : decode cX12_lineBy 19 = .ok (.iload_n 2, 1) := by decide +kernel
theorem dX12_lineBy_20 : decode cX12_lineBy 20 = .ok (.invokevirtual 323, 3) := by decide +kernel
theorem dX12_lineBy_23 : decode cX12_lineBy 23 = .ok (.istore_n 2, 1) := by decide +kernel
theorem dX12_lineBy_24 : decode cX12_lineBy 24 = .ok (.iinc 3 1, 3) := by decide +kernel
theorem dX12_lineBy_27 : decode cX12_lineBy 27 = .ok (.goto (-19), 3) := by decide +kernel
theorem dX12_lineBy_30 : decode cX12_lineBy 30 = .ok (.iload_n 2, 1) := by decide +kernel
theorem dX12_lineBy_31 : decode cX12_lineBy 31 = .ok (.ireturn, 1) := by decide +kernel
theorem dX12_obligation_0 : decode cX12_obligation 0 = .ok (.iload_n 1, 1) := by decide +kernel
theorem dX12_obligation_1 : decode cX12_obligation 1 = .ok (.iconst (-1), 1) := by decide +kernel
theorem dX12_obligation_2 : decode cX12_obligation 2 = .ok (.if_icmp .ne 11, 3) := by decide +kernel
theorem dX12_obligation_5 : decode cX12_obligation 5 = .ok (.aload_n 0, 1) := by decide +kernel
theorem dX12_obligation_6 : decode cX12_obligation 6 = .ok (.getfield 8, 3) := by decide +kernel
theorem dX12_obligation_9 : decode cX12_obligation 9 = .ok (.bipush 9, 2) := by decide +kernel
theorem dX12_obligation_11 : decode cX12_obligation 11 = .ok (.iaload, 1) := by decide +kernel
theorem dX12_obligation_12 : decode cX12_obligation 12 = .ok (.ireturn, 1) := by decide +kernel
theorem dX12_obligation_13 : decode cX12_obligation 13 = .ok (.iload_n 1, 1) := by decide +kernel
theorem dX12_obligation_14 : decode cX12_obligation 14 = .ok (.iconst 0, 1) := by decide +kernel
theorem dX12_obligation_15 : decode cX12_obligation 15 = .ok (.aload_n 0, 1) := by decide +kernel
theorem dX12_obligation_16 : decode cX12_obligation 16 = .ok (.getfield 8, 3) := by decide +kernel
theorem dX12_obligation_19 : decode cX12_obligation 19 = .ok (.bipush 9, 2) := by decide +kernel
theorem dX12_obligation_21 : decode cX12_obligation 21 = .ok (.iaload, 1) := by decide +kernel
theorem dX12_obligation_22 : decode cX12_obligation 22 = .ok (.iconst 1, 1) := by decide +kernel
theorem dX12_obligation_23 : decode cX12_obligation 23 = .ok (.isub, 1) := by decide +kernel
theorem dX12_obligation_24 : decode cX12_obligation 24 = .ok (.invokestatic 105, 3) := by decide +kernel
theorem dX12_obligation_27 : decode cX12_obligation 27 = .ok (.ifCond .eq 25, 3) := by decide +kernel
theorem dX12_obligation_30 : decode cX12_obligation 30 = .ok (.iload_n 2, 1) := by decide +kernel
theorem dX12_obligation_31 : decode cX12_obligation 31 = .ok (.iconst 0, 1) := by decide +kernel
theorem dX12_obligation_32 : decode cX12_obligation 32 = .ok (.iconst 3, 1) := by decide +kernel
theorem dX12_obligation_33 : decode cX12_obligation 33 = .ok (.invokestatic 105, 3) := by decide +kernel
theorem dX12_obligation_36 : decode cX12_obligation 36 = .ok (.ifCond .eq 16, 3) := by decide +kernel
theorem dX12_obligation_39 : decode cX12_obligation 39 = .ok (.aload_n 0, 1) := by decide +kernel
theorem dX12_obligation_40 : decode cX12_obligation 40 = .ok (.aload_n 0, 1) := by decide +kernel
theorem dX12_obligation_41 : decode cX12_obligation 41 = .ok (.iload_n 1, 1) := by decide +kernel
theorem dX12_obligation_42 : decode cX12_obligation 42 = .ok (.invokevirtual 375, 3) := by decide +kernel
theorem dX12_obligation_45 : decode cX12_obligation 45 = .ok (.iload_n 2, 1) := by decide +kernel
theorem dX12_obligation_46 : decode cX12_obligation 46 = .ok (.invokevirtual 294, 3) := by decide +kernel
theorem dX12_obligation_49 : decode cX12_obligation 49 = .ok (.goto 5, 3) := by decide +kernel
theorem dX12_obligation_52 : decode cX12_obligation 52 = .ok (.bipush (-2), 2) := by decide +kernel
theorem dX12_obligation_54 : decode cX12_obligation 54 = .ok (.ireturn, 1) := by decide +kernel
theorem dX12_layTrace_0 : decode cX12_layTrace 0 = .ok (.aload_n 0, 1) := by decide +kernel
theorem dX12_layTrace_1 : decode cX12_layTrace 1 = .ok (.iconst 0, 1) := by decide +kernel
theorem dX12_layTrace_2 : decode cX12_layTrace 2 = .ok (.putfield 378, 3) := by decide +kernel
theorem dX12_layTrace_5 : decode cX12_layTrace 5 = .ok (.aload_n 0, 1) := by decide +kernel
theorem dX12_layTrace_6 : decode cX12_layTrace 6 = .ok (.getfield 8, 3) := by decide +kernel
theorem dX12_layTrace_9 : decode cX12_layTrace 9 = .ok (.iconst 5, 1) := by decide +kernel
theorem dX12_layTrace_10 : decode cX12_layTrace 10 = .ok (.iaload, 1) := by decide +kernel
theorem dX12_layTrace_11 : decode cX12_layTrace 11 = .ok (.iconst 4, 1) := by decide +kernel
theorem dX12_layTrace_12 : decode cX12_layTrace 12 = .ok (.if_icmp .ne 11, 3) := by decide +kernel
theorem dX12_layTrace_15 : decode cX12_layTrace 15 = .ok (.aload_n 0, 1) := by decide +kernel
theorem dX12_layTrace_16 : decode cX12_layTrace 16 = .ok (.iconst (-1), 1) := by decide +kernel
theorem dX12_layTrace_17 : decode cX12_layTrace 17 = .ok (.invokevirtual 323, 3) := by decide +kernel
theorem dX12_layTrace_20 : decode cX12_layTrace 20 = .ok (.goto 4, 3) := by decide +kernel
theorem dX12_layTrace_23 : decode cX12_layTrace 23 = .ok (.iconst (-1), 1) := by decide +kernel
theorem dX12_layTrace_24 : decode cX12_layTrace 24 = .ok (.istore_n 1, 1) := by decide +kernel
theorem dX12_layTrace_25 : decode cX12_layTrace 25 = .ok (.iload_n 1, 1) := by decide +kernel
theorem dX12_layTrace_26 : decode cX12_layTrace 26 = .ok (.iconst (-1), 1) := by decide +kernel
theorem dX12_layTrace_27 : decode cX12_layTrace 27 = .ok (.if_icmp .eq 42, 3) := by decide +kernel
theorem dX12_layTrace_30 : decode cX12_layTrace 30 = .ok (.aload_n 0, 1) := by decide +kernel
theorem dX12_layTrace_31 : decode cX12_layTrace 31 = .ok (.getfield 59, 3) := by decide +kernel
theorem dX12_layTrace_34 : decode cX12_layTrace 34 = .ok (.aload_n 0, 1) := by decide +kernel
theorem dX12_layTrace_35 : decode cX12_layTrace 35 = .ok (.getfield 378, 3) := by decide +kernel
theorem dX12_layTrace_38 : decode cX12_layTrace 38 = .ok (.aload_n 0, 1) := by decide +kernel
theorem dX12_layTrace_39 : decode cX12_layTrace 39 = .ok (.iload_n 1, 1) := by decide +kernel
theorem dX12_layTrace_40 : decode cX12_layTrace 40 = .ok (.iconst 0, 1) := by decide +kernel
theorem dX12_layTrace_41 : decode cX12_layTrace 41 = .ok (.invokevirtual 294, 3) := by decide +kernel
theorem dX12_layTrace_44 : decode cX12_layTrace 44 = .ok (.iastore, 1) := by decide +kernel
theorem dX12_layTrace_45 : decode cX12_layTrace 45 = .ok (.aload_n 0, 1) := by decide +kernel
theorem dX12_layTrace_46 : decode cX12_layTrace 46 = .ok (.dup, 1) := by decide +kernel
theorem dX12_layTrace_47 : decode cX12_layTrace 47 = .ok (.getfield 378, 3) := by decide +kernel
theorem dX12_layTrace_50 : decode cX12_layTrace 50 = .ok (.iconst 1, 1) := by decide +kernel
theorem dX12_layTrace_51 : decode cX12_layTrace 51 = .ok (.iadd, 1) := by decide +kernel
theorem dX12_layTrace_52 : decode cX12_layTrace 52 = .ok (.putfield 378, 3) := by decide +kernel
theorem dX12_layTrace_55 : decode cX12_layTrace 55 = .ok (.aload_n 0, 1) := by decide +kernel
theorem dX12_layTrace_56 : decode cX12_layTrace 56 = .ok (.aload_n 0, 1) := by decide +kernel
theorem dX12_layTrace_57 : decode cX12_layTrace 57 = .ok (.iload_n 1, 1) := by decide +kernel
theorem dX12_layTrace_58 : decode cX12_layTrace 58 = .ok (.iconst 3, 1) := by decide +kernel
theorem dX12_layTrace_59 : decode cX12_layTrace 59 = .ok (.invokevirtual 294, 3) := by decide +kernel
theorem dX12_layTrace_62 : decode cX12_layTrace 62 = .ok (.invokevirtual 381, 3) := by decide +kernel
theorem dX12_layTrace_65 : decode cX12_layTrace 65 = .ok (.istore_n 1, 1) := by decide +kernel
theorem dX12_layTrace_66 : decode cX12_layTrace 66 = .ok (.goto (-41), 3) := by decide +kernel
theorem dX12_layTrace_69 : decode cX12_layTrace 69 = .ok (.return_, 1) := by decide +kernel
theorem dX12_ofWay_0 : decode cX12_ofWay 0 = .ok (.iload_n 1, 1) := by decide +kernel
theorem dX12_ofWay_1 : decode cX12_ofWay 1 = .ok (.iconst (-1), 1) := by decide +kernel
theorem dX12_ofWay_2 : decode cX12_ofWay 2 = .ok (.if_icmp .ne 8, 3) := by decide +kernel
theorem dX12_ofWay_5 : decode cX12_ofWay 5 = .ok (.aload_n 0, 1) := by decide +kernel
theorem dX12_ofWay_6 : decode cX12_ofWay 6 = .ok (.getfield 378, 3) := by decide +kernel
theorem dX12_ofWay_9 : decode cX12_ofWay 9 = .ok (.ireturn, 1) := by decide +kernel
theorem dX12_ofWay_10 : decode cX12_ofWay 10 = .ok (.iload_n 1, 1) := by decide +kernel
theorem dX12_ofWay_11 : decode cX12_ofWay 11 = .ok (.iconst 0, 1) := by decide +kernel
theorem dX12_ofWay_12 : decode cX12_ofWay 12 = .ok (.aload_n 0, 1) := by decide +kernel
theorem dX12_ofWay_13 : decode cX12_ofWay 13 = .ok (.getfield 378, 3) := by decide +kernel
theorem dX12_ofWay_16 : decode cX12_ofWay 16 = .ok (.iconst 1, 1) := by decide +kernel
theorem dX12_ofWay_17 : decode cX12_ofWay 17 = .ok (.isub, 1) := by decide +kernel
theorem dX12_ofWay_18 : decode cX12_ofWay 18 = .ok (.invokestatic 105, 3) := by decide +kernel
theorem dX12_ofWay_21 : decode cX12_ofWay 21 = .ok (.ifCond .eq 12, 3) := by decide +kernel
theorem dX12_ofWay_24 : decode cX12_ofWay 24 = .ok (.iload_n 2, 1) := by decide +kernel
theorem dX12_ofWay_25 : decode cX12_ofWay 25 = .ok (.iconst 0, 1) := by decide +kernel
theorem dX12_ofWay_26 : decode cX12_ofWay 26 = .ok (.iconst 1, 1) := by decide +kernel
theorem dX12_ofWay_27 : decode cX12_ofWay 27 = .ok (.invokestatic 105, 3) := by decide +kernel
theorem dX12_ofWay_30 : decode cX12_ofWay 30 = .ok (.ifCond .ne 6, 3) := by decide +kernel
theorem dX12_ofWay_33 : decode cX12_ofWay 33 = .ok (.bipush (-2), 2) := by decide +kernel
theorem dX12_ofWay_35 : decode cX12_ofWay 35 = .ok (.ireturn, 1) := by decide +kernel
theorem dX12_ofWay_36 : decode cX12_ofWay 36 = .ok (.iload_n 2, 1) := by decide +kernel
theorem dX12_ofWay_37 : decode cX12_ofWay 37 = .ok (.ifCond .ne 10, 3) := by decide +kernel
theorem dX12_ofWay_40 : decode cX12_ofWay 40 = .ok (.aload_n 0, 1) := by decide +kernel
theorem dX12_ofWay_41 : decode cX12_ofWay 41 = .ok (.getfield 59, 3) := by decide +kernel
theorem dX12_ofWay_44 : decode cX12_ofWay 44 = .ok (.iload_n 1, 1) := by decide +kernel
theorem dX12_ofWay_45 : decode cX12_ofWay 45 = .ok (.iaload, 1) := by decide +kernel
theorem dX12_ofWay_46 : decode cX12_ofWay 46 = .ok (.ireturn, 1) := by decide +kernel
theorem dX12_ofWay_47 : decode cX12_ofWay 47 = .ok (.iconst 0, 1) := by decide +kernel
theorem dX12_ofWay_48 : decode cX12_ofWay 48 = .ok (.istore_n 3, 1) := by decide +kernel
theorem dX12_ofWay_49 : decode cX12_ofWay 49 = .ok (.iload_n 3, 1) := by decide +kernel
theorem dX12_ofWay_50 : decode cX12_ofWay 50 = .ok (.iconst 4, 1) := by decide +kernel
theorem dX12_ofWay_51 : decode cX12_ofWay 51 = .ok (.if_icmp .ge 43, 3) := by decide +kernel
theorem dX12_ofWay_54 : decode cX12_ofWay 54 = .ok (.iload_n 1, 1) := by decide +kernel
theorem dX12_ofWay_55 : decode cX12_ofWay 55 = .ok (.iconst 1, 1) := by decide +kernel
theorem dX12_ofWay_56 : decode cX12_ofWay 56 = .ok (.iadd, 1) := by decide +kernel
theorem dX12_ofWay_57 : decode cX12_ofWay 57 = .ok (.aload_n 0, 1) := by decide +kernel
theorem dX12_ofWay_58 : decode cX12_ofWay 58 = .ok (.getfield 378, 3) := by decide +kernel
theorem dX12_ofWay_61 : decode cX12_ofWay 61 = .ok (.if_icmp .ge 33, 3) := by decide +kernel
theorem dX12_ofWay_64 : decode cX12_ofWay 64 = .ok (.aload_n 0, 1) := by decide +kernel
theorem dX12_ofWay_65 : decode cX12_ofWay 65 = .ok (.aload_n 0, 1) := by decide +kernel
theorem dX12_ofWay_66 : decode cX12_ofWay 66 = .ok (.getfield 59, 3) := by decide +kernel
theorem dX12_ofWay_69 : decode cX12_ofWay 69 = .ok (.iload_n 1, 1) := by decide +kernel
theorem dX12_ofWay_70 : decode cX12_ofWay 70 = .ok (.iaload, 1) := by decide +kernel
theorem dX12_ofWay_71 : decode cX12_ofWay 71 = .ok (.iload_n 3, 1) := by decide +kernel
theorem dX12_ofWay_72 : decode cX12_ofWay 72 = .ok (.invokevirtual 109, 3) := by decide +kernel
theorem dX12_ofWay_75 : decode cX12_ofWay 75 = .ok (.aload_n 0, 1) := by decide +kernel
theorem dX12_ofWay_76 : decode cX12_ofWay 76 = .ok (.getfield 59, 3) := by decide +kernel
theorem dX12_ofWay_79 : decode cX12_ofWay 79 = .ok (.iload_n 1, 1) := by decide +kernel
theorem dX12_ofWay_80 : decode cX12_ofWay 80 = .ok (.iconst 1, 1) := by decide +kernel
theorem dX12_ofWay_81 : decode cX12_ofWay 81 = .ok (.iadd, 1) := by decide +kernel
theorem dX12_ofWay_82 : decode cX12_ofWay 82 = .ok (.iaload, 1) := by decide +kernel
theorem dX12_ofWay_83 : decode cX12_ofWay 83 = .ok (.if_icmp .ne 5, 3) := by decide +kernel
theorem dX12_ofWay_86 : decode cX12_ofWay 86 = .ok (.iload_n 3, 1) := by decide +kernel
theorem dX12_ofWay_87 : decode cX12_ofWay 87 = .ok (.ireturn, 1) := by decide +kernel
theorem dX12_ofWay_88 : decode cX12_ofWay 88 = .ok (.iinc 3 1, 3) := by decide +kernel
theorem dX12_ofWay_91 : decode cX12_ofWay 91 = .ok (.goto (-42), 3) := by decide +kernel
theorem dX12_ofWay_94 : decode cX12_ofWay 94 = .ok (.iconst (-1), 1) := by decide +kernel
theorem dX12_ofWay_95 : decode cX12_ofWay 95 = .ok (.ireturn, 1) := by decide +kernel
theorem dX12_trace_0 : decode cX12_trace 0 = .ok (.aload_n 0, 1) := by decide +kernel
theorem dX12_trace_1 : decode cX12_trace 1 = .ok (.invokevirtual 384, 3) := by decide +kernel
theorem dX12_trace_4 : decode cX12_trace 4 = .ok (.aload_n 0, 1) := by decide +kernel
theorem dX12_trace_5 : decode cX12_trace 5 = .ok (.iload_n 1, 1) := by decide +kernel
theorem dX12_trace_6 : decode cX12_trace 6 = .ok (.iload_n 2, 1) := by decide +kernel
theorem dX12_trace_7 : decode cX12_trace 7 = .ok (.invokevirtual 387, 3) := by decide +kernel
theorem dX12_trace_10 : decode cX12_trace 10 = .ok (.ireturn, 1) := by decide +kernel
theorem dX12_addJudged_0 : decode cX12_addJudged 0 = .ok (.aload_n 0, 1) := by decide +kernel
theorem dX12_addJudged_1 : decode cX12_addJudged 1 = .ok (.getfield 62, 3) := by decide +kernel
theorem dX12_addJudged_4 : decode cX12_addJudged 4 = .ok (.aload_n 0, 1) := by decide +kernel
theorem dX12_addJudged_5 : decode cX12_addJudged 5 = .ok (.getfield 390, 3) := by decide +kernel
theorem dX12_addJudged_8 : decode cX12_addJudged 8 = .ok (.iload_n 1, 1) := by decide +kernel
theorem dX12_addJudged_9 : decode cX12_addJudged 9 = .ok (.iastore, 1) := by decide +kernel
theorem dX12_addJudged_10 : decode cX12_addJudged 10 = .ok (.aload_n 0, 1) := by decide +kernel
theorem dX12_addJudged_11 : decode cX12_addJudged 11 = .ok (.getfield 65, 3) := by decide +kernel
theorem dX12_addJudged_14 : decode cX12_addJudged 14 = .ok (.aload_n 0, 1) := by decide +kernel
theorem dX12_addJudged_15 : decode cX12_addJudged 15 = .ok (.getfield 390, 3) := by decide +kernel
theorem dX12_addJudged_18 : decode cX12_addJudged 18 = .ok (.iload_n 2, 1) := by decide +kernel
theorem dX12_addJudged_19 : decode cX12_addJudged 19 = .ok (.iastore, 1) := by decide +kernel
theorem dX12_addJudged_20 : decode cX12_addJudged 20 = .ok (.aload_n 0, 1) := by decide +kernel
theorem dX12_addJudged_21 : decode cX12_addJudged 21 = .ok (.dup, 1) := by decide +kernel
theorem dX12_addJudged_22 : decode cX12_addJudged 22 = .ok (.getfield 390, 3) := by decide +kernel
theorem dX12_addJudged_25 : decode cX12_addJudged 25 = .ok (.iconst 1, 1) := by decide +kernel
theorem dX12_addJudged_26 : decode cX12_addJudged 26 = .ok (.iadd, 1) := by decide +kernel
theorem dX12_addJudged_27 : decode cX12_addJudged 27 = .ok (.putfield 390, 3) := by decide +kernel
theorem dX12_addJudged_30 : decode cX12_addJudged 30 = .ok (.return_, 1) := by decide +kernel
theorem dX12_layFence_0 : decode cX12_layFence 0 = .ok (.aload_n 0, 1) := by decide +kernel
theorem dX12_layFence_1 : decode cX12_layFence 1 = .ok (.iconst 0, 1) := by decide +kernel
theorem dX12_layFence_2 : decode cX12_layFence 2 = .ok (.putfield 390, 3) := by decide +kernel
theorem dX12_layFence_5 : decode cX12_layFence 5 = .ok (.aload_n 0, 1) := by decide +kernel
theorem dX12_layFence_6 : decode cX12_layFence 6 = .ok (.getfield 8, 3) := by decide +kernel
theorem dX12_layFence_9 : decode cX12_layFence 9 = .ok (.bipush 6, 2) := by decide +kernel
theorem dX12_layFence_11 : decode cX12_layFence 11 = .ok (.iaload, 1) := by decide +kernel
theorem dX12_layFence_12 : decode cX12_layFence 12 = .ok (.iconst 1, 1) := by decide +kernel
theorem dX12_layFence_13 : decode cX12_layFence 13 = .ok (.iadd, 1) := by decide +kernel
theorem dX12_layFence_14 : decode cX12_layFence 14 = .ok (.istore_n 1, 1) := by decide +kernel
theorem dX12_layFence_15 : decode cX12_layFence 15 = .ok (.iload_n 1, 1) := by decide +kernel
theorem dX12_layFence_16 : decode cX12_layFence 16 = .ok (.aload_n 0, 1) := by decide +kernel
theorem dX12_layFence_17 : decode cX12_layFence 17 = .ok (.getfield 8, 3) := by decide +kernel
theorem dX12_layFence_20 : decode cX12_layFence 20 = .ok (.iconst 4, 1) := by decide +kernel
theorem dX12_layFence_21 : decode cX12_layFence 21 = .ok (.iaload, 1) := by decide +kernel
theorem dX12_layFence_22 : decode cX12_layFence 22 = .ok (.if_icmp .gt 61, 3) := by decide +kernel
theorem dX12_layFence_25 : decode cX12_layFence 25 = .ok (.aload_n 0, 1) := by decide +kernel
theorem dX12_layFence_26 : decode cX12_layFence 26 = .ok (.getfield 8, 3) := by decide +kernel
theorem dX12_layFence_29 : decode cX12_layFence 29 = .ok (.iconst 5, 1) := by decide +kernel
theorem dX12_layFence_30 : decode cX12_layFence 30 = .ok (.iaload, 1) := by decide +kernel
theorem dX12_layFence_31 : decode cX12_layFence 31 = .ok (.iconst 3, 1) := by decide +kernel
theorem dX12_layFence_32 : decode cX12_layFence 32 = .ok (.if_icmp .ne 51, 3) := by decide +kernel
theorem dX12_layFence_35 : decode cX12_layFence 35 = .ok (.iconst 0, 1) := by decide +kernel
theorem dX12_layFence_36 : decode cX12_layFence 36 = .ok (.istore_n 2, 1) := by decide +kernel
theorem dX12_layFence_37 : decode cX12_layFence 37 = .ok (.iload_n 2, 1) := by decide +kernel
theorem dX12_layFence_38 : decode cX12_layFence 38 = .ok (.aload_n 0, 1) := by decide +kernel
theorem dX12_layFence_39 : decode cX12_layFence 39 = .ok (.getfield 8, 3) := by decide +kernel
theorem dX12_layFence_42 : decode cX12_layFence 42 = .ok (.bipush 17, 2) := by decide +kernel
theorem dX12_layFence_44 : decode cX12_layFence 44 = .ok (.iaload, 1) := by decide +kernel
theorem dX12_layFence_45 : decode cX12_layFence 45 = .ok (.if_icmp .ge 32, 3) := by decide +kernel
theorem dX12_layFence_48 : decode cX12_layFence 48 = .ok (.aload_n 0, 1) := by decide +kernel
theorem dX12_layFence_49 : decode cX12_layFence 49 = .ok (.iload_n 2, 1) := by decide +kernel
theorem dX12_layFence_50 : decode cX12_layFence 50 = .ok (.invokevirtual 237, 3) := by decide +kernel
theorem dX12_layFence_53 : decode cX12_layFence 53 = .ok (.iload_n 1, 1) := by decide +kernel
theorem dX12_layFence_54 : decode cX12_layFence 54 = .ok (.if_icmp .ne 17, 3) := by decide +kernel
theorem dX12_layFence_57 : decode cX12_layFence 57 = .ok (.aload_n 0, 1) := by decide +kernel
theorem dX12_layFence_58 : decode cX12_layFence 58 = .ok (.aload_n 0, 1) := by decide +kernel
theorem dX12_layFence_59 : decode cX12_layFence 59 = .ok (.iload_n 2, 1) := by decide +kernel
theorem dX12_layFence_60 : decode cX12_layFence 60 = .ok (.invokevirtual 246, 3) := by decide +kernel
theorem dX12_layFence_63 : decode cX12_layFence 63 = .ok (.aload_n 0, 1) := by decide +kernel
theorem dX12_layFence_64 : decode cX12_layFence 64 = .ok (.iload_n 2, 1) := by decide +kernel
theorem dX12_layFence_65 : decode cX12_layFence 65 = .ok (.invokevirtual 249, 3) := by decide +kernel
theorem dX12_layFence_68 : decode cX12_layFence 68 = .ok (.invokevirtual 393, 3) := by decide +kernel
theorem dX12_layFence_71 : decode cX12_layFence 71 = .ok (.iinc 2 1, 3) := by decide +kernel
theorem dX12_layFence_74 : decode cX12_layFence 74 = .ok (.goto (-37), 3) := by decide +kernel
theorem dX12_layFence_77 : decode cX12_layFence 77 = .ok (.iinc 1 1, 3) := by decide +kernel
theorem dX12_layFence_80 : decode cX12_layFence 80 = .ok (.goto (-65), 3) := by decide +kernel
theorem dX12_layFence_83 : decode cX12_layFence 83 = .ok (.return_, 1) := by decide +kernel
theorem dX12_fence_0 : decode cX12_fence 0 = .ok (.aload_n 0, 1) := by decide +kernel
theorem dX12_fence_1 : decode cX12_fence 1 = .ok (.invokevirtual 397, 3) := by decide +kernel
theorem dX12_fence_4 : decode cX12_fence 4 = .ok (.iload_n 1, 1) := by decide +kernel
theorem dX12_fence_5 : decode cX12_fence 5 = .ok (.iconst (-1), 1) := by decide +kernel
theorem dX12_fence_6 : decode cX12_fence 6 = .ok (.if_icmp .ne 8, 3) := by decide +kernel
theorem dX12_fence_9 : decode cX12_fence 9 = .ok (.aload_n 0, 1) := by decide +kernel
theorem dX12_fence_10 : decode cX12_fence 10 = .ok (.getfield 390, 3) := by decide +kernel
theorem dX12_fence_13 : decode cX12_fence 13 = .ok (.ireturn, 1) := by decide +kernel
theorem dX12_fence_14 : decode cX12_fence 14 = .ok (.iload_n 1, 1) := by decide +kernel
theorem dX12_fence_15 : decode cX12_fence 15 = .ok (.iconst 0, 1) := by decide +kernel
theorem dX12_fence_16 : decode cX12_fence 16 = .ok (.aload_n 0, 1) := by decide +kernel
theorem dX12_fence_17 : decode cX12_fence 17 = .ok (.getfield 390, 3) := by decide +kernel
theorem dX12_fence_20 : decode cX12_fence 20 = .ok (.iconst 1, 1) := by decide +kernel
theorem dX12_fence_21 : decode cX12_fence 21 = .ok (.isub, 1) := by decide +kernel
theorem dX12_fence_22 : decode cX12_fence 22 = .ok (.invokestatic 105, 3) := by decide +kernel
theorem dX12_fence_25 : decode cX12_fence 25 = .ok (.ifCond .eq 34, 3) := by decide +kernel
theorem dX12_fence_28 : decode cX12_fence 28 = .ok (.iload_n 2, 1) := by decide +kernel
theorem dX12_fence_29 : decode cX12_fence 29 = .ok (.iconst 0, 1) := by decide +kernel
theorem dX12_fence_30 : decode cX12_fence 30 = .ok (.iconst 1, 1) := by decide +kernel
theorem dX12_fence_31 : decode cX12_fence 31 = .ok (.invokestatic 105, 3) := by decide +kernel
theorem dX12_fence_34 : decode cX12_fence 34 = .ok (.ifCond .eq 25, 3) := by decide +kernel
theorem dX12_fence_37 : decode cX12_fence 37 = .ok (.iload_n 2, 1) := by decide +kernel
theorem dX12_fence_38 : decode cX12_fence 38 = .ok (.ifCond .ne 12, 3) := by decide +kernel
theorem dX12_fence_41 : decode cX12_fence 41 = .ok (.aload_n 0, 1) := by decide +kernel
theorem dX12_fence_42 : decode cX12_fence 42 = .ok (.getfield 62, 3) := by decide +kernel
theorem dX12_fence_45 : decode cX12_fence 45 = .ok (.iload_n 1, 1) := by decide +kernel
theorem dX12_fence_46 : decode cX12_fence 46 = .ok (.iaload, 1) := by decide +kernel
theorem dX12_fence_47 : decode cX12_fence 47 = .ok (.goto 14, 3) := by decide +kernel
theorem dX12_fence_50 : decode cX12_fence 50 = .ok (.aload_n 0, 1) := by decide +kernel
theorem dX12_fence_51 : decode cX12_fence 51 = .ok (.getfield 65, 3) := by decide +kernel
theorem dX12_fence_54 : decode cX12_fence 54 = .ok (.iload_n 1, 1) := by decide +kernel
theorem dX12_fence_55 : decode cX12_fence 55 = .ok (.iaload, 1) := by decide +kernel
theorem dX12_fence_56 : decode cX12_fence 56 = .ok (.goto 5, 3) := by decide +kernel
theorem dX12_fence_59 : decode cX12_fence 59 = .ok (.bipush (-2), 2) := by decide +kernel
theorem dX12_fence_61 : decode cX12_fence 61 = .ok (.ireturn, 1) := by decide +kernel
theorem dX12_activity_0 : decode cX12_activity 0 = .ok (.iload_n 1, 1) := by decide +kernel
theorem dX12_activity_1 : decode cX12_activity 1 = .ok (.iconst (-1), 1) := by decide +kernel
theorem dX12_activity_2 : decode cX12_activity 2 = .ok (.if_icmp .ne 16, 3) := by decide +kernel
theorem dX12_activity_5 : decode cX12_activity 5 = .ok (.aload_n 0, 1) := by decide +kernel
theorem dX12_activity_6 : decode cX12_activity 6 = .ok (.getfield 17, 3) := by decide +kernel
theorem dX12_activity_9 : decode cX12_activity 9 = .ok (.bipush 6, 2) := by decide +kernel
theorem dX12_activity_11 : decode cX12_activity 11 = .ok (.faload, 1) := by decide +kernel
theorem dX12_activity_12 : decode cX12_activity 12 = .ok (.invokestatic 400, 3) := by decide +kernel
theorem dX12_activity_15 : decode cX12_activity 15 = .ok (.goto 33, 3) := by decide +kernel
theorem dX12_activity_18 : decode cX12_activity 18 = .ok (.iload_n 1, 1) := by decide +kernel
theorem dX12_activity_19 : decode cX12_activity 19 = .ok (.iconst 0, 1) := by decide +kernel
theorem dX12_activity_20 : decode cX12_activity 20 = .ok (.aload_n 0, 1) := by decide +kernel
theorem dX12_activity_21 : decode cX12_activity 21 = .ok (.getfield 8, 3) := by decide +kernel
theorem dX12_activity_24 : decode cX12_activity 24 = .ok (.iconst 3, 1) := by decide +kernel
theorem dX12_activity_25 : decode cX12_activity 25 = .ok (.iaload, 1) := by decide +kernel
theorem dX12_activity_26 : decode cX12_activity 26 = .ok (.iconst 1, 1) := by decide +kernel
theorem dX12_activity_27 : decode cX12_activity 27 = .ok (.isub, 1) := by decide +kernel
theorem dX12_activity_28 : decode cX12_activity 28 = .ok (.invokestatic 105, 3) := by decide +kernel
theorem dX12_activity_31 : decode cX12_activity 31 = .ok (.ifCond .eq 15, 3) := by decide +kernel
theorem dX12_activity_34 : decode cX12_activity 34 = .ok (.aload_n 0, 1) := by decide +kernel
theorem dX12_activity_35 : decode cX12_activity 35 = .ok (.getfield 17, 3) := by decide +kernel
theorem dX12_activity_38 : decode cX12_activity 38 = .ok (.iload_n 1, 1) := by decide +kernel
theorem dX12_activity_39 : decode cX12_activity 39 = .ok (.faload, 1) := by decide +kernel
theorem dX12_activity_40 : decode cX12_activity 40 = .ok (.invokestatic 400, 3) := by decide +kernel
theorem dX12_activity_43 : decode cX12_activity 43 = .ok (.goto 5, 3) := by decide +kernel
theorem dX12_activity_46 : decode cX12_activity 46 = .ok (.bipush (-2), 2) := by decide +kernel
theorem dX12_activity_48 : decode cX12_activity 48 = .ok (.ireturn, 1) := by decide +kernel
theorem dX12_order_0 : decode cX12_order 0 = .ok (.aload_n 0, 1) := by decide +kernel
theorem dX12_order_1 : decode cX12_order 1 = .ok (.invokevirtual 285, 3) := by decide +kernel
theorem dX12_order_4 : decode cX12_order 4 = .ok (.iload_n 1, 1) := by decide +kernel
theorem dX12_order_5 : decode cX12_order 5 = .ok (.iconst 0, 1) := by decide +kernel
theorem dX12_order_6 : decode cX12_order 6 = .ok (.aload_n 0, 1) := by decide +kernel
theorem dX12_order_7 : decode cX12_order 7 = .ok (.getfield 8, 3) := by decide +kernel
theorem dX12_order_10 : decode cX12_order 10 = .ok (.iconst 3, 1) := by decide +kernel
theorem dX12_order_11 : decode cX12_order 11 = .ok (.iaload, 1) := by decide +kernel
theorem dX12_order_12 : decode cX12_order 12 = .ok (.iconst 1, 1) := by decide +kernel
theorem dX12_order_13 : decode cX12_order 13 = .ok (.isub, 1) := by decide +kernel
theorem dX12_order_14 : decode cX12_order 14 = .ok (.invokestatic 105, 3) := by decide +kernel
theorem dX12_order_17 : decode cX12_order 17 = .ok (.ifCond .eq 12, 3) := by decide +kernel
theorem dX12_order_20 : decode cX12_order 20 = .ok (.aload_n 0, 1) := by decide +kernel
theorem dX12_order_21 : decode cX12_order 21 = .ok (.getfield 47, 3) := by decide +kernel
theorem dX12_order_24 : decode cX12_order 24 = .ok (.iload_n 1, 1) := by decide +kernel
theorem dX12_order_25 : decode cX12_order 25 = .ok (.iaload, 1) := by decide +kernel
theorem dX12_order_26 : decode cX12_order 26 = .ok (.goto 4, 3) := by decide +kernel
theorem dX12_order_29 : decode cX12_order 29 = .ok (.iconst (-1), 1) := by decide +kernel
theorem dX12_order_30 : decode cX12_order 30 = .ok (.ireturn, 1) := by decide +kernel
theorem dX12_holds_0 : decode cX12_holds 0 = .ok (.aload_n 0, 1) := by decide +kernel
theorem dX12_holds_1 : decode cX12_holds 1 = .ok (.iload_n 1, 1) := by decide +kernel
theorem dX12_holds_2 : decode cX12_holds 2 = .ok (.iload_n 2, 1) := by decide +kernel
theorem dX12_holds_3 : decode cX12_holds 3 = .ok (.invokevirtual 357, 3) := by decide +kernel
theorem dX12_holds_6 : decode cX12_holds 6 = .ok (.ifCond .eq 25, 3) := by decide +kernel
theorem dX12_holds_9 : decode cX12_holds 9 = .ok (.aload_n 0, 1) := by decide +kernel
theorem dX12_holds_10 : decode cX12_holds 10 = .ok (.iload_n 3, 1) := by decide +kernel
theorem dX12_holds_11 : decode cX12_holds 11 = .ok (.invokevirtual 363, 3) := by decide +kernel
theorem dX12_holds_14 : decode cX12_holds 14 = .ok (.ifCond .eq 17, 3) := by decide +kernel
theorem dX12_holds_17 : decode cX12_holds 17 = .ok (.aload_n 0, 1) := by decide +kernel
theorem dX12_holds_18 : decode cX12_holds 18 = .ok (.iload_n 1, 1) := by decide +kernel
theorem dX12_holds_19 : decode cX12_holds 19 = .ok (.iload_n 2, 1) := by decide +kernel
theorem dX12_holds_20 : decode cX12_holds 20 = .ok (.iload_n 3, 1) := by decide +kernel
theorem dX12_holds_21 : decode cX12_holds 21 = .ok (.invokevirtual 271, 3) := by decide +kernel
theorem dX12_holds_24 : decode cX12_holds 24 = .ok (.ifCond .eq 7, 3) := by decide +kernel
theorem dX12_holds_27 : decode cX12_holds 27 = .ok (.iconst 1, 1) := by decide +kernel
theorem dX12_holds_28 : decode cX12_holds 28 = .ok (.goto 4, 3) := by decide +kernel
theorem dX12_holds_31 : decode cX12_holds 31 = .ok (.iconst 0, 1) := by decide +kernel
theorem dX12_holds_32 : decode cX12_holds 32 = .ok (.ireturn, 1) := by decide +kernel
theorem dX12_widened_0 : decode cX12_widened 0 = .ok (.aload_n 0, 1) := by decide +kernel
theorem dX12_widened_1 : decode cX12_widened 1 = .ok (.iload_n 1, 1) := by decide +kernel
theorem dX12_widened_2 : decode cX12_widened 2 = .ok (.invokevirtual 360, 3) := by decide +kernel
theorem dX12_widened_5 : decode cX12_widened 5 = .ok (.ifCond .eq 45, 3) := by decide +kernel
theorem dX12_widened_8 : decode cX12_widened 8 = .ok (.iload_n 2, 1) := by decide +kernel
theorem dX12_widened_9 : decode cX12_widened 9 = .ok (.iconst 1, 1) := by decide +kernel
theorem dX12_widened_10 : decode cX12_widened 10 = .ok (.aload_n 0, 1) := by decide +kernel
theorem dX12_widened_11 : decode cX12_widened 11 = .ok (.getfield 8, 3) := by decide +kernel
theorem dX12_widened_14 : decode cX12_widened 14 = .ok (.iconst 4, 1) := by decide +kernel
theorem dX12_widened_15 : decode cX12_widened 15 = .ok (.iaload, 1) := by decide +kernel
theorem dX12_widened_16 : decode cX12_widened 16 = .ok (.invokestatic 105, 3) := by decide +kernel
theorem dX12_widened_19 : decode cX12_widened 19 = .ok (.ifCond .eq 31, 3) := by decide +kernel
theorem dX12_widened_22 : decode cX12_widened 22 = .ok (.aload_n 0, 1) := by decide +kernel
theorem dX12_widened_23 : decode cX12_widened 23 = .ok (.invokevirtual 255, 3) := by decide +kernel
theorem dX12_widened_26 : decode cX12_widened 26 = .ok (.iload_n 1, 1) := by decide +kernel
theorem dX12_widened_27 : decode cX12_widened 27 = .ok (.invokestatic 86, 3) := by decide +kernel
theorem dX12_widened_30 : decode cX12_widened 30 = .ok (.ifCond .ne 20, 3) := by decide +kernel
theorem dX12_widened_33 : decode cX12_widened 33 = .ok (.aload_n 0, 1) := by decide +kernel
theorem dX12_widened_34 : decode cX12_widened 34 = .ok (.aload_n 0, 1) := by decide +kernel
theorem dX12_widened_35 : decode cX12_widened 35 = .ok (.invokevirtual 101, 3) := by decide +kernel
theorem dX12_widened_38 : decode cX12_widened 38 = .ok (.iconst 1, 1) := by decide +kernel
theorem dX12_widened_39 : decode cX12_widened 39 = .ok (.isub, 1) := by decide +kernel
theorem dX12_widened_40 : decode cX12_widened 40 = .ok (.iload_n 1, 1) := by decide +kernel
theorem dX12_widened_41 : decode cX12_widened 41 = .ok (.iload_n 2, 1) := by decide +kernel
theorem dX12_widened_42 : decode cX12_widened 42 = .ok (.iconst 1, 1) := by decide +kernel
theorem dX12_widened_43 : decode cX12_widened 43 = .ok (.isub, 1) := by decide +kernel
theorem dX12_widened_44 : decode cX12_widened 44 = .ok (.invokevirtual 271, 3) := by decide +kernel
theorem dX12_widened_47 : decode cX12_widened 47 = .ok (.ifCond .ne 5, 3) := by decide +kernel
theorem dX12_widened_50 : decode cX12_widened 50 = .ok (.iconst (-1), 1) := by decide +kernel
theorem dX12_widened_51 : decode cX12_widened 51 = .ok (.ireturn, 1) := by decide +kernel
theorem dX12_widened_52 : decode cX12_widened 52 = .ok (.aload_n 0, 1) := by decide +kernel
theorem dX12_widened_53 : decode cX12_widened 53 = .ok (.getfield 8, 3) := by decide +kernel
theorem dX12_widened_56 : decode cX12_widened 56 = .ok (.bipush 12, 2) := by decide +kernel
theorem dX12_widened_58 : decode cX12_widened 58 = .ok (.iaload, 1) := by decide +kernel
theorem dX12_widened_59 : decode cX12_widened 59 = .ok (.istore_n 3, 1) := by decide +kernel
theorem dX12_widened_60 : decode cX12_widened 60 = .ok (.aload_n 0, 1) := by decide +kernel
theorem dX12_widened_61 : decode cX12_widened 61 = .ok (.iload_n 1, 1) := by decide +kernel
theorem dX12_widened_62 : decode cX12_widened 62 = .ok (.iload_n 2, 1) := by decide +kernel
theorem dX12_widened_63 : decode cX12_widened 63 = .ok (.invokevirtual 311, 3) := by decide +kernel
theorem dX12_widened_66 : decode cX12_widened 66 = .ok (.istore 4, 2) := by decide +kernel
theorem dX12_widened_68 : decode cX12_widened 68 = .ok (.aload_n 0, 1) := by decide +kernel
theorem dX12_widened_69 : decode cX12_widened 69 = .ok (.getfield 8, 3) := by decide +kernel
theorem dX12_widened_72 : decode cX12_widened 72 = .ok (.bipush 12, 2) := by decide +kernel
theorem dX12_widened_74 : decode cX12_widened 74 = .ok (.iload_n 3, 1) := by decide +kernel
theorem dX12_widened_75 : decode cX12_widened 75 = .ok (.iastore, 1) := by decide +kernel
theorem dX12_widened_76 : decode cX12_widened 76 = .ok (.bipush 64, 2) := by decide +kernel
theorem dX12_widened_78 : decode cX12_widened 78 = .ok (.iload 4, 2) := by decide +kernel
theorem dX12_widened_80 : decode cX12_widened 80 = .ok (.imul, 1) := by decide +kernel
theorem dX12_widened_81 : decode cX12_widened 81 = .ok (.iload_n 1, 1) := by decide +kernel
theorem dX12_widened_82 : decode cX12_widened 82 = .ok (.iload 4, 2) := by decide +kernel
theorem dX12_widened_84 : decode cX12_widened 84 = .ok (.iand, 1) := by decide +kernel
theorem dX12_widened_85 : decode cX12_widened 85 = .ok (.iadd, 1) := by decide +kernel
theorem dX12_widened_86 : decode cX12_widened 86 = .ok (.ireturn, 1) := by decide +kernel
theorem dX12_ahead_0 : decode cX12_ahead 0 = .ok (.aload_n 0, 1) := by decide +kernel
theorem dX12_ahead_1 : decode cX12_ahead 1 = .ok (.iload_n 1, 1) := by decide +kernel
theorem dX12_ahead_2 : decode cX12_ahead 2 = .ok (.invokevirtual 360, 3) := by decide +kernel
theorem dX12_ahead_5 : decode cX12_ahead 5 = .ok (.ifCond .eq 24, 3) := by decide +kernel
theorem dX12_ahead_8 : decode cX12_ahead 8 = .ok (.aload_n 0, 1) := by decide +kernel
theorem dX12_ahead_9 : decode cX12_ahead 9 = .ok (.iload_n 2, 1) := by decide +kernel
theorem dX12_ahead_10 : decode cX12_ahead 10 = .ok (.invokevirtual 363, 3) := by decide +kernel
theorem dX12_ahead_13 : decode cX12_ahead 13 = .ok (.ifCond .eq 16, 3) := by decide +kernel
theorem dX12_ahead_16 : decode cX12_ahead 16 = .ok (.aload_n 0, 1) := by decide +kernel
theorem dX12_ahead_17 : decode cX12_ahead 17 = .ok (.iload_n 1, 1) := by decide +kernel
theorem dX12_ahead_18 : decode cX12_ahead 18 = .ok (.aload_n 0, 1) := by decide +kernel
theorem dX12_ahead_19 : decode cX12_ahead 19 = .ok (.iload_n 2, 1) := by decide +kernel
theorem dX12_ahead_20 : decode cX12_ahead 20 = .ok (.invokevirtual 264, 3) := by decide +kernel
theorem dX12_ahead_23 : decode cX12_ahead 23 = .ok (.invokevirtual 326, 3) := by decide +kernel
