theorem kB_m2 : (Int8.ofInt (-2)).toInt32 = (-2 : Int32) := by decide
theorem kB_6 : (Int8.ofInt 6).toInt32 = (6 : Int32) := by decide
theorem kB_7 : (Int8.ofInt 7).toInt32 = (7 : Int32) := by decide
theorem kB_8 : (Int8.ofInt 8).toInt32 = (8 : Int32) := by decide
theorem kB_9 : (Int8.ofInt 9).toInt32 = (9 : Int32) := by decide
theorem kB_10 : (Int8.ofInt 10).toInt32 = (10 : Int32) := by decide
theorem kB_11 : (Int8.ofInt 11).toInt32 = (11 : Int32) := by decide
theorem kB_12 : (Int8.ofInt 12).toInt32 = (12 : Int32) := by decide
theorem kB_13 : (Int8.ofInt 13).toInt32 = (13 : Int32) := by decide
theorem kB_14 : (Int8.ofInt 14).toInt32 = (14 : Int32) := by decide
theorem kB_15 : (Int8.ofInt 15).toInt32 = (15 : Int32) := by decide
theorem kB_16 : (Int8.ofInt 16).toInt32 = (16 : Int32) := by decide
theorem kB_17 : (Int8.ofInt 17).toInt32 = (17 : Int32) := by decide
theorem kB_18 : (Int8.ofInt 18).toInt32 = (18 : Int32) := by decide
theorem kB_20 : (Int8.ofInt 20).toInt32 = (20 : Int32) := by decide
theorem kB_24 : (Int8.ofInt 24).toInt32 = (24 : Int32) := by decide
theorem kB_28 : (Int8.ofInt 28).toInt32 = (28 : Int32) := by decide
theorem kB_29 : (Int8.ofInt 29).toInt32 = (29 : Int32) := by decide
theorem kB_32 : (Int8.ofInt 32).toInt32 = (32 : Int32) := by decide
theorem kB_33 : (Int8.ofInt 33).toInt32 = (33 : Int32) := by decide
theorem kB_38 : (Int8.ofInt 38).toInt32 = (38 : Int32) := by decide
theorem kB_40 : (Int8.ofInt 40).toInt32 = (40 : Int32) := by decide
theorem kB_41 : (Int8.ofInt 41).toInt32 = (41 : Int32) := by decide
theorem kB_48 : (Int8.ofInt 48).toInt32 = (48 : Int32) := by decide
theorem kB_57 : (Int8.ofInt 57).toInt32 = (57 : Int32) := by decide
theorem kB_59 : (Int8.ofInt 59).toInt32 = (59 : Int32) := by decide
theorem kB_63 : (Int8.ofInt 63).toInt32 = (63 : Int32) := by decide
theorem kB_64 : (Int8.ofInt 64).toInt32 = (64 : Int32) := by decide
theorem kB_92 : (Int8.ofInt 92).toInt32 = (92 : Int32) := by decide
theorem kB_94 : (Int8.ofInt 94).toInt32 = (94 : Int32) := by decide
theorem kB_97 : (Int8.ofInt 97).toInt32 = (97 : Int32) := by decide
theorem kB_98 : (Int8.ofInt 98).toInt32 = (98 : Int32) := by decide
theorem kB_100 : (Int8.ofInt 100).toInt32 = (100 : Int32) := by decide
theorem kB_101 : (Int8.ofInt 101).toInt32 = (101 : Int32) := by decide
theorem kB_102 : (Int8.ofInt 102).toInt32 = (102 : Int32) := by decide
theorem kB_104 : (Int8.ofInt 104).toInt32 = (104 : Int32) := by decide
theorem kB_105 : (Int8.ofInt 105).toInt32 = (105 : Int32) := by decide
theorem kB_108 : (Int8.ofInt 108).toInt32 = (108 : Int32) := by decide
theorem kB_110 : (Int8.ofInt 110).toInt32 = (110 : Int32) := by decide
theorem kB_114 : (Int8.ofInt 114).toInt32 = (114 : Int32) := by decide
theorem kB_115 : (Int8.ofInt 115).toInt32 = (115 : Int32) := by decide
theorem kB_116 : (Int8.ofInt 116).toInt32 = (116 : Int32) := by decide
theorem kB_120 : (Int8.ofInt 120).toInt32 = (120 : Int32) := by decide
theorem kB_121 : (Int8.ofInt 121).toInt32 = (121 : Int32) := by decide
theorem kB_122 : (Int8.ofInt 122).toInt32 = (122 : Int32) := by decide
theorem kB_124 : (Int8.ofInt 124).toInt32 = (124 : Int32) := by decide
theorem kI_m8 : Int32.ofInt (-8) = (-8 : Int32) := by decide
theorem kI_m1 : Int32.ofInt (-1) = (-1 : Int32) := by decide
theorem kI_0 : Int32.ofInt 0 = (0 : Int32) := by decide
theorem kI_1 : Int32.ofInt 1 = (1 : Int32) := by decide
theorem kI_2 : Int32.ofInt 2 = (2 : Int32) := by decide
theorem kI_3 : Int32.ofInt 3 = (3 : Int32) := by decide
theorem kI_4 : Int32.ofInt 4 = (4 : Int32) := by decide
theorem kI_5 : Int32.ofInt 5 = (5 : Int32) := by decide
theorem kL_0 : Int64.ofNat ((0 : Fin 2) : Nat) = (0 : Int64) := by decide
theorem kL_1 : Int64.ofNat ((1 : Fin 2) : Nat) = (1 : Int64) := by decide
theorem kS_147 : (Int16.ofInt 147).toInt32 = (147 : Int32) := by decide
theorem kS_200 : (Int16.ofInt 200).toInt32 = (200 : Int32) := by decide
theorem kS_201 : (Int16.ofInt 201).toInt32 = (201 : Int32) := by decide
theorem kS_202 : (Int16.ofInt 202).toInt32 = (202 : Int32) := by decide
theorem kS_203 : (Int16.ofInt 203).toInt32 = (203 : Int32) := by decide
theorem kS_204 : (Int16.ofInt 204).toInt32 = (204 : Int32) := by decide
theorem kS_205 : (Int16.ofInt 205).toInt32 = (205 : Int32) := by decide
theorem kS_255 : (Int16.ofInt 255).toInt32 = (255 : Int32) := by decide
theorem kS_300 : (Int16.ofInt 300).toInt32 = (300 : Int32) := by decide
theorem kS_400 : (Int16.ofInt 400).toInt32 = (400 : Int32) := by decide
theorem kS_500 : (Int16.ofInt 500).toInt32 = (500 : Int32) := by decide
theorem kS_641 : (Int16.ofInt 641).toInt32 = (641 : Int32) := by decide
theorem kS_773 : (Int16.ofInt 773).toInt32 = (773 : Int32) := by decide
theorem kS_5104 : (Int16.ofInt 5104).toInt32 = (5104 : Int32) := by decide
theorem kS_5421 : (Int16.ofInt 5421).toInt32 = (5421 : Int32) := by decide
theorem kS_5424 : (Int16.ofInt 5424).toInt32 = (5424 : Int32) := by decide
theorem kS_9999 : (Int16.ofInt 9999).toInt32 = (9999 : Int32) := by decide
theorem kS_31139 : (Int16.ofInt 31139).toInt32 = (31139 : Int32) := by decide
theorem wm_37 : Cond.selects "FencedStatesModel" ⟨"FencedStatesModel", "putSet", "(IJ)V"⟩ ⟨"FencedStatesModel", "putSet", "(IJ)V"⟩ ∈ lw_gd := lw_in (i := 37) (by decide +kernel) (by decide +kernel)
theorem wm_38 : Cond.selects "FencedStatesModel" ⟨"FencedStatesModel", "anew", "()V"⟩ ⟨"FencedStatesModel", "anew", "()V"⟩ ∈ lw_gd := lw_in (i := 38) (by decide +kernel) (by decide +kernel)
theorem wm_39 : Cond.selects "FencedStatesModel" ⟨"FencedStatesModel", "four", "(I)V"⟩ ⟨"FencedStatesModel", "four", "(I)V"⟩ ∈ lw_gd := lw_in (i := 39) (by decide +kernel) (by decide +kernel)
theorem wm_40 : Cond.selects "FencedStatesModel" ⟨"FencedStatesModel", "readText", "()I"⟩ ⟨"FencedStatesModel", "readText", "()I"⟩ ∈ lw_gd := lw_in (i := 40) (by decide +kernel) (by decide +kernel)
theorem wm_41 : Cond.selects "FencedStatesModel" ⟨"FencedStatesModel", "nextToken", "()V"⟩ ⟨"FencedStatesModel", "nextToken", "()V"⟩ ∈ lw_gd := lw_in (i := 41) (by decide +kernel) (by decide +kernel)
theorem wm_42 : Cond.selects "FencedStatesModel" ⟨"FencedStatesModel", "byteAt", "(I)I"⟩ ⟨"FencedStatesModel", "byteAt", "(I)I"⟩ ∈ lw_gd := lw_in (i := 42) (by decide +kernel) (by decide +kernel)
theorem wm_43 : Cond.selects "FencedStatesModel" ⟨"FencedStatesModel", "wordOf", "(I)I"⟩ ⟨"FencedStatesModel", "wordOf", "(I)I"⟩ ∈ lw_gd := lw_in (i := 43) (by decide +kernel) (by decide +kernel)
theorem wm_44 : Cond.selects "FencedStatesModel" ⟨"FencedStatesModel", "isFour", "(IIIII)Z"⟩ ⟨"FencedStatesModel", "isFour", "(IIIII)Z"⟩ ∈ lw_gd := lw_in (i := 44) (by decide +kernel) (by decide +kernel)
theorem wm_45 : Cond.selects "FencedStatesModel" ⟨"FencedStatesModel", "clause", "(II)I"⟩ ⟨"FencedStatesModel", "clause", "(II)I"⟩ ∈ lw_gd := lw_in (i := 45) (by decide +kernel) (by decide +kernel)
theorem wm_46 : Cond.selects "FencedStatesModel" ⟨"FencedStatesModel", "lettersClause", "(II)I"⟩ ⟨"FencedStatesModel", "lettersClause", "(II)I"⟩ ∈ lw_gd := lw_in (i := 46) (by decide +kernel) (by decide +kernel)
theorem wm_47 : Cond.selects "FencedStatesModel" ⟨"FencedStatesModel", "formAt", "(IZ)I"⟩ ⟨"FencedStatesModel", "formAt", "(IZ)I"⟩ ∈ lw_gd := lw_in (i := 47) (by decide +kernel) (by decide +kernel)
theorem wm_48 : Cond.selects "FencedStatesModel" ⟨"FencedStatesModel", "form", "()I"⟩ ⟨"FencedStatesModel", "form", "()I"⟩ ∈ lw_gd := lw_in (i := 48) (by decide +kernel) (by decide +kernel)
theorem wm_49 : Cond.selects "FencedStatesModel" ⟨"FencedStatesModel", "opened", "()I"⟩ ⟨"FencedStatesModel", "opened", "()I"⟩ ∈ lw_gd := lw_in (i := 49) (by decide +kernel) (by decide +kernel)
theorem wm_50 : Cond.selects "FencedStatesModel" ⟨"FencedStatesModel", "atom", "()I"⟩ ⟨"FencedStatesModel", "atom", "()I"⟩ ∈ lw_gd := lw_in (i := 50) (by decide +kernel) (by decide +kernel)
theorem wm_51 : Cond.selects "FencedStatesModel" ⟨"FencedStatesModel", "push", "(JJJJ)V"⟩ ⟨"FencedStatesModel", "push", "(JJJJ)V"⟩ ∈ lw_gd := lw_in (i := 51) (by decide +kernel) (by decide +kernel)
theorem wm_52 : Cond.selects "FencedStatesModel" ⟨"FencedStatesModel", "settle", "(I)V"⟩ ⟨"FencedStatesModel", "settle", "(I)V"⟩ ∈ lw_gd := lw_in (i := 52) (by decide +kernel) (by decide +kernel)
theorem wm_53 : Cond.selects "FencedStatesModel" ⟨"FencedStatesModel", "apply", "(I)V"⟩ ⟨"FencedStatesModel", "apply", "(I)V"⟩ ∈ lw_gd := lw_in (i := 53) (by decide +kernel) (by decide +kernel)
theorem wm_54 : Cond.selects "FencedStatesModel" ⟨"FencedStatesModel", "isBetween", "()Z"⟩ ⟨"FencedStatesModel", "isBetween", "()Z"⟩ ∈ lw_gd := lw_in (i := 54) (by decide +kernel) (by decide +kernel)
theorem wm_55 : Cond.selects "FencedStatesModel" ⟨"FencedStatesModel", "nextClause", "(I)I"⟩ ⟨"FencedStatesModel", "nextClause", "(I)I"⟩ ∈ lw_gd := lw_in (i := 55) (by decide +kernel) (by decide +kernel)
theorem wm_56 : Cond.selects "FencedStatesModel" ⟨"FencedStatesModel", "keep", "()V"⟩ ⟨"FencedStatesModel", "keep", "()V"⟩ ∈ lw_gd := lw_in (i := 56) (by decide +kernel) (by decide +kernel)
theorem wm_57 : Cond.selects "FencedStatesModel" ⟨"FencedStatesModel", "all", "()J"⟩ ⟨"FencedStatesModel", "all", "()J"⟩ ∈ lw_gd := lw_in (i := 57) (by decide +kernel) (by decide +kernel)
theorem wm_58 : Cond.selects "FencedStatesModel" ⟨"FencedStatesModel", "states", "()I"⟩ ⟨"FencedStatesModel", "states", "()I"⟩ ∈ lw_gd := lw_in (i := 58) (by decide +kernel) (by decide +kernel)
theorem wm_59 : Cond.selects "FencedStatesModel" ⟨"FencedStatesModel", "aimAt", "(I)V"⟩ ⟨"FencedStatesModel", "aimAt", "(I)V"⟩ ∈ lw_gd := lw_in (i := 59) (by decide +kernel) (by decide +kernel)
theorem wm_60 : Cond.selects "FencedStatesModel" ⟨"FencedStatesModel", "highest", "()I"⟩ ⟨"FencedStatesModel", "highest", "()I"⟩ ∈ lw_gd := lw_in (i := 60) (by decide +kernel) (by decide +kernel)
theorem wm_61 : Cond.selects "FencedStatesModel" ⟨"FencedStatesModel", "frameOf", "(I)I"⟩ ⟨"FencedStatesModel", "frameOf", "(I)I"⟩ ∈ lw_gd := lw_in (i := 61) (by decide +kernel) (by decide +kernel)
theorem wm_62 : Cond.selects "FencedStatesModel" ⟨"FencedStatesModel", "isOver", "()Z"⟩ ⟨"FencedStatesModel", "isOver", "()Z"⟩ ∈ lw_gd := lw_in (i := 62) (by decide +kernel) (by decide +kernel)
theorem wm_63 : Cond.selects "FencedStatesModel" ⟨"FencedStatesModel", "stepsNow", "(I)I"⟩ ⟨"FencedStatesModel", "stepsNow", "(I)I"⟩ ∈ lw_gd := lw_in (i := 63) (by decide +kernel) (by decide +kernel)
theorem wm_64 : Cond.selects "FencedStatesModel" ⟨"FencedStatesModel", "stepNow", "()V"⟩ ⟨"FencedStatesModel", "stepNow", "()V"⟩ ∈ lw_gd := lw_in (i := 64) (by decide +kernel) (by decide +kernel)
theorem wm_65 : Cond.selects "FencedStatesModel" ⟨"FencedStatesModel", "seek", "()V"⟩ ⟨"FencedStatesModel", "seek", "()V"⟩ ∈ lw_gd := lw_in (i := 65) (by decide +kernel) (by decide +kernel)
theorem wm_66 : Cond.selects "FencedStatesModel" ⟨"FencedStatesModel", "aims", "()J"⟩ ⟨"FencedStatesModel", "aims", "()J"⟩ ∈ lw_gd := lw_in (i := 66) (by decide +kernel) (by decide +kernel)
theorem wm_67 : Cond.selects "FencedStatesModel" ⟨"FencedStatesModel", "setOf", "(I)J"⟩ ⟨"FencedStatesModel", "setOf", "(I)J"⟩ ∈ lw_gd := lw_in (i := 67) (by decide +kernel) (by decide +kernel)
theorem wm_68 : Cond.selects "FencedStatesModel" ⟨"FencedStatesModel", "openAt", "(I)J"⟩ ⟨"FencedStatesModel", "openAt", "(I)J"⟩ ∈ lw_gd := lw_in (i := 68) (by decide +kernel) (by decide +kernel)
theorem wm_69 : Cond.selects "FencedStatesModel" ⟨"FencedStatesModel", "starts", "()J"⟩ ⟨"FencedStatesModel", "starts", "()J"⟩ ∈ lw_gd := lw_in (i := 69) (by decide +kernel) (by decide +kernel)
theorem wm_70 : Cond.selects "FencedStatesModel" ⟨"FencedStatesModel", "setOfCube", "(I)J"⟩ ⟨"FencedStatesModel", "setOfCube", "(I)J"⟩ ∈ lw_gd := lw_in (i := 70) (by decide +kernel) (by decide +kernel)
theorem wm_71 : Cond.selects "FencedStatesModel" ⟨"FencedStatesModel", "maskOf", "(I)I"⟩ ⟨"FencedStatesModel", "maskOf", "(I)I"⟩ ∈ lw_gd := lw_in (i := 71) (by decide +kernel) (by decide +kernel)
theorem wm_72 : Cond.selects "FencedStatesModel" ⟨"FencedStatesModel", "bitsOf", "(I)I"⟩ ⟨"FencedStatesModel", "bitsOf", "(I)I"⟩ ∈ lw_gd := lw_in (i := 72) (by decide +kernel) (by decide +kernel)
theorem wm_73 : Cond.selects "FencedStatesModel" ⟨"FencedStatesModel", "cubeSet", "(II)J"⟩ ⟨"FencedStatesModel", "cubeSet", "(II)J"⟩ ∈ lw_gd := lw_in (i := 73) (by decide +kernel) (by decide +kernel)
theorem wm_74 : Cond.selects "FencedStatesModel" ⟨"FencedStatesModel", "oblige", "(III)V"⟩ ⟨"FencedStatesModel", "oblige", "(III)V"⟩ ∈ lw_gd := lw_in (i := 74) (by decide +kernel) (by decide +kernel)
theorem wm_75 : Cond.selects "FencedStatesModel" ⟨"FencedStatesModel", "obligeOne", "()V"⟩ ⟨"FencedStatesModel", "obligeOne", "()V"⟩ ∈ lw_gd := lw_in (i := 75) (by decide +kernel) (by decide +kernel)
theorem wm_76 : Cond.selects "FencedStatesModel" ⟨"FencedStatesModel", "nextLine", "(I)I"⟩ ⟨"FencedStatesModel", "nextLine", "(I)I"⟩ ∈ lw_gd := lw_in (i := 76) (by decide +kernel) (by decide +kernel)
theorem wm_77 : Cond.selects "FencedStatesModel" ⟨"FencedStatesModel", "isEarlier", "(II)Z"⟩ ⟨"FencedStatesModel", "isEarlier", "(II)Z"⟩ ∈ lw_gd := lw_in (i := 77) (by decide +kernel) (by decide +kernel)
theorem wm_78 : Cond.selects "FencedStatesModel" ⟨"FencedStatesModel", "ofLine", "(II)I"⟩ ⟨"FencedStatesModel", "ofLine", "(II)I"⟩ ∈ lw_gd := lw_in (i := 78) (by decide +kernel) (by decide +kernel)
theorem wm_79 : Cond.selects "FencedStatesModel" ⟨"FencedStatesModel", "outLine", "(I)V"⟩ ⟨"FencedStatesModel", "outLine", "(I)V"⟩ ∈ lw_gd := lw_in (i := 79) (by decide +kernel) (by decide +kernel)
theorem wm_80 : Cond.selects "FencedStatesModel" ⟨"FencedStatesModel", "aheadOf", "(IJ)I"⟩ ⟨"FencedStatesModel", "aheadOf", "(IJ)I"⟩ ∈ lw_gd := lw_in (i := 80) (by decide +kernel) (by decide +kernel)
theorem wm_81 : Cond.selects "FencedStatesModel" ⟨"FencedStatesModel", "after", "(I)J"⟩ ⟨"FencedStatesModel", "after", "(I)J"⟩ ∈ lw_gd := lw_in (i := 81) (by decide +kernel) (by decide +kernel)
theorem wm_82 : Cond.selects "FencedStatesModel" ⟨"FencedStatesModel", "afterBy", "(II)J"⟩ ⟨"FencedStatesModel", "afterBy", "(II)J"⟩ ∈ lw_gd := lw_in (i := 82) (by decide +kernel) (by decide +kernel)
theorem wm_83 : Cond.selects "FencedStatesModel" ⟨"FencedStatesModel", "succOf", "(II)I"⟩ ⟨"FencedStatesModel", "succOf", "(II)I"⟩ ∈ lw_gd := lw_in (i := 83) (by decide +kernel) (by decide +kernel)
theorem wm_84 : Cond.selects "FencedStatesModel" ⟨"FencedStatesModel", "barState", "(I)V"⟩ ⟨"FencedStatesModel", "barState", "(I)V"⟩ ∈ lw_gd := lw_in (i := 84) (by decide +kernel) (by decide +kernel)
theorem wm_85 : Cond.selects "FencedStatesModel" ⟨"FencedStatesModel", "widen", "(II)I"⟩ ⟨"FencedStatesModel", "widen", "(II)I"⟩ ∈ lw_gd := lw_in (i := 85) (by decide +kernel) (by decide +kernel)
theorem wm_86 : Cond.selects "FencedStatesModel" ⟨"FencedStatesModel", "layOrder", "()V"⟩ ⟨"FencedStatesModel", "layOrder", "()V"⟩ ∈ lw_gd := lw_in (i := 86) (by decide +kernel) (by decide +kernel)
theorem wm_87 : Cond.selects "FencedStatesModel" ⟨"FencedStatesModel", "isAhead", "(II)Z"⟩ ⟨"FencedStatesModel", "isAhead", "(II)Z"⟩ ∈ lw_gd := lw_in (i := 87) (by decide +kernel) (by decide +kernel)
theorem wm_88 : Cond.selects "FencedStatesModel" ⟨"FencedStatesModel", "isAsked", "(III)Z"⟩ ⟨"FencedStatesModel", "isAsked", "(III)Z"⟩ ∈ lw_gd := lw_in (i := 88) (by decide +kernel) (by decide +kernel)
theorem wm_89 : Cond.selects "FencedStatesModel" ⟨"FencedStatesModel", "doesHold", "(III)Z"⟩ ⟨"FencedStatesModel", "doesHold", "(III)Z"⟩ ∈ lw_gd := lw_in (i := 89) (by decide +kernel) (by decide +kernel)
theorem wm_90 : Cond.selects "FencedStatesModel" ⟨"FencedStatesModel", "isClosed", "(JJ)Z"⟩ ⟨"FencedStatesModel", "isClosed", "(JJ)Z"⟩ ∈ lw_gd := lw_in (i := 90) (by decide +kernel) (by decide +kernel)
theorem wm_91 : Cond.selects "FencedStatesModel" ⟨"FencedStatesModel", "addCube", "(III)V"⟩ ⟨"FencedStatesModel", "addCube", "(III)V"⟩ ∈ lw_gd := lw_in (i := 91) (by decide +kernel) (by decide +kernel)
theorem wm_92 : Cond.selects "FencedStatesModel" ⟨"FencedStatesModel", "outCube", "(I)V"⟩ ⟨"FencedStatesModel", "outCube", "(I)V"⟩ ∈ lw_gd := lw_in (i := 92) (by decide +kernel) (by decide +kernel)
theorem wm_93 : Cond.selects "FencedStatesModel" ⟨"FencedStatesModel", "bump", "(I)V"⟩ ⟨"FencedStatesModel", "bump", "(I)V"⟩ ∈ lw_gd := lw_in (i := 93) (by decide +kernel) (by decide +kernel)
theorem wm_94 : Cond.selects "FencedStatesModel" ⟨"FencedStatesModel", "pushAll", "()V"⟩ ⟨"FencedStatesModel", "pushAll", "()V"⟩ ∈ lw_gd := lw_in (i := 94) (by decide +kernel) (by decide +kernel)
theorem wm_95 : Cond.selects "FencedStatesModel" ⟨"FencedStatesModel", "manyOf", "(I)I"⟩ ⟨"FencedStatesModel", "manyOf", "(I)I"⟩ ∈ lw_gd := lw_in (i := 95) (by decide +kernel) (by decide +kernel)
theorem wm_96 : Cond.selects "FencedStatesModel" ⟨"FencedStatesModel", "isMask", "(II)Z"⟩ ⟨"FencedStatesModel", "isMask", "(II)Z"⟩ ∈ lw_gd := lw_in (i := 96) (by decide +kernel) (by decide +kernel)
theorem wm_97 : Cond.selects "FencedStatesModel" ⟨"FencedStatesModel", "isState", "(I)Z"⟩ ⟨"FencedStatesModel", "isState", "(I)Z"⟩ ∈ lw_gd := lw_in (i := 97) (by decide +kernel) (by decide +kernel)
theorem wm_98 : Cond.selects "FencedStatesModel" ⟨"FencedStatesModel", "isFrame", "(I)Z"⟩ ⟨"FencedStatesModel", "isFrame", "(I)Z"⟩ ∈ lw_gd := lw_in (i := 98) (by decide +kernel) (by decide +kernel)
theorem wm_99 : Cond.selects "FencedStatesModel" ⟨"FencedStatesModel", "cubeBy", "(II)I"⟩ ⟨"FencedStatesModel", "cubeBy", "(II)I"⟩ ∈ lw_gd := lw_in (i := 99) (by decide +kernel) (by decide +kernel)
theorem wm_100 : Cond.selects "FencedStatesModel" ⟨"FencedStatesModel", "cubeAt", "(II)I"⟩ ⟨"FencedStatesModel", "cubeAt", "(II)I"⟩ ∈ lw_gd := lw_in (i := 100) (by decide +kernel) (by decide +kernel)
theorem wm_101 : Cond.selects "FencedStatesModel" ⟨"FencedStatesModel", "lineBy", "(I)I"⟩ ⟨"FencedStatesModel", "lineBy", "(I)I"⟩ ∈ lw_gd := lw_in (i := 101) (by decide +kernel) (by decide +kernel)
theorem wm_102 : Cond.selects "FencedStatesModel" ⟨"FencedStatesModel", "layTrace", "()V"⟩ ⟨"FencedStatesModel", "layTrace", "()V"⟩ ∈ lw_gd := lw_in (i := 102) (by decide +kernel) (by decide +kernel)
theorem wm_103 : Cond.selects "FencedStatesModel" ⟨"FencedStatesModel", "lineOf", "(I)I"⟩ ⟨"FencedStatesModel", "lineOf", "(I)I"⟩ ∈ lw_gd := lw_in (i := 103) (by decide +kernel) (by decide +kernel)
theorem wm_104 : Cond.selects "FencedStatesModel" ⟨"FencedStatesModel", "ofWay", "(II)I"⟩ ⟨"FencedStatesModel", "ofWay", "(II)I"⟩ ∈ lw_gd := lw_in (i := 104) (by decide +kernel) (by decide +kernel)
theorem wm_105 : Cond.selects "FencedStatesModel" ⟨"FencedStatesModel", "layFence", "()V"⟩ ⟨"FencedStatesModel", "layFence", "()V"⟩ ∈ lw_gd := lw_in (i := 105) (by decide +kernel) (by decide +kernel)
theorem wm_106 : Cond.selects "FencedStatesModel" ⟨"FencedStatesModel", "addJudged", "(II)V"⟩ ⟨"FencedStatesModel", "addJudged", "(II)V"⟩ ∈ lw_gd := lw_in (i := 106) (by decide +kernel) (by decide +kernel)
theorem wm_107 : Cond.selects "FencedStatesModel" ⟨"FencedStatesModel", "stepsTo", "(JI)I"⟩ ⟨"FencedStatesModel", "stepsTo", "(JI)I"⟩ ∈ lw_gd := lw_in (i := 107) (by decide +kernel) (by decide +kernel)
theorem wm_108 : Cond.selects "FencedStatesModel" ⟨"FencedStatesModel", "come", "(JII)J"⟩ ⟨"FencedStatesModel", "come", "(JII)J"⟩ ∈ lw_gd := lw_in (i := 108) (by decide +kernel) (by decide +kernel)
theorem wm_109 : Cond.selects "FencedStatesModel" ⟨"FencedStatesModel", "farOf", "(I)I"⟩ ⟨"FencedStatesModel", "farOf", "(I)I"⟩ ∈ lw_gd := lw_in (i := 109) (by decide +kernel) (by decide +kernel)
theorem wm_110 : Cond.selects "FencedStatesModel" ⟨"FencedStatesModel", "nearing", "(I)J"⟩ ⟨"FencedStatesModel", "nearing", "(I)J"⟩ ∈ lw_gd := lw_in (i := 110) (by decide +kernel) (by decide +kernel)
theorem wm_111 : Cond.selects "FencedStatesModel" ⟨"FencedStatesModel", "layShortest", "()V"⟩ ⟨"FencedStatesModel", "layShortest", "()V"⟩ ∈ lw_gd := lw_in (i := 111) (by decide +kernel) (by decide +kernel)
theorem wm_112 : Cond.selects "FencedStatesModel" ⟨"FencedStatesModel", "layClaims", "()V"⟩ ⟨"FencedStatesModel", "layClaims", "()V"⟩ ∈ lw_gd := lw_in (i := 112) (by decide +kernel) (by decide +kernel)
theorem wm_113 : Cond.selects "FencedStatesModel" ⟨"FencedStatesModel", "ofClaim", "(II)I"⟩ ⟨"FencedStatesModel", "ofClaim", "(II)I"⟩ ∈ lw_gd := lw_in (i := 113) (by decide +kernel) (by decide +kernel)
theorem wm_114 : Cond.selects "FencedStatesModel" ⟨"FencedStatesModel", "barredAll", "()J"⟩ ⟨"FencedStatesModel", "barredAll", "()J"⟩ ∈ lw_gd := lw_in (i := 114) (by decide +kernel) (by decide +kernel)
theorem wm_115 : Cond.selects "FencedStatesModel" ⟨"FencedStatesModel", "barredBy", "(I)J"⟩ ⟨"FencedStatesModel", "barredBy", "(I)J"⟩ ∈ lw_gd := lw_in (i := 115) (by decide +kernel) (by decide +kernel)
theorem wm_116 : Cond.selects "FencedStatesModel" ⟨"FencedStatesModel", "judge", "(J)I"⟩ ⟨"FencedStatesModel", "judge", "(J)I"⟩ ∈ lw_gd := lw_in (i := 116) (by decide +kernel) (by decide +kernel)
theorem wm_117 : Cond.selects "FencedStatesModel" ⟨"FencedStatesModel", "leadIn", "(J)I"⟩ ⟨"FencedStatesModel", "leadIn", "(J)I"⟩ ∈ lw_gd := lw_in (i := 117) (by decide +kernel) (by decide +kernel)
theorem wm_118 : Cond.selects "FencedStatesModel" ⟨"FencedStatesModel", "isLaid", "(I)Z"⟩ ⟨"FencedStatesModel", "isLaid", "(I)Z"⟩ ∈ lw_gd := lw_in (i := 118) (by decide +kernel) (by decide +kernel)
theorem wm_119 : Cond.selects "FencedStatesModel" ⟨"FencedStatesModel", "isFine", "(I)Z"⟩ ⟨"FencedStatesModel", "isFine", "(I)Z"⟩ ∈ lw_gd := lw_in (i := 119) (by decide +kernel) (by decide +kernel)
theorem wm_120 : Cond.selects "FencedStatesModel" ⟨"FencedStatesModel", "fewestOf", "(I)I"⟩ ⟨"FencedStatesModel", "fewestOf", "(I)I"⟩ ∈ lw_gd := lw_in (i := 120) (by decide +kernel) (by decide +kernel)
theorem wm_121 : Cond.selects "FencedStatesModel" ⟨"FencedStatesModel", "putAside", "()V"⟩ ⟨"FencedStatesModel", "putAside", "()V"⟩ ∈ lw_gd := lw_in (i := 121) (by decide +kernel) (by decide +kernel)
theorem wm_122 : Cond.selects "FencedStatesModel" ⟨"FencedStatesModel", "bringBack", "()V"⟩ ⟨"FencedStatesModel", "bringBack", "()V"⟩ ∈ lw_gd := lw_in (i := 122) (by decide +kernel) (by decide +kernel)
theorem wm_123 : Cond.selects "FencedStatesModel" ⟨"FencedStatesModel", "tillOver", "()I"⟩ ⟨"FencedStatesModel", "tillOver", "()I"⟩ ∈ lw_gd := lw_in (i := 123) (by decide +kernel) (by decide +kernel)
theorem wm_149 : Cond.initialized "java/lang/Float" ∈ lw_gd := lw_in (i := 149) (by decide +kernel) (by decide +kernel)
theorem wm_150 : Cond.initialized "java/lang/Double" ∈ lw_gd := lw_in (i := 150) (by decide +kernel) (by decide +kernel)
theorem wm_1401 : Cond.constant "FencedStatesModel" 7 113844 ∈ lw_gd := lw_in (i := 1401) (by decide +kernel) (by decide +kernel)
theorem wm_1402 : Cond.methodLink "FencedStatesModel" 71 ⟨"FencedStatesModel", "putSet", "(IJ)V"⟩ ∈ lw_gd := lw_in (i := 1402) (by decide +kernel) (by decide +kernel)
theorem wm_1404 : Cond.instanceMethod ⟨"FencedStatesModel", "putSet", "(IJ)V"⟩ ∈ lw_gd := lw_in (i := 1404) (by decide +kernel) (by decide +kernel)
theorem wm_1406 : Cond.methodLink "FencedStatesModel" 75 ⟨"FencedStatesModel", "anew", "()V"⟩ ∈ lw_gd := lw_in (i := 1406) (by decide +kernel) (by decide +kernel)
theorem wm_1408 : Cond.instanceMethod ⟨"FencedStatesModel", "anew", "()V"⟩ ∈ lw_gd := lw_in (i := 1408) (by decide +kernel) (by decide +kernel)
theorem wm_1410 : Cond.methodLink "FencedStatesModel" 78 ⟨"FencedStatesModel", "copy", "([I[I)V"⟩ ∈ lw_gd := lw_in (i := 1410) (by decide +kernel) (by decide +kernel)
theorem wm_1411 : Cond.static ⟨"FencedStatesModel", "copy", "([I[I)V"⟩ ∈ lw_gd := lw_in (i := 1411) (by decide +kernel) (by decide +kernel)
theorem wm_1413 : Cond.methodLink "FencedStatesModel" 82 ⟨"FencedStatesModel", "copyFloats", "([F[F)V"⟩ ∈ lw_gd := lw_in (i := 1413) (by decide +kernel) (by decide +kernel)
theorem wm_1414 : Cond.static ⟨"FencedStatesModel", "copyFloats", "([F[F)V"⟩ ∈ lw_gd := lw_in (i := 1414) (by decide +kernel) (by decide +kernel)
theorem wm_1520 : Cond.methodLink "FencedStatesModel" 127 ⟨"FencedStatesModel", "four", "(I)V"⟩ ∈ lw_gd := lw_in (i := 1520) (by decide +kernel) (by decide +kernel)
theorem wm_1522 : Cond.instanceMethod ⟨"FencedStatesModel", "four", "(I)V"⟩ ∈ lw_gd := lw_in (i := 1522) (by decide +kernel) (by decide +kernel)
theorem wm_1528 : Cond.methodLink "FencedStatesModel" 105 ⟨"FencedStatesModel", "isIn", "(III)Z"⟩ ∈ lw_gd := lw_in (i := 1528) (by decide +kernel) (by decide +kernel)
theorem wm_1529 : Cond.static ⟨"FencedStatesModel", "isIn", "(III)Z"⟩ ∈ lw_gd := lw_in (i := 1529) (by decide +kernel) (by decide +kernel)
theorem wm_1535 : Cond.methodLink "FencedStatesModel" 231 ⟨"FencedStatesModel", "readText", "()I"⟩ ∈ lw_gd := lw_in (i := 1535) (by decide +kernel) (by decide +kernel)
theorem wm_1537 : Cond.instanceMethod ⟨"FencedStatesModel", "readText", "()I"⟩ ∈ lw_gd := lw_in (i := 1537) (by decide +kernel) (by decide +kernel)
theorem wm_1539 : Cond.methodLink "FencedStatesModel" 212 ⟨"FencedStatesModel", "formsOf", "(I)I"⟩ ∈ lw_gd := lw_in (i := 1539) (by decide +kernel) (by decide +kernel)
theorem wm_1540 : Cond.static ⟨"FencedStatesModel", "formsOf", "(I)I"⟩ ∈ lw_gd := lw_in (i := 1540) (by decide +kernel) (by decide +kernel)
theorem wm_1542 : Cond.methodLink "FencedStatesModel" 121 ⟨"FencedStatesModel", "letterSet", "(I)J"⟩ ∈ lw_gd := lw_in (i := 1542) (by decide +kernel) (by decide +kernel)
theorem wm_1543 : Cond.static ⟨"FencedStatesModel", "letterSet", "(I)J"⟩ ∈ lw_gd := lw_in (i := 1543) (by decide +kernel) (by decide +kernel)
theorem wm_1545 : Cond.methodLink "FencedStatesModel" 179 ⟨"FencedStatesModel", "nextToken", "()V"⟩ ∈ lw_gd := lw_in (i := 1545) (by decide +kernel) (by decide +kernel)
theorem wm_1547 : Cond.instanceMethod ⟨"FencedStatesModel", "nextToken", "()V"⟩ ∈ lw_gd := lw_in (i := 1547) (by decide +kernel) (by decide +kernel)
theorem wm_1549 : Cond.methodLink "FencedStatesModel" 134 ⟨"FencedStatesModel", "byteAt", "(I)I"⟩ ∈ lw_gd := lw_in (i := 1549) (by decide +kernel) (by decide +kernel)
theorem wm_1551 : Cond.instanceMethod ⟨"FencedStatesModel", "byteAt", "(I)I"⟩ ∈ lw_gd := lw_in (i := 1551) (by decide +kernel) (by decide +kernel)
theorem wm_1553 : Cond.methodLink "FencedStatesModel" 151 ⟨"FencedStatesModel", "isFigure", "(I)Z"⟩ ∈ lw_gd := lw_in (i := 1553) (by decide +kernel) (by decide +kernel)
theorem wm_1554 : Cond.static ⟨"FencedStatesModel", "isFigure", "(I)Z"⟩ ∈ lw_gd := lw_in (i := 1554) (by decide +kernel) (by decide +kernel)
theorem wm_1556 : Cond.methodLink "FencedStatesModel" 155 ⟨"FencedStatesModel", "isLetterByte", "(I)Z"⟩ ∈ lw_gd := lw_in (i := 1556) (by decide +kernel) (by decide +kernel)
theorem wm_1557 : Cond.static ⟨"FencedStatesModel", "isLetterByte", "(I)Z"⟩ ∈ lw_gd := lw_in (i := 1557) (by decide +kernel) (by decide +kernel)
theorem wm_1559 : Cond.methodLink "FencedStatesModel" 158 ⟨"FencedStatesModel", "wordOf", "(I)I"⟩ ∈ lw_gd := lw_in (i := 1559) (by decide +kernel) (by decide +kernel)
theorem wm_1561 : Cond.instanceMethod ⟨"FencedStatesModel", "wordOf", "(I)I"⟩ ∈ lw_gd := lw_in (i := 1561) (by decide +kernel) (by decide +kernel)
theorem wm_1563 : Cond.methodLink "FencedStatesModel" 141 ⟨"FencedStatesModel", "isFour", "(IIIII)Z"⟩ ∈ lw_gd := lw_in (i := 1563) (by decide +kernel) (by decide +kernel)
theorem wm_1565 : Cond.instanceMethod ⟨"FencedStatesModel", "isFour", "(IIIII)Z"⟩ ∈ lw_gd := lw_in (i := 1565) (by decide +kernel) (by decide +kernel)
theorem wm_1567 : Cond.methodLink "FencedStatesModel" 161 ⟨"FencedStatesModel", "isSign", "(I)Z"⟩ ∈ lw_gd := lw_in (i := 1567) (by decide +kernel) (by decide +kernel)
theorem wm_1568 : Cond.static ⟨"FencedStatesModel", "isSign", "(I)Z"⟩ ∈ lw_gd := lw_in (i := 1568) (by decide +kernel) (by decide +kernel)
theorem wm_1570 : Cond.methodLink "FencedStatesModel" 228 ⟨"FencedStatesModel", "clause", "(II)I"⟩ ∈ lw_gd := lw_in (i := 1570) (by decide +kernel) (by decide +kernel)
theorem wm_1572 : Cond.instanceMethod ⟨"FencedStatesModel", "clause", "(II)I"⟩ ∈ lw_gd := lw_in (i := 1572) (by decide +kernel) (by decide +kernel)
theorem wm_1574 : Cond.methodLink "FencedStatesModel" 219 ⟨"FencedStatesModel", "lettersClause", "(II)I"⟩ ∈ lw_gd := lw_in (i := 1574) (by decide +kernel) (by decide +kernel)
theorem wm_1576 : Cond.instanceMethod ⟨"FencedStatesModel", "lettersClause", "(II)I"⟩ ∈ lw_gd := lw_in (i := 1576) (by decide +kernel) (by decide +kernel)
theorem wm_1578 : Cond.methodLink "FencedStatesModel" 215 ⟨"FencedStatesModel", "formAt", "(IZ)I"⟩ ∈ lw_gd := lw_in (i := 1578) (by decide +kernel) (by decide +kernel)
theorem wm_1580 : Cond.instanceMethod ⟨"FencedStatesModel", "formAt", "(IZ)I"⟩ ∈ lw_gd := lw_in (i := 1580) (by decide +kernel) (by decide +kernel)
theorem wm_1582 : Cond.methodLink "FencedStatesModel" 206 ⟨"FencedStatesModel", "form", "()I"⟩ ∈ lw_gd := lw_in (i := 1582) (by decide +kernel) (by decide +kernel)
theorem wm_1584 : Cond.instanceMethod ⟨"FencedStatesModel", "form", "()I"⟩ ∈ lw_gd := lw_in (i := 1584) (by decide +kernel) (by decide +kernel)
theorem wm_1586 : Cond.methodLink "FencedStatesModel" 196 ⟨"FencedStatesModel", "opened", "()I"⟩ ∈ lw_gd := lw_in (i := 1586) (by decide +kernel) (by decide +kernel)
theorem wm_1588 : Cond.instanceMethod ⟨"FencedStatesModel", "opened", "()I"⟩ ∈ lw_gd := lw_in (i := 1588) (by decide +kernel) (by decide +kernel)
theorem wm_1590 : Cond.methodLink "FencedStatesModel" 199 ⟨"FencedStatesModel", "atom", "()I"⟩ ∈ lw_gd := lw_in (i := 1590) (by decide +kernel) (by decide +kernel)
theorem wm_1592 : Cond.instanceMethod ⟨"FencedStatesModel", "atom", "()I"⟩ ∈ lw_gd := lw_in (i := 1592) (by decide +kernel) (by decide +kernel)
theorem wm_1594 : Cond.methodLink "FencedStatesModel" 185 ⟨"FencedStatesModel", "push", "(JJJJ)V"⟩ ∈ lw_gd := lw_in (i := 1594) (by decide +kernel) (by decide +kernel)
theorem wm_1596 : Cond.instanceMethod ⟨"FencedStatesModel", "push", "(JJJJ)V"⟩ ∈ lw_gd := lw_in (i := 1596) (by decide +kernel) (by decide +kernel)
theorem wm_1598 : Cond.constantLong "FencedStatesModel" 92 (-1) ∈ lw_gd := lw_in (i := 1598) (by decide +kernel) (by decide +kernel)
theorem wm_1599 : Cond.methodLink "FencedStatesModel" 193 ⟨"FencedStatesModel", "settle", "(I)V"⟩ ∈ lw_gd := lw_in (i := 1599) (by decide +kernel) (by decide +kernel)
theorem wm_1601 : Cond.instanceMethod ⟨"FencedStatesModel", "settle", "(I)V"⟩ ∈ lw_gd := lw_in (i := 1601) (by decide +kernel) (by decide +kernel)
theorem wm_1603 : Cond.methodLink "FencedStatesModel" 173 ⟨"FencedStatesModel", "rank", "(I)I"⟩ ∈ lw_gd := lw_in (i := 1603) (by decide +kernel) (by decide +kernel)
theorem wm_1604 : Cond.static ⟨"FencedStatesModel", "rank", "(I)I"⟩ ∈ lw_gd := lw_in (i := 1604) (by decide +kernel) (by decide +kernel)
theorem wm_1606 : Cond.methodLink "FencedStatesModel" 176 ⟨"FencedStatesModel", "apply", "(I)V"⟩ ∈ lw_gd := lw_in (i := 1606) (by decide +kernel) (by decide +kernel)
theorem wm_1608 : Cond.instanceMethod ⟨"FencedStatesModel", "apply", "(I)V"⟩ ∈ lw_gd := lw_in (i := 1608) (by decide +kernel) (by decide +kernel)
theorem wm_1610 : Cond.methodLink "FencedStatesModel" 202 ⟨"FencedStatesModel", "isBetween", "()Z"⟩ ∈ lw_gd := lw_in (i := 1610) (by decide +kernel) (by decide +kernel)
theorem wm_1612 : Cond.instanceMethod ⟨"FencedStatesModel", "isBetween", "()Z"⟩ ∈ lw_gd := lw_in (i := 1612) (by decide +kernel) (by decide +kernel)
theorem wm_1614 : Cond.methodLink "FencedStatesModel" 225 ⟨"FencedStatesModel", "nextClause", "(I)I"⟩ ∈ lw_gd := lw_in (i := 1614) (by decide +kernel) (by decide +kernel)
theorem wm_1616 : Cond.instanceMethod ⟨"FencedStatesModel", "nextClause", "(I)I"⟩ ∈ lw_gd := lw_in (i := 1616) (by decide +kernel) (by decide +kernel)
theorem wm_1626 : Cond.methodLink "FencedStatesModel" 234 ⟨"FencedStatesModel", "keep", "()V"⟩ ∈ lw_gd := lw_in (i := 1626) (by decide +kernel) (by decide +kernel)
theorem wm_1628 : Cond.instanceMethod ⟨"FencedStatesModel", "keep", "()V"⟩ ∈ lw_gd := lw_in (i := 1628) (by decide +kernel) (by decide +kernel)
theorem wm_1630 : Cond.methodLink "FencedStatesModel" 351 ⟨"FencedStatesModel", "stepAt", "(II)I"⟩ ∈ lw_gd := lw_in (i := 1630) (by decide +kernel) (by decide +kernel)
theorem wm_1631 : Cond.static ⟨"FencedStatesModel", "stepAt", "(II)I"⟩ ∈ lw_gd := lw_in (i := 1631) (by decide +kernel) (by decide +kernel)
theorem wm_1633 : Cond.methodLink "FencedStatesModel" 117 ⟨"FencedStatesModel", "all", "()J"⟩ ∈ lw_gd := lw_in (i := 1633) (by decide +kernel) (by decide +kernel)
theorem wm_1635 : Cond.instanceMethod ⟨"FencedStatesModel", "all", "()J"⟩ ∈ lw_gd := lw_in (i := 1635) (by decide +kernel) (by decide +kernel)
theorem wm_1637 : Cond.methodLink "FencedStatesModel" 94 ⟨"FencedStatesModel", "allOf", "(I)J"⟩ ∈ lw_gd := lw_in (i := 1637) (by decide +kernel) (by decide +kernel)
theorem wm_1638 : Cond.static ⟨"FencedStatesModel", "allOf", "(I)J"⟩ ∈ lw_gd := lw_in (i := 1638) (by decide +kernel) (by decide +kernel)
theorem wm_1640 : Cond.methodLink "FencedStatesModel" 101 ⟨"FencedStatesModel", "states", "()I"⟩ ∈ lw_gd := lw_in (i := 1640) (by decide +kernel) (by decide +kernel)
theorem wm_1642 : Cond.instanceMethod ⟨"FencedStatesModel", "states", "()I"⟩ ∈ lw_gd := lw_in (i := 1642) (by decide +kernel) (by decide +kernel)
theorem wm_1644 : Cond.methodLink "FencedStatesModel" 86 ⟨"FencedStatesModel", "has", "(JI)Z"⟩ ∈ lw_gd := lw_in (i := 1644) (by decide +kernel) (by decide +kernel)
theorem wm_1645 : Cond.static ⟨"FencedStatesModel", "has", "(JI)Z"⟩ ∈ lw_gd := lw_in (i := 1645) (by decide +kernel) (by decide +kernel)
theorem wm_1655 : Cond.methodLink "FencedStatesModel" 243 ⟨"FencedStatesModel", "aimAt", "(I)V"⟩ ∈ lw_gd := lw_in (i := 1655) (by decide +kernel) (by decide +kernel)
theorem wm_1657 : Cond.instanceMethod ⟨"FencedStatesModel", "aimAt", "(I)V"⟩ ∈ lw_gd := lw_in (i := 1657) (by decide +kernel) (by decide +kernel)
theorem wm_1659 : Cond.methodLink "FencedStatesModel" 240 ⟨"FencedStatesModel", "highest", "()I"⟩ ∈ lw_gd := lw_in (i := 1659) (by decide +kernel) (by decide +kernel)
theorem wm_1661 : Cond.instanceMethod ⟨"FencedStatesModel", "highest", "()I"⟩ ∈ lw_gd := lw_in (i := 1661) (by decide +kernel) (by decide +kernel)
theorem wm_1663 : Cond.methodLink "FencedStatesModel" 237 ⟨"FencedStatesModel", "frameOf", "(I)I"⟩ ∈ lw_gd := lw_in (i := 1663) (by decide +kernel) (by decide +kernel)
theorem wm_1665 : Cond.instanceMethod ⟨"FencedStatesModel", "frameOf", "(I)I"⟩ ∈ lw_gd := lw_in (i := 1665) (by decide +kernel) (by decide +kernel)
theorem wm_1679 : Cond.methodLink "FencedStatesModel" 345 ⟨"FencedStatesModel", "isOver", "()Z"⟩ ∈ lw_gd := lw_in (i := 1679) (by decide +kernel) (by decide +kernel)
theorem wm_1681 : Cond.instanceMethod ⟨"FencedStatesModel", "isOver", "()Z"⟩ ∈ lw_gd := lw_in (i := 1681) (by decide +kernel) (by decide +kernel)
theorem wm_1683 : Cond.methodLink "FencedStatesModel" 354 ⟨"FencedStatesModel", "stepsNow", "(I)I"⟩ ∈ lw_gd := lw_in (i := 1683) (by decide +kernel) (by decide +kernel)
theorem wm_1685 : Cond.instanceMethod ⟨"FencedStatesModel", "stepsNow", "(I)I"⟩ ∈ lw_gd := lw_in (i := 1685) (by decide +kernel) (by decide +kernel)
theorem wm_1687 : Cond.methodLink "FencedStatesModel" 348 ⟨"FencedStatesModel", "stepNow", "()V"⟩ ∈ lw_gd := lw_in (i := 1687) (by decide +kernel) (by decide +kernel)
theorem wm_1689 : Cond.instanceMethod ⟨"FencedStatesModel", "stepNow", "()V"⟩ ∈ lw_gd := lw_in (i := 1689) (by decide +kernel) (by decide +kernel)
theorem wm_1691 : Cond.methodLink "FencedStatesModel" 336 ⟨"FencedStatesModel", "seek", "()V"⟩ ∈ lw_gd := lw_in (i := 1691) (by decide +kernel) (by decide +kernel)
theorem wm_1693 : Cond.instanceMethod ⟨"FencedStatesModel", "seek", "()V"⟩ ∈ lw_gd := lw_in (i := 1693) (by decide +kernel) (by decide +kernel)
theorem wm_1695 : Cond.methodLink "FencedStatesModel" 300 ⟨"FencedStatesModel", "aims", "()J"⟩ ∈ lw_gd := lw_in (i := 1695) (by decide +kernel) (by decide +kernel)
theorem wm_1697 : Cond.instanceMethod ⟨"FencedStatesModel", "aims", "()J"⟩ ∈ lw_gd := lw_in (i := 1697) (by decide +kernel) (by decide +kernel)
theorem wm_1699 : Cond.methodLink "FencedStatesModel" 98 ⟨"FencedStatesModel", "setOf", "(I)J"⟩ ∈ lw_gd := lw_in (i := 1699) (by decide +kernel) (by decide +kernel)
theorem wm_1701 : Cond.instanceMethod ⟨"FencedStatesModel", "setOf", "(I)J"⟩ ∈ lw_gd := lw_in (i := 1701) (by decide +kernel) (by decide +kernel)
theorem wm_1703 : Cond.constantLong "FencedStatesModel" 90 4294967295 ∈ lw_gd := lw_in (i := 1703) (by decide +kernel) (by decide +kernel)
theorem wm_1704 : Cond.methodLink "FencedStatesModel" 264 ⟨"FencedStatesModel", "openAt", "(I)J"⟩ ∈ lw_gd := lw_in (i := 1704) (by decide +kernel) (by decide +kernel)
theorem wm_1706 : Cond.instanceMethod ⟨"FencedStatesModel", "openAt", "(I)J"⟩ ∈ lw_gd := lw_in (i := 1706) (by decide +kernel) (by decide +kernel)
theorem wm_1708 : Cond.methodLink "FencedStatesModel" 255 ⟨"FencedStatesModel", "starts", "()J"⟩ ∈ lw_gd := lw_in (i := 1708) (by decide +kernel) (by decide +kernel)
theorem wm_1710 : Cond.instanceMethod ⟨"FencedStatesModel", "starts", "()J"⟩ ∈ lw_gd := lw_in (i := 1710) (by decide +kernel) (by decide +kernel)
theorem wm_1712 : Cond.methodLink "FencedStatesModel" 258 ⟨"FencedStatesModel", "setOfCube", "(I)J"⟩ ∈ lw_gd := lw_in (i := 1712) (by decide +kernel) (by decide +kernel)
theorem wm_1714 : Cond.instanceMethod ⟨"FencedStatesModel", "setOfCube", "(I)J"⟩ ∈ lw_gd := lw_in (i := 1714) (by decide +kernel) (by decide +kernel)
theorem wm_1716 : Cond.methodLink "FencedStatesModel" 246 ⟨"FencedStatesModel", "maskOf", "(I)I"⟩ ∈ lw_gd := lw_in (i := 1716) (by decide +kernel) (by decide +kernel)
theorem wm_1718 : Cond.instanceMethod ⟨"FencedStatesModel", "maskOf", "(I)I"⟩ ∈ lw_gd := lw_in (i := 1718) (by decide +kernel) (by decide +kernel)
theorem wm_1720 : Cond.methodLink "FencedStatesModel" 249 ⟨"FencedStatesModel", "bitsOf", "(I)I"⟩ ∈ lw_gd := lw_in (i := 1720) (by decide +kernel) (by decide +kernel)
theorem wm_1722 : Cond.instanceMethod ⟨"FencedStatesModel", "bitsOf", "(I)I"⟩ ∈ lw_gd := lw_in (i := 1722) (by decide +kernel) (by decide +kernel)
theorem wm_1724 : Cond.methodLink "FencedStatesModel" 252 ⟨"FencedStatesModel", "cubeSet", "(II)J"⟩ ∈ lw_gd := lw_in (i := 1724) (by decide +kernel) (by decide +kernel)
theorem wm_1726 : Cond.instanceMethod ⟨"FencedStatesModel", "cubeSet", "(II)J"⟩ ∈ lw_gd := lw_in (i := 1726) (by decide +kernel) (by decide +kernel)
theorem wm_1728 : Cond.methodLink "FencedStatesModel" 303 ⟨"FencedStatesModel", "lowest", "(J)I"⟩ ∈ lw_gd := lw_in (i := 1728) (by decide +kernel) (by decide +kernel)
theorem wm_1729 : Cond.static ⟨"FencedStatesModel", "lowest", "(J)I"⟩ ∈ lw_gd := lw_in (i := 1729) (by decide +kernel) (by decide +kernel)
theorem wm_1731 : Cond.methodLink "FencedStatesModel" 307 ⟨"FencedStatesModel", "oblige", "(III)V"⟩ ∈ lw_gd := lw_in (i := 1731) (by decide +kernel) (by decide +kernel)
theorem wm_1733 : Cond.instanceMethod ⟨"FencedStatesModel", "oblige", "(III)V"⟩ ∈ lw_gd := lw_in (i := 1733) (by decide +kernel) (by decide +kernel)
theorem wm_1735 : Cond.methodLink "FencedStatesModel" 339 ⟨"FencedStatesModel", "obligeOne", "()V"⟩ ∈ lw_gd := lw_in (i := 1735) (by decide +kernel) (by decide +kernel)
theorem wm_1737 : Cond.instanceMethod ⟨"FencedStatesModel", "obligeOne", "()V"⟩ ∈ lw_gd := lw_in (i := 1737) (by decide +kernel) (by decide +kernel)
theorem wm_1739 : Cond.methodLink "FencedStatesModel" 323 ⟨"FencedStatesModel", "nextLine", "(I)I"⟩ ∈ lw_gd := lw_in (i := 1739) (by decide +kernel) (by decide +kernel)
theorem wm_1741 : Cond.instanceMethod ⟨"FencedStatesModel", "nextLine", "(I)I"⟩ ∈ lw_gd := lw_in (i := 1741) (by decide +kernel) (by decide +kernel)
theorem wm_1743 : Cond.methodLink "FencedStatesModel" 297 ⟨"FencedStatesModel", "isEarlier", "(II)Z"⟩ ∈ lw_gd := lw_in (i := 1743) (by decide +kernel) (by decide +kernel)
theorem wm_1745 : Cond.instanceMethod ⟨"FencedStatesModel", "isEarlier", "(II)Z"⟩ ∈ lw_gd := lw_in (i := 1745) (by decide +kernel) (by decide +kernel)
theorem wm_1747 : Cond.methodLink "FencedStatesModel" 294 ⟨"FencedStatesModel", "ofLine", "(II)I"⟩ ∈ lw_gd := lw_in (i := 1747) (by decide +kernel) (by decide +kernel)
theorem wm_1749 : Cond.instanceMethod ⟨"FencedStatesModel", "ofLine", "(II)I"⟩ ∈ lw_gd := lw_in (i := 1749) (by decide +kernel) (by decide +kernel)
theorem wm_1751 : Cond.methodLink "FencedStatesModel" 320 ⟨"FencedStatesModel", "outLine", "(I)V"⟩ ∈ lw_gd := lw_in (i := 1751) (by decide +kernel) (by decide +kernel)
theorem wm_1753 : Cond.instanceMethod ⟨"FencedStatesModel", "outLine", "(I)V"⟩ ∈ lw_gd := lw_in (i := 1753) (by decide +kernel) (by decide +kernel)
theorem wm_1755 : Cond.methodLink "FencedStatesModel" 326 ⟨"FencedStatesModel", "aheadOf", "(IJ)I"⟩ ∈ lw_gd := lw_in (i := 1755) (by decide +kernel) (by decide +kernel)
theorem wm_1757 : Cond.instanceMethod ⟨"FencedStatesModel", "aheadOf", "(IJ)I"⟩ ∈ lw_gd := lw_in (i := 1757) (by decide +kernel) (by decide +kernel)
theorem wm_1759 : Cond.methodLink "FencedStatesModel" 261 ⟨"FencedStatesModel", "after", "(I)J"⟩ ∈ lw_gd := lw_in (i := 1759) (by decide +kernel) (by decide +kernel)
theorem wm_1761 : Cond.instanceMethod ⟨"FencedStatesModel", "after", "(I)J"⟩ ∈ lw_gd := lw_in (i := 1761) (by decide +kernel) (by decide +kernel)
theorem wm_1763 : Cond.methodLink "FencedStatesModel" 113 ⟨"FencedStatesModel", "afterBy", "(II)J"⟩ ∈ lw_gd := lw_in (i := 1763) (by decide +kernel) (by decide +kernel)
theorem wm_1765 : Cond.instanceMethod ⟨"FencedStatesModel", "afterBy", "(II)J"⟩ ∈ lw_gd := lw_in (i := 1765) (by decide +kernel) (by decide +kernel)
theorem wm_1767 : Cond.methodLink "FencedStatesModel" 109 ⟨"FencedStatesModel", "succOf", "(II)I"⟩ ∈ lw_gd := lw_in (i := 1767) (by decide +kernel) (by decide +kernel)
theorem wm_1769 : Cond.instanceMethod ⟨"FencedStatesModel", "succOf", "(II)I"⟩ ∈ lw_gd := lw_in (i := 1769) (by decide +kernel) (by decide +kernel)
theorem wm_1771 : Cond.methodLink "FencedStatesModel" 330 ⟨"FencedStatesModel", "barState", "(I)V"⟩ ∈ lw_gd := lw_in (i := 1771) (by decide +kernel) (by decide +kernel)
theorem wm_1773 : Cond.instanceMethod ⟨"FencedStatesModel", "barState", "(I)V"⟩ ∈ lw_gd := lw_in (i := 1773) (by decide +kernel) (by decide +kernel)
theorem wm_1775 : Cond.methodLink "FencedStatesModel" 311 ⟨"FencedStatesModel", "widen", "(II)I"⟩ ∈ lw_gd := lw_in (i := 1775) (by decide +kernel) (by decide +kernel)
theorem wm_1777 : Cond.instanceMethod ⟨"FencedStatesModel", "widen", "(II)I"⟩ ∈ lw_gd := lw_in (i := 1777) (by decide +kernel) (by decide +kernel)
theorem wm_1779 : Cond.methodLink "FencedStatesModel" 285 ⟨"FencedStatesModel", "layOrder", "()V"⟩ ∈ lw_gd := lw_in (i := 1779) (by decide +kernel) (by decide +kernel)
theorem wm_1781 : Cond.instanceMethod ⟨"FencedStatesModel", "layOrder", "()V"⟩ ∈ lw_gd := lw_in (i := 1781) (by decide +kernel) (by decide +kernel)
theorem wm_1783 : Cond.methodLink "FencedStatesModel" 281 ⟨"FencedStatesModel", "isAhead", "(II)Z"⟩ ∈ lw_gd := lw_in (i := 1783) (by decide +kernel) (by decide +kernel)
theorem wm_1785 : Cond.instanceMethod ⟨"FencedStatesModel", "isAhead", "(II)Z"⟩ ∈ lw_gd := lw_in (i := 1785) (by decide +kernel) (by decide +kernel)
theorem wm_1787 : Cond.methodLink "FencedStatesModel" 288 ⟨"FencedStatesModel", "isAsked", "(III)Z"⟩ ∈ lw_gd := lw_in (i := 1787) (by decide +kernel) (by decide +kernel)
theorem wm_1789 : Cond.instanceMethod ⟨"FencedStatesModel", "isAsked", "(III)Z"⟩ ∈ lw_gd := lw_in (i := 1789) (by decide +kernel) (by decide +kernel)
theorem wm_1791 : Cond.methodLink "FencedStatesModel" 271 ⟨"FencedStatesModel", "doesHold", "(III)Z"⟩ ∈ lw_gd := lw_in (i := 1791) (by decide +kernel) (by decide +kernel)
theorem wm_1793 : Cond.instanceMethod ⟨"FencedStatesModel", "doesHold", "(III)Z"⟩ ∈ lw_gd := lw_in (i := 1793) (by decide +kernel) (by decide +kernel)
theorem wm_1795 : Cond.methodLink "FencedStatesModel" 267 ⟨"FencedStatesModel", "isClosed", "(JJ)Z"⟩ ∈ lw_gd := lw_in (i := 1795) (by decide +kernel) (by decide +kernel)
theorem wm_1797 : Cond.instanceMethod ⟨"FencedStatesModel", "isClosed", "(JJ)Z"⟩ ∈ lw_gd := lw_in (i := 1797) (by decide +kernel) (by decide +kernel)
theorem wm_1799 : Cond.methodLink "FencedStatesModel" 314 ⟨"FencedStatesModel", "addCube", "(III)V"⟩ ∈ lw_gd := lw_in (i := 1799) (by decide +kernel) (by decide +kernel)
theorem wm_1801 : Cond.instanceMethod ⟨"FencedStatesModel", "addCube", "(III)V"⟩ ∈ lw_gd := lw_in (i := 1801) (by decide +kernel) (by decide +kernel)
theorem wm_1803 : Cond.methodLink "FencedStatesModel" 274 ⟨"FencedStatesModel", "liesIn", "(IIII)Z"⟩ ∈ lw_gd := lw_in (i := 1803) (by decide +kernel) (by decide +kernel)
theorem wm_1804 : Cond.static ⟨"FencedStatesModel", "liesIn", "(IIII)Z"⟩ ∈ lw_gd := lw_in (i := 1804) (by decide +kernel) (by decide +kernel)
theorem wm_1806 : Cond.methodLink "FencedStatesModel" 278 ⟨"FencedStatesModel", "outCube", "(I)V"⟩ ∈ lw_gd := lw_in (i := 1806) (by decide +kernel) (by decide +kernel)
theorem wm_1808 : Cond.instanceMethod ⟨"FencedStatesModel", "outCube", "(I)V"⟩ ∈ lw_gd := lw_in (i := 1808) (by decide +kernel) (by decide +kernel)
theorem wm_1810 : Cond.methodLink "FencedStatesModel" 317 ⟨"FencedStatesModel", "bump", "(I)V"⟩ ∈ lw_gd := lw_in (i := 1810) (by decide +kernel) (by decide +kernel)
theorem wm_1812 : Cond.instanceMethod ⟨"FencedStatesModel", "bump", "(I)V"⟩ ∈ lw_gd := lw_in (i := 1812) (by decide +kernel) (by decide +kernel)
theorem wm_1814 : Cond.constantFloat "FencedStatesModel" 291 (1069547520 : UInt32) ∈ lw_gd := lw_in (i := 1814) (by decide +kernel) (by decide +kernel)
theorem wm_1815 : Cond.constantFloat "FencedStatesModel" 292 (1148846080 : UInt32) ∈ lw_gd := lw_in (i := 1815) (by decide +kernel) (by decide +kernel)
theorem wm_1816 : Cond.constantFloat "FencedStatesModel" 293 (981668463 : UInt32) ∈ lw_gd := lw_in (i := 1816) (by decide +kernel) (by decide +kernel)
theorem wm_1817 : Cond.methodLink "FencedStatesModel" 342 ⟨"FencedStatesModel", "pushAll", "()V"⟩ ∈ lw_gd := lw_in (i := 1817) (by decide +kernel) (by decide +kernel)
theorem wm_1819 : Cond.instanceMethod ⟨"FencedStatesModel", "pushAll", "()V"⟩ ∈ lw_gd := lw_in (i := 1819) (by decide +kernel) (by decide +kernel)
theorem wm_1821 : Cond.methodLink "FencedStatesModel" 333 ⟨"FencedStatesModel", "manyOf", "(I)I"⟩ ∈ lw_gd := lw_in (i := 1821) (by decide +kernel) (by decide +kernel)
theorem wm_1823 : Cond.instanceMethod ⟨"FencedStatesModel", "manyOf", "(I)I"⟩ ∈ lw_gd := lw_in (i := 1823) (by decide +kernel) (by decide +kernel)
theorem wm_1829 : Cond.methodLink "FencedStatesModel" 357 ⟨"FencedStatesModel", "isMask", "(II)Z"⟩ ∈ lw_gd := lw_in (i := 1829) (by decide +kernel) (by decide +kernel)
theorem wm_1831 : Cond.instanceMethod ⟨"FencedStatesModel", "isMask", "(II)Z"⟩ ∈ lw_gd := lw_in (i := 1831) (by decide +kernel) (by decide +kernel)
theorem wm_1841 : Cond.methodLink "FencedStatesModel" 360 ⟨"FencedStatesModel", "isState", "(I)Z"⟩ ∈ lw_gd := lw_in (i := 1841) (by decide +kernel) (by decide +kernel)
theorem wm_1843 : Cond.instanceMethod ⟨"FencedStatesModel", "isState", "(I)Z"⟩ ∈ lw_gd := lw_in (i := 1843) (by decide +kernel) (by decide +kernel)
theorem wm_1857 : Cond.methodLink "FencedStatesModel" 363 ⟨"FencedStatesModel", "isFrame", "(I)Z"⟩ ∈ lw_gd := lw_in (i := 1857) (by decide +kernel) (by decide +kernel)
theorem wm_1859 : Cond.instanceMethod ⟨"FencedStatesModel", "isFrame", "(I)Z"⟩ ∈ lw_gd := lw_in (i := 1859) (by decide +kernel) (by decide +kernel)
theorem wm_1865 : Cond.methodLink "FencedStatesModel" 366 ⟨"FencedStatesModel", "many", "(J)I"⟩ ∈ lw_gd := lw_in (i := 1865) (by decide +kernel) (by decide +kernel)
theorem wm_1866 : Cond.static ⟨"FencedStatesModel", "many", "(J)I"⟩ ∈ lw_gd := lw_in (i := 1866) (by decide +kernel) (by decide +kernel)
theorem wm_1884 : Cond.methodLink "FencedStatesModel" 369 ⟨"FencedStatesModel", "cubeBy", "(II)I"⟩ ∈ lw_gd := lw_in (i := 1884) (by decide +kernel) (by decide +kernel)
theorem wm_1886 : Cond.instanceMethod ⟨"FencedStatesModel", "cubeBy", "(II)I"⟩ ∈ lw_gd := lw_in (i := 1886) (by decide +kernel) (by decide +kernel)
theorem wm_1888 : Cond.methodLink "FencedStatesModel" 372 ⟨"FencedStatesModel", "cubeAt", "(II)I"⟩ ∈ lw_gd := lw_in (i := 1888) (by decide +kernel) (by decide +kernel)
theorem wm_1890 : Cond.instanceMethod ⟨"FencedStatesModel", "cubeAt", "(II)I"⟩ ∈ lw_gd := lw_in (i := 1890) (by decide +kernel) (by decide +kernel)
theorem wm_1896 : Cond.methodLink "FencedStatesModel" 375 ⟨"FencedStatesModel", "lineBy", "(I)I"⟩ ∈ lw_gd := lw_in (i := 1896) (by decide +kernel) (by decide +kernel)
theorem wm_1898 : Cond.instanceMethod ⟨"FencedStatesModel", "lineBy", "(I)I"⟩ ∈ lw_gd := lw_in (i := 1898) (by decide +kernel) (by decide +kernel)
theorem wm_1904 : Cond.methodLink "FencedStatesModel" 384 ⟨"FencedStatesModel", "layTrace", "()V"⟩ ∈ lw_gd := lw_in (i := 1904) (by decide +kernel) (by decide +kernel)
theorem wm_1906 : Cond.instanceMethod ⟨"FencedStatesModel", "layTrace", "()V"⟩ ∈ lw_gd := lw_in (i := 1906) (by decide +kernel) (by decide +kernel)
theorem wm_1908 : Cond.methodLink "FencedStatesModel" 381 ⟨"FencedStatesModel", "lineOf", "(I)I"⟩ ∈ lw_gd := lw_in (i := 1908) (by decide +kernel) (by decide +kernel)
theorem wm_1910 : Cond.instanceMethod ⟨"FencedStatesModel", "lineOf", "(I)I"⟩ ∈ lw_gd := lw_in (i := 1910) (by decide +kernel) (by decide +kernel)
theorem wm_1912 : Cond.methodLink "FencedStatesModel" 387 ⟨"FencedStatesModel", "ofWay", "(II)I"⟩ ∈ lw_gd := lw_in (i := 1912) (by decide +kernel) (by decide +kernel)
theorem wm_1914 : Cond.instanceMethod ⟨"FencedStatesModel", "ofWay", "(II)I"⟩ ∈ lw_gd := lw_in (i := 1914) (by decide +kernel) (by decide +kernel)
theorem wm_1920 : Cond.methodLink "FencedStatesModel" 397 ⟨"FencedStatesModel", "layFence", "()V"⟩ ∈ lw_gd := lw_in (i := 1920) (by decide +kernel) (by decide +kernel)
theorem wm_1922 : Cond.instanceMethod ⟨"FencedStatesModel", "layFence", "()V"⟩ ∈ lw_gd := lw_in (i := 1922) (by decide +kernel) (by decide +kernel)
theorem wm_1924 : Cond.methodLink "FencedStatesModel" 393 ⟨"FencedStatesModel", "addJudged", "(II)V"⟩ ∈ lw_gd := lw_in (i := 1924) (by decide +kernel) (by decide +kernel)
theorem wm_1926 : Cond.instanceMethod ⟨"FencedStatesModel", "addJudged", "(II)V"⟩ ∈ lw_gd := lw_in (i := 1926) (by decide +kernel) (by decide +kernel)
theorem wm_1932 : Cond.methodLink "FencedStatesModel" 400 ⟨"java/lang/Float", "floatToIntBits", "(F)I"⟩ ∈ lw_gd := lw_in (i := 1932) (by decide +kernel) (by decide +kernel)
theorem wm_1933 : Cond.static ⟨"java/lang/Float", "floatToIntBits", "(F)I"⟩ ∈ lw_gd := lw_in (i := 1933) (by decide +kernel) (by decide +kernel)
theorem wm_1935 : Cond.methodLink "java/lang/Float" 59 ⟨"java/lang/Float", "isNaN", "(F)Z"⟩ ∈ lw_gd := lw_in (i := 1935) (by decide +kernel) (by decide +kernel)
theorem wm_1936 : Cond.static ⟨"java/lang/Float", "isNaN", "(F)Z"⟩ ∈ lw_gd := lw_in (i := 1936) (by decide +kernel) (by decide +kernel)
theorem wm_1938 : Cond.methodLink "java/lang/Float" 74 ⟨"java/lang/Float", "floatToRawIntBits", "(F)I"⟩ ∈ lw_gd := lw_in (i := 1938) (by decide +kernel) (by decide +kernel)
theorem wm_1939 : Cond.static ⟨"java/lang/Float", "floatToRawIntBits", "(F)I"⟩ ∈ lw_gd := lw_in (i := 1939) (by decide +kernel) (by decide +kernel)
theorem wm_1940 : Cond.native ⟨"java/lang/Float", "floatToRawIntBits", "(F)I"⟩ ∈ lw_gd := lw_in (i := 1940) (by decide +kernel) (by decide +kernel)
theorem wm_1941 : Cond.constant "java/lang/Float" 77 2143289344 ∈ lw_gd := lw_in (i := 1941) (by decide +kernel) (by decide +kernel)
theorem wm_1962 : Cond.methodLink "FencedStatesModel" 410 ⟨"FencedStatesModel", "stepsTo", "(JI)I"⟩ ∈ lw_gd := lw_in (i := 1962) (by decide +kernel) (by decide +kernel)
theorem wm_1964 : Cond.instanceMethod ⟨"FencedStatesModel", "stepsTo", "(JI)I"⟩ ∈ lw_gd := lw_in (i := 1964) (by decide +kernel) (by decide +kernel)
theorem wm_1966 : Cond.methodLink "FencedStatesModel" 406 ⟨"FencedStatesModel", "come", "(JII)J"⟩ ∈ lw_gd := lw_in (i := 1966) (by decide +kernel) (by decide +kernel)
theorem wm_1968 : Cond.instanceMethod ⟨"FencedStatesModel", "come", "(JII)J"⟩ ∈ lw_gd := lw_in (i := 1968) (by decide +kernel) (by decide +kernel)
theorem wm_1990 : Cond.methodLink "FencedStatesModel" 417 ⟨"FencedStatesModel", "farOf", "(I)I"⟩ ∈ lw_gd := lw_in (i := 1990) (by decide +kernel) (by decide +kernel)
theorem wm_1992 : Cond.instanceMethod ⟨"FencedStatesModel", "farOf", "(I)I"⟩ ∈ lw_gd := lw_in (i := 1992) (by decide +kernel) (by decide +kernel)
theorem wm_1994 : Cond.methodLink "FencedStatesModel" 414 ⟨"FencedStatesModel", "nearing", "(I)J"⟩ ∈ lw_gd := lw_in (i := 1994) (by decide +kernel) (by decide +kernel)
theorem wm_1996 : Cond.instanceMethod ⟨"FencedStatesModel", "nearing", "(I)J"⟩ ∈ lw_gd := lw_in (i := 1996) (by decide +kernel) (by decide +kernel)
theorem wm_2006 : Cond.methodLink "FencedStatesModel" 420 ⟨"FencedStatesModel", "layShortest", "()V"⟩ ∈ lw_gd := lw_in (i := 2006) (by decide +kernel) (by decide +kernel)
theorem wm_2008 : Cond.instanceMethod ⟨"FencedStatesModel", "layShortest", "()V"⟩ ∈ lw_gd := lw_in (i := 2008) (by decide +kernel) (by decide +kernel)
theorem wm_2030 : Cond.methodLink "FencedStatesModel" 426 ⟨"FencedStatesModel", "layClaims", "()V"⟩ ∈ lw_gd := lw_in (i := 2030) (by decide +kernel) (by decide +kernel)
theorem wm_2032 : Cond.instanceMethod ⟨"FencedStatesModel", "layClaims", "()V"⟩ ∈ lw_gd := lw_in (i := 2032) (by decide +kernel) (by decide +kernel)
theorem wm_2034 : Cond.methodLink "FencedStatesModel" 423 ⟨"FencedStatesModel", "ofClaim", "(II)I"⟩ ∈ lw_gd := lw_in (i := 2034) (by decide +kernel) (by decide +kernel)
theorem wm_2036 : Cond.instanceMethod ⟨"FencedStatesModel", "ofClaim", "(II)I"⟩ ∈ lw_gd := lw_in (i := 2036) (by decide +kernel) (by decide +kernel)
theorem wm_2038 : Cond.methodLink "FencedStatesModel" 435 ⟨"FencedStatesModel", "barredAll", "()J"⟩ ∈ lw_gd := lw_in (i := 2038) (by decide +kernel) (by decide +kernel)
theorem wm_2040 : Cond.instanceMethod ⟨"FencedStatesModel", "barredAll", "()J"⟩ ∈ lw_gd := lw_in (i := 2040) (by decide +kernel) (by decide +kernel)
theorem wm_2042 : Cond.methodLink "FencedStatesModel" 429 ⟨"FencedStatesModel", "barredBy", "(I)J"⟩ ∈ lw_gd := lw_in (i := 2042) (by decide +kernel) (by decide +kernel)
theorem wm_2044 : Cond.instanceMethod ⟨"FencedStatesModel", "barredBy", "(I)J"⟩ ∈ lw_gd := lw_in (i := 2044) (by decide +kernel) (by decide +kernel)
theorem wm_2046 : Cond.methodLink "FencedStatesModel" 438 ⟨"FencedStatesModel", "judge", "(J)I"⟩ ∈ lw_gd := lw_in (i := 2046) (by decide +kernel) (by decide +kernel)
theorem wm_2048 : Cond.instanceMethod ⟨"FencedStatesModel", "judge", "(J)I"⟩ ∈ lw_gd := lw_in (i := 2048) (by decide +kernel) (by decide +kernel)
theorem wm_2050 : Cond.methodLink "FencedStatesModel" 432 ⟨"FencedStatesModel", "leadIn", "(J)I"⟩ ∈ lw_gd := lw_in (i := 2050) (by decide +kernel) (by decide +kernel)
theorem wm_2052 : Cond.instanceMethod ⟨"FencedStatesModel", "leadIn", "(J)I"⟩ ∈ lw_gd := lw_in (i := 2052) (by decide +kernel) (by decide +kernel)
theorem wm_2062 : Cond.methodLink "FencedStatesModel" 441 ⟨"FencedStatesModel", "isLaid", "(I)Z"⟩ ∈ lw_gd := lw_in (i := 2062) (by decide +kernel) (by decide +kernel)
theorem wm_2064 : Cond.instanceMethod ⟨"FencedStatesModel", "isLaid", "(I)Z"⟩ ∈ lw_gd := lw_in (i := 2064) (by decide +kernel) (by decide +kernel)
theorem wm_2074 : Cond.methodLink "FencedStatesModel" 444 ⟨"FencedStatesModel", "isFine", "(I)Z"⟩ ∈ lw_gd := lw_in (i := 2074) (by decide +kernel) (by decide +kernel)
theorem wm_2076 : Cond.instanceMethod ⟨"FencedStatesModel", "isFine", "(I)Z"⟩ ∈ lw_gd := lw_in (i := 2076) (by decide +kernel) (by decide +kernel)
theorem wm_2082 : Cond.methodLink "FencedStatesModel" 447 ⟨"FencedStatesModel", "fewestOf", "(I)I"⟩ ∈ lw_gd := lw_in (i := 2082) (by decide +kernel) (by decide +kernel)
theorem wm_2084 : Cond.instanceMethod ⟨"FencedStatesModel", "fewestOf", "(I)I"⟩ ∈ lw_gd := lw_in (i := 2084) (by decide +kernel) (by decide +kernel)
theorem wm_2098 : Cond.methodLink "FencedStatesModel" 450 ⟨"FencedStatesModel", "putAside", "()V"⟩ ∈ lw_gd := lw_in (i := 2098) (by decide +kernel) (by decide +kernel)
theorem wm_2100 : Cond.instanceMethod ⟨"FencedStatesModel", "putAside", "()V"⟩ ∈ lw_gd := lw_in (i := 2100) (by decide +kernel) (by decide +kernel)
theorem wm_2102 : Cond.methodLink "FencedStatesModel" 453 ⟨"FencedStatesModel", "bringBack", "()V"⟩ ∈ lw_gd := lw_in (i := 2102) (by decide +kernel) (by decide +kernel)
theorem wm_2104 : Cond.instanceMethod ⟨"FencedStatesModel", "bringBack", "()V"⟩ ∈ lw_gd := lw_in (i := 2104) (by decide +kernel) (by decide +kernel)
theorem wm_2110 : Cond.methodLink "FencedStatesModel" 456 ⟨"FencedStatesModel", "tillOver", "()I"⟩ ∈ lw_gd := lw_in (i := 2110) (by decide +kernel) (by decide +kernel)
theorem wm_2112 : Cond.instanceMethod ⟨"FencedStatesModel", "tillOver", "()I"⟩ ∈ lw_gd := lw_in (i := 2112) (by decide +kernel) (by decide +kernel)
theorem wm_2126 : Cond.methodLink "FencedStatesModel" 459 ⟨"java/lang/Double", "doubleToLongBits", "(D)J"⟩ ∈ lw_gd := lw_in (i := 2126) (by decide +kernel) (by decide +kernel)
theorem wm_2127 : Cond.static ⟨"java/lang/Double", "doubleToLongBits", "(D)J"⟩ ∈ lw_gd := lw_in (i := 2127) (by decide +kernel) (by decide +kernel)
theorem wm_2129 : Cond.methodLink "java/lang/Double" 122 ⟨"java/lang/Double", "isNaN", "(D)Z"⟩ ∈ lw_gd := lw_in (i := 2129) (by decide +kernel) (by decide +kernel)
theorem wm_2130 : Cond.static ⟨"java/lang/Double", "isNaN", "(D)Z"⟩ ∈ lw_gd := lw_in (i := 2130) (by decide +kernel) (by decide +kernel)
theorem wm_2132 : Cond.methodLink "java/lang/Double" 134 ⟨"java/lang/Double", "doubleToRawLongBits", "(D)J"⟩ ∈ lw_gd := lw_in (i := 2132) (by decide +kernel) (by decide +kernel)
theorem wm_2133 : Cond.static ⟨"java/lang/Double", "doubleToRawLongBits", "(D)J"⟩ ∈ lw_gd := lw_in (i := 2133) (by decide +kernel) (by decide +kernel)
theorem wm_2134 : Cond.native ⟨"java/lang/Double", "doubleToRawLongBits", "(D)J"⟩ ∈ lw_gd := lw_in (i := 2134) (by decide +kernel) (by decide +kernel)
theorem wm_2135 : Cond.constantLong "java/lang/Double" 137 9221120237041090560 ∈ lw_gd := lw_in (i := 2135) (by decide +kernel) (by decide +kernel)
theorem wm_oi : Cond.code Lib.objectInit ⟨#[0xb1]⟩ 1 none ∈ lw_gd := lw_in (i := 158) (by decide +kernel) (by decide +kernel)
theorem iw_X0 : ∀ w ∈ u_ws RX0 TX0 2, w ∈ lw_gd := by
  intro w hw
  have h : (u_ws RX0 TX0 2).all (fun w => lw_gd.contains w) = true := by decide +kernel
  have h2 := List.all_eq_true.mp h w hw
  simpa using h2
theorem iw_X1 : ∀ w ∈ u_ws RX1 TX1 2, w ∈ lw_gd := by
  intro w hw
  have h : (u_ws RX1 TX1 2).all (fun w => lw_gd.contains w) = true := by decide +kernel
  have h2 := List.all_eq_true.mp h w hw
  simpa using h2
theorem iw_X2 : ∀ w ∈ u_ws RX2 TX2 4, w ∈ lw_gd := by
  intro w hw
  have h : (u_ws RX2 TX2 4).all (fun w => lw_gd.contains w) = true := by decide +kernel
  have h2 := List.all_eq_true.mp h w hw
  simpa using h2
theorem iw_X5 : ∀ w ∈ u_ws RX5 TX5 7, w ∈ lw_gd := by
  intro w hw
  have h : (u_ws RX5 TX5 7).all (fun w => lw_gd.contains w) = true := by decide +kernel
  have h2 := List.all_eq_true.mp h w hw
  simpa using h2
theorem iw_X6 : ∀ w ∈ u_ws RX6 TX6 2, w ∈ lw_gd := by
  intro w hw
  have h : (u_ws RX6 TX6 2).all (fun w => lw_gd.contains w) = true := by decide +kernel
  have h2 := List.all_eq_true.mp h w hw
  simpa using h2
theorem iw_X7 : ∀ w ∈ u_ws RX7 TX7 15, w ∈ lw_gd := by
  intro w hw
  have h : (u_ws RX7 TX7 15).all (fun w => lw_gd.contains w) = true := by decide +kernel
  have h2 := List.all_eq_true.mp h w hw
  simpa using h2
theorem iw_X8 : ∀ w ∈ u_ws RX8 TX8 15, w ∈ lw_gd := by
  intro w hw
  have h : (u_ws RX8 TX8 15).all (fun w => lw_gd.contains w) = true := by decide +kernel
  have h2 := List.all_eq_true.mp h w hw
  simpa using h2
theorem iw_X10 : ∀ w ∈ u_ws RX10 TX10 5, w ∈ lw_gd := by
  intro w hw
  have h : (u_ws RX10 TX10 5).all (fun w => lw_gd.contains w) = true := by decide +kernel
  have h2 := List.all_eq_true.mp h w hw
  simpa using h2
theorem iw_X11 : ∀ w ∈ u_ws RX11 TX11 13, w ∈ lw_gd := by
  intro w hw
  have h : (u_ws RX11 TX11 13).all (fun w => lw_gd.contains w) = true := by decide +kernel
  have h2 := List.all_eq_true.mp h w hw
  simpa using h2
theorem iw_X12 : ∀ w ∈ u_ws RX12 TX12 33, w ∈ lw_gd := by
  intro w hw
  have h : (u_ws RX12 TX12 33).all (fun w => lw_gd.contains w) = true := by decide +kernel
  have h2 := List.all_eq_true.mp h w hw
  simpa using h2
theorem fl_X12_8 : FL RX12 8 9 0 := ⟨RX12, TX12, 33, rfl, iw_X12, by decide, lw_in (i := 1416) (by decide +kernel) (by decide +kernel)⟩
theorem fl_X12_14 : FL RX12 14 9 1 := ⟨RX12, TX12, 33, rfl, iw_X12, by decide, lw_in (i := 1417) (by decide +kernel) (by decide +kernel)⟩
theorem fl_X12_17 : FL RX12 17 9 2 := ⟨RX12, TX12, 33, rfl, iw_X12, by decide, lw_in (i := 1418) (by decide +kernel) (by decide +kernel)⟩
theorem fl_X12_21 : FL RX12 21 9 3 := ⟨RX12, TX12, 33, rfl, iw_X12, by decide, lw_in (i := 1419) (by decide +kernel) (by decide +kernel)⟩
theorem fl_X12_24 : FL RX12 24 9 4 := ⟨RX12, TX12, 33, rfl, iw_X12, by decide, lw_in (i := 1420) (by decide +kernel) (by decide +kernel)⟩
theorem fl_X12_27 : FL RX12 27 9 5 := ⟨RX12, TX12, 33, rfl, iw_X12, by decide, lw_in (i := 1421) (by decide +kernel) (by decide +kernel)⟩
theorem fl_X12_31 : FL RX12 31 9 6 := ⟨RX12, TX12, 33, rfl, iw_X12, by decide, lw_in (i := 1422) (by decide +kernel) (by decide +kernel)⟩
theorem fl_X12_34 : FL RX12 34 9 8 := ⟨RX12, TX12, 33, rfl, iw_X12, by decide, lw_in (i := 1424) (by decide +kernel) (by decide +kernel)⟩
theorem fl_X12_38 : FL RX12 38 9 9 := ⟨RX12, TX12, 33, rfl, iw_X12, by decide, lw_in (i := 1425) (by decide +kernel) (by decide +kernel)⟩
theorem fl_X12_41 : FL RX12 41 9 14 := ⟨RX12, TX12, 33, rfl, iw_X12, by decide, lw_in (i := 1430) (by decide +kernel) (by decide +kernel)⟩
theorem fl_X12_44 : FL RX12 44 9 15 := ⟨RX12, TX12, 33, rfl, iw_X12, by decide, lw_in (i := 1431) (by decide +kernel) (by decide +kernel)⟩
theorem fl_X12_47 : FL RX12 47 9 23 := ⟨RX12, TX12, 33, rfl, iw_X12, by decide, lw_in (i := 1439) (by decide +kernel) (by decide +kernel)⟩
theorem fl_X12_50 : FL RX12 50 9 24 := ⟨RX12, TX12, 33, rfl, iw_X12, by decide, lw_in (i := 1440) (by decide +kernel) (by decide +kernel)⟩
theorem fl_X12_53 : FL RX12 53 9 25 := ⟨RX12, TX12, 33, rfl, iw_X12, by decide, lw_in (i := 1441) (by decide +kernel) (by decide +kernel)⟩
theorem fl_X12_56 : FL RX12 56 9 26 := ⟨RX12, TX12, 33, rfl, iw_X12, by decide, lw_in (i := 1442) (by decide +kernel) (by decide +kernel)⟩
theorem fl_X12_59 : FL RX12 59 9 27 := ⟨RX12, TX12, 33, rfl, iw_X12, by decide, lw_in (i := 1443) (by decide +kernel) (by decide +kernel)⟩
theorem fl_X12_62 : FL RX12 62 9 29 := ⟨RX12, TX12, 33, rfl, iw_X12, by decide, lw_in (i := 1445) (by decide +kernel) (by decide +kernel)⟩
theorem fl_X12_65 : FL RX12 65 9 30 := ⟨RX12, TX12, 33, rfl, iw_X12, by decide, lw_in (i := 1446) (by decide +kernel) (by decide +kernel)⟩
theorem fl_X12_68 : FL RX12 68 9 32 := ⟨RX12, TX12, 33, rfl, iw_X12, by decide, lw_in (i := 1448) (by decide +kernel) (by decide +kernel)⟩
theorem fl_X12_124 : FL RX12 124 9 7 := ⟨RX12, TX12, 33, rfl, iw_X12, by decide, lw_in (i := 1423) (by decide +kernel) (by decide +kernel)⟩
theorem fl_X12_131 : FL RX12 131 9 11 := ⟨RX12, TX12, 33, rfl, iw_X12, by decide, lw_in (i := 1427) (by decide +kernel) (by decide +kernel)⟩
theorem fl_X12_138 : FL RX12 138 9 13 := ⟨RX12, TX12, 33, rfl, iw_X12, by decide, lw_in (i := 1429) (by decide +kernel) (by decide +kernel)⟩
theorem fl_X12_145 : FL RX12 145 9 10 := ⟨RX12, TX12, 33, rfl, iw_X12, by decide, lw_in (i := 1426) (by decide +kernel) (by decide +kernel)⟩
theorem fl_X12_148 : FL RX12 148 9 12 := ⟨RX12, TX12, 33, rfl, iw_X12, by decide, lw_in (i := 1428) (by decide +kernel) (by decide +kernel)⟩
theorem fl_X12_164 : FL RX12 164 9 16 := ⟨RX12, TX12, 33, rfl, iw_X12, by decide, lw_in (i := 1432) (by decide +kernel) (by decide +kernel)⟩
theorem fl_X12_167 : FL RX12 167 9 18 := ⟨RX12, TX12, 33, rfl, iw_X12, by decide, lw_in (i := 1434) (by decide +kernel) (by decide +kernel)⟩
theorem fl_X12_170 : FL RX12 170 9 17 := ⟨RX12, TX12, 33, rfl, iw_X12, by decide, lw_in (i := 1433) (by decide +kernel) (by decide +kernel)⟩
theorem fl_X12_182 : FL RX12 182 9 19 := ⟨RX12, TX12, 33, rfl, iw_X12, by decide, lw_in (i := 1435) (by decide +kernel) (by decide +kernel)⟩
theorem fl_X12_189 : FL RX12 189 9 20 := ⟨RX12, TX12, 33, rfl, iw_X12, by decide, lw_in (i := 1436) (by decide +kernel) (by decide +kernel)⟩
theorem fl_X12_209 : FL RX12 209 9 22 := ⟨RX12, TX12, 33, rfl, iw_X12, by decide, lw_in (i := 1438) (by decide +kernel) (by decide +kernel)⟩
theorem fl_X12_222 : FL RX12 222 9 21 := ⟨RX12, TX12, 33, rfl, iw_X12, by decide, lw_in (i := 1437) (by decide +kernel) (by decide +kernel)⟩
theorem fl_X12_378 : FL RX12 378 9 28 := ⟨RX12, TX12, 33, rfl, iw_X12, by decide, lw_in (i := 1444) (by decide +kernel) (by decide +kernel)⟩
theorem fl_X12_390 : FL RX12 390 9 31 := ⟨RX12, TX12, 33, rfl, iw_X12, by decide, lw_in (i := 1447) (by decide +kernel) (by decide +kernel)⟩
theorem fw_X12_34 : FW RX12 34 9 8 .int false := ⟨RX12, TX12, 33, tyX12, rfl, iw_X12, by decide, lw_in (i := 1424) (by decide +kernel) (by decide +kernel), tyX12_ok, nmX12, rfl, by decide +kernel, fun h => by cases h⟩
theorem fw_X12_38 : FW RX12 38 9 9 .int false := ⟨RX12, TX12, 33, tyX12, rfl, iw_X12, by decide, lw_in (i := 1425) (by decide +kernel) (by decide +kernel), tyX12_ok, nmX12, rfl, by decide +kernel, fun h => by cases h⟩
theorem fw_X12_124 : FW RX12 124 9 7 .int false := ⟨RX12, TX12, 33, tyX12, rfl, iw_X12, by decide, lw_in (i := 1423) (by decide +kernel) (by decide +kernel), tyX12_ok, nmX12, rfl, by decide +kernel, fun h => by cases h⟩
theorem fw_X12_131 : FW RX12 131 9 11 .int false := ⟨RX12, TX12, 33, tyX12, rfl, iw_X12, by decide, lw_in (i := 1427) (by decide +kernel) (by decide +kernel), tyX12_ok, nmX12, rfl, by decide +kernel, fun h => by cases h⟩
theorem fw_X12_138 : FW RX12 138 9 13 .int false := ⟨RX12, TX12, 33, tyX12, rfl, iw_X12, by decide, lw_in (i := 1429) (by decide +kernel) (by decide +kernel), tyX12_ok, nmX12, rfl, by decide +kernel, fun h => by cases h⟩
theorem fw_X12_145 : FW RX12 145 9 10 .int false := ⟨RX12, TX12, 33, tyX12, rfl, iw_X12, by decide, lw_in (i := 1426) (by decide +kernel) (by decide +kernel), tyX12_ok, nmX12, rfl, by decide +kernel, fun h => by cases h⟩
theorem fw_X12_148 : FW RX12 148 9 12 .int false := ⟨RX12, TX12, 33, tyX12, rfl, iw_X12, by decide, lw_in (i := 1428) (by decide +kernel) (by decide +kernel), tyX12_ok, nmX12, rfl, by decide +kernel, fun h => by cases h⟩
theorem fw_X12_164 : FW RX12 164 9 16 .int false := ⟨RX12, TX12, 33, tyX12, rfl, iw_X12, by decide, lw_in (i := 1432) (by decide +kernel) (by decide +kernel), tyX12_ok, nmX12, rfl, by decide +kernel, fun h => by cases h⟩
theorem fw_X12_167 : FW RX12 167 9 18 .int false := ⟨RX12, TX12, 33, tyX12, rfl, iw_X12, by decide, lw_in (i := 1434) (by decide +kernel) (by decide +kernel), tyX12_ok, nmX12, rfl, by decide +kernel, fun h => by cases h⟩
theorem fw_X12_170 : FW RX12 170 9 17 .int false := ⟨RX12, TX12, 33, tyX12, rfl, iw_X12, by decide, lw_in (i := 1433) (by decide +kernel) (by decide +kernel), tyX12_ok, nmX12, rfl, by decide +kernel, fun h => by cases h⟩
theorem fw_X12_182 : FW RX12 182 9 19 .int false := ⟨RX12, TX12, 33, tyX12, rfl, iw_X12, by decide, lw_in (i := 1435) (by decide +kernel) (by decide +kernel), tyX12_ok, nmX12, rfl, by decide +kernel, fun h => by cases h⟩
theorem fw_X12_189 : FW RX12 189 9 20 .boolean false := ⟨RX12, TX12, 33, tyX12, rfl, iw_X12, by decide, lw_in (i := 1436) (by decide +kernel) (by decide +kernel), tyX12_ok, nmX12, rfl, by decide +kernel, fun h => by cases h⟩
theorem fw_X12_209 : FW RX12 209 9 22 .int false := ⟨RX12, TX12, 33, tyX12, rfl, iw_X12, by decide, lw_in (i := 1438) (by decide +kernel) (by decide +kernel), tyX12_ok, nmX12, rfl, by decide +kernel, fun h => by cases h⟩
theorem fw_X12_222 : FW RX12 222 9 21 .boolean false := ⟨RX12, TX12, 33, tyX12, rfl, iw_X12, by decide, lw_in (i := 1437) (by decide +kernel) (by decide +kernel), tyX12_ok, nmX12, rfl, by decide +kernel, fun h => by cases h⟩
theorem fw_X12_378 : FW RX12 378 9 28 .int false := ⟨RX12, TX12, 33, tyX12, rfl, iw_X12, by decide, lw_in (i := 1444) (by decide +kernel) (by decide +kernel), tyX12_ok, nmX12, rfl, by decide +kernel, fun h => by cases h⟩
theorem fw_X12_390 : FW RX12 390 9 31 .int false := ⟨RX12, TX12, 33, tyX12, rfl, iw_X12, by decide, lw_in (i := 1447) (by decide +kernel) (by decide +kernel), tyX12_ok, nmX12, rfl, by decide +kernel, fun h => by cases h⟩
theorem yw_Jxe99ae_doubleToLongBits_ccdee : YW yJxe99ae_doubleToLongBits_ccdee cJxe99ae_doubleToLongBits_ccdee 2 (some .long) 1 := ⟨lw_in (i := 2128) (by decide +kernel) (by decide +kernel), lw_in (i := 150) (by decide +kernel) (by decide +kernel), by decide, by decide, by decide +kernel⟩
theorem yw_Jxe99ae_isNaN_b9ae7 : YW yJxe99ae_isNaN_b9ae7 cJxe99ae_isNaN_b9ae7 2 (some .boolean) 1 := ⟨lw_in (i := 2131) (by decide +kernel) (by decide +kernel), lw_in (i := 150) (by decide +kernel) (by decide +kernel), by decide, by decide, by decide +kernel⟩
theorem yw_Jxf58ca_floatToIntBits_5c35a : YW yJxf58ca_floatToIntBits_5c35a cJxf58ca_floatToIntBits_5c35a 1 (some .int) 1 := ⟨lw_in (i := 1934) (by decide +kernel) (by decide +kernel), lw_in (i := 149) (by decide +kernel) (by decide +kernel), by decide, by decide, by decide +kernel⟩
theorem yw_Jxf58ca_isNaN_12338 : YW yJxf58ca_isNaN_12338 cJxf58ca_isNaN_12338 1 (some .boolean) 1 := ⟨lw_in (i := 1937) (by decide +kernel) (by decide +kernel), lw_in (i := 149) (by decide +kernel) (by decide +kernel), by decide, by decide, by decide +kernel⟩
theorem yw_X12_addCube : YW yX12_addCube cX12_addCube 5 none 3 := ⟨lw_in (i := 1802) (by decide +kernel) (by decide +kernel), lw_in (i := 134) (by decide +kernel) (by decide +kernel), by decide, by decide, by decide +kernel⟩
theorem yw_X12_addJudged : YW yX12_addJudged cX12_addJudged 3 none 2 := ⟨lw_in (i := 1927) (by decide +kernel) (by decide +kernel), lw_in (i := 134) (by decide +kernel) (by decide +kernel), by decide, by decide, by decide +kernel⟩
theorem yw_X12_after : YW yX12_after cX12_after 2 (some .long) 1 := ⟨lw_in (i := 1762) (by decide +kernel) (by decide +kernel), lw_in (i := 134) (by decide +kernel) (by decide +kernel), by decide, by decide, by decide +kernel⟩
theorem yw_X12_afterBy : YW yX12_afterBy cX12_afterBy 6 (some .long) 2 := ⟨lw_in (i := 1766) (by decide +kernel) (by decide +kernel), lw_in (i := 134) (by decide +kernel) (by decide +kernel), by decide, by decide, by decide +kernel⟩
theorem yw_X12_aheadOf : YW yX12_aheadOf cX12_aheadOf 5 (some .int) 2 := ⟨lw_in (i := 1758) (by decide +kernel) (by decide +kernel), lw_in (i := 134) (by decide +kernel) (by decide +kernel), by decide, by decide, by decide +kernel⟩
theorem yw_X12_aimAt : YW yX12_aimAt cX12_aimAt 2 none 1 := ⟨lw_in (i := 1658) (by decide +kernel) (by decide +kernel), lw_in (i := 134) (by decide +kernel) (by decide +kernel), by decide, by decide, by decide +kernel⟩
theorem yw_X12_aims : YW yX12_aims cX12_aims 1 (some .long) 0 := ⟨lw_in (i := 1698) (by decide +kernel) (by decide +kernel), lw_in (i := 134) (by decide +kernel) (by decide +kernel), by decide, by decide, by decide +kernel⟩
theorem yw_X12_all : YW yX12_all cX12_all 1 (some .long) 0 := ⟨lw_in (i := 1636) (by decide +kernel) (by decide +kernel), lw_in (i := 134) (by decide +kernel) (by decide +kernel), by decide, by decide, by decide +kernel⟩
theorem yw_X12_allOf : YW yX12_allOf cX12_allOf 1 (some .long) 1 := ⟨lw_in (i := 1639) (by decide +kernel) (by decide +kernel), lw_in (i := 134) (by decide +kernel) (by decide +kernel), by decide, by decide, by decide +kernel⟩
theorem yw_X12_anew : YW yX12_anew cX12_anew 2 none 0 := ⟨lw_in (i := 1409) (by decide +kernel) (by decide +kernel), lw_in (i := 134) (by decide +kernel) (by decide +kernel), by decide, by decide, by decide +kernel⟩
theorem yw_X12_apply : YW yX12_apply cX12_apply 4 none 1 := ⟨lw_in (i := 1609) (by decide +kernel) (by decide +kernel), lw_in (i := 134) (by decide +kernel) (by decide +kernel), by decide, by decide, by decide +kernel⟩
theorem yw_X12_atom : YW yX12_atom cX12_atom 3 (some .int) 0 := ⟨lw_in (i := 1593) (by decide +kernel) (by decide +kernel), lw_in (i := 134) (by decide +kernel) (by decide +kernel), by decide, by decide, by decide +kernel⟩
theorem yw_X12_barState : YW yX12_barState cX12_barState 6 none 1 := ⟨lw_in (i := 1774) (by decide +kernel) (by decide +kernel), lw_in (i := 134) (by decide +kernel) (by decide +kernel), by decide, by decide, by decide +kernel⟩
theorem yw_X12_barredAll : YW yX12_barredAll cX12_barredAll 4 (some .long) 0 := ⟨lw_in (i := 2041) (by decide +kernel) (by decide +kernel), lw_in (i := 134) (by decide +kernel) (by decide +kernel), by decide, by decide, by decide +kernel⟩
theorem yw_X12_barredBy : YW yX12_barredBy cX12_barredBy 2 (some .long) 1 := ⟨lw_in (i := 2045) (by decide +kernel) (by decide +kernel), lw_in (i := 134) (by decide +kernel) (by decide +kernel), by decide, by decide, by decide +kernel⟩
theorem yw_X12_bitsOf : YW yX12_bitsOf cX12_bitsOf 2 (some .int) 1 := ⟨lw_in (i := 1723) (by decide +kernel) (by decide +kernel), lw_in (i := 134) (by decide +kernel) (by decide +kernel), by decide, by decide, by decide +kernel⟩
theorem yw_X12_bringBack : YW yX12_bringBack cX12_bringBack 2 none 0 := ⟨lw_in (i := 2105) (by decide +kernel) (by decide +kernel), lw_in (i := 134) (by decide +kernel) (by decide +kernel), by decide, by decide, by decide +kernel⟩
theorem yw_X12_bump : YW yX12_bump cX12_bump 4 none 1 := ⟨lw_in (i := 1813) (by decide +kernel) (by decide +kernel), lw_in (i := 134) (by decide +kernel) (by decide +kernel), by decide, by decide, by decide +kernel⟩
theorem yw_X12_byteAt : YW yX12_byteAt cX12_byteAt 2 (some .int) 1 := ⟨lw_in (i := 1552) (by decide +kernel) (by decide +kernel), lw_in (i := 134) (by decide +kernel) (by decide +kernel), by decide, by decide, by decide +kernel⟩
theorem yw_X12_clause : YW yX12_clause cX12_clause 4 (some .int) 2 := ⟨lw_in (i := 1573) (by decide +kernel) (by decide +kernel), lw_in (i := 134) (by decide +kernel) (by decide +kernel), by decide, by decide, by decide +kernel⟩
theorem yw_X12_come : YW yX12_come cX12_come 11 (some .long) 3 := ⟨lw_in (i := 1969) (by decide +kernel) (by decide +kernel), lw_in (i := 134) (by decide +kernel) (by decide +kernel), by decide, by decide, by decide +kernel⟩
theorem yw_X12_copy : YW yX12_copy cX12_copy 3 none 2 := ⟨lw_in (i := 1412) (by decide +kernel) (by decide +kernel), lw_in (i := 134) (by decide +kernel) (by decide +kernel), by decide, by decide, by decide +kernel⟩
theorem yw_X12_copyFloats : YW yX12_copyFloats cX12_copyFloats 3 none 2 := ⟨lw_in (i := 1415) (by decide +kernel) (by decide +kernel), lw_in (i := 134) (by decide +kernel) (by decide +kernel), by decide, by decide, by decide +kernel⟩
theorem yw_X12_cubeAt : YW yX12_cubeAt cX12_cubeAt 3 (some .int) 2 := ⟨lw_in (i := 1891) (by decide +kernel) (by decide +kernel), lw_in (i := 134) (by decide +kernel) (by decide +kernel), by decide, by decide, by decide +kernel⟩
theorem yw_X12_cubeBy : YW yX12_cubeBy cX12_cubeBy 5 (some .int) 2 := ⟨lw_in (i := 1887) (by decide +kernel) (by decide +kernel), lw_in (i := 134) (by decide +kernel) (by decide +kernel), by decide, by decide, by decide +kernel⟩
theorem yw_X12_cubeSet : YW yX12_cubeSet cX12_cubeSet 6 (some .long) 2 := ⟨lw_in (i := 1727) (by decide +kernel) (by decide +kernel), lw_in (i := 134) (by decide +kernel) (by decide +kernel), by decide, by decide, by decide +kernel⟩
theorem yw_X12_doesHold : YW yX12_doesHold cX12_doesHold 4 (some .boolean) 3 := ⟨lw_in (i := 1794) (by decide +kernel) (by decide +kernel), lw_in (i := 134) (by decide +kernel) (by decide +kernel), by decide, by decide, by decide +kernel⟩
theorem yw_X12_farOf : YW yX12_farOf cX12_farOf 3 (some .int) 1 := ⟨lw_in (i := 1993) (by decide +kernel) (by decide +kernel), lw_in (i := 134) (by decide +kernel) (by decide +kernel), by decide, by decide, by decide +kernel⟩
theorem yw_X12_fewestOf : YW yX12_fewestOf cX12_fewestOf 7 (some .int) 1 := ⟨lw_in (i := 2085) (by decide +kernel) (by decide +kernel), lw_in (i := 134) (by decide +kernel) (by decide +kernel), by decide, by decide, by decide +kernel⟩
theorem yw_X12_form : YW yX12_form cX12_form 4 (some .int) 0 := ⟨lw_in (i := 1585) (by decide +kernel) (by decide +kernel), lw_in (i := 134) (by decide +kernel) (by decide +kernel), by decide, by decide, by decide +kernel⟩
theorem yw_X12_formAt : YW yX12_formAt cX12_formAt 5 (some .int) 2 := ⟨lw_in (i := 1581) (by decide +kernel) (by decide +kernel), lw_in (i := 134) (by decide +kernel) (by decide +kernel), by decide, by decide, by decide +kernel⟩
theorem yw_X12_formsOf : YW yX12_formsOf cX12_formsOf 1 (some .int) 1 := ⟨lw_in (i := 1541) (by decide +kernel) (by decide +kernel), lw_in (i := 134) (by decide +kernel) (by decide +kernel), by decide, by decide, by decide +kernel⟩
theorem yw_X12_four : YW yX12_four cX12_four 3 none 1 := ⟨lw_in (i := 1523) (by decide +kernel) (by decide +kernel), lw_in (i := 134) (by decide +kernel) (by decide +kernel), by decide, by decide, by decide +kernel⟩
theorem yw_X12_frameOf : YW yX12_frameOf cX12_frameOf 2 (some .int) 1 := ⟨lw_in (i := 1666) (by decide +kernel) (by decide +kernel), lw_in (i := 134) (by decide +kernel) (by decide +kernel), by decide, by decide, by decide +kernel⟩
theorem yw_X12_has : YW yX12_has cX12_has 3 (some .boolean) 2 := ⟨lw_in (i := 1646) (by decide +kernel) (by decide +kernel), lw_in (i := 134) (by decide +kernel) (by decide +kernel), by decide, by decide, by decide +kernel⟩
theorem yw_X12_highest : YW yX12_highest cX12_highest 3 (some .int) 0 := ⟨lw_in (i := 1662) (by decide +kernel) (by decide +kernel), lw_in (i := 134) (by decide +kernel) (by decide +kernel), by decide, by decide, by decide +kernel⟩
theorem yw_X12_isAhead : YW yX12_isAhead cX12_isAhead 3 (some .boolean) 2 := ⟨lw_in (i := 1786) (by decide +kernel) (by decide +kernel), lw_in (i := 134) (by decide +kernel) (by decide +kernel), by decide, by decide, by decide +kernel⟩
theorem yw_X12_isAsked : YW yX12_isAsked cX12_isAsked 4 (some .boolean) 3 := ⟨lw_in (i := 1790) (by decide +kernel) (by decide +kernel), lw_in (i := 134) (by decide +kernel) (by decide +kernel), by decide, by decide, by decide +kernel⟩
theorem yw_X12_isBetween : YW yX12_isBetween cX12_isBetween 1 (some .boolean) 0 := ⟨lw_in (i := 1613) (by decide +kernel) (by decide +kernel), lw_in (i := 134) (by decide +kernel) (by decide +kernel), by decide, by decide, by decide +kernel⟩
theorem yw_X12_isClosed : YW yX12_isClosed cX12_isClosed 6 (some .boolean) 2 := ⟨lw_in (i := 1798) (by decide +kernel) (by decide +kernel), lw_in (i := 134) (by decide +kernel) (by decide +kernel), by decide, by decide, by decide +kernel⟩
theorem yw_X12_isEarlier : YW yX12_isEarlier cX12_isEarlier 4 (some .boolean) 2 := ⟨lw_in (i := 1746) (by decide +kernel) (by decide +kernel), lw_in (i := 134) (by decide +kernel) (by decide +kernel), by decide, by decide, by decide +kernel⟩
theorem yw_X12_isFigure : YW yX12_isFigure cX12_isFigure 1 (some .boolean) 1 := ⟨lw_in (i := 1555) (by decide +kernel) (by decide +kernel), lw_in (i := 134) (by decide +kernel) (by decide +kernel), by decide, by decide, by decide +kernel⟩
theorem yw_X12_isFine : YW yX12_isFine cX12_isFine 2 (some .boolean) 1 := ⟨lw_in (i := 2077) (by decide +kernel) (by decide +kernel), lw_in (i := 134) (by decide +kernel) (by decide +kernel), by decide, by decide, by decide +kernel⟩
theorem yw_X12_isFour : YW yX12_isFour cX12_isFour 6 (some .boolean) 5 := ⟨lw_in (i := 1566) (by decide +kernel) (by decide +kernel), lw_in (i := 134) (by decide +kernel) (by decide +kernel), by decide, by decide, by decide +kernel⟩
theorem yw_X12_isFrame : YW yX12_isFrame cX12_isFrame 2 (some .boolean) 1 := ⟨lw_in (i := 1860) (by decide +kernel) (by decide +kernel), lw_in (i := 134) (by decide +kernel) (by decide +kernel), by decide, by decide, by decide +kernel⟩
theorem yw_X12_isIn : YW yX12_isIn cX12_isIn 3 (some .boolean) 3 := ⟨lw_in (i := 1530) (by decide +kernel) (by decide +kernel), lw_in (i := 134) (by decide +kernel) (by decide +kernel), by decide, by decide, by decide +kernel⟩
theorem yw_X12_isLaid : YW yX12_isLaid cX12_isLaid 3 (some .boolean) 1 := ⟨lw_in (i := 2065) (by decide +kernel) (by decide +kernel), lw_in (i := 134) (by decide +kernel) (by decide +kernel), by decide, by decide, by decide +kernel⟩
theorem yw_X12_isLetterByte : YW yX12_isLetterByte cX12_isLetterByte 1 (some .boolean) 1 := ⟨lw_in (i := 1558) (by decide +kernel) (by decide +kernel), lw_in (i := 134) (by decide +kernel) (by decide +kernel), by decide, by decide, by decide +kernel⟩
theorem yw_X12_isMask : YW yX12_isMask cX12_isMask 3 (some .boolean) 2 := ⟨lw_in (i := 1832) (by decide +kernel) (by decide +kernel), lw_in (i := 134) (by decide +kernel) (by decide +kernel), by decide, by decide, by decide +kernel⟩
theorem yw_X12_isOver : YW yX12_isOver cX12_isOver 1 (some .boolean) 0 := ⟨lw_in (i := 1682) (by decide +kernel) (by decide +kernel), lw_in (i := 134) (by decide +kernel) (by decide +kernel), by decide, by decide, by decide +kernel⟩
theorem yw_X12_isSign : YW yX12_isSign cX12_isSign 1 (some .boolean) 1 := ⟨lw_in (i := 1569) (by decide +kernel) (by decide +kernel), lw_in (i := 134) (by decide +kernel) (by decide +kernel), by decide, by decide, by decide +kernel⟩
theorem yw_X12_isState : YW yX12_isState cX12_isState 2 (some .boolean) 1 := ⟨lw_in (i := 1844) (by decide +kernel) (by decide +kernel), lw_in (i := 134) (by decide +kernel) (by decide +kernel), by decide, by decide, by decide +kernel⟩
theorem yw_X12_judge : YW yX12_judge cX12_judge 3 (some .int) 1 := ⟨lw_in (i := 2049) (by decide +kernel) (by decide +kernel), lw_in (i := 134) (by decide +kernel) (by decide +kernel), by decide, by decide, by decide +kernel⟩
theorem yw_X12_keep : YW yX12_keep cX12_keep 3 none 0 := ⟨lw_in (i := 1629) (by decide +kernel) (by decide +kernel), lw_in (i := 134) (by decide +kernel) (by decide +kernel), by decide, by decide, by decide +kernel⟩
theorem yw_X12_layClaims : YW yX12_layClaims cX12_layClaims 2 none 0 := ⟨lw_in (i := 2033) (by decide +kernel) (by decide +kernel), lw_in (i := 134) (by decide +kernel) (by decide +kernel), by decide, by decide, by decide +kernel⟩
theorem yw_X12_layFence : YW yX12_layFence cX12_layFence 3 none 0 := ⟨lw_in (i := 1923) (by decide +kernel) (by decide +kernel), lw_in (i := 134) (by decide +kernel) (by decide +kernel), by decide, by decide, by decide +kernel⟩
theorem yw_X12_layOrder : YW yX12_layOrder cX12_layOrder 3 none 0 := ⟨lw_in (i := 1782) (by decide +kernel) (by decide +kernel), lw_in (i := 134) (by decide +kernel) (by decide +kernel), by decide, by decide, by decide +kernel⟩
theorem yw_X12_layShortest : YW yX12_layShortest cX12_layShortest 2 none 0 := ⟨lw_in (i := 2009) (by decide +kernel) (by decide +kernel), lw_in (i := 134) (by decide +kernel) (by decide +kernel), by decide, by decide, by decide +kernel⟩
theorem yw_X12_layTrace : YW yX12_layTrace cX12_layTrace 2 none 0 := ⟨lw_in (i := 1907) (by decide +kernel) (by decide +kernel), lw_in (i := 134) (by decide +kernel) (by decide +kernel), by decide, by decide, by decide +kernel⟩
theorem yw_X12_leadIn : YW yX12_leadIn cX12_leadIn 4 (some .int) 1 := ⟨lw_in (i := 2053) (by decide +kernel) (by decide +kernel), lw_in (i := 134) (by decide +kernel) (by decide +kernel), by decide, by decide, by decide +kernel⟩
theorem yw_X12_letterSet : YW yX12_letterSet cX12_letterSet 4 (some .long) 1 := ⟨lw_in (i := 1544) (by decide +kernel) (by decide +kernel), lw_in (i := 134) (by decide +kernel) (by decide +kernel), by decide, by decide, by decide +kernel⟩
theorem yw_X12_lettersClause : YW yX12_lettersClause cX12_lettersClause 3 (some .int) 2 := ⟨lw_in (i := 1577) (by decide +kernel) (by decide +kernel), lw_in (i := 134) (by decide +kernel) (by decide +kernel), by decide, by decide, by decide +kernel⟩
theorem yw_X12_liesIn : YW yX12_liesIn cX12_liesIn 4 (some .boolean) 4 := ⟨lw_in (i := 1805) (by decide +kernel) (by decide +kernel), lw_in (i := 134) (by decide +kernel) (by decide +kernel), by decide, by decide, by decide +kernel⟩
theorem yw_X12_lineBy : YW yX12_lineBy cX12_lineBy 4 (some .int) 1 := ⟨lw_in (i := 1899) (by decide +kernel) (by decide +kernel), lw_in (i := 134) (by decide +kernel) (by decide +kernel), by decide, by decide, by decide +kernel⟩
theorem yw_X12_lineOf : YW yX12_lineOf cX12_lineOf 3 (some .int) 1 := ⟨lw_in (i := 1911) (by decide +kernel) (by decide +kernel), lw_in (i := 134) (by decide +kernel) (by decide +kernel), by decide, by decide, by decide +kernel⟩
theorem yw_X12_lowest : YW yX12_lowest cX12_lowest 3 (some .int) 1 := ⟨lw_in (i := 1730) (by decide +kernel) (by decide +kernel), lw_in (i := 134) (by decide +kernel) (by decide +kernel), by decide, by decide, by decide +kernel⟩
theorem yw_X12_many : YW yX12_many cX12_many 5 (some .int) 1 := ⟨lw_in (i := 1867) (by decide +kernel) (by decide +kernel), lw_in (i := 134) (by decide +kernel) (by decide +kernel), by decide, by decide, by decide +kernel⟩
theorem yw_X12_manyOf : YW yX12_manyOf cX12_manyOf 4 (some .int) 1 := ⟨lw_in (i := 1824) (by decide +kernel) (by decide +kernel), lw_in (i := 134) (by decide +kernel) (by decide +kernel), by decide, by decide, by decide +kernel⟩
theorem yw_X12_maskOf : YW yX12_maskOf cX12_maskOf 2 (some .int) 1 := ⟨lw_in (i := 1719) (by decide +kernel) (by decide +kernel), lw_in (i := 134) (by decide +kernel) (by decide +kernel), by decide, by decide, by decide +kernel⟩
theorem yw_X12_nearing : YW yX12_nearing cX12_nearing 8 (some .long) 1 := ⟨lw_in (i := 1997) (by decide +kernel) (by decide +kernel), lw_in (i := 134) (by decide +kernel) (by decide +kernel), by decide, by decide, by decide +kernel⟩
theorem yw_X12_nextClause : YW yX12_nextClause cX12_nextClause 3 (some .int) 1 := ⟨lw_in (i := 1617) (by decide +kernel) (by decide +kernel), lw_in (i := 134) (by decide +kernel) (by decide +kernel), by decide, by decide, by decide +kernel⟩
theorem yw_X12_nextLine : YW yX12_nextLine cX12_nextLine 4 (some .int) 1 := ⟨lw_in (i := 1742) (by decide +kernel) (by decide +kernel), lw_in (i := 134) (by decide +kernel) (by decide +kernel), by decide, by decide, by decide +kernel⟩
theorem yw_X12_nextToken : YW yX12_nextToken cX12_nextToken 2 none 0 := ⟨lw_in (i := 1548) (by decide +kernel) (by decide +kernel), lw_in (i := 134) (by decide +kernel) (by decide +kernel), by decide, by decide, by decide +kernel⟩
theorem yw_X12_oblige : YW yX12_oblige cX12_oblige 5 none 3 := ⟨lw_in (i := 1734) (by decide +kernel) (by decide +kernel), lw_in (i := 134) (by decide +kernel) (by decide +kernel), by decide, by decide, by decide +kernel⟩
theorem yw_X12_obligeOne : YW yX12_obligeOne cX12_obligeOne 5 none 0 := ⟨lw_in (i := 1738) (by decide +kernel) (by decide +kernel), lw_in (i := 134) (by decide +kernel) (by decide +kernel), by decide, by decide, by decide +kernel⟩
theorem yw_X12_ofClaim : YW yX12_ofClaim cX12_ofClaim 3 (some .int) 2 := ⟨lw_in (i := 2037) (by decide +kernel) (by decide +kernel), lw_in (i := 134) (by decide +kernel) (by decide +kernel), by decide, by decide, by decide +kernel⟩
theorem yw_X12_ofLine : YW yX12_ofLine cX12_ofLine 3 (some .int) 2 := ⟨lw_in (i := 1750) (by decide +kernel) (by decide +kernel), lw_in (i := 134) (by decide +kernel) (by decide +kernel), by decide, by decide, by decide +kernel⟩
theorem yw_X12_ofWay : YW yX12_ofWay cX12_ofWay 4 (some .int) 2 := ⟨lw_in (i := 1915) (by decide +kernel) (by decide +kernel), lw_in (i := 134) (by decide +kernel) (by decide +kernel), by decide, by decide, by decide +kernel⟩
theorem yw_X12_openAt : YW yX12_openAt cX12_openAt 5 (some .long) 1 := ⟨lw_in (i := 1707) (by decide +kernel) (by decide +kernel), lw_in (i := 134) (by decide +kernel) (by decide +kernel), by decide, by decide, by decide +kernel⟩
theorem yw_X12_opened : YW yX12_opened cX12_opened 1 (some .int) 0 := ⟨lw_in (i := 1589) (by decide +kernel) (by decide +kernel), lw_in (i := 134) (by decide +kernel) (by decide +kernel), by decide, by decide, by decide +kernel⟩
theorem yw_X12_outCube : YW yX12_outCube cX12_outCube 3 none 1 := ⟨lw_in (i := 1809) (by decide +kernel) (by decide +kernel), lw_in (i := 134) (by decide +kernel) (by decide +kernel), by decide, by decide, by decide +kernel⟩
theorem yw_X12_outLine : YW yX12_outLine cX12_outLine 3 none 1 := ⟨lw_in (i := 1754) (by decide +kernel) (by decide +kernel), lw_in (i := 134) (by decide +kernel) (by decide +kernel), by decide, by decide, by decide +kernel⟩
theorem yw_X12_push : YW yX12_push cX12_push 9 none 4 := ⟨lw_in (i := 1597) (by decide +kernel) (by decide +kernel), lw_in (i := 134) (by decide +kernel) (by decide +kernel), by decide, by decide, by decide +kernel⟩
theorem yw_X12_pushAll : YW yX12_pushAll cX12_pushAll 7 none 0 := ⟨lw_in (i := 1820) (by decide +kernel) (by decide +kernel), lw_in (i := 134) (by decide +kernel) (by decide +kernel), by decide, by decide, by decide +kernel⟩
theorem yw_X12_putAside : YW yX12_putAside cX12_putAside 2 none 0 := ⟨lw_in (i := 2101) (by decide +kernel) (by decide +kernel), lw_in (i := 134) (by decide +kernel) (by decide +kernel), by decide, by decide, by decide +kernel⟩
theorem yw_X12_putSet : YW yX12_putSet cX12_putSet 4 none 2 := ⟨lw_in (i := 1405) (by decide +kernel) (by decide +kernel), lw_in (i := 134) (by decide +kernel) (by decide +kernel), by decide, by decide, by decide +kernel⟩
theorem yw_X12_rank : YW yX12_rank cX12_rank 1 (some .int) 1 := ⟨lw_in (i := 1605) (by decide +kernel) (by decide +kernel), lw_in (i := 134) (by decide +kernel) (by decide +kernel), by decide, by decide, by decide +kernel⟩
theorem yw_X12_readText : YW yX12_readText cX12_readText 5 (some .int) 0 := ⟨lw_in (i := 1538) (by decide +kernel) (by decide +kernel), lw_in (i := 134) (by decide +kernel) (by decide +kernel), by decide, by decide, by decide +kernel⟩
theorem yw_X12_seek : YW yX12_seek cX12_seek 4 none 0 := ⟨lw_in (i := 1694) (by decide +kernel) (by decide +kernel), lw_in (i := 134) (by decide +kernel) (by decide +kernel), by decide, by decide, by decide +kernel⟩
theorem yw_X12_setOf : YW yX12_setOf cX12_setOf 2 (some .long) 1 := ⟨lw_in (i := 1702) (by decide +kernel) (by decide +kernel), lw_in (i := 134) (by decide +kernel) (by decide +kernel), by decide, by decide, by decide +kernel⟩
theorem yw_X12_setOfCube : YW yX12_setOfCube cX12_setOfCube 2 (some .long) 1 := ⟨lw_in (i := 1715) (by decide +kernel) (by decide +kernel), lw_in (i := 134) (by decide +kernel) (by decide +kernel), by decide, by decide, by decide +kernel⟩
theorem yw_X12_settle : YW yX12_settle cX12_settle 2 none 1 := ⟨lw_in (i := 1602) (by decide +kernel) (by decide +kernel), lw_in (i := 134) (by decide +kernel) (by decide +kernel), by decide, by decide, by decide +kernel⟩
theorem yw_X12_starts : YW yX12_starts cX12_starts 1 (some .long) 0 := ⟨lw_in (i := 1711) (by decide +kernel) (by decide +kernel), lw_in (i := 134) (by decide +kernel) (by decide +kernel), by decide, by decide, by decide +kernel⟩
theorem yw_X12_states : YW yX12_states cX12_states 1 (some .int) 0 := ⟨lw_in (i := 1643) (by decide +kernel) (by decide +kernel), lw_in (i := 134) (by decide +kernel) (by decide +kernel), by decide, by decide, by decide +kernel⟩
theorem yw_X12_stepAt : YW yX12_stepAt cX12_stepAt 2 (some .int) 2 := ⟨lw_in (i := 1632) (by decide +kernel) (by decide +kernel), lw_in (i := 134) (by decide +kernel) (by decide +kernel), by decide, by decide, by decide +kernel⟩
theorem yw_X12_stepNow : YW yX12_stepNow cX12_stepNow 1 none 0 := ⟨lw_in (i := 1690) (by decide +kernel) (by decide +kernel), lw_in (i := 134) (by decide +kernel) (by decide +kernel), by decide, by decide, by decide +kernel⟩
theorem yw_X12_stepsNow : YW yX12_stepsNow cX12_stepsNow 3 (some .int) 1 := ⟨lw_in (i := 1686) (by decide +kernel) (by decide +kernel), lw_in (i := 134) (by decide +kernel) (by decide +kernel), by decide, by decide, by decide +kernel⟩
theorem yw_X12_stepsTo : YW yX12_stepsTo cX12_stepsTo 5 (some .int) 2 := ⟨lw_in (i := 1965) (by decide +kernel) (by decide +kernel), lw_in (i := 134) (by decide +kernel) (by decide +kernel), by decide, by decide, by decide +kernel⟩
theorem yw_X12_succOf : YW yX12_succOf cX12_succOf 3 (some .int) 2 := ⟨lw_in (i := 1770) (by decide +kernel) (by decide +kernel), lw_in (i := 134) (by decide +kernel) (by decide +kernel), by decide, by decide, by decide +kernel⟩
theorem yw_X12_tillOver : YW yX12_tillOver cX12_tillOver 3 (some .int) 0 := ⟨lw_in (i := 2113) (by decide +kernel) (by decide +kernel), lw_in (i := 134) (by decide +kernel) (by decide +kernel), by decide, by decide, by decide +kernel⟩
theorem yw_X12_widen : YW yX12_widen cX12_widen 6 (some .int) 2 := ⟨lw_in (i := 1778) (by decide +kernel) (by decide +kernel), lw_in (i := 134) (by decide +kernel) (by decide +kernel), by decide, by decide, by decide +kernel⟩
theorem yw_X12_wordOf : YW yX12_wordOf cX12_wordOf 4 (some .int) 1 := ⟨lw_in (i := 1562) (by decide +kernel) (by decide +kernel), lw_in (i := 134) (by decide +kernel) (by decide +kernel), by decide, by decide, by decide +kernel⟩
