theorem kI_6 : Int32.ofInt 6 = (6 : Int32) := by decide
theorem wm_125 : Cond.initialized "FencedStates" ∈ lw_gd := lw_in (i := 125) (by decide +kernel) (by decide +kernel)
theorem wm_134 : Cond.initialized "FencedStatesModel" ∈ lw_gd := lw_in (i := 134) (by decide +kernel) (by decide +kernel)
theorem wm_151 : Cond.classLink "FencedStatesLaw" 7 "FencedStates" ∈ lw_gd := lw_in (i := 151) (by decide +kernel) (by decide +kernel)
theorem wm_152 : Cond.instantiable "FencedStates" 13 ∈ lw_gd := lw_in (i := 152) (by decide +kernel) (by decide +kernel)
theorem wm_153 : Cond.methodLink "FencedStatesLaw" 9 ⟨"FencedStates", "<init>", "()V"⟩ ∈ lw_gd := lw_in (i := 153) (by decide +kernel) (by decide +kernel)
theorem wm_154 : Cond.instanceMethod ⟨"FencedStates", "<init>", "()V"⟩ ∈ lw_gd := lw_in (i := 154) (by decide +kernel) (by decide +kernel)
theorem wm_463 : Cond.methodLink "FencedStatesLaw" 13 ⟨"FencedStates", "feed", "(IIIII)I"⟩ ∈ lw_gd := lw_in (i := 463) (by decide +kernel) (by decide +kernel)
theorem wm_464 : Cond.instanceMethod ⟨"FencedStates", "feed", "(IIIII)I"⟩ ∈ lw_gd := lw_in (i := 464) (by decide +kernel) (by decide +kernel)
theorem wm_465 : Cond.selects "FencedStates" ⟨"FencedStates", "feed", "(IIIII)I"⟩ ⟨"FencedStates", "feed", "(IIIII)I"⟩ ∈ lw_gd := lw_in (i := 465) (by decide +kernel) (by decide +kernel)
theorem wm_471 : Cond.methodLink "FencedStatesLaw" 18 ⟨"FencedStates", "end", "(I)I"⟩ ∈ lw_gd := lw_in (i := 471) (by decide +kernel) (by decide +kernel)
theorem wm_472 : Cond.instanceMethod ⟨"FencedStates", "end", "(I)I"⟩ ∈ lw_gd := lw_in (i := 472) (by decide +kernel) (by decide +kernel)
theorem wm_473 : Cond.selects "FencedStates" ⟨"FencedStates", "end", "(I)I"⟩ ⟨"FencedStates", "end", "(I)I"⟩ ∈ lw_gd := lw_in (i := 473) (by decide +kernel) (by decide +kernel)
theorem wm_475 : Cond.methodLink "FencedStatesLaw" 23 ⟨"FencedStates", "text", "()I"⟩ ∈ lw_gd := lw_in (i := 475) (by decide +kernel) (by decide +kernel)
theorem wm_476 : Cond.instanceMethod ⟨"FencedStates", "text", "()I"⟩ ∈ lw_gd := lw_in (i := 476) (by decide +kernel) (by decide +kernel)
theorem wm_477 : Cond.selects "FencedStates" ⟨"FencedStates", "text", "()I"⟩ ⟨"FencedStates", "text", "()I"⟩ ∈ lw_gd := lw_in (i := 477) (by decide +kernel) (by decide +kernel)
theorem wm_714 : Cond.methodLink "FencedStatesLaw" 28 ⟨"FencedStates", "fault", "(I)I"⟩ ∈ lw_gd := lw_in (i := 714) (by decide +kernel) (by decide +kernel)
theorem wm_715 : Cond.instanceMethod ⟨"FencedStates", "fault", "(I)I"⟩ ∈ lw_gd := lw_in (i := 715) (by decide +kernel) (by decide +kernel)
theorem wm_716 : Cond.selects "FencedStates" ⟨"FencedStates", "fault", "(I)I"⟩ ⟨"FencedStates", "fault", "(I)I"⟩ ∈ lw_gd := lw_in (i := 716) (by decide +kernel) (by decide +kernel)
theorem wm_718 : Cond.methodLink "FencedStatesLaw" 32 ⟨"FencedStates", "load", "(I)I"⟩ ∈ lw_gd := lw_in (i := 718) (by decide +kernel) (by decide +kernel)
theorem wm_719 : Cond.instanceMethod ⟨"FencedStates", "load", "(I)I"⟩ ∈ lw_gd := lw_in (i := 719) (by decide +kernel) (by decide +kernel)
theorem wm_720 : Cond.selects "FencedStates" ⟨"FencedStates", "load", "(I)I"⟩ ⟨"FencedStates", "load", "(I)I"⟩ ∈ lw_gd := lw_in (i := 720) (by decide +kernel) (by decide +kernel)
theorem wm_778 : Cond.methodLink "FencedStatesLaw" 36 ⟨"FencedStates", "drawn", "(II)Z"⟩ ∈ lw_gd := lw_in (i := 778) (by decide +kernel) (by decide +kernel)
theorem wm_779 : Cond.instanceMethod ⟨"FencedStates", "drawn", "(II)Z"⟩ ∈ lw_gd := lw_in (i := 779) (by decide +kernel) (by decide +kernel)
theorem wm_780 : Cond.selects "FencedStates" ⟨"FencedStates", "drawn", "(II)Z"⟩ ⟨"FencedStates", "drawn", "(II)Z"⟩ ∈ lw_gd := lw_in (i := 780) (by decide +kernel) (by decide +kernel)
theorem wm_785 : Cond.methodLink "FencedStatesLaw" 41 ⟨"FencedStates", "aim", "(I)Z"⟩ ∈ lw_gd := lw_in (i := 785) (by decide +kernel) (by decide +kernel)
theorem wm_786 : Cond.instanceMethod ⟨"FencedStates", "aim", "(I)Z"⟩ ∈ lw_gd := lw_in (i := 786) (by decide +kernel) (by decide +kernel)
theorem wm_787 : Cond.selects "FencedStates" ⟨"FencedStates", "aim", "(I)Z"⟩ ⟨"FencedStates", "aim", "(I)Z"⟩ ∈ lw_gd := lw_in (i := 787) (by decide +kernel) (by decide +kernel)
theorem wm_802 : Cond.methodLink "FencedStatesLaw" 46 ⟨"FencedStates", "mode", "(I)Z"⟩ ∈ lw_gd := lw_in (i := 802) (by decide +kernel) (by decide +kernel)
theorem wm_803 : Cond.instanceMethod ⟨"FencedStates", "mode", "(I)Z"⟩ ∈ lw_gd := lw_in (i := 803) (by decide +kernel) (by decide +kernel)
theorem wm_804 : Cond.selects "FencedStates" ⟨"FencedStates", "mode", "(I)Z"⟩ ⟨"FencedStates", "mode", "(I)Z"⟩ ∈ lw_gd := lw_in (i := 804) (by decide +kernel) (by decide +kernel)
theorem wm_806 : Cond.methodLink "FencedStatesLaw" 50 ⟨"FencedStates", "bar", "(III)I"⟩ ∈ lw_gd := lw_in (i := 806) (by decide +kernel) (by decide +kernel)
theorem wm_807 : Cond.instanceMethod ⟨"FencedStates", "bar", "(III)I"⟩ ∈ lw_gd := lw_in (i := 807) (by decide +kernel) (by decide +kernel)
theorem wm_808 : Cond.selects "FencedStates" ⟨"FencedStates", "bar", "(III)I"⟩ ⟨"FencedStates", "bar", "(III)I"⟩ ∈ lw_gd := lw_in (i := 808) (by decide +kernel) (by decide +kernel)
theorem wm_878 : Cond.methodLink "FencedStatesLaw" 55 ⟨"FencedStates", "step", "(I)I"⟩ ∈ lw_gd := lw_in (i := 878) (by decide +kernel) (by decide +kernel)
theorem wm_879 : Cond.instanceMethod ⟨"FencedStates", "step", "(I)I"⟩ ∈ lw_gd := lw_in (i := 879) (by decide +kernel) (by decide +kernel)
theorem wm_880 : Cond.selects "FencedStates" ⟨"FencedStates", "step", "(I)I"⟩ ⟨"FencedStates", "step", "(I)I"⟩ ∈ lw_gd := lw_in (i := 880) (by decide +kernel) (by decide +kernel)
theorem wm_1003 : Cond.methodLink "FencedStatesLaw" 59 ⟨"FencedStates", "undo", "()I"⟩ ∈ lw_gd := lw_in (i := 1003) (by decide +kernel) (by decide +kernel)
theorem wm_1004 : Cond.instanceMethod ⟨"FencedStates", "undo", "()I"⟩ ∈ lw_gd := lw_in (i := 1004) (by decide +kernel) (by decide +kernel)
theorem wm_1005 : Cond.selects "FencedStates" ⟨"FencedStates", "undo", "()I"⟩ ⟨"FencedStates", "undo", "()I"⟩ ∈ lw_gd := lw_in (i := 1005) (by decide +kernel) (by decide +kernel)
theorem wm_1011 : Cond.methodLink "FencedStatesLaw" 63 ⟨"FencedStates", "is", "(I)I"⟩ ∈ lw_gd := lw_in (i := 1011) (by decide +kernel) (by decide +kernel)
theorem wm_1012 : Cond.instanceMethod ⟨"FencedStates", "is", "(I)I"⟩ ∈ lw_gd := lw_in (i := 1012) (by decide +kernel) (by decide +kernel)
theorem wm_1013 : Cond.selects "FencedStates" ⟨"FencedStates", "is", "(I)I"⟩ ⟨"FencedStates", "is", "(I)I"⟩ ∈ lw_gd := lw_in (i := 1013) (by decide +kernel) (by decide +kernel)
theorem wm_1015 : Cond.methodLink "FencedStatesLaw" 67 ⟨"FencedStates", "successor", "(II)I"⟩ ∈ lw_gd := lw_in (i := 1015) (by decide +kernel) (by decide +kernel)
theorem wm_1016 : Cond.instanceMethod ⟨"FencedStates", "successor", "(II)I"⟩ ∈ lw_gd := lw_in (i := 1016) (by decide +kernel) (by decide +kernel)
theorem wm_1017 : Cond.selects "FencedStates" ⟨"FencedStates", "successor", "(II)I"⟩ ⟨"FencedStates", "successor", "(II)I"⟩ ∈ lw_gd := lw_in (i := 1017) (by decide +kernel) (by decide +kernel)
theorem wm_1027 : Cond.methodLink "FencedStatesLaw" 72 ⟨"FencedStates", "leads", "(II)I"⟩ ∈ lw_gd := lw_in (i := 1027) (by decide +kernel) (by decide +kernel)
theorem wm_1028 : Cond.instanceMethod ⟨"FencedStates", "leads", "(II)I"⟩ ∈ lw_gd := lw_in (i := 1028) (by decide +kernel) (by decide +kernel)
theorem wm_1029 : Cond.selects "FencedStates" ⟨"FencedStates", "leads", "(II)I"⟩ ⟨"FencedStates", "leads", "(II)I"⟩ ∈ lw_gd := lw_in (i := 1029) (by decide +kernel) (by decide +kernel)
theorem wm_1045 : Cond.methodLink "FencedStatesLaw" 76 ⟨"FencedStates", "of", "(II)Z"⟩ ∈ lw_gd := lw_in (i := 1045) (by decide +kernel) (by decide +kernel)
theorem wm_1046 : Cond.instanceMethod ⟨"FencedStates", "of", "(II)Z"⟩ ∈ lw_gd := lw_in (i := 1046) (by decide +kernel) (by decide +kernel)
theorem wm_1047 : Cond.selects "FencedStates" ⟨"FencedStates", "of", "(II)Z"⟩ ⟨"FencedStates", "of", "(II)Z"⟩ ∈ lw_gd := lw_in (i := 1047) (by decide +kernel) (by decide +kernel)
theorem wm_1050 : Cond.methodLink "FencedStatesLaw" 80 ⟨"FencedStates", "within", "(II)Z"⟩ ∈ lw_gd := lw_in (i := 1050) (by decide +kernel) (by decide +kernel)
theorem wm_1051 : Cond.instanceMethod ⟨"FencedStates", "within", "(II)Z"⟩ ∈ lw_gd := lw_in (i := 1051) (by decide +kernel) (by decide +kernel)
theorem wm_1052 : Cond.selects "FencedStates" ⟨"FencedStates", "within", "(II)Z"⟩ ⟨"FencedStates", "within", "(II)Z"⟩ ∈ lw_gd := lw_in (i := 1052) (by decide +kernel) (by decide +kernel)
theorem wm_1059 : Cond.methodLink "FencedStatesLaw" 84 ⟨"FencedStates", "wide", "(I)I"⟩ ∈ lw_gd := lw_in (i := 1059) (by decide +kernel) (by decide +kernel)
theorem wm_1060 : Cond.instanceMethod ⟨"FencedStates", "wide", "(I)I"⟩ ∈ lw_gd := lw_in (i := 1060) (by decide +kernel) (by decide +kernel)
theorem wm_1061 : Cond.selects "FencedStates" ⟨"FencedStates", "wide", "(I)I"⟩ ⟨"FencedStates", "wide", "(I)I"⟩ ∈ lw_gd := lw_in (i := 1061) (by decide +kernel) (by decide +kernel)
theorem wm_1063 : Cond.methodLink "FencedStatesLaw" 88 ⟨"FencedStates", "bad", "(I)I"⟩ ∈ lw_gd := lw_in (i := 1063) (by decide +kernel) (by decide +kernel)
theorem wm_1064 : Cond.instanceMethod ⟨"FencedStates", "bad", "(I)I"⟩ ∈ lw_gd := lw_in (i := 1064) (by decide +kernel) (by decide +kernel)
theorem wm_1065 : Cond.selects "FencedStates" ⟨"FencedStates", "bad", "(I)I"⟩ ⟨"FencedStates", "bad", "(I)I"⟩ ∈ lw_gd := lw_in (i := 1065) (by decide +kernel) (by decide +kernel)
theorem wm_1068 : Cond.methodLink "FencedStatesLaw" 92 ⟨"FencedStates", "sought", "(I)I"⟩ ∈ lw_gd := lw_in (i := 1068) (by decide +kernel) (by decide +kernel)
theorem wm_1069 : Cond.instanceMethod ⟨"FencedStates", "sought", "(I)I"⟩ ∈ lw_gd := lw_in (i := 1069) (by decide +kernel) (by decide +kernel)
theorem wm_1070 : Cond.selects "FencedStates" ⟨"FencedStates", "sought", "(I)I"⟩ ⟨"FencedStates", "sought", "(I)I"⟩ ∈ lw_gd := lw_in (i := 1070) (by decide +kernel) (by decide +kernel)
theorem wm_1073 : Cond.methodLink "FencedStatesLaw" 96 ⟨"FencedStates", "weight", "(I)I"⟩ ∈ lw_gd := lw_in (i := 1073) (by decide +kernel) (by decide +kernel)
theorem wm_1074 : Cond.instanceMethod ⟨"FencedStates", "weight", "(I)I"⟩ ∈ lw_gd := lw_in (i := 1074) (by decide +kernel) (by decide +kernel)
theorem wm_1075 : Cond.selects "FencedStates" ⟨"FencedStates", "weight", "(I)I"⟩ ⟨"FencedStates", "weight", "(I)I"⟩ ∈ lw_gd := lw_in (i := 1075) (by decide +kernel) (by decide +kernel)
theorem wm_1089 : Cond.methodLink "FencedStatesLaw" 100 ⟨"FencedStates", "cube", "(III)I"⟩ ∈ lw_gd := lw_in (i := 1089) (by decide +kernel) (by decide +kernel)
theorem wm_1090 : Cond.instanceMethod ⟨"FencedStates", "cube", "(III)I"⟩ ∈ lw_gd := lw_in (i := 1090) (by decide +kernel) (by decide +kernel)
theorem wm_1091 : Cond.selects "FencedStates" ⟨"FencedStates", "cube", "(III)I"⟩ ⟨"FencedStates", "cube", "(III)I"⟩ ∈ lw_gd := lw_in (i := 1091) (by decide +kernel) (by decide +kernel)
theorem wm_1100 : Cond.methodLink "FencedStatesLaw" 104 ⟨"FencedStates", "obligation", "(II)I"⟩ ∈ lw_gd := lw_in (i := 1100) (by decide +kernel) (by decide +kernel)
theorem wm_1101 : Cond.instanceMethod ⟨"FencedStates", "obligation", "(II)I"⟩ ∈ lw_gd := lw_in (i := 1101) (by decide +kernel) (by decide +kernel)
theorem wm_1102 : Cond.selects "FencedStates" ⟨"FencedStates", "obligation", "(II)I"⟩ ⟨"FencedStates", "obligation", "(II)I"⟩ ∈ lw_gd := lw_in (i := 1102) (by decide +kernel) (by decide +kernel)
theorem wm_1105 : Cond.methodLink "FencedStatesLaw" 108 ⟨"FencedStates", "trace", "(II)I"⟩ ∈ lw_gd := lw_in (i := 1105) (by decide +kernel) (by decide +kernel)
theorem wm_1106 : Cond.instanceMethod ⟨"FencedStates", "trace", "(II)I"⟩ ∈ lw_gd := lw_in (i := 1106) (by decide +kernel) (by decide +kernel)
theorem wm_1107 : Cond.selects "FencedStates" ⟨"FencedStates", "trace", "(II)I"⟩ ⟨"FencedStates", "trace", "(II)I"⟩ ∈ lw_gd := lw_in (i := 1107) (by decide +kernel) (by decide +kernel)
theorem wm_1126 : Cond.methodLink "FencedStatesLaw" 112 ⟨"FencedStates", "fence", "(II)I"⟩ ∈ lw_gd := lw_in (i := 1126) (by decide +kernel) (by decide +kernel)
theorem wm_1127 : Cond.instanceMethod ⟨"FencedStates", "fence", "(II)I"⟩ ∈ lw_gd := lw_in (i := 1127) (by decide +kernel) (by decide +kernel)
theorem wm_1128 : Cond.selects "FencedStates" ⟨"FencedStates", "fence", "(II)I"⟩ ⟨"FencedStates", "fence", "(II)I"⟩ ∈ lw_gd := lw_in (i := 1128) (by decide +kernel) (by decide +kernel)
theorem wm_1134 : Cond.methodLink "FencedStatesLaw" 116 ⟨"FencedStates", "activity", "(I)I"⟩ ∈ lw_gd := lw_in (i := 1134) (by decide +kernel) (by decide +kernel)
theorem wm_1135 : Cond.instanceMethod ⟨"FencedStates", "activity", "(I)I"⟩ ∈ lw_gd := lw_in (i := 1135) (by decide +kernel) (by decide +kernel)
theorem wm_1136 : Cond.selects "FencedStates" ⟨"FencedStates", "activity", "(I)I"⟩ ⟨"FencedStates", "activity", "(I)I"⟩ ∈ lw_gd := lw_in (i := 1136) (by decide +kernel) (by decide +kernel)
theorem wm_1144 : Cond.methodLink "FencedStatesLaw" 120 ⟨"FencedStates", "order", "(I)I"⟩ ∈ lw_gd := lw_in (i := 1144) (by decide +kernel) (by decide +kernel)
theorem wm_1145 : Cond.instanceMethod ⟨"FencedStates", "order", "(I)I"⟩ ∈ lw_gd := lw_in (i := 1145) (by decide +kernel) (by decide +kernel)
theorem wm_1146 : Cond.selects "FencedStates" ⟨"FencedStates", "order", "(I)I"⟩ ⟨"FencedStates", "order", "(I)I"⟩ ∈ lw_gd := lw_in (i := 1146) (by decide +kernel) (by decide +kernel)
theorem wm_1149 : Cond.methodLink "FencedStatesLaw" 124 ⟨"FencedStates", "holds", "(III)Z"⟩ ∈ lw_gd := lw_in (i := 1149) (by decide +kernel) (by decide +kernel)
theorem wm_1150 : Cond.instanceMethod ⟨"FencedStates", "holds", "(III)Z"⟩ ∈ lw_gd := lw_in (i := 1150) (by decide +kernel) (by decide +kernel)
theorem wm_1151 : Cond.selects "FencedStates" ⟨"FencedStates", "holds", "(III)Z"⟩ ⟨"FencedStates", "holds", "(III)Z"⟩ ∈ lw_gd := lw_in (i := 1151) (by decide +kernel) (by decide +kernel)
theorem wm_1154 : Cond.methodLink "FencedStatesLaw" 129 ⟨"FencedStates", "widened", "(II)I"⟩ ∈ lw_gd := lw_in (i := 1154) (by decide +kernel) (by decide +kernel)
theorem wm_1155 : Cond.instanceMethod ⟨"FencedStates", "widened", "(II)I"⟩ ∈ lw_gd := lw_in (i := 1155) (by decide +kernel) (by decide +kernel)
theorem wm_1156 : Cond.selects "FencedStates" ⟨"FencedStates", "widened", "(II)I"⟩ ⟨"FencedStates", "widened", "(II)I"⟩ ∈ lw_gd := lw_in (i := 1156) (by decide +kernel) (by decide +kernel)
theorem wm_1160 : Cond.methodLink "FencedStatesLaw" 133 ⟨"FencedStates", "ahead", "(II)I"⟩ ∈ lw_gd := lw_in (i := 1160) (by decide +kernel) (by decide +kernel)
theorem wm_1161 : Cond.instanceMethod ⟨"FencedStates", "ahead", "(II)I"⟩ ∈ lw_gd := lw_in (i := 1161) (by decide +kernel) (by decide +kernel)
theorem wm_1162 : Cond.selects "FencedStates" ⟨"FencedStates", "ahead", "(II)I"⟩ ⟨"FencedStates", "ahead", "(II)I"⟩ ∈ lw_gd := lw_in (i := 1162) (by decide +kernel) (by decide +kernel)
theorem wm_1164 : Cond.methodLink "FencedStatesLaw" 137 ⟨"FencedStates", "distance", "(I)I"⟩ ∈ lw_gd := lw_in (i := 1164) (by decide +kernel) (by decide +kernel)
theorem wm_1165 : Cond.instanceMethod ⟨"FencedStates", "distance", "(I)I"⟩ ∈ lw_gd := lw_in (i := 1165) (by decide +kernel) (by decide +kernel)
theorem wm_1166 : Cond.selects "FencedStates" ⟨"FencedStates", "distance", "(I)I"⟩ ⟨"FencedStates", "distance", "(I)I"⟩ ∈ lw_gd := lw_in (i := 1166) (by decide +kernel) (by decide +kernel)
theorem wm_1180 : Cond.methodLink "FencedStatesLaw" 141 ⟨"FencedStates", "distanceBy", "(II)I"⟩ ∈ lw_gd := lw_in (i := 1180) (by decide +kernel) (by decide +kernel)
theorem wm_1181 : Cond.methodLink "FencedStatesLaw" 145 ⟨"FencedStates", "far", "(I)I"⟩ ∈ lw_gd := lw_in (i := 1181) (by decide +kernel) (by decide +kernel)
theorem wm_1182 : Cond.instanceMethod ⟨"FencedStates", "far", "(I)I"⟩ ∈ lw_gd := lw_in (i := 1182) (by decide +kernel) (by decide +kernel)
theorem wm_1183 : Cond.selects "FencedStates" ⟨"FencedStates", "far", "(I)I"⟩ ⟨"FencedStates", "far", "(I)I"⟩ ∈ lw_gd := lw_in (i := 1183) (by decide +kernel) (by decide +kernel)
theorem wm_1191 : Cond.methodLink "FencedStatesLaw" 149 ⟨"FencedStates", "doomed", "(I)I"⟩ ∈ lw_gd := lw_in (i := 1191) (by decide +kernel) (by decide +kernel)
theorem wm_1192 : Cond.instanceMethod ⟨"FencedStates", "doomed", "(I)I"⟩ ∈ lw_gd := lw_in (i := 1192) (by decide +kernel) (by decide +kernel)
theorem wm_1193 : Cond.selects "FencedStates" ⟨"FencedStates", "doomed", "(I)I"⟩ ⟨"FencedStates", "doomed", "(I)I"⟩ ∈ lw_gd := lw_in (i := 1193) (by decide +kernel) (by decide +kernel)
theorem wm_1199 : Cond.methodLink "FencedStatesLaw" 153 ⟨"FencedStates", "shortest", "(II)I"⟩ ∈ lw_gd := lw_in (i := 1199) (by decide +kernel) (by decide +kernel)
theorem wm_1200 : Cond.instanceMethod ⟨"FencedStates", "shortest", "(II)I"⟩ ∈ lw_gd := lw_in (i := 1200) (by decide +kernel) (by decide +kernel)
theorem wm_1201 : Cond.selects "FencedStates" ⟨"FencedStates", "shortest", "(II)I"⟩ ⟨"FencedStates", "shortest", "(II)I"⟩ ∈ lw_gd := lw_in (i := 1201) (by decide +kernel) (by decide +kernel)
theorem wm_1212 : Cond.methodLink "FencedStatesLaw" 157 ⟨"FencedStates", "detour", "()I"⟩ ∈ lw_gd := lw_in (i := 1212) (by decide +kernel) (by decide +kernel)
theorem wm_1213 : Cond.instanceMethod ⟨"FencedStates", "detour", "()I"⟩ ∈ lw_gd := lw_in (i := 1213) (by decide +kernel) (by decide +kernel)
theorem wm_1214 : Cond.selects "FencedStates" ⟨"FencedStates", "detour", "()I"⟩ ⟨"FencedStates", "detour", "()I"⟩ ∈ lw_gd := lw_in (i := 1214) (by decide +kernel) (by decide +kernel)
theorem wm_1216 : Cond.methodLink "FencedStatesLaw" 161 ⟨"FencedStates", "nearest", "()I"⟩ ∈ lw_gd := lw_in (i := 1216) (by decide +kernel) (by decide +kernel)
theorem wm_1217 : Cond.instanceMethod ⟨"FencedStates", "nearest", "()I"⟩ ∈ lw_gd := lw_in (i := 1217) (by decide +kernel) (by decide +kernel)
theorem wm_1218 : Cond.selects "FencedStates" ⟨"FencedStates", "nearest", "()I"⟩ ⟨"FencedStates", "nearest", "()I"⟩ ∈ lw_gd := lw_in (i := 1218) (by decide +kernel) (by decide +kernel)
theorem wm_1220 : Cond.methodLink "FencedStatesLaw" 165 ⟨"FencedStates", "reach", "(I)I"⟩ ∈ lw_gd := lw_in (i := 1220) (by decide +kernel) (by decide +kernel)
theorem wm_1221 : Cond.instanceMethod ⟨"FencedStates", "reach", "(I)I"⟩ ∈ lw_gd := lw_in (i := 1221) (by decide +kernel) (by decide +kernel)
theorem wm_1222 : Cond.selects "FencedStates" ⟨"FencedStates", "reach", "(I)I"⟩ ⟨"FencedStates", "reach", "(I)I"⟩ ∈ lw_gd := lw_in (i := 1222) (by decide +kernel) (by decide +kernel)
theorem wm_1228 : Cond.methodLink "FencedStatesLaw" 169 ⟨"FencedStates", "slack", "(I)I"⟩ ∈ lw_gd := lw_in (i := 1228) (by decide +kernel) (by decide +kernel)
theorem wm_1229 : Cond.instanceMethod ⟨"FencedStates", "slack", "(I)I"⟩ ∈ lw_gd := lw_in (i := 1229) (by decide +kernel) (by decide +kernel)
theorem wm_1230 : Cond.selects "FencedStates" ⟨"FencedStates", "slack", "(I)I"⟩ ⟨"FencedStates", "slack", "(I)I"⟩ ∈ lw_gd := lw_in (i := 1230) (by decide +kernel) (by decide +kernel)
theorem wm_1233 : Cond.methodLink "FencedStatesLaw" 173 ⟨"FencedStates", "claim", "(II)I"⟩ ∈ lw_gd := lw_in (i := 1233) (by decide +kernel) (by decide +kernel)
theorem wm_1234 : Cond.instanceMethod ⟨"FencedStates", "claim", "(II)I"⟩ ∈ lw_gd := lw_in (i := 1234) (by decide +kernel) (by decide +kernel)
theorem wm_1235 : Cond.selects "FencedStates" ⟨"FencedStates", "claim", "(II)I"⟩ ⟨"FencedStates", "claim", "(II)I"⟩ ∈ lw_gd := lw_in (i := 1235) (by decide +kernel) (by decide +kernel)
theorem wm_1241 : Cond.methodLink "FencedStatesLaw" 177 ⟨"FencedStates", "adopt", "()I"⟩ ∈ lw_gd := lw_in (i := 1241) (by decide +kernel) (by decide +kernel)
theorem wm_1242 : Cond.instanceMethod ⟨"FencedStates", "adopt", "()I"⟩ ∈ lw_gd := lw_in (i := 1242) (by decide +kernel) (by decide +kernel)
theorem wm_1243 : Cond.selects "FencedStates" ⟨"FencedStates", "adopt", "()I"⟩ ⟨"FencedStates", "adopt", "()I"⟩ ∈ lw_gd := lw_in (i := 1243) (by decide +kernel) (by decide +kernel)
theorem wm_1251 : Cond.methodLink "FencedStatesLaw" 181 ⟨"FencedStates", "unclaim", "(I)I"⟩ ∈ lw_gd := lw_in (i := 1251) (by decide +kernel) (by decide +kernel)
theorem wm_1252 : Cond.instanceMethod ⟨"FencedStates", "unclaim", "(I)I"⟩ ∈ lw_gd := lw_in (i := 1252) (by decide +kernel) (by decide +kernel)
theorem wm_1253 : Cond.selects "FencedStates" ⟨"FencedStates", "unclaim", "(I)I"⟩ ⟨"FencedStates", "unclaim", "(I)I"⟩ ∈ lw_gd := lw_in (i := 1253) (by decide +kernel) (by decide +kernel)
theorem wm_1259 : Cond.methodLink "FencedStatesLaw" 185 ⟨"FencedStates", "loosen", "(I)I"⟩ ∈ lw_gd := lw_in (i := 1259) (by decide +kernel) (by decide +kernel)
theorem wm_1260 : Cond.instanceMethod ⟨"FencedStates", "loosen", "(I)I"⟩ ∈ lw_gd := lw_in (i := 1260) (by decide +kernel) (by decide +kernel)
theorem wm_1261 : Cond.selects "FencedStates" ⟨"FencedStates", "loosen", "(I)I"⟩ ⟨"FencedStates", "loosen", "(I)I"⟩ ∈ lw_gd := lw_in (i := 1261) (by decide +kernel) (by decide +kernel)
theorem wm_1293 : Cond.methodLink "FencedStatesLaw" 189 ⟨"FencedStates", "claimed", "(II)I"⟩ ∈ lw_gd := lw_in (i := 1293) (by decide +kernel) (by decide +kernel)
theorem wm_1294 : Cond.instanceMethod ⟨"FencedStates", "claimed", "(II)I"⟩ ∈ lw_gd := lw_in (i := 1294) (by decide +kernel) (by decide +kernel)
theorem wm_1295 : Cond.selects "FencedStates" ⟨"FencedStates", "claimed", "(II)I"⟩ ⟨"FencedStates", "claimed", "(II)I"⟩ ∈ lw_gd := lw_in (i := 1295) (by decide +kernel) (by decide +kernel)
theorem wm_1297 : Cond.methodLink "FencedStatesLaw" 193 ⟨"FencedStates", "judged", "(I)I"⟩ ∈ lw_gd := lw_in (i := 1297) (by decide +kernel) (by decide +kernel)
theorem wm_1298 : Cond.methodLink "FencedStatesLaw" 197 ⟨"FencedStates", "witness", "(I)I"⟩ ∈ lw_gd := lw_in (i := 1298) (by decide +kernel) (by decide +kernel)
theorem wm_1299 : Cond.instanceMethod ⟨"FencedStates", "witness", "(I)I"⟩ ∈ lw_gd := lw_in (i := 1299) (by decide +kernel) (by decide +kernel)
theorem wm_1300 : Cond.selects "FencedStates" ⟨"FencedStates", "witness", "(I)I"⟩ ⟨"FencedStates", "witness", "(I)I"⟩ ∈ lw_gd := lw_in (i := 1300) (by decide +kernel) (by decide +kernel)
theorem wm_1306 : Cond.methodLink "FencedStatesLaw" 201 ⟨"FencedStates", "spare", "(I)I"⟩ ∈ lw_gd := lw_in (i := 1306) (by decide +kernel) (by decide +kernel)
theorem wm_1307 : Cond.instanceMethod ⟨"FencedStates", "spare", "(I)I"⟩ ∈ lw_gd := lw_in (i := 1307) (by decide +kernel) (by decide +kernel)
theorem wm_1308 : Cond.selects "FencedStates" ⟨"FencedStates", "spare", "(I)I"⟩ ⟨"FencedStates", "spare", "(I)I"⟩ ∈ lw_gd := lw_in (i := 1308) (by decide +kernel) (by decide +kernel)
theorem wm_1315 : Cond.methodLink "FencedStatesLaw" 205 ⟨"FencedStates", "fewest", "(I)I"⟩ ∈ lw_gd := lw_in (i := 1315) (by decide +kernel) (by decide +kernel)
theorem wm_1316 : Cond.instanceMethod ⟨"FencedStates", "fewest", "(I)I"⟩ ∈ lw_gd := lw_in (i := 1316) (by decide +kernel) (by decide +kernel)
theorem wm_1317 : Cond.selects "FencedStates" ⟨"FencedStates", "fewest", "(I)I"⟩ ⟨"FencedStates", "fewest", "(I)I"⟩ ∈ lw_gd := lw_in (i := 1317) (by decide +kernel) (by decide +kernel)
theorem wm_1347 : Cond.methodLink "FencedStatesLaw" 209 ⟨"FencedStates", "chosen", "(I)I"⟩ ∈ lw_gd := lw_in (i := 1347) (by decide +kernel) (by decide +kernel)
theorem wm_1348 : Cond.methodLink "FencedStatesLaw" 213 ⟨"FencedStates", "inside", "(I)I"⟩ ∈ lw_gd := lw_in (i := 1348) (by decide +kernel) (by decide +kernel)
theorem wm_1349 : Cond.instanceMethod ⟨"FencedStates", "inside", "(I)I"⟩ ∈ lw_gd := lw_in (i := 1349) (by decide +kernel) (by decide +kernel)
theorem wm_1350 : Cond.selects "FencedStates" ⟨"FencedStates", "inside", "(I)I"⟩ ⟨"FencedStates", "inside", "(I)I"⟩ ∈ lw_gd := lw_in (i := 1350) (by decide +kernel) (by decide +kernel)
theorem wm_1352 : Cond.methodLink "FencedStatesLaw" 217 ⟨"FencedStates", "foretold", "(I)I"⟩ ∈ lw_gd := lw_in (i := 1352) (by decide +kernel) (by decide +kernel)
theorem wm_1353 : Cond.instanceMethod ⟨"FencedStates", "foretold", "(I)I"⟩ ∈ lw_gd := lw_in (i := 1353) (by decide +kernel) (by decide +kernel)
theorem wm_1354 : Cond.selects "FencedStates" ⟨"FencedStates", "foretold", "(I)I"⟩ ⟨"FencedStates", "foretold", "(I)I"⟩ ∈ lw_gd := lw_in (i := 1354) (by decide +kernel) (by decide +kernel)
theorem wm_1357 : Cond.methodLink "FencedStatesLaw" 221 ⟨"FencedStates", "till", "()I"⟩ ∈ lw_gd := lw_in (i := 1357) (by decide +kernel) (by decide +kernel)
theorem wm_1358 : Cond.instanceMethod ⟨"FencedStates", "till", "()I"⟩ ∈ lw_gd := lw_in (i := 1358) (by decide +kernel) (by decide +kernel)
theorem wm_1359 : Cond.selects "FencedStates" ⟨"FencedStates", "till", "()I"⟩ ⟨"FencedStates", "till", "()I"⟩ ∈ lw_gd := lw_in (i := 1359) (by decide +kernel) (by decide +kernel)
theorem wm_1361 : Cond.methodLink "FencedStatesLaw" 225 ⟨"FencedStates", "quickest", "()I"⟩ ∈ lw_gd := lw_in (i := 1361) (by decide +kernel) (by decide +kernel)
theorem wm_1362 : Cond.instanceMethod ⟨"FencedStates", "quickest", "()I"⟩ ∈ lw_gd := lw_in (i := 1362) (by decide +kernel) (by decide +kernel)
theorem wm_1363 : Cond.selects "FencedStates" ⟨"FencedStates", "quickest", "()I"⟩ ⟨"FencedStates", "quickest", "()I"⟩ ∈ lw_gd := lw_in (i := 1363) (by decide +kernel) (by decide +kernel)
theorem wm_1365 : Cond.methodLink "FencedStatesLaw" 229 ⟨"FencedStates", "bestMode", "()I"⟩ ∈ lw_gd := lw_in (i := 1365) (by decide +kernel) (by decide +kernel)
theorem wm_1366 : Cond.instanceMethod ⟨"FencedStates", "bestMode", "()I"⟩ ∈ lw_gd := lw_in (i := 1366) (by decide +kernel) (by decide +kernel)
theorem wm_1367 : Cond.selects "FencedStates" ⟨"FencedStates", "bestMode", "()I"⟩ ⟨"FencedStates", "bestMode", "()I"⟩ ∈ lw_gd := lw_in (i := 1367) (by decide +kernel) (by decide +kernel)
theorem wm_1369 : Cond.methodLink "FencedStatesLaw" 233 ⟨"FencedStates", "mean", "()J"⟩ ∈ lw_gd := lw_in (i := 1369) (by decide +kernel) (by decide +kernel)
theorem wm_1370 : Cond.instanceMethod ⟨"FencedStates", "mean", "()J"⟩ ∈ lw_gd := lw_in (i := 1370) (by decide +kernel) (by decide +kernel)
theorem wm_1371 : Cond.selects "FencedStates" ⟨"FencedStates", "mean", "()J"⟩ ⟨"FencedStates", "mean", "()J"⟩ ∈ lw_gd := lw_in (i := 1371) (by decide +kernel) (by decide +kernel)
theorem wm_1379 : Cond.methodLink "FencedStatesLaw" 238 ⟨"FencedStates", "image", "()I"⟩ ∈ lw_gd := lw_in (i := 1379) (by decide +kernel) (by decide +kernel)
theorem wm_1380 : Cond.instanceMethod ⟨"FencedStates", "image", "()I"⟩ ∈ lw_gd := lw_in (i := 1380) (by decide +kernel) (by decide +kernel)
theorem wm_1381 : Cond.selects "FencedStates" ⟨"FencedStates", "image", "()I"⟩ ⟨"FencedStates", "image", "()I"⟩ ∈ lw_gd := lw_in (i := 1381) (by decide +kernel) (by decide +kernel)
theorem wm_1387 : Cond.methodLink "FencedStatesLaw" 242 ⟨"FencedStates", "back", "()I"⟩ ∈ lw_gd := lw_in (i := 1387) (by decide +kernel) (by decide +kernel)
theorem wm_1388 : Cond.instanceMethod ⟨"FencedStates", "back", "()I"⟩ ∈ lw_gd := lw_in (i := 1388) (by decide +kernel) (by decide +kernel)
theorem wm_1389 : Cond.selects "FencedStates" ⟨"FencedStates", "back", "()I"⟩ ⟨"FencedStates", "back", "()I"⟩ ∈ lw_gd := lw_in (i := 1389) (by decide +kernel) (by decide +kernel)
theorem wm_1391 : Cond.methodLink "FencedStatesLaw" 246 ⟨"FencedStates", "about", "(I)I"⟩ ∈ lw_gd := lw_in (i := 1391) (by decide +kernel) (by decide +kernel)
theorem wm_1392 : Cond.instanceMethod ⟨"FencedStates", "about", "(I)I"⟩ ∈ lw_gd := lw_in (i := 1392) (by decide +kernel) (by decide +kernel)
theorem wm_1393 : Cond.selects "FencedStates" ⟨"FencedStates", "about", "(I)I"⟩ ⟨"FencedStates", "about", "(I)I"⟩ ∈ lw_gd := lw_in (i := 1393) (by decide +kernel) (by decide +kernel)
theorem wm_1395 : Cond.classLink "FencedStatesLaw" 10 "FencedStatesModel" ∈ lw_gd := lw_in (i := 1395) (by decide +kernel) (by decide +kernel)
theorem wm_1396 : Cond.instantiable "FencedStatesModel" 33 ∈ lw_gd := lw_in (i := 1396) (by decide +kernel) (by decide +kernel)
theorem wm_1397 : Cond.methodLink "FencedStatesLaw" 12 ⟨"FencedStatesModel", "<init>", "()V"⟩ ∈ lw_gd := lw_in (i := 1397) (by decide +kernel) (by decide +kernel)
theorem wm_1398 : Cond.instanceMethod ⟨"FencedStatesModel", "<init>", "()V"⟩ ∈ lw_gd := lw_in (i := 1398) (by decide +kernel) (by decide +kernel)
theorem wm_1516 : Cond.methodLink "FencedStatesLaw" 17 ⟨"FencedStatesModel", "feed", "(IIIII)I"⟩ ∈ lw_gd := lw_in (i := 1516) (by decide +kernel) (by decide +kernel)
theorem wm_1517 : Cond.instanceMethod ⟨"FencedStatesModel", "feed", "(IIIII)I"⟩ ∈ lw_gd := lw_in (i := 1517) (by decide +kernel) (by decide +kernel)
theorem wm_1518 : Cond.selects "FencedStatesModel" ⟨"FencedStatesModel", "feed", "(IIIII)I"⟩ ⟨"FencedStatesModel", "feed", "(IIIII)I"⟩ ∈ lw_gd := lw_in (i := 1518) (by decide +kernel) (by decide +kernel)
theorem wm_1524 : Cond.methodLink "FencedStatesLaw" 22 ⟨"FencedStatesModel", "end", "(I)I"⟩ ∈ lw_gd := lw_in (i := 1524) (by decide +kernel) (by decide +kernel)
theorem wm_1525 : Cond.instanceMethod ⟨"FencedStatesModel", "end", "(I)I"⟩ ∈ lw_gd := lw_in (i := 1525) (by decide +kernel) (by decide +kernel)
theorem wm_1526 : Cond.selects "FencedStatesModel" ⟨"FencedStatesModel", "end", "(I)I"⟩ ⟨"FencedStatesModel", "end", "(I)I"⟩ ∈ lw_gd := lw_in (i := 1526) (by decide +kernel) (by decide +kernel)
theorem wm_1531 : Cond.methodLink "FencedStatesLaw" 27 ⟨"FencedStatesModel", "text", "()I"⟩ ∈ lw_gd := lw_in (i := 1531) (by decide +kernel) (by decide +kernel)
theorem wm_1532 : Cond.instanceMethod ⟨"FencedStatesModel", "text", "()I"⟩ ∈ lw_gd := lw_in (i := 1532) (by decide +kernel) (by decide +kernel)
theorem wm_1533 : Cond.selects "FencedStatesModel" ⟨"FencedStatesModel", "text", "()I"⟩ ⟨"FencedStatesModel", "text", "()I"⟩ ∈ lw_gd := lw_in (i := 1533) (by decide +kernel) (by decide +kernel)
theorem wm_1618 : Cond.methodLink "FencedStatesLaw" 31 ⟨"FencedStatesModel", "fault", "(I)I"⟩ ∈ lw_gd := lw_in (i := 1618) (by decide +kernel) (by decide +kernel)
theorem wm_1619 : Cond.instanceMethod ⟨"FencedStatesModel", "fault", "(I)I"⟩ ∈ lw_gd := lw_in (i := 1619) (by decide +kernel) (by decide +kernel)
theorem wm_1620 : Cond.selects "FencedStatesModel" ⟨"FencedStatesModel", "fault", "(I)I"⟩ ⟨"FencedStatesModel", "fault", "(I)I"⟩ ∈ lw_gd := lw_in (i := 1620) (by decide +kernel) (by decide +kernel)
theorem wm_1622 : Cond.methodLink "FencedStatesLaw" 35 ⟨"FencedStatesModel", "load", "(I)I"⟩ ∈ lw_gd := lw_in (i := 1622) (by decide +kernel) (by decide +kernel)
theorem wm_1623 : Cond.instanceMethod ⟨"FencedStatesModel", "load", "(I)I"⟩ ∈ lw_gd := lw_in (i := 1623) (by decide +kernel) (by decide +kernel)
theorem wm_1624 : Cond.selects "FencedStatesModel" ⟨"FencedStatesModel", "load", "(I)I"⟩ ⟨"FencedStatesModel", "load", "(I)I"⟩ ∈ lw_gd := lw_in (i := 1624) (by decide +kernel) (by decide +kernel)
theorem wm_1647 : Cond.methodLink "FencedStatesLaw" 40 ⟨"FencedStatesModel", "drawn", "(II)Z"⟩ ∈ lw_gd := lw_in (i := 1647) (by decide +kernel) (by decide +kernel)
theorem wm_1648 : Cond.instanceMethod ⟨"FencedStatesModel", "drawn", "(II)Z"⟩ ∈ lw_gd := lw_in (i := 1648) (by decide +kernel) (by decide +kernel)
theorem wm_1649 : Cond.selects "FencedStatesModel" ⟨"FencedStatesModel", "drawn", "(II)Z"⟩ ⟨"FencedStatesModel", "drawn", "(II)Z"⟩ ∈ lw_gd := lw_in (i := 1649) (by decide +kernel) (by decide +kernel)
theorem wm_1651 : Cond.methodLink "FencedStatesLaw" 45 ⟨"FencedStatesModel", "aim", "(I)Z"⟩ ∈ lw_gd := lw_in (i := 1651) (by decide +kernel) (by decide +kernel)
theorem wm_1652 : Cond.instanceMethod ⟨"FencedStatesModel", "aim", "(I)Z"⟩ ∈ lw_gd := lw_in (i := 1652) (by decide +kernel) (by decide +kernel)
theorem wm_1653 : Cond.selects "FencedStatesModel" ⟨"FencedStatesModel", "aim", "(I)Z"⟩ ⟨"FencedStatesModel", "aim", "(I)Z"⟩ ∈ lw_gd := lw_in (i := 1653) (by decide +kernel) (by decide +kernel)
theorem wm_1667 : Cond.methodLink "FencedStatesLaw" 49 ⟨"FencedStatesModel", "mode", "(I)Z"⟩ ∈ lw_gd := lw_in (i := 1667) (by decide +kernel) (by decide +kernel)
theorem wm_1668 : Cond.instanceMethod ⟨"FencedStatesModel", "mode", "(I)Z"⟩ ∈ lw_gd := lw_in (i := 1668) (by decide +kernel) (by decide +kernel)
theorem wm_1669 : Cond.selects "FencedStatesModel" ⟨"FencedStatesModel", "mode", "(I)Z"⟩ ⟨"FencedStatesModel", "mode", "(I)Z"⟩ ∈ lw_gd := lw_in (i := 1669) (by decide +kernel) (by decide +kernel)
theorem wm_1671 : Cond.methodLink "FencedStatesLaw" 62 ⟨"FencedStatesModel", "undo", "()I"⟩ ∈ lw_gd := lw_in (i := 1671) (by decide +kernel) (by decide +kernel)
theorem wm_1672 : Cond.instanceMethod ⟨"FencedStatesModel", "undo", "()I"⟩ ∈ lw_gd := lw_in (i := 1672) (by decide +kernel) (by decide +kernel)
theorem wm_1673 : Cond.selects "FencedStatesModel" ⟨"FencedStatesModel", "undo", "()I"⟩ ⟨"FencedStatesModel", "undo", "()I"⟩ ∈ lw_gd := lw_in (i := 1673) (by decide +kernel) (by decide +kernel)
theorem wm_1675 : Cond.methodLink "FencedStatesLaw" 58 ⟨"FencedStatesModel", "step", "(I)I"⟩ ∈ lw_gd := lw_in (i := 1675) (by decide +kernel) (by decide +kernel)
theorem wm_1676 : Cond.instanceMethod ⟨"FencedStatesModel", "step", "(I)I"⟩ ∈ lw_gd := lw_in (i := 1676) (by decide +kernel) (by decide +kernel)
theorem wm_1677 : Cond.selects "FencedStatesModel" ⟨"FencedStatesModel", "step", "(I)I"⟩ ⟨"FencedStatesModel", "step", "(I)I"⟩ ∈ lw_gd := lw_in (i := 1677) (by decide +kernel) (by decide +kernel)
theorem wm_1825 : Cond.methodLink "FencedStatesLaw" 54 ⟨"FencedStatesModel", "bar", "(III)I"⟩ ∈ lw_gd := lw_in (i := 1825) (by decide +kernel) (by decide +kernel)
theorem wm_1826 : Cond.instanceMethod ⟨"FencedStatesModel", "bar", "(III)I"⟩ ∈ lw_gd := lw_in (i := 1826) (by decide +kernel) (by decide +kernel)
theorem wm_1827 : Cond.selects "FencedStatesModel" ⟨"FencedStatesModel", "bar", "(III)I"⟩ ⟨"FencedStatesModel", "bar", "(III)I"⟩ ∈ lw_gd := lw_in (i := 1827) (by decide +kernel) (by decide +kernel)
theorem wm_1833 : Cond.methodLink "FencedStatesLaw" 66 ⟨"FencedStatesModel", "is", "(I)I"⟩ ∈ lw_gd := lw_in (i := 1833) (by decide +kernel) (by decide +kernel)
theorem wm_1834 : Cond.instanceMethod ⟨"FencedStatesModel", "is", "(I)I"⟩ ∈ lw_gd := lw_in (i := 1834) (by decide +kernel) (by decide +kernel)
theorem wm_1835 : Cond.selects "FencedStatesModel" ⟨"FencedStatesModel", "is", "(I)I"⟩ ⟨"FencedStatesModel", "is", "(I)I"⟩ ∈ lw_gd := lw_in (i := 1835) (by decide +kernel) (by decide +kernel)
theorem wm_1837 : Cond.methodLink "FencedStatesLaw" 71 ⟨"FencedStatesModel", "successor", "(II)I"⟩ ∈ lw_gd := lw_in (i := 1837) (by decide +kernel) (by decide +kernel)
theorem wm_1838 : Cond.instanceMethod ⟨"FencedStatesModel", "successor", "(II)I"⟩ ∈ lw_gd := lw_in (i := 1838) (by decide +kernel) (by decide +kernel)
theorem wm_1839 : Cond.selects "FencedStatesModel" ⟨"FencedStatesModel", "successor", "(II)I"⟩ ⟨"FencedStatesModel", "successor", "(II)I"⟩ ∈ lw_gd := lw_in (i := 1839) (by decide +kernel) (by decide +kernel)
theorem wm_1845 : Cond.methodLink "FencedStatesLaw" 75 ⟨"FencedStatesModel", "leads", "(II)I"⟩ ∈ lw_gd := lw_in (i := 1845) (by decide +kernel) (by decide +kernel)
theorem wm_1846 : Cond.instanceMethod ⟨"FencedStatesModel", "leads", "(II)I"⟩ ∈ lw_gd := lw_in (i := 1846) (by decide +kernel) (by decide +kernel)
theorem wm_1847 : Cond.selects "FencedStatesModel" ⟨"FencedStatesModel", "leads", "(II)I"⟩ ⟨"FencedStatesModel", "leads", "(II)I"⟩ ∈ lw_gd := lw_in (i := 1847) (by decide +kernel) (by decide +kernel)
theorem wm_1849 : Cond.methodLink "FencedStatesLaw" 79 ⟨"FencedStatesModel", "of", "(II)Z"⟩ ∈ lw_gd := lw_in (i := 1849) (by decide +kernel) (by decide +kernel)
theorem wm_1850 : Cond.instanceMethod ⟨"FencedStatesModel", "of", "(II)Z"⟩ ∈ lw_gd := lw_in (i := 1850) (by decide +kernel) (by decide +kernel)
theorem wm_1851 : Cond.selects "FencedStatesModel" ⟨"FencedStatesModel", "of", "(II)Z"⟩ ⟨"FencedStatesModel", "of", "(II)Z"⟩ ∈ lw_gd := lw_in (i := 1851) (by decide +kernel) (by decide +kernel)
theorem wm_1853 : Cond.methodLink "FencedStatesLaw" 83 ⟨"FencedStatesModel", "within", "(II)Z"⟩ ∈ lw_gd := lw_in (i := 1853) (by decide +kernel) (by decide +kernel)
theorem wm_1854 : Cond.instanceMethod ⟨"FencedStatesModel", "within", "(II)Z"⟩ ∈ lw_gd := lw_in (i := 1854) (by decide +kernel) (by decide +kernel)
theorem wm_1855 : Cond.selects "FencedStatesModel" ⟨"FencedStatesModel", "within", "(II)Z"⟩ ⟨"FencedStatesModel", "within", "(II)Z"⟩ ∈ lw_gd := lw_in (i := 1855) (by decide +kernel) (by decide +kernel)
theorem wm_1861 : Cond.methodLink "FencedStatesLaw" 87 ⟨"FencedStatesModel", "wide", "(I)I"⟩ ∈ lw_gd := lw_in (i := 1861) (by decide +kernel) (by decide +kernel)
theorem wm_1862 : Cond.instanceMethod ⟨"FencedStatesModel", "wide", "(I)I"⟩ ∈ lw_gd := lw_in (i := 1862) (by decide +kernel) (by decide +kernel)
theorem wm_1863 : Cond.selects "FencedStatesModel" ⟨"FencedStatesModel", "wide", "(I)I"⟩ ⟨"FencedStatesModel", "wide", "(I)I"⟩ ∈ lw_gd := lw_in (i := 1863) (by decide +kernel) (by decide +kernel)
theorem wm_1868 : Cond.methodLink "FencedStatesLaw" 91 ⟨"FencedStatesModel", "bad", "(I)I"⟩ ∈ lw_gd := lw_in (i := 1868) (by decide +kernel) (by decide +kernel)
theorem wm_1869 : Cond.instanceMethod ⟨"FencedStatesModel", "bad", "(I)I"⟩ ∈ lw_gd := lw_in (i := 1869) (by decide +kernel) (by decide +kernel)
theorem wm_1870 : Cond.selects "FencedStatesModel" ⟨"FencedStatesModel", "bad", "(I)I"⟩ ⟨"FencedStatesModel", "bad", "(I)I"⟩ ∈ lw_gd := lw_in (i := 1870) (by decide +kernel) (by decide +kernel)
theorem wm_1872 : Cond.methodLink "FencedStatesLaw" 95 ⟨"FencedStatesModel", "sought", "(I)I"⟩ ∈ lw_gd := lw_in (i := 1872) (by decide +kernel) (by decide +kernel)
theorem wm_1873 : Cond.instanceMethod ⟨"FencedStatesModel", "sought", "(I)I"⟩ ∈ lw_gd := lw_in (i := 1873) (by decide +kernel) (by decide +kernel)
theorem wm_1874 : Cond.selects "FencedStatesModel" ⟨"FencedStatesModel", "sought", "(I)I"⟩ ⟨"FencedStatesModel", "sought", "(I)I"⟩ ∈ lw_gd := lw_in (i := 1874) (by decide +kernel) (by decide +kernel)
theorem wm_1876 : Cond.methodLink "FencedStatesLaw" 99 ⟨"FencedStatesModel", "weight", "(I)I"⟩ ∈ lw_gd := lw_in (i := 1876) (by decide +kernel) (by decide +kernel)
theorem wm_1877 : Cond.instanceMethod ⟨"FencedStatesModel", "weight", "(I)I"⟩ ∈ lw_gd := lw_in (i := 1877) (by decide +kernel) (by decide +kernel)
theorem wm_1878 : Cond.selects "FencedStatesModel" ⟨"FencedStatesModel", "weight", "(I)I"⟩ ⟨"FencedStatesModel", "weight", "(I)I"⟩ ∈ lw_gd := lw_in (i := 1878) (by decide +kernel) (by decide +kernel)
theorem wm_1880 : Cond.methodLink "FencedStatesLaw" 103 ⟨"FencedStatesModel", "cube", "(III)I"⟩ ∈ lw_gd := lw_in (i := 1880) (by decide +kernel) (by decide +kernel)
theorem wm_1881 : Cond.instanceMethod ⟨"FencedStatesModel", "cube", "(III)I"⟩ ∈ lw_gd := lw_in (i := 1881) (by decide +kernel) (by decide +kernel)
theorem wm_1882 : Cond.selects "FencedStatesModel" ⟨"FencedStatesModel", "cube", "(III)I"⟩ ⟨"FencedStatesModel", "cube", "(III)I"⟩ ∈ lw_gd := lw_in (i := 1882) (by decide +kernel) (by decide +kernel)
theorem wm_1892 : Cond.methodLink "FencedStatesLaw" 107 ⟨"FencedStatesModel", "obligation", "(II)I"⟩ ∈ lw_gd := lw_in (i := 1892) (by decide +kernel) (by decide +kernel)
theorem wm_1893 : Cond.instanceMethod ⟨"FencedStatesModel", "obligation", "(II)I"⟩ ∈ lw_gd := lw_in (i := 1893) (by decide +kernel) (by decide +kernel)
theorem wm_1894 : Cond.selects "FencedStatesModel" ⟨"FencedStatesModel", "obligation", "(II)I"⟩ ⟨"FencedStatesModel", "obligation", "(II)I"⟩ ∈ lw_gd := lw_in (i := 1894) (by decide +kernel) (by decide +kernel)
theorem wm_1900 : Cond.methodLink "FencedStatesLaw" 111 ⟨"FencedStatesModel", "trace", "(II)I"⟩ ∈ lw_gd := lw_in (i := 1900) (by decide +kernel) (by decide +kernel)
theorem wm_1901 : Cond.instanceMethod ⟨"FencedStatesModel", "trace", "(II)I"⟩ ∈ lw_gd := lw_in (i := 1901) (by decide +kernel) (by decide +kernel)
theorem wm_1902 : Cond.selects "FencedStatesModel" ⟨"FencedStatesModel", "trace", "(II)I"⟩ ⟨"FencedStatesModel", "trace", "(II)I"⟩ ∈ lw_gd := lw_in (i := 1902) (by decide +kernel) (by decide +kernel)
theorem wm_1916 : Cond.methodLink "FencedStatesLaw" 115 ⟨"FencedStatesModel", "fence", "(II)I"⟩ ∈ lw_gd := lw_in (i := 1916) (by decide +kernel) (by decide +kernel)
theorem wm_1917 : Cond.instanceMethod ⟨"FencedStatesModel", "fence", "(II)I"⟩ ∈ lw_gd := lw_in (i := 1917) (by decide +kernel) (by decide +kernel)
theorem wm_1918 : Cond.selects "FencedStatesModel" ⟨"FencedStatesModel", "fence", "(II)I"⟩ ⟨"FencedStatesModel", "fence", "(II)I"⟩ ∈ lw_gd := lw_in (i := 1918) (by decide +kernel) (by decide +kernel)
theorem wm_1928 : Cond.methodLink "FencedStatesLaw" 119 ⟨"FencedStatesModel", "activity", "(I)I"⟩ ∈ lw_gd := lw_in (i := 1928) (by decide +kernel) (by decide +kernel)
theorem wm_1929 : Cond.instanceMethod ⟨"FencedStatesModel", "activity", "(I)I"⟩ ∈ lw_gd := lw_in (i := 1929) (by decide +kernel) (by decide +kernel)
theorem wm_1930 : Cond.selects "FencedStatesModel" ⟨"FencedStatesModel", "activity", "(I)I"⟩ ⟨"FencedStatesModel", "activity", "(I)I"⟩ ∈ lw_gd := lw_in (i := 1930) (by decide +kernel) (by decide +kernel)
theorem wm_1942 : Cond.methodLink "FencedStatesLaw" 123 ⟨"FencedStatesModel", "order", "(I)I"⟩ ∈ lw_gd := lw_in (i := 1942) (by decide +kernel) (by decide +kernel)
theorem wm_1943 : Cond.instanceMethod ⟨"FencedStatesModel", "order", "(I)I"⟩ ∈ lw_gd := lw_in (i := 1943) (by decide +kernel) (by decide +kernel)
theorem wm_1944 : Cond.selects "FencedStatesModel" ⟨"FencedStatesModel", "order", "(I)I"⟩ ⟨"FencedStatesModel", "order", "(I)I"⟩ ∈ lw_gd := lw_in (i := 1944) (by decide +kernel) (by decide +kernel)
theorem wm_1946 : Cond.methodLink "FencedStatesLaw" 128 ⟨"FencedStatesModel", "holds", "(III)Z"⟩ ∈ lw_gd := lw_in (i := 1946) (by decide +kernel) (by decide +kernel)
theorem wm_1947 : Cond.instanceMethod ⟨"FencedStatesModel", "holds", "(III)Z"⟩ ∈ lw_gd := lw_in (i := 1947) (by decide +kernel) (by decide +kernel)
theorem wm_1948 : Cond.selects "FencedStatesModel" ⟨"FencedStatesModel", "holds", "(III)Z"⟩ ⟨"FencedStatesModel", "holds", "(III)Z"⟩ ∈ lw_gd := lw_in (i := 1948) (by decide +kernel) (by decide +kernel)
theorem wm_1950 : Cond.methodLink "FencedStatesLaw" 132 ⟨"FencedStatesModel", "widened", "(II)I"⟩ ∈ lw_gd := lw_in (i := 1950) (by decide +kernel) (by decide +kernel)
theorem wm_1951 : Cond.instanceMethod ⟨"FencedStatesModel", "widened", "(II)I"⟩ ∈ lw_gd := lw_in (i := 1951) (by decide +kernel) (by decide +kernel)
theorem wm_1952 : Cond.selects "FencedStatesModel" ⟨"FencedStatesModel", "widened", "(II)I"⟩ ⟨"FencedStatesModel", "widened", "(II)I"⟩ ∈ lw_gd := lw_in (i := 1952) (by decide +kernel) (by decide +kernel)
theorem wm_1954 : Cond.methodLink "FencedStatesLaw" 136 ⟨"FencedStatesModel", "ahead", "(II)I"⟩ ∈ lw_gd := lw_in (i := 1954) (by decide +kernel) (by decide +kernel)
theorem wm_1955 : Cond.instanceMethod ⟨"FencedStatesModel", "ahead", "(II)I"⟩ ∈ lw_gd := lw_in (i := 1955) (by decide +kernel) (by decide +kernel)
theorem wm_1956 : Cond.selects "FencedStatesModel" ⟨"FencedStatesModel", "ahead", "(II)I"⟩ ⟨"FencedStatesModel", "ahead", "(II)I"⟩ ∈ lw_gd := lw_in (i := 1956) (by decide +kernel) (by decide +kernel)
theorem wm_1958 : Cond.methodLink "FencedStatesLaw" 140 ⟨"FencedStatesModel", "distance", "(I)I"⟩ ∈ lw_gd := lw_in (i := 1958) (by decide +kernel) (by decide +kernel)
theorem wm_1959 : Cond.instanceMethod ⟨"FencedStatesModel", "distance", "(I)I"⟩ ∈ lw_gd := lw_in (i := 1959) (by decide +kernel) (by decide +kernel)
theorem wm_1960 : Cond.selects "FencedStatesModel" ⟨"FencedStatesModel", "distance", "(I)I"⟩ ⟨"FencedStatesModel", "distance", "(I)I"⟩ ∈ lw_gd := lw_in (i := 1960) (by decide +kernel) (by decide +kernel)
theorem wm_1970 : Cond.methodLink "FencedStatesLaw" 144 ⟨"FencedStatesModel", "distanceBy", "(II)I"⟩ ∈ lw_gd := lw_in (i := 1970) (by decide +kernel) (by decide +kernel)
theorem wm_1971 : Cond.instanceMethod ⟨"FencedStatesModel", "distanceBy", "(II)I"⟩ ∈ lw_gd := lw_in (i := 1971) (by decide +kernel) (by decide +kernel)
theorem wm_1972 : Cond.selects "FencedStatesModel" ⟨"FencedStatesModel", "distanceBy", "(II)I"⟩ ⟨"FencedStatesModel", "distanceBy", "(II)I"⟩ ∈ lw_gd := lw_in (i := 1972) (by decide +kernel) (by decide +kernel)
theorem wm_1974 : Cond.methodLink "FencedStatesLaw" 164 ⟨"FencedStatesModel", "nearest", "()I"⟩ ∈ lw_gd := lw_in (i := 1974) (by decide +kernel) (by decide +kernel)
theorem wm_1975 : Cond.instanceMethod ⟨"FencedStatesModel", "nearest", "()I"⟩ ∈ lw_gd := lw_in (i := 1975) (by decide +kernel) (by decide +kernel)
theorem wm_1976 : Cond.selects "FencedStatesModel" ⟨"FencedStatesModel", "nearest", "()I"⟩ ⟨"FencedStatesModel", "nearest", "()I"⟩ ∈ lw_gd := lw_in (i := 1976) (by decide +kernel) (by decide +kernel)
theorem wm_1978 : Cond.methodLink "FencedStatesLaw" 168 ⟨"FencedStatesModel", "reach", "(I)I"⟩ ∈ lw_gd := lw_in (i := 1978) (by decide +kernel) (by decide +kernel)
theorem wm_1979 : Cond.instanceMethod ⟨"FencedStatesModel", "reach", "(I)I"⟩ ∈ lw_gd := lw_in (i := 1979) (by decide +kernel) (by decide +kernel)
theorem wm_1980 : Cond.selects "FencedStatesModel" ⟨"FencedStatesModel", "reach", "(I)I"⟩ ⟨"FencedStatesModel", "reach", "(I)I"⟩ ∈ lw_gd := lw_in (i := 1980) (by decide +kernel) (by decide +kernel)
theorem wm_1982 : Cond.methodLink "FencedStatesLaw" 172 ⟨"FencedStatesModel", "slack", "(I)I"⟩ ∈ lw_gd := lw_in (i := 1982) (by decide +kernel) (by decide +kernel)
theorem wm_1983 : Cond.instanceMethod ⟨"FencedStatesModel", "slack", "(I)I"⟩ ∈ lw_gd := lw_in (i := 1983) (by decide +kernel) (by decide +kernel)
theorem wm_1984 : Cond.selects "FencedStatesModel" ⟨"FencedStatesModel", "slack", "(I)I"⟩ ⟨"FencedStatesModel", "slack", "(I)I"⟩ ∈ lw_gd := lw_in (i := 1984) (by decide +kernel) (by decide +kernel)
theorem wm_1986 : Cond.methodLink "FencedStatesLaw" 148 ⟨"FencedStatesModel", "far", "(I)I"⟩ ∈ lw_gd := lw_in (i := 1986) (by decide +kernel) (by decide +kernel)
theorem wm_1987 : Cond.instanceMethod ⟨"FencedStatesModel", "far", "(I)I"⟩ ∈ lw_gd := lw_in (i := 1987) (by decide +kernel) (by decide +kernel)
theorem wm_1988 : Cond.selects "FencedStatesModel" ⟨"FencedStatesModel", "far", "(I)I"⟩ ⟨"FencedStatesModel", "far", "(I)I"⟩ ∈ lw_gd := lw_in (i := 1988) (by decide +kernel) (by decide +kernel)
theorem wm_1998 : Cond.methodLink "FencedStatesLaw" 152 ⟨"FencedStatesModel", "doomed", "(I)I"⟩ ∈ lw_gd := lw_in (i := 1998) (by decide +kernel) (by decide +kernel)
theorem wm_1999 : Cond.instanceMethod ⟨"FencedStatesModel", "doomed", "(I)I"⟩ ∈ lw_gd := lw_in (i := 1999) (by decide +kernel) (by decide +kernel)
theorem wm_2000 : Cond.selects "FencedStatesModel" ⟨"FencedStatesModel", "doomed", "(I)I"⟩ ⟨"FencedStatesModel", "doomed", "(I)I"⟩ ∈ lw_gd := lw_in (i := 2000) (by decide +kernel) (by decide +kernel)
theorem wm_2002 : Cond.methodLink "FencedStatesLaw" 156 ⟨"FencedStatesModel", "shortest", "(II)I"⟩ ∈ lw_gd := lw_in (i := 2002) (by decide +kernel) (by decide +kernel)
theorem wm_2003 : Cond.instanceMethod ⟨"FencedStatesModel", "shortest", "(II)I"⟩ ∈ lw_gd := lw_in (i := 2003) (by decide +kernel) (by decide +kernel)
theorem wm_2004 : Cond.selects "FencedStatesModel" ⟨"FencedStatesModel", "shortest", "(II)I"⟩ ⟨"FencedStatesModel", "shortest", "(II)I"⟩ ∈ lw_gd := lw_in (i := 2004) (by decide +kernel) (by decide +kernel)
theorem wm_2010 : Cond.methodLink "FencedStatesLaw" 160 ⟨"FencedStatesModel", "detour", "()I"⟩ ∈ lw_gd := lw_in (i := 2010) (by decide +kernel) (by decide +kernel)
theorem wm_2011 : Cond.instanceMethod ⟨"FencedStatesModel", "detour", "()I"⟩ ∈ lw_gd := lw_in (i := 2011) (by decide +kernel) (by decide +kernel)
theorem wm_2012 : Cond.selects "FencedStatesModel" ⟨"FencedStatesModel", "detour", "()I"⟩ ⟨"FencedStatesModel", "detour", "()I"⟩ ∈ lw_gd := lw_in (i := 2012) (by decide +kernel) (by decide +kernel)
theorem wm_2014 : Cond.methodLink "FencedStatesLaw" 176 ⟨"FencedStatesModel", "claim", "(II)I"⟩ ∈ lw_gd := lw_in (i := 2014) (by decide +kernel) (by decide +kernel)
theorem wm_2015 : Cond.instanceMethod ⟨"FencedStatesModel", "claim", "(II)I"⟩ ∈ lw_gd := lw_in (i := 2015) (by decide +kernel) (by decide +kernel)
theorem wm_2016 : Cond.selects "FencedStatesModel" ⟨"FencedStatesModel", "claim", "(II)I"⟩ ⟨"FencedStatesModel", "claim", "(II)I"⟩ ∈ lw_gd := lw_in (i := 2016) (by decide +kernel) (by decide +kernel)
theorem wm_2018 : Cond.methodLink "FencedStatesLaw" 180 ⟨"FencedStatesModel", "adopt", "()I"⟩ ∈ lw_gd := lw_in (i := 2018) (by decide +kernel) (by decide +kernel)
theorem wm_2019 : Cond.instanceMethod ⟨"FencedStatesModel", "adopt", "()I"⟩ ∈ lw_gd := lw_in (i := 2019) (by decide +kernel) (by decide +kernel)
theorem wm_2020 : Cond.selects "FencedStatesModel" ⟨"FencedStatesModel", "adopt", "()I"⟩ ⟨"FencedStatesModel", "adopt", "()I"⟩ ∈ lw_gd := lw_in (i := 2020) (by decide +kernel) (by decide +kernel)
theorem wm_2022 : Cond.methodLink "FencedStatesLaw" 184 ⟨"FencedStatesModel", "unclaim", "(I)I"⟩ ∈ lw_gd := lw_in (i := 2022) (by decide +kernel) (by decide +kernel)
theorem wm_2023 : Cond.instanceMethod ⟨"FencedStatesModel", "unclaim", "(I)I"⟩ ∈ lw_gd := lw_in (i := 2023) (by decide +kernel) (by decide +kernel)
theorem wm_2024 : Cond.selects "FencedStatesModel" ⟨"FencedStatesModel", "unclaim", "(I)I"⟩ ⟨"FencedStatesModel", "unclaim", "(I)I"⟩ ∈ lw_gd := lw_in (i := 2024) (by decide +kernel) (by decide +kernel)
theorem wm_2026 : Cond.methodLink "FencedStatesLaw" 188 ⟨"FencedStatesModel", "loosen", "(I)I"⟩ ∈ lw_gd := lw_in (i := 2026) (by decide +kernel) (by decide +kernel)
theorem wm_2027 : Cond.instanceMethod ⟨"FencedStatesModel", "loosen", "(I)I"⟩ ∈ lw_gd := lw_in (i := 2027) (by decide +kernel) (by decide +kernel)
theorem wm_2028 : Cond.selects "FencedStatesModel" ⟨"FencedStatesModel", "loosen", "(I)I"⟩ ⟨"FencedStatesModel", "loosen", "(I)I"⟩ ∈ lw_gd := lw_in (i := 2028) (by decide +kernel) (by decide +kernel)
theorem wm_2054 : Cond.methodLink "FencedStatesLaw" 192 ⟨"FencedStatesModel", "claimed", "(II)I"⟩ ∈ lw_gd := lw_in (i := 2054) (by decide +kernel) (by decide +kernel)
theorem wm_2055 : Cond.instanceMethod ⟨"FencedStatesModel", "claimed", "(II)I"⟩ ∈ lw_gd := lw_in (i := 2055) (by decide +kernel) (by decide +kernel)
theorem wm_2056 : Cond.selects "FencedStatesModel" ⟨"FencedStatesModel", "claimed", "(II)I"⟩ ⟨"FencedStatesModel", "claimed", "(II)I"⟩ ∈ lw_gd := lw_in (i := 2056) (by decide +kernel) (by decide +kernel)
theorem wm_2058 : Cond.methodLink "FencedStatesLaw" 196 ⟨"FencedStatesModel", "judged", "(I)I"⟩ ∈ lw_gd := lw_in (i := 2058) (by decide +kernel) (by decide +kernel)
theorem wm_2059 : Cond.instanceMethod ⟨"FencedStatesModel", "judged", "(I)I"⟩ ∈ lw_gd := lw_in (i := 2059) (by decide +kernel) (by decide +kernel)
theorem wm_2060 : Cond.selects "FencedStatesModel" ⟨"FencedStatesModel", "judged", "(I)I"⟩ ⟨"FencedStatesModel", "judged", "(I)I"⟩ ∈ lw_gd := lw_in (i := 2060) (by decide +kernel) (by decide +kernel)
theorem wm_2066 : Cond.methodLink "FencedStatesLaw" 200 ⟨"FencedStatesModel", "witness", "(I)I"⟩ ∈ lw_gd := lw_in (i := 2066) (by decide +kernel) (by decide +kernel)
theorem wm_2067 : Cond.instanceMethod ⟨"FencedStatesModel", "witness", "(I)I"⟩ ∈ lw_gd := lw_in (i := 2067) (by decide +kernel) (by decide +kernel)
theorem wm_2068 : Cond.selects "FencedStatesModel" ⟨"FencedStatesModel", "witness", "(I)I"⟩ ⟨"FencedStatesModel", "witness", "(I)I"⟩ ∈ lw_gd := lw_in (i := 2068) (by decide +kernel) (by decide +kernel)
theorem wm_2070 : Cond.methodLink "FencedStatesLaw" 204 ⟨"FencedStatesModel", "spare", "(I)I"⟩ ∈ lw_gd := lw_in (i := 2070) (by decide +kernel) (by decide +kernel)
theorem wm_2071 : Cond.instanceMethod ⟨"FencedStatesModel", "spare", "(I)I"⟩ ∈ lw_gd := lw_in (i := 2071) (by decide +kernel) (by decide +kernel)
theorem wm_2072 : Cond.selects "FencedStatesModel" ⟨"FencedStatesModel", "spare", "(I)I"⟩ ⟨"FencedStatesModel", "spare", "(I)I"⟩ ∈ lw_gd := lw_in (i := 2072) (by decide +kernel) (by decide +kernel)
theorem wm_2078 : Cond.methodLink "FencedStatesLaw" 208 ⟨"FencedStatesModel", "fewest", "(I)I"⟩ ∈ lw_gd := lw_in (i := 2078) (by decide +kernel) (by decide +kernel)
theorem wm_2079 : Cond.instanceMethod ⟨"FencedStatesModel", "fewest", "(I)I"⟩ ∈ lw_gd := lw_in (i := 2079) (by decide +kernel) (by decide +kernel)
theorem wm_2080 : Cond.selects "FencedStatesModel" ⟨"FencedStatesModel", "fewest", "(I)I"⟩ ⟨"FencedStatesModel", "fewest", "(I)I"⟩ ∈ lw_gd := lw_in (i := 2080) (by decide +kernel) (by decide +kernel)
theorem wm_2086 : Cond.methodLink "FencedStatesLaw" 212 ⟨"FencedStatesModel", "chosen", "(I)I"⟩ ∈ lw_gd := lw_in (i := 2086) (by decide +kernel) (by decide +kernel)
theorem wm_2087 : Cond.instanceMethod ⟨"FencedStatesModel", "chosen", "(I)I"⟩ ∈ lw_gd := lw_in (i := 2087) (by decide +kernel) (by decide +kernel)
theorem wm_2088 : Cond.selects "FencedStatesModel" ⟨"FencedStatesModel", "chosen", "(I)I"⟩ ⟨"FencedStatesModel", "chosen", "(I)I"⟩ ∈ lw_gd := lw_in (i := 2088) (by decide +kernel) (by decide +kernel)
theorem wm_2090 : Cond.methodLink "FencedStatesLaw" 216 ⟨"FencedStatesModel", "inside", "(I)I"⟩ ∈ lw_gd := lw_in (i := 2090) (by decide +kernel) (by decide +kernel)
theorem wm_2091 : Cond.instanceMethod ⟨"FencedStatesModel", "inside", "(I)I"⟩ ∈ lw_gd := lw_in (i := 2091) (by decide +kernel) (by decide +kernel)
theorem wm_2092 : Cond.selects "FencedStatesModel" ⟨"FencedStatesModel", "inside", "(I)I"⟩ ⟨"FencedStatesModel", "inside", "(I)I"⟩ ∈ lw_gd := lw_in (i := 2092) (by decide +kernel) (by decide +kernel)
theorem wm_2094 : Cond.methodLink "FencedStatesLaw" 220 ⟨"FencedStatesModel", "foretold", "(I)I"⟩ ∈ lw_gd := lw_in (i := 2094) (by decide +kernel) (by decide +kernel)
theorem wm_2095 : Cond.instanceMethod ⟨"FencedStatesModel", "foretold", "(I)I"⟩ ∈ lw_gd := lw_in (i := 2095) (by decide +kernel) (by decide +kernel)
theorem wm_2096 : Cond.selects "FencedStatesModel" ⟨"FencedStatesModel", "foretold", "(I)I"⟩ ⟨"FencedStatesModel", "foretold", "(I)I"⟩ ∈ lw_gd := lw_in (i := 2096) (by decide +kernel) (by decide +kernel)
theorem wm_2106 : Cond.methodLink "FencedStatesLaw" 224 ⟨"FencedStatesModel", "till", "()I"⟩ ∈ lw_gd := lw_in (i := 2106) (by decide +kernel) (by decide +kernel)
theorem wm_2107 : Cond.instanceMethod ⟨"FencedStatesModel", "till", "()I"⟩ ∈ lw_gd := lw_in (i := 2107) (by decide +kernel) (by decide +kernel)
theorem wm_2108 : Cond.selects "FencedStatesModel" ⟨"FencedStatesModel", "till", "()I"⟩ ⟨"FencedStatesModel", "till", "()I"⟩ ∈ lw_gd := lw_in (i := 2108) (by decide +kernel) (by decide +kernel)
theorem wm_2114 : Cond.methodLink "FencedStatesLaw" 228 ⟨"FencedStatesModel", "quickest", "()I"⟩ ∈ lw_gd := lw_in (i := 2114) (by decide +kernel) (by decide +kernel)
theorem wm_2115 : Cond.instanceMethod ⟨"FencedStatesModel", "quickest", "()I"⟩ ∈ lw_gd := lw_in (i := 2115) (by decide +kernel) (by decide +kernel)
theorem wm_2116 : Cond.selects "FencedStatesModel" ⟨"FencedStatesModel", "quickest", "()I"⟩ ⟨"FencedStatesModel", "quickest", "()I"⟩ ∈ lw_gd := lw_in (i := 2116) (by decide +kernel) (by decide +kernel)
theorem wm_2118 : Cond.methodLink "FencedStatesLaw" 232 ⟨"FencedStatesModel", "bestMode", "()I"⟩ ∈ lw_gd := lw_in (i := 2118) (by decide +kernel) (by decide +kernel)
theorem wm_2119 : Cond.instanceMethod ⟨"FencedStatesModel", "bestMode", "()I"⟩ ∈ lw_gd := lw_in (i := 2119) (by decide +kernel) (by decide +kernel)
theorem wm_2120 : Cond.selects "FencedStatesModel" ⟨"FencedStatesModel", "bestMode", "()I"⟩ ⟨"FencedStatesModel", "bestMode", "()I"⟩ ∈ lw_gd := lw_in (i := 2120) (by decide +kernel) (by decide +kernel)
theorem wm_2122 : Cond.methodLink "FencedStatesLaw" 237 ⟨"FencedStatesModel", "mean", "()J"⟩ ∈ lw_gd := lw_in (i := 2122) (by decide +kernel) (by decide +kernel)
theorem wm_2123 : Cond.instanceMethod ⟨"FencedStatesModel", "mean", "()J"⟩ ∈ lw_gd := lw_in (i := 2123) (by decide +kernel) (by decide +kernel)
theorem wm_2124 : Cond.selects "FencedStatesModel" ⟨"FencedStatesModel", "mean", "()J"⟩ ⟨"FencedStatesModel", "mean", "()J"⟩ ∈ lw_gd := lw_in (i := 2124) (by decide +kernel) (by decide +kernel)
theorem wm_2136 : Cond.methodLink "FencedStatesLaw" 241 ⟨"FencedStatesModel", "image", "()I"⟩ ∈ lw_gd := lw_in (i := 2136) (by decide +kernel) (by decide +kernel)
theorem wm_2137 : Cond.instanceMethod ⟨"FencedStatesModel", "image", "()I"⟩ ∈ lw_gd := lw_in (i := 2137) (by decide +kernel) (by decide +kernel)
theorem wm_2138 : Cond.selects "FencedStatesModel" ⟨"FencedStatesModel", "image", "()I"⟩ ⟨"FencedStatesModel", "image", "()I"⟩ ∈ lw_gd := lw_in (i := 2138) (by decide +kernel) (by decide +kernel)
theorem wm_2140 : Cond.methodLink "FencedStatesLaw" 245 ⟨"FencedStatesModel", "back", "()I"⟩ ∈ lw_gd := lw_in (i := 2140) (by decide +kernel) (by decide +kernel)
theorem wm_2141 : Cond.instanceMethod ⟨"FencedStatesModel", "back", "()I"⟩ ∈ lw_gd := lw_in (i := 2141) (by decide +kernel) (by decide +kernel)
theorem wm_2142 : Cond.selects "FencedStatesModel" ⟨"FencedStatesModel", "back", "()I"⟩ ⟨"FencedStatesModel", "back", "()I"⟩ ∈ lw_gd := lw_in (i := 2142) (by decide +kernel) (by decide +kernel)
theorem wm_2144 : Cond.methodLink "FencedStatesLaw" 249 ⟨"FencedStatesModel", "about", "(I)I"⟩ ∈ lw_gd := lw_in (i := 2144) (by decide +kernel) (by decide +kernel)
theorem wm_2145 : Cond.instanceMethod ⟨"FencedStatesModel", "about", "(I)I"⟩ ∈ lw_gd := lw_in (i := 2145) (by decide +kernel) (by decide +kernel)
theorem wm_2146 : Cond.selects "FencedStatesModel" ⟨"FencedStatesModel", "about", "(I)I"⟩ ⟨"FencedStatesModel", "about", "(I)I"⟩ ∈ lw_gd := lw_in (i := 2146) (by decide +kernel) (by decide +kernel)
theorem yw_X11_about : YW yX11_about cX11_about 2 (some .int) 1 := ⟨lw_in (i := 1394) (by decide +kernel) (by decide +kernel), lw_in (i := 125) (by decide +kernel) (by decide +kernel), by decide, by decide, by decide +kernel⟩
theorem yw_X11_activity : YW yX11_activity cX11_activity 3 (some .int) 1 := ⟨lw_in (i := 1137) (by decide +kernel) (by decide +kernel), lw_in (i := 125) (by decide +kernel) (by decide +kernel), by decide, by decide, by decide +kernel⟩
theorem yw_X11_adopt : YW yX11_adopt cX11_adopt 2 (some .int) 0 := ⟨lw_in (i := 1244) (by decide +kernel) (by decide +kernel), lw_in (i := 125) (by decide +kernel) (by decide +kernel), by decide, by decide, by decide +kernel⟩
theorem yw_X11_ahead : YW yX11_ahead cX11_ahead 4 (some .int) 2 := ⟨lw_in (i := 1163) (by decide +kernel) (by decide +kernel), lw_in (i := 125) (by decide +kernel) (by decide +kernel), by decide, by decide, by decide +kernel⟩
theorem yw_X11_aim : YW yX11_aim cX11_aim 2 (some .boolean) 1 := ⟨lw_in (i := 788) (by decide +kernel) (by decide +kernel), lw_in (i := 125) (by decide +kernel) (by decide +kernel), by decide, by decide, by decide +kernel⟩
theorem yw_X11_back : YW yX11_back cX11_back 1 (some .int) 0 := ⟨lw_in (i := 1390) (by decide +kernel) (by decide +kernel), lw_in (i := 125) (by decide +kernel) (by decide +kernel), by decide, by decide, by decide +kernel⟩
theorem yw_X11_bad : YW yX11_bad cX11_bad 3 (some .int) 1 := ⟨lw_in (i := 1066) (by decide +kernel) (by decide +kernel), lw_in (i := 125) (by decide +kernel) (by decide +kernel), by decide, by decide, by decide +kernel⟩
theorem yw_X11_bar : YW yX11_bar cX11_bar 5 (some .int) 3 := ⟨lw_in (i := 809) (by decide +kernel) (by decide +kernel), lw_in (i := 125) (by decide +kernel) (by decide +kernel), by decide, by decide, by decide +kernel⟩
theorem yw_X11_bestMode : YW yX11_bestMode cX11_bestMode 5 (some .int) 0 := ⟨lw_in (i := 1368) (by decide +kernel) (by decide +kernel), lw_in (i := 125) (by decide +kernel) (by decide +kernel), by decide, by decide, by decide +kernel⟩
theorem yw_X11_claim : YW yX11_claim cX11_claim 4 (some .int) 2 := ⟨lw_in (i := 1236) (by decide +kernel) (by decide +kernel), lw_in (i := 125) (by decide +kernel) (by decide +kernel), by decide, by decide, by decide +kernel⟩
theorem yw_X11_claimed : YW yX11_claimed cX11_claimed 4 (some .int) 2 := ⟨lw_in (i := 1296) (by decide +kernel) (by decide +kernel), lw_in (i := 125) (by decide +kernel) (by decide +kernel), by decide, by decide, by decide +kernel⟩
theorem yw_X11_cube : YW yX11_cube cX11_cube 7 (some .int) 3 := ⟨lw_in (i := 1092) (by decide +kernel) (by decide +kernel), lw_in (i := 125) (by decide +kernel) (by decide +kernel), by decide, by decide, by decide +kernel⟩
theorem yw_X11_detour : YW yX11_detour cX11_detour 3 (some .int) 0 := ⟨lw_in (i := 1215) (by decide +kernel) (by decide +kernel), lw_in (i := 125) (by decide +kernel) (by decide +kernel), by decide, by decide, by decide +kernel⟩
theorem yw_X11_distance : YW yX11_distance cX11_distance 2 (some .int) 1 := ⟨lw_in (i := 1167) (by decide +kernel) (by decide +kernel), lw_in (i := 125) (by decide +kernel) (by decide +kernel), by decide, by decide, by decide +kernel⟩
theorem yw_X11_doomed : YW yX11_doomed cX11_doomed 3 (some .int) 1 := ⟨lw_in (i := 1194) (by decide +kernel) (by decide +kernel), lw_in (i := 125) (by decide +kernel) (by decide +kernel), by decide, by decide, by decide +kernel⟩
theorem yw_X11_drawn : YW yX11_drawn cX11_drawn 3 (some .boolean) 2 := ⟨lw_in (i := 781) (by decide +kernel) (by decide +kernel), lw_in (i := 125) (by decide +kernel) (by decide +kernel), by decide, by decide, by decide +kernel⟩
theorem yw_X11_end : YW yX11_end cX11_end 2 (some .int) 1 := ⟨lw_in (i := 474) (by decide +kernel) (by decide +kernel), lw_in (i := 125) (by decide +kernel) (by decide +kernel), by decide, by decide, by decide +kernel⟩
theorem yw_X11_far : YW yX11_far cX11_far 3 (some .int) 1 := ⟨lw_in (i := 1184) (by decide +kernel) (by decide +kernel), lw_in (i := 125) (by decide +kernel) (by decide +kernel), by decide, by decide, by decide +kernel⟩
theorem yw_X11_fault : YW yX11_fault cX11_fault 2 (some .int) 1 := ⟨lw_in (i := 717) (by decide +kernel) (by decide +kernel), lw_in (i := 125) (by decide +kernel) (by decide +kernel), by decide, by decide, by decide +kernel⟩
theorem yw_X11_feed : YW yX11_feed cX11_feed 6 (some .int) 5 := ⟨lw_in (i := 466) (by decide +kernel) (by decide +kernel), lw_in (i := 125) (by decide +kernel) (by decide +kernel), by decide, by decide, by decide +kernel⟩
theorem yw_X11_fence : YW yX11_fence cX11_fence 6 (some .int) 2 := ⟨lw_in (i := 1129) (by decide +kernel) (by decide +kernel), lw_in (i := 125) (by decide +kernel) (by decide +kernel), by decide, by decide, by decide +kernel⟩
theorem yw_X11_fewest : YW yX11_fewest cX11_fewest 3 (some .int) 1 := ⟨lw_in (i := 1318) (by decide +kernel) (by decide +kernel), lw_in (i := 125) (by decide +kernel) (by decide +kernel), by decide, by decide, by decide +kernel⟩
theorem yw_X11_foretold : YW yX11_foretold cX11_foretold 2 (some .int) 1 := ⟨lw_in (i := 1355) (by decide +kernel) (by decide +kernel), lw_in (i := 125) (by decide +kernel) (by decide +kernel), by decide, by decide, by decide +kernel⟩
theorem yw_X11_holds : YW yX11_holds cX11_holds 5 (some .boolean) 3 := ⟨lw_in (i := 1152) (by decide +kernel) (by decide +kernel), lw_in (i := 125) (by decide +kernel) (by decide +kernel), by decide, by decide, by decide +kernel⟩
theorem yw_X11_image : YW yX11_image cX11_image 1 (some .int) 0 := ⟨lw_in (i := 1382) (by decide +kernel) (by decide +kernel), lw_in (i := 125) (by decide +kernel) (by decide +kernel), by decide, by decide, by decide +kernel⟩
theorem yw_X11_init : YW yX11_init cX11_init 2 none 0 := ⟨lw_in (i := 155) (by decide +kernel) (by decide +kernel), lw_in (i := 125) (by decide +kernel) (by decide +kernel), by decide, by decide, by decide +kernel⟩
theorem yw_X11_inside : YW yX11_inside cX11_inside 3 (some .int) 1 := ⟨lw_in (i := 1351) (by decide +kernel) (by decide +kernel), lw_in (i := 125) (by decide +kernel) (by decide +kernel), by decide, by decide, by decide +kernel⟩
theorem yw_X11_is : YW yX11_is cX11_is 3 (some .int) 1 := ⟨lw_in (i := 1014) (by decide +kernel) (by decide +kernel), lw_in (i := 125) (by decide +kernel) (by decide +kernel), by decide, by decide, by decide +kernel⟩
theorem yw_X11_leads : YW yX11_leads cX11_leads 4 (some .int) 2 := ⟨lw_in (i := 1030) (by decide +kernel) (by decide +kernel), lw_in (i := 125) (by decide +kernel) (by decide +kernel), by decide, by decide, by decide +kernel⟩
theorem yw_X11_load : YW yX11_load cX11_load 3 (some .int) 1 := ⟨lw_in (i := 721) (by decide +kernel) (by decide +kernel), lw_in (i := 125) (by decide +kernel) (by decide +kernel), by decide, by decide, by decide +kernel⟩
theorem yw_X11_loosen : YW yX11_loosen cX11_loosen 3 (some .int) 1 := ⟨lw_in (i := 1262) (by decide +kernel) (by decide +kernel), lw_in (i := 125) (by decide +kernel) (by decide +kernel), by decide, by decide, by decide +kernel⟩
theorem yw_X11_mean : YW yX11_mean cX11_mean 2 (some .long) 0 := ⟨lw_in (i := 1372) (by decide +kernel) (by decide +kernel), lw_in (i := 125) (by decide +kernel) (by decide +kernel), by decide, by decide, by decide +kernel⟩
theorem yw_X11_mode : YW yX11_mode cX11_mode 2 (some .boolean) 1 := ⟨lw_in (i := 805) (by decide +kernel) (by decide +kernel), lw_in (i := 125) (by decide +kernel) (by decide +kernel), by decide, by decide, by decide +kernel⟩
theorem yw_X11_nearest : YW yX11_nearest cX11_nearest 2 (some .int) 0 := ⟨lw_in (i := 1219) (by decide +kernel) (by decide +kernel), lw_in (i := 125) (by decide +kernel) (by decide +kernel), by decide, by decide, by decide +kernel⟩
theorem yw_X11_obligation : YW yX11_obligation cX11_obligation 4 (some .int) 2 := ⟨lw_in (i := 1103) (by decide +kernel) (by decide +kernel), lw_in (i := 125) (by decide +kernel) (by decide +kernel), by decide, by decide, by decide +kernel⟩
theorem yw_X11_of : YW yX11_of cX11_of 4 (some .boolean) 2 := ⟨lw_in (i := 1048) (by decide +kernel) (by decide +kernel), lw_in (i := 125) (by decide +kernel) (by decide +kernel), by decide, by decide, by decide +kernel⟩
theorem yw_X11_order : YW yX11_order cX11_order 3 (some .int) 1 := ⟨lw_in (i := 1147) (by decide +kernel) (by decide +kernel), lw_in (i := 125) (by decide +kernel) (by decide +kernel), by decide, by decide, by decide +kernel⟩
theorem yw_X11_quickest : YW yX11_quickest cX11_quickest 5 (some .int) 0 := ⟨lw_in (i := 1364) (by decide +kernel) (by decide +kernel), lw_in (i := 125) (by decide +kernel) (by decide +kernel), by decide, by decide, by decide +kernel⟩
theorem yw_X11_reach : YW yX11_reach cX11_reach 2 (some .int) 1 := ⟨lw_in (i := 1223) (by decide +kernel) (by decide +kernel), lw_in (i := 125) (by decide +kernel) (by decide +kernel), by decide, by decide, by decide +kernel⟩
theorem yw_X11_shortest : YW yX11_shortest cX11_shortest 4 (some .int) 2 := ⟨lw_in (i := 1202) (by decide +kernel) (by decide +kernel), lw_in (i := 125) (by decide +kernel) (by decide +kernel), by decide, by decide, by decide +kernel⟩
theorem yw_X11_slack : YW yX11_slack cX11_slack 3 (some .int) 1 := ⟨lw_in (i := 1231) (by decide +kernel) (by decide +kernel), lw_in (i := 125) (by decide +kernel) (by decide +kernel), by decide, by decide, by decide +kernel⟩
theorem yw_X11_sought : YW yX11_sought cX11_sought 2 (some .int) 1 := ⟨lw_in (i := 1071) (by decide +kernel) (by decide +kernel), lw_in (i := 125) (by decide +kernel) (by decide +kernel), by decide, by decide, by decide +kernel⟩
theorem yw_X11_spare : YW yX11_spare cX11_spare 2 (some .int) 1 := ⟨lw_in (i := 1309) (by decide +kernel) (by decide +kernel), lw_in (i := 125) (by decide +kernel) (by decide +kernel), by decide, by decide, by decide +kernel⟩
theorem yw_X11_step : YW yX11_step cX11_step 2 (some .int) 1 := ⟨lw_in (i := 881) (by decide +kernel) (by decide +kernel), lw_in (i := 125) (by decide +kernel) (by decide +kernel), by decide, by decide, by decide +kernel⟩
theorem yw_X11_successor : YW yX11_successor cX11_successor 4 (some .int) 2 := ⟨lw_in (i := 1018) (by decide +kernel) (by decide +kernel), lw_in (i := 125) (by decide +kernel) (by decide +kernel), by decide, by decide, by decide +kernel⟩
theorem yw_X11_text : YW yX11_text cX11_text 1 (some .int) 0 := ⟨lw_in (i := 478) (by decide +kernel) (by decide +kernel), lw_in (i := 125) (by decide +kernel) (by decide +kernel), by decide, by decide, by decide +kernel⟩
theorem yw_X11_till : YW yX11_till cX11_till 2 (some .int) 0 := ⟨lw_in (i := 1360) (by decide +kernel) (by decide +kernel), lw_in (i := 125) (by decide +kernel) (by decide +kernel), by decide, by decide, by decide +kernel⟩
theorem yw_X11_trace : YW yX11_trace cX11_trace 5 (some .int) 2 := ⟨lw_in (i := 1108) (by decide +kernel) (by decide +kernel), lw_in (i := 125) (by decide +kernel) (by decide +kernel), by decide, by decide, by decide +kernel⟩
theorem yw_X11_unclaim : YW yX11_unclaim cX11_unclaim 3 (some .int) 1 := ⟨lw_in (i := 1254) (by decide +kernel) (by decide +kernel), lw_in (i := 125) (by decide +kernel) (by decide +kernel), by decide, by decide, by decide +kernel⟩
theorem yw_X11_undo : YW yX11_undo cX11_undo 1 (some .int) 0 := ⟨lw_in (i := 1006) (by decide +kernel) (by decide +kernel), lw_in (i := 125) (by decide +kernel) (by decide +kernel), by decide, by decide, by decide +kernel⟩
theorem yw_X11_weight : YW yX11_weight cX11_weight 3 (some .int) 1 := ⟨lw_in (i := 1076) (by decide +kernel) (by decide +kernel), lw_in (i := 125) (by decide +kernel) (by decide +kernel), by decide, by decide, by decide +kernel⟩
theorem yw_X11_wide : YW yX11_wide cX11_wide 3 (some .int) 1 := ⟨lw_in (i := 1062) (by decide +kernel) (by decide +kernel), lw_in (i := 125) (by decide +kernel) (by decide +kernel), by decide, by decide, by decide +kernel⟩
theorem yw_X11_widened : YW yX11_widened cX11_widened 4 (some .int) 2 := ⟨lw_in (i := 1157) (by decide +kernel) (by decide +kernel), lw_in (i := 125) (by decide +kernel) (by decide +kernel), by decide, by decide, by decide +kernel⟩
theorem yw_X11_within : YW yX11_within cX11_within 4 (some .boolean) 2 := ⟨lw_in (i := 1053) (by decide +kernel) (by decide +kernel), lw_in (i := 125) (by decide +kernel) (by decide +kernel), by decide, by decide, by decide +kernel⟩
theorem yw_X11_witness : YW yX11_witness cX11_witness 3 (some .int) 1 := ⟨lw_in (i := 1301) (by decide +kernel) (by decide +kernel), lw_in (i := 125) (by decide +kernel) (by decide +kernel), by decide, by decide, by decide +kernel⟩
theorem yw_X12_about : YW yX12_about cX12_about 2 (some .int) 1 := ⟨lw_in (i := 2147) (by decide +kernel) (by decide +kernel), lw_in (i := 134) (by decide +kernel) (by decide +kernel), by decide, by decide, by decide +kernel⟩
theorem yw_X12_activity : YW yX12_activity cX12_activity 2 (some .int) 1 := ⟨lw_in (i := 1931) (by decide +kernel) (by decide +kernel), lw_in (i := 134) (by decide +kernel) (by decide +kernel), by decide, by decide, by decide +kernel⟩
theorem yw_X12_adopt : YW yX12_adopt cX12_adopt 2 (some .int) 0 := ⟨lw_in (i := 2021) (by decide +kernel) (by decide +kernel), lw_in (i := 134) (by decide +kernel) (by decide +kernel), by decide, by decide, by decide +kernel⟩
theorem yw_X12_ahead : YW yX12_ahead cX12_ahead 3 (some .int) 2 := ⟨lw_in (i := 1957) (by decide +kernel) (by decide +kernel), lw_in (i := 134) (by decide +kernel) (by decide +kernel), by decide, by decide, by decide +kernel⟩
theorem yw_X12_aim : YW yX12_aim cX12_aim 2 (some .boolean) 1 := ⟨lw_in (i := 1654) (by decide +kernel) (by decide +kernel), lw_in (i := 134) (by decide +kernel) (by decide +kernel), by decide, by decide, by decide +kernel⟩
theorem yw_X12_back : YW yX12_back cX12_back 1 (some .int) 0 := ⟨lw_in (i := 2143) (by decide +kernel) (by decide +kernel), lw_in (i := 134) (by decide +kernel) (by decide +kernel), by decide, by decide, by decide +kernel⟩
theorem yw_X12_bad : YW yX12_bad cX12_bad 2 (some .int) 1 := ⟨lw_in (i := 1871) (by decide +kernel) (by decide +kernel), lw_in (i := 134) (by decide +kernel) (by decide +kernel), by decide, by decide, by decide +kernel⟩
theorem yw_X12_bar : YW yX12_bar cX12_bar 4 (some .int) 3 := ⟨lw_in (i := 1828) (by decide +kernel) (by decide +kernel), lw_in (i := 134) (by decide +kernel) (by decide +kernel), by decide, by decide, by decide +kernel⟩
theorem yw_X12_bestMode : YW yX12_bestMode cX12_bestMode 6 (some .int) 0 := ⟨lw_in (i := 2121) (by decide +kernel) (by decide +kernel), lw_in (i := 134) (by decide +kernel) (by decide +kernel), by decide, by decide, by decide +kernel⟩
theorem yw_X12_chosen : YW yX12_chosen cX12_chosen 2 (some .int) 1 := ⟨lw_in (i := 2089) (by decide +kernel) (by decide +kernel), lw_in (i := 134) (by decide +kernel) (by decide +kernel), by decide, by decide, by decide +kernel⟩
theorem yw_X12_claim : YW yX12_claim cX12_claim 3 (some .int) 2 := ⟨lw_in (i := 2017) (by decide +kernel) (by decide +kernel), lw_in (i := 134) (by decide +kernel) (by decide +kernel), by decide, by decide, by decide +kernel⟩
theorem yw_X12_claimed : YW yX12_claimed cX12_claimed 3 (some .int) 2 := ⟨lw_in (i := 2057) (by decide +kernel) (by decide +kernel), lw_in (i := 134) (by decide +kernel) (by decide +kernel), by decide, by decide, by decide +kernel⟩
theorem yw_X12_cube : YW yX12_cube cX12_cube 5 (some .int) 3 := ⟨lw_in (i := 1883) (by decide +kernel) (by decide +kernel), lw_in (i := 134) (by decide +kernel) (by decide +kernel), by decide, by decide, by decide +kernel⟩
theorem yw_X12_detour : YW yX12_detour cX12_detour 2 (some .int) 0 := ⟨lw_in (i := 2013) (by decide +kernel) (by decide +kernel), lw_in (i := 134) (by decide +kernel) (by decide +kernel), by decide, by decide, by decide +kernel⟩
theorem yw_X12_distance : YW yX12_distance cX12_distance 2 (some .int) 1 := ⟨lw_in (i := 1961) (by decide +kernel) (by decide +kernel), lw_in (i := 134) (by decide +kernel) (by decide +kernel), by decide, by decide, by decide +kernel⟩
theorem yw_X12_distanceBy : YW yX12_distanceBy cX12_distanceBy 3 (some .int) 2 := ⟨lw_in (i := 1973) (by decide +kernel) (by decide +kernel), lw_in (i := 134) (by decide +kernel) (by decide +kernel), by decide, by decide, by decide +kernel⟩
theorem yw_X12_doomed : YW yX12_doomed cX12_doomed 2 (some .int) 1 := ⟨lw_in (i := 2001) (by decide +kernel) (by decide +kernel), lw_in (i := 134) (by decide +kernel) (by decide +kernel), by decide, by decide, by decide +kernel⟩
theorem yw_X12_drawn : YW yX12_drawn cX12_drawn 6 (some .boolean) 2 := ⟨lw_in (i := 1650) (by decide +kernel) (by decide +kernel), lw_in (i := 134) (by decide +kernel) (by decide +kernel), by decide, by decide, by decide +kernel⟩
theorem yw_X12_end : YW yX12_end cX12_end 2 (some .int) 1 := ⟨lw_in (i := 1527) (by decide +kernel) (by decide +kernel), lw_in (i := 134) (by decide +kernel) (by decide +kernel), by decide, by decide, by decide +kernel⟩
theorem yw_X12_far : YW yX12_far cX12_far 2 (some .int) 1 := ⟨lw_in (i := 1989) (by decide +kernel) (by decide +kernel), lw_in (i := 134) (by decide +kernel) (by decide +kernel), by decide, by decide, by decide +kernel⟩
theorem yw_X12_fault : YW yX12_fault cX12_fault 2 (some .int) 1 := ⟨lw_in (i := 1621) (by decide +kernel) (by decide +kernel), lw_in (i := 134) (by decide +kernel) (by decide +kernel), by decide, by decide, by decide +kernel⟩
theorem yw_X12_feed : YW yX12_feed cX12_feed 6 (some .int) 5 := ⟨lw_in (i := 1519) (by decide +kernel) (by decide +kernel), lw_in (i := 134) (by decide +kernel) (by decide +kernel), by decide, by decide, by decide +kernel⟩
theorem yw_X12_fence : YW yX12_fence cX12_fence 3 (some .int) 2 := ⟨lw_in (i := 1919) (by decide +kernel) (by decide +kernel), lw_in (i := 134) (by decide +kernel) (by decide +kernel), by decide, by decide, by decide +kernel⟩
theorem yw_X12_fewest : YW yX12_fewest cX12_fewest 3 (some .int) 1 := ⟨lw_in (i := 2081) (by decide +kernel) (by decide +kernel), lw_in (i := 134) (by decide +kernel) (by decide +kernel), by decide, by decide, by decide +kernel⟩
theorem yw_X12_foretold : YW yX12_foretold cX12_foretold 3 (some .int) 1 := ⟨lw_in (i := 2097) (by decide +kernel) (by decide +kernel), lw_in (i := 134) (by decide +kernel) (by decide +kernel), by decide, by decide, by decide +kernel⟩
theorem yw_X12_holds : YW yX12_holds cX12_holds 4 (some .boolean) 3 := ⟨lw_in (i := 1949) (by decide +kernel) (by decide +kernel), lw_in (i := 134) (by decide +kernel) (by decide +kernel), by decide, by decide, by decide +kernel⟩
theorem yw_X12_image : YW yX12_image cX12_image 1 (some .int) 0 := ⟨lw_in (i := 2139) (by decide +kernel) (by decide +kernel), lw_in (i := 134) (by decide +kernel) (by decide +kernel), by decide, by decide, by decide +kernel⟩
theorem yw_X12_init : YW yX12_init cX12_init 3 none 0 := ⟨lw_in (i := 1399) (by decide +kernel) (by decide +kernel), lw_in (i := 134) (by decide +kernel) (by decide +kernel), by decide, by decide, by decide +kernel⟩
theorem yw_X12_inside : YW yX12_inside cX12_inside 2 (some .int) 1 := ⟨lw_in (i := 2093) (by decide +kernel) (by decide +kernel), lw_in (i := 134) (by decide +kernel) (by decide +kernel), by decide, by decide, by decide +kernel⟩
theorem yw_X12_is : YW yX12_is cX12_is 2 (some .int) 1 := ⟨lw_in (i := 1836) (by decide +kernel) (by decide +kernel), lw_in (i := 134) (by decide +kernel) (by decide +kernel), by decide, by decide, by decide +kernel⟩
theorem yw_X12_judged : YW yX12_judged cX12_judged 2 (some .int) 1 := ⟨lw_in (i := 2061) (by decide +kernel) (by decide +kernel), lw_in (i := 134) (by decide +kernel) (by decide +kernel), by decide, by decide, by decide +kernel⟩
theorem yw_X12_leads : YW yX12_leads cX12_leads 5 (some .int) 2 := ⟨lw_in (i := 1848) (by decide +kernel) (by decide +kernel), lw_in (i := 134) (by decide +kernel) (by decide +kernel), by decide, by decide, by decide +kernel⟩
theorem yw_X12_load : YW yX12_load cX12_load 6 (some .int) 1 := ⟨lw_in (i := 1625) (by decide +kernel) (by decide +kernel), lw_in (i := 134) (by decide +kernel) (by decide +kernel), by decide, by decide, by decide +kernel⟩
theorem yw_X12_loosen : YW yX12_loosen cX12_loosen 5 (some .int) 1 := ⟨lw_in (i := 2029) (by decide +kernel) (by decide +kernel), lw_in (i := 134) (by decide +kernel) (by decide +kernel), by decide, by decide, by decide +kernel⟩
theorem yw_X12_mean : YW yX12_mean cX12_mean 1 (some .long) 0 := ⟨lw_in (i := 2125) (by decide +kernel) (by decide +kernel), lw_in (i := 134) (by decide +kernel) (by decide +kernel), by decide, by decide, by decide +kernel⟩
theorem yw_X12_mode : YW yX12_mode cX12_mode 2 (some .boolean) 1 := ⟨lw_in (i := 1670) (by decide +kernel) (by decide +kernel), lw_in (i := 134) (by decide +kernel) (by decide +kernel), by decide, by decide, by decide +kernel⟩
theorem yw_X12_nearest : YW yX12_nearest cX12_nearest 1 (some .int) 0 := ⟨lw_in (i := 1977) (by decide +kernel) (by decide +kernel), lw_in (i := 134) (by decide +kernel) (by decide +kernel), by decide, by decide, by decide +kernel⟩
theorem yw_X12_obligation : YW yX12_obligation cX12_obligation 3 (some .int) 2 := ⟨lw_in (i := 1895) (by decide +kernel) (by decide +kernel), lw_in (i := 134) (by decide +kernel) (by decide +kernel), by decide, by decide, by decide +kernel⟩
theorem yw_X12_of : YW yX12_of cX12_of 3 (some .boolean) 2 := ⟨lw_in (i := 1852) (by decide +kernel) (by decide +kernel), lw_in (i := 134) (by decide +kernel) (by decide +kernel), by decide, by decide, by decide +kernel⟩
theorem yw_X12_order : YW yX12_order cX12_order 2 (some .int) 1 := ⟨lw_in (i := 1945) (by decide +kernel) (by decide +kernel), lw_in (i := 134) (by decide +kernel) (by decide +kernel), by decide, by decide, by decide +kernel⟩
theorem yw_X12_quickest : YW yX12_quickest cX12_quickest 5 (some .int) 0 := ⟨lw_in (i := 2117) (by decide +kernel) (by decide +kernel), lw_in (i := 134) (by decide +kernel) (by decide +kernel), by decide, by decide, by decide +kernel⟩
theorem yw_X12_reach : YW yX12_reach cX12_reach 2 (some .int) 1 := ⟨lw_in (i := 1981) (by decide +kernel) (by decide +kernel), lw_in (i := 134) (by decide +kernel) (by decide +kernel), by decide, by decide, by decide +kernel⟩
theorem yw_X12_shortest : YW yX12_shortest cX12_shortest 3 (some .int) 2 := ⟨lw_in (i := 2005) (by decide +kernel) (by decide +kernel), lw_in (i := 134) (by decide +kernel) (by decide +kernel), by decide, by decide, by decide +kernel⟩
theorem yw_X12_slack : YW yX12_slack cX12_slack 2 (some .int) 1 := ⟨lw_in (i := 1985) (by decide +kernel) (by decide +kernel), lw_in (i := 134) (by decide +kernel) (by decide +kernel), by decide, by decide, by decide +kernel⟩
theorem yw_X12_sought : YW yX12_sought cX12_sought 6 (some .int) 1 := ⟨lw_in (i := 1875) (by decide +kernel) (by decide +kernel), lw_in (i := 134) (by decide +kernel) (by decide +kernel), by decide, by decide, by decide +kernel⟩
theorem yw_X12_spare : YW yX12_spare cX12_spare 7 (some .int) 1 := ⟨lw_in (i := 2073) (by decide +kernel) (by decide +kernel), lw_in (i := 134) (by decide +kernel) (by decide +kernel), by decide, by decide, by decide +kernel⟩
theorem yw_X12_step : YW yX12_step cX12_step 2 (some .int) 1 := ⟨lw_in (i := 1678) (by decide +kernel) (by decide +kernel), lw_in (i := 134) (by decide +kernel) (by decide +kernel), by decide, by decide, by decide +kernel⟩
theorem yw_X12_successor : YW yX12_successor cX12_successor 3 (some .int) 2 := ⟨lw_in (i := 1840) (by decide +kernel) (by decide +kernel), lw_in (i := 134) (by decide +kernel) (by decide +kernel), by decide, by decide, by decide +kernel⟩
theorem yw_X12_text : YW yX12_text cX12_text 1 (some .int) 0 := ⟨lw_in (i := 1534) (by decide +kernel) (by decide +kernel), lw_in (i := 134) (by decide +kernel) (by decide +kernel), by decide, by decide, by decide +kernel⟩
theorem yw_X12_till : YW yX12_till cX12_till 1 (some .int) 0 := ⟨lw_in (i := 2109) (by decide +kernel) (by decide +kernel), lw_in (i := 134) (by decide +kernel) (by decide +kernel), by decide, by decide, by decide +kernel⟩
theorem yw_X12_trace : YW yX12_trace cX12_trace 3 (some .int) 2 := ⟨lw_in (i := 1903) (by decide +kernel) (by decide +kernel), lw_in (i := 134) (by decide +kernel) (by decide +kernel), by decide, by decide, by decide +kernel⟩
theorem yw_X12_unclaim : YW yX12_unclaim cX12_unclaim 3 (some .int) 1 := ⟨lw_in (i := 2025) (by decide +kernel) (by decide +kernel), lw_in (i := 134) (by decide +kernel) (by decide +kernel), by decide, by decide, by decide +kernel⟩
theorem yw_X12_undo : YW yX12_undo cX12_undo 3 (some .int) 0 := ⟨lw_in (i := 1674) (by decide +kernel) (by decide +kernel), lw_in (i := 134) (by decide +kernel) (by decide +kernel), by decide, by decide, by decide +kernel⟩
theorem yw_X12_weight : YW yX12_weight cX12_weight 4 (some .int) 1 := ⟨lw_in (i := 1879) (by decide +kernel) (by decide +kernel), lw_in (i := 134) (by decide +kernel) (by decide +kernel), by decide, by decide, by decide +kernel⟩
theorem yw_X12_wide : YW yX12_wide cX12_wide 2 (some .int) 1 := ⟨lw_in (i := 1864) (by decide +kernel) (by decide +kernel), lw_in (i := 134) (by decide +kernel) (by decide +kernel), by decide, by decide, by decide +kernel⟩
theorem yw_X12_widened : YW yX12_widened cX12_widened 5 (some .int) 2 := ⟨lw_in (i := 1953) (by decide +kernel) (by decide +kernel), lw_in (i := 134) (by decide +kernel) (by decide +kernel), by decide, by decide, by decide +kernel⟩
theorem yw_X12_within : YW yX12_within cX12_within 3 (some .boolean) 2 := ⟨lw_in (i := 1856) (by decide +kernel) (by decide +kernel), lw_in (i := 134) (by decide +kernel) (by decide +kernel), by decide, by decide, by decide +kernel⟩
theorem yw_X12_witness : YW yX12_witness cX12_witness 4 (some .int) 1 := ⟨lw_in (i := 2069) (by decide +kernel) (by decide +kernel), lw_in (i := 134) (by decide +kernel) (by decide +kernel), by decide, by decide, by decide +kernel⟩
