theorem kI_6 : Int32.ofInt 6 = (6 : Int32) := by decide
theorem wm_124 : Cond.initialized "FencedStates" ∈ lw_gd := lw_in (i := 124) (by decide +kernel) (by decide +kernel)
theorem wm_133 : Cond.initialized "FencedStatesModel" ∈ lw_gd := lw_in (i := 133) (by decide +kernel) (by decide +kernel)
theorem wm_150 : Cond.classLink "FencedStatesLaw" 7 "FencedStates" ∈ lw_gd := lw_in (i := 150) (by decide +kernel) (by decide +kernel)
theorem wm_151 : Cond.instantiable "FencedStates" 12 ∈ lw_gd := lw_in (i := 151) (by decide +kernel) (by decide +kernel)
theorem wm_152 : Cond.methodLink "FencedStatesLaw" 9 ⟨"FencedStates", "<init>", "()V"⟩ ∈ lw_gd := lw_in (i := 152) (by decide +kernel) (by decide +kernel)
theorem wm_153 : Cond.instanceMethod ⟨"FencedStates", "<init>", "()V"⟩ ∈ lw_gd := lw_in (i := 153) (by decide +kernel) (by decide +kernel)
theorem wm_460 : Cond.methodLink "FencedStatesLaw" 13 ⟨"FencedStates", "feed", "(IIIII)I"⟩ ∈ lw_gd := lw_in (i := 460) (by decide +kernel) (by decide +kernel)
theorem wm_461 : Cond.instanceMethod ⟨"FencedStates", "feed", "(IIIII)I"⟩ ∈ lw_gd := lw_in (i := 461) (by decide +kernel) (by decide +kernel)
theorem wm_462 : Cond.selects "FencedStates" ⟨"FencedStates", "feed", "(IIIII)I"⟩ ⟨"FencedStates", "feed", "(IIIII)I"⟩ ∈ lw_gd := lw_in (i := 462) (by decide +kernel) (by decide +kernel)
theorem wm_468 : Cond.methodLink "FencedStatesLaw" 18 ⟨"FencedStates", "end", "(I)I"⟩ ∈ lw_gd := lw_in (i := 468) (by decide +kernel) (by decide +kernel)
theorem wm_469 : Cond.instanceMethod ⟨"FencedStates", "end", "(I)I"⟩ ∈ lw_gd := lw_in (i := 469) (by decide +kernel) (by decide +kernel)
theorem wm_470 : Cond.selects "FencedStates" ⟨"FencedStates", "end", "(I)I"⟩ ⟨"FencedStates", "end", "(I)I"⟩ ∈ lw_gd := lw_in (i := 470) (by decide +kernel) (by decide +kernel)
theorem wm_472 : Cond.methodLink "FencedStatesLaw" 23 ⟨"FencedStates", "text", "()I"⟩ ∈ lw_gd := lw_in (i := 472) (by decide +kernel) (by decide +kernel)
theorem wm_473 : Cond.instanceMethod ⟨"FencedStates", "text", "()I"⟩ ∈ lw_gd := lw_in (i := 473) (by decide +kernel) (by decide +kernel)
theorem wm_474 : Cond.selects "FencedStates" ⟨"FencedStates", "text", "()I"⟩ ⟨"FencedStates", "text", "()I"⟩ ∈ lw_gd := lw_in (i := 474) (by decide +kernel) (by decide +kernel)
theorem wm_711 : Cond.methodLink "FencedStatesLaw" 28 ⟨"FencedStates", "fault", "(I)I"⟩ ∈ lw_gd := lw_in (i := 711) (by decide +kernel) (by decide +kernel)
theorem wm_712 : Cond.instanceMethod ⟨"FencedStates", "fault", "(I)I"⟩ ∈ lw_gd := lw_in (i := 712) (by decide +kernel) (by decide +kernel)
theorem wm_713 : Cond.selects "FencedStates" ⟨"FencedStates", "fault", "(I)I"⟩ ⟨"FencedStates", "fault", "(I)I"⟩ ∈ lw_gd := lw_in (i := 713) (by decide +kernel) (by decide +kernel)
theorem wm_715 : Cond.methodLink "FencedStatesLaw" 32 ⟨"FencedStates", "load", "(I)I"⟩ ∈ lw_gd := lw_in (i := 715) (by decide +kernel) (by decide +kernel)
theorem wm_716 : Cond.instanceMethod ⟨"FencedStates", "load", "(I)I"⟩ ∈ lw_gd := lw_in (i := 716) (by decide +kernel) (by decide +kernel)
theorem wm_717 : Cond.selects "FencedStates" ⟨"FencedStates", "load", "(I)I"⟩ ⟨"FencedStates", "load", "(I)I"⟩ ∈ lw_gd := lw_in (i := 717) (by decide +kernel) (by decide +kernel)
theorem wm_775 : Cond.methodLink "FencedStatesLaw" 36 ⟨"FencedStates", "drawn", "(II)Z"⟩ ∈ lw_gd := lw_in (i := 775) (by decide +kernel) (by decide +kernel)
theorem wm_776 : Cond.instanceMethod ⟨"FencedStates", "drawn", "(II)Z"⟩ ∈ lw_gd := lw_in (i := 776) (by decide +kernel) (by decide +kernel)
theorem wm_777 : Cond.selects "FencedStates" ⟨"FencedStates", "drawn", "(II)Z"⟩ ⟨"FencedStates", "drawn", "(II)Z"⟩ ∈ lw_gd := lw_in (i := 777) (by decide +kernel) (by decide +kernel)
theorem wm_782 : Cond.methodLink "FencedStatesLaw" 41 ⟨"FencedStates", "aim", "(I)Z"⟩ ∈ lw_gd := lw_in (i := 782) (by decide +kernel) (by decide +kernel)
theorem wm_783 : Cond.instanceMethod ⟨"FencedStates", "aim", "(I)Z"⟩ ∈ lw_gd := lw_in (i := 783) (by decide +kernel) (by decide +kernel)
theorem wm_784 : Cond.selects "FencedStates" ⟨"FencedStates", "aim", "(I)Z"⟩ ⟨"FencedStates", "aim", "(I)Z"⟩ ∈ lw_gd := lw_in (i := 784) (by decide +kernel) (by decide +kernel)
theorem wm_799 : Cond.methodLink "FencedStatesLaw" 46 ⟨"FencedStates", "mode", "(I)Z"⟩ ∈ lw_gd := lw_in (i := 799) (by decide +kernel) (by decide +kernel)
theorem wm_800 : Cond.instanceMethod ⟨"FencedStates", "mode", "(I)Z"⟩ ∈ lw_gd := lw_in (i := 800) (by decide +kernel) (by decide +kernel)
theorem wm_801 : Cond.selects "FencedStates" ⟨"FencedStates", "mode", "(I)Z"⟩ ⟨"FencedStates", "mode", "(I)Z"⟩ ∈ lw_gd := lw_in (i := 801) (by decide +kernel) (by decide +kernel)
theorem wm_803 : Cond.methodLink "FencedStatesLaw" 50 ⟨"FencedStates", "bar", "(III)I"⟩ ∈ lw_gd := lw_in (i := 803) (by decide +kernel) (by decide +kernel)
theorem wm_804 : Cond.instanceMethod ⟨"FencedStates", "bar", "(III)I"⟩ ∈ lw_gd := lw_in (i := 804) (by decide +kernel) (by decide +kernel)
theorem wm_805 : Cond.selects "FencedStates" ⟨"FencedStates", "bar", "(III)I"⟩ ⟨"FencedStates", "bar", "(III)I"⟩ ∈ lw_gd := lw_in (i := 805) (by decide +kernel) (by decide +kernel)
theorem wm_875 : Cond.methodLink "FencedStatesLaw" 55 ⟨"FencedStates", "step", "(I)I"⟩ ∈ lw_gd := lw_in (i := 875) (by decide +kernel) (by decide +kernel)
theorem wm_876 : Cond.instanceMethod ⟨"FencedStates", "step", "(I)I"⟩ ∈ lw_gd := lw_in (i := 876) (by decide +kernel) (by decide +kernel)
theorem wm_877 : Cond.selects "FencedStates" ⟨"FencedStates", "step", "(I)I"⟩ ⟨"FencedStates", "step", "(I)I"⟩ ∈ lw_gd := lw_in (i := 877) (by decide +kernel) (by decide +kernel)
theorem wm_996 : Cond.methodLink "FencedStatesLaw" 59 ⟨"FencedStates", "undo", "()I"⟩ ∈ lw_gd := lw_in (i := 996) (by decide +kernel) (by decide +kernel)
theorem wm_997 : Cond.instanceMethod ⟨"FencedStates", "undo", "()I"⟩ ∈ lw_gd := lw_in (i := 997) (by decide +kernel) (by decide +kernel)
theorem wm_998 : Cond.selects "FencedStates" ⟨"FencedStates", "undo", "()I"⟩ ⟨"FencedStates", "undo", "()I"⟩ ∈ lw_gd := lw_in (i := 998) (by decide +kernel) (by decide +kernel)
theorem wm_1004 : Cond.methodLink "FencedStatesLaw" 63 ⟨"FencedStates", "is", "(I)I"⟩ ∈ lw_gd := lw_in (i := 1004) (by decide +kernel) (by decide +kernel)
theorem wm_1005 : Cond.instanceMethod ⟨"FencedStates", "is", "(I)I"⟩ ∈ lw_gd := lw_in (i := 1005) (by decide +kernel) (by decide +kernel)
theorem wm_1006 : Cond.selects "FencedStates" ⟨"FencedStates", "is", "(I)I"⟩ ⟨"FencedStates", "is", "(I)I"⟩ ∈ lw_gd := lw_in (i := 1006) (by decide +kernel) (by decide +kernel)
theorem wm_1008 : Cond.methodLink "FencedStatesLaw" 67 ⟨"FencedStates", "successor", "(II)I"⟩ ∈ lw_gd := lw_in (i := 1008) (by decide +kernel) (by decide +kernel)
theorem wm_1009 : Cond.instanceMethod ⟨"FencedStates", "successor", "(II)I"⟩ ∈ lw_gd := lw_in (i := 1009) (by decide +kernel) (by decide +kernel)
theorem wm_1010 : Cond.selects "FencedStates" ⟨"FencedStates", "successor", "(II)I"⟩ ⟨"FencedStates", "successor", "(II)I"⟩ ∈ lw_gd := lw_in (i := 1010) (by decide +kernel) (by decide +kernel)
theorem wm_1020 : Cond.methodLink "FencedStatesLaw" 72 ⟨"FencedStates", "leads", "(II)I"⟩ ∈ lw_gd := lw_in (i := 1020) (by decide +kernel) (by decide +kernel)
theorem wm_1021 : Cond.instanceMethod ⟨"FencedStates", "leads", "(II)I"⟩ ∈ lw_gd := lw_in (i := 1021) (by decide +kernel) (by decide +kernel)
theorem wm_1022 : Cond.selects "FencedStates" ⟨"FencedStates", "leads", "(II)I"⟩ ⟨"FencedStates", "leads", "(II)I"⟩ ∈ lw_gd := lw_in (i := 1022) (by decide +kernel) (by decide +kernel)
theorem wm_1037 : Cond.methodLink "FencedStatesLaw" 76 ⟨"FencedStates", "of", "(II)Z"⟩ ∈ lw_gd := lw_in (i := 1037) (by decide +kernel) (by decide +kernel)
theorem wm_1038 : Cond.instanceMethod ⟨"FencedStates", "of", "(II)Z"⟩ ∈ lw_gd := lw_in (i := 1038) (by decide +kernel) (by decide +kernel)
theorem wm_1039 : Cond.selects "FencedStates" ⟨"FencedStates", "of", "(II)Z"⟩ ⟨"FencedStates", "of", "(II)Z"⟩ ∈ lw_gd := lw_in (i := 1039) (by decide +kernel) (by decide +kernel)
theorem wm_1042 : Cond.methodLink "FencedStatesLaw" 80 ⟨"FencedStates", "within", "(II)Z"⟩ ∈ lw_gd := lw_in (i := 1042) (by decide +kernel) (by decide +kernel)
theorem wm_1043 : Cond.instanceMethod ⟨"FencedStates", "within", "(II)Z"⟩ ∈ lw_gd := lw_in (i := 1043) (by decide +kernel) (by decide +kernel)
theorem wm_1044 : Cond.selects "FencedStates" ⟨"FencedStates", "within", "(II)Z"⟩ ⟨"FencedStates", "within", "(II)Z"⟩ ∈ lw_gd := lw_in (i := 1044) (by decide +kernel) (by decide +kernel)
theorem wm_1051 : Cond.methodLink "FencedStatesLaw" 84 ⟨"FencedStates", "wide", "(I)I"⟩ ∈ lw_gd := lw_in (i := 1051) (by decide +kernel) (by decide +kernel)
theorem wm_1052 : Cond.instanceMethod ⟨"FencedStates", "wide", "(I)I"⟩ ∈ lw_gd := lw_in (i := 1052) (by decide +kernel) (by decide +kernel)
theorem wm_1053 : Cond.selects "FencedStates" ⟨"FencedStates", "wide", "(I)I"⟩ ⟨"FencedStates", "wide", "(I)I"⟩ ∈ lw_gd := lw_in (i := 1053) (by decide +kernel) (by decide +kernel)
theorem wm_1055 : Cond.methodLink "FencedStatesLaw" 88 ⟨"FencedStates", "bad", "(I)I"⟩ ∈ lw_gd := lw_in (i := 1055) (by decide +kernel) (by decide +kernel)
theorem wm_1056 : Cond.instanceMethod ⟨"FencedStates", "bad", "(I)I"⟩ ∈ lw_gd := lw_in (i := 1056) (by decide +kernel) (by decide +kernel)
theorem wm_1057 : Cond.selects "FencedStates" ⟨"FencedStates", "bad", "(I)I"⟩ ⟨"FencedStates", "bad", "(I)I"⟩ ∈ lw_gd := lw_in (i := 1057) (by decide +kernel) (by decide +kernel)
theorem wm_1060 : Cond.methodLink "FencedStatesLaw" 92 ⟨"FencedStates", "sought", "(I)I"⟩ ∈ lw_gd := lw_in (i := 1060) (by decide +kernel) (by decide +kernel)
theorem wm_1061 : Cond.instanceMethod ⟨"FencedStates", "sought", "(I)I"⟩ ∈ lw_gd := lw_in (i := 1061) (by decide +kernel) (by decide +kernel)
theorem wm_1062 : Cond.selects "FencedStates" ⟨"FencedStates", "sought", "(I)I"⟩ ⟨"FencedStates", "sought", "(I)I"⟩ ∈ lw_gd := lw_in (i := 1062) (by decide +kernel) (by decide +kernel)
theorem wm_1065 : Cond.methodLink "FencedStatesLaw" 96 ⟨"FencedStates", "weight", "(I)I"⟩ ∈ lw_gd := lw_in (i := 1065) (by decide +kernel) (by decide +kernel)
theorem wm_1066 : Cond.instanceMethod ⟨"FencedStates", "weight", "(I)I"⟩ ∈ lw_gd := lw_in (i := 1066) (by decide +kernel) (by decide +kernel)
theorem wm_1067 : Cond.selects "FencedStates" ⟨"FencedStates", "weight", "(I)I"⟩ ⟨"FencedStates", "weight", "(I)I"⟩ ∈ lw_gd := lw_in (i := 1067) (by decide +kernel) (by decide +kernel)
theorem wm_1081 : Cond.methodLink "FencedStatesLaw" 100 ⟨"FencedStates", "cube", "(III)I"⟩ ∈ lw_gd := lw_in (i := 1081) (by decide +kernel) (by decide +kernel)
theorem wm_1082 : Cond.instanceMethod ⟨"FencedStates", "cube", "(III)I"⟩ ∈ lw_gd := lw_in (i := 1082) (by decide +kernel) (by decide +kernel)
theorem wm_1083 : Cond.selects "FencedStates" ⟨"FencedStates", "cube", "(III)I"⟩ ⟨"FencedStates", "cube", "(III)I"⟩ ∈ lw_gd := lw_in (i := 1083) (by decide +kernel) (by decide +kernel)
theorem wm_1092 : Cond.methodLink "FencedStatesLaw" 104 ⟨"FencedStates", "obligation", "(II)I"⟩ ∈ lw_gd := lw_in (i := 1092) (by decide +kernel) (by decide +kernel)
theorem wm_1093 : Cond.instanceMethod ⟨"FencedStates", "obligation", "(II)I"⟩ ∈ lw_gd := lw_in (i := 1093) (by decide +kernel) (by decide +kernel)
theorem wm_1094 : Cond.selects "FencedStates" ⟨"FencedStates", "obligation", "(II)I"⟩ ⟨"FencedStates", "obligation", "(II)I"⟩ ∈ lw_gd := lw_in (i := 1094) (by decide +kernel) (by decide +kernel)
theorem wm_1097 : Cond.methodLink "FencedStatesLaw" 108 ⟨"FencedStates", "trace", "(II)I"⟩ ∈ lw_gd := lw_in (i := 1097) (by decide +kernel) (by decide +kernel)
theorem wm_1098 : Cond.instanceMethod ⟨"FencedStates", "trace", "(II)I"⟩ ∈ lw_gd := lw_in (i := 1098) (by decide +kernel) (by decide +kernel)
theorem wm_1099 : Cond.selects "FencedStates" ⟨"FencedStates", "trace", "(II)I"⟩ ⟨"FencedStates", "trace", "(II)I"⟩ ∈ lw_gd := lw_in (i := 1099) (by decide +kernel) (by decide +kernel)
theorem wm_1118 : Cond.methodLink "FencedStatesLaw" 112 ⟨"FencedStates", "fence", "(II)I"⟩ ∈ lw_gd := lw_in (i := 1118) (by decide +kernel) (by decide +kernel)
theorem wm_1119 : Cond.instanceMethod ⟨"FencedStates", "fence", "(II)I"⟩ ∈ lw_gd := lw_in (i := 1119) (by decide +kernel) (by decide +kernel)
theorem wm_1120 : Cond.selects "FencedStates" ⟨"FencedStates", "fence", "(II)I"⟩ ⟨"FencedStates", "fence", "(II)I"⟩ ∈ lw_gd := lw_in (i := 1120) (by decide +kernel) (by decide +kernel)
theorem wm_1126 : Cond.methodLink "FencedStatesLaw" 116 ⟨"FencedStates", "activity", "(I)I"⟩ ∈ lw_gd := lw_in (i := 1126) (by decide +kernel) (by decide +kernel)
theorem wm_1127 : Cond.instanceMethod ⟨"FencedStates", "activity", "(I)I"⟩ ∈ lw_gd := lw_in (i := 1127) (by decide +kernel) (by decide +kernel)
theorem wm_1128 : Cond.selects "FencedStates" ⟨"FencedStates", "activity", "(I)I"⟩ ⟨"FencedStates", "activity", "(I)I"⟩ ∈ lw_gd := lw_in (i := 1128) (by decide +kernel) (by decide +kernel)
theorem wm_1136 : Cond.methodLink "FencedStatesLaw" 120 ⟨"FencedStates", "order", "(I)I"⟩ ∈ lw_gd := lw_in (i := 1136) (by decide +kernel) (by decide +kernel)
theorem wm_1137 : Cond.instanceMethod ⟨"FencedStates", "order", "(I)I"⟩ ∈ lw_gd := lw_in (i := 1137) (by decide +kernel) (by decide +kernel)
theorem wm_1138 : Cond.selects "FencedStates" ⟨"FencedStates", "order", "(I)I"⟩ ⟨"FencedStates", "order", "(I)I"⟩ ∈ lw_gd := lw_in (i := 1138) (by decide +kernel) (by decide +kernel)
theorem wm_1141 : Cond.methodLink "FencedStatesLaw" 124 ⟨"FencedStates", "holds", "(III)Z"⟩ ∈ lw_gd := lw_in (i := 1141) (by decide +kernel) (by decide +kernel)
theorem wm_1142 : Cond.instanceMethod ⟨"FencedStates", "holds", "(III)Z"⟩ ∈ lw_gd := lw_in (i := 1142) (by decide +kernel) (by decide +kernel)
theorem wm_1143 : Cond.selects "FencedStates" ⟨"FencedStates", "holds", "(III)Z"⟩ ⟨"FencedStates", "holds", "(III)Z"⟩ ∈ lw_gd := lw_in (i := 1143) (by decide +kernel) (by decide +kernel)
theorem wm_1146 : Cond.methodLink "FencedStatesLaw" 129 ⟨"FencedStates", "widened", "(II)I"⟩ ∈ lw_gd := lw_in (i := 1146) (by decide +kernel) (by decide +kernel)
theorem wm_1147 : Cond.instanceMethod ⟨"FencedStates", "widened", "(II)I"⟩ ∈ lw_gd := lw_in (i := 1147) (by decide +kernel) (by decide +kernel)
theorem wm_1148 : Cond.selects "FencedStates" ⟨"FencedStates", "widened", "(II)I"⟩ ⟨"FencedStates", "widened", "(II)I"⟩ ∈ lw_gd := lw_in (i := 1148) (by decide +kernel) (by decide +kernel)
theorem wm_1152 : Cond.methodLink "FencedStatesLaw" 133 ⟨"FencedStates", "ahead", "(II)I"⟩ ∈ lw_gd := lw_in (i := 1152) (by decide +kernel) (by decide +kernel)
theorem wm_1153 : Cond.instanceMethod ⟨"FencedStates", "ahead", "(II)I"⟩ ∈ lw_gd := lw_in (i := 1153) (by decide +kernel) (by decide +kernel)
theorem wm_1154 : Cond.selects "FencedStates" ⟨"FencedStates", "ahead", "(II)I"⟩ ⟨"FencedStates", "ahead", "(II)I"⟩ ∈ lw_gd := lw_in (i := 1154) (by decide +kernel) (by decide +kernel)
theorem wm_1156 : Cond.methodLink "FencedStatesLaw" 137 ⟨"FencedStates", "distance", "(I)I"⟩ ∈ lw_gd := lw_in (i := 1156) (by decide +kernel) (by decide +kernel)
theorem wm_1157 : Cond.instanceMethod ⟨"FencedStates", "distance", "(I)I"⟩ ∈ lw_gd := lw_in (i := 1157) (by decide +kernel) (by decide +kernel)
theorem wm_1158 : Cond.selects "FencedStates" ⟨"FencedStates", "distance", "(I)I"⟩ ⟨"FencedStates", "distance", "(I)I"⟩ ∈ lw_gd := lw_in (i := 1158) (by decide +kernel) (by decide +kernel)
theorem wm_1172 : Cond.methodLink "FencedStatesLaw" 141 ⟨"FencedStates", "distanceBy", "(II)I"⟩ ∈ lw_gd := lw_in (i := 1172) (by decide +kernel) (by decide +kernel)
theorem wm_1173 : Cond.methodLink "FencedStatesLaw" 145 ⟨"FencedStates", "far", "(I)I"⟩ ∈ lw_gd := lw_in (i := 1173) (by decide +kernel) (by decide +kernel)
theorem wm_1174 : Cond.instanceMethod ⟨"FencedStates", "far", "(I)I"⟩ ∈ lw_gd := lw_in (i := 1174) (by decide +kernel) (by decide +kernel)
theorem wm_1175 : Cond.selects "FencedStates" ⟨"FencedStates", "far", "(I)I"⟩ ⟨"FencedStates", "far", "(I)I"⟩ ∈ lw_gd := lw_in (i := 1175) (by decide +kernel) (by decide +kernel)
theorem wm_1183 : Cond.methodLink "FencedStatesLaw" 149 ⟨"FencedStates", "doomed", "(I)I"⟩ ∈ lw_gd := lw_in (i := 1183) (by decide +kernel) (by decide +kernel)
theorem wm_1184 : Cond.instanceMethod ⟨"FencedStates", "doomed", "(I)I"⟩ ∈ lw_gd := lw_in (i := 1184) (by decide +kernel) (by decide +kernel)
theorem wm_1185 : Cond.selects "FencedStates" ⟨"FencedStates", "doomed", "(I)I"⟩ ⟨"FencedStates", "doomed", "(I)I"⟩ ∈ lw_gd := lw_in (i := 1185) (by decide +kernel) (by decide +kernel)
theorem wm_1191 : Cond.methodLink "FencedStatesLaw" 153 ⟨"FencedStates", "shortest", "(II)I"⟩ ∈ lw_gd := lw_in (i := 1191) (by decide +kernel) (by decide +kernel)
theorem wm_1192 : Cond.instanceMethod ⟨"FencedStates", "shortest", "(II)I"⟩ ∈ lw_gd := lw_in (i := 1192) (by decide +kernel) (by decide +kernel)
theorem wm_1193 : Cond.selects "FencedStates" ⟨"FencedStates", "shortest", "(II)I"⟩ ⟨"FencedStates", "shortest", "(II)I"⟩ ∈ lw_gd := lw_in (i := 1193) (by decide +kernel) (by decide +kernel)
theorem wm_1202 : Cond.methodLink "FencedStatesLaw" 157 ⟨"FencedStates", "detour", "()I"⟩ ∈ lw_gd := lw_in (i := 1202) (by decide +kernel) (by decide +kernel)
theorem wm_1203 : Cond.instanceMethod ⟨"FencedStates", "detour", "()I"⟩ ∈ lw_gd := lw_in (i := 1203) (by decide +kernel) (by decide +kernel)
theorem wm_1204 : Cond.selects "FencedStates" ⟨"FencedStates", "detour", "()I"⟩ ⟨"FencedStates", "detour", "()I"⟩ ∈ lw_gd := lw_in (i := 1204) (by decide +kernel) (by decide +kernel)
theorem wm_1206 : Cond.methodLink "FencedStatesLaw" 161 ⟨"FencedStates", "nearest", "()I"⟩ ∈ lw_gd := lw_in (i := 1206) (by decide +kernel) (by decide +kernel)
theorem wm_1207 : Cond.instanceMethod ⟨"FencedStates", "nearest", "()I"⟩ ∈ lw_gd := lw_in (i := 1207) (by decide +kernel) (by decide +kernel)
theorem wm_1208 : Cond.selects "FencedStates" ⟨"FencedStates", "nearest", "()I"⟩ ⟨"FencedStates", "nearest", "()I"⟩ ∈ lw_gd := lw_in (i := 1208) (by decide +kernel) (by decide +kernel)
theorem wm_1210 : Cond.methodLink "FencedStatesLaw" 165 ⟨"FencedStates", "reach", "(I)I"⟩ ∈ lw_gd := lw_in (i := 1210) (by decide +kernel) (by decide +kernel)
theorem wm_1211 : Cond.instanceMethod ⟨"FencedStates", "reach", "(I)I"⟩ ∈ lw_gd := lw_in (i := 1211) (by decide +kernel) (by decide +kernel)
theorem wm_1212 : Cond.selects "FencedStates" ⟨"FencedStates", "reach", "(I)I"⟩ ⟨"FencedStates", "reach", "(I)I"⟩ ∈ lw_gd := lw_in (i := 1212) (by decide +kernel) (by decide +kernel)
theorem wm_1218 : Cond.methodLink "FencedStatesLaw" 169 ⟨"FencedStates", "slack", "(I)I"⟩ ∈ lw_gd := lw_in (i := 1218) (by decide +kernel) (by decide +kernel)
theorem wm_1219 : Cond.instanceMethod ⟨"FencedStates", "slack", "(I)I"⟩ ∈ lw_gd := lw_in (i := 1219) (by decide +kernel) (by decide +kernel)
theorem wm_1220 : Cond.selects "FencedStates" ⟨"FencedStates", "slack", "(I)I"⟩ ⟨"FencedStates", "slack", "(I)I"⟩ ∈ lw_gd := lw_in (i := 1220) (by decide +kernel) (by decide +kernel)
theorem wm_1223 : Cond.methodLink "FencedStatesLaw" 173 ⟨"FencedStates", "claim", "(II)I"⟩ ∈ lw_gd := lw_in (i := 1223) (by decide +kernel) (by decide +kernel)
theorem wm_1224 : Cond.instanceMethod ⟨"FencedStates", "claim", "(II)I"⟩ ∈ lw_gd := lw_in (i := 1224) (by decide +kernel) (by decide +kernel)
theorem wm_1225 : Cond.selects "FencedStates" ⟨"FencedStates", "claim", "(II)I"⟩ ⟨"FencedStates", "claim", "(II)I"⟩ ∈ lw_gd := lw_in (i := 1225) (by decide +kernel) (by decide +kernel)
theorem wm_1231 : Cond.methodLink "FencedStatesLaw" 177 ⟨"FencedStates", "adopt", "()I"⟩ ∈ lw_gd := lw_in (i := 1231) (by decide +kernel) (by decide +kernel)
theorem wm_1232 : Cond.instanceMethod ⟨"FencedStates", "adopt", "()I"⟩ ∈ lw_gd := lw_in (i := 1232) (by decide +kernel) (by decide +kernel)
theorem wm_1233 : Cond.selects "FencedStates" ⟨"FencedStates", "adopt", "()I"⟩ ⟨"FencedStates", "adopt", "()I"⟩ ∈ lw_gd := lw_in (i := 1233) (by decide +kernel) (by decide +kernel)
theorem wm_1241 : Cond.methodLink "FencedStatesLaw" 181 ⟨"FencedStates", "unclaim", "(I)I"⟩ ∈ lw_gd := lw_in (i := 1241) (by decide +kernel) (by decide +kernel)
theorem wm_1242 : Cond.instanceMethod ⟨"FencedStates", "unclaim", "(I)I"⟩ ∈ lw_gd := lw_in (i := 1242) (by decide +kernel) (by decide +kernel)
theorem wm_1243 : Cond.selects "FencedStates" ⟨"FencedStates", "unclaim", "(I)I"⟩ ⟨"FencedStates", "unclaim", "(I)I"⟩ ∈ lw_gd := lw_in (i := 1243) (by decide +kernel) (by decide +kernel)
theorem wm_1249 : Cond.methodLink "FencedStatesLaw" 185 ⟨"FencedStates", "loosen", "(I)I"⟩ ∈ lw_gd := lw_in (i := 1249) (by decide +kernel) (by decide +kernel)
theorem wm_1250 : Cond.instanceMethod ⟨"FencedStates", "loosen", "(I)I"⟩ ∈ lw_gd := lw_in (i := 1250) (by decide +kernel) (by decide +kernel)
theorem wm_1251 : Cond.selects "FencedStates" ⟨"FencedStates", "loosen", "(I)I"⟩ ⟨"FencedStates", "loosen", "(I)I"⟩ ∈ lw_gd := lw_in (i := 1251) (by decide +kernel) (by decide +kernel)
theorem wm_1283 : Cond.methodLink "FencedStatesLaw" 189 ⟨"FencedStates", "claimed", "(II)I"⟩ ∈ lw_gd := lw_in (i := 1283) (by decide +kernel) (by decide +kernel)
theorem wm_1284 : Cond.instanceMethod ⟨"FencedStates", "claimed", "(II)I"⟩ ∈ lw_gd := lw_in (i := 1284) (by decide +kernel) (by decide +kernel)
theorem wm_1285 : Cond.selects "FencedStates" ⟨"FencedStates", "claimed", "(II)I"⟩ ⟨"FencedStates", "claimed", "(II)I"⟩ ∈ lw_gd := lw_in (i := 1285) (by decide +kernel) (by decide +kernel)
theorem wm_1287 : Cond.methodLink "FencedStatesLaw" 193 ⟨"FencedStates", "judged", "(I)I"⟩ ∈ lw_gd := lw_in (i := 1287) (by decide +kernel) (by decide +kernel)
theorem wm_1288 : Cond.methodLink "FencedStatesLaw" 197 ⟨"FencedStates", "witness", "(I)I"⟩ ∈ lw_gd := lw_in (i := 1288) (by decide +kernel) (by decide +kernel)
theorem wm_1289 : Cond.instanceMethod ⟨"FencedStates", "witness", "(I)I"⟩ ∈ lw_gd := lw_in (i := 1289) (by decide +kernel) (by decide +kernel)
theorem wm_1290 : Cond.selects "FencedStates" ⟨"FencedStates", "witness", "(I)I"⟩ ⟨"FencedStates", "witness", "(I)I"⟩ ∈ lw_gd := lw_in (i := 1290) (by decide +kernel) (by decide +kernel)
theorem wm_1296 : Cond.methodLink "FencedStatesLaw" 201 ⟨"FencedStates", "spare", "(I)I"⟩ ∈ lw_gd := lw_in (i := 1296) (by decide +kernel) (by decide +kernel)
theorem wm_1297 : Cond.instanceMethod ⟨"FencedStates", "spare", "(I)I"⟩ ∈ lw_gd := lw_in (i := 1297) (by decide +kernel) (by decide +kernel)
theorem wm_1298 : Cond.selects "FencedStates" ⟨"FencedStates", "spare", "(I)I"⟩ ⟨"FencedStates", "spare", "(I)I"⟩ ∈ lw_gd := lw_in (i := 1298) (by decide +kernel) (by decide +kernel)
theorem wm_1305 : Cond.methodLink "FencedStatesLaw" 205 ⟨"FencedStates", "fewest", "(I)I"⟩ ∈ lw_gd := lw_in (i := 1305) (by decide +kernel) (by decide +kernel)
theorem wm_1306 : Cond.instanceMethod ⟨"FencedStates", "fewest", "(I)I"⟩ ∈ lw_gd := lw_in (i := 1306) (by decide +kernel) (by decide +kernel)
theorem wm_1307 : Cond.selects "FencedStates" ⟨"FencedStates", "fewest", "(I)I"⟩ ⟨"FencedStates", "fewest", "(I)I"⟩ ∈ lw_gd := lw_in (i := 1307) (by decide +kernel) (by decide +kernel)
theorem wm_1337 : Cond.methodLink "FencedStatesLaw" 209 ⟨"FencedStates", "chosen", "(I)I"⟩ ∈ lw_gd := lw_in (i := 1337) (by decide +kernel) (by decide +kernel)
theorem wm_1338 : Cond.methodLink "FencedStatesLaw" 213 ⟨"FencedStates", "inside", "(I)I"⟩ ∈ lw_gd := lw_in (i := 1338) (by decide +kernel) (by decide +kernel)
theorem wm_1339 : Cond.instanceMethod ⟨"FencedStates", "inside", "(I)I"⟩ ∈ lw_gd := lw_in (i := 1339) (by decide +kernel) (by decide +kernel)
theorem wm_1340 : Cond.selects "FencedStates" ⟨"FencedStates", "inside", "(I)I"⟩ ⟨"FencedStates", "inside", "(I)I"⟩ ∈ lw_gd := lw_in (i := 1340) (by decide +kernel) (by decide +kernel)
theorem wm_1342 : Cond.methodLink "FencedStatesLaw" 217 ⟨"FencedStates", "foretold", "(I)I"⟩ ∈ lw_gd := lw_in (i := 1342) (by decide +kernel) (by decide +kernel)
theorem wm_1343 : Cond.instanceMethod ⟨"FencedStates", "foretold", "(I)I"⟩ ∈ lw_gd := lw_in (i := 1343) (by decide +kernel) (by decide +kernel)
theorem wm_1344 : Cond.selects "FencedStates" ⟨"FencedStates", "foretold", "(I)I"⟩ ⟨"FencedStates", "foretold", "(I)I"⟩ ∈ lw_gd := lw_in (i := 1344) (by decide +kernel) (by decide +kernel)
theorem wm_1347 : Cond.methodLink "FencedStatesLaw" 221 ⟨"FencedStates", "till", "()I"⟩ ∈ lw_gd := lw_in (i := 1347) (by decide +kernel) (by decide +kernel)
theorem wm_1348 : Cond.instanceMethod ⟨"FencedStates", "till", "()I"⟩ ∈ lw_gd := lw_in (i := 1348) (by decide +kernel) (by decide +kernel)
theorem wm_1349 : Cond.selects "FencedStates" ⟨"FencedStates", "till", "()I"⟩ ⟨"FencedStates", "till", "()I"⟩ ∈ lw_gd := lw_in (i := 1349) (by decide +kernel) (by decide +kernel)
theorem wm_1351 : Cond.methodLink "FencedStatesLaw" 225 ⟨"FencedStates", "quickest", "()I"⟩ ∈ lw_gd := lw_in (i := 1351) (by decide +kernel) (by decide +kernel)
theorem wm_1352 : Cond.instanceMethod ⟨"FencedStates", "quickest", "()I"⟩ ∈ lw_gd := lw_in (i := 1352) (by decide +kernel) (by decide +kernel)
theorem wm_1353 : Cond.selects "FencedStates" ⟨"FencedStates", "quickest", "()I"⟩ ⟨"FencedStates", "quickest", "()I"⟩ ∈ lw_gd := lw_in (i := 1353) (by decide +kernel) (by decide +kernel)
theorem wm_1355 : Cond.methodLink "FencedStatesLaw" 229 ⟨"FencedStates", "bestMode", "()I"⟩ ∈ lw_gd := lw_in (i := 1355) (by decide +kernel) (by decide +kernel)
theorem wm_1356 : Cond.instanceMethod ⟨"FencedStates", "bestMode", "()I"⟩ ∈ lw_gd := lw_in (i := 1356) (by decide +kernel) (by decide +kernel)
theorem wm_1357 : Cond.selects "FencedStates" ⟨"FencedStates", "bestMode", "()I"⟩ ⟨"FencedStates", "bestMode", "()I"⟩ ∈ lw_gd := lw_in (i := 1357) (by decide +kernel) (by decide +kernel)
theorem wm_1359 : Cond.methodLink "FencedStatesLaw" 233 ⟨"FencedStates", "mean", "()J"⟩ ∈ lw_gd := lw_in (i := 1359) (by decide +kernel) (by decide +kernel)
theorem wm_1360 : Cond.instanceMethod ⟨"FencedStates", "mean", "()J"⟩ ∈ lw_gd := lw_in (i := 1360) (by decide +kernel) (by decide +kernel)
theorem wm_1361 : Cond.selects "FencedStates" ⟨"FencedStates", "mean", "()J"⟩ ⟨"FencedStates", "mean", "()J"⟩ ∈ lw_gd := lw_in (i := 1361) (by decide +kernel) (by decide +kernel)
theorem wm_1369 : Cond.methodLink "FencedStatesLaw" 238 ⟨"FencedStates", "image", "()I"⟩ ∈ lw_gd := lw_in (i := 1369) (by decide +kernel) (by decide +kernel)
theorem wm_1370 : Cond.instanceMethod ⟨"FencedStates", "image", "()I"⟩ ∈ lw_gd := lw_in (i := 1370) (by decide +kernel) (by decide +kernel)
theorem wm_1371 : Cond.selects "FencedStates" ⟨"FencedStates", "image", "()I"⟩ ⟨"FencedStates", "image", "()I"⟩ ∈ lw_gd := lw_in (i := 1371) (by decide +kernel) (by decide +kernel)
theorem wm_1377 : Cond.methodLink "FencedStatesLaw" 242 ⟨"FencedStates", "back", "()I"⟩ ∈ lw_gd := lw_in (i := 1377) (by decide +kernel) (by decide +kernel)
theorem wm_1378 : Cond.instanceMethod ⟨"FencedStates", "back", "()I"⟩ ∈ lw_gd := lw_in (i := 1378) (by decide +kernel) (by decide +kernel)
theorem wm_1379 : Cond.selects "FencedStates" ⟨"FencedStates", "back", "()I"⟩ ⟨"FencedStates", "back", "()I"⟩ ∈ lw_gd := lw_in (i := 1379) (by decide +kernel) (by decide +kernel)
theorem wm_1381 : Cond.methodLink "FencedStatesLaw" 246 ⟨"FencedStates", "about", "(I)I"⟩ ∈ lw_gd := lw_in (i := 1381) (by decide +kernel) (by decide +kernel)
theorem wm_1382 : Cond.instanceMethod ⟨"FencedStates", "about", "(I)I"⟩ ∈ lw_gd := lw_in (i := 1382) (by decide +kernel) (by decide +kernel)
theorem wm_1383 : Cond.selects "FencedStates" ⟨"FencedStates", "about", "(I)I"⟩ ⟨"FencedStates", "about", "(I)I"⟩ ∈ lw_gd := lw_in (i := 1383) (by decide +kernel) (by decide +kernel)
theorem wm_1385 : Cond.classLink "FencedStatesLaw" 10 "FencedStatesModel" ∈ lw_gd := lw_in (i := 1385) (by decide +kernel) (by decide +kernel)
theorem wm_1386 : Cond.instantiable "FencedStatesModel" 33 ∈ lw_gd := lw_in (i := 1386) (by decide +kernel) (by decide +kernel)
theorem wm_1387 : Cond.methodLink "FencedStatesLaw" 12 ⟨"FencedStatesModel", "<init>", "()V"⟩ ∈ lw_gd := lw_in (i := 1387) (by decide +kernel) (by decide +kernel)
theorem wm_1388 : Cond.instanceMethod ⟨"FencedStatesModel", "<init>", "()V"⟩ ∈ lw_gd := lw_in (i := 1388) (by decide +kernel) (by decide +kernel)
theorem wm_1506 : Cond.methodLink "FencedStatesLaw" 17 ⟨"FencedStatesModel", "feed", "(IIIII)I"⟩ ∈ lw_gd := lw_in (i := 1506) (by decide +kernel) (by decide +kernel)
theorem wm_1507 : Cond.instanceMethod ⟨"FencedStatesModel", "feed", "(IIIII)I"⟩ ∈ lw_gd := lw_in (i := 1507) (by decide +kernel) (by decide +kernel)
theorem wm_1508 : Cond.selects "FencedStatesModel" ⟨"FencedStatesModel", "feed", "(IIIII)I"⟩ ⟨"FencedStatesModel", "feed", "(IIIII)I"⟩ ∈ lw_gd := lw_in (i := 1508) (by decide +kernel) (by decide +kernel)
theorem wm_1514 : Cond.methodLink "FencedStatesLaw" 22 ⟨"FencedStatesModel", "end", "(I)I"⟩ ∈ lw_gd := lw_in (i := 1514) (by decide +kernel) (by decide +kernel)
theorem wm_1515 : Cond.instanceMethod ⟨"FencedStatesModel", "end", "(I)I"⟩ ∈ lw_gd := lw_in (i := 1515) (by decide +kernel) (by decide +kernel)
theorem wm_1516 : Cond.selects "FencedStatesModel" ⟨"FencedStatesModel", "end", "(I)I"⟩ ⟨"FencedStatesModel", "end", "(I)I"⟩ ∈ lw_gd := lw_in (i := 1516) (by decide +kernel) (by decide +kernel)
theorem wm_1521 : Cond.methodLink "FencedStatesLaw" 27 ⟨"FencedStatesModel", "text", "()I"⟩ ∈ lw_gd := lw_in (i := 1521) (by decide +kernel) (by decide +kernel)
theorem wm_1522 : Cond.instanceMethod ⟨"FencedStatesModel", "text", "()I"⟩ ∈ lw_gd := lw_in (i := 1522) (by decide +kernel) (by decide +kernel)
theorem wm_1523 : Cond.selects "FencedStatesModel" ⟨"FencedStatesModel", "text", "()I"⟩ ⟨"FencedStatesModel", "text", "()I"⟩ ∈ lw_gd := lw_in (i := 1523) (by decide +kernel) (by decide +kernel)
theorem wm_1608 : Cond.methodLink "FencedStatesLaw" 31 ⟨"FencedStatesModel", "fault", "(I)I"⟩ ∈ lw_gd := lw_in (i := 1608) (by decide +kernel) (by decide +kernel)
theorem wm_1609 : Cond.instanceMethod ⟨"FencedStatesModel", "fault", "(I)I"⟩ ∈ lw_gd := lw_in (i := 1609) (by decide +kernel) (by decide +kernel)
theorem wm_1610 : Cond.selects "FencedStatesModel" ⟨"FencedStatesModel", "fault", "(I)I"⟩ ⟨"FencedStatesModel", "fault", "(I)I"⟩ ∈ lw_gd := lw_in (i := 1610) (by decide +kernel) (by decide +kernel)
theorem wm_1612 : Cond.methodLink "FencedStatesLaw" 35 ⟨"FencedStatesModel", "load", "(I)I"⟩ ∈ lw_gd := lw_in (i := 1612) (by decide +kernel) (by decide +kernel)
theorem wm_1613 : Cond.instanceMethod ⟨"FencedStatesModel", "load", "(I)I"⟩ ∈ lw_gd := lw_in (i := 1613) (by decide +kernel) (by decide +kernel)
theorem wm_1614 : Cond.selects "FencedStatesModel" ⟨"FencedStatesModel", "load", "(I)I"⟩ ⟨"FencedStatesModel", "load", "(I)I"⟩ ∈ lw_gd := lw_in (i := 1614) (by decide +kernel) (by decide +kernel)
theorem wm_1637 : Cond.methodLink "FencedStatesLaw" 40 ⟨"FencedStatesModel", "drawn", "(II)Z"⟩ ∈ lw_gd := lw_in (i := 1637) (by decide +kernel) (by decide +kernel)
theorem wm_1638 : Cond.instanceMethod ⟨"FencedStatesModel", "drawn", "(II)Z"⟩ ∈ lw_gd := lw_in (i := 1638) (by decide +kernel) (by decide +kernel)
theorem wm_1639 : Cond.selects "FencedStatesModel" ⟨"FencedStatesModel", "drawn", "(II)Z"⟩ ⟨"FencedStatesModel", "drawn", "(II)Z"⟩ ∈ lw_gd := lw_in (i := 1639) (by decide +kernel) (by decide +kernel)
theorem wm_1641 : Cond.methodLink "FencedStatesLaw" 45 ⟨"FencedStatesModel", "aim", "(I)Z"⟩ ∈ lw_gd := lw_in (i := 1641) (by decide +kernel) (by decide +kernel)
theorem wm_1642 : Cond.instanceMethod ⟨"FencedStatesModel", "aim", "(I)Z"⟩ ∈ lw_gd := lw_in (i := 1642) (by decide +kernel) (by decide +kernel)
theorem wm_1643 : Cond.selects "FencedStatesModel" ⟨"FencedStatesModel", "aim", "(I)Z"⟩ ⟨"FencedStatesModel", "aim", "(I)Z"⟩ ∈ lw_gd := lw_in (i := 1643) (by decide +kernel) (by decide +kernel)
theorem wm_1657 : Cond.methodLink "FencedStatesLaw" 49 ⟨"FencedStatesModel", "mode", "(I)Z"⟩ ∈ lw_gd := lw_in (i := 1657) (by decide +kernel) (by decide +kernel)
theorem wm_1658 : Cond.instanceMethod ⟨"FencedStatesModel", "mode", "(I)Z"⟩ ∈ lw_gd := lw_in (i := 1658) (by decide +kernel) (by decide +kernel)
theorem wm_1659 : Cond.selects "FencedStatesModel" ⟨"FencedStatesModel", "mode", "(I)Z"⟩ ⟨"FencedStatesModel", "mode", "(I)Z"⟩ ∈ lw_gd := lw_in (i := 1659) (by decide +kernel) (by decide +kernel)
theorem wm_1661 : Cond.methodLink "FencedStatesLaw" 62 ⟨"FencedStatesModel", "undo", "()I"⟩ ∈ lw_gd := lw_in (i := 1661) (by decide +kernel) (by decide +kernel)
theorem wm_1662 : Cond.instanceMethod ⟨"FencedStatesModel", "undo", "()I"⟩ ∈ lw_gd := lw_in (i := 1662) (by decide +kernel) (by decide +kernel)
theorem wm_1663 : Cond.selects "FencedStatesModel" ⟨"FencedStatesModel", "undo", "()I"⟩ ⟨"FencedStatesModel", "undo", "()I"⟩ ∈ lw_gd := lw_in (i := 1663) (by decide +kernel) (by decide +kernel)
theorem wm_1665 : Cond.methodLink "FencedStatesLaw" 58 ⟨"FencedStatesModel", "step", "(I)I"⟩ ∈ lw_gd := lw_in (i := 1665) (by decide +kernel) (by decide +kernel)
theorem wm_1666 : Cond.instanceMethod ⟨"FencedStatesModel", "step", "(I)I"⟩ ∈ lw_gd := lw_in (i := 1666) (by decide +kernel) (by decide +kernel)
theorem wm_1667 : Cond.selects "FencedStatesModel" ⟨"FencedStatesModel", "step", "(I)I"⟩ ⟨"FencedStatesModel", "step", "(I)I"⟩ ∈ lw_gd := lw_in (i := 1667) (by decide +kernel) (by decide +kernel)
theorem wm_1815 : Cond.methodLink "FencedStatesLaw" 54 ⟨"FencedStatesModel", "bar", "(III)I"⟩ ∈ lw_gd := lw_in (i := 1815) (by decide +kernel) (by decide +kernel)
theorem wm_1816 : Cond.instanceMethod ⟨"FencedStatesModel", "bar", "(III)I"⟩ ∈ lw_gd := lw_in (i := 1816) (by decide +kernel) (by decide +kernel)
theorem wm_1817 : Cond.selects "FencedStatesModel" ⟨"FencedStatesModel", "bar", "(III)I"⟩ ⟨"FencedStatesModel", "bar", "(III)I"⟩ ∈ lw_gd := lw_in (i := 1817) (by decide +kernel) (by decide +kernel)
theorem wm_1823 : Cond.methodLink "FencedStatesLaw" 66 ⟨"FencedStatesModel", "is", "(I)I"⟩ ∈ lw_gd := lw_in (i := 1823) (by decide +kernel) (by decide +kernel)
theorem wm_1824 : Cond.instanceMethod ⟨"FencedStatesModel", "is", "(I)I"⟩ ∈ lw_gd := lw_in (i := 1824) (by decide +kernel) (by decide +kernel)
theorem wm_1825 : Cond.selects "FencedStatesModel" ⟨"FencedStatesModel", "is", "(I)I"⟩ ⟨"FencedStatesModel", "is", "(I)I"⟩ ∈ lw_gd := lw_in (i := 1825) (by decide +kernel) (by decide +kernel)
theorem wm_1827 : Cond.methodLink "FencedStatesLaw" 71 ⟨"FencedStatesModel", "successor", "(II)I"⟩ ∈ lw_gd := lw_in (i := 1827) (by decide +kernel) (by decide +kernel)
theorem wm_1828 : Cond.instanceMethod ⟨"FencedStatesModel", "successor", "(II)I"⟩ ∈ lw_gd := lw_in (i := 1828) (by decide +kernel) (by decide +kernel)
theorem wm_1829 : Cond.selects "FencedStatesModel" ⟨"FencedStatesModel", "successor", "(II)I"⟩ ⟨"FencedStatesModel", "successor", "(II)I"⟩ ∈ lw_gd := lw_in (i := 1829) (by decide +kernel) (by decide +kernel)
theorem wm_1835 : Cond.methodLink "FencedStatesLaw" 75 ⟨"FencedStatesModel", "leads", "(II)I"⟩ ∈ lw_gd := lw_in (i := 1835) (by decide +kernel) (by decide +kernel)
theorem wm_1836 : Cond.instanceMethod ⟨"FencedStatesModel", "leads", "(II)I"⟩ ∈ lw_gd := lw_in (i := 1836) (by decide +kernel) (by decide +kernel)
theorem wm_1837 : Cond.selects "FencedStatesModel" ⟨"FencedStatesModel", "leads", "(II)I"⟩ ⟨"FencedStatesModel", "leads", "(II)I"⟩ ∈ lw_gd := lw_in (i := 1837) (by decide +kernel) (by decide +kernel)
theorem wm_1839 : Cond.methodLink "FencedStatesLaw" 79 ⟨"FencedStatesModel", "of", "(II)Z"⟩ ∈ lw_gd := lw_in (i := 1839) (by decide +kernel) (by decide +kernel)
theorem wm_1840 : Cond.instanceMethod ⟨"FencedStatesModel", "of", "(II)Z"⟩ ∈ lw_gd := lw_in (i := 1840) (by decide +kernel) (by decide +kernel)
theorem wm_1841 : Cond.selects "FencedStatesModel" ⟨"FencedStatesModel", "of", "(II)Z"⟩ ⟨"FencedStatesModel", "of", "(II)Z"⟩ ∈ lw_gd := lw_in (i := 1841) (by decide +kernel) (by decide +kernel)
theorem wm_1843 : Cond.methodLink "FencedStatesLaw" 83 ⟨"FencedStatesModel", "within", "(II)Z"⟩ ∈ lw_gd := lw_in (i := 1843) (by decide +kernel) (by decide +kernel)
theorem wm_1844 : Cond.instanceMethod ⟨"FencedStatesModel", "within", "(II)Z"⟩ ∈ lw_gd := lw_in (i := 1844) (by decide +kernel) (by decide +kernel)
theorem wm_1845 : Cond.selects "FencedStatesModel" ⟨"FencedStatesModel", "within", "(II)Z"⟩ ⟨"FencedStatesModel", "within", "(II)Z"⟩ ∈ lw_gd := lw_in (i := 1845) (by decide +kernel) (by decide +kernel)
theorem wm_1851 : Cond.methodLink "FencedStatesLaw" 87 ⟨"FencedStatesModel", "wide", "(I)I"⟩ ∈ lw_gd := lw_in (i := 1851) (by decide +kernel) (by decide +kernel)
theorem wm_1852 : Cond.instanceMethod ⟨"FencedStatesModel", "wide", "(I)I"⟩ ∈ lw_gd := lw_in (i := 1852) (by decide +kernel) (by decide +kernel)
theorem wm_1853 : Cond.selects "FencedStatesModel" ⟨"FencedStatesModel", "wide", "(I)I"⟩ ⟨"FencedStatesModel", "wide", "(I)I"⟩ ∈ lw_gd := lw_in (i := 1853) (by decide +kernel) (by decide +kernel)
theorem wm_1858 : Cond.methodLink "FencedStatesLaw" 91 ⟨"FencedStatesModel", "bad", "(I)I"⟩ ∈ lw_gd := lw_in (i := 1858) (by decide +kernel) (by decide +kernel)
theorem wm_1859 : Cond.instanceMethod ⟨"FencedStatesModel", "bad", "(I)I"⟩ ∈ lw_gd := lw_in (i := 1859) (by decide +kernel) (by decide +kernel)
theorem wm_1860 : Cond.selects "FencedStatesModel" ⟨"FencedStatesModel", "bad", "(I)I"⟩ ⟨"FencedStatesModel", "bad", "(I)I"⟩ ∈ lw_gd := lw_in (i := 1860) (by decide +kernel) (by decide +kernel)
theorem wm_1862 : Cond.methodLink "FencedStatesLaw" 95 ⟨"FencedStatesModel", "sought", "(I)I"⟩ ∈ lw_gd := lw_in (i := 1862) (by decide +kernel) (by decide +kernel)
theorem wm_1863 : Cond.instanceMethod ⟨"FencedStatesModel", "sought", "(I)I"⟩ ∈ lw_gd := lw_in (i := 1863) (by decide +kernel) (by decide +kernel)
theorem wm_1864 : Cond.selects "FencedStatesModel" ⟨"FencedStatesModel", "sought", "(I)I"⟩ ⟨"FencedStatesModel", "sought", "(I)I"⟩ ∈ lw_gd := lw_in (i := 1864) (by decide +kernel) (by decide +kernel)
theorem wm_1866 : Cond.methodLink "FencedStatesLaw" 99 ⟨"FencedStatesModel", "weight", "(I)I"⟩ ∈ lw_gd := lw_in (i := 1866) (by decide +kernel) (by decide +kernel)
theorem wm_1867 : Cond.instanceMethod ⟨"FencedStatesModel", "weight", "(I)I"⟩ ∈ lw_gd := lw_in (i := 1867) (by decide +kernel) (by decide +kernel)
theorem wm_1868 : Cond.selects "FencedStatesModel" ⟨"FencedStatesModel", "weight", "(I)I"⟩ ⟨"FencedStatesModel", "weight", "(I)I"⟩ ∈ lw_gd := lw_in (i := 1868) (by decide +kernel) (by decide +kernel)
theorem wm_1870 : Cond.methodLink "FencedStatesLaw" 103 ⟨"FencedStatesModel", "cube", "(III)I"⟩ ∈ lw_gd := lw_in (i := 1870) (by decide +kernel) (by decide +kernel)
theorem wm_1871 : Cond.instanceMethod ⟨"FencedStatesModel", "cube", "(III)I"⟩ ∈ lw_gd := lw_in (i := 1871) (by decide +kernel) (by decide +kernel)
theorem wm_1872 : Cond.selects "FencedStatesModel" ⟨"FencedStatesModel", "cube", "(III)I"⟩ ⟨"FencedStatesModel", "cube", "(III)I"⟩ ∈ lw_gd := lw_in (i := 1872) (by decide +kernel) (by decide +kernel)
theorem wm_1882 : Cond.methodLink "FencedStatesLaw" 107 ⟨"FencedStatesModel", "obligation", "(II)I"⟩ ∈ lw_gd := lw_in (i := 1882) (by decide +kernel) (by decide +kernel)
theorem wm_1883 : Cond.instanceMethod ⟨"FencedStatesModel", "obligation", "(II)I"⟩ ∈ lw_gd := lw_in (i := 1883) (by decide +kernel) (by decide +kernel)
theorem wm_1884 : Cond.selects "FencedStatesModel" ⟨"FencedStatesModel", "obligation", "(II)I"⟩ ⟨"FencedStatesModel", "obligation", "(II)I"⟩ ∈ lw_gd := lw_in (i := 1884) (by decide +kernel) (by decide +kernel)
theorem wm_1890 : Cond.methodLink "FencedStatesLaw" 111 ⟨"FencedStatesModel", "trace", "(II)I"⟩ ∈ lw_gd := lw_in (i := 1890) (by decide +kernel) (by decide +kernel)
theorem wm_1891 : Cond.instanceMethod ⟨"FencedStatesModel", "trace", "(II)I"⟩ ∈ lw_gd := lw_in (i := 1891) (by decide +kernel) (by decide +kernel)
theorem wm_1892 : Cond.selects "FencedStatesModel" ⟨"FencedStatesModel", "trace", "(II)I"⟩ ⟨"FencedStatesModel", "trace", "(II)I"⟩ ∈ lw_gd := lw_in (i := 1892) (by decide +kernel) (by decide +kernel)
theorem wm_1906 : Cond.methodLink "FencedStatesLaw" 115 ⟨"FencedStatesModel", "fence", "(II)I"⟩ ∈ lw_gd := lw_in (i := 1906) (by decide +kernel) (by decide +kernel)
theorem wm_1907 : Cond.instanceMethod ⟨"FencedStatesModel", "fence", "(II)I"⟩ ∈ lw_gd := lw_in (i := 1907) (by decide +kernel) (by decide +kernel)
theorem wm_1908 : Cond.selects "FencedStatesModel" ⟨"FencedStatesModel", "fence", "(II)I"⟩ ⟨"FencedStatesModel", "fence", "(II)I"⟩ ∈ lw_gd := lw_in (i := 1908) (by decide +kernel) (by decide +kernel)
theorem wm_1918 : Cond.methodLink "FencedStatesLaw" 119 ⟨"FencedStatesModel", "activity", "(I)I"⟩ ∈ lw_gd := lw_in (i := 1918) (by decide +kernel) (by decide +kernel)
theorem wm_1919 : Cond.instanceMethod ⟨"FencedStatesModel", "activity", "(I)I"⟩ ∈ lw_gd := lw_in (i := 1919) (by decide +kernel) (by decide +kernel)
theorem wm_1920 : Cond.selects "FencedStatesModel" ⟨"FencedStatesModel", "activity", "(I)I"⟩ ⟨"FencedStatesModel", "activity", "(I)I"⟩ ∈ lw_gd := lw_in (i := 1920) (by decide +kernel) (by decide +kernel)
theorem wm_1932 : Cond.methodLink "FencedStatesLaw" 123 ⟨"FencedStatesModel", "order", "(I)I"⟩ ∈ lw_gd := lw_in (i := 1932) (by decide +kernel) (by decide +kernel)
theorem wm_1933 : Cond.instanceMethod ⟨"FencedStatesModel", "order", "(I)I"⟩ ∈ lw_gd := lw_in (i := 1933) (by decide +kernel) (by decide +kernel)
theorem wm_1934 : Cond.selects "FencedStatesModel" ⟨"FencedStatesModel", "order", "(I)I"⟩ ⟨"FencedStatesModel", "order", "(I)I"⟩ ∈ lw_gd := lw_in (i := 1934) (by decide +kernel) (by decide +kernel)
theorem wm_1936 : Cond.methodLink "FencedStatesLaw" 128 ⟨"FencedStatesModel", "holds", "(III)Z"⟩ ∈ lw_gd := lw_in (i := 1936) (by decide +kernel) (by decide +kernel)
theorem wm_1937 : Cond.instanceMethod ⟨"FencedStatesModel", "holds", "(III)Z"⟩ ∈ lw_gd := lw_in (i := 1937) (by decide +kernel) (by decide +kernel)
theorem wm_1938 : Cond.selects "FencedStatesModel" ⟨"FencedStatesModel", "holds", "(III)Z"⟩ ⟨"FencedStatesModel", "holds", "(III)Z"⟩ ∈ lw_gd := lw_in (i := 1938) (by decide +kernel) (by decide +kernel)
theorem wm_1940 : Cond.methodLink "FencedStatesLaw" 132 ⟨"FencedStatesModel", "widened", "(II)I"⟩ ∈ lw_gd := lw_in (i := 1940) (by decide +kernel) (by decide +kernel)
theorem wm_1941 : Cond.instanceMethod ⟨"FencedStatesModel", "widened", "(II)I"⟩ ∈ lw_gd := lw_in (i := 1941) (by decide +kernel) (by decide +kernel)
theorem wm_1942 : Cond.selects "FencedStatesModel" ⟨"FencedStatesModel", "widened", "(II)I"⟩ ⟨"FencedStatesModel", "widened", "(II)I"⟩ ∈ lw_gd := lw_in (i := 1942) (by decide +kernel) (by decide +kernel)
theorem wm_1944 : Cond.methodLink "FencedStatesLaw" 136 ⟨"FencedStatesModel", "ahead", "(II)I"⟩ ∈ lw_gd := lw_in (i := 1944) (by decide +kernel) (by decide +kernel)
theorem wm_1945 : Cond.instanceMethod ⟨"FencedStatesModel", "ahead", "(II)I"⟩ ∈ lw_gd := lw_in (i := 1945) (by decide +kernel) (by decide +kernel)
theorem wm_1946 : Cond.selects "FencedStatesModel" ⟨"FencedStatesModel", "ahead", "(II)I"⟩ ⟨"FencedStatesModel", "ahead", "(II)I"⟩ ∈ lw_gd := lw_in (i := 1946) (by decide +kernel) (by decide +kernel)
theorem wm_1948 : Cond.methodLink "FencedStatesLaw" 140 ⟨"FencedStatesModel", "distance", "(I)I"⟩ ∈ lw_gd := lw_in (i := 1948) (by decide +kernel) (by decide +kernel)
theorem wm_1949 : Cond.instanceMethod ⟨"FencedStatesModel", "distance", "(I)I"⟩ ∈ lw_gd := lw_in (i := 1949) (by decide +kernel) (by decide +kernel)
theorem wm_1950 : Cond.selects "FencedStatesModel" ⟨"FencedStatesModel", "distance", "(I)I"⟩ ⟨"FencedStatesModel", "distance", "(I)I"⟩ ∈ lw_gd := lw_in (i := 1950) (by decide +kernel) (by decide +kernel)
theorem wm_1960 : Cond.methodLink "FencedStatesLaw" 144 ⟨"FencedStatesModel", "distanceBy", "(II)I"⟩ ∈ lw_gd := lw_in (i := 1960) (by decide +kernel) (by decide +kernel)
theorem wm_1961 : Cond.instanceMethod ⟨"FencedStatesModel", "distanceBy", "(II)I"⟩ ∈ lw_gd := lw_in (i := 1961) (by decide +kernel) (by decide +kernel)
theorem wm_1962 : Cond.selects "FencedStatesModel" ⟨"FencedStatesModel", "distanceBy", "(II)I"⟩ ⟨"FencedStatesModel", "distanceBy", "(II)I"⟩ ∈ lw_gd := lw_in (i := 1962) (by decide +kernel) (by decide +kernel)
theorem wm_1964 : Cond.methodLink "FencedStatesLaw" 164 ⟨"FencedStatesModel", "nearest", "()I"⟩ ∈ lw_gd := lw_in (i := 1964) (by decide +kernel) (by decide +kernel)
theorem wm_1965 : Cond.instanceMethod ⟨"FencedStatesModel", "nearest", "()I"⟩ ∈ lw_gd := lw_in (i := 1965) (by decide +kernel) (by decide +kernel)
theorem wm_1966 : Cond.selects "FencedStatesModel" ⟨"FencedStatesModel", "nearest", "()I"⟩ ⟨"FencedStatesModel", "nearest", "()I"⟩ ∈ lw_gd := lw_in (i := 1966) (by decide +kernel) (by decide +kernel)
theorem wm_1968 : Cond.methodLink "FencedStatesLaw" 168 ⟨"FencedStatesModel", "reach", "(I)I"⟩ ∈ lw_gd := lw_in (i := 1968) (by decide +kernel) (by decide +kernel)
theorem wm_1969 : Cond.instanceMethod ⟨"FencedStatesModel", "reach", "(I)I"⟩ ∈ lw_gd := lw_in (i := 1969) (by decide +kernel) (by decide +kernel)
theorem wm_1970 : Cond.selects "FencedStatesModel" ⟨"FencedStatesModel", "reach", "(I)I"⟩ ⟨"FencedStatesModel", "reach", "(I)I"⟩ ∈ lw_gd := lw_in (i := 1970) (by decide +kernel) (by decide +kernel)
theorem wm_1972 : Cond.methodLink "FencedStatesLaw" 172 ⟨"FencedStatesModel", "slack", "(I)I"⟩ ∈ lw_gd := lw_in (i := 1972) (by decide +kernel) (by decide +kernel)
theorem wm_1973 : Cond.instanceMethod ⟨"FencedStatesModel", "slack", "(I)I"⟩ ∈ lw_gd := lw_in (i := 1973) (by decide +kernel) (by decide +kernel)
theorem wm_1974 : Cond.selects "FencedStatesModel" ⟨"FencedStatesModel", "slack", "(I)I"⟩ ⟨"FencedStatesModel", "slack", "(I)I"⟩ ∈ lw_gd := lw_in (i := 1974) (by decide +kernel) (by decide +kernel)
theorem wm_1976 : Cond.methodLink "FencedStatesLaw" 148 ⟨"FencedStatesModel", "far", "(I)I"⟩ ∈ lw_gd := lw_in (i := 1976) (by decide +kernel) (by decide +kernel)
theorem wm_1977 : Cond.instanceMethod ⟨"FencedStatesModel", "far", "(I)I"⟩ ∈ lw_gd := lw_in (i := 1977) (by decide +kernel) (by decide +kernel)
theorem wm_1978 : Cond.selects "FencedStatesModel" ⟨"FencedStatesModel", "far", "(I)I"⟩ ⟨"FencedStatesModel", "far", "(I)I"⟩ ∈ lw_gd := lw_in (i := 1978) (by decide +kernel) (by decide +kernel)
theorem wm_1988 : Cond.methodLink "FencedStatesLaw" 152 ⟨"FencedStatesModel", "doomed", "(I)I"⟩ ∈ lw_gd := lw_in (i := 1988) (by decide +kernel) (by decide +kernel)
theorem wm_1989 : Cond.instanceMethod ⟨"FencedStatesModel", "doomed", "(I)I"⟩ ∈ lw_gd := lw_in (i := 1989) (by decide +kernel) (by decide +kernel)
theorem wm_1990 : Cond.selects "FencedStatesModel" ⟨"FencedStatesModel", "doomed", "(I)I"⟩ ⟨"FencedStatesModel", "doomed", "(I)I"⟩ ∈ lw_gd := lw_in (i := 1990) (by decide +kernel) (by decide +kernel)
theorem wm_1992 : Cond.methodLink "FencedStatesLaw" 156 ⟨"FencedStatesModel", "shortest", "(II)I"⟩ ∈ lw_gd := lw_in (i := 1992) (by decide +kernel) (by decide +kernel)
theorem wm_1993 : Cond.instanceMethod ⟨"FencedStatesModel", "shortest", "(II)I"⟩ ∈ lw_gd := lw_in (i := 1993) (by decide +kernel) (by decide +kernel)
theorem wm_1994 : Cond.selects "FencedStatesModel" ⟨"FencedStatesModel", "shortest", "(II)I"⟩ ⟨"FencedStatesModel", "shortest", "(II)I"⟩ ∈ lw_gd := lw_in (i := 1994) (by decide +kernel) (by decide +kernel)
theorem wm_2000 : Cond.methodLink "FencedStatesLaw" 160 ⟨"FencedStatesModel", "detour", "()I"⟩ ∈ lw_gd := lw_in (i := 2000) (by decide +kernel) (by decide +kernel)
theorem wm_2001 : Cond.instanceMethod ⟨"FencedStatesModel", "detour", "()I"⟩ ∈ lw_gd := lw_in (i := 2001) (by decide +kernel) (by decide +kernel)
theorem wm_2002 : Cond.selects "FencedStatesModel" ⟨"FencedStatesModel", "detour", "()I"⟩ ⟨"FencedStatesModel", "detour", "()I"⟩ ∈ lw_gd := lw_in (i := 2002) (by decide +kernel) (by decide +kernel)
theorem wm_2004 : Cond.methodLink "FencedStatesLaw" 176 ⟨"FencedStatesModel", "claim", "(II)I"⟩ ∈ lw_gd := lw_in (i := 2004) (by decide +kernel) (by decide +kernel)
theorem wm_2005 : Cond.instanceMethod ⟨"FencedStatesModel", "claim", "(II)I"⟩ ∈ lw_gd := lw_in (i := 2005) (by decide +kernel) (by decide +kernel)
theorem wm_2006 : Cond.selects "FencedStatesModel" ⟨"FencedStatesModel", "claim", "(II)I"⟩ ⟨"FencedStatesModel", "claim", "(II)I"⟩ ∈ lw_gd := lw_in (i := 2006) (by decide +kernel) (by decide +kernel)
theorem wm_2008 : Cond.methodLink "FencedStatesLaw" 180 ⟨"FencedStatesModel", "adopt", "()I"⟩ ∈ lw_gd := lw_in (i := 2008) (by decide +kernel) (by decide +kernel)
theorem wm_2009 : Cond.instanceMethod ⟨"FencedStatesModel", "adopt", "()I"⟩ ∈ lw_gd := lw_in (i := 2009) (by decide +kernel) (by decide +kernel)
theorem wm_2010 : Cond.selects "FencedStatesModel" ⟨"FencedStatesModel", "adopt", "()I"⟩ ⟨"FencedStatesModel", "adopt", "()I"⟩ ∈ lw_gd := lw_in (i := 2010) (by decide +kernel) (by decide +kernel)
theorem wm_2012 : Cond.methodLink "FencedStatesLaw" 184 ⟨"FencedStatesModel", "unclaim", "(I)I"⟩ ∈ lw_gd := lw_in (i := 2012) (by decide +kernel) (by decide +kernel)
theorem wm_2013 : Cond.instanceMethod ⟨"FencedStatesModel", "unclaim", "(I)I"⟩ ∈ lw_gd := lw_in (i := 2013) (by decide +kernel) (by decide +kernel)
theorem wm_2014 : Cond.selects "FencedStatesModel" ⟨"FencedStatesModel", "unclaim", "(I)I"⟩ ⟨"FencedStatesModel", "unclaim", "(I)I"⟩ ∈ lw_gd := lw_in (i := 2014) (by decide +kernel) (by decide +kernel)
theorem wm_2016 : Cond.methodLink "FencedStatesLaw" 188 ⟨"FencedStatesModel", "loosen", "(I)I"⟩ ∈ lw_gd := lw_in (i := 2016) (by decide +kernel) (by decide +kernel)
theorem wm_2017 : Cond.instanceMethod ⟨"FencedStatesModel", "loosen", "(I)I"⟩ ∈ lw_gd := lw_in (i := 2017) (by decide +kernel) (by decide +kernel)
theorem wm_2018 : Cond.selects "FencedStatesModel" ⟨"FencedStatesModel", "loosen", "(I)I"⟩ ⟨"FencedStatesModel", "loosen", "(I)I"⟩ ∈ lw_gd := lw_in (i := 2018) (by decide +kernel) (by decide +kernel)
theorem wm_2044 : Cond.methodLink "FencedStatesLaw" 192 ⟨"FencedStatesModel", "claimed", "(II)I"⟩ ∈ lw_gd := lw_in (i := 2044) (by decide +kernel) (by decide +kernel)
theorem wm_2045 : Cond.instanceMethod ⟨"FencedStatesModel", "claimed", "(II)I"⟩ ∈ lw_gd := lw_in (i := 2045) (by decide +kernel) (by decide +kernel)
theorem wm_2046 : Cond.selects "FencedStatesModel" ⟨"FencedStatesModel", "claimed", "(II)I"⟩ ⟨"FencedStatesModel", "claimed", "(II)I"⟩ ∈ lw_gd := lw_in (i := 2046) (by decide +kernel) (by decide +kernel)
theorem wm_2048 : Cond.methodLink "FencedStatesLaw" 196 ⟨"FencedStatesModel", "judged", "(I)I"⟩ ∈ lw_gd := lw_in (i := 2048) (by decide +kernel) (by decide +kernel)
theorem wm_2049 : Cond.instanceMethod ⟨"FencedStatesModel", "judged", "(I)I"⟩ ∈ lw_gd := lw_in (i := 2049) (by decide +kernel) (by decide +kernel)
theorem wm_2050 : Cond.selects "FencedStatesModel" ⟨"FencedStatesModel", "judged", "(I)I"⟩ ⟨"FencedStatesModel", "judged", "(I)I"⟩ ∈ lw_gd := lw_in (i := 2050) (by decide +kernel) (by decide +kernel)
theorem wm_2056 : Cond.methodLink "FencedStatesLaw" 200 ⟨"FencedStatesModel", "witness", "(I)I"⟩ ∈ lw_gd := lw_in (i := 2056) (by decide +kernel) (by decide +kernel)
theorem wm_2057 : Cond.instanceMethod ⟨"FencedStatesModel", "witness", "(I)I"⟩ ∈ lw_gd := lw_in (i := 2057) (by decide +kernel) (by decide +kernel)
theorem wm_2058 : Cond.selects "FencedStatesModel" ⟨"FencedStatesModel", "witness", "(I)I"⟩ ⟨"FencedStatesModel", "witness", "(I)I"⟩ ∈ lw_gd := lw_in (i := 2058) (by decide +kernel) (by decide +kernel)
theorem wm_2060 : Cond.methodLink "FencedStatesLaw" 204 ⟨"FencedStatesModel", "spare", "(I)I"⟩ ∈ lw_gd := lw_in (i := 2060) (by decide +kernel) (by decide +kernel)
theorem wm_2061 : Cond.instanceMethod ⟨"FencedStatesModel", "spare", "(I)I"⟩ ∈ lw_gd := lw_in (i := 2061) (by decide +kernel) (by decide +kernel)
theorem wm_2062 : Cond.selects "FencedStatesModel" ⟨"FencedStatesModel", "spare", "(I)I"⟩ ⟨"FencedStatesModel", "spare", "(I)I"⟩ ∈ lw_gd := lw_in (i := 2062) (by decide +kernel) (by decide +kernel)
theorem wm_2068 : Cond.methodLink "FencedStatesLaw" 208 ⟨"FencedStatesModel", "fewest", "(I)I"⟩ ∈ lw_gd := lw_in (i := 2068) (by decide +kernel) (by decide +kernel)
theorem wm_2069 : Cond.instanceMethod ⟨"FencedStatesModel", "fewest", "(I)I"⟩ ∈ lw_gd := lw_in (i := 2069) (by decide +kernel) (by decide +kernel)
theorem wm_2070 : Cond.selects "FencedStatesModel" ⟨"FencedStatesModel", "fewest", "(I)I"⟩ ⟨"FencedStatesModel", "fewest", "(I)I"⟩ ∈ lw_gd := lw_in (i := 2070) (by decide +kernel) (by decide +kernel)
theorem wm_2076 : Cond.methodLink "FencedStatesLaw" 212 ⟨"FencedStatesModel", "chosen", "(I)I"⟩ ∈ lw_gd := lw_in (i := 2076) (by decide +kernel) (by decide +kernel)
theorem wm_2077 : Cond.instanceMethod ⟨"FencedStatesModel", "chosen", "(I)I"⟩ ∈ lw_gd := lw_in (i := 2077) (by decide +kernel) (by decide +kernel)
theorem wm_2078 : Cond.selects "FencedStatesModel" ⟨"FencedStatesModel", "chosen", "(I)I"⟩ ⟨"FencedStatesModel", "chosen", "(I)I"⟩ ∈ lw_gd := lw_in (i := 2078) (by decide +kernel) (by decide +kernel)
theorem wm_2080 : Cond.methodLink "FencedStatesLaw" 216 ⟨"FencedStatesModel", "inside", "(I)I"⟩ ∈ lw_gd := lw_in (i := 2080) (by decide +kernel) (by decide +kernel)
theorem wm_2081 : Cond.instanceMethod ⟨"FencedStatesModel", "inside", "(I)I"⟩ ∈ lw_gd := lw_in (i := 2081) (by decide +kernel) (by decide +kernel)
theorem wm_2082 : Cond.selects "FencedStatesModel" ⟨"FencedStatesModel", "inside", "(I)I"⟩ ⟨"FencedStatesModel", "inside", "(I)I"⟩ ∈ lw_gd := lw_in (i := 2082) (by decide +kernel) (by decide +kernel)
theorem wm_2084 : Cond.methodLink "FencedStatesLaw" 220 ⟨"FencedStatesModel", "foretold", "(I)I"⟩ ∈ lw_gd := lw_in (i := 2084) (by decide +kernel) (by decide +kernel)
theorem wm_2085 : Cond.instanceMethod ⟨"FencedStatesModel", "foretold", "(I)I"⟩ ∈ lw_gd := lw_in (i := 2085) (by decide +kernel) (by decide +kernel)
theorem wm_2086 : Cond.selects "FencedStatesModel" ⟨"FencedStatesModel", "foretold", "(I)I"⟩ ⟨"FencedStatesModel", "foretold", "(I)I"⟩ ∈ lw_gd := lw_in (i := 2086) (by decide +kernel) (by decide +kernel)
theorem wm_2096 : Cond.methodLink "FencedStatesLaw" 224 ⟨"FencedStatesModel", "till", "()I"⟩ ∈ lw_gd := lw_in (i := 2096) (by decide +kernel) (by decide +kernel)
theorem wm_2097 : Cond.instanceMethod ⟨"FencedStatesModel", "till", "()I"⟩ ∈ lw_gd := lw_in (i := 2097) (by decide +kernel) (by decide +kernel)
theorem wm_2098 : Cond.selects "FencedStatesModel" ⟨"FencedStatesModel", "till", "()I"⟩ ⟨"FencedStatesModel", "till", "()I"⟩ ∈ lw_gd := lw_in (i := 2098) (by decide +kernel) (by decide +kernel)
theorem wm_2104 : Cond.methodLink "FencedStatesLaw" 228 ⟨"FencedStatesModel", "quickest", "()I"⟩ ∈ lw_gd := lw_in (i := 2104) (by decide +kernel) (by decide +kernel)
theorem wm_2105 : Cond.instanceMethod ⟨"FencedStatesModel", "quickest", "()I"⟩ ∈ lw_gd := lw_in (i := 2105) (by decide +kernel) (by decide +kernel)
theorem wm_2106 : Cond.selects "FencedStatesModel" ⟨"FencedStatesModel", "quickest", "()I"⟩ ⟨"FencedStatesModel", "quickest", "()I"⟩ ∈ lw_gd := lw_in (i := 2106) (by decide +kernel) (by decide +kernel)
theorem wm_2108 : Cond.methodLink "FencedStatesLaw" 232 ⟨"FencedStatesModel", "bestMode", "()I"⟩ ∈ lw_gd := lw_in (i := 2108) (by decide +kernel) (by decide +kernel)
theorem wm_2109 : Cond.instanceMethod ⟨"FencedStatesModel", "bestMode", "()I"⟩ ∈ lw_gd := lw_in (i := 2109) (by decide +kernel) (by decide +kernel)
theorem wm_2110 : Cond.selects "FencedStatesModel" ⟨"FencedStatesModel", "bestMode", "()I"⟩ ⟨"FencedStatesModel", "bestMode", "()I"⟩ ∈ lw_gd := lw_in (i := 2110) (by decide +kernel) (by decide +kernel)
theorem wm_2112 : Cond.methodLink "FencedStatesLaw" 237 ⟨"FencedStatesModel", "mean", "()J"⟩ ∈ lw_gd := lw_in (i := 2112) (by decide +kernel) (by decide +kernel)
theorem wm_2113 : Cond.instanceMethod ⟨"FencedStatesModel", "mean", "()J"⟩ ∈ lw_gd := lw_in (i := 2113) (by decide +kernel) (by decide +kernel)
theorem wm_2114 : Cond.selects "FencedStatesModel" ⟨"FencedStatesModel", "mean", "()J"⟩ ⟨"FencedStatesModel", "mean", "()J"⟩ ∈ lw_gd := lw_in (i := 2114) (by decide +kernel) (by decide +kernel)
theorem wm_2126 : Cond.methodLink "FencedStatesLaw" 241 ⟨"FencedStatesModel", "image", "()I"⟩ ∈ lw_gd := lw_in (i := 2126) (by decide +kernel) (by decide +kernel)
theorem wm_2127 : Cond.instanceMethod ⟨"FencedStatesModel", "image", "()I"⟩ ∈ lw_gd := lw_in (i := 2127) (by decide +kernel) (by decide +kernel)
theorem wm_2128 : Cond.selects "FencedStatesModel" ⟨"FencedStatesModel", "image", "()I"⟩ ⟨"FencedStatesModel", "image", "()I"⟩ ∈ lw_gd := lw_in (i := 2128) (by decide +kernel) (by decide +kernel)
theorem wm_2130 : Cond.methodLink "FencedStatesLaw" 245 ⟨"FencedStatesModel", "back", "()I"⟩ ∈ lw_gd := lw_in (i := 2130) (by decide +kernel) (by decide +kernel)
theorem wm_2131 : Cond.instanceMethod ⟨"FencedStatesModel", "back", "()I"⟩ ∈ lw_gd := lw_in (i := 2131) (by decide +kernel) (by decide +kernel)
theorem wm_2132 : Cond.selects "FencedStatesModel" ⟨"FencedStatesModel", "back", "()I"⟩ ⟨"FencedStatesModel", "back", "()I"⟩ ∈ lw_gd := lw_in (i := 2132) (by decide +kernel) (by decide +kernel)
theorem wm_2134 : Cond.methodLink "FencedStatesLaw" 249 ⟨"FencedStatesModel", "about", "(I)I"⟩ ∈ lw_gd := lw_in (i := 2134) (by decide +kernel) (by decide +kernel)
theorem wm_2135 : Cond.instanceMethod ⟨"FencedStatesModel", "about", "(I)I"⟩ ∈ lw_gd := lw_in (i := 2135) (by decide +kernel) (by decide +kernel)
theorem wm_2136 : Cond.selects "FencedStatesModel" ⟨"FencedStatesModel", "about", "(I)I"⟩ ⟨"FencedStatesModel", "about", "(I)I"⟩ ∈ lw_gd := lw_in (i := 2136) (by decide +kernel) (by decide +kernel)
theorem yw_X11_about : YW yX11_about cX11_about 2 (some .int) 1 := ⟨lw_in (i := 1384) (by decide +kernel) (by decide +kernel), lw_in (i := 124) (by decide +kernel) (by decide +kernel), by decide, by decide, by decide +kernel⟩
theorem yw_X11_activity : YW yX11_activity cX11_activity 3 (some .int) 1 := ⟨lw_in (i := 1129) (by decide +kernel) (by decide +kernel), lw_in (i := 124) (by decide +kernel) (by decide +kernel), by decide, by decide, by decide +kernel⟩
theorem yw_X11_adopt : YW yX11_adopt cX11_adopt 2 (some .int) 0 := ⟨lw_in (i := 1234) (by decide +kernel) (by decide +kernel), lw_in (i := 124) (by decide +kernel) (by decide +kernel), by decide, by decide, by decide +kernel⟩
theorem yw_X11_ahead : YW yX11_ahead cX11_ahead 4 (some .int) 2 := ⟨lw_in (i := 1155) (by decide +kernel) (by decide +kernel), lw_in (i := 124) (by decide +kernel) (by decide +kernel), by decide, by decide, by decide +kernel⟩
theorem yw_X11_aim : YW yX11_aim cX11_aim 2 (some .boolean) 1 := ⟨lw_in (i := 785) (by decide +kernel) (by decide +kernel), lw_in (i := 124) (by decide +kernel) (by decide +kernel), by decide, by decide, by decide +kernel⟩
theorem yw_X11_back : YW yX11_back cX11_back 1 (some .int) 0 := ⟨lw_in (i := 1380) (by decide +kernel) (by decide +kernel), lw_in (i := 124) (by decide +kernel) (by decide +kernel), by decide, by decide, by decide +kernel⟩
theorem yw_X11_bad : YW yX11_bad cX11_bad 3 (some .int) 1 := ⟨lw_in (i := 1058) (by decide +kernel) (by decide +kernel), lw_in (i := 124) (by decide +kernel) (by decide +kernel), by decide, by decide, by decide +kernel⟩
theorem yw_X11_bar : YW yX11_bar cX11_bar 5 (some .int) 3 := ⟨lw_in (i := 806) (by decide +kernel) (by decide +kernel), lw_in (i := 124) (by decide +kernel) (by decide +kernel), by decide, by decide, by decide +kernel⟩
theorem yw_X11_bestMode : YW yX11_bestMode cX11_bestMode 5 (some .int) 0 := ⟨lw_in (i := 1358) (by decide +kernel) (by decide +kernel), lw_in (i := 124) (by decide +kernel) (by decide +kernel), by decide, by decide, by decide +kernel⟩
theorem yw_X11_claim : YW yX11_claim cX11_claim 4 (some .int) 2 := ⟨lw_in (i := 1226) (by decide +kernel) (by decide +kernel), lw_in (i := 124) (by decide +kernel) (by decide +kernel), by decide, by decide, by decide +kernel⟩
theorem yw_X11_claimed : YW yX11_claimed cX11_claimed 4 (some .int) 2 := ⟨lw_in (i := 1286) (by decide +kernel) (by decide +kernel), lw_in (i := 124) (by decide +kernel) (by decide +kernel), by decide, by decide, by decide +kernel⟩
theorem yw_X11_cube : YW yX11_cube cX11_cube 7 (some .int) 3 := ⟨lw_in (i := 1084) (by decide +kernel) (by decide +kernel), lw_in (i := 124) (by decide +kernel) (by decide +kernel), by decide, by decide, by decide +kernel⟩
theorem yw_X11_detour : YW yX11_detour cX11_detour 3 (some .int) 0 := ⟨lw_in (i := 1205) (by decide +kernel) (by decide +kernel), lw_in (i := 124) (by decide +kernel) (by decide +kernel), by decide, by decide, by decide +kernel⟩
theorem yw_X11_distance : YW yX11_distance cX11_distance 2 (some .int) 1 := ⟨lw_in (i := 1159) (by decide +kernel) (by decide +kernel), lw_in (i := 124) (by decide +kernel) (by decide +kernel), by decide, by decide, by decide +kernel⟩
theorem yw_X11_doomed : YW yX11_doomed cX11_doomed 3 (some .int) 1 := ⟨lw_in (i := 1186) (by decide +kernel) (by decide +kernel), lw_in (i := 124) (by decide +kernel) (by decide +kernel), by decide, by decide, by decide +kernel⟩
theorem yw_X11_drawn : YW yX11_drawn cX11_drawn 3 (some .boolean) 2 := ⟨lw_in (i := 778) (by decide +kernel) (by decide +kernel), lw_in (i := 124) (by decide +kernel) (by decide +kernel), by decide, by decide, by decide +kernel⟩
theorem yw_X11_end : YW yX11_end cX11_end 2 (some .int) 1 := ⟨lw_in (i := 471) (by decide +kernel) (by decide +kernel), lw_in (i := 124) (by decide +kernel) (by decide +kernel), by decide, by decide, by decide +kernel⟩
theorem yw_X11_far : YW yX11_far cX11_far 3 (some .int) 1 := ⟨lw_in (i := 1176) (by decide +kernel) (by decide +kernel), lw_in (i := 124) (by decide +kernel) (by decide +kernel), by decide, by decide, by decide +kernel⟩
theorem yw_X11_fault : YW yX11_fault cX11_fault 2 (some .int) 1 := ⟨lw_in (i := 714) (by decide +kernel) (by decide +kernel), lw_in (i := 124) (by decide +kernel) (by decide +kernel), by decide, by decide, by decide +kernel⟩
theorem yw_X11_feed : YW yX11_feed cX11_feed 6 (some .int) 5 := ⟨lw_in (i := 463) (by decide +kernel) (by decide +kernel), lw_in (i := 124) (by decide +kernel) (by decide +kernel), by decide, by decide, by decide +kernel⟩
theorem yw_X11_fence : YW yX11_fence cX11_fence 6 (some .int) 2 := ⟨lw_in (i := 1121) (by decide +kernel) (by decide +kernel), lw_in (i := 124) (by decide +kernel) (by decide +kernel), by decide, by decide, by decide +kernel⟩
theorem yw_X11_fewest : YW yX11_fewest cX11_fewest 3 (some .int) 1 := ⟨lw_in (i := 1308) (by decide +kernel) (by decide +kernel), lw_in (i := 124) (by decide +kernel) (by decide +kernel), by decide, by decide, by decide +kernel⟩
theorem yw_X11_foretold : YW yX11_foretold cX11_foretold 2 (some .int) 1 := ⟨lw_in (i := 1345) (by decide +kernel) (by decide +kernel), lw_in (i := 124) (by decide +kernel) (by decide +kernel), by decide, by decide, by decide +kernel⟩
theorem yw_X11_holds : YW yX11_holds cX11_holds 5 (some .boolean) 3 := ⟨lw_in (i := 1144) (by decide +kernel) (by decide +kernel), lw_in (i := 124) (by decide +kernel) (by decide +kernel), by decide, by decide, by decide +kernel⟩
theorem yw_X11_image : YW yX11_image cX11_image 1 (some .int) 0 := ⟨lw_in (i := 1372) (by decide +kernel) (by decide +kernel), lw_in (i := 124) (by decide +kernel) (by decide +kernel), by decide, by decide, by decide +kernel⟩
theorem yw_X11_init : YW yX11_init cX11_init 2 none 0 := ⟨lw_in (i := 154) (by decide +kernel) (by decide +kernel), lw_in (i := 124) (by decide +kernel) (by decide +kernel), by decide, by decide, by decide +kernel⟩
theorem yw_X11_inside : YW yX11_inside cX11_inside 3 (some .int) 1 := ⟨lw_in (i := 1341) (by decide +kernel) (by decide +kernel), lw_in (i := 124) (by decide +kernel) (by decide +kernel), by decide, by decide, by decide +kernel⟩
theorem yw_X11_is : YW yX11_is cX11_is 3 (some .int) 1 := ⟨lw_in (i := 1007) (by decide +kernel) (by decide +kernel), lw_in (i := 124) (by decide +kernel) (by decide +kernel), by decide, by decide, by decide +kernel⟩
theorem yw_X11_leads : YW yX11_leads cX11_leads 4 (some .int) 2 := ⟨lw_in (i := 1023) (by decide +kernel) (by decide +kernel), lw_in (i := 124) (by decide +kernel) (by decide +kernel), by decide, by decide, by decide +kernel⟩
theorem yw_X11_load : YW yX11_load cX11_load 3 (some .int) 1 := ⟨lw_in (i := 718) (by decide +kernel) (by decide +kernel), lw_in (i := 124) (by decide +kernel) (by decide +kernel), by decide, by decide, by decide +kernel⟩
theorem yw_X11_loosen : YW yX11_loosen cX11_loosen 3 (some .int) 1 := ⟨lw_in (i := 1252) (by decide +kernel) (by decide +kernel), lw_in (i := 124) (by decide +kernel) (by decide +kernel), by decide, by decide, by decide +kernel⟩
theorem yw_X11_mean : YW yX11_mean cX11_mean 2 (some .long) 0 := ⟨lw_in (i := 1362) (by decide +kernel) (by decide +kernel), lw_in (i := 124) (by decide +kernel) (by decide +kernel), by decide, by decide, by decide +kernel⟩
theorem yw_X11_mode : YW yX11_mode cX11_mode 2 (some .boolean) 1 := ⟨lw_in (i := 802) (by decide +kernel) (by decide +kernel), lw_in (i := 124) (by decide +kernel) (by decide +kernel), by decide, by decide, by decide +kernel⟩
theorem yw_X11_nearest : YW yX11_nearest cX11_nearest 2 (some .int) 0 := ⟨lw_in (i := 1209) (by decide +kernel) (by decide +kernel), lw_in (i := 124) (by decide +kernel) (by decide +kernel), by decide, by decide, by decide +kernel⟩
theorem yw_X11_obligation : YW yX11_obligation cX11_obligation 4 (some .int) 2 := ⟨lw_in (i := 1095) (by decide +kernel) (by decide +kernel), lw_in (i := 124) (by decide +kernel) (by decide +kernel), by decide, by decide, by decide +kernel⟩
theorem yw_X11_of : YW yX11_of cX11_of 4 (some .boolean) 2 := ⟨lw_in (i := 1040) (by decide +kernel) (by decide +kernel), lw_in (i := 124) (by decide +kernel) (by decide +kernel), by decide, by decide, by decide +kernel⟩
theorem yw_X11_order : YW yX11_order cX11_order 3 (some .int) 1 := ⟨lw_in (i := 1139) (by decide +kernel) (by decide +kernel), lw_in (i := 124) (by decide +kernel) (by decide +kernel), by decide, by decide, by decide +kernel⟩
theorem yw_X11_quickest : YW yX11_quickest cX11_quickest 5 (some .int) 0 := ⟨lw_in (i := 1354) (by decide +kernel) (by decide +kernel), lw_in (i := 124) (by decide +kernel) (by decide +kernel), by decide, by decide, by decide +kernel⟩
theorem yw_X11_reach : YW yX11_reach cX11_reach 2 (some .int) 1 := ⟨lw_in (i := 1213) (by decide +kernel) (by decide +kernel), lw_in (i := 124) (by decide +kernel) (by decide +kernel), by decide, by decide, by decide +kernel⟩
theorem yw_X11_shortest : YW yX11_shortest cX11_shortest 4 (some .int) 2 := ⟨lw_in (i := 1194) (by decide +kernel) (by decide +kernel), lw_in (i := 124) (by decide +kernel) (by decide +kernel), by decide, by decide, by decide +kernel⟩
theorem yw_X11_slack : YW yX11_slack cX11_slack 3 (some .int) 1 := ⟨lw_in (i := 1221) (by decide +kernel) (by decide +kernel), lw_in (i := 124) (by decide +kernel) (by decide +kernel), by decide, by decide, by decide +kernel⟩
theorem yw_X11_sought : YW yX11_sought cX11_sought 2 (some .int) 1 := ⟨lw_in (i := 1063) (by decide +kernel) (by decide +kernel), lw_in (i := 124) (by decide +kernel) (by decide +kernel), by decide, by decide, by decide +kernel⟩
theorem yw_X11_spare : YW yX11_spare cX11_spare 2 (some .int) 1 := ⟨lw_in (i := 1299) (by decide +kernel) (by decide +kernel), lw_in (i := 124) (by decide +kernel) (by decide +kernel), by decide, by decide, by decide +kernel⟩
theorem yw_X11_step : YW yX11_step cX11_step 2 (some .int) 1 := ⟨lw_in (i := 878) (by decide +kernel) (by decide +kernel), lw_in (i := 124) (by decide +kernel) (by decide +kernel), by decide, by decide, by decide +kernel⟩
theorem yw_X11_successor : YW yX11_successor cX11_successor 4 (some .int) 2 := ⟨lw_in (i := 1011) (by decide +kernel) (by decide +kernel), lw_in (i := 124) (by decide +kernel) (by decide +kernel), by decide, by decide, by decide +kernel⟩
theorem yw_X11_text : YW yX11_text cX11_text 1 (some .int) 0 := ⟨lw_in (i := 475) (by decide +kernel) (by decide +kernel), lw_in (i := 124) (by decide +kernel) (by decide +kernel), by decide, by decide, by decide +kernel⟩
theorem yw_X11_till : YW yX11_till cX11_till 2 (some .int) 0 := ⟨lw_in (i := 1350) (by decide +kernel) (by decide +kernel), lw_in (i := 124) (by decide +kernel) (by decide +kernel), by decide, by decide, by decide +kernel⟩
theorem yw_X11_trace : YW yX11_trace cX11_trace 5 (some .int) 2 := ⟨lw_in (i := 1100) (by decide +kernel) (by decide +kernel), lw_in (i := 124) (by decide +kernel) (by decide +kernel), by decide, by decide, by decide +kernel⟩
theorem yw_X11_unclaim : YW yX11_unclaim cX11_unclaim 3 (some .int) 1 := ⟨lw_in (i := 1244) (by decide +kernel) (by decide +kernel), lw_in (i := 124) (by decide +kernel) (by decide +kernel), by decide, by decide, by decide +kernel⟩
theorem yw_X11_undo : YW yX11_undo cX11_undo 1 (some .int) 0 := ⟨lw_in (i := 999) (by decide +kernel) (by decide +kernel), lw_in (i := 124) (by decide +kernel) (by decide +kernel), by decide, by decide, by decide +kernel⟩
theorem yw_X11_weight : YW yX11_weight cX11_weight 3 (some .int) 1 := ⟨lw_in (i := 1068) (by decide +kernel) (by decide +kernel), lw_in (i := 124) (by decide +kernel) (by decide +kernel), by decide, by decide, by decide +kernel⟩
theorem yw_X11_wide : YW yX11_wide cX11_wide 3 (some .int) 1 := ⟨lw_in (i := 1054) (by decide +kernel) (by decide +kernel), lw_in (i := 124) (by decide +kernel) (by decide +kernel), by decide, by decide, by decide +kernel⟩
theorem yw_X11_widened : YW yX11_widened cX11_widened 4 (some .int) 2 := ⟨lw_in (i := 1149) (by decide +kernel) (by decide +kernel), lw_in (i := 124) (by decide +kernel) (by decide +kernel), by decide, by decide, by decide +kernel⟩
theorem yw_X11_within : YW yX11_within cX11_within 4 (some .boolean) 2 := ⟨lw_in (i := 1045) (by decide +kernel) (by decide +kernel), lw_in (i := 124) (by decide +kernel) (by decide +kernel), by decide, by decide, by decide +kernel⟩
theorem yw_X11_witness : YW yX11_witness cX11_witness 3 (some .int) 1 := ⟨lw_in (i := 1291) (by decide +kernel) (by decide +kernel), lw_in (i := 124) (by decide +kernel) (by decide +kernel), by decide, by decide, by decide +kernel⟩
theorem yw_X12_about : YW yX12_about cX12_about 2 (some .int) 1 := ⟨lw_in (i := 2137) (by decide +kernel) (by decide +kernel), lw_in (i := 133) (by decide +kernel) (by decide +kernel), by decide, by decide, by decide +kernel⟩
theorem yw_X12_activity : YW yX12_activity cX12_activity 2 (some .int) 1 := ⟨lw_in (i := 1921) (by decide +kernel) (by decide +kernel), lw_in (i := 133) (by decide +kernel) (by decide +kernel), by decide, by decide, by decide +kernel⟩
theorem yw_X12_adopt : YW yX12_adopt cX12_adopt 2 (some .int) 0 := ⟨lw_in (i := 2011) (by decide +kernel) (by decide +kernel), lw_in (i := 133) (by decide +kernel) (by decide +kernel), by decide, by decide, by decide +kernel⟩
theorem yw_X12_ahead : YW yX12_ahead cX12_ahead 3 (some .int) 2 := ⟨lw_in (i := 1947) (by decide +kernel) (by decide +kernel), lw_in (i := 133) (by decide +kernel) (by decide +kernel), by decide, by decide, by decide +kernel⟩
theorem yw_X12_aim : YW yX12_aim cX12_aim 2 (some .boolean) 1 := ⟨lw_in (i := 1644) (by decide +kernel) (by decide +kernel), lw_in (i := 133) (by decide +kernel) (by decide +kernel), by decide, by decide, by decide +kernel⟩
theorem yw_X12_back : YW yX12_back cX12_back 1 (some .int) 0 := ⟨lw_in (i := 2133) (by decide +kernel) (by decide +kernel), lw_in (i := 133) (by decide +kernel) (by decide +kernel), by decide, by decide, by decide +kernel⟩
theorem yw_X12_bad : YW yX12_bad cX12_bad 2 (some .int) 1 := ⟨lw_in (i := 1861) (by decide +kernel) (by decide +kernel), lw_in (i := 133) (by decide +kernel) (by decide +kernel), by decide, by decide, by decide +kernel⟩
theorem yw_X12_bar : YW yX12_bar cX12_bar 4 (some .int) 3 := ⟨lw_in (i := 1818) (by decide +kernel) (by decide +kernel), lw_in (i := 133) (by decide +kernel) (by decide +kernel), by decide, by decide, by decide +kernel⟩
theorem yw_X12_bestMode : YW yX12_bestMode cX12_bestMode 6 (some .int) 0 := ⟨lw_in (i := 2111) (by decide +kernel) (by decide +kernel), lw_in (i := 133) (by decide +kernel) (by decide +kernel), by decide, by decide, by decide +kernel⟩
theorem yw_X12_chosen : YW yX12_chosen cX12_chosen 2 (some .int) 1 := ⟨lw_in (i := 2079) (by decide +kernel) (by decide +kernel), lw_in (i := 133) (by decide +kernel) (by decide +kernel), by decide, by decide, by decide +kernel⟩
theorem yw_X12_claim : YW yX12_claim cX12_claim 3 (some .int) 2 := ⟨lw_in (i := 2007) (by decide +kernel) (by decide +kernel), lw_in (i := 133) (by decide +kernel) (by decide +kernel), by decide, by decide, by decide +kernel⟩
theorem yw_X12_claimed : YW yX12_claimed cX12_claimed 3 (some .int) 2 := ⟨lw_in (i := 2047) (by decide +kernel) (by decide +kernel), lw_in (i := 133) (by decide +kernel) (by decide +kernel), by decide, by decide, by decide +kernel⟩
theorem yw_X12_cube : YW yX12_cube cX12_cube 5 (some .int) 3 := ⟨lw_in (i := 1873) (by decide +kernel) (by decide +kernel), lw_in (i := 133) (by decide +kernel) (by decide +kernel), by decide, by decide, by decide +kernel⟩
theorem yw_X12_detour : YW yX12_detour cX12_detour 2 (some .int) 0 := ⟨lw_in (i := 2003) (by decide +kernel) (by decide +kernel), lw_in (i := 133) (by decide +kernel) (by decide +kernel), by decide, by decide, by decide +kernel⟩
theorem yw_X12_distance : YW yX12_distance cX12_distance 2 (some .int) 1 := ⟨lw_in (i := 1951) (by decide +kernel) (by decide +kernel), lw_in (i := 133) (by decide +kernel) (by decide +kernel), by decide, by decide, by decide +kernel⟩
theorem yw_X12_distanceBy : YW yX12_distanceBy cX12_distanceBy 3 (some .int) 2 := ⟨lw_in (i := 1963) (by decide +kernel) (by decide +kernel), lw_in (i := 133) (by decide +kernel) (by decide +kernel), by decide, by decide, by decide +kernel⟩
theorem yw_X12_doomed : YW yX12_doomed cX12_doomed 2 (some .int) 1 := ⟨lw_in (i := 1991) (by decide +kernel) (by decide +kernel), lw_in (i := 133) (by decide +kernel) (by decide +kernel), by decide, by decide, by decide +kernel⟩
theorem yw_X12_drawn : YW yX12_drawn cX12_drawn 6 (some .boolean) 2 := ⟨lw_in (i := 1640) (by decide +kernel) (by decide +kernel), lw_in (i := 133) (by decide +kernel) (by decide +kernel), by decide, by decide, by decide +kernel⟩
theorem yw_X12_end : YW yX12_end cX12_end 2 (some .int) 1 := ⟨lw_in (i := 1517) (by decide +kernel) (by decide +kernel), lw_in (i := 133) (by decide +kernel) (by decide +kernel), by decide, by decide, by decide +kernel⟩
theorem yw_X12_far : YW yX12_far cX12_far 2 (some .int) 1 := ⟨lw_in (i := 1979) (by decide +kernel) (by decide +kernel), lw_in (i := 133) (by decide +kernel) (by decide +kernel), by decide, by decide, by decide +kernel⟩
theorem yw_X12_fault : YW yX12_fault cX12_fault 2 (some .int) 1 := ⟨lw_in (i := 1611) (by decide +kernel) (by decide +kernel), lw_in (i := 133) (by decide +kernel) (by decide +kernel), by decide, by decide, by decide +kernel⟩
theorem yw_X12_feed : YW yX12_feed cX12_feed 6 (some .int) 5 := ⟨lw_in (i := 1509) (by decide +kernel) (by decide +kernel), lw_in (i := 133) (by decide +kernel) (by decide +kernel), by decide, by decide, by decide +kernel⟩
theorem yw_X12_fence : YW yX12_fence cX12_fence 3 (some .int) 2 := ⟨lw_in (i := 1909) (by decide +kernel) (by decide +kernel), lw_in (i := 133) (by decide +kernel) (by decide +kernel), by decide, by decide, by decide +kernel⟩
theorem yw_X12_fewest : YW yX12_fewest cX12_fewest 3 (some .int) 1 := ⟨lw_in (i := 2071) (by decide +kernel) (by decide +kernel), lw_in (i := 133) (by decide +kernel) (by decide +kernel), by decide, by decide, by decide +kernel⟩
theorem yw_X12_foretold : YW yX12_foretold cX12_foretold 3 (some .int) 1 := ⟨lw_in (i := 2087) (by decide +kernel) (by decide +kernel), lw_in (i := 133) (by decide +kernel) (by decide +kernel), by decide, by decide, by decide +kernel⟩
theorem yw_X12_holds : YW yX12_holds cX12_holds 4 (some .boolean) 3 := ⟨lw_in (i := 1939) (by decide +kernel) (by decide +kernel), lw_in (i := 133) (by decide +kernel) (by decide +kernel), by decide, by decide, by decide +kernel⟩
theorem yw_X12_image : YW yX12_image cX12_image 1 (some .int) 0 := ⟨lw_in (i := 2129) (by decide +kernel) (by decide +kernel), lw_in (i := 133) (by decide +kernel) (by decide +kernel), by decide, by decide, by decide +kernel⟩
theorem yw_X12_init : YW yX12_init cX12_init 3 none 0 := ⟨lw_in (i := 1389) (by decide +kernel) (by decide +kernel), lw_in (i := 133) (by decide +kernel) (by decide +kernel), by decide, by decide, by decide +kernel⟩
theorem yw_X12_inside : YW yX12_inside cX12_inside 2 (some .int) 1 := ⟨lw_in (i := 2083) (by decide +kernel) (by decide +kernel), lw_in (i := 133) (by decide +kernel) (by decide +kernel), by decide, by decide, by decide +kernel⟩
theorem yw_X12_is : YW yX12_is cX12_is 2 (some .int) 1 := ⟨lw_in (i := 1826) (by decide +kernel) (by decide +kernel), lw_in (i := 133) (by decide +kernel) (by decide +kernel), by decide, by decide, by decide +kernel⟩
theorem yw_X12_judged : YW yX12_judged cX12_judged 2 (some .int) 1 := ⟨lw_in (i := 2051) (by decide +kernel) (by decide +kernel), lw_in (i := 133) (by decide +kernel) (by decide +kernel), by decide, by decide, by decide +kernel⟩
theorem yw_X12_leads : YW yX12_leads cX12_leads 5 (some .int) 2 := ⟨lw_in (i := 1838) (by decide +kernel) (by decide +kernel), lw_in (i := 133) (by decide +kernel) (by decide +kernel), by decide, by decide, by decide +kernel⟩
theorem yw_X12_load : YW yX12_load cX12_load 6 (some .int) 1 := ⟨lw_in (i := 1615) (by decide +kernel) (by decide +kernel), lw_in (i := 133) (by decide +kernel) (by decide +kernel), by decide, by decide, by decide +kernel⟩
theorem yw_X12_loosen : YW yX12_loosen cX12_loosen 5 (some .int) 1 := ⟨lw_in (i := 2019) (by decide +kernel) (by decide +kernel), lw_in (i := 133) (by decide +kernel) (by decide +kernel), by decide, by decide, by decide +kernel⟩
theorem yw_X12_mean : YW yX12_mean cX12_mean 1 (some .long) 0 := ⟨lw_in (i := 2115) (by decide +kernel) (by decide +kernel), lw_in (i := 133) (by decide +kernel) (by decide +kernel), by decide, by decide, by decide +kernel⟩
theorem yw_X12_mode : YW yX12_mode cX12_mode 2 (some .boolean) 1 := ⟨lw_in (i := 1660) (by decide +kernel) (by decide +kernel), lw_in (i := 133) (by decide +kernel) (by decide +kernel), by decide, by decide, by decide +kernel⟩
theorem yw_X12_nearest : YW yX12_nearest cX12_nearest 1 (some .int) 0 := ⟨lw_in (i := 1967) (by decide +kernel) (by decide +kernel), lw_in (i := 133) (by decide +kernel) (by decide +kernel), by decide, by decide, by decide +kernel⟩
theorem yw_X12_obligation : YW yX12_obligation cX12_obligation 3 (some .int) 2 := ⟨lw_in (i := 1885) (by decide +kernel) (by decide +kernel), lw_in (i := 133) (by decide +kernel) (by decide +kernel), by decide, by decide, by decide +kernel⟩
theorem yw_X12_of : YW yX12_of cX12_of 3 (some .boolean) 2 := ⟨lw_in (i := 1842) (by decide +kernel) (by decide +kernel), lw_in (i := 133) (by decide +kernel) (by decide +kernel), by decide, by decide, by decide +kernel⟩
theorem yw_X12_order : YW yX12_order cX12_order 2 (some .int) 1 := ⟨lw_in (i := 1935) (by decide +kernel) (by decide +kernel), lw_in (i := 133) (by decide +kernel) (by decide +kernel), by decide, by decide, by decide +kernel⟩
theorem yw_X12_quickest : YW yX12_quickest cX12_quickest 5 (some .int) 0 := ⟨lw_in (i := 2107) (by decide +kernel) (by decide +kernel), lw_in (i := 133) (by decide +kernel) (by decide +kernel), by decide, by decide, by decide +kernel⟩
theorem yw_X12_reach : YW yX12_reach cX12_reach 2 (some .int) 1 := ⟨lw_in (i := 1971) (by decide +kernel) (by decide +kernel), lw_in (i := 133) (by decide +kernel) (by decide +kernel), by decide, by decide, by decide +kernel⟩
theorem yw_X12_shortest : YW yX12_shortest cX12_shortest 3 (some .int) 2 := ⟨lw_in (i := 1995) (by decide +kernel) (by decide +kernel), lw_in (i := 133) (by decide +kernel) (by decide +kernel), by decide, by decide, by decide +kernel⟩
theorem yw_X12_slack : YW yX12_slack cX12_slack 2 (some .int) 1 := ⟨lw_in (i := 1975) (by decide +kernel) (by decide +kernel), lw_in (i := 133) (by decide +kernel) (by decide +kernel), by decide, by decide, by decide +kernel⟩
theorem yw_X12_sought : YW yX12_sought cX12_sought 6 (some .int) 1 := ⟨lw_in (i := 1865) (by decide +kernel) (by decide +kernel), lw_in (i := 133) (by decide +kernel) (by decide +kernel), by decide, by decide, by decide +kernel⟩
theorem yw_X12_spare : YW yX12_spare cX12_spare 7 (some .int) 1 := ⟨lw_in (i := 2063) (by decide +kernel) (by decide +kernel), lw_in (i := 133) (by decide +kernel) (by decide +kernel), by decide, by decide, by decide +kernel⟩
theorem yw_X12_step : YW yX12_step cX12_step 2 (some .int) 1 := ⟨lw_in (i := 1668) (by decide +kernel) (by decide +kernel), lw_in (i := 133) (by decide +kernel) (by decide +kernel), by decide, by decide, by decide +kernel⟩
theorem yw_X12_successor : YW yX12_successor cX12_successor 3 (some .int) 2 := ⟨lw_in (i := 1830) (by decide +kernel) (by decide +kernel), lw_in (i := 133) (by decide +kernel) (by decide +kernel), by decide, by decide, by decide +kernel⟩
theorem yw_X12_text : YW yX12_text cX12_text 1 (some .int) 0 := ⟨lw_in (i := 1524) (by decide +kernel) (by decide +kernel), lw_in (i := 133) (by decide +kernel) (by decide +kernel), by decide, by decide, by decide +kernel⟩
theorem yw_X12_till : YW yX12_till cX12_till 1 (some .int) 0 := ⟨lw_in (i := 2099) (by decide +kernel) (by decide +kernel), lw_in (i := 133) (by decide +kernel) (by decide +kernel), by decide, by decide, by decide +kernel⟩
theorem yw_X12_trace : YW yX12_trace cX12_trace 3 (some .int) 2 := ⟨lw_in (i := 1893) (by decide +kernel) (by decide +kernel), lw_in (i := 133) (by decide +kernel) (by decide +kernel), by decide, by decide, by decide +kernel⟩
theorem yw_X12_unclaim : YW yX12_unclaim cX12_unclaim 3 (some .int) 1 := ⟨lw_in (i := 2015) (by decide +kernel) (by decide +kernel), lw_in (i := 133) (by decide +kernel) (by decide +kernel), by decide, by decide, by decide +kernel⟩
theorem yw_X12_undo : YW yX12_undo cX12_undo 3 (some .int) 0 := ⟨lw_in (i := 1664) (by decide +kernel) (by decide +kernel), lw_in (i := 133) (by decide +kernel) (by decide +kernel), by decide, by decide, by decide +kernel⟩
theorem yw_X12_weight : YW yX12_weight cX12_weight 4 (some .int) 1 := ⟨lw_in (i := 1869) (by decide +kernel) (by decide +kernel), lw_in (i := 133) (by decide +kernel) (by decide +kernel), by decide, by decide, by decide +kernel⟩
theorem yw_X12_wide : YW yX12_wide cX12_wide 2 (some .int) 1 := ⟨lw_in (i := 1854) (by decide +kernel) (by decide +kernel), lw_in (i := 133) (by decide +kernel) (by decide +kernel), by decide, by decide, by decide +kernel⟩
theorem yw_X12_widened : YW yX12_widened cX12_widened 5 (some .int) 2 := ⟨lw_in (i := 1943) (by decide +kernel) (by decide +kernel), lw_in (i := 133) (by decide +kernel) (by decide +kernel), by decide, by decide, by decide +kernel⟩
theorem yw_X12_within : YW yX12_within cX12_within 3 (some .boolean) 2 := ⟨lw_in (i := 1846) (by decide +kernel) (by decide +kernel), lw_in (i := 133) (by decide +kernel) (by decide +kernel), by decide, by decide, by decide +kernel⟩
theorem yw_X12_witness : YW yX12_witness cX12_witness 4 (some .int) 1 := ⟨lw_in (i := 2059) (by decide +kernel) (by decide +kernel), lw_in (i := 133) (by decide +kernel) (by decide +kernel), by decide, by decide, by decide +kernel⟩
