theorem kB_m126 : (Int8.ofInt (-126)).toInt32 = (-126 : Int32) := by decide
theorem kB_80 : (Int8.ofInt 80).toInt32 = (80 : Int32) := by decide
theorem kB_103 : (Int8.ofInt 103).toInt32 = (103 : Int32) := by decide
theorem kB_127 : (Int8.ofInt 127).toInt32 = (127 : Int32) := by decide
theorem kI_8 : Int32.ofInt 8 = (8 : Int32) := by decide
theorem kI_16 : Int32.ofInt 16 = (16 : Int32) := by decide
theorem kS_m1022 : (Int16.ofInt (-1022)).toInt32 = (-1022 : Int32) := by decide
theorem kS_128 : (Int16.ofInt 128).toInt32 = (128 : Int32) := by decide
theorem kS_160 : (Int16.ofInt 160).toInt32 = (160 : Int32) := by decide
theorem kS_256 : (Int16.ofInt 256).toInt32 = (256 : Int32) := by decide
theorem kS_301 : (Int16.ofInt 301).toInt32 = (301 : Int32) := by decide
theorem kS_401 : (Int16.ofInt 401).toInt32 = (401 : Int32) := by decide
theorem kS_1000 : (Int16.ofInt 1000).toInt32 = (1000 : Int32) := by decide
theorem kS_1100 : (Int16.ofInt 1100).toInt32 = (1100 : Int32) := by decide
theorem kS_4096 : (Int16.ofInt 4096).toInt32 = (4096 : Int32) := by decide
theorem kS_5000 : (Int16.ofInt 5000).toInt32 = (5000 : Int32) := by decide
theorem wm_0 : Cond.selects "FencedStates" ⟨"FencedStates", "putBytes", "(I)V"⟩ ⟨"FencedStates", "putBytes", "(I)V"⟩ ∈ lw_gd := lw_in (i := 0) (by decide +kernel) (by decide +kernel)
theorem wm_1 : Cond.selects "FencedStates$Reader" ⟨"FencedStates$Reader", "forget", "()V"⟩ ⟨"FencedStates$Reader", "forget", "()V"⟩ ∈ lw_gd := lw_in (i := 1) (by decide +kernel) (by decide +kernel)
theorem wm_2 : Cond.selects "FencedStates$Reader" ⟨"FencedStates$Reader", "takeTokens", "([BI)V"⟩ ⟨"FencedStates$Reader", "takeTokens", "([BI)V"⟩ ∈ lw_gd := lw_in (i := 2) (by decide +kernel) (by decide +kernel)
theorem wm_3 : Cond.selects "FencedStates$Reader" ⟨"FencedStates$Reader", "takeWord", "([BII)I"⟩ ⟨"FencedStates$Reader", "takeWord", "([BII)I"⟩ ∈ lw_gd := lw_in (i := 3) (by decide +kernel) (by decide +kernel)
theorem wm_4 : Cond.selects "FencedStates$Reader" ⟨"FencedStates$Reader", "addToken", "(III)V"⟩ ⟨"FencedStates$Reader", "addToken", "(III)V"⟩ ∈ lw_gd := lw_in (i := 4) (by decide +kernel) (by decide +kernel)
theorem wm_5 : Cond.selects "FencedStates$Reader" ⟨"FencedStates$Reader", "takeNumber", "([BII)I"⟩ ⟨"FencedStates$Reader", "takeNumber", "([BII)I"⟩ ∈ lw_gd := lw_in (i := 5) (by decide +kernel) (by decide +kernel)
theorem wm_6 : Cond.selects "FencedStates$Reader" ⟨"FencedStates$Reader", "readLetters", "()V"⟩ ⟨"FencedStates$Reader", "readLetters", "()V"⟩ ∈ lw_gd := lw_in (i := 6) (by decide +kernel) (by decide +kernel)
theorem wm_7 : Cond.selects "FencedStates$Reader" ⟨"FencedStates$Reader", "goOn", "()V"⟩ ⟨"FencedStates$Reader", "goOn", "()V"⟩ ∈ lw_gd := lw_in (i := 7) (by decide +kernel) (by decide +kernel)
theorem wm_8 : Cond.selects "FencedStates$Reader" ⟨"FencedStates$Reader", "fail", "(I)V"⟩ ⟨"FencedStates$Reader", "fail", "(I)V"⟩ ∈ lw_gd := lw_in (i := 8) (by decide +kernel) (by decide +kernel)
theorem wm_9 : Cond.selects "FencedStates$Reader" ⟨"FencedStates$Reader", "takeSign", "(C)V"⟩ ⟨"FencedStates$Reader", "takeSign", "(C)V"⟩ ∈ lw_gd := lw_in (i := 9) (by decide +kernel) (by decide +kernel)
theorem wm_10 : Cond.selects "FencedStates$Reader" ⟨"FencedStates$Reader", "isSign", "(C)Z"⟩ ⟨"FencedStates$Reader", "isSign", "(C)Z"⟩ ∈ lw_gd := lw_in (i := 10) (by decide +kernel) (by decide +kernel)
theorem wm_11 : Cond.selects "FencedStates$Reader" ⟨"FencedStates$Reader", "readInit", "()V"⟩ ⟨"FencedStates$Reader", "readInit", "()V"⟩ ∈ lw_gd := lw_in (i := 11) (by decide +kernel) (by decide +kernel)
theorem wm_12 : Cond.selects "FencedStates$Reader" ⟨"FencedStates$Reader", "readForm", "(II)J"⟩ ⟨"FencedStates$Reader", "readForm", "(II)J"⟩ ∈ lw_gd := lw_in (i := 12) (by decide +kernel) (by decide +kernel)
theorem wm_13 : Cond.selects "FencedStates$Reader" ⟨"FencedStates$Reader", "readOne", "(I)J"⟩ ⟨"FencedStates$Reader", "readOne", "(I)J"⟩ ∈ lw_gd := lw_in (i := 13) (by decide +kernel) (by decide +kernel)
theorem wm_14 : Cond.selects "FencedStates$Reader" ⟨"FencedStates$Reader", "readPlain", "()J"⟩ ⟨"FencedStates$Reader", "readPlain", "()J"⟩ ∈ lw_gd := lw_in (i := 14) (by decide +kernel) (by decide +kernel)
theorem wm_15 : Cond.selects "FencedStates$Reader" ⟨"FencedStates$Reader", "readBad", "()V"⟩ ⟨"FencedStates$Reader", "readBad", "()V"⟩ ∈ lw_gd := lw_in (i := 15) (by decide +kernel) (by decide +kernel)
theorem wm_16 : Cond.selects "FencedStates$Reader" ⟨"FencedStates$Reader", "readNext", "()V"⟩ ⟨"FencedStates$Reader", "readNext", "()V"⟩ ∈ lw_gd := lw_in (i := 16) (by decide +kernel) (by decide +kernel)
theorem wm_17 : Cond.selects "FencedStates$Reader" ⟨"FencedStates$Reader", "readForInputs", "(I)V"⟩ ⟨"FencedStates$Reader", "readForInputs", "(I)V"⟩ ∈ lw_gd := lw_in (i := 17) (by decide +kernel) (by decide +kernel)
theorem wm_18 : Cond.selects "FencedStates$CubeRow" ⟨"FencedStates$CubeRow", "makeRoom", "(I)V"⟩ ⟨"FencedStates$CubeRow", "makeRoom", "(I)V"⟩ ∈ lw_gd := lw_in (i := 18) (by decide +kernel) (by decide +kernel)
theorem wm_19 : Cond.selects "FencedStates$Obligations" ⟨"FencedStates$Obligations", "makeRoom", "(I)V"⟩ ⟨"FencedStates$Obligations", "makeRoom", "(I)V"⟩ ∈ lw_gd := lw_in (i := 19) (by decide +kernel) (by decide +kernel)
theorem wm_20 : Cond.selects "FencedStates$CubeRow" ⟨"FencedStates$CubeRow", "insert", "(III)V"⟩ ⟨"FencedStates$CubeRow", "insert", "(III)V"⟩ ∈ lw_gd := lw_in (i := 20) (by decide +kernel) (by decide +kernel)
theorem wm_21 : Cond.selects "FencedStates$Search" ⟨"FencedStates$Search", "seek", "()V"⟩ ⟨"FencedStates$Search", "seek", "()V"⟩ ∈ lw_gd := lw_in (i := 21) (by decide +kernel) (by decide +kernel)
theorem wm_22 : Cond.selects "FencedStates$Obligations" ⟨"FencedStates$Obligations", "comesFirst", "(III)Z"⟩ ⟨"FencedStates$Obligations", "comesFirst", "(III)Z"⟩ ∈ lw_gd := lw_in (i := 22) (by decide +kernel) (by decide +kernel)
theorem wm_23 : Cond.selects "FencedStates$Search" ⟨"FencedStates$Search", "oblige", "()V"⟩ ⟨"FencedStates$Search", "oblige", "()V"⟩ ∈ lw_gd := lw_in (i := 23) (by decide +kernel) (by decide +kernel)
theorem wm_24 : Cond.selects "FencedStates$Search" ⟨"FencedStates$Search", "meet", "(II)V"⟩ ⟨"FencedStates$Search", "meet", "(II)V"⟩ ∈ lw_gd := lw_in (i := 24) (by decide +kernel) (by decide +kernel)
theorem wm_25 : Cond.selects "FencedStates$Activities" ⟨"FencedStates$Activities", "rankOf", "(III)I"⟩ ⟨"FencedStates$Activities", "rankOf", "(III)I"⟩ ∈ lw_gd := lw_in (i := 25) (by decide +kernel) (by decide +kernel)
theorem wm_26 : Cond.selects "FencedStates$Search" ⟨"FencedStates$Search", "highestFor", "(II)I"⟩ ⟨"FencedStates$Search", "highestFor", "(II)I"⟩ ∈ lw_gd := lw_in (i := 26) (by decide +kernel) (by decide +kernel)
theorem wm_27 : Cond.selects "FencedStates$Activities" ⟨"FencedStates$Activities", "lower", "()V"⟩ ⟨"FencedStates$Activities", "lower", "()V"⟩ ∈ lw_gd := lw_in (i := 27) (by decide +kernel) (by decide +kernel)
theorem wm_28 : Cond.selects "FencedStates$Search" ⟨"FencedStates$Search", "push", "()V"⟩ ⟨"FencedStates$Search", "push", "()V"⟩ ∈ lw_gd := lw_in (i := 28) (by decide +kernel) (by decide +kernel)
theorem wm_29 : Cond.selects "FencedStates$Obligations" ⟨"FencedStates$Obligations", "placeOf", "(I)I"⟩ ⟨"FencedStates$Obligations", "placeOf", "(I)I"⟩ ∈ lw_gd := lw_in (i := 29) (by decide +kernel) (by decide +kernel)
theorem wm_30 : Cond.selects "FencedStates" ⟨"FencedStates", "pathPart", "(III)I"⟩ ⟨"FencedStates", "pathPart", "(III)I"⟩ ∈ lw_gd := lw_in (i := 30) (by decide +kernel) (by decide +kernel)
theorem wm_31 : Cond.selects "FencedStates$Machine" ⟨"FencedStates$Machine", "fillFars", "(J[J)I"⟩ ⟨"FencedStates$Machine", "fillFars", "(J[J)I"⟩ ∈ lw_gd := lw_in (i := 31) (by decide +kernel) (by decide +kernel)
theorem wm_32 : Cond.selects "FencedStates" ⟨"FencedStates", "rowOf", "(I)LFencedStates$CubeRow;"⟩ ⟨"FencedStates", "rowOf", "(I)LFencedStates$CubeRow;"⟩ ∈ lw_gd := lw_in (i := 32) (by decide +kernel) (by decide +kernel)
theorem wm_33 : Cond.selects "FencedStates" ⟨"FencedStates", "startIn", "(I)I"⟩ ⟨"FencedStates", "startIn", "(I)I"⟩ ∈ lw_gd := lw_in (i := 33) (by decide +kernel) (by decide +kernel)
theorem wm_34 : Cond.selects "FencedStates" ⟨"FencedStates", "leaveOut", "(LFencedStates$CubeRow;)I"⟩ ⟨"FencedStates", "leaveOut", "(LFencedStates$CubeRow;)I"⟩ ∈ lw_gd := lw_in (i := 34) (by decide +kernel) (by decide +kernel)
theorem wm_35 : Cond.selects "FencedStates$Chooser" ⟨"FencedStates$Chooser", "firstOf", "(IIJ)I"⟩ ⟨"FencedStates$Chooser", "firstOf", "(IIJ)I"⟩ ∈ lw_gd := lw_in (i := 35) (by decide +kernel) (by decide +kernel)
theorem wm_36 : Cond.selects "FencedStates$Chooser" ⟨"FencedStates$Chooser", "suffices", "(IIJ)Z"⟩ ⟨"FencedStates$Chooser", "suffices", "(IIJ)Z"⟩ ∈ lw_gd := lw_in (i := 36) (by decide +kernel) (by decide +kernel)
theorem wm_126 : Cond.initialized "FencedStates$Reader" ∈ lw_gd := lw_in (i := 126) (by decide +kernel) (by decide +kernel)
theorem wm_127 : Cond.initialized "FencedStates$Machine" ∈ lw_gd := lw_in (i := 127) (by decide +kernel) (by decide +kernel)
theorem wm_128 : Cond.initialized "FencedStates$World" ∈ lw_gd := lw_in (i := 128) (by decide +kernel) (by decide +kernel)
theorem wm_129 : Cond.initialized "FencedStates$Search" ∈ lw_gd := lw_in (i := 129) (by decide +kernel) (by decide +kernel)
theorem wm_130 : Cond.initialized "FencedStates$CubeRow" ∈ lw_gd := lw_in (i := 130) (by decide +kernel) (by decide +kernel)
theorem wm_131 : Cond.initialized "FencedStates$Obligations" ∈ lw_gd := lw_in (i := 131) (by decide +kernel) (by decide +kernel)
theorem wm_132 : Cond.initialized "FencedStates$Activities" ∈ lw_gd := lw_in (i := 132) (by decide +kernel) (by decide +kernel)
theorem wm_133 : Cond.initialized "FencedStates$Chooser" ∈ lw_gd := lw_in (i := 133) (by decide +kernel) (by decide +kernel)
theorem wm_143 : Cond.initialized "java/lang/System" ∈ lw_gd := lw_in (i := 143) (by decide +kernel) (by decide +kernel)
theorem wm_156 : Cond.methodLink "FencedStates" 3 ⟨"java/lang/Object", "<init>", "()V"⟩ ∈ lw_gd := lw_in (i := 156) (by decide +kernel) (by decide +kernel)
theorem wm_157 : Cond.instanceMethod ⟨"java/lang/Object", "<init>", "()V"⟩ ∈ lw_gd := lw_in (i := 157) (by decide +kernel) (by decide +kernel)
theorem wm_159 : Cond.classLink "FencedStates" 17 "FencedStates$Reader" ∈ lw_gd := lw_in (i := 159) (by decide +kernel) (by decide +kernel)
theorem wm_160 : Cond.instantiable "FencedStates$Reader" 15 ∈ lw_gd := lw_in (i := 160) (by decide +kernel) (by decide +kernel)
theorem wm_161 : Cond.methodLink "FencedStates" 19 ⟨"FencedStates$Reader", "<init>", "()V"⟩ ∈ lw_gd := lw_in (i := 161) (by decide +kernel) (by decide +kernel)
theorem wm_162 : Cond.instanceMethod ⟨"FencedStates$Reader", "<init>", "()V"⟩ ∈ lw_gd := lw_in (i := 162) (by decide +kernel) (by decide +kernel)
theorem wm_164 : Cond.methodLink "FencedStates$Reader" 3 ⟨"java/lang/Object", "<init>", "()V"⟩ ∈ lw_gd := lw_in (i := 164) (by decide +kernel) (by decide +kernel)
theorem wm_213 : Cond.arrayClass .byte ∈ lw_gd := lw_in (i := 213) (by decide +kernel) (by decide +kernel)
theorem wm_214 : Cond.arrayClass .int ∈ lw_gd := lw_in (i := 214) (by decide +kernel) (by decide +kernel)
theorem wm_215 : Cond.arrayClass .long ∈ lw_gd := lw_in (i := 215) (by decide +kernel) (by decide +kernel)
theorem wm_216 : Cond.methodLink "FencedStates" 24 ⟨"FencedStates$Machine", "plain", "()LFencedStates$Machine;"⟩ ∈ lw_gd := lw_in (i := 216) (by decide +kernel) (by decide +kernel)
theorem wm_217 : Cond.static ⟨"FencedStates$Machine", "plain", "()LFencedStates$Machine;"⟩ ∈ lw_gd := lw_in (i := 217) (by decide +kernel) (by decide +kernel)
theorem wm_219 : Cond.classLink "FencedStates$Machine" 10 "FencedStates$Machine" ∈ lw_gd := lw_in (i := 219) (by decide +kernel) (by decide +kernel)
theorem wm_220 : Cond.instantiable "FencedStates$Machine" 7 ∈ lw_gd := lw_in (i := 220) (by decide +kernel) (by decide +kernel)
theorem wm_221 : Cond.methodLink "FencedStates$Machine" 38 ⟨"FencedStates$Machine", "<init>", "(I[IJ[J)V"⟩ ∈ lw_gd := lw_in (i := 221) (by decide +kernel) (by decide +kernel)
theorem wm_222 : Cond.instanceMethod ⟨"FencedStates$Machine", "<init>", "(I[IJ[J)V"⟩ ∈ lw_gd := lw_in (i := 222) (by decide +kernel) (by decide +kernel)
theorem wm_224 : Cond.methodLink "FencedStates$Machine" 3 ⟨"java/lang/Object", "<init>", "()V"⟩ ∈ lw_gd := lw_in (i := 224) (by decide +kernel) (by decide +kernel)
theorem wm_225 : Cond.constantLong "FencedStates$Machine" 18 (-1) ∈ lw_gd := lw_in (i := 225) (by decide +kernel) (by decide +kernel)
theorem wm_257 : Cond.classLink "FencedStates" 30 "FencedStates$World" ∈ lw_gd := lw_in (i := 257) (by decide +kernel) (by decide +kernel)
theorem wm_258 : Cond.instantiable "FencedStates$World" 5 ∈ lw_gd := lw_in (i := 258) (by decide +kernel) (by decide +kernel)
theorem wm_259 : Cond.methodLink "FencedStates" 32 ⟨"FencedStates$World", "<init>", "(LFencedStates$Machine;)V"⟩ ∈ lw_gd := lw_in (i := 259) (by decide +kernel) (by decide +kernel)
theorem wm_260 : Cond.instanceMethod ⟨"FencedStates$World", "<init>", "(LFencedStates$Machine;)V"⟩ ∈ lw_gd := lw_in (i := 260) (by decide +kernel) (by decide +kernel)
theorem wm_262 : Cond.methodLink "FencedStates$World" 3 ⟨"java/lang/Object", "<init>", "()V"⟩ ∈ lw_gd := lw_in (i := 262) (by decide +kernel) (by decide +kernel)
theorem wm_263 : Cond.classLink "FencedStates$World" 9 "FencedStates$Machine" ∈ lw_gd := lw_in (i := 263) (by decide +kernel) (by decide +kernel)
theorem wm_265 : Cond.classLink "FencedStates$World" 17 "FencedStates$Search" ∈ lw_gd := lw_in (i := 265) (by decide +kernel) (by decide +kernel)
theorem wm_267 : Cond.instantiable "FencedStates$Search" 15 ∈ lw_gd := lw_in (i := 267) (by decide +kernel) (by decide +kernel)
theorem wm_268 : Cond.methodLink "FencedStates$World" 23 ⟨"FencedStates$Search", "<init>", "(LFencedStates$Machine;)V"⟩ ∈ lw_gd := lw_in (i := 268) (by decide +kernel) (by decide +kernel)
theorem wm_269 : Cond.instanceMethod ⟨"FencedStates$Search", "<init>", "(LFencedStates$Machine;)V"⟩ ∈ lw_gd := lw_in (i := 269) (by decide +kernel) (by decide +kernel)
theorem wm_271 : Cond.methodLink "FencedStates$Search" 3 ⟨"java/lang/Object", "<init>", "()V"⟩ ∈ lw_gd := lw_in (i := 271) (by decide +kernel) (by decide +kernel)
theorem wm_272 : Cond.classLink "FencedStates$Search" 22 "FencedStates$CubeRow" ∈ lw_gd := lw_in (i := 272) (by decide +kernel) (by decide +kernel)
theorem wm_273 : Cond.instantiable "FencedStates$CubeRow" 4 ∈ lw_gd := lw_in (i := 273) (by decide +kernel) (by decide +kernel)
theorem wm_274 : Cond.methodLink "FencedStates$Search" 24 ⟨"FencedStates$CubeRow", "<init>", "()V"⟩ ∈ lw_gd := lw_in (i := 274) (by decide +kernel) (by decide +kernel)
theorem wm_275 : Cond.instanceMethod ⟨"FencedStates$CubeRow", "<init>", "()V"⟩ ∈ lw_gd := lw_in (i := 275) (by decide +kernel) (by decide +kernel)
theorem wm_277 : Cond.methodLink "FencedStates$CubeRow" 1 ⟨"java/lang/Object", "<init>", "()V"⟩ ∈ lw_gd := lw_in (i := 277) (by decide +kernel) (by decide +kernel)
theorem wm_294 : Cond.classLink "FencedStates$Search" 29 "FencedStates$Obligations" ∈ lw_gd := lw_in (i := 294) (by decide +kernel) (by decide +kernel)
theorem wm_295 : Cond.instantiable "FencedStates$Obligations" 2 ∈ lw_gd := lw_in (i := 295) (by decide +kernel) (by decide +kernel)
theorem wm_296 : Cond.methodLink "FencedStates$Search" 31 ⟨"FencedStates$Obligations", "<init>", "()V"⟩ ∈ lw_gd := lw_in (i := 296) (by decide +kernel) (by decide +kernel)
theorem wm_297 : Cond.instanceMethod ⟨"FencedStates$Obligations", "<init>", "()V"⟩ ∈ lw_gd := lw_in (i := 297) (by decide +kernel) (by decide +kernel)
theorem wm_299 : Cond.methodLink "FencedStates$Obligations" 3 ⟨"java/lang/Object", "<init>", "()V"⟩ ∈ lw_gd := lw_in (i := 299) (by decide +kernel) (by decide +kernel)
theorem wm_309 : Cond.classLink "FencedStates$Search" 36 "FencedStates$Activities" ∈ lw_gd := lw_in (i := 309) (by decide +kernel) (by decide +kernel)
theorem wm_310 : Cond.instantiable "FencedStates$Activities" 2 ∈ lw_gd := lw_in (i := 310) (by decide +kernel) (by decide +kernel)
theorem wm_311 : Cond.methodLink "FencedStates$Search" 38 ⟨"FencedStates$Activities", "<init>", "()V"⟩ ∈ lw_gd := lw_in (i := 311) (by decide +kernel) (by decide +kernel)
theorem wm_312 : Cond.instanceMethod ⟨"FencedStates$Activities", "<init>", "()V"⟩ ∈ lw_gd := lw_in (i := 312) (by decide +kernel) (by decide +kernel)
theorem wm_314 : Cond.methodLink "FencedStates$Activities" 3 ⟨"java/lang/Object", "<init>", "()V"⟩ ∈ lw_gd := lw_in (i := 314) (by decide +kernel) (by decide +kernel)
theorem wm_323 : Cond.arrayClass .float ∈ lw_gd := lw_in (i := 323) (by decide +kernel) (by decide +kernel)
theorem wm_406 : Cond.classLink "FencedStates" 42 "FencedStates$Search" ∈ lw_gd := lw_in (i := 406) (by decide +kernel) (by decide +kernel)
theorem wm_407 : Cond.methodLink "FencedStates" 44 ⟨"FencedStates$Search", "<init>", "(LFencedStates$Machine;)V"⟩ ∈ lw_gd := lw_in (i := 407) (by decide +kernel) (by decide +kernel)
theorem wm_408 : Cond.classLink "FencedStates" 49 "FencedStates$CubeRow" ∈ lw_gd := lw_in (i := 408) (by decide +kernel) (by decide +kernel)
theorem wm_409 : Cond.methodLink "FencedStates" 51 ⟨"FencedStates$CubeRow", "<init>", "()V"⟩ ∈ lw_gd := lw_in (i := 409) (by decide +kernel) (by decide +kernel)
theorem wm_410 : Cond.classLink "FencedStates" 56 "FencedStates$Chooser" ∈ lw_gd := lw_in (i := 410) (by decide +kernel) (by decide +kernel)
theorem wm_411 : Cond.instantiable "FencedStates$Chooser" 2 ∈ lw_gd := lw_in (i := 411) (by decide +kernel) (by decide +kernel)
theorem wm_412 : Cond.methodLink "FencedStates" 58 ⟨"FencedStates$Chooser", "<init>", "()V"⟩ ∈ lw_gd := lw_in (i := 412) (by decide +kernel) (by decide +kernel)
theorem wm_413 : Cond.instanceMethod ⟨"FencedStates$Chooser", "<init>", "()V"⟩ ∈ lw_gd := lw_in (i := 413) (by decide +kernel) (by decide +kernel)
theorem wm_415 : Cond.methodLink "FencedStates$Chooser" 3 ⟨"java/lang/Object", "<init>", "()V"⟩ ∈ lw_gd := lw_in (i := 415) (by decide +kernel) (by decide +kernel)
theorem wm_467 : Cond.methodLink "FencedStates" 74 ⟨"FencedStates", "putBytes", "(I)V"⟩ ∈ lw_gd := lw_in (i := 467) (by decide +kernel) (by decide +kernel)
theorem wm_469 : Cond.instanceMethod ⟨"FencedStates", "putBytes", "(I)V"⟩ ∈ lw_gd := lw_in (i := 469) (by decide +kernel) (by decide +kernel)
theorem wm_479 : Cond.methodLink "FencedStates" 81 ⟨"FencedStates$Reader", "readAll", "([BI)V"⟩ ∈ lw_gd := lw_in (i := 479) (by decide +kernel) (by decide +kernel)
theorem wm_480 : Cond.instanceMethod ⟨"FencedStates$Reader", "readAll", "([BI)V"⟩ ∈ lw_gd := lw_in (i := 480) (by decide +kernel) (by decide +kernel)
theorem wm_481 : Cond.selects "FencedStates$Reader" ⟨"FencedStates$Reader", "readAll", "([BI)V"⟩ ⟨"FencedStates$Reader", "readAll", "([BI)V"⟩ ∈ lw_gd := lw_in (i := 481) (by decide +kernel) (by decide +kernel)
theorem wm_483 : Cond.methodLink "FencedStates$Reader" 91 ⟨"FencedStates$Reader", "forget", "()V"⟩ ∈ lw_gd := lw_in (i := 483) (by decide +kernel) (by decide +kernel)
theorem wm_485 : Cond.instanceMethod ⟨"FencedStates$Reader", "forget", "()V"⟩ ∈ lw_gd := lw_in (i := 485) (by decide +kernel) (by decide +kernel)
theorem wm_487 : Cond.methodLink "FencedStates$Reader" 55 ⟨"java/util/Arrays", "fill", "([JJ)V"⟩ ∈ lw_gd := lw_in (i := 487) (by decide +kernel) (by decide +kernel)
theorem wm_488 : Cond.static ⟨"java/util/Arrays", "fill", "([JJ)V"⟩ ∈ lw_gd := lw_in (i := 488) (by decide +kernel) (by decide +kernel)
theorem wm_492 : Cond.methodLink "FencedStates$Reader" 94 ⟨"java/lang/Math", "min", "(II)I"⟩ ∈ lw_gd := lw_in (i := 492) (by decide +kernel) (by decide +kernel)
theorem wm_493 : Cond.static ⟨"java/lang/Math", "min", "(II)I"⟩ ∈ lw_gd := lw_in (i := 493) (by decide +kernel) (by decide +kernel)
theorem wm_495 : Cond.methodLink "FencedStates$Reader" 97 ⟨"FencedStates$Reader", "takeTokens", "([BI)V"⟩ ∈ lw_gd := lw_in (i := 495) (by decide +kernel) (by decide +kernel)
theorem wm_497 : Cond.instanceMethod ⟨"FencedStates$Reader", "takeTokens", "([BI)V"⟩ ∈ lw_gd := lw_in (i := 497) (by decide +kernel) (by decide +kernel)
theorem wm_499 : Cond.methodLink "FencedStates$Reader" 121 ⟨"FencedStates$Reader", "isSmall", "(I)Z"⟩ ∈ lw_gd := lw_in (i := 499) (by decide +kernel) (by decide +kernel)
theorem wm_500 : Cond.static ⟨"FencedStates$Reader", "isSmall", "(I)Z"⟩ ∈ lw_gd := lw_in (i := 500) (by decide +kernel) (by decide +kernel)
theorem wm_502 : Cond.methodLink "FencedStates$Reader" 125 ⟨"FencedStates$Reader", "takeWord", "([BII)I"⟩ ∈ lw_gd := lw_in (i := 502) (by decide +kernel) (by decide +kernel)
theorem wm_504 : Cond.instanceMethod ⟨"FencedStates$Reader", "takeWord", "([BII)I"⟩ ∈ lw_gd := lw_in (i := 504) (by decide +kernel) (by decide +kernel)
theorem wm_506 : Cond.methodLink "FencedStates$Reader" 147 ⟨"FencedStates$Reader", "kindOfWord", "([BII)I"⟩ ∈ lw_gd := lw_in (i := 506) (by decide +kernel) (by decide +kernel)
theorem wm_507 : Cond.static ⟨"FencedStates$Reader", "kindOfWord", "([BII)I"⟩ ∈ lw_gd := lw_in (i := 507) (by decide +kernel) (by decide +kernel)
theorem wm_510 : Cond.methodLink "FencedStates$Reader" 151 ⟨"FencedStates$Reader", "isWord", "(Ljava/lang/String;[BII)Z"⟩ ∈ lw_gd := lw_in (i := 510) (by decide +kernel) (by decide +kernel)
theorem wm_511 : Cond.static ⟨"FencedStates$Reader", "isWord", "(Ljava/lang/String;[BII)Z"⟩ ∈ lw_gd := lw_in (i := 511) (by decide +kernel) (by decide +kernel)
theorem wm_513 : Cond.methodLink "FencedStates$Reader" 160 ⟨"java/lang/String", "length", "()I"⟩ ∈ lw_gd := lw_in (i := 513) (by decide +kernel) (by decide +kernel)
theorem wm_514 : Cond.instanceMethod ⟨"java/lang/String", "length", "()I"⟩ ∈ lw_gd := lw_in (i := 514) (by decide +kernel) (by decide +kernel)
theorem wm_515 : Cond.selects "java/lang/String" ⟨"java/lang/String", "length", "()I"⟩ ⟨"java/lang/String", "length", "()I"⟩ ∈ lw_gd := lw_in (i := 515) (by decide +kernel) (by decide +kernel)
theorem wm_517 : Cond.methodLink "java/lang/String" 335 ⟨"java/lang/String", "coder", "()B"⟩ ∈ lw_gd := lw_in (i := 517) (by decide +kernel) (by decide +kernel)
theorem wm_518 : Cond.instanceMethod ⟨"java/lang/String", "coder", "()B"⟩ ∈ lw_gd := lw_in (i := 518) (by decide +kernel) (by decide +kernel)
theorem wm_519 : Cond.selects "java/lang/String" ⟨"java/lang/String", "coder", "()B"⟩ ⟨"java/lang/String", "coder", "()B"⟩ ∈ lw_gd := lw_in (i := 519) (by decide +kernel) (by decide +kernel)
theorem wm_521 : Cond.fieldLink "java/lang/String" 38 "java/lang/String" "COMPACT_STRINGS" "Z" ∈ lw_gd := lw_in (i := 521) (by decide +kernel) (by decide +kernel)
theorem wm_523 : Cond.methodLink "FencedStates$Reader" 164 ⟨"java/lang/String", "charAt", "(I)C"⟩ ∈ lw_gd := lw_in (i := 523) (by decide +kernel) (by decide +kernel)
theorem wm_524 : Cond.instanceMethod ⟨"java/lang/String", "charAt", "(I)C"⟩ ∈ lw_gd := lw_in (i := 524) (by decide +kernel) (by decide +kernel)
theorem wm_525 : Cond.selects "java/lang/String" ⟨"java/lang/String", "charAt", "(I)C"⟩ ⟨"java/lang/String", "charAt", "(I)C"⟩ ∈ lw_gd := lw_in (i := 525) (by decide +kernel) (by decide +kernel)
theorem wm_527 : Cond.methodLink "java/lang/String" 492 ⟨"java/lang/String", "isLatin1", "()Z"⟩ ∈ lw_gd := lw_in (i := 527) (by decide +kernel) (by decide +kernel)
theorem wm_528 : Cond.instanceMethod ⟨"java/lang/String", "isLatin1", "()Z"⟩ ∈ lw_gd := lw_in (i := 528) (by decide +kernel) (by decide +kernel)
theorem wm_529 : Cond.selects "java/lang/String" ⟨"java/lang/String", "isLatin1", "()Z"⟩ ⟨"java/lang/String", "isLatin1", "()Z"⟩ ∈ lw_gd := lw_in (i := 529) (by decide +kernel) (by decide +kernel)
theorem wm_531 : Cond.methodLink "java/lang/String" 495 ⟨"java/lang/StringLatin1", "charAt", "([BI)C"⟩ ∈ lw_gd := lw_in (i := 531) (by decide +kernel) (by decide +kernel)
theorem wm_532 : Cond.static ⟨"java/lang/StringLatin1", "charAt", "([BI)C"⟩ ∈ lw_gd := lw_in (i := 532) (by decide +kernel) (by decide +kernel)
theorem wm_534 : Cond.methodLink "java/lang/StringLatin1" 9 ⟨"java/lang/String", "checkIndex", "(II)V"⟩ ∈ lw_gd := lw_in (i := 534) (by decide +kernel) (by decide +kernel)
theorem wm_535 : Cond.static ⟨"java/lang/String", "checkIndex", "(II)V"⟩ ∈ lw_gd := lw_in (i := 535) (by decide +kernel) (by decide +kernel)
theorem wm_537 : Cond.fieldLink "java/lang/String" 1053 "jdk/internal/util/Preconditions" "SIOOBE_FORMATTER" "Ljava/util/function/BiFunction;" ∈ lw_gd := lw_in (i := 537) (by decide +kernel) (by decide +kernel)
theorem wm_539 : Cond.methodLink "java/lang/String" 1059 ⟨"jdk/internal/util/Preconditions", "checkIndex", "(IILjava/util/function/BiFunction;)I"⟩ ∈ lw_gd := lw_in (i := 539) (by decide +kernel) (by decide +kernel)
theorem wm_540 : Cond.static ⟨"jdk/internal/util/Preconditions", "checkIndex", "(IILjava/util/function/BiFunction;)I"⟩ ∈ lw_gd := lw_in (i := 540) (by decide +kernel) (by decide +kernel)
theorem wm_564 : Cond.methodLink "FencedStates$Reader" 143 ⟨"FencedStates$Reader", "addToken", "(III)V"⟩ ∈ lw_gd := lw_in (i := 564) (by decide +kernel) (by decide +kernel)
theorem wm_566 : Cond.instanceMethod ⟨"FencedStates$Reader", "addToken", "(III)V"⟩ ∈ lw_gd := lw_in (i := 566) (by decide +kernel) (by decide +kernel)
theorem wm_568 : Cond.methodLink "FencedStates$Reader" 129 ⟨"FencedStates$Reader", "isDigit", "(I)Z"⟩ ∈ lw_gd := lw_in (i := 568) (by decide +kernel) (by decide +kernel)
theorem wm_569 : Cond.static ⟨"FencedStates$Reader", "isDigit", "(I)Z"⟩ ∈ lw_gd := lw_in (i := 569) (by decide +kernel) (by decide +kernel)
theorem wm_571 : Cond.methodLink "FencedStates$Reader" 132 ⟨"FencedStates$Reader", "takeNumber", "([BII)I"⟩ ∈ lw_gd := lw_in (i := 571) (by decide +kernel) (by decide +kernel)
theorem wm_573 : Cond.instanceMethod ⟨"FencedStates$Reader", "takeNumber", "([BII)I"⟩ ∈ lw_gd := lw_in (i := 573) (by decide +kernel) (by decide +kernel)
theorem wm_576 : Cond.methodLink "FencedStates$Reader" 137 ⟨"java/lang/String", "indexOf", "(I)I"⟩ ∈ lw_gd := lw_in (i := 576) (by decide +kernel) (by decide +kernel)
theorem wm_577 : Cond.instanceMethod ⟨"java/lang/String", "indexOf", "(I)I"⟩ ∈ lw_gd := lw_in (i := 577) (by decide +kernel) (by decide +kernel)
theorem wm_578 : Cond.selects "java/lang/String" ⟨"java/lang/String", "indexOf", "(I)I"⟩ ⟨"java/lang/String", "indexOf", "(I)I"⟩ ∈ lw_gd := lw_in (i := 578) (by decide +kernel) (by decide +kernel)
theorem wm_580 : Cond.methodLink "java/lang/String" 633 ⟨"java/lang/String", "indexOf", "(II)I"⟩ ∈ lw_gd := lw_in (i := 580) (by decide +kernel) (by decide +kernel)
theorem wm_581 : Cond.instanceMethod ⟨"java/lang/String", "indexOf", "(II)I"⟩ ∈ lw_gd := lw_in (i := 581) (by decide +kernel) (by decide +kernel)
theorem wm_582 : Cond.selects "java/lang/String" ⟨"java/lang/String", "indexOf", "(II)I"⟩ ⟨"java/lang/String", "indexOf", "(II)I"⟩ ∈ lw_gd := lw_in (i := 582) (by decide +kernel) (by decide +kernel)
theorem wm_584 : Cond.methodLink "java/lang/String" 505 ⟨"java/lang/String", "length", "()I"⟩ ∈ lw_gd := lw_in (i := 584) (by decide +kernel) (by decide +kernel)
theorem wm_585 : Cond.methodLink "java/lang/String" 637 ⟨"java/lang/StringLatin1", "indexOf", "([BIII)I"⟩ ∈ lw_gd := lw_in (i := 585) (by decide +kernel) (by decide +kernel)
theorem wm_586 : Cond.static ⟨"java/lang/StringLatin1", "indexOf", "([BIII)I"⟩ ∈ lw_gd := lw_in (i := 586) (by decide +kernel) (by decide +kernel)
theorem wm_588 : Cond.methodLink "java/lang/StringLatin1" 88 ⟨"java/lang/StringLatin1", "canEncode", "(I)Z"⟩ ∈ lw_gd := lw_in (i := 588) (by decide +kernel) (by decide +kernel)
theorem wm_589 : Cond.static ⟨"java/lang/StringLatin1", "canEncode", "(I)Z"⟩ ∈ lw_gd := lw_in (i := 589) (by decide +kernel) (by decide +kernel)
theorem wm_591 : Cond.methodLink "java/lang/StringLatin1" 92 ⟨"java/lang/Math", "max", "(II)I"⟩ ∈ lw_gd := lw_in (i := 591) (by decide +kernel) (by decide +kernel)
theorem wm_592 : Cond.static ⟨"java/lang/Math", "max", "(II)I"⟩ ∈ lw_gd := lw_in (i := 592) (by decide +kernel) (by decide +kernel)
theorem wm_594 : Cond.methodLink "java/lang/StringLatin1" 38 ⟨"java/lang/Math", "min", "(II)I"⟩ ∈ lw_gd := lw_in (i := 594) (by decide +kernel) (by decide +kernel)
theorem wm_595 : Cond.methodLink "java/lang/StringLatin1" 95 ⟨"java/lang/StringLatin1", "indexOfChar", "([BIII)I"⟩ ∈ lw_gd := lw_in (i := 595) (by decide +kernel) (by decide +kernel)
theorem wm_596 : Cond.static ⟨"java/lang/StringLatin1", "indexOfChar", "([BIII)I"⟩ ∈ lw_gd := lw_in (i := 596) (by decide +kernel) (by decide +kernel)
theorem wm_633 : Cond.methodLink "FencedStates$Reader" 101 ⟨"FencedStates$Reader", "readLetters", "()V"⟩ ∈ lw_gd := lw_in (i := 633) (by decide +kernel) (by decide +kernel)
theorem wm_635 : Cond.instanceMethod ⟨"FencedStates$Reader", "readLetters", "()V"⟩ ∈ lw_gd := lw_in (i := 635) (by decide +kernel) (by decide +kernel)
theorem wm_637 : Cond.methodLink "FencedStates$Reader" 172 ⟨"FencedStates$Reader", "goOn", "()V"⟩ ∈ lw_gd := lw_in (i := 637) (by decide +kernel) (by decide +kernel)
theorem wm_639 : Cond.instanceMethod ⟨"FencedStates$Reader", "goOn", "()V"⟩ ∈ lw_gd := lw_in (i := 639) (by decide +kernel) (by decide +kernel)
theorem wm_641 : Cond.methodLink "FencedStates$Reader" 117 ⟨"FencedStates$Reader", "fail", "(I)V"⟩ ∈ lw_gd := lw_in (i := 641) (by decide +kernel) (by decide +kernel)
theorem wm_643 : Cond.instanceMethod ⟨"FencedStates$Reader", "fail", "(I)V"⟩ ∈ lw_gd := lw_in (i := 643) (by decide +kernel) (by decide +kernel)
theorem wm_645 : Cond.methodLink "FencedStates$Reader" 104 ⟨"FencedStates$Reader", "takeSign", "(C)V"⟩ ∈ lw_gd := lw_in (i := 645) (by decide +kernel) (by decide +kernel)
theorem wm_647 : Cond.instanceMethod ⟨"FencedStates$Reader", "takeSign", "(C)V"⟩ ∈ lw_gd := lw_in (i := 647) (by decide +kernel) (by decide +kernel)
theorem wm_649 : Cond.methodLink "FencedStates$Reader" 168 ⟨"FencedStates$Reader", "isSign", "(C)Z"⟩ ∈ lw_gd := lw_in (i := 649) (by decide +kernel) (by decide +kernel)
theorem wm_651 : Cond.instanceMethod ⟨"FencedStates$Reader", "isSign", "(C)Z"⟩ ∈ lw_gd := lw_in (i := 651) (by decide +kernel) (by decide +kernel)
theorem wm_653 : Cond.methodLink "FencedStates$Reader" 108 ⟨"FencedStates$Reader", "readInit", "()V"⟩ ∈ lw_gd := lw_in (i := 653) (by decide +kernel) (by decide +kernel)
theorem wm_655 : Cond.instanceMethod ⟨"FencedStates$Reader", "readInit", "()V"⟩ ∈ lw_gd := lw_in (i := 655) (by decide +kernel) (by decide +kernel)
theorem wm_657 : Cond.methodLink "FencedStates$Reader" 175 ⟨"FencedStates$Reader", "readForm", "(II)J"⟩ ∈ lw_gd := lw_in (i := 657) (by decide +kernel) (by decide +kernel)
theorem wm_659 : Cond.instanceMethod ⟨"FencedStates$Reader", "readForm", "(II)J"⟩ ∈ lw_gd := lw_in (i := 659) (by decide +kernel) (by decide +kernel)
theorem wm_662 : Cond.methodLink "FencedStates$Reader" 184 ⟨"FencedStates$Reader", "readOne", "(I)J"⟩ ∈ lw_gd := lw_in (i := 662) (by decide +kernel) (by decide +kernel)
theorem wm_664 : Cond.instanceMethod ⟨"FencedStates$Reader", "readOne", "(I)J"⟩ ∈ lw_gd := lw_in (i := 664) (by decide +kernel) (by decide +kernel)
theorem wm_666 : Cond.methodLink "FencedStates$Reader" 188 ⟨"FencedStates$Reader", "readPlain", "()J"⟩ ∈ lw_gd := lw_in (i := 666) (by decide +kernel) (by decide +kernel)
theorem wm_668 : Cond.instanceMethod ⟨"FencedStates$Reader", "readPlain", "()J"⟩ ∈ lw_gd := lw_in (i := 668) (by decide +kernel) (by decide +kernel)
theorem wm_670 : Cond.methodLink "FencedStates$Reader" 194 ⟨"FencedStates$Reader", "faultOf", "(I)I"⟩ ∈ lw_gd := lw_in (i := 670) (by decide +kernel) (by decide +kernel)
theorem wm_671 : Cond.static ⟨"FencedStates$Reader", "faultOf", "(I)I"⟩ ∈ lw_gd := lw_in (i := 671) (by decide +kernel) (by decide +kernel)
theorem wm_673 : Cond.constantLong "FencedStates$Reader" 192 (-1) ∈ lw_gd := lw_in (i := 673) (by decide +kernel) (by decide +kernel)
theorem wm_674 : Cond.methodLink "FencedStates$Reader" 111 ⟨"FencedStates$Reader", "readBad", "()V"⟩ ∈ lw_gd := lw_in (i := 674) (by decide +kernel) (by decide +kernel)
theorem wm_676 : Cond.instanceMethod ⟨"FencedStates$Reader", "readBad", "()V"⟩ ∈ lw_gd := lw_in (i := 676) (by decide +kernel) (by decide +kernel)
theorem wm_678 : Cond.methodLink "FencedStates$Reader" 114 ⟨"FencedStates$Reader", "readNext", "()V"⟩ ∈ lw_gd := lw_in (i := 678) (by decide +kernel) (by decide +kernel)
theorem wm_680 : Cond.instanceMethod ⟨"FencedStates$Reader", "readNext", "()V"⟩ ∈ lw_gd := lw_in (i := 680) (by decide +kernel) (by decide +kernel)
theorem wm_682 : Cond.methodLink "FencedStates$Reader" 179 ⟨"FencedStates$Reader", "readForInputs", "(I)V"⟩ ∈ lw_gd := lw_in (i := 682) (by decide +kernel) (by decide +kernel)
theorem wm_684 : Cond.instanceMethod ⟨"FencedStates$Reader", "readForInputs", "(I)V"⟩ ∈ lw_gd := lw_in (i := 684) (by decide +kernel) (by decide +kernel)
theorem wm_686 : Cond.methodLink "FencedStates" 98 ⟨"FencedStates$Reader", "machine", "()LFencedStates$Machine;"⟩ ∈ lw_gd := lw_in (i := 686) (by decide +kernel) (by decide +kernel)
theorem wm_687 : Cond.instanceMethod ⟨"FencedStates$Reader", "machine", "()LFencedStates$Machine;"⟩ ∈ lw_gd := lw_in (i := 687) (by decide +kernel) (by decide +kernel)
theorem wm_688 : Cond.selects "FencedStates$Reader" ⟨"FencedStates$Reader", "machine", "()LFencedStates$Machine;"⟩ ⟨"FencedStates$Reader", "machine", "()LFencedStates$Machine;"⟩ ∈ lw_gd := lw_in (i := 688) (by decide +kernel) (by decide +kernel)
theorem wm_690 : Cond.methodLink "FencedStates$Reader" 70 ⟨"FencedStates$Sets", "has", "(JI)Z"⟩ ∈ lw_gd := lw_in (i := 690) (by decide +kernel) (by decide +kernel)
theorem wm_691 : Cond.static ⟨"FencedStates$Sets", "has", "(JI)Z"⟩ ∈ lw_gd := lw_in (i := 691) (by decide +kernel) (by decide +kernel)
theorem wm_693 : Cond.classLink "FencedStates$Reader" 76 "FencedStates$Machine" ∈ lw_gd := lw_in (i := 693) (by decide +kernel) (by decide +kernel)
theorem wm_694 : Cond.methodLink "FencedStates$Reader" 78 ⟨"java/lang/Math", "max", "(II)I"⟩ ∈ lw_gd := lw_in (i := 694) (by decide +kernel) (by decide +kernel)
theorem wm_695 : Cond.methodLink "FencedStates$Reader" 84 ⟨"java/util/Arrays", "copyOf", "([JI)[J"⟩ ∈ lw_gd := lw_in (i := 695) (by decide +kernel) (by decide +kernel)
theorem wm_696 : Cond.static ⟨"java/util/Arrays", "copyOf", "([JI)[J"⟩ ∈ lw_gd := lw_in (i := 696) (by decide +kernel) (by decide +kernel)
theorem wm_698 : Cond.methodLink "java/util/Arrays" 319 ⟨"[J", "clone", "()Ljava/lang/Object;"⟩ ∈ lw_gd := lw_in (i := 698) (by decide +kernel) (by decide +kernel)
theorem wm_699 : Cond.sameMethod "[J" "java/lang/Object" "clone" "()Ljava/lang/Object;" ∈ lw_gd := lw_in (i := 699) (by decide +kernel) (by decide +kernel)
theorem wm_700 : Cond.native ⟨"java/lang/Object", "clone", "()Ljava/lang/Object;"⟩ ∈ lw_gd := lw_in (i := 700) (by decide +kernel) (by decide +kernel)
theorem wm_701 : Cond.instanceMethod ⟨"java/lang/Object", "clone", "()Ljava/lang/Object;"⟩ ∈ lw_gd := lw_in (i := 701) (by decide +kernel) (by decide +kernel)
theorem wm_702 : Cond.selects "[J" ⟨"[J", "clone", "()Ljava/lang/Object;"⟩ ⟨"java/lang/Object", "clone", "()Ljava/lang/Object;"⟩ ∈ lw_gd := lw_in (i := 702) (by decide +kernel) (by decide +kernel)
theorem wm_704 : Cond.classLink "java/util/Arrays" 320 "[J" ∈ lw_gd := lw_in (i := 704) (by decide +kernel) (by decide +kernel)
theorem wm_705 : Cond.methodLink "java/util/Arrays" 304 ⟨"java/lang/Math", "min", "(II)I"⟩ ∈ lw_gd := lw_in (i := 705) (by decide +kernel) (by decide +kernel)
theorem wm_706 : Cond.methodLink "java/util/Arrays" 150 ⟨"java/lang/System", "arraycopy", "(Ljava/lang/Object;ILjava/lang/Object;II)V"⟩ ∈ lw_gd := lw_in (i := 706) (by decide +kernel) (by decide +kernel)
theorem wm_707 : Cond.static ⟨"java/lang/System", "arraycopy", "(Ljava/lang/Object;ILjava/lang/Object;II)V"⟩ ∈ lw_gd := lw_in (i := 707) (by decide +kernel) (by decide +kernel)
theorem wm_708 : Cond.native ⟨"java/lang/System", "arraycopy", "(Ljava/lang/Object;ILjava/lang/Object;II)V"⟩ ∈ lw_gd := lw_in (i := 708) (by decide +kernel) (by decide +kernel)
theorem wm_709 : Cond.methodLink "FencedStates$Reader" 88 ⟨"FencedStates$Machine", "<init>", "(I[IJ[J)V"⟩ ∈ lw_gd := lw_in (i := 709) (by decide +kernel) (by decide +kernel)
theorem wm_710 : Cond.methodLink "FencedStates" 101 ⟨"FencedStates$World", "addText", "(LFencedStates$Machine;)I"⟩ ∈ lw_gd := lw_in (i := 710) (by decide +kernel) (by decide +kernel)
theorem wm_711 : Cond.instanceMethod ⟨"FencedStates$World", "addText", "(LFencedStates$Machine;)I"⟩ ∈ lw_gd := lw_in (i := 711) (by decide +kernel) (by decide +kernel)
theorem wm_712 : Cond.selects "FencedStates$World" ⟨"FencedStates$World", "addText", "(LFencedStates$Machine;)I"⟩ ⟨"FencedStates$World", "addText", "(LFencedStates$Machine;)I"⟩ ∈ lw_gd := lw_in (i := 712) (by decide +kernel) (by decide +kernel)
theorem wm_722 : Cond.methodLink "FencedStates" 105 ⟨"FencedStates$World", "textAt", "(I)LFencedStates$Machine;"⟩ ∈ lw_gd := lw_in (i := 722) (by decide +kernel) (by decide +kernel)
theorem wm_723 : Cond.instanceMethod ⟨"FencedStates$World", "textAt", "(I)LFencedStates$Machine;"⟩ ∈ lw_gd := lw_in (i := 723) (by decide +kernel) (by decide +kernel)
theorem wm_724 : Cond.selects "FencedStates$World" ⟨"FencedStates$World", "textAt", "(I)LFencedStates$Machine;"⟩ ⟨"FencedStates$World", "textAt", "(I)LFencedStates$Machine;"⟩ ∈ lw_gd := lw_in (i := 724) (by decide +kernel) (by decide +kernel)
theorem wm_726 : Cond.methodLink "FencedStates" 109 ⟨"FencedStates$World", "remember", "()V"⟩ ∈ lw_gd := lw_in (i := 726) (by decide +kernel) (by decide +kernel)
theorem wm_727 : Cond.instanceMethod ⟨"FencedStates$World", "remember", "()V"⟩ ∈ lw_gd := lw_in (i := 727) (by decide +kernel) (by decide +kernel)
theorem wm_728 : Cond.selects "FencedStates$World" ⟨"FencedStates$World", "remember", "()V"⟩ ⟨"FencedStates$World", "remember", "()V"⟩ ∈ lw_gd := lw_in (i := 728) (by decide +kernel) (by decide +kernel)
theorem wm_730 : Cond.methodLink "FencedStates$World" 37 ⟨"FencedStates$Search", "become", "(LFencedStates$Search;)V"⟩ ∈ lw_gd := lw_in (i := 730) (by decide +kernel) (by decide +kernel)
theorem wm_731 : Cond.instanceMethod ⟨"FencedStates$Search", "become", "(LFencedStates$Search;)V"⟩ ∈ lw_gd := lw_in (i := 731) (by decide +kernel) (by decide +kernel)
theorem wm_732 : Cond.selects "FencedStates$Search" ⟨"FencedStates$Search", "become", "(LFencedStates$Search;)V"⟩ ⟨"FencedStates$Search", "become", "(LFencedStates$Search;)V"⟩ ∈ lw_gd := lw_in (i := 732) (by decide +kernel) (by decide +kernel)
theorem wm_734 : Cond.methodLink "FencedStates$Search" 70 ⟨"FencedStates$CubeRow", "become", "(LFencedStates$CubeRow;)V"⟩ ∈ lw_gd := lw_in (i := 734) (by decide +kernel) (by decide +kernel)
theorem wm_735 : Cond.instanceMethod ⟨"FencedStates$CubeRow", "become", "(LFencedStates$CubeRow;)V"⟩ ∈ lw_gd := lw_in (i := 735) (by decide +kernel) (by decide +kernel)
theorem wm_736 : Cond.selects "FencedStates$CubeRow" ⟨"FencedStates$CubeRow", "become", "(LFencedStates$CubeRow;)V"⟩ ⟨"FencedStates$CubeRow", "become", "(LFencedStates$CubeRow;)V"⟩ ∈ lw_gd := lw_in (i := 736) (by decide +kernel) (by decide +kernel)
theorem wm_738 : Cond.methodLink "FencedStates$CubeRow" 24 ⟨"FencedStates$CubeRow", "makeRoom", "(I)V"⟩ ∈ lw_gd := lw_in (i := 738) (by decide +kernel) (by decide +kernel)
theorem wm_740 : Cond.instanceMethod ⟨"FencedStates$CubeRow", "makeRoom", "(I)V"⟩ ∈ lw_gd := lw_in (i := 740) (by decide +kernel) (by decide +kernel)
theorem wm_742 : Cond.methodLink "FencedStates$CubeRow" 41 ⟨"java/util/Arrays", "copyOf", "([II)[I"⟩ ∈ lw_gd := lw_in (i := 742) (by decide +kernel) (by decide +kernel)
theorem wm_743 : Cond.static ⟨"java/util/Arrays", "copyOf", "([II)[I"⟩ ∈ lw_gd := lw_in (i := 743) (by decide +kernel) (by decide +kernel)
theorem wm_745 : Cond.methodLink "java/util/Arrays" 316 ⟨"[I", "clone", "()Ljava/lang/Object;"⟩ ∈ lw_gd := lw_in (i := 745) (by decide +kernel) (by decide +kernel)
theorem wm_746 : Cond.sameMethod "[I" "java/lang/Object" "clone" "()Ljava/lang/Object;" ∈ lw_gd := lw_in (i := 746) (by decide +kernel) (by decide +kernel)
theorem wm_747 : Cond.selects "[I" ⟨"[I", "clone", "()Ljava/lang/Object;"⟩ ⟨"java/lang/Object", "clone", "()Ljava/lang/Object;"⟩ ∈ lw_gd := lw_in (i := 747) (by decide +kernel) (by decide +kernel)
theorem wm_749 : Cond.classLink "java/util/Arrays" 317 "[I" ∈ lw_gd := lw_in (i := 749) (by decide +kernel) (by decide +kernel)
theorem wm_750 : Cond.methodLink "FencedStates$CubeRow" 47 ⟨"java/util/Arrays", "copyOf", "([JI)[J"⟩ ∈ lw_gd := lw_in (i := 750) (by decide +kernel) (by decide +kernel)
theorem wm_751 : Cond.methodLink "FencedStates$CubeRow" 28 ⟨"java/lang/System", "arraycopy", "(Ljava/lang/Object;ILjava/lang/Object;II)V"⟩ ∈ lw_gd := lw_in (i := 751) (by decide +kernel) (by decide +kernel)
theorem wm_752 : Cond.methodLink "FencedStates$Search" 74 ⟨"FencedStates$Obligations", "become", "(LFencedStates$Obligations;)V"⟩ ∈ lw_gd := lw_in (i := 752) (by decide +kernel) (by decide +kernel)
theorem wm_753 : Cond.instanceMethod ⟨"FencedStates$Obligations", "become", "(LFencedStates$Obligations;)V"⟩ ∈ lw_gd := lw_in (i := 753) (by decide +kernel) (by decide +kernel)
theorem wm_754 : Cond.selects "FencedStates$Obligations" ⟨"FencedStates$Obligations", "become", "(LFencedStates$Obligations;)V"⟩ ⟨"FencedStates$Obligations", "become", "(LFencedStates$Obligations;)V"⟩ ∈ lw_gd := lw_in (i := 754) (by decide +kernel) (by decide +kernel)
theorem wm_756 : Cond.methodLink "FencedStates$Obligations" 19 ⟨"FencedStates$Obligations", "makeRoom", "(I)V"⟩ ∈ lw_gd := lw_in (i := 756) (by decide +kernel) (by decide +kernel)
theorem wm_758 : Cond.instanceMethod ⟨"FencedStates$Obligations", "makeRoom", "(I)V"⟩ ∈ lw_gd := lw_in (i := 758) (by decide +kernel) (by decide +kernel)
theorem wm_760 : Cond.methodLink "FencedStates$Obligations" 29 ⟨"java/util/Arrays", "copyOf", "([II)[I"⟩ ∈ lw_gd := lw_in (i := 760) (by decide +kernel) (by decide +kernel)
theorem wm_761 : Cond.methodLink "FencedStates$Obligations" 23 ⟨"java/lang/System", "arraycopy", "(Ljava/lang/Object;ILjava/lang/Object;II)V"⟩ ∈ lw_gd := lw_in (i := 761) (by decide +kernel) (by decide +kernel)
theorem wm_762 : Cond.methodLink "FencedStates$Search" 77 ⟨"FencedStates$Activities", "become", "(LFencedStates$Activities;)V"⟩ ∈ lw_gd := lw_in (i := 762) (by decide +kernel) (by decide +kernel)
theorem wm_763 : Cond.instanceMethod ⟨"FencedStates$Activities", "become", "(LFencedStates$Activities;)V"⟩ ∈ lw_gd := lw_in (i := 763) (by decide +kernel) (by decide +kernel)
theorem wm_764 : Cond.selects "FencedStates$Activities" ⟨"FencedStates$Activities", "become", "(LFencedStates$Activities;)V"⟩ ⟨"FencedStates$Activities", "become", "(LFencedStates$Activities;)V"⟩ ∈ lw_gd := lw_in (i := 764) (by decide +kernel) (by decide +kernel)
theorem wm_766 : Cond.methodLink "FencedStates$Activities" 25 ⟨"java/lang/System", "arraycopy", "(Ljava/lang/Object;ILjava/lang/Object;II)V"⟩ ∈ lw_gd := lw_in (i := 766) (by decide +kernel) (by decide +kernel)
theorem wm_767 : Cond.methodLink "FencedStates" 115 ⟨"FencedStates$Search", "begin", "(LFencedStates$Machine;)V"⟩ ∈ lw_gd := lw_in (i := 767) (by decide +kernel) (by decide +kernel)
theorem wm_768 : Cond.instanceMethod ⟨"FencedStates$Search", "begin", "(LFencedStates$Machine;)V"⟩ ∈ lw_gd := lw_in (i := 768) (by decide +kernel) (by decide +kernel)
theorem wm_769 : Cond.selects "FencedStates$Search" ⟨"FencedStates$Search", "begin", "(LFencedStates$Machine;)V"⟩ ⟨"FencedStates$Search", "begin", "(LFencedStates$Machine;)V"⟩ ∈ lw_gd := lw_in (i := 769) (by decide +kernel) (by decide +kernel)
theorem wm_771 : Cond.methodLink "FencedStates$Search" 84 ⟨"FencedStates$Activities", "clear", "()V"⟩ ∈ lw_gd := lw_in (i := 771) (by decide +kernel) (by decide +kernel)
theorem wm_772 : Cond.instanceMethod ⟨"FencedStates$Activities", "clear", "()V"⟩ ∈ lw_gd := lw_in (i := 772) (by decide +kernel) (by decide +kernel)
theorem wm_773 : Cond.selects "FencedStates$Activities" ⟨"FencedStates$Activities", "clear", "()V"⟩ ⟨"FencedStates$Activities", "clear", "()V"⟩ ∈ lw_gd := lw_in (i := 773) (by decide +kernel) (by decide +kernel)
theorem wm_775 : Cond.methodLink "FencedStates$Activities" 19 ⟨"java/util/Arrays", "fill", "([FF)V"⟩ ∈ lw_gd := lw_in (i := 775) (by decide +kernel) (by decide +kernel)
theorem wm_776 : Cond.static ⟨"java/util/Arrays", "fill", "([FF)V"⟩ ∈ lw_gd := lw_in (i := 776) (by decide +kernel) (by decide +kernel)
theorem wm_782 : Cond.methodLink "FencedStates" 121 ⟨"FencedStates$Machine", "bySeed", "(II)LFencedStates$Machine;"⟩ ∈ lw_gd := lw_in (i := 782) (by decide +kernel) (by decide +kernel)
theorem wm_783 : Cond.static ⟨"FencedStates$Machine", "bySeed", "(II)LFencedStates$Machine;"⟩ ∈ lw_gd := lw_in (i := 783) (by decide +kernel) (by decide +kernel)
theorem wm_789 : Cond.methodLink "FencedStates" 128 ⟨"FencedStates$Machine", "hasAim", "(I)Z"⟩ ∈ lw_gd := lw_in (i := 789) (by decide +kernel) (by decide +kernel)
theorem wm_790 : Cond.instanceMethod ⟨"FencedStates$Machine", "hasAim", "(I)Z"⟩ ∈ lw_gd := lw_in (i := 790) (by decide +kernel) (by decide +kernel)
theorem wm_791 : Cond.selects "FencedStates$Machine" ⟨"FencedStates$Machine", "hasAim", "(I)Z"⟩ ⟨"FencedStates$Machine", "hasAim", "(I)Z"⟩ ∈ lw_gd := lw_in (i := 791) (by decide +kernel) (by decide +kernel)
theorem wm_793 : Cond.methodLink "FencedStates" 132 ⟨"FencedStates$Search", "tellAim", "(I)V"⟩ ∈ lw_gd := lw_in (i := 793) (by decide +kernel) (by decide +kernel)
theorem wm_794 : Cond.instanceMethod ⟨"FencedStates$Search", "tellAim", "(I)V"⟩ ∈ lw_gd := lw_in (i := 794) (by decide +kernel) (by decide +kernel)
theorem wm_795 : Cond.selects "FencedStates$Search" ⟨"FencedStates$Search", "tellAim", "(I)V"⟩ ⟨"FencedStates$Search", "tellAim", "(I)V"⟩ ∈ lw_gd := lw_in (i := 795) (by decide +kernel) (by decide +kernel)
theorem wm_797 : Cond.methodLink "FencedStates$Search" 87 ⟨"FencedStates$CubeRow", "highestFrame", "()I"⟩ ∈ lw_gd := lw_in (i := 797) (by decide +kernel) (by decide +kernel)
theorem wm_798 : Cond.instanceMethod ⟨"FencedStates$CubeRow", "highestFrame", "()I"⟩ ∈ lw_gd := lw_in (i := 798) (by decide +kernel) (by decide +kernel)
theorem wm_799 : Cond.selects "FencedStates$CubeRow" ⟨"FencedStates$CubeRow", "highestFrame", "()I"⟩ ⟨"FencedStates$CubeRow", "highestFrame", "()I"⟩ ∈ lw_gd := lw_in (i := 799) (by decide +kernel) (by decide +kernel)
theorem wm_801 : Cond.methodLink "FencedStates$Search" 91 ⟨"java/lang/Math", "max", "(II)I"⟩ ∈ lw_gd := lw_in (i := 801) (by decide +kernel) (by decide +kernel)
theorem wm_810 : Cond.methodLink "FencedStates" 138 ⟨"FencedStates$Machine", "hasCube", "(II)Z"⟩ ∈ lw_gd := lw_in (i := 810) (by decide +kernel) (by decide +kernel)
theorem wm_811 : Cond.instanceMethod ⟨"FencedStates$Machine", "hasCube", "(II)Z"⟩ ∈ lw_gd := lw_in (i := 811) (by decide +kernel) (by decide +kernel)
theorem wm_812 : Cond.selects "FencedStates$Machine" ⟨"FencedStates$Machine", "hasCube", "(II)Z"⟩ ⟨"FencedStates$Machine", "hasCube", "(II)Z"⟩ ∈ lw_gd := lw_in (i := 812) (by decide +kernel) (by decide +kernel)
theorem wm_814 : Cond.methodLink "FencedStates" 142 ⟨"FencedStates$Cubes", "cubeOf", "(II)I"⟩ ∈ lw_gd := lw_in (i := 814) (by decide +kernel) (by decide +kernel)
theorem wm_815 : Cond.static ⟨"FencedStates$Cubes", "cubeOf", "(II)I"⟩ ∈ lw_gd := lw_in (i := 815) (by decide +kernel) (by decide +kernel)
theorem wm_817 : Cond.methodLink "FencedStates" 148 ⟨"FencedStates$Search", "canBar", "(II)Z"⟩ ∈ lw_gd := lw_in (i := 817) (by decide +kernel) (by decide +kernel)
theorem wm_818 : Cond.instanceMethod ⟨"FencedStates$Search", "canBar", "(II)Z"⟩ ∈ lw_gd := lw_in (i := 818) (by decide +kernel) (by decide +kernel)
theorem wm_819 : Cond.selects "FencedStates$Search" ⟨"FencedStates$Search", "canBar", "(II)Z"⟩ ⟨"FencedStates$Search", "canBar", "(II)Z"⟩ ∈ lw_gd := lw_in (i := 819) (by decide +kernel) (by decide +kernel)
theorem wm_821 : Cond.methodLink "FencedStates$Search" 143 ⟨"FencedStates$Search", "hasCubeFrame", "(I)Z"⟩ ∈ lw_gd := lw_in (i := 821) (by decide +kernel) (by decide +kernel)
theorem wm_822 : Cond.instanceMethod ⟨"FencedStates$Search", "hasCubeFrame", "(I)Z"⟩ ∈ lw_gd := lw_in (i := 822) (by decide +kernel) (by decide +kernel)
theorem wm_823 : Cond.selects "FencedStates$Search" ⟨"FencedStates$Search", "hasCubeFrame", "(I)Z"⟩ ⟨"FencedStates$Search", "hasCubeFrame", "(I)Z"⟩ ∈ lw_gd := lw_in (i := 823) (by decide +kernel) (by decide +kernel)
theorem wm_825 : Cond.methodLink "FencedStates$Search" 146 ⟨"FencedStates$Search", "hasInit", "(I)Z"⟩ ∈ lw_gd := lw_in (i := 825) (by decide +kernel) (by decide +kernel)
theorem wm_826 : Cond.instanceMethod ⟨"FencedStates$Search", "hasInit", "(I)Z"⟩ ∈ lw_gd := lw_in (i := 826) (by decide +kernel) (by decide +kernel)
theorem wm_827 : Cond.selects "FencedStates$Search" ⟨"FencedStates$Search", "hasInit", "(I)Z"⟩ ⟨"FencedStates$Search", "hasInit", "(I)Z"⟩ ∈ lw_gd := lw_in (i := 827) (by decide +kernel) (by decide +kernel)
theorem wm_829 : Cond.methodLink "FencedStates$Search" 134 ⟨"FencedStates$Cubes", "statesOf", "(I)J"⟩ ∈ lw_gd := lw_in (i := 829) (by decide +kernel) (by decide +kernel)
theorem wm_830 : Cond.static ⟨"FencedStates$Cubes", "statesOf", "(I)J"⟩ ∈ lw_gd := lw_in (i := 830) (by decide +kernel) (by decide +kernel)
theorem wm_832 : Cond.methodLink "FencedStates$Cubes" 9 ⟨"FencedStates$Cubes", "maskOf", "(I)I"⟩ ∈ lw_gd := lw_in (i := 832) (by decide +kernel) (by decide +kernel)
theorem wm_833 : Cond.static ⟨"FencedStates$Cubes", "maskOf", "(I)I"⟩ ∈ lw_gd := lw_in (i := 833) (by decide +kernel) (by decide +kernel)
theorem wm_835 : Cond.methodLink "FencedStates$Cubes" 15 ⟨"FencedStates$Cubes", "bitsOf", "(I)I"⟩ ∈ lw_gd := lw_in (i := 835) (by decide +kernel) (by decide +kernel)
theorem wm_836 : Cond.static ⟨"FencedStates$Cubes", "bitsOf", "(I)I"⟩ ∈ lw_gd := lw_in (i := 836) (by decide +kernel) (by decide +kernel)
theorem wm_838 : Cond.constantLong "FencedStates$Cubes" 22 (-1) ∈ lw_gd := lw_in (i := 838) (by decide +kernel) (by decide +kernel)
theorem wm_840 : Cond.methodLink "FencedStates$Search" 128 ⟨"FencedStates$Search", "statesWithin", "(I)J"⟩ ∈ lw_gd := lw_in (i := 840) (by decide +kernel) (by decide +kernel)
theorem wm_841 : Cond.instanceMethod ⟨"FencedStates$Search", "statesWithin", "(I)J"⟩ ∈ lw_gd := lw_in (i := 841) (by decide +kernel) (by decide +kernel)
theorem wm_842 : Cond.selects "FencedStates$Search" ⟨"FencedStates$Search", "statesWithin", "(I)J"⟩ ⟨"FencedStates$Search", "statesWithin", "(I)J"⟩ ∈ lw_gd := lw_in (i := 842) (by decide +kernel) (by decide +kernel)
theorem wm_844 : Cond.methodLink "FencedStates$Search" 114 ⟨"FencedStates$CubeRow", "startOf", "(I)I"⟩ ∈ lw_gd := lw_in (i := 844) (by decide +kernel) (by decide +kernel)
theorem wm_845 : Cond.instanceMethod ⟨"FencedStates$CubeRow", "startOf", "(I)I"⟩ ∈ lw_gd := lw_in (i := 845) (by decide +kernel) (by decide +kernel)
theorem wm_846 : Cond.selects "FencedStates$CubeRow" ⟨"FencedStates$CubeRow", "startOf", "(I)I"⟩ ⟨"FencedStates$CubeRow", "startOf", "(I)I"⟩ ∈ lw_gd := lw_in (i := 846) (by decide +kernel) (by decide +kernel)
theorem wm_848 : Cond.methodLink "FencedStates$Search" 118 ⟨"FencedStates$CubeRow", "unionFrom", "(I)J"⟩ ∈ lw_gd := lw_in (i := 848) (by decide +kernel) (by decide +kernel)
theorem wm_849 : Cond.instanceMethod ⟨"FencedStates$CubeRow", "unionFrom", "(I)J"⟩ ∈ lw_gd := lw_in (i := 849) (by decide +kernel) (by decide +kernel)
theorem wm_850 : Cond.selects "FencedStates$CubeRow" ⟨"FencedStates$CubeRow", "unionFrom", "(I)J"⟩ ⟨"FencedStates$CubeRow", "unionFrom", "(I)J"⟩ ∈ lw_gd := lw_in (i := 850) (by decide +kernel) (by decide +kernel)
theorem wm_852 : Cond.constantLong "FencedStates$Search" 122 (-1) ∈ lw_gd := lw_in (i := 852) (by decide +kernel) (by decide +kernel)
theorem wm_853 : Cond.methodLink "FencedStates$Search" 149 ⟨"FencedStates$Search", "keepsOut", "(IJ)Z"⟩ ∈ lw_gd := lw_in (i := 853) (by decide +kernel) (by decide +kernel)
theorem wm_854 : Cond.instanceMethod ⟨"FencedStates$Search", "keepsOut", "(IJ)Z"⟩ ∈ lw_gd := lw_in (i := 854) (by decide +kernel) (by decide +kernel)
theorem wm_855 : Cond.selects "FencedStates$Search" ⟨"FencedStates$Search", "keepsOut", "(IJ)Z"⟩ ⟨"FencedStates$Search", "keepsOut", "(IJ)Z"⟩ ∈ lw_gd := lw_in (i := 855) (by decide +kernel) (by decide +kernel)
theorem wm_857 : Cond.methodLink "FencedStates$Search" 139 ⟨"FencedStates$Machine", "before", "(J)J"⟩ ∈ lw_gd := lw_in (i := 857) (by decide +kernel) (by decide +kernel)
theorem wm_858 : Cond.instanceMethod ⟨"FencedStates$Machine", "before", "(J)J"⟩ ∈ lw_gd := lw_in (i := 858) (by decide +kernel) (by decide +kernel)
theorem wm_859 : Cond.selects "FencedStates$Machine" ⟨"FencedStates$Machine", "before", "(J)J"⟩ ⟨"FencedStates$Machine", "before", "(J)J"⟩ ∈ lw_gd := lw_in (i := 859) (by decide +kernel) (by decide +kernel)
theorem wm_861 : Cond.methodLink "FencedStates" 154 ⟨"FencedStates$CubeRow", "putLast", "(II)V"⟩ ∈ lw_gd := lw_in (i := 861) (by decide +kernel) (by decide +kernel)
theorem wm_862 : Cond.instanceMethod ⟨"FencedStates$CubeRow", "putLast", "(II)V"⟩ ∈ lw_gd := lw_in (i := 862) (by decide +kernel) (by decide +kernel)
theorem wm_863 : Cond.selects "FencedStates$CubeRow" ⟨"FencedStates$CubeRow", "putLast", "(II)V"⟩ ⟨"FencedStates$CubeRow", "putLast", "(II)V"⟩ ∈ lw_gd := lw_in (i := 863) (by decide +kernel) (by decide +kernel)
theorem wm_865 : Cond.methodLink "FencedStates$CubeRow" 63 ⟨"FencedStates$Cubes", "liesIn", "(II)Z"⟩ ∈ lw_gd := lw_in (i := 865) (by decide +kernel) (by decide +kernel)
theorem wm_866 : Cond.static ⟨"FencedStates$Cubes", "liesIn", "(II)Z"⟩ ∈ lw_gd := lw_in (i := 866) (by decide +kernel) (by decide +kernel)
theorem wm_868 : Cond.methodLink "FencedStates$CubeRow" 50 ⟨"FencedStates$CubeRow", "startOf", "(I)I"⟩ ∈ lw_gd := lw_in (i := 868) (by decide +kernel) (by decide +kernel)
theorem wm_869 : Cond.methodLink "FencedStates$CubeRow" 67 ⟨"FencedStates$CubeRow", "insert", "(III)V"⟩ ∈ lw_gd := lw_in (i := 869) (by decide +kernel) (by decide +kernel)
theorem wm_871 : Cond.instanceMethod ⟨"FencedStates$CubeRow", "insert", "(III)V"⟩ ∈ lw_gd := lw_in (i := 871) (by decide +kernel) (by decide +kernel)
theorem wm_873 : Cond.methodLink "FencedStates$CubeRow" 71 ⟨"FencedStates$Cubes", "statesOf", "(I)J"⟩ ∈ lw_gd := lw_in (i := 873) (by decide +kernel) (by decide +kernel)
theorem wm_874 : Cond.methodLink "FencedStates" 158 ⟨"FencedStates$CubeRow", "countOf", "(I)I"⟩ ∈ lw_gd := lw_in (i := 874) (by decide +kernel) (by decide +kernel)
theorem wm_875 : Cond.instanceMethod ⟨"FencedStates$CubeRow", "countOf", "(I)I"⟩ ∈ lw_gd := lw_in (i := 875) (by decide +kernel) (by decide +kernel)
theorem wm_876 : Cond.selects "FencedStates$CubeRow" ⟨"FencedStates$CubeRow", "countOf", "(I)I"⟩ ⟨"FencedStates$CubeRow", "countOf", "(I)I"⟩ ∈ lw_gd := lw_in (i := 876) (by decide +kernel) (by decide +kernel)
theorem wm_882 : Cond.methodLink "FencedStates" 162 ⟨"FencedStates$Search", "isOver", "()Z"⟩ ∈ lw_gd := lw_in (i := 882) (by decide +kernel) (by decide +kernel)
theorem wm_883 : Cond.instanceMethod ⟨"FencedStates$Search", "isOver", "()Z"⟩ ∈ lw_gd := lw_in (i := 883) (by decide +kernel) (by decide +kernel)
theorem wm_884 : Cond.selects "FencedStates$Search" ⟨"FencedStates$Search", "isOver", "()Z"⟩ ⟨"FencedStates$Search", "isOver", "()Z"⟩ ∈ lw_gd := lw_in (i := 884) (by decide +kernel) (by decide +kernel)
theorem wm_886 : Cond.methodLink "FencedStates" 166 ⟨"FencedStates$Search", "goOn", "(I)I"⟩ ∈ lw_gd := lw_in (i := 886) (by decide +kernel) (by decide +kernel)
theorem wm_887 : Cond.instanceMethod ⟨"FencedStates$Search", "goOn", "(I)I"⟩ ∈ lw_gd := lw_in (i := 887) (by decide +kernel) (by decide +kernel)
theorem wm_888 : Cond.selects "FencedStates$Search" ⟨"FencedStates$Search", "goOn", "(I)I"⟩ ⟨"FencedStates$Search", "goOn", "(I)I"⟩ ∈ lw_gd := lw_in (i := 888) (by decide +kernel) (by decide +kernel)
theorem wm_890 : Cond.methodLink "FencedStates$Search" 178 ⟨"FencedStates$Search", "isOver", "()Z"⟩ ∈ lw_gd := lw_in (i := 890) (by decide +kernel) (by decide +kernel)
theorem wm_891 : Cond.methodLink "FencedStates$Search" 182 ⟨"FencedStates$Search", "seek", "()V"⟩ ∈ lw_gd := lw_in (i := 891) (by decide +kernel) (by decide +kernel)
theorem wm_893 : Cond.instanceMethod ⟨"FencedStates$Search", "seek", "()V"⟩ ∈ lw_gd := lw_in (i := 893) (by decide +kernel) (by decide +kernel)
theorem wm_895 : Cond.methodLink "FencedStates$Search" 191 ⟨"FencedStates$Search", "soughtStates", "()J"⟩ ∈ lw_gd := lw_in (i := 895) (by decide +kernel) (by decide +kernel)
theorem wm_896 : Cond.instanceMethod ⟨"FencedStates$Search", "soughtStates", "()J"⟩ ∈ lw_gd := lw_in (i := 896) (by decide +kernel) (by decide +kernel)
theorem wm_897 : Cond.selects "FencedStates$Search" ⟨"FencedStates$Search", "soughtStates", "()J"⟩ ⟨"FencedStates$Search", "soughtStates", "()J"⟩ ∈ lw_gd := lw_in (i := 897) (by decide +kernel) (by decide +kernel)
theorem wm_899 : Cond.methodLink "FencedStates$Search" 131 ⟨"FencedStates$Search", "badWithin", "(I)J"⟩ ∈ lw_gd := lw_in (i := 899) (by decide +kernel) (by decide +kernel)
theorem wm_900 : Cond.instanceMethod ⟨"FencedStates$Search", "badWithin", "(I)J"⟩ ∈ lw_gd := lw_in (i := 900) (by decide +kernel) (by decide +kernel)
theorem wm_901 : Cond.selects "FencedStates$Search" ⟨"FencedStates$Search", "badWithin", "(I)J"⟩ ⟨"FencedStates$Search", "badWithin", "(I)J"⟩ ∈ lw_gd := lw_in (i := 901) (by decide +kernel) (by decide +kernel)
theorem wm_903 : Cond.methodLink "FencedStates$Search" 124 ⟨"FencedStates$Search", "aimStates", "()J"⟩ ∈ lw_gd := lw_in (i := 903) (by decide +kernel) (by decide +kernel)
theorem wm_904 : Cond.instanceMethod ⟨"FencedStates$Search", "aimStates", "()J"⟩ ∈ lw_gd := lw_in (i := 904) (by decide +kernel) (by decide +kernel)
theorem wm_905 : Cond.selects "FencedStates$Search" ⟨"FencedStates$Search", "aimStates", "()J"⟩ ⟨"FencedStates$Search", "aimStates", "()J"⟩ ∈ lw_gd := lw_in (i := 905) (by decide +kernel) (by decide +kernel)
theorem wm_907 : Cond.methodLink "FencedStates$Search" 97 ⟨"FencedStates$Machine", "hasAim", "(I)Z"⟩ ∈ lw_gd := lw_in (i := 907) (by decide +kernel) (by decide +kernel)
theorem wm_908 : Cond.methodLink "FencedStates$Search" 194 ⟨"FencedStates$Sets", "has", "(JI)Z"⟩ ∈ lw_gd := lw_in (i := 908) (by decide +kernel) (by decide +kernel)
theorem wm_909 : Cond.methodLink "FencedStates$Search" 198 ⟨"FencedStates$Obligations", "add", "(IIII)V"⟩ ∈ lw_gd := lw_in (i := 909) (by decide +kernel) (by decide +kernel)
theorem wm_910 : Cond.instanceMethod ⟨"FencedStates$Obligations", "add", "(IIII)V"⟩ ∈ lw_gd := lw_in (i := 910) (by decide +kernel) (by decide +kernel)
theorem wm_911 : Cond.selects "FencedStates$Obligations" ⟨"FencedStates$Obligations", "add", "(IIII)V"⟩ ⟨"FencedStates$Obligations", "add", "(IIII)V"⟩ ∈ lw_gd := lw_in (i := 911) (by decide +kernel) (by decide +kernel)
theorem wm_913 : Cond.methodLink "FencedStates$Obligations" 35 ⟨"FencedStates$Obligations", "comesFirst", "(III)Z"⟩ ∈ lw_gd := lw_in (i := 913) (by decide +kernel) (by decide +kernel)
theorem wm_915 : Cond.instanceMethod ⟨"FencedStates$Obligations", "comesFirst", "(III)Z"⟩ ∈ lw_gd := lw_in (i := 915) (by decide +kernel) (by decide +kernel)
theorem wm_917 : Cond.methodLink "FencedStates$Obligations" 39 ⟨"FencedStates$Obligations", "part", "(II)I"⟩ ∈ lw_gd := lw_in (i := 917) (by decide +kernel) (by decide +kernel)
theorem wm_918 : Cond.instanceMethod ⟨"FencedStates$Obligations", "part", "(II)I"⟩ ∈ lw_gd := lw_in (i := 918) (by decide +kernel) (by decide +kernel)
theorem wm_919 : Cond.selects "FencedStates$Obligations" ⟨"FencedStates$Obligations", "part", "(II)I"⟩ ⟨"FencedStates$Obligations", "part", "(II)I"⟩ ∈ lw_gd := lw_in (i := 919) (by decide +kernel) (by decide +kernel)
theorem wm_921 : Cond.methodLink "FencedStates$Search" 185 ⟨"FencedStates$Search", "oblige", "()V"⟩ ∈ lw_gd := lw_in (i := 921) (by decide +kernel) (by decide +kernel)
theorem wm_923 : Cond.instanceMethod ⟨"FencedStates$Search", "oblige", "()V"⟩ ∈ lw_gd := lw_in (i := 923) (by decide +kernel) (by decide +kernel)
theorem wm_925 : Cond.methodLink "FencedStates$Search" 202 ⟨"FencedStates$Obligations", "part", "(II)I"⟩ ∈ lw_gd := lw_in (i := 925) (by decide +kernel) (by decide +kernel)
theorem wm_926 : Cond.methodLink "FencedStates$Search" 205 ⟨"FencedStates$Obligations", "dropFirst", "()V"⟩ ∈ lw_gd := lw_in (i := 926) (by decide +kernel) (by decide +kernel)
theorem wm_927 : Cond.instanceMethod ⟨"FencedStates$Obligations", "dropFirst", "()V"⟩ ∈ lw_gd := lw_in (i := 927) (by decide +kernel) (by decide +kernel)
theorem wm_928 : Cond.selects "FencedStates$Obligations" ⟨"FencedStates$Obligations", "dropFirst", "()V"⟩ ⟨"FencedStates$Obligations", "dropFirst", "()V"⟩ ∈ lw_gd := lw_in (i := 928) (by decide +kernel) (by decide +kernel)
theorem wm_930 : Cond.methodLink "FencedStates$Search" 208 ⟨"FencedStates$Search", "meet", "(II)V"⟩ ∈ lw_gd := lw_in (i := 930) (by decide +kernel) (by decide +kernel)
theorem wm_932 : Cond.instanceMethod ⟨"FencedStates$Search", "meet", "(II)V"⟩ ∈ lw_gd := lw_in (i := 932) (by decide +kernel) (by decide +kernel)
theorem wm_934 : Cond.methodLink "FencedStates$Search" 212 ⟨"FencedStates$Search", "lowestAhead", "(II)I"⟩ ∈ lw_gd := lw_in (i := 934) (by decide +kernel) (by decide +kernel)
theorem wm_935 : Cond.instanceMethod ⟨"FencedStates$Search", "lowestAhead", "(II)I"⟩ ∈ lw_gd := lw_in (i := 935) (by decide +kernel) (by decide +kernel)
theorem wm_936 : Cond.selects "FencedStates$Search" ⟨"FencedStates$Search", "lowestAhead", "(II)I"⟩ ⟨"FencedStates$Search", "lowestAhead", "(II)I"⟩ ∈ lw_gd := lw_in (i := 936) (by decide +kernel) (by decide +kernel)
theorem wm_938 : Cond.methodLink "FencedStates$Search" 153 ⟨"FencedStates$Machine", "leadingTo", "(I)J"⟩ ∈ lw_gd := lw_in (i := 938) (by decide +kernel) (by decide +kernel)
theorem wm_939 : Cond.instanceMethod ⟨"FencedStates$Machine", "leadingTo", "(I)J"⟩ ∈ lw_gd := lw_in (i := 939) (by decide +kernel) (by decide +kernel)
theorem wm_940 : Cond.selects "FencedStates$Machine" ⟨"FencedStates$Machine", "leadingTo", "(I)J"⟩ ⟨"FencedStates$Machine", "leadingTo", "(I)J"⟩ ∈ lw_gd := lw_in (i := 940) (by decide +kernel) (by decide +kernel)
theorem wm_942 : Cond.methodLink "FencedStates$Search" 156 ⟨"FencedStates$Sets", "lowest", "(J)I"⟩ ∈ lw_gd := lw_in (i := 942) (by decide +kernel) (by decide +kernel)
theorem wm_943 : Cond.static ⟨"FencedStates$Sets", "lowest", "(J)I"⟩ ∈ lw_gd := lw_in (i := 943) (by decide +kernel) (by decide +kernel)
theorem wm_945 : Cond.methodLink "FencedStates$Sets" 9 ⟨"java/lang/Long", "numberOfTrailingZeros", "(J)I"⟩ ∈ lw_gd := lw_in (i := 945) (by decide +kernel) (by decide +kernel)
theorem wm_946 : Cond.static ⟨"java/lang/Long", "numberOfTrailingZeros", "(J)I"⟩ ∈ lw_gd := lw_in (i := 946) (by decide +kernel) (by decide +kernel)
theorem wm_948 : Cond.methodLink "java/lang/Long" 311 ⟨"java/lang/Integer", "numberOfTrailingZeros", "(I)I"⟩ ∈ lw_gd := lw_in (i := 948) (by decide +kernel) (by decide +kernel)
theorem wm_949 : Cond.static ⟨"java/lang/Integer", "numberOfTrailingZeros", "(I)I"⟩ ∈ lw_gd := lw_in (i := 949) (by decide +kernel) (by decide +kernel)
theorem wm_951 : Cond.constant "java/lang/Integer" 264 65536 ∈ lw_gd := lw_in (i := 951) (by decide +kernel) (by decide +kernel)
theorem wm_952 : Cond.methodLink "FencedStates$Search" 215 ⟨"FencedStates$Search", "widen", "(IIZ)I"⟩ ∈ lw_gd := lw_in (i := 952) (by decide +kernel) (by decide +kernel)
theorem wm_953 : Cond.instanceMethod ⟨"FencedStates$Search", "widen", "(IIZ)I"⟩ ∈ lw_gd := lw_in (i := 953) (by decide +kernel) (by decide +kernel)
theorem wm_954 : Cond.selects "FencedStates$Search" ⟨"FencedStates$Search", "widen", "(IIZ)I"⟩ ⟨"FencedStates$Search", "widen", "(IIZ)I"⟩ ∈ lw_gd := lw_in (i := 954) (by decide +kernel) (by decide +kernel)
theorem wm_956 : Cond.methodLink "FencedStates$Search" 165 ⟨"FencedStates$Cubes", "cubeOf", "(II)I"⟩ ∈ lw_gd := lw_in (i := 956) (by decide +kernel) (by decide +kernel)
theorem wm_957 : Cond.methodLink "FencedStates$Search" 171 ⟨"FencedStates$Activities", "letterAt", "(III)I"⟩ ∈ lw_gd := lw_in (i := 957) (by decide +kernel) (by decide +kernel)
theorem wm_958 : Cond.instanceMethod ⟨"FencedStates$Activities", "letterAt", "(III)I"⟩ ∈ lw_gd := lw_in (i := 958) (by decide +kernel) (by decide +kernel)
theorem wm_959 : Cond.selects "FencedStates$Activities" ⟨"FencedStates$Activities", "letterAt", "(III)I"⟩ ⟨"FencedStates$Activities", "letterAt", "(III)I"⟩ ∈ lw_gd := lw_in (i := 959) (by decide +kernel) (by decide +kernel)
theorem wm_961 : Cond.methodLink "FencedStates$Activities" 37 ⟨"FencedStates$Activities", "rankOf", "(III)I"⟩ ∈ lw_gd := lw_in (i := 961) (by decide +kernel) (by decide +kernel)
theorem wm_963 : Cond.instanceMethod ⟨"FencedStates$Activities", "rankOf", "(III)I"⟩ ∈ lw_gd := lw_in (i := 963) (by decide +kernel) (by decide +kernel)
theorem wm_965 : Cond.methodLink "FencedStates$Activities" 41 ⟨"FencedStates$Activities", "valueOf", "(I)F"⟩ ∈ lw_gd := lw_in (i := 965) (by decide +kernel) (by decide +kernel)
theorem wm_966 : Cond.instanceMethod ⟨"FencedStates$Activities", "valueOf", "(I)F"⟩ ∈ lw_gd := lw_in (i := 966) (by decide +kernel) (by decide +kernel)
theorem wm_967 : Cond.selects "FencedStates$Activities" ⟨"FencedStates$Activities", "valueOf", "(I)F"⟩ ⟨"FencedStates$Activities", "valueOf", "(I)F"⟩ ∈ lw_gd := lw_in (i := 967) (by decide +kernel) (by decide +kernel)
theorem wm_969 : Cond.methodLink "FencedStates$Search" 175 ⟨"FencedStates$Cubes", "without", "(II)I"⟩ ∈ lw_gd := lw_in (i := 969) (by decide +kernel) (by decide +kernel)
theorem wm_970 : Cond.static ⟨"FencedStates$Cubes", "without", "(II)I"⟩ ∈ lw_gd := lw_in (i := 970) (by decide +kernel) (by decide +kernel)
theorem wm_972 : Cond.methodLink "FencedStates$Cubes" 18 ⟨"FencedStates$Cubes", "cubeOf", "(II)I"⟩ ∈ lw_gd := lw_in (i := 972) (by decide +kernel) (by decide +kernel)
theorem wm_973 : Cond.methodLink "FencedStates$Search" 219 ⟨"FencedStates$Search", "highestFor", "(II)I"⟩ ∈ lw_gd := lw_in (i := 973) (by decide +kernel) (by decide +kernel)
theorem wm_975 : Cond.instanceMethod ⟨"FencedStates$Search", "highestFor", "(II)I"⟩ ∈ lw_gd := lw_in (i := 975) (by decide +kernel) (by decide +kernel)
theorem wm_977 : Cond.methodLink "FencedStates$Search" 222 ⟨"FencedStates$CubeRow", "putLast", "(II)V"⟩ ∈ lw_gd := lw_in (i := 977) (by decide +kernel) (by decide +kernel)
theorem wm_978 : Cond.methodLink "FencedStates$Search" 225 ⟨"FencedStates$Cubes", "maskOf", "(I)I"⟩ ∈ lw_gd := lw_in (i := 978) (by decide +kernel) (by decide +kernel)
theorem wm_979 : Cond.methodLink "FencedStates$Search" 228 ⟨"FencedStates$Activities", "raise", "(I)V"⟩ ∈ lw_gd := lw_in (i := 979) (by decide +kernel) (by decide +kernel)
theorem wm_980 : Cond.instanceMethod ⟨"FencedStates$Activities", "raise", "(I)V"⟩ ∈ lw_gd := lw_in (i := 980) (by decide +kernel) (by decide +kernel)
theorem wm_981 : Cond.selects "FencedStates$Activities" ⟨"FencedStates$Activities", "raise", "(I)V"⟩ ⟨"FencedStates$Activities", "raise", "(I)V"⟩ ∈ lw_gd := lw_in (i := 981) (by decide +kernel) (by decide +kernel)
theorem wm_983 : Cond.constantFloat "FencedStates$Activities" 31 (1148846080 : UInt32) ∈ lw_gd := lw_in (i := 983) (by decide +kernel) (by decide +kernel)
theorem wm_984 : Cond.constantFloat "FencedStates$Activities" 32 (1069547520 : UInt32) ∈ lw_gd := lw_in (i := 984) (by decide +kernel) (by decide +kernel)
theorem wm_985 : Cond.methodLink "FencedStates$Activities" 33 ⟨"FencedStates$Activities", "lower", "()V"⟩ ∈ lw_gd := lw_in (i := 985) (by decide +kernel) (by decide +kernel)
theorem wm_987 : Cond.instanceMethod ⟨"FencedStates$Activities", "lower", "()V"⟩ ∈ lw_gd := lw_in (i := 987) (by decide +kernel) (by decide +kernel)
theorem wm_989 : Cond.constantFloat "FencedStates$Activities" 36 (981668463 : UInt32) ∈ lw_gd := lw_in (i := 989) (by decide +kernel) (by decide +kernel)
theorem wm_990 : Cond.methodLink "FencedStates$Search" 188 ⟨"FencedStates$Search", "push", "()V"⟩ ∈ lw_gd := lw_in (i := 990) (by decide +kernel) (by decide +kernel)
theorem wm_992 : Cond.instanceMethod ⟨"FencedStates$Search", "push", "()V"⟩ ∈ lw_gd := lw_in (i := 992) (by decide +kernel) (by decide +kernel)
theorem wm_994 : Cond.methodLink "FencedStates$Search" 232 ⟨"FencedStates$CubeRow", "isOf", "(II)Z"⟩ ∈ lw_gd := lw_in (i := 994) (by decide +kernel) (by decide +kernel)
theorem wm_995 : Cond.instanceMethod ⟨"FencedStates$CubeRow", "isOf", "(II)Z"⟩ ∈ lw_gd := lw_in (i := 995) (by decide +kernel) (by decide +kernel)
theorem wm_996 : Cond.selects "FencedStates$CubeRow" ⟨"FencedStates$CubeRow", "isOf", "(II)Z"⟩ ⟨"FencedStates$CubeRow", "isOf", "(II)Z"⟩ ∈ lw_gd := lw_in (i := 996) (by decide +kernel) (by decide +kernel)
theorem wm_998 : Cond.methodLink "FencedStates$Search" 236 ⟨"FencedStates$CubeRow", "cubeAt", "(I)I"⟩ ∈ lw_gd := lw_in (i := 998) (by decide +kernel) (by decide +kernel)
theorem wm_999 : Cond.instanceMethod ⟨"FencedStates$CubeRow", "cubeAt", "(I)I"⟩ ∈ lw_gd := lw_in (i := 999) (by decide +kernel) (by decide +kernel)
theorem wm_1000 : Cond.selects "FencedStates$CubeRow" ⟨"FencedStates$CubeRow", "cubeAt", "(I)I"⟩ ⟨"FencedStates$CubeRow", "cubeAt", "(I)I"⟩ ∈ lw_gd := lw_in (i := 1000) (by decide +kernel) (by decide +kernel)
theorem wm_1002 : Cond.methodLink "FencedStates$Search" 239 ⟨"FencedStates$CubeRow", "countOf", "(I)I"⟩ ∈ lw_gd := lw_in (i := 1002) (by decide +kernel) (by decide +kernel)
theorem wm_1007 : Cond.methodLink "FencedStates" 169 ⟨"FencedStates$World", "takeBack", "()I"⟩ ∈ lw_gd := lw_in (i := 1007) (by decide +kernel) (by decide +kernel)
theorem wm_1008 : Cond.instanceMethod ⟨"FencedStates$World", "takeBack", "()I"⟩ ∈ lw_gd := lw_in (i := 1008) (by decide +kernel) (by decide +kernel)
theorem wm_1009 : Cond.selects "FencedStates$World" ⟨"FencedStates$World", "takeBack", "()I"⟩ ⟨"FencedStates$World", "takeBack", "()I"⟩ ∈ lw_gd := lw_in (i := 1009) (by decide +kernel) (by decide +kernel)
theorem wm_1019 : Cond.methodLink "FencedStates" 212 ⟨"FencedStates$Machine", "hasState", "(I)Z"⟩ ∈ lw_gd := lw_in (i := 1019) (by decide +kernel) (by decide +kernel)
theorem wm_1020 : Cond.instanceMethod ⟨"FencedStates$Machine", "hasState", "(I)Z"⟩ ∈ lw_gd := lw_in (i := 1020) (by decide +kernel) (by decide +kernel)
theorem wm_1021 : Cond.selects "FencedStates$Machine" ⟨"FencedStates$Machine", "hasState", "(I)Z"⟩ ⟨"FencedStates$Machine", "hasState", "(I)Z"⟩ ∈ lw_gd := lw_in (i := 1021) (by decide +kernel) (by decide +kernel)
theorem wm_1023 : Cond.methodLink "FencedStates" 215 ⟨"FencedStates$Machine", "next", "(II)I"⟩ ∈ lw_gd := lw_in (i := 1023) (by decide +kernel) (by decide +kernel)
theorem wm_1024 : Cond.instanceMethod ⟨"FencedStates$Machine", "next", "(II)I"⟩ ∈ lw_gd := lw_in (i := 1024) (by decide +kernel) (by decide +kernel)
theorem wm_1025 : Cond.selects "FencedStates$Machine" ⟨"FencedStates$Machine", "next", "(II)I"⟩ ⟨"FencedStates$Machine", "next", "(II)I"⟩ ∈ lw_gd := lw_in (i := 1025) (by decide +kernel) (by decide +kernel)
theorem wm_1031 : Cond.methodLink "FencedStates" 218 ⟨"FencedStates$Machine", "leadingTo", "(I)J"⟩ ∈ lw_gd := lw_in (i := 1031) (by decide +kernel) (by decide +kernel)
theorem wm_1032 : Cond.methodLink "FencedStates" 222 ⟨"FencedStates", "countOrState", "(JI)I"⟩ ∈ lw_gd := lw_in (i := 1032) (by decide +kernel) (by decide +kernel)
theorem wm_1033 : Cond.static ⟨"FencedStates", "countOrState", "(JI)I"⟩ ∈ lw_gd := lw_in (i := 1033) (by decide +kernel) (by decide +kernel)
theorem wm_1035 : Cond.methodLink "FencedStates" 226 ⟨"java/lang/Long", "bitCount", "(J)I"⟩ ∈ lw_gd := lw_in (i := 1035) (by decide +kernel) (by decide +kernel)
theorem wm_1036 : Cond.static ⟨"java/lang/Long", "bitCount", "(J)I"⟩ ∈ lw_gd := lw_in (i := 1036) (by decide +kernel) (by decide +kernel)
theorem wm_1038 : Cond.constantLong "java/lang/Long" 314 6148914691236517205 ∈ lw_gd := lw_in (i := 1038) (by decide +kernel) (by decide +kernel)
theorem wm_1039 : Cond.constantLong "java/lang/Long" 316 3689348814741910323 ∈ lw_gd := lw_in (i := 1039) (by decide +kernel) (by decide +kernel)
theorem wm_1040 : Cond.constantLong "java/lang/Long" 318 1085102592571150095 ∈ lw_gd := lw_in (i := 1040) (by decide +kernel) (by decide +kernel)
theorem wm_1041 : Cond.methodLink "FencedStates" 232 ⟨"FencedStates$Sets", "stateAt", "(JI)I"⟩ ∈ lw_gd := lw_in (i := 1041) (by decide +kernel) (by decide +kernel)
theorem wm_1042 : Cond.static ⟨"FencedStates$Sets", "stateAt", "(JI)I"⟩ ∈ lw_gd := lw_in (i := 1042) (by decide +kernel) (by decide +kernel)
theorem wm_1044 : Cond.methodLink "FencedStates$Sets" 15 ⟨"FencedStates$Sets", "has", "(JI)Z"⟩ ∈ lw_gd := lw_in (i := 1044) (by decide +kernel) (by decide +kernel)
theorem wm_1049 : Cond.methodLink "FencedStates" 241 ⟨"FencedStates$Sets", "has", "(JI)Z"⟩ ∈ lw_gd := lw_in (i := 1049) (by decide +kernel) (by decide +kernel)
theorem wm_1054 : Cond.methodLink "FencedStates" 245 ⟨"FencedStates$Search", "hasFrame", "(I)Z"⟩ ∈ lw_gd := lw_in (i := 1054) (by decide +kernel) (by decide +kernel)
theorem wm_1055 : Cond.instanceMethod ⟨"FencedStates$Search", "hasFrame", "(I)Z"⟩ ∈ lw_gd := lw_in (i := 1055) (by decide +kernel) (by decide +kernel)
theorem wm_1056 : Cond.selects "FencedStates$Search" ⟨"FencedStates$Search", "hasFrame", "(I)Z"⟩ ⟨"FencedStates$Search", "hasFrame", "(I)Z"⟩ ∈ lw_gd := lw_in (i := 1056) (by decide +kernel) (by decide +kernel)
theorem wm_1058 : Cond.methodLink "FencedStates" 248 ⟨"FencedStates$Search", "statesWithin", "(I)J"⟩ ∈ lw_gd := lw_in (i := 1058) (by decide +kernel) (by decide +kernel)
theorem wm_1067 : Cond.methodLink "FencedStates" 251 ⟨"FencedStates$Search", "badWithin", "(I)J"⟩ ∈ lw_gd := lw_in (i := 1067) (by decide +kernel) (by decide +kernel)
theorem wm_1072 : Cond.methodLink "FencedStates" 254 ⟨"FencedStates$Search", "soughtStates", "()J"⟩ ∈ lw_gd := lw_in (i := 1072) (by decide +kernel) (by decide +kernel)
theorem wm_1077 : Cond.methodLink "FencedStates" 258 ⟨"FencedStates$Search", "hasCubeFrame", "(I)Z"⟩ ∈ lw_gd := lw_in (i := 1077) (by decide +kernel) (by decide +kernel)
theorem wm_1078 : Cond.methodLink "FencedStates" 261 ⟨"FencedStates$CubeRow", "lettersOf", "(I)I"⟩ ∈ lw_gd := lw_in (i := 1078) (by decide +kernel) (by decide +kernel)
theorem wm_1079 : Cond.instanceMethod ⟨"FencedStates$CubeRow", "lettersOf", "(I)I"⟩ ∈ lw_gd := lw_in (i := 1079) (by decide +kernel) (by decide +kernel)
theorem wm_1080 : Cond.selects "FencedStates$CubeRow" ⟨"FencedStates$CubeRow", "lettersOf", "(I)I"⟩ ⟨"FencedStates$CubeRow", "lettersOf", "(I)I"⟩ ∈ lw_gd := lw_in (i := 1080) (by decide +kernel) (by decide +kernel)
theorem wm_1082 : Cond.methodLink "FencedStates$CubeRow" 53 ⟨"FencedStates$Cubes", "maskOf", "(I)I"⟩ ∈ lw_gd := lw_in (i := 1082) (by decide +kernel) (by decide +kernel)
theorem wm_1083 : Cond.methodLink "FencedStates$CubeRow" 58 ⟨"java/lang/Integer", "bitCount", "(I)I"⟩ ∈ lw_gd := lw_in (i := 1083) (by decide +kernel) (by decide +kernel)
theorem wm_1084 : Cond.static ⟨"java/lang/Integer", "bitCount", "(I)I"⟩ ∈ lw_gd := lw_in (i := 1084) (by decide +kernel) (by decide +kernel)
theorem wm_1086 : Cond.constant "java/lang/Integer" 265 1431655765 ∈ lw_gd := lw_in (i := 1086) (by decide +kernel) (by decide +kernel)
theorem wm_1087 : Cond.constant "java/lang/Integer" 266 858993459 ∈ lw_gd := lw_in (i := 1087) (by decide +kernel) (by decide +kernel)
theorem wm_1088 : Cond.constant "java/lang/Integer" 267 252645135 ∈ lw_gd := lw_in (i := 1088) (by decide +kernel) (by decide +kernel)
theorem wm_1093 : Cond.methodLink "FencedStates" 264 ⟨"FencedStates$CubeRow", "startOf", "(I)I"⟩ ∈ lw_gd := lw_in (i := 1093) (by decide +kernel) (by decide +kernel)
theorem wm_1094 : Cond.methodLink "FencedStates" 267 ⟨"FencedStates", "cubePart", "(LFencedStates$CubeRow;IIII)I"⟩ ∈ lw_gd := lw_in (i := 1094) (by decide +kernel) (by decide +kernel)
theorem wm_1095 : Cond.static ⟨"FencedStates", "cubePart", "(LFencedStates$CubeRow;IIII)I"⟩ ∈ lw_gd := lw_in (i := 1095) (by decide +kernel) (by decide +kernel)
theorem wm_1097 : Cond.methodLink "FencedStates" 271 ⟨"FencedStates$CubeRow", "cubeAt", "(I)I"⟩ ∈ lw_gd := lw_in (i := 1097) (by decide +kernel) (by decide +kernel)
theorem wm_1098 : Cond.methodLink "FencedStates" 274 ⟨"FencedStates$Cubes", "maskOf", "(I)I"⟩ ∈ lw_gd := lw_in (i := 1098) (by decide +kernel) (by decide +kernel)
theorem wm_1099 : Cond.methodLink "FencedStates" 277 ⟨"FencedStates$Cubes", "bitsOf", "(I)I"⟩ ∈ lw_gd := lw_in (i := 1099) (by decide +kernel) (by decide +kernel)
theorem wm_1104 : Cond.methodLink "FencedStates" 280 ⟨"FencedStates$Obligations", "part", "(II)I"⟩ ∈ lw_gd := lw_in (i := 1104) (by decide +kernel) (by decide +kernel)
theorem wm_1109 : Cond.methodLink "FencedStates" 283 ⟨"FencedStates$Obligations", "fillChain", "([I)I"⟩ ∈ lw_gd := lw_in (i := 1109) (by decide +kernel) (by decide +kernel)
theorem wm_1110 : Cond.instanceMethod ⟨"FencedStates$Obligations", "fillChain", "([I)I"⟩ ∈ lw_gd := lw_in (i := 1110) (by decide +kernel) (by decide +kernel)
theorem wm_1111 : Cond.selects "FencedStates$Obligations" ⟨"FencedStates$Obligations", "fillChain", "([I)I"⟩ ⟨"FencedStates$Obligations", "fillChain", "([I)I"⟩ ∈ lw_gd := lw_in (i := 1111) (by decide +kernel) (by decide +kernel)
theorem wm_1113 : Cond.methodLink "FencedStates$Obligations" 43 ⟨"FencedStates$Obligations", "placeOf", "(I)I"⟩ ∈ lw_gd := lw_in (i := 1113) (by decide +kernel) (by decide +kernel)
theorem wm_1115 : Cond.instanceMethod ⟨"FencedStates$Obligations", "placeOf", "(I)I"⟩ ∈ lw_gd := lw_in (i := 1115) (by decide +kernel) (by decide +kernel)
theorem wm_1117 : Cond.methodLink "FencedStates" 287 ⟨"FencedStates", "pathPart", "(III)I"⟩ ∈ lw_gd := lw_in (i := 1117) (by decide +kernel) (by decide +kernel)
theorem wm_1119 : Cond.instanceMethod ⟨"FencedStates", "pathPart", "(III)I"⟩ ∈ lw_gd := lw_in (i := 1119) (by decide +kernel) (by decide +kernel)
theorem wm_1121 : Cond.methodLink "FencedStates" 291 ⟨"FencedStates$Machine", "inputBetween", "(II)I"⟩ ∈ lw_gd := lw_in (i := 1121) (by decide +kernel) (by decide +kernel)
theorem wm_1122 : Cond.instanceMethod ⟨"FencedStates$Machine", "inputBetween", "(II)I"⟩ ∈ lw_gd := lw_in (i := 1122) (by decide +kernel) (by decide +kernel)
theorem wm_1123 : Cond.selects "FencedStates$Machine" ⟨"FencedStates$Machine", "inputBetween", "(II)I"⟩ ⟨"FencedStates$Machine", "inputBetween", "(II)I"⟩ ∈ lw_gd := lw_in (i := 1123) (by decide +kernel) (by decide +kernel)
theorem wm_1125 : Cond.methodLink "FencedStates$Machine" 41 ⟨"FencedStates$Machine", "next", "(II)I"⟩ ∈ lw_gd := lw_in (i := 1125) (by decide +kernel) (by decide +kernel)
theorem wm_1130 : Cond.methodLink "FencedStates" 295 ⟨"FencedStates$Search", "fenceStart", "()I"⟩ ∈ lw_gd := lw_in (i := 1130) (by decide +kernel) (by decide +kernel)
theorem wm_1131 : Cond.instanceMethod ⟨"FencedStates$Search", "fenceStart", "()I"⟩ ∈ lw_gd := lw_in (i := 1131) (by decide +kernel) (by decide +kernel)
theorem wm_1132 : Cond.selects "FencedStates$Search" ⟨"FencedStates$Search", "fenceStart", "()I"⟩ ⟨"FencedStates$Search", "fenceStart", "()I"⟩ ∈ lw_gd := lw_in (i := 1132) (by decide +kernel) (by decide +kernel)
theorem wm_1138 : Cond.methodLink "FencedStates" 308 ⟨"FencedStates$FloatBits", "ofFloat", "(F)I"⟩ ∈ lw_gd := lw_in (i := 1138) (by decide +kernel) (by decide +kernel)
theorem wm_1139 : Cond.static ⟨"FencedStates$FloatBits", "ofFloat", "(F)I"⟩ ∈ lw_gd := lw_in (i := 1139) (by decide +kernel) (by decide +kernel)
theorem wm_1141 : Cond.constantFloat "FencedStates$FloatBits" 9 (1258291200 : UInt32) ∈ lw_gd := lw_in (i := 1141) (by decide +kernel) (by decide +kernel)
theorem wm_1142 : Cond.constant "FencedStates$FloatBits" 10 8388608 ∈ lw_gd := lw_in (i := 1142) (by decide +kernel) (by decide +kernel)
theorem wm_1143 : Cond.methodLink "FencedStates" 314 ⟨"FencedStates$Activities", "valueOf", "(I)F"⟩ ∈ lw_gd := lw_in (i := 1143) (by decide +kernel) (by decide +kernel)
theorem wm_1148 : Cond.methodLink "FencedStates" 318 ⟨"FencedStates$Activities", "letterAt", "(III)I"⟩ ∈ lw_gd := lw_in (i := 1148) (by decide +kernel) (by decide +kernel)
theorem wm_1153 : Cond.methodLink "FencedStates" 321 ⟨"FencedStates$Search", "keepsOut", "(IJ)Z"⟩ ∈ lw_gd := lw_in (i := 1153) (by decide +kernel) (by decide +kernel)
theorem wm_1158 : Cond.methodLink "FencedStates" 325 ⟨"FencedStates$Search", "lowestAhead", "(II)I"⟩ ∈ lw_gd := lw_in (i := 1158) (by decide +kernel) (by decide +kernel)
theorem wm_1159 : Cond.methodLink "FencedStates" 328 ⟨"FencedStates$Search", "widen", "(IIZ)I"⟩ ∈ lw_gd := lw_in (i := 1159) (by decide +kernel) (by decide +kernel)
theorem wm_1168 : Cond.methodLink "FencedStates" 332 ⟨"FencedStates", "distanceBy", "(II)I"⟩ ∈ lw_gd := lw_in (i := 1168) (by decide +kernel) (by decide +kernel)
theorem wm_1169 : Cond.instanceMethod ⟨"FencedStates", "distanceBy", "(II)I"⟩ ∈ lw_gd := lw_in (i := 1169) (by decide +kernel) (by decide +kernel)
theorem wm_1170 : Cond.selects "FencedStates" ⟨"FencedStates", "distanceBy", "(II)I"⟩ ⟨"FencedStates", "distanceBy", "(II)I"⟩ ∈ lw_gd := lw_in (i := 1170) (by decide +kernel) (by decide +kernel)
theorem wm_1172 : Cond.methodLink "FencedStates" 335 ⟨"FencedStates$Machine", "stepsTo", "(JI)I"⟩ ∈ lw_gd := lw_in (i := 1172) (by decide +kernel) (by decide +kernel)
theorem wm_1173 : Cond.instanceMethod ⟨"FencedStates$Machine", "stepsTo", "(JI)I"⟩ ∈ lw_gd := lw_in (i := 1173) (by decide +kernel) (by decide +kernel)
theorem wm_1174 : Cond.selects "FencedStates$Machine" ⟨"FencedStates$Machine", "stepsTo", "(JI)I"⟩ ⟨"FencedStates$Machine", "stepsTo", "(JI)I"⟩ ∈ lw_gd := lw_in (i := 1174) (by decide +kernel) (by decide +kernel)
theorem wm_1176 : Cond.methodLink "FencedStates$Machine" 45 ⟨"FencedStates$Machine", "after", "(JI)J"⟩ ∈ lw_gd := lw_in (i := 1176) (by decide +kernel) (by decide +kernel)
theorem wm_1177 : Cond.instanceMethod ⟨"FencedStates$Machine", "after", "(JI)J"⟩ ∈ lw_gd := lw_in (i := 1177) (by decide +kernel) (by decide +kernel)
theorem wm_1178 : Cond.selects "FencedStates$Machine" ⟨"FencedStates$Machine", "after", "(JI)J"⟩ ⟨"FencedStates$Machine", "after", "(JI)J"⟩ ∈ lw_gd := lw_in (i := 1178) (by decide +kernel) (by decide +kernel)
theorem wm_1185 : Cond.methodLink "FencedStates" 338 ⟨"FencedStates$Search", "aimStates", "()J"⟩ ∈ lw_gd := lw_in (i := 1185) (by decide +kernel) (by decide +kernel)
theorem wm_1186 : Cond.methodLink "FencedStates" 341 ⟨"FencedStates$Machine", "stepsBetween", "(JJ)I"⟩ ∈ lw_gd := lw_in (i := 1186) (by decide +kernel) (by decide +kernel)
theorem wm_1187 : Cond.instanceMethod ⟨"FencedStates$Machine", "stepsBetween", "(JJ)I"⟩ ∈ lw_gd := lw_in (i := 1187) (by decide +kernel) (by decide +kernel)
theorem wm_1188 : Cond.selects "FencedStates$Machine" ⟨"FencedStates$Machine", "stepsBetween", "(JJ)I"⟩ ⟨"FencedStates$Machine", "stepsBetween", "(JJ)I"⟩ ∈ lw_gd := lw_in (i := 1188) (by decide +kernel) (by decide +kernel)
theorem wm_1190 : Cond.methodLink "FencedStates$Machine" 49 ⟨"FencedStates$Machine", "before", "(J)J"⟩ ∈ lw_gd := lw_in (i := 1190) (by decide +kernel) (by decide +kernel)
theorem wm_1195 : Cond.methodLink "FencedStates" 345 ⟨"FencedStates$Machine", "comingTo", "(JI)J"⟩ ∈ lw_gd := lw_in (i := 1195) (by decide +kernel) (by decide +kernel)
theorem wm_1196 : Cond.instanceMethod ⟨"FencedStates$Machine", "comingTo", "(JI)J"⟩ ∈ lw_gd := lw_in (i := 1196) (by decide +kernel) (by decide +kernel)
theorem wm_1197 : Cond.selects "FencedStates$Machine" ⟨"FencedStates$Machine", "comingTo", "(JI)J"⟩ ⟨"FencedStates$Machine", "comingTo", "(JI)J"⟩ ∈ lw_gd := lw_in (i := 1197) (by decide +kernel) (by decide +kernel)
theorem wm_1203 : Cond.methodLink "FencedStates" 349 ⟨"FencedStates$Machine", "fillShortest", "(J[J[I)I"⟩ ∈ lw_gd := lw_in (i := 1203) (by decide +kernel) (by decide +kernel)
theorem wm_1204 : Cond.instanceMethod ⟨"FencedStates$Machine", "fillShortest", "(J[J[I)I"⟩ ∈ lw_gd := lw_in (i := 1204) (by decide +kernel) (by decide +kernel)
theorem wm_1205 : Cond.selects "FencedStates$Machine" ⟨"FencedStates$Machine", "fillShortest", "(J[J[I)I"⟩ ⟨"FencedStates$Machine", "fillShortest", "(J[J[I)I"⟩ ∈ lw_gd := lw_in (i := 1205) (by decide +kernel) (by decide +kernel)
theorem wm_1207 : Cond.methodLink "FencedStates$Machine" 53 ⟨"FencedStates$Machine", "fillFars", "(J[J)I"⟩ ∈ lw_gd := lw_in (i := 1207) (by decide +kernel) (by decide +kernel)
theorem wm_1209 : Cond.instanceMethod ⟨"FencedStates$Machine", "fillFars", "(J[J)I"⟩ ∈ lw_gd := lw_in (i := 1209) (by decide +kernel) (by decide +kernel)
theorem wm_1211 : Cond.methodLink "FencedStates$Machine" 57 ⟨"FencedStates$Sets", "lowest", "(J)I"⟩ ∈ lw_gd := lw_in (i := 1211) (by decide +kernel) (by decide +kernel)
theorem wm_1224 : Cond.methodLink "FencedStates" 353 ⟨"FencedStates$Machine", "comeToBy", "(I)J"⟩ ∈ lw_gd := lw_in (i := 1224) (by decide +kernel) (by decide +kernel)
theorem wm_1225 : Cond.instanceMethod ⟨"FencedStates$Machine", "comeToBy", "(I)J"⟩ ∈ lw_gd := lw_in (i := 1225) (by decide +kernel) (by decide +kernel)
theorem wm_1226 : Cond.selects "FencedStates$Machine" ⟨"FencedStates$Machine", "comeToBy", "(I)J"⟩ ⟨"FencedStates$Machine", "comeToBy", "(I)J"⟩ ∈ lw_gd := lw_in (i := 1226) (by decide +kernel) (by decide +kernel)
theorem wm_1232 : Cond.constantLong "FencedStates" 356 (-1) ∈ lw_gd := lw_in (i := 1232) (by decide +kernel) (by decide +kernel)
theorem wm_1237 : Cond.methodLink "FencedStates" 361 ⟨"FencedStates$CubeRow", "append", "(I)V"⟩ ∈ lw_gd := lw_in (i := 1237) (by decide +kernel) (by decide +kernel)
theorem wm_1238 : Cond.instanceMethod ⟨"FencedStates$CubeRow", "append", "(I)V"⟩ ∈ lw_gd := lw_in (i := 1238) (by decide +kernel) (by decide +kernel)
theorem wm_1239 : Cond.selects "FencedStates$CubeRow" ⟨"FencedStates$CubeRow", "append", "(I)V"⟩ ⟨"FencedStates$CubeRow", "append", "(I)V"⟩ ∈ lw_gd := lw_in (i := 1239) (by decide +kernel) (by decide +kernel)
theorem wm_1245 : Cond.methodLink "FencedStates" 364 ⟨"FencedStates$CubeRow", "takeFrom", "(LFencedStates$CubeRow;I)V"⟩ ∈ lw_gd := lw_in (i := 1245) (by decide +kernel) (by decide +kernel)
theorem wm_1246 : Cond.instanceMethod ⟨"FencedStates$CubeRow", "takeFrom", "(LFencedStates$CubeRow;I)V"⟩ ∈ lw_gd := lw_in (i := 1246) (by decide +kernel) (by decide +kernel)
theorem wm_1247 : Cond.selects "FencedStates$CubeRow" ⟨"FencedStates$CubeRow", "takeFrom", "(LFencedStates$CubeRow;I)V"⟩ ⟨"FencedStates$CubeRow", "takeFrom", "(LFencedStates$CubeRow;I)V"⟩ ∈ lw_gd := lw_in (i := 1247) (by decide +kernel) (by decide +kernel)
theorem wm_1249 : Cond.methodLink "FencedStates$CubeRow" 34 ⟨"FencedStates$CubeRow", "cubeAt", "(I)I"⟩ ∈ lw_gd := lw_in (i := 1249) (by decide +kernel) (by decide +kernel)
theorem wm_1250 : Cond.methodLink "FencedStates$CubeRow" 38 ⟨"FencedStates$CubeRow", "append", "(I)V"⟩ ∈ lw_gd := lw_in (i := 1250) (by decide +kernel) (by decide +kernel)
theorem wm_1255 : Cond.methodLink "FencedStates" 368 ⟨"FencedStates$CubeRow", "removeAt", "(I)V"⟩ ∈ lw_gd := lw_in (i := 1255) (by decide +kernel) (by decide +kernel)
theorem wm_1256 : Cond.instanceMethod ⟨"FencedStates$CubeRow", "removeAt", "(I)V"⟩ ∈ lw_gd := lw_in (i := 1256) (by decide +kernel) (by decide +kernel)
theorem wm_1257 : Cond.selects "FencedStates$CubeRow" ⟨"FencedStates$CubeRow", "removeAt", "(I)V"⟩ ⟨"FencedStates$CubeRow", "removeAt", "(I)V"⟩ ∈ lw_gd := lw_in (i := 1257) (by decide +kernel) (by decide +kernel)
theorem wm_1263 : Cond.methodLink "FencedStates" 371 ⟨"FencedStates", "judged", "(I)I"⟩ ∈ lw_gd := lw_in (i := 1263) (by decide +kernel) (by decide +kernel)
theorem wm_1264 : Cond.instanceMethod ⟨"FencedStates", "judged", "(I)I"⟩ ∈ lw_gd := lw_in (i := 1264) (by decide +kernel) (by decide +kernel)
theorem wm_1265 : Cond.selects "FencedStates" ⟨"FencedStates", "judged", "(I)I"⟩ ⟨"FencedStates", "judged", "(I)I"⟩ ∈ lw_gd := lw_in (i := 1265) (by decide +kernel) (by decide +kernel)
theorem wm_1267 : Cond.methodLink "FencedStates" 377 ⟨"FencedStates", "rowOf", "(I)LFencedStates$CubeRow;"⟩ ∈ lw_gd := lw_in (i := 1267) (by decide +kernel) (by decide +kernel)
theorem wm_1269 : Cond.instanceMethod ⟨"FencedStates", "rowOf", "(I)LFencedStates$CubeRow;"⟩ ∈ lw_gd := lw_in (i := 1269) (by decide +kernel) (by decide +kernel)
theorem wm_1271 : Cond.methodLink "FencedStates" 381 ⟨"FencedStates", "startIn", "(I)I"⟩ ∈ lw_gd := lw_in (i := 1271) (by decide +kernel) (by decide +kernel)
theorem wm_1273 : Cond.instanceMethod ⟨"FencedStates", "startIn", "(I)I"⟩ ∈ lw_gd := lw_in (i := 1273) (by decide +kernel) (by decide +kernel)
theorem wm_1275 : Cond.methodLink "FencedStates" 384 ⟨"FencedStates$CubeRow", "unionFrom", "(I)J"⟩ ∈ lw_gd := lw_in (i := 1275) (by decide +kernel) (by decide +kernel)
theorem wm_1276 : Cond.methodLink "FencedStates" 387 ⟨"FencedStates$Search", "judgementOf", "(J)I"⟩ ∈ lw_gd := lw_in (i := 1276) (by decide +kernel) (by decide +kernel)
theorem wm_1277 : Cond.instanceMethod ⟨"FencedStates$Search", "judgementOf", "(J)I"⟩ ∈ lw_gd := lw_in (i := 1277) (by decide +kernel) (by decide +kernel)
theorem wm_1278 : Cond.selects "FencedStates$Search" ⟨"FencedStates$Search", "judgementOf", "(J)I"⟩ ⟨"FencedStates$Search", "judgementOf", "(J)I"⟩ ∈ lw_gd := lw_in (i := 1278) (by decide +kernel) (by decide +kernel)
theorem wm_1280 : Cond.methodLink "FencedStates" 374 ⟨"FencedStates$Search", "loosenClaim", "(I)I"⟩ ∈ lw_gd := lw_in (i := 1280) (by decide +kernel) (by decide +kernel)
theorem wm_1281 : Cond.instanceMethod ⟨"FencedStates$Search", "loosenClaim", "(I)I"⟩ ∈ lw_gd := lw_in (i := 1281) (by decide +kernel) (by decide +kernel)
theorem wm_1282 : Cond.selects "FencedStates$Search" ⟨"FencedStates$Search", "loosenClaim", "(I)I"⟩ ⟨"FencedStates$Search", "loosenClaim", "(I)I"⟩ ∈ lw_gd := lw_in (i := 1282) (by decide +kernel) (by decide +kernel)
theorem wm_1284 : Cond.methodLink "FencedStates$Search" 245 ⟨"FencedStates$CubeRow", "unionBut", "(I)J"⟩ ∈ lw_gd := lw_in (i := 1284) (by decide +kernel) (by decide +kernel)
theorem wm_1285 : Cond.instanceMethod ⟨"FencedStates$CubeRow", "unionBut", "(I)J"⟩ ∈ lw_gd := lw_in (i := 1285) (by decide +kernel) (by decide +kernel)
theorem wm_1286 : Cond.selects "FencedStates$CubeRow" ⟨"FencedStates$CubeRow", "unionBut", "(I)J"⟩ ⟨"FencedStates$CubeRow", "unionBut", "(I)J"⟩ ∈ lw_gd := lw_in (i := 1286) (by decide +kernel) (by decide +kernel)
theorem wm_1288 : Cond.methodLink "FencedStates$Search" 242 ⟨"FencedStates$Search", "judgementOf", "(J)I"⟩ ∈ lw_gd := lw_in (i := 1288) (by decide +kernel) (by decide +kernel)
theorem wm_1289 : Cond.methodLink "FencedStates$Search" 248 ⟨"FencedStates$CubeRow", "change", "(II)V"⟩ ∈ lw_gd := lw_in (i := 1289) (by decide +kernel) (by decide +kernel)
theorem wm_1290 : Cond.instanceMethod ⟨"FencedStates$CubeRow", "change", "(II)V"⟩ ∈ lw_gd := lw_in (i := 1290) (by decide +kernel) (by decide +kernel)
theorem wm_1291 : Cond.selects "FencedStates$CubeRow" ⟨"FencedStates$CubeRow", "change", "(II)V"⟩ ⟨"FencedStates$CubeRow", "change", "(II)V"⟩ ∈ lw_gd := lw_in (i := 1291) (by decide +kernel) (by decide +kernel)
theorem wm_1302 : Cond.methodLink "FencedStates" 390 ⟨"FencedStates$Search", "witnessOf", "(J)I"⟩ ∈ lw_gd := lw_in (i := 1302) (by decide +kernel) (by decide +kernel)
theorem wm_1303 : Cond.instanceMethod ⟨"FencedStates$Search", "witnessOf", "(J)I"⟩ ∈ lw_gd := lw_in (i := 1303) (by decide +kernel) (by decide +kernel)
theorem wm_1304 : Cond.selects "FencedStates$Search" ⟨"FencedStates$Search", "witnessOf", "(J)I"⟩ ⟨"FencedStates$Search", "witnessOf", "(J)I"⟩ ∈ lw_gd := lw_in (i := 1304) (by decide +kernel) (by decide +kernel)
theorem wm_1310 : Cond.methodLink "FencedStates" 393 ⟨"FencedStates", "leaveOut", "(LFencedStates$CubeRow;)I"⟩ ∈ lw_gd := lw_in (i := 1310) (by decide +kernel) (by decide +kernel)
theorem wm_1312 : Cond.instanceMethod ⟨"FencedStates", "leaveOut", "(LFencedStates$CubeRow;)I"⟩ ∈ lw_gd := lw_in (i := 1312) (by decide +kernel) (by decide +kernel)
theorem wm_1314 : Cond.methodLink "FencedStates" 397 ⟨"FencedStates$CubeRow", "unionBut", "(I)J"⟩ ∈ lw_gd := lw_in (i := 1314) (by decide +kernel) (by decide +kernel)
theorem wm_1319 : Cond.methodLink "FencedStates" 400 ⟨"FencedStates", "chosen", "(I)I"⟩ ∈ lw_gd := lw_in (i := 1319) (by decide +kernel) (by decide +kernel)
theorem wm_1320 : Cond.instanceMethod ⟨"FencedStates", "chosen", "(I)I"⟩ ∈ lw_gd := lw_in (i := 1320) (by decide +kernel) (by decide +kernel)
theorem wm_1321 : Cond.selects "FencedStates" ⟨"FencedStates", "chosen", "(I)I"⟩ ⟨"FencedStates", "chosen", "(I)I"⟩ ∈ lw_gd := lw_in (i := 1321) (by decide +kernel) (by decide +kernel)
theorem wm_1323 : Cond.methodLink "FencedStates" 407 ⟨"FencedStates$Chooser", "choose", "(LFencedStates$CubeRow;ILFencedStates$Search;)I"⟩ ∈ lw_gd := lw_in (i := 1323) (by decide +kernel) (by decide +kernel)
theorem wm_1324 : Cond.instanceMethod ⟨"FencedStates$Chooser", "choose", "(LFencedStates$CubeRow;ILFencedStates$Search;)I"⟩ ∈ lw_gd := lw_in (i := 1324) (by decide +kernel) (by decide +kernel)
theorem wm_1325 : Cond.selects "FencedStates$Chooser" ⟨"FencedStates$Chooser", "choose", "(LFencedStates$CubeRow;ILFencedStates$Search;)I"⟩ ⟨"FencedStates$Chooser", "choose", "(LFencedStates$CubeRow;ILFencedStates$Search;)I"⟩ ∈ lw_gd := lw_in (i := 1325) (by decide +kernel) (by decide +kernel)
theorem wm_1327 : Cond.methodLink "FencedStates$Chooser" 24 ⟨"FencedStates$CubeRow", "statesAt", "(I)J"⟩ ∈ lw_gd := lw_in (i := 1327) (by decide +kernel) (by decide +kernel)
theorem wm_1328 : Cond.instanceMethod ⟨"FencedStates$CubeRow", "statesAt", "(I)J"⟩ ∈ lw_gd := lw_in (i := 1328) (by decide +kernel) (by decide +kernel)
theorem wm_1329 : Cond.selects "FencedStates$CubeRow" ⟨"FencedStates$CubeRow", "statesAt", "(I)J"⟩ ⟨"FencedStates$CubeRow", "statesAt", "(I)J"⟩ ∈ lw_gd := lw_in (i := 1329) (by decide +kernel) (by decide +kernel)
theorem wm_1331 : Cond.methodLink "FencedStates$Chooser" 34 ⟨"FencedStates$Machine", "before", "(J)J"⟩ ∈ lw_gd := lw_in (i := 1331) (by decide +kernel) (by decide +kernel)
theorem wm_1332 : Cond.methodLink "FencedStates$Chooser" 39 ⟨"FencedStates$Search", "aimStates", "()J"⟩ ∈ lw_gd := lw_in (i := 1332) (by decide +kernel) (by decide +kernel)
theorem wm_1333 : Cond.methodLink "FencedStates$Chooser" 43 ⟨"FencedStates$Chooser", "firstOf", "(IIJ)I"⟩ ∈ lw_gd := lw_in (i := 1333) (by decide +kernel) (by decide +kernel)
theorem wm_1335 : Cond.instanceMethod ⟨"FencedStates$Chooser", "firstOf", "(IIJ)I"⟩ ∈ lw_gd := lw_in (i := 1335) (by decide +kernel) (by decide +kernel)
theorem wm_1337 : Cond.methodLink "FencedStates$Chooser" 47 ⟨"FencedStates$Chooser", "suffices", "(IIJ)Z"⟩ ∈ lw_gd := lw_in (i := 1337) (by decide +kernel) (by decide +kernel)
theorem wm_1339 : Cond.instanceMethod ⟨"FencedStates$Chooser", "suffices", "(IIJ)Z"⟩ ∈ lw_gd := lw_in (i := 1339) (by decide +kernel) (by decide +kernel)
theorem wm_1341 : Cond.constantLong "FencedStates$Chooser" 55 (-1) ∈ lw_gd := lw_in (i := 1341) (by decide +kernel) (by decide +kernel)
theorem wm_1342 : Cond.methodLink "FencedStates$Chooser" 51 ⟨"FencedStates$Chooser", "nextOfLikeMany", "(I)I"⟩ ∈ lw_gd := lw_in (i := 1342) (by decide +kernel) (by decide +kernel)
theorem wm_1343 : Cond.static ⟨"FencedStates$Chooser", "nextOfLikeMany", "(I)I"⟩ ∈ lw_gd := lw_in (i := 1343) (by decide +kernel) (by decide +kernel)
theorem wm_1345 : Cond.methodLink "FencedStates$Chooser" 57 ⟨"java/lang/Integer", "numberOfTrailingZeros", "(I)I"⟩ ∈ lw_gd := lw_in (i := 1345) (by decide +kernel) (by decide +kernel)
theorem wm_1346 : Cond.methodLink "FencedStates" 403 ⟨"java/lang/Integer", "bitCount", "(I)I"⟩ ∈ lw_gd := lw_in (i := 1346) (by decide +kernel) (by decide +kernel)
theorem wm_1356 : Cond.methodLink "FencedStates" 414 ⟨"FencedStates$Search", "become", "(LFencedStates$Search;)V"⟩ ∈ lw_gd := lw_in (i := 1356) (by decide +kernel) (by decide +kernel)
theorem wm_1373 : Cond.methodLink "FencedStates" 418 ⟨"FencedStates$FloatBits", "ofDouble", "(D)J"⟩ ∈ lw_gd := lw_in (i := 1373) (by decide +kernel) (by decide +kernel)
theorem wm_1374 : Cond.static ⟨"FencedStates$FloatBits", "ofDouble", "(D)J"⟩ ∈ lw_gd := lw_in (i := 1374) (by decide +kernel) (by decide +kernel)
theorem wm_1376 : Cond.constantDouble "FencedStates$FloatBits" 11 (4611686018427387904 : UInt64) ∈ lw_gd := lw_in (i := 1376) (by decide +kernel) (by decide +kernel)
theorem wm_1377 : Cond.constantDouble "FencedStates$FloatBits" 13 (4841369599423283200 : UInt64) ∈ lw_gd := lw_in (i := 1377) (by decide +kernel) (by decide +kernel)
theorem wm_1378 : Cond.constantLong "FencedStates$FloatBits" 15 4503599627370496 ∈ lw_gd := lw_in (i := 1378) (by decide +kernel) (by decide +kernel)
theorem wm_1383 : Cond.methodLink "FencedStates" 422 ⟨"FencedStates$World", "become", "(LFencedStates$World;)V"⟩ ∈ lw_gd := lw_in (i := 1383) (by decide +kernel) (by decide +kernel)
theorem wm_1384 : Cond.instanceMethod ⟨"FencedStates$World", "become", "(LFencedStates$World;)V"⟩ ∈ lw_gd := lw_in (i := 1384) (by decide +kernel) (by decide +kernel)
theorem wm_1385 : Cond.selects "FencedStates$World" ⟨"FencedStates$World", "become", "(LFencedStates$World;)V"⟩ ⟨"FencedStates$World", "become", "(LFencedStates$World;)V"⟩ ∈ lw_gd := lw_in (i := 1385) (by decide +kernel) (by decide +kernel)
theorem wm_1400 : Cond.methodLink "FencedStatesModel" 1 ⟨"java/lang/Object", "<init>", "()V"⟩ ∈ lw_gd := lw_in (i := 1400) (by decide +kernel) (by decide +kernel)
theorem wm_2148 : Cond.fieldLink "java/lang/String" 9 "java/lang/String" "value" "[B" ∈ lw_gd := lw_in (i := 2148) (by decide +kernel) (by decide +kernel)
theorem wm_2149 : Cond.fieldLink "java/lang/String" 15 "java/lang/String" "coder" "B" ∈ lw_gd := lw_in (i := 2149) (by decide +kernel) (by decide +kernel)
theorem fl_X11_9 : FL RX11 9 8 0 := ⟨RX11, TX11, 13, rfl, iw_X11, by decide, lw_in (i := 423) (by decide +kernel) (by decide +kernel)⟩
theorem fl_X11_13 : FL RX11 13 8 4 := ⟨RX11, TX11, 13, rfl, iw_X11, by decide, lw_in (i := 427) (by decide +kernel) (by decide +kernel)⟩
theorem fl_X11_20 : FL RX11 20 8 5 := ⟨RX11, TX11, 13, rfl, iw_X11, by decide, lw_in (i := 428) (by decide +kernel) (by decide +kernel)⟩
theorem fl_X11_35 : FL RX11 35 8 6 := ⟨RX11, TX11, 13, rfl, iw_X11, by decide, lw_in (i := 429) (by decide +kernel) (by decide +kernel)⟩
theorem fl_X11_39 : FL RX11 39 8 7 := ⟨RX11, TX11, 13, rfl, iw_X11, by decide, lw_in (i := 430) (by decide +kernel) (by decide +kernel)⟩
theorem fl_X11_45 : FL RX11 45 8 8 := ⟨RX11, TX11, 13, rfl, iw_X11, by decide, lw_in (i := 431) (by decide +kernel) (by decide +kernel)⟩
theorem fl_X11_52 : FL RX11 52 8 9 := ⟨RX11, TX11, 13, rfl, iw_X11, by decide, lw_in (i := 432) (by decide +kernel) (by decide +kernel)⟩
theorem fl_X11_59 : FL RX11 59 8 10 := ⟨RX11, TX11, 13, rfl, iw_X11, by decide, lw_in (i := 433) (by decide +kernel) (by decide +kernel)⟩
theorem fl_X11_63 : FL RX11 63 8 11 := ⟨RX11, TX11, 13, rfl, iw_X11, by decide, lw_in (i := 434) (by decide +kernel) (by decide +kernel)⟩
theorem fl_X11_67 : FL RX11 67 8 12 := ⟨RX11, TX11, 13, rfl, iw_X11, by decide, lw_in (i := 435) (by decide +kernel) (by decide +kernel)⟩
theorem fl_X11_71 : FL RX11 71 8 1 := ⟨RX11, TX11, 13, rfl, iw_X11, by decide, lw_in (i := 424) (by decide +kernel) (by decide +kernel)⟩
theorem fl_X11_78 : FL RX11 78 7 1 := ⟨RX10, TX10, 5, rfl, iw_X10, by decide, lw_in (i := 389) (by decide +kernel) (by decide +kernel)⟩
theorem fl_X11_85 : FL RX11 85 8 2 := ⟨RX11, TX11, 13, rfl, iw_X11, by decide, lw_in (i := 425) (by decide +kernel) (by decide +kernel)⟩
theorem fl_X11_89 : FL RX11 89 5 5 := ⟨RX7, TX7, 15, rfl, iw_X7, by decide, lw_in (i := 171) (by decide +kernel) (by decide +kernel)⟩
theorem fl_X11_92 : FL RX11 92 8 3 := ⟨RX11, TX11, 13, rfl, iw_X11, by decide, lw_in (i := 426) (by decide +kernel) (by decide +kernel)⟩
theorem fl_X11_95 : FL RX11 95 5 6 := ⟨RX7, TX7, 15, rfl, iw_X7, by decide, lw_in (i := 173) (by decide +kernel) (by decide +kernel)⟩
theorem fl_X11_112 : FL RX11 112 7 4 := ⟨RX10, TX10, 5, rfl, iw_X10, by decide, lw_in (i := 394) (by decide +kernel) (by decide +kernel)⟩
theorem fl_X11_118 : FL RX11 118 3 0 := ⟨RX5, TX5, 7, rfl, iw_X5, by decide, lw_in (i := 227) (by decide +kernel) (by decide +kernel)⟩
theorem fl_X11_125 : FL RX11 125 6 0 := ⟨RX8, TX8, 15, rfl, iw_X8, by decide, lw_in (i := 327) (by decide +kernel) (by decide +kernel)⟩
theorem fl_X11_135 : FL RX11 135 6 2 := ⟨RX8, TX8, 15, rfl, iw_X8, by decide, lw_in (i := 331) (by decide +kernel) (by decide +kernel)⟩
theorem fl_X11_151 : FL RX11 151 6 11 := ⟨RX8, TX8, 15, rfl, iw_X8, by decide, lw_in (i := 349) (by decide +kernel) (by decide +kernel)⟩
theorem fl_X11_173 : FL RX11 173 6 4 := ⟨RX8, TX8, 15, rfl, iw_X8, by decide, lw_in (i := 335) (by decide +kernel) (by decide +kernel)⟩
theorem fl_X11_176 : FL RX11 176 6 3 := ⟨RX8, TX8, 15, rfl, iw_X8, by decide, lw_in (i := 333) (by decide +kernel) (by decide +kernel)⟩
theorem fl_X11_179 : FL RX11 179 6 5 := ⟨RX8, TX8, 15, rfl, iw_X8, by decide, lw_in (i := 337) (by decide +kernel) (by decide +kernel)⟩
theorem fl_X11_182 : FL RX11 182 3 4 := ⟨RX5, TX5, 7, rfl, iw_X5, by decide, lw_in (i := 239) (by decide +kernel) (by decide +kernel)⟩
theorem fl_X11_185 : FL RX11 185 6 1 := ⟨RX8, TX8, 15, rfl, iw_X8, by decide, lw_in (i := 329) (by decide +kernel) (by decide +kernel)⟩
theorem fl_X11_188 : FL RX11 188 6 12 := ⟨RX8, TX8, 15, rfl, iw_X8, by decide, lw_in (i := 351) (by decide +kernel) (by decide +kernel)⟩
theorem fl_X11_192 : FL RX11 192 4 1 := ⟨RX6, TX6, 2, rfl, iw_X6, by decide, lw_in (i := 303) (by decide +kernel) (by decide +kernel)⟩
theorem fl_X11_197 : FL RX11 197 6 6 := ⟨RX8, TX8, 15, rfl, iw_X8, by decide, lw_in (i := 339) (by decide +kernel) (by decide +kernel)⟩
theorem fl_X11_200 : FL RX11 200 6 7 := ⟨RX8, TX8, 15, rfl, iw_X8, by decide, lw_in (i := 341) (by decide +kernel) (by decide +kernel)⟩
theorem fl_X11_203 : FL RX11 203 6 8 := ⟨RX8, TX8, 15, rfl, iw_X8, by decide, lw_in (i := 343) (by decide +kernel) (by decide +kernel)⟩
theorem fl_X11_206 : FL RX11 206 6 9 := ⟨RX8, TX8, 15, rfl, iw_X8, by decide, lw_in (i := 345) (by decide +kernel) (by decide +kernel)⟩
theorem fl_X11_209 : FL RX11 209 6 10 := ⟨RX8, TX8, 15, rfl, iw_X8, by decide, lw_in (i := 347) (by decide +kernel) (by decide +kernel)⟩
theorem fl_X11_237 : FL RX11 237 3 3 := ⟨RX5, TX5, 7, rfl, iw_X5, by decide, lw_in (i := 236) (by decide +kernel) (by decide +kernel)⟩
theorem fl_X11_294 : FL RX11 294 2 3 := ⟨RX2, TX2, 4, rfl, iw_X2, by decide, lw_in (i := 284) (by decide +kernel) (by decide +kernel)⟩
theorem fl_X11_298 : FL RX11 298 6 13 := ⟨RX8, TX8, 15, rfl, iw_X8, by decide, lw_in (i := 353) (by decide +kernel) (by decide +kernel)⟩
theorem fl_X11_302 : FL RX11 302 0 1 := ⟨RX0, TX0, 2, rfl, iw_X0, by decide, lw_in (i := 317) (by decide +kernel) (by decide +kernel)⟩
theorem fl_X11_358 : FL RX11 358 6 14 := ⟨RX8, TX8, 15, rfl, iw_X8, by decide, lw_in (i := 355) (by decide +kernel) (by decide +kernel)⟩
theorem fl_X11_411 : FL RX11 411 3 2 := ⟨RX5, TX5, 7, rfl, iw_X5, by decide, lw_in (i := 233) (by decide +kernel) (by decide +kernel)⟩
theorem fl_X11_425 : FL RX11 425 7 3 := ⟨RX10, TX10, 5, rfl, iw_X10, by decide, lw_in (i := 392) (by decide +kernel) (by decide +kernel)⟩
theorem fl_X0_9 : FL RX0 9 0 0 := ⟨RX0, TX0, 2, rfl, iw_X0, by decide, lw_in (i := 315) (by decide +kernel) (by decide +kernel)⟩
theorem fl_X0_15 : FL RX0 15 0 1 := ⟨RX0, TX0, 2, rfl, iw_X0, by decide, lw_in (i := 316) (by decide +kernel) (by decide +kernel)⟩
theorem fl_X1_9 : FL RX1 9 1 0 := ⟨RX1, TX1, 2, rfl, iw_X1, by decide, lw_in (i := 416) (by decide +kernel) (by decide +kernel)⟩
theorem fl_X1_15 : FL RX1 15 1 1 := ⟨RX1, TX1, 2, rfl, iw_X1, by decide, lw_in (i := 417) (by decide +kernel) (by decide +kernel)⟩
theorem fl_X1_18 : FL RX1 18 2 3 := ⟨RX2, TX2, 4, rfl, iw_X2, by decide, lw_in (i := 282) (by decide +kernel) (by decide +kernel)⟩
theorem fl_X1_28 : FL RX1 28 6 0 := ⟨RX8, TX8, 15, rfl, iw_X8, by decide, lw_in (i := 325) (by decide +kernel) (by decide +kernel)⟩
theorem fl_X2_7 : FL RX2 7 2 0 := ⟨RX2, TX2, 4, rfl, iw_X2, by decide, lw_in (i := 278) (by decide +kernel) (by decide +kernel)⟩
theorem fl_X2_13 : FL RX2 13 2 1 := ⟨RX2, TX2, 4, rfl, iw_X2, by decide, lw_in (i := 279) (by decide +kernel) (by decide +kernel)⟩
theorem fl_X2_16 : FL RX2 16 2 2 := ⟨RX2, TX2, 4, rfl, iw_X2, by decide, lw_in (i := 280) (by decide +kernel) (by decide +kernel)⟩
theorem fl_X2_20 : FL RX2 20 2 3 := ⟨RX2, TX2, 4, rfl, iw_X2, by decide, lw_in (i := 281) (by decide +kernel) (by decide +kernel)⟩
theorem fl_X5_15 : FL RX5 15 3 1 := ⟨RX5, TX5, 7, rfl, iw_X5, by decide, lw_in (i := 229) (by decide +kernel) (by decide +kernel)⟩
theorem fl_X5_20 : FL RX5 20 3 2 := ⟨RX5, TX5, 7, rfl, iw_X5, by decide, lw_in (i := 231) (by decide +kernel) (by decide +kernel)⟩
theorem fl_X5_24 : FL RX5 24 3 3 := ⟨RX5, TX5, 7, rfl, iw_X5, by decide, lw_in (i := 234) (by decide +kernel) (by decide +kernel)⟩
theorem fl_X5_27 : FL RX5 27 3 4 := ⟨RX5, TX5, 7, rfl, iw_X5, by decide, lw_in (i := 237) (by decide +kernel) (by decide +kernel)⟩
theorem fl_X5_31 : FL RX5 31 3 5 := ⟨RX5, TX5, 7, rfl, iw_X5, by decide, lw_in (i := 240) (by decide +kernel) (by decide +kernel)⟩
theorem fl_X5_35 : FL RX5 35 3 6 := ⟨RX5, TX5, 7, rfl, iw_X5, by decide, lw_in (i := 241) (by decide +kernel) (by decide +kernel)⟩
theorem fl_X6_9 : FL RX6 9 4 0 := ⟨RX6, TX6, 2, rfl, iw_X6, by decide, lw_in (i := 300) (by decide +kernel) (by decide +kernel)⟩
theorem fl_X6_15 : FL RX6 15 4 1 := ⟨RX6, TX6, 2, rfl, iw_X6, by decide, lw_in (i := 301) (by decide +kernel) (by decide +kernel)⟩
theorem fl_X7_9 : FL RX7 9 5 0 := ⟨RX7, TX7, 15, rfl, iw_X7, by decide, lw_in (i := 165) (by decide +kernel) (by decide +kernel)⟩
theorem fl_X7_15 : FL RX7 15 5 1 := ⟨RX7, TX7, 15, rfl, iw_X7, by decide, lw_in (i := 166) (by decide +kernel) (by decide +kernel)⟩
theorem fl_X7_18 : FL RX7 18 5 2 := ⟨RX7, TX7, 15, rfl, iw_X7, by decide, lw_in (i := 167) (by decide +kernel) (by decide +kernel)⟩
theorem fl_X7_21 : FL RX7 21 5 11 := ⟨RX7, TX7, 15, rfl, iw_X7, by decide, lw_in (i := 178) (by decide +kernel) (by decide +kernel)⟩
theorem fl_X7_25 : FL RX7 25 5 13 := ⟨RX7, TX7, 15, rfl, iw_X7, by decide, lw_in (i := 180) (by decide +kernel) (by decide +kernel)⟩
theorem fl_X7_28 : FL RX7 28 5 3 := ⟨RX7, TX7, 15, rfl, iw_X7, by decide, lw_in (i := 168) (by decide +kernel) (by decide +kernel)⟩
theorem fl_X7_32 : FL RX7 32 5 4 := ⟨RX7, TX7, 15, rfl, iw_X7, by decide, lw_in (i := 169) (by decide +kernel) (by decide +kernel)⟩
theorem fl_X7_35 : FL RX7 35 5 5 := ⟨RX7, TX7, 15, rfl, iw_X7, by decide, lw_in (i := 170) (by decide +kernel) (by decide +kernel)⟩
theorem fl_X7_41 : FL RX7 41 5 7 := ⟨RX7, TX7, 15, rfl, iw_X7, by decide, lw_in (i := 174) (by decide +kernel) (by decide +kernel)⟩
theorem fl_X7_44 : FL RX7 44 5 8 := ⟨RX7, TX7, 15, rfl, iw_X7, by decide, lw_in (i := 175) (by decide +kernel) (by decide +kernel)⟩
theorem fl_X7_48 : FL RX7 48 5 9 := ⟨RX7, TX7, 15, rfl, iw_X7, by decide, lw_in (i := 176) (by decide +kernel) (by decide +kernel)⟩
theorem fl_X7_52 : FL RX7 52 5 10 := ⟨RX7, TX7, 15, rfl, iw_X7, by decide, lw_in (i := 177) (by decide +kernel) (by decide +kernel)⟩
theorem fl_X7_61 : FL RX7 61 5 12 := ⟨RX7, TX7, 15, rfl, iw_X7, by decide, lw_in (i := 179) (by decide +kernel) (by decide +kernel)⟩
theorem fl_X7_67 : FL RX7 67 5 14 := ⟨RX7, TX7, 15, rfl, iw_X7, by decide, lw_in (i := 181) (by decide +kernel) (by decide +kernel)⟩
theorem fl_X8_9 : FL RX8 9 6 0 := ⟨RX8, TX8, 15, rfl, iw_X8, by decide, lw_in (i := 324) (by decide +kernel) (by decide +kernel)⟩
theorem fl_X8_15 : FL RX8 15 6 4 := ⟨RX8, TX8, 15, rfl, iw_X8, by decide, lw_in (i := 334) (by decide +kernel) (by decide +kernel)⟩
theorem fl_X8_19 : FL RX8 19 6 5 := ⟨RX8, TX8, 15, rfl, iw_X8, by decide, lw_in (i := 336) (by decide +kernel) (by decide +kernel)⟩
theorem fl_X8_25 : FL RX8 25 6 11 := ⟨RX8, TX8, 15, rfl, iw_X8, by decide, lw_in (i := 348) (by decide +kernel) (by decide +kernel)⟩
theorem fl_X8_32 : FL RX8 32 6 12 := ⟨RX8, TX8, 15, rfl, iw_X8, by decide, lw_in (i := 350) (by decide +kernel) (by decide +kernel)⟩
theorem fl_X8_39 : FL RX8 39 6 13 := ⟨RX8, TX8, 15, rfl, iw_X8, by decide, lw_in (i := 352) (by decide +kernel) (by decide +kernel)⟩
theorem fl_X8_43 : FL RX8 43 6 14 := ⟨RX8, TX8, 15, rfl, iw_X8, by decide, lw_in (i := 354) (by decide +kernel) (by decide +kernel)⟩
theorem fl_X8_46 : FL RX8 46 6 1 := ⟨RX8, TX8, 15, rfl, iw_X8, by decide, lw_in (i := 328) (by decide +kernel) (by decide +kernel)⟩
theorem fl_X8_49 : FL RX8 49 6 2 := ⟨RX8, TX8, 15, rfl, iw_X8, by decide, lw_in (i := 330) (by decide +kernel) (by decide +kernel)⟩
theorem fl_X8_52 : FL RX8 52 6 3 := ⟨RX8, TX8, 15, rfl, iw_X8, by decide, lw_in (i := 332) (by decide +kernel) (by decide +kernel)⟩
theorem fl_X8_55 : FL RX8 55 6 6 := ⟨RX8, TX8, 15, rfl, iw_X8, by decide, lw_in (i := 338) (by decide +kernel) (by decide +kernel)⟩
theorem fl_X8_58 : FL RX8 58 6 7 := ⟨RX8, TX8, 15, rfl, iw_X8, by decide, lw_in (i := 340) (by decide +kernel) (by decide +kernel)⟩
theorem fl_X8_61 : FL RX8 61 6 8 := ⟨RX8, TX8, 15, rfl, iw_X8, by decide, lw_in (i := 342) (by decide +kernel) (by decide +kernel)⟩
theorem fl_X8_64 : FL RX8 64 6 9 := ⟨RX8, TX8, 15, rfl, iw_X8, by decide, lw_in (i := 344) (by decide +kernel) (by decide +kernel)⟩
theorem fl_X8_67 : FL RX8 67 6 10 := ⟨RX8, TX8, 15, rfl, iw_X8, by decide, lw_in (i := 346) (by decide +kernel) (by decide +kernel)⟩
theorem fl_X8_80 : FL RX8 80 2 3 := ⟨RX2, TX2, 4, rfl, iw_X2, by decide, lw_in (i := 283) (by decide +kernel) (by decide +kernel)⟩
theorem fl_X8_83 : FL RX8 83 4 1 := ⟨RX6, TX6, 2, rfl, iw_X6, by decide, lw_in (i := 302) (by decide +kernel) (by decide +kernel)⟩
theorem fl_X8_103 : FL RX8 103 3 4 := ⟨RX5, TX5, 7, rfl, iw_X5, by decide, lw_in (i := 238) (by decide +kernel) (by decide +kernel)⟩
theorem fl_X8_107 : FL RX8 107 3 3 := ⟨RX5, TX5, 7, rfl, iw_X5, by decide, lw_in (i := 235) (by decide +kernel) (by decide +kernel)⟩
theorem fl_X8_111 : FL RX8 111 3 2 := ⟨RX5, TX5, 7, rfl, iw_X5, by decide, lw_in (i := 232) (by decide +kernel) (by decide +kernel)⟩
theorem fl_X8_162 : FL RX8 162 3 1 := ⟨RX5, TX5, 7, rfl, iw_X5, by decide, lw_in (i := 230) (by decide +kernel) (by decide +kernel)⟩
theorem fl_X8_168 : FL RX8 168 3 0 := ⟨RX5, TX5, 7, rfl, iw_X5, by decide, lw_in (i := 228) (by decide +kernel) (by decide +kernel)⟩
theorem fl_X10_11 : FL RX10 11 7 0 := ⟨RX10, TX10, 5, rfl, iw_X10, by decide, lw_in (i := 387) (by decide +kernel) (by decide +kernel)⟩
theorem fl_X10_19 : FL RX10 19 7 2 := ⟨RX10, TX10, 5, rfl, iw_X10, by decide, lw_in (i := 390) (by decide +kernel) (by decide +kernel)⟩
theorem fl_X10_26 : FL RX10 26 7 4 := ⟨RX10, TX10, 5, rfl, iw_X10, by decide, lw_in (i := 393) (by decide +kernel) (by decide +kernel)⟩
theorem fl_X10_30 : FL RX10 30 7 1 := ⟨RX10, TX10, 5, rfl, iw_X10, by decide, lw_in (i := 388) (by decide +kernel) (by decide +kernel)⟩
theorem fl_X10_34 : FL RX10 34 7 3 := ⟨RX10, TX10, 5, rfl, iw_X10, by decide, lw_in (i := 391) (by decide +kernel) (by decide +kernel)⟩
theorem fl_X10_41 : FL RX10 41 6 0 := ⟨RX8, TX8, 15, rfl, iw_X8, by decide, lw_in (i := 326) (by decide +kernel) (by decide +kernel)⟩
theorem fw_X11_9 : FW RX11 9 8 0 (.array .byte) true := ⟨RX11, TX11, 13, tyX11, rfl, iw_X11, by decide, lw_in (i := 423) (by decide +kernel) (by decide +kernel), tyX11_ok, nmX11, rfl, by decide +kernel, fun _ => rfl⟩
theorem fw_X11_13 : FW RX11 13 8 4 .int false := ⟨RX11, TX11, 13, tyX11, rfl, iw_X11, by decide, lw_in (i := 427) (by decide +kernel) (by decide +kernel), tyX11_ok, nmX11, rfl, by decide +kernel, fun h => by cases h⟩
theorem fw_X11_20 : FW RX11 20 8 5 (.object "FencedStates$Reader") true := ⟨RX11, TX11, 13, tyX11, rfl, iw_X11, by decide, lw_in (i := 428) (by decide +kernel) (by decide +kernel), tyX11_ok, nmX11, rfl, by decide +kernel, fun _ => rfl⟩
theorem fw_X11_35 : FW RX11 35 8 6 (.object "FencedStates$World") true := ⟨RX11, TX11, 13, tyX11, rfl, iw_X11, by decide, lw_in (i := 429) (by decide +kernel) (by decide +kernel), tyX11_ok, nmX11, rfl, by decide +kernel, fun _ => rfl⟩
theorem fw_X11_39 : FW RX11 39 8 7 (.object "FencedStates$World") true := ⟨RX11, TX11, 13, tyX11, rfl, iw_X11, by decide, lw_in (i := 430) (by decide +kernel) (by decide +kernel), tyX11_ok, nmX11, rfl, by decide +kernel, fun _ => rfl⟩
theorem fw_X11_45 : FW RX11 45 8 8 (.object "FencedStates$Search") true := ⟨RX11, TX11, 13, tyX11, rfl, iw_X11, by decide, lw_in (i := 431) (by decide +kernel) (by decide +kernel), tyX11_ok, nmX11, rfl, by decide +kernel, fun _ => rfl⟩
theorem fw_X11_52 : FW RX11 52 8 9 (.object "FencedStates$CubeRow") true := ⟨RX11, TX11, 13, tyX11, rfl, iw_X11, by decide, lw_in (i := 432) (by decide +kernel) (by decide +kernel), tyX11_ok, nmX11, rfl, by decide +kernel, fun _ => rfl⟩
theorem fw_X11_59 : FW RX11 59 8 10 (.object "FencedStates$Chooser") true := ⟨RX11, TX11, 13, tyX11, rfl, iw_X11, by decide, lw_in (i := 433) (by decide +kernel) (by decide +kernel), tyX11_ok, nmX11, rfl, by decide +kernel, fun _ => rfl⟩
theorem fw_X11_63 : FW RX11 63 8 11 (.array .int) true := ⟨RX11, TX11, 13, tyX11, rfl, iw_X11, by decide, lw_in (i := 434) (by decide +kernel) (by decide +kernel), tyX11_ok, nmX11, rfl, by decide +kernel, fun _ => rfl⟩
theorem fw_X11_67 : FW RX11 67 8 12 (.array .long) true := ⟨RX11, TX11, 13, tyX11, rfl, iw_X11, by decide, lw_in (i := 435) (by decide +kernel) (by decide +kernel), tyX11_ok, nmX11, rfl, by decide +kernel, fun _ => rfl⟩
theorem fw_X11_71 : FW RX11 71 8 1 .int false := ⟨RX11, TX11, 13, tyX11, rfl, iw_X11, by decide, lw_in (i := 424) (by decide +kernel) (by decide +kernel), tyX11_ok, nmX11, rfl, by decide +kernel, fun h => by cases h⟩
theorem fw_X11_85 : FW RX11 85 8 2 .boolean false := ⟨RX11, TX11, 13, tyX11, rfl, iw_X11, by decide, lw_in (i := 425) (by decide +kernel) (by decide +kernel), tyX11_ok, nmX11, rfl, by decide +kernel, fun h => by cases h⟩
theorem fw_X11_92 : FW RX11 92 8 3 .int false := ⟨RX11, TX11, 13, tyX11, rfl, iw_X11, by decide, lw_in (i := 426) (by decide +kernel) (by decide +kernel), tyX11_ok, nmX11, rfl, by decide +kernel, fun h => by cases h⟩
theorem fw_X11_135 : FW RX11 135 6 2 .int false := ⟨RX8, TX8, 15, tyX8, rfl, iw_X8, by decide, lw_in (i := 331) (by decide +kernel) (by decide +kernel), tyX8_ok, nmX8, rfl, by decide +kernel, fun h => by cases h⟩
theorem fw_X0_9 : FW RX0 9 0 0 (.array .float) true := ⟨RX0, TX0, 2, tyX0, rfl, iw_X0, by decide, lw_in (i := 315) (by decide +kernel) (by decide +kernel), tyX0_ok, nmX0, rfl, by decide +kernel, fun _ => rfl⟩
theorem fw_X0_15 : FW RX0 15 0 1 .float false := ⟨RX0, TX0, 2, tyX0, rfl, iw_X0, by decide, lw_in (i := 316) (by decide +kernel) (by decide +kernel), tyX0_ok, nmX0, rfl, by decide +kernel, fun h => by cases h⟩
theorem fw_X1_9 : FW RX1 9 1 0 (.array .long) true := ⟨RX1, TX1, 2, tyX1, rfl, iw_X1, by decide, lw_in (i := 416) (by decide +kernel) (by decide +kernel), tyX1_ok, nmX1, rfl, by decide +kernel, fun _ => rfl⟩
theorem fw_X1_15 : FW RX1 15 1 1 (.array .long) true := ⟨RX1, TX1, 2, tyX1, rfl, iw_X1, by decide, lw_in (i := 417) (by decide +kernel) (by decide +kernel), tyX1_ok, nmX1, rfl, by decide +kernel, fun _ => rfl⟩
theorem fw_X2_7 : FW RX2 7 2 0 (.array .int) false := ⟨RX2, TX2, 4, tyX2, rfl, iw_X2, by decide, lw_in (i := 278) (by decide +kernel) (by decide +kernel), tyX2_ok, nmX2, rfl, by decide +kernel, fun h => by cases h⟩
theorem fw_X2_13 : FW RX2 13 2 1 (.array .int) false := ⟨RX2, TX2, 4, tyX2, rfl, iw_X2, by decide, lw_in (i := 279) (by decide +kernel) (by decide +kernel), tyX2_ok, nmX2, rfl, by decide +kernel, fun h => by cases h⟩
theorem fw_X2_16 : FW RX2 16 2 2 (.array .long) false := ⟨RX2, TX2, 4, tyX2, rfl, iw_X2, by decide, lw_in (i := 280) (by decide +kernel) (by decide +kernel), tyX2_ok, nmX2, rfl, by decide +kernel, fun h => by cases h⟩
theorem fw_X2_20 : FW RX2 20 2 3 .int false := ⟨RX2, TX2, 4, tyX2, rfl, iw_X2, by decide, lw_in (i := 281) (by decide +kernel) (by decide +kernel), tyX2_ok, nmX2, rfl, by decide +kernel, fun h => by cases h⟩
theorem fw_X5_9 : FW RX5 9 3 0 .int true := ⟨RX5, TX5, 7, tyX5, rfl, iw_X5, by decide, lw_in (i := 226) (by decide +kernel) (by decide +kernel), tyX5_ok, nmX5, rfl, by decide +kernel, fun _ => rfl⟩
theorem fw_X5_15 : FW RX5 15 3 1 .int true := ⟨RX5, TX5, 7, tyX5, rfl, iw_X5, by decide, lw_in (i := 229) (by decide +kernel) (by decide +kernel), tyX5_ok, nmX5, rfl, by decide +kernel, fun _ => rfl⟩
theorem fw_X5_20 : FW RX5 20 3 2 .long true := ⟨RX5, TX5, 7, tyX5, rfl, iw_X5, by decide, lw_in (i := 231) (by decide +kernel) (by decide +kernel), tyX5_ok, nmX5, rfl, by decide +kernel, fun _ => rfl⟩
theorem fw_X5_24 : FW RX5 24 3 3 .long true := ⟨RX5, TX5, 7, tyX5, rfl, iw_X5, by decide, lw_in (i := 234) (by decide +kernel) (by decide +kernel), tyX5_ok, nmX5, rfl, by decide +kernel, fun _ => rfl⟩
theorem fw_X5_27 : FW RX5 27 3 4 (.array .long) true := ⟨RX5, TX5, 7, tyX5, rfl, iw_X5, by decide, lw_in (i := 237) (by decide +kernel) (by decide +kernel), tyX5_ok, nmX5, rfl, by decide +kernel, fun _ => rfl⟩
theorem fw_X5_31 : FW RX5 31 3 5 (.array .int) true := ⟨RX5, TX5, 7, tyX5, rfl, iw_X5, by decide, lw_in (i := 240) (by decide +kernel) (by decide +kernel), tyX5_ok, nmX5, rfl, by decide +kernel, fun _ => rfl⟩
theorem fw_X5_35 : FW RX5 35 3 6 (.array .long) true := ⟨RX5, TX5, 7, tyX5, rfl, iw_X5, by decide, lw_in (i := 241) (by decide +kernel) (by decide +kernel), tyX5_ok, nmX5, rfl, by decide +kernel, fun _ => rfl⟩
theorem fw_X6_9 : FW RX6 9 4 0 (.array .int) false := ⟨RX6, TX6, 2, tyX6, rfl, iw_X6, by decide, lw_in (i := 300) (by decide +kernel) (by decide +kernel), tyX6_ok, nmX6, rfl, by decide +kernel, fun h => by cases h⟩
theorem fw_X6_15 : FW RX6 15 4 1 .int false := ⟨RX6, TX6, 2, tyX6, rfl, iw_X6, by decide, lw_in (i := 301) (by decide +kernel) (by decide +kernel), tyX6_ok, nmX6, rfl, by decide +kernel, fun h => by cases h⟩
theorem fw_X7_9 : FW RX7 9 5 0 (.array .int) true := ⟨RX7, TX7, 15, tyX7, rfl, iw_X7, by decide, lw_in (i := 165) (by decide +kernel) (by decide +kernel), tyX7_ok, nmX7, rfl, by decide +kernel, fun _ => rfl⟩
theorem fw_X7_15 : FW RX7 15 5 1 (.array .int) true := ⟨RX7, TX7, 15, tyX7, rfl, iw_X7, by decide, lw_in (i := 166) (by decide +kernel) (by decide +kernel), tyX7_ok, nmX7, rfl, by decide +kernel, fun _ => rfl⟩
theorem fw_X7_18 : FW RX7 18 5 2 (.array .int) true := ⟨RX7, TX7, 15, tyX7, rfl, iw_X7, by decide, lw_in (i := 167) (by decide +kernel) (by decide +kernel), tyX7_ok, nmX7, rfl, by decide +kernel, fun _ => rfl⟩
theorem fw_X7_21 : FW RX7 21 5 11 (.array .long) true := ⟨RX7, TX7, 15, tyX7, rfl, iw_X7, by decide, lw_in (i := 178) (by decide +kernel) (by decide +kernel), tyX7_ok, nmX7, rfl, by decide +kernel, fun _ => rfl⟩
theorem fw_X7_25 : FW RX7 25 5 13 (.array .long) true := ⟨RX7, TX7, 15, tyX7, rfl, iw_X7, by decide, lw_in (i := 180) (by decide +kernel) (by decide +kernel), tyX7_ok, nmX7, rfl, by decide +kernel, fun _ => rfl⟩
theorem fw_X7_28 : FW RX7 28 5 3 .int false := ⟨RX7, TX7, 15, tyX7, rfl, iw_X7, by decide, lw_in (i := 168) (by decide +kernel) (by decide +kernel), tyX7_ok, nmX7, rfl, by decide +kernel, fun h => by cases h⟩
theorem fw_X7_32 : FW RX7 32 5 4 .int false := ⟨RX7, TX7, 15, tyX7, rfl, iw_X7, by decide, lw_in (i := 169) (by decide +kernel) (by decide +kernel), tyX7_ok, nmX7, rfl, by decide +kernel, fun h => by cases h⟩
theorem fw_X7_35 : FW RX7 35 5 5 .int false := ⟨RX7, TX7, 15, tyX7, rfl, iw_X7, by decide, lw_in (i := 170) (by decide +kernel) (by decide +kernel), tyX7_ok, nmX7, rfl, by decide +kernel, fun h => by cases h⟩
theorem fw_X7_38 : FW RX7 38 5 6 .int false := ⟨RX7, TX7, 15, tyX7, rfl, iw_X7, by decide, lw_in (i := 172) (by decide +kernel) (by decide +kernel), tyX7_ok, nmX7, rfl, by decide +kernel, fun h => by cases h⟩
theorem fw_X7_41 : FW RX7 41 5 7 .int false := ⟨RX7, TX7, 15, tyX7, rfl, iw_X7, by decide, lw_in (i := 174) (by decide +kernel) (by decide +kernel), tyX7_ok, nmX7, rfl, by decide +kernel, fun h => by cases h⟩
theorem fw_X7_44 : FW RX7 44 5 8 .boolean false := ⟨RX7, TX7, 15, tyX7, rfl, iw_X7, by decide, lw_in (i := 175) (by decide +kernel) (by decide +kernel), tyX7_ok, nmX7, rfl, by decide +kernel, fun h => by cases h⟩
theorem fw_X7_48 : FW RX7 48 5 9 .long false := ⟨RX7, TX7, 15, tyX7, rfl, iw_X7, by decide, lw_in (i := 176) (by decide +kernel) (by decide +kernel), tyX7_ok, nmX7, rfl, by decide +kernel, fun h => by cases h⟩
theorem fw_X7_52 : FW RX7 52 5 10 .int false := ⟨RX7, TX7, 15, tyX7, rfl, iw_X7, by decide, lw_in (i := 177) (by decide +kernel) (by decide +kernel), tyX7_ok, nmX7, rfl, by decide +kernel, fun h => by cases h⟩
theorem fw_X7_61 : FW RX7 61 5 12 .int false := ⟨RX7, TX7, 15, tyX7, rfl, iw_X7, by decide, lw_in (i := 179) (by decide +kernel) (by decide +kernel), tyX7_ok, nmX7, rfl, by decide +kernel, fun h => by cases h⟩
theorem fw_X7_67 : FW RX7 67 5 14 .int false := ⟨RX7, TX7, 15, tyX7, rfl, iw_X7, by decide, lw_in (i := 181) (by decide +kernel) (by decide +kernel), tyX7_ok, nmX7, rfl, by decide +kernel, fun h => by cases h⟩
theorem fw_X8_9 : FW RX8 9 6 0 (.object "FencedStates$Machine") false := ⟨RX8, TX8, 15, tyX8, rfl, iw_X8, by decide, lw_in (i := 324) (by decide +kernel) (by decide +kernel), tyX8_ok, nmX8, rfl, by decide +kernel, fun h => by cases h⟩
theorem fw_X8_15 : FW RX8 15 6 4 .int false := ⟨RX8, TX8, 15, tyX8, rfl, iw_X8, by decide, lw_in (i := 334) (by decide +kernel) (by decide +kernel), tyX8_ok, nmX8, rfl, by decide +kernel, fun h => by cases h⟩
theorem fw_X8_19 : FW RX8 19 6 5 .int false := ⟨RX8, TX8, 15, tyX8, rfl, iw_X8, by decide, lw_in (i := 336) (by decide +kernel) (by decide +kernel), tyX8_ok, nmX8, rfl, by decide +kernel, fun h => by cases h⟩
theorem fw_X8_25 : FW RX8 25 6 11 (.object "FencedStates$CubeRow") true := ⟨RX8, TX8, 15, tyX8, rfl, iw_X8, by decide, lw_in (i := 348) (by decide +kernel) (by decide +kernel), tyX8_ok, nmX8, rfl, by decide +kernel, fun _ => rfl⟩
theorem fw_X8_32 : FW RX8 32 6 12 (.object "FencedStates$Obligations") true := ⟨RX8, TX8, 15, tyX8, rfl, iw_X8, by decide, lw_in (i := 350) (by decide +kernel) (by decide +kernel), tyX8_ok, nmX8, rfl, by decide +kernel, fun _ => rfl⟩
theorem fw_X8_39 : FW RX8 39 6 13 (.object "FencedStates$Activities") true := ⟨RX8, TX8, 15, tyX8, rfl, iw_X8, by decide, lw_in (i := 352) (by decide +kernel) (by decide +kernel), tyX8_ok, nmX8, rfl, by decide +kernel, fun _ => rfl⟩
theorem fw_X8_43 : FW RX8 43 6 14 (.object "FencedStates$CubeRow") true := ⟨RX8, TX8, 15, tyX8, rfl, iw_X8, by decide, lw_in (i := 354) (by decide +kernel) (by decide +kernel), tyX8_ok, nmX8, rfl, by decide +kernel, fun _ => rfl⟩
theorem fw_X8_46 : FW RX8 46 6 1 .int false := ⟨RX8, TX8, 15, tyX8, rfl, iw_X8, by decide, lw_in (i := 328) (by decide +kernel) (by decide +kernel), tyX8_ok, nmX8, rfl, by decide +kernel, fun h => by cases h⟩
theorem fw_X8_49 : FW RX8 49 6 2 .int false := ⟨RX8, TX8, 15, tyX8, rfl, iw_X8, by decide, lw_in (i := 330) (by decide +kernel) (by decide +kernel), tyX8_ok, nmX8, rfl, by decide +kernel, fun h => by cases h⟩
theorem fw_X8_52 : FW RX8 52 6 3 .int false := ⟨RX8, TX8, 15, tyX8, rfl, iw_X8, by decide, lw_in (i := 332) (by decide +kernel) (by decide +kernel), tyX8_ok, nmX8, rfl, by decide +kernel, fun h => by cases h⟩
theorem fw_X8_55 : FW RX8 55 6 6 .int false := ⟨RX8, TX8, 15, tyX8, rfl, iw_X8, by decide, lw_in (i := 338) (by decide +kernel) (by decide +kernel), tyX8_ok, nmX8, rfl, by decide +kernel, fun h => by cases h⟩
theorem fw_X8_58 : FW RX8 58 6 7 .int false := ⟨RX8, TX8, 15, tyX8, rfl, iw_X8, by decide, lw_in (i := 340) (by decide +kernel) (by decide +kernel), tyX8_ok, nmX8, rfl, by decide +kernel, fun h => by cases h⟩
theorem fw_X8_61 : FW RX8 61 6 8 .int false := ⟨RX8, TX8, 15, tyX8, rfl, iw_X8, by decide, lw_in (i := 342) (by decide +kernel) (by decide +kernel), tyX8_ok, nmX8, rfl, by decide +kernel, fun h => by cases h⟩
theorem fw_X8_64 : FW RX8 64 6 9 .int false := ⟨RX8, TX8, 15, tyX8, rfl, iw_X8, by decide, lw_in (i := 344) (by decide +kernel) (by decide +kernel), tyX8_ok, nmX8, rfl, by decide +kernel, fun h => by cases h⟩
theorem fw_X8_67 : FW RX8 67 6 10 .int false := ⟨RX8, TX8, 15, tyX8, rfl, iw_X8, by decide, lw_in (i := 346) (by decide +kernel) (by decide +kernel), tyX8_ok, nmX8, rfl, by decide +kernel, fun h => by cases h⟩
theorem fw_X8_80 : FW RX8 80 2 3 .int false := ⟨RX2, TX2, 4, tyX2, rfl, iw_X2, by decide, lw_in (i := 283) (by decide +kernel) (by decide +kernel), tyX2_ok, nmX2, rfl, by decide +kernel, fun h => by cases h⟩
theorem fw_X8_83 : FW RX8 83 4 1 .int false := ⟨RX6, TX6, 2, tyX6, rfl, iw_X6, by decide, lw_in (i := 302) (by decide +kernel) (by decide +kernel), tyX6_ok, nmX6, rfl, by decide +kernel, fun h => by cases h⟩
theorem fw_X10_11 : FW RX10 11 7 0 (.array (.object "FencedStates$Machine")) true := ⟨RX10, TX10, 5, tyX10, rfl, iw_X10, by decide, lw_in (i := 387) (by decide +kernel) (by decide +kernel), tyX10_ok, nmX10, rfl, by decide +kernel, fun _ => rfl⟩
theorem fw_X10_19 : FW RX10 19 7 2 (.array (.object "FencedStates$Search")) true := ⟨RX10, TX10, 5, tyX10, rfl, iw_X10, by decide, lw_in (i := 390) (by decide +kernel) (by decide +kernel), tyX10_ok, nmX10, rfl, by decide +kernel, fun _ => rfl⟩
theorem fw_X10_26 : FW RX10 26 7 4 (.object "FencedStates$Search") true := ⟨RX10, TX10, 5, tyX10, rfl, iw_X10, by decide, lw_in (i := 393) (by decide +kernel) (by decide +kernel), tyX10_ok, nmX10, rfl, by decide +kernel, fun _ => rfl⟩
theorem fw_X10_30 : FW RX10 30 7 1 .int false := ⟨RX10, TX10, 5, tyX10, rfl, iw_X10, by decide, lw_in (i := 388) (by decide +kernel) (by decide +kernel), tyX10_ok, nmX10, rfl, by decide +kernel, fun h => by cases h⟩
theorem fw_X10_34 : FW RX10 34 7 3 .int false := ⟨RX10, TX10, 5, tyX10, rfl, iw_X10, by decide, lw_in (i := 391) (by decide +kernel) (by decide +kernel), tyX10_ok, nmX10, rfl, by decide +kernel, fun h => by cases h⟩
theorem fw_X12_8 : FW RX12 8 9 0 (.array .int) true := ⟨RX12, TX12, 33, tyX12, rfl, iw_X12, by decide, lw_in (i := 1416) (by decide +kernel) (by decide +kernel), tyX12_ok, nmX12, rfl, by decide +kernel, fun _ => rfl⟩
theorem fw_X12_14 : FW RX12 14 9 1 (.array .int) true := ⟨RX12, TX12, 33, tyX12, rfl, iw_X12, by decide, lw_in (i := 1417) (by decide +kernel) (by decide +kernel), tyX12_ok, nmX12, rfl, by decide +kernel, fun _ => rfl⟩
theorem fw_X12_17 : FW RX12 17 9 2 (.array .float) true := ⟨RX12, TX12, 33, tyX12, rfl, iw_X12, by decide, lw_in (i := 1418) (by decide +kernel) (by decide +kernel), tyX12_ok, nmX12, rfl, by decide +kernel, fun _ => rfl⟩
theorem fw_X12_21 : FW RX12 21 9 3 (.array .float) true := ⟨RX12, TX12, 33, tyX12, rfl, iw_X12, by decide, lw_in (i := 1419) (by decide +kernel) (by decide +kernel), tyX12_ok, nmX12, rfl, by decide +kernel, fun _ => rfl⟩
theorem fw_X12_24 : FW RX12 24 9 4 (.array .int) true := ⟨RX12, TX12, 33, tyX12, rfl, iw_X12, by decide, lw_in (i := 1420) (by decide +kernel) (by decide +kernel), tyX12_ok, nmX12, rfl, by decide +kernel, fun _ => rfl⟩
theorem fw_X12_27 : FW RX12 27 9 5 (.array .long) true := ⟨RX12, TX12, 33, tyX12, rfl, iw_X12, by decide, lw_in (i := 1421) (by decide +kernel) (by decide +kernel), tyX12_ok, nmX12, rfl, by decide +kernel, fun _ => rfl⟩
theorem fw_X12_31 : FW RX12 31 9 6 (.array .int) true := ⟨RX12, TX12, 33, tyX12, rfl, iw_X12, by decide, lw_in (i := 1422) (by decide +kernel) (by decide +kernel), tyX12_ok, nmX12, rfl, by decide +kernel, fun _ => rfl⟩
theorem fw_X12_41 : FW RX12 41 9 14 (.array .long) true := ⟨RX12, TX12, 33, tyX12, rfl, iw_X12, by decide, lw_in (i := 1430) (by decide +kernel) (by decide +kernel), tyX12_ok, nmX12, rfl, by decide +kernel, fun _ => rfl⟩
theorem fw_X12_44 : FW RX12 44 9 15 (.array .int) true := ⟨RX12, TX12, 33, tyX12, rfl, iw_X12, by decide, lw_in (i := 1431) (by decide +kernel) (by decide +kernel), tyX12_ok, nmX12, rfl, by decide +kernel, fun _ => rfl⟩
theorem fw_X12_47 : FW RX12 47 9 23 (.array .int) true := ⟨RX12, TX12, 33, tyX12, rfl, iw_X12, by decide, lw_in (i := 1439) (by decide +kernel) (by decide +kernel), tyX12_ok, nmX12, rfl, by decide +kernel, fun _ => rfl⟩
theorem fw_X12_50 : FW RX12 50 9 24 (.array .int) true := ⟨RX12, TX12, 33, tyX12, rfl, iw_X12, by decide, lw_in (i := 1440) (by decide +kernel) (by decide +kernel), tyX12_ok, nmX12, rfl, by decide +kernel, fun _ => rfl⟩
theorem fw_X12_53 : FW RX12 53 9 25 (.array .int) true := ⟨RX12, TX12, 33, tyX12, rfl, iw_X12, by decide, lw_in (i := 1441) (by decide +kernel) (by decide +kernel), tyX12_ok, nmX12, rfl, by decide +kernel, fun _ => rfl⟩
theorem fw_X12_56 : FW RX12 56 9 26 (.array .float) true := ⟨RX12, TX12, 33, tyX12, rfl, iw_X12, by decide, lw_in (i := 1442) (by decide +kernel) (by decide +kernel), tyX12_ok, nmX12, rfl, by decide +kernel, fun _ => rfl⟩
theorem fw_X12_59 : FW RX12 59 9 27 (.array .int) true := ⟨RX12, TX12, 33, tyX12, rfl, iw_X12, by decide, lw_in (i := 1443) (by decide +kernel) (by decide +kernel), tyX12_ok, nmX12, rfl, by decide +kernel, fun _ => rfl⟩
theorem fw_X12_62 : FW RX12 62 9 29 (.array .int) true := ⟨RX12, TX12, 33, tyX12, rfl, iw_X12, by decide, lw_in (i := 1445) (by decide +kernel) (by decide +kernel), tyX12_ok, nmX12, rfl, by decide +kernel, fun _ => rfl⟩
theorem fw_X12_65 : FW RX12 65 9 30 (.array .int) true := ⟨RX12, TX12, 33, tyX12, rfl, iw_X12, by decide, lw_in (i := 1446) (by decide +kernel) (by decide +kernel), tyX12_ok, nmX12, rfl, by decide +kernel, fun _ => rfl⟩
theorem fw_X12_68 : FW RX12 68 9 32 (.array .long) true := ⟨RX12, TX12, 33, tyX12, rfl, iw_X12, by decide, lw_in (i := 1448) (by decide +kernel) (by decide +kernel), tyX12_ok, nmX12, rfl, by decide +kernel, fun _ => rfl⟩
theorem yw_J0_charAt_5068e : YW yJ0_charAt_5068e cJ0_charAt_5068e 2 (some .char) 1 := ⟨lw_in (i := 526) (by decide +kernel) (by decide +kernel), lw_in (i := 137) (by decide +kernel) (by decide +kernel), by decide, by decide, by decide +kernel⟩
theorem yw_J0_checkIndex_df160 : YW yJ0_checkIndex_df160 cJ0_checkIndex_df160 2 none 2 := ⟨lw_in (i := 536) (by decide +kernel) (by decide +kernel), lw_in (i := 137) (by decide +kernel) (by decide +kernel), by decide, by decide, by decide +kernel⟩
theorem yw_J0_coder_7d493 : YW yJ0_coder_7d493 cJ0_coder_7d493 1 (some .byte) 0 := ⟨lw_in (i := 520) (by decide +kernel) (by decide +kernel), lw_in (i := 137) (by decide +kernel) (by decide +kernel), by decide, by decide, by decide +kernel⟩
theorem yw_J0_indexOf_0f7a4 : YW yJ0_indexOf_0f7a4 cJ0_indexOf_0f7a4 2 (some .int) 1 := ⟨lw_in (i := 579) (by decide +kernel) (by decide +kernel), lw_in (i := 137) (by decide +kernel) (by decide +kernel), by decide, by decide, by decide +kernel⟩
theorem yw_J0_indexOf_7cf53 : YW yJ0_indexOf_7cf53 cJ0_indexOf_7cf53 3 (some .int) 2 := ⟨lw_in (i := 583) (by decide +kernel) (by decide +kernel), lw_in (i := 137) (by decide +kernel) (by decide +kernel), by decide, by decide, by decide +kernel⟩
theorem yw_J0_isLatin1_aae02 : YW yJ0_isLatin1_aae02 cJ0_isLatin1_aae02 1 (some .boolean) 0 := ⟨lw_in (i := 530) (by decide +kernel) (by decide +kernel), lw_in (i := 137) (by decide +kernel) (by decide +kernel), by decide, by decide, by decide +kernel⟩
theorem yw_J0_length_8abf5 : YW yJ0_length_8abf5 cJ0_length_8abf5 1 (some .int) 0 := ⟨lw_in (i := 516) (by decide +kernel) (by decide +kernel), lw_in (i := 137) (by decide +kernel) (by decide +kernel), by decide, by decide, by decide +kernel⟩
theorem yw_J13_bitCount_95d88 : YW yJ13_bitCount_95d88 cJ13_bitCount_95d88 2 (some .int) 1 := ⟨lw_in (i := 1037) (by decide +kernel) (by decide +kernel), lw_in (i := 146) (by decide +kernel) (by decide +kernel), by decide, by decide, by decide +kernel⟩
theorem yw_J13_numberOfTrailingZeros_95d88 : YW yJ13_numberOfTrailingZeros_95d88 cJ13_numberOfTrailingZeros_95d88 3 (some .int) 1 := ⟨lw_in (i := 947) (by decide +kernel) (by decide +kernel), lw_in (i := 146) (by decide +kernel) (by decide +kernel), by decide, by decide, by decide +kernel⟩
theorem yw_J1_canEncode_9a6ad : YW yJ1_canEncode_9a6ad cJ1_canEncode_9a6ad 1 (some .boolean) 1 := ⟨lw_in (i := 590) (by decide +kernel) (by decide +kernel), lw_in (i := 138) (by decide +kernel) (by decide +kernel), by decide, by decide, by decide +kernel⟩
theorem yw_J1_charAt_3b067 : YW yJ1_charAt_3b067 cJ1_charAt_3b067 2 (some .char) 2 := ⟨lw_in (i := 533) (by decide +kernel) (by decide +kernel), lw_in (i := 138) (by decide +kernel) (by decide +kernel), by decide, by decide, by decide +kernel⟩
theorem yw_J1_indexOfChar_4cfef : YW yJ1_indexOfChar_4cfef cJ1_indexOfChar_4cfef 6 (some .int) 4 := ⟨lw_in (i := 597) (by decide +kernel) (by decide +kernel), lw_in (i := 138) (by decide +kernel) (by decide +kernel), by decide, by decide, by decide +kernel⟩
theorem yw_J1_indexOf_4cfef : YW yJ1_indexOf_4cfef cJ1_indexOf_4cfef 4 (some .int) 4 := ⟨lw_in (i := 587) (by decide +kernel) (by decide +kernel), lw_in (i := 138) (by decide +kernel) (by decide +kernel), by decide, by decide, by decide +kernel⟩
theorem yw_J3_checkIndex_8e157 : YW yJ3_checkIndex_8e157 cJ3_checkIndex_8e157 3 (some .int) 3 := ⟨lw_in (i := 541) (by decide +kernel) (by decide +kernel), lw_in (i := 139) (by decide +kernel) (by decide +kernel), by decide, by decide, by decide +kernel⟩
theorem yw_J6_bitCount_0f7a4 : YW yJ6_bitCount_0f7a4 cJ6_bitCount_0f7a4 1 (some .int) 1 := ⟨lw_in (i := 1085) (by decide +kernel) (by decide +kernel), lw_in (i := 147) (by decide +kernel) (by decide +kernel), by decide, by decide, by decide +kernel⟩
theorem yw_J6_numberOfTrailingZeros_0f7a4 : YW yJ6_numberOfTrailingZeros_0f7a4 cJ6_numberOfTrailingZeros_0f7a4 2 (some .int) 1 := ⟨lw_in (i := 950) (by decide +kernel) (by decide +kernel), lw_in (i := 147) (by decide +kernel) (by decide +kernel), by decide, by decide, by decide +kernel⟩
theorem yw_J7_copyOf_59c91 : YW yJ7_copyOf_59c91 cJ7_copyOf_59c91 3 (some (.array .int)) 2 := ⟨lw_in (i := 744) (by decide +kernel) (by decide +kernel), lw_in (i := 135) (by decide +kernel) (by decide +kernel), by decide, by decide, by decide +kernel⟩
theorem yw_J7_copyOf_c38d5 : YW yJ7_copyOf_c38d5 cJ7_copyOf_c38d5 3 (some (.array .long)) 2 := ⟨lw_in (i := 697) (by decide +kernel) (by decide +kernel), lw_in (i := 135) (by decide +kernel) (by decide +kernel), by decide, by decide, by decide +kernel⟩
theorem yw_J7_fill_d0a16 : YW yJ7_fill_d0a16 cJ7_fill_d0a16 5 none 2 := ⟨lw_in (i := 489) (by decide +kernel) (by decide +kernel), lw_in (i := 135) (by decide +kernel) (by decide +kernel), by decide, by decide, by decide +kernel⟩
theorem yw_J7_fill_e525d : YW yJ7_fill_e525d cJ7_fill_e525d 4 none 2 := ⟨lw_in (i := 777) (by decide +kernel) (by decide +kernel), lw_in (i := 135) (by decide +kernel) (by decide +kernel), by decide, by decide, by decide +kernel⟩
theorem yw_J9_max_7cf53 : YW yJ9_max_7cf53 cJ9_max_7cf53 2 (some .int) 2 := ⟨lw_in (i := 593) (by decide +kernel) (by decide +kernel), lw_in (i := 136) (by decide +kernel) (by decide +kernel), by decide, by decide, by decide +kernel⟩
theorem yw_J9_min_7cf53 : YW yJ9_min_7cf53 cJ9_min_7cf53 2 (some .int) 2 := ⟨lw_in (i := 494) (by decide +kernel) (by decide +kernel), lw_in (i := 136) (by decide +kernel) (by decide +kernel), by decide, by decide, by decide +kernel⟩
theorem yw_X0_become : YW yX0_become cX0_become 2 none 1 := ⟨lw_in (i := 765) (by decide +kernel) (by decide +kernel), lw_in (i := 132) (by decide +kernel) (by decide +kernel), by decide, by decide, by decide +kernel⟩
theorem yw_X0_clear : YW yX0_clear cX0_clear 1 none 0 := ⟨lw_in (i := 774) (by decide +kernel) (by decide +kernel), lw_in (i := 132) (by decide +kernel) (by decide +kernel), by decide, by decide, by decide +kernel⟩
theorem yw_X0_init : YW yX0_init cX0_init 1 none 0 := ⟨lw_in (i := 313) (by decide +kernel) (by decide +kernel), lw_in (i := 132) (by decide +kernel) (by decide +kernel), by decide, by decide, by decide +kernel⟩
theorem yw_X0_letterAt : YW yX0_letterAt cX0_letterAt 5 (some .int) 3 := ⟨lw_in (i := 960) (by decide +kernel) (by decide +kernel), lw_in (i := 132) (by decide +kernel) (by decide +kernel), by decide, by decide, by decide +kernel⟩
theorem yw_X0_lower : YW yX0_lower cX0_lower 2 none 0 := ⟨lw_in (i := 988) (by decide +kernel) (by decide +kernel), lw_in (i := 132) (by decide +kernel) (by decide +kernel), by decide, by decide, by decide +kernel⟩
theorem yw_X0_raise : YW yX0_raise cX0_raise 4 none 1 := ⟨lw_in (i := 982) (by decide +kernel) (by decide +kernel), lw_in (i := 132) (by decide +kernel) (by decide +kernel), by decide, by decide, by decide +kernel⟩
theorem yw_X0_rankOf : YW yX0_rankOf cX0_rankOf 9 (some .int) 3 := ⟨lw_in (i := 964) (by decide +kernel) (by decide +kernel), lw_in (i := 132) (by decide +kernel) (by decide +kernel), by decide, by decide, by decide +kernel⟩
theorem yw_X0_valueOf : YW yX0_valueOf cX0_valueOf 2 (some .float) 1 := ⟨lw_in (i := 968) (by decide +kernel) (by decide +kernel), lw_in (i := 132) (by decide +kernel) (by decide +kernel), by decide, by decide, by decide +kernel⟩
theorem yw_X10_addText : YW yX10_addText cX10_addText 2 (some .int) 1 := ⟨lw_in (i := 713) (by decide +kernel) (by decide +kernel), lw_in (i := 128) (by decide +kernel) (by decide +kernel), by decide, by decide, by decide +kernel⟩
theorem yw_X10_become : YW yX10_become cX10_become 3 none 1 := ⟨lw_in (i := 1386) (by decide +kernel) (by decide +kernel), lw_in (i := 128) (by decide +kernel) (by decide +kernel), by decide, by decide, by decide +kernel⟩
theorem yw_X10_init : YW yX10_init cX10_init 2 none 1 := ⟨lw_in (i := 261) (by decide +kernel) (by decide +kernel), lw_in (i := 128) (by decide +kernel) (by decide +kernel), by decide, by decide, by decide +kernel⟩
theorem yw_X10_remember : YW yX10_remember cX10_remember 2 none 0 := ⟨lw_in (i := 729) (by decide +kernel) (by decide +kernel), lw_in (i := 128) (by decide +kernel) (by decide +kernel), by decide, by decide, by decide +kernel⟩
theorem yw_X10_takeBack : YW yX10_takeBack cX10_takeBack 2 (some .int) 0 := ⟨lw_in (i := 1010) (by decide +kernel) (by decide +kernel), lw_in (i := 128) (by decide +kernel) (by decide +kernel), by decide, by decide, by decide +kernel⟩
theorem yw_X10_textAt : YW yX10_textAt cX10_textAt 2 (some (.object "FencedStates$Machine")) 1 := ⟨lw_in (i := 725) (by decide +kernel) (by decide +kernel), lw_in (i := 128) (by decide +kernel) (by decide +kernel), by decide, by decide, by decide +kernel⟩
theorem yw_X11_chosen : YW yX11_chosen cX11_chosen 2 (some .int) 1 := ⟨lw_in (i := 1322) (by decide +kernel) (by decide +kernel), lw_in (i := 125) (by decide +kernel) (by decide +kernel), by decide, by decide, by decide +kernel⟩
theorem yw_X11_countOrState : YW yX11_countOrState cX11_countOrState 3 (some .int) 2 := ⟨lw_in (i := 1034) (by decide +kernel) (by decide +kernel), lw_in (i := 125) (by decide +kernel) (by decide +kernel), by decide, by decide, by decide +kernel⟩
theorem yw_X11_cubePart : YW yX11_cubePart cX11_cubePart 5 (some .int) 5 := ⟨lw_in (i := 1096) (by decide +kernel) (by decide +kernel), lw_in (i := 125) (by decide +kernel) (by decide +kernel), by decide, by decide, by decide +kernel⟩
theorem yw_X11_distanceBy : YW yX11_distanceBy cX11_distanceBy 4 (some .int) 2 := ⟨lw_in (i := 1171) (by decide +kernel) (by decide +kernel), lw_in (i := 125) (by decide +kernel) (by decide +kernel), by decide, by decide, by decide +kernel⟩
theorem yw_X11_judged : YW yX11_judged cX11_judged 3 (some .int) 1 := ⟨lw_in (i := 1266) (by decide +kernel) (by decide +kernel), lw_in (i := 125) (by decide +kernel) (by decide +kernel), by decide, by decide, by decide +kernel⟩
theorem yw_X11_leaveOut : YW yX11_leaveOut cX11_leaveOut 5 (some .int) 1 := ⟨lw_in (i := 1313) (by decide +kernel) (by decide +kernel), lw_in (i := 125) (by decide +kernel) (by decide +kernel), by decide, by decide, by decide +kernel⟩
theorem yw_X11_pathPart : YW yX11_pathPart cX11_pathPart 4 (some .int) 3 := ⟨lw_in (i := 1120) (by decide +kernel) (by decide +kernel), lw_in (i := 125) (by decide +kernel) (by decide +kernel), by decide, by decide, by decide +kernel⟩
theorem yw_X11_putBytes : YW yX11_putBytes cX11_putBytes 3 none 1 := ⟨lw_in (i := 470) (by decide +kernel) (by decide +kernel), lw_in (i := 125) (by decide +kernel) (by decide +kernel), by decide, by decide, by decide +kernel⟩
theorem yw_X11_rowOf : YW yX11_rowOf cX11_rowOf 3 (some (.object "FencedStates$CubeRow")) 1 := ⟨lw_in (i := 1270) (by decide +kernel) (by decide +kernel), lw_in (i := 125) (by decide +kernel) (by decide +kernel), by decide, by decide, by decide +kernel⟩
theorem yw_X11_startIn : YW yX11_startIn cX11_startIn 2 (some .int) 1 := ⟨lw_in (i := 1274) (by decide +kernel) (by decide +kernel), lw_in (i := 125) (by decide +kernel) (by decide +kernel), by decide, by decide, by decide +kernel⟩
theorem yw_X1_choose : YW yX1_choose cX1_choose 7 (some .int) 3 := ⟨lw_in (i := 1326) (by decide +kernel) (by decide +kernel), lw_in (i := 133) (by decide +kernel) (by decide +kernel), by decide, by decide, by decide +kernel⟩
theorem yw_X1_firstOf : YW yX1_firstOf cX1_firstOf 7 (some .int) 3 := ⟨lw_in (i := 1336) (by decide +kernel) (by decide +kernel), lw_in (i := 133) (by decide +kernel) (by decide +kernel), by decide, by decide, by decide +kernel⟩
theorem yw_X1_init : YW yX1_init cX1_init 1 none 0 := ⟨lw_in (i := 414) (by decide +kernel) (by decide +kernel), lw_in (i := 133) (by decide +kernel) (by decide +kernel), by decide, by decide, by decide +kernel⟩
theorem yw_X1_nextOfLikeMany : YW yX1_nextOfLikeMany cX1_nextOfLikeMany 2 (some .int) 1 := ⟨lw_in (i := 1344) (by decide +kernel) (by decide +kernel), lw_in (i := 133) (by decide +kernel) (by decide +kernel), by decide, by decide, by decide +kernel⟩
theorem yw_X1_suffices : YW yX1_suffices cX1_suffices 10 (some .boolean) 3 := ⟨lw_in (i := 1340) (by decide +kernel) (by decide +kernel), lw_in (i := 133) (by decide +kernel) (by decide +kernel), by decide, by decide, by decide +kernel⟩
theorem yw_X2_append : YW yX2_append cX2_append 2 none 1 := ⟨lw_in (i := 1240) (by decide +kernel) (by decide +kernel), lw_in (i := 130) (by decide +kernel) (by decide +kernel), by decide, by decide, by decide +kernel⟩
theorem yw_X2_become : YW yX2_become cX2_become 2 none 1 := ⟨lw_in (i := 737) (by decide +kernel) (by decide +kernel), lw_in (i := 130) (by decide +kernel) (by decide +kernel), by decide, by decide, by decide +kernel⟩
theorem yw_X2_change : YW yX2_change cX2_change 3 none 2 := ⟨lw_in (i := 1292) (by decide +kernel) (by decide +kernel), lw_in (i := 130) (by decide +kernel) (by decide +kernel), by decide, by decide, by decide +kernel⟩
theorem yw_X2_countOf : YW yX2_countOf cX2_countOf 2 (some .int) 1 := ⟨lw_in (i := 877) (by decide +kernel) (by decide +kernel), lw_in (i := 130) (by decide +kernel) (by decide +kernel), by decide, by decide, by decide +kernel⟩
theorem yw_X2_cubeAt : YW yX2_cubeAt cX2_cubeAt 2 (some .int) 1 := ⟨lw_in (i := 1001) (by decide +kernel) (by decide +kernel), lw_in (i := 130) (by decide +kernel) (by decide +kernel), by decide, by decide, by decide +kernel⟩
theorem yw_X2_highestFrame : YW yX2_highestFrame cX2_highestFrame 1 (some .int) 0 := ⟨lw_in (i := 800) (by decide +kernel) (by decide +kernel), lw_in (i := 130) (by decide +kernel) (by decide +kernel), by decide, by decide, by decide +kernel⟩
theorem yw_X2_init : YW yX2_init cX2_init 1 none 0 := ⟨lw_in (i := 276) (by decide +kernel) (by decide +kernel), lw_in (i := 130) (by decide +kernel) (by decide +kernel), by decide, by decide, by decide +kernel⟩
theorem yw_X2_insert : YW yX2_insert cX2_insert 4 none 3 := ⟨lw_in (i := 872) (by decide +kernel) (by decide +kernel), lw_in (i := 130) (by decide +kernel) (by decide +kernel), by decide, by decide, by decide +kernel⟩
theorem yw_X2_isOf : YW yX2_isOf cX2_isOf 3 (some .boolean) 2 := ⟨lw_in (i := 997) (by decide +kernel) (by decide +kernel), lw_in (i := 130) (by decide +kernel) (by decide +kernel), by decide, by decide, by decide +kernel⟩
theorem yw_X2_lettersOf : YW yX2_lettersOf cX2_lettersOf 4 (some .int) 1 := ⟨lw_in (i := 1081) (by decide +kernel) (by decide +kernel), lw_in (i := 130) (by decide +kernel) (by decide +kernel), by decide, by decide, by decide +kernel⟩
theorem yw_X2_makeRoom : YW yX2_makeRoom cX2_makeRoom 2 none 1 := ⟨lw_in (i := 741) (by decide +kernel) (by decide +kernel), lw_in (i := 130) (by decide +kernel) (by decide +kernel), by decide, by decide, by decide +kernel⟩
theorem yw_X2_putLast : YW yX2_putLast cX2_putLast 5 none 2 := ⟨lw_in (i := 864) (by decide +kernel) (by decide +kernel), lw_in (i := 130) (by decide +kernel) (by decide +kernel), by decide, by decide, by decide +kernel⟩
theorem yw_X2_removeAt : YW yX2_removeAt cX2_removeAt 3 none 1 := ⟨lw_in (i := 1258) (by decide +kernel) (by decide +kernel), lw_in (i := 130) (by decide +kernel) (by decide +kernel), by decide, by decide, by decide +kernel⟩
theorem yw_X2_startOf : YW yX2_startOf cX2_startOf 3 (some .int) 1 := ⟨lw_in (i := 847) (by decide +kernel) (by decide +kernel), lw_in (i := 130) (by decide +kernel) (by decide +kernel), by decide, by decide, by decide +kernel⟩
theorem yw_X2_statesAt : YW yX2_statesAt cX2_statesAt 2 (some .long) 1 := ⟨lw_in (i := 1330) (by decide +kernel) (by decide +kernel), lw_in (i := 130) (by decide +kernel) (by decide +kernel), by decide, by decide, by decide +kernel⟩
theorem yw_X2_takeFrom : YW yX2_takeFrom cX2_takeFrom 4 none 2 := ⟨lw_in (i := 1248) (by decide +kernel) (by decide +kernel), lw_in (i := 130) (by decide +kernel) (by decide +kernel), by decide, by decide, by decide +kernel⟩
theorem yw_X2_unionBut : YW yX2_unionBut cX2_unionBut 5 (some .long) 1 := ⟨lw_in (i := 1287) (by decide +kernel) (by decide +kernel), lw_in (i := 130) (by decide +kernel) (by decide +kernel), by decide, by decide, by decide +kernel⟩
theorem yw_X2_unionFrom : YW yX2_unionFrom cX2_unionFrom 5 (some .long) 1 := ⟨lw_in (i := 851) (by decide +kernel) (by decide +kernel), lw_in (i := 130) (by decide +kernel) (by decide +kernel), by decide, by decide, by decide +kernel⟩
theorem yw_X3_bitsOf : YW yX3_bitsOf cX3_bitsOf 1 (some .int) 1 := ⟨lw_in (i := 837) (by decide +kernel) (by decide +kernel), lw_in (i := 144) (by decide +kernel) (by decide +kernel), by decide, by decide, by decide +kernel⟩
theorem yw_X3_cubeOf : YW yX3_cubeOf cX3_cubeOf 2 (some .int) 2 := ⟨lw_in (i := 816) (by decide +kernel) (by decide +kernel), lw_in (i := 144) (by decide +kernel) (by decide +kernel), by decide, by decide, by decide +kernel⟩
theorem yw_X3_liesIn : YW yX3_liesIn cX3_liesIn 3 (some .boolean) 2 := ⟨lw_in (i := 867) (by decide +kernel) (by decide +kernel), lw_in (i := 144) (by decide +kernel) (by decide +kernel), by decide, by decide, by decide +kernel⟩
theorem yw_X3_maskOf : YW yX3_maskOf cX3_maskOf 1 (some .int) 1 := ⟨lw_in (i := 834) (by decide +kernel) (by decide +kernel), lw_in (i := 144) (by decide +kernel) (by decide +kernel), by decide, by decide, by decide +kernel⟩
theorem yw_X3_statesOf : YW yX3_statesOf cX3_statesOf 7 (some .long) 1 := ⟨lw_in (i := 831) (by decide +kernel) (by decide +kernel), lw_in (i := 144) (by decide +kernel) (by decide +kernel), by decide, by decide, by decide +kernel⟩
theorem yw_X3_without : YW yX3_without cX3_without 3 (some .int) 2 := ⟨lw_in (i := 971) (by decide +kernel) (by decide +kernel), lw_in (i := 144) (by decide +kernel) (by decide +kernel), by decide, by decide, by decide +kernel⟩
theorem yw_X4_ofDouble : YW yX4_ofDouble cX4_ofDouble 7 (some .long) 1 := ⟨lw_in (i := 1375) (by decide +kernel) (by decide +kernel), lw_in (i := 148) (by decide +kernel) (by decide +kernel), by decide, by decide, by decide +kernel⟩
theorem yw_X4_ofFloat : YW yX4_ofFloat cX4_ofFloat 4 (some .int) 1 := ⟨lw_in (i := 1140) (by decide +kernel) (by decide +kernel), lw_in (i := 148) (by decide +kernel) (by decide +kernel), by decide, by decide, by decide +kernel⟩
theorem yw_X5_after : YW yX5_after cX5_after 10 (some .long) 2 := ⟨lw_in (i := 1179) (by decide +kernel) (by decide +kernel), lw_in (i := 127) (by decide +kernel) (by decide +kernel), by decide, by decide, by decide +kernel⟩
theorem yw_X5_before : YW yX5_before cX5_before 8 (some .long) 1 := ⟨lw_in (i := 860) (by decide +kernel) (by decide +kernel), lw_in (i := 127) (by decide +kernel) (by decide +kernel), by decide, by decide, by decide +kernel⟩
theorem yw_X5_bySeed : YW yX5_bySeed cX5_bySeed 6 (some (.object "FencedStates$Machine")) 2 := ⟨lw_in (i := 784) (by decide +kernel) (by decide +kernel), lw_in (i := 127) (by decide +kernel) (by decide +kernel), by decide, by decide, by decide +kernel⟩
theorem yw_X5_comeToBy : YW yX5_comeToBy cX5_comeToBy 7 (some .long) 1 := ⟨lw_in (i := 1227) (by decide +kernel) (by decide +kernel), lw_in (i := 127) (by decide +kernel) (by decide +kernel), by decide, by decide, by decide +kernel⟩
theorem yw_X5_comingTo : YW yX5_comingTo cX5_comingTo 9 (some .long) 2 := ⟨lw_in (i := 1198) (by decide +kernel) (by decide +kernel), lw_in (i := 127) (by decide +kernel) (by decide +kernel), by decide, by decide, by decide +kernel⟩
theorem yw_X5_fillFars : YW yX5_fillFars cX5_fillFars 9 (some .int) 2 := ⟨lw_in (i := 1210) (by decide +kernel) (by decide +kernel), lw_in (i := 127) (by decide +kernel) (by decide +kernel), by decide, by decide, by decide +kernel⟩
theorem yw_X5_fillShortest : YW yX5_fillShortest cX5_fillShortest 10 (some .int) 3 := ⟨lw_in (i := 1206) (by decide +kernel) (by decide +kernel), lw_in (i := 127) (by decide +kernel) (by decide +kernel), by decide, by decide, by decide +kernel⟩
theorem yw_X5_hasAim : YW yX5_hasAim cX5_hasAim 2 (some .boolean) 1 := ⟨lw_in (i := 792) (by decide +kernel) (by decide +kernel), lw_in (i := 127) (by decide +kernel) (by decide +kernel), by decide, by decide, by decide +kernel⟩
theorem yw_X5_hasCube : YW yX5_hasCube cX5_hasCube 3 (some .boolean) 2 := ⟨lw_in (i := 813) (by decide +kernel) (by decide +kernel), lw_in (i := 127) (by decide +kernel) (by decide +kernel), by decide, by decide, by decide +kernel⟩
theorem yw_X5_hasState : YW yX5_hasState cX5_hasState 2 (some .boolean) 1 := ⟨lw_in (i := 1022) (by decide +kernel) (by decide +kernel), lw_in (i := 127) (by decide +kernel) (by decide +kernel), by decide, by decide, by decide +kernel⟩
theorem yw_X5_init : YW yX5_init cX5_init 8 none 4 := ⟨lw_in (i := 223) (by decide +kernel) (by decide +kernel), lw_in (i := 127) (by decide +kernel) (by decide +kernel), by decide, by decide, by decide +kernel⟩
theorem yw_X5_inputBetween : YW yX5_inputBetween cX5_inputBetween 4 (some .int) 2 := ⟨lw_in (i := 1124) (by decide +kernel) (by decide +kernel), lw_in (i := 127) (by decide +kernel) (by decide +kernel), by decide, by decide, by decide +kernel⟩
theorem yw_X5_leadingTo : YW yX5_leadingTo cX5_leadingTo 2 (some .long) 1 := ⟨lw_in (i := 941) (by decide +kernel) (by decide +kernel), lw_in (i := 127) (by decide +kernel) (by decide +kernel), by decide, by decide, by decide +kernel⟩
theorem yw_X5_next : YW yX5_next cX5_next 4 (some .int) 2 := ⟨lw_in (i := 1026) (by decide +kernel) (by decide +kernel), lw_in (i := 127) (by decide +kernel) (by decide +kernel), by decide, by decide, by decide +kernel⟩
theorem yw_X5_plain : YW yX5_plain cX5_plain 3 (some (.object "FencedStates$Machine")) 0 := ⟨lw_in (i := 218) (by decide +kernel) (by decide +kernel), lw_in (i := 127) (by decide +kernel) (by decide +kernel), by decide, by decide, by decide +kernel⟩
theorem yw_X5_stepsBetween : YW yX5_stepsBetween cX5_stepsBetween 10 (some .int) 2 := ⟨lw_in (i := 1189) (by decide +kernel) (by decide +kernel), lw_in (i := 127) (by decide +kernel) (by decide +kernel), by decide, by decide, by decide +kernel⟩
theorem yw_X5_stepsTo : YW yX5_stepsTo cX5_stepsTo 9 (some .int) 2 := ⟨lw_in (i := 1175) (by decide +kernel) (by decide +kernel), lw_in (i := 127) (by decide +kernel) (by decide +kernel), by decide, by decide, by decide +kernel⟩
theorem yw_X6_add : YW yX6_add cX6_add 7 none 4 := ⟨lw_in (i := 912) (by decide +kernel) (by decide +kernel), lw_in (i := 131) (by decide +kernel) (by decide +kernel), by decide, by decide, by decide +kernel⟩
theorem yw_X6_become : YW yX6_become cX6_become 2 none 1 := ⟨lw_in (i := 755) (by decide +kernel) (by decide +kernel), lw_in (i := 131) (by decide +kernel) (by decide +kernel), by decide, by decide, by decide +kernel⟩
theorem yw_X6_comesFirst : YW yX6_comesFirst cX6_comesFirst 5 (some .boolean) 3 := ⟨lw_in (i := 916) (by decide +kernel) (by decide +kernel), lw_in (i := 131) (by decide +kernel) (by decide +kernel), by decide, by decide, by decide +kernel⟩
theorem yw_X6_dropFirst : YW yX6_dropFirst cX6_dropFirst 1 none 0 := ⟨lw_in (i := 929) (by decide +kernel) (by decide +kernel), lw_in (i := 131) (by decide +kernel) (by decide +kernel), by decide, by decide, by decide +kernel⟩
theorem yw_X6_fillChain : YW yX6_fillChain cX6_fillChain 4 (some .int) 1 := ⟨lw_in (i := 1112) (by decide +kernel) (by decide +kernel), lw_in (i := 131) (by decide +kernel) (by decide +kernel), by decide, by decide, by decide +kernel⟩
theorem yw_X6_init : YW yX6_init cX6_init 1 none 0 := ⟨lw_in (i := 298) (by decide +kernel) (by decide +kernel), lw_in (i := 131) (by decide +kernel) (by decide +kernel), by decide, by decide, by decide +kernel⟩
theorem yw_X6_makeRoom : YW yX6_makeRoom cX6_makeRoom 2 none 1 := ⟨lw_in (i := 759) (by decide +kernel) (by decide +kernel), lw_in (i := 131) (by decide +kernel) (by decide +kernel), by decide, by decide, by decide +kernel⟩
theorem yw_X6_part : YW yX6_part cX6_part 4 (some .int) 2 := ⟨lw_in (i := 920) (by decide +kernel) (by decide +kernel), lw_in (i := 131) (by decide +kernel) (by decide +kernel), by decide, by decide, by decide +kernel⟩
theorem yw_X6_placeOf : YW yX6_placeOf cX6_placeOf 3 (some .int) 1 := ⟨lw_in (i := 1116) (by decide +kernel) (by decide +kernel), lw_in (i := 131) (by decide +kernel) (by decide +kernel), by decide, by decide, by decide +kernel⟩
theorem yw_X7_addToken : YW yX7_addToken cX7_addToken 4 none 3 := ⟨lw_in (i := 567) (by decide +kernel) (by decide +kernel), lw_in (i := 126) (by decide +kernel) (by decide +kernel), by decide, by decide, by decide +kernel⟩
theorem yw_X7_fail : YW yX7_fail cX7_fail 2 none 1 := ⟨lw_in (i := 644) (by decide +kernel) (by decide +kernel), lw_in (i := 126) (by decide +kernel) (by decide +kernel), by decide, by decide, by decide +kernel⟩
theorem yw_X7_faultOf : YW yX7_faultOf cX7_faultOf 1 (some .int) 1 := ⟨lw_in (i := 672) (by decide +kernel) (by decide +kernel), lw_in (i := 126) (by decide +kernel) (by decide +kernel), by decide, by decide, by decide +kernel⟩
theorem yw_X7_forget : YW yX7_forget cX7_forget 2 none 0 := ⟨lw_in (i := 486) (by decide +kernel) (by decide +kernel), lw_in (i := 126) (by decide +kernel) (by decide +kernel), by decide, by decide, by decide +kernel⟩
theorem yw_X7_goOn : YW yX7_goOn cX7_goOn 1 none 0 := ⟨lw_in (i := 640) (by decide +kernel) (by decide +kernel), lw_in (i := 126) (by decide +kernel) (by decide +kernel), by decide, by decide, by decide +kernel⟩
theorem yw_X7_init : YW yX7_init cX7_init 1 none 0 := ⟨lw_in (i := 163) (by decide +kernel) (by decide +kernel), lw_in (i := 126) (by decide +kernel) (by decide +kernel), by decide, by decide, by decide +kernel⟩
theorem yw_X7_isDigit : YW yX7_isDigit cX7_isDigit 1 (some .boolean) 1 := ⟨lw_in (i := 570) (by decide +kernel) (by decide +kernel), lw_in (i := 126) (by decide +kernel) (by decide +kernel), by decide, by decide, by decide +kernel⟩
theorem yw_X7_isSign : YW yX7_isSign cX7_isSign 2 (some .boolean) 1 := ⟨lw_in (i := 652) (by decide +kernel) (by decide +kernel), lw_in (i := 126) (by decide +kernel) (by decide +kernel), by decide, by decide, by decide +kernel⟩
theorem yw_X7_isSmall : YW yX7_isSmall cX7_isSmall 1 (some .boolean) 1 := ⟨lw_in (i := 501) (by decide +kernel) (by decide +kernel), lw_in (i := 126) (by decide +kernel) (by decide +kernel), by decide, by decide, by decide +kernel⟩
theorem yw_X7_isWord : YW yX7_isWord cX7_isWord 5 (some .boolean) 4 := ⟨lw_in (i := 512) (by decide +kernel) (by decide +kernel), lw_in (i := 126) (by decide +kernel) (by decide +kernel), by decide, by decide, by decide +kernel⟩
theorem yw_X7_kindOfWord : YW yX7_kindOfWord cX7_kindOfWord 3 (some .int) 3 := ⟨lw_in (i := 508) (by decide +kernel) (by decide +kernel), lw_in (i := 126) (by decide +kernel) (by decide +kernel), by decide, by decide, by decide +kernel⟩
theorem yw_X7_machine : YW yX7_machine cX7_machine 4 (some (.object "FencedStates$Machine")) 0 := ⟨lw_in (i := 689) (by decide +kernel) (by decide +kernel), lw_in (i := 126) (by decide +kernel) (by decide +kernel), by decide, by decide, by decide +kernel⟩
theorem yw_X7_readAll : YW yX7_readAll cX7_readAll 4 none 2 := ⟨lw_in (i := 482) (by decide +kernel) (by decide +kernel), lw_in (i := 126) (by decide +kernel) (by decide +kernel), by decide, by decide, by decide +kernel⟩
theorem yw_X7_readBad : YW yX7_readBad cX7_readBad 1 none 0 := ⟨lw_in (i := 677) (by decide +kernel) (by decide +kernel), lw_in (i := 126) (by decide +kernel) (by decide +kernel), by decide, by decide, by decide +kernel⟩
theorem yw_X7_readForInputs : YW yX7_readForInputs cX7_readForInputs 3 none 1 := ⟨lw_in (i := 685) (by decide +kernel) (by decide +kernel), lw_in (i := 126) (by decide +kernel) (by decide +kernel), by decide, by decide, by decide +kernel⟩
theorem yw_X7_readForm : YW yX7_readForm cX7_readForm 8 (some .long) 2 := ⟨lw_in (i := 660) (by decide +kernel) (by decide +kernel), lw_in (i := 126) (by decide +kernel) (by decide +kernel), by decide, by decide, by decide +kernel⟩
theorem yw_X7_readInit : YW yX7_readInit cX7_readInit 1 none 0 := ⟨lw_in (i := 656) (by decide +kernel) (by decide +kernel), lw_in (i := 126) (by decide +kernel) (by decide +kernel), by decide, by decide, by decide +kernel⟩
theorem yw_X7_readLetters : YW yX7_readLetters cX7_readLetters 2 none 0 := ⟨lw_in (i := 636) (by decide +kernel) (by decide +kernel), lw_in (i := 126) (by decide +kernel) (by decide +kernel), by decide, by decide, by decide +kernel⟩
theorem yw_X7_readNext : YW yX7_readNext cX7_readNext 2 none 0 := ⟨lw_in (i := 681) (by decide +kernel) (by decide +kernel), lw_in (i := 126) (by decide +kernel) (by decide +kernel), by decide, by decide, by decide +kernel⟩
theorem yw_X7_readOne : YW yX7_readOne cX7_readOne 5 (some .long) 1 := ⟨lw_in (i := 665) (by decide +kernel) (by decide +kernel), lw_in (i := 126) (by decide +kernel) (by decide +kernel), by decide, by decide, by decide +kernel⟩
theorem yw_X7_readPlain : YW yX7_readPlain cX7_readPlain 3 (some .long) 0 := ⟨lw_in (i := 669) (by decide +kernel) (by decide +kernel), lw_in (i := 126) (by decide +kernel) (by decide +kernel), by decide, by decide, by decide +kernel⟩
theorem yw_X7_takeNumber : YW yX7_takeNumber cX7_takeNumber 6 (some .int) 3 := ⟨lw_in (i := 574) (by decide +kernel) (by decide +kernel), lw_in (i := 126) (by decide +kernel) (by decide +kernel), by decide, by decide, by decide +kernel⟩
theorem yw_X7_takeSign : YW yX7_takeSign cX7_takeSign 2 none 1 := ⟨lw_in (i := 648) (by decide +kernel) (by decide +kernel), lw_in (i := 126) (by decide +kernel) (by decide +kernel), by decide, by decide, by decide +kernel⟩
theorem yw_X7_takeTokens : YW yX7_takeTokens cX7_takeTokens 6 none 2 := ⟨lw_in (i := 498) (by decide +kernel) (by decide +kernel), lw_in (i := 126) (by decide +kernel) (by decide +kernel), by decide, by decide, by decide +kernel⟩
theorem yw_X7_takeWord : YW yX7_takeWord cX7_takeWord 6 (some .int) 3 := ⟨lw_in (i := 505) (by decide +kernel) (by decide +kernel), lw_in (i := 126) (by decide +kernel) (by decide +kernel), by decide, by decide, by decide +kernel⟩
theorem yw_X8_aimStates : YW yX8_aimStates cX8_aimStates 1 (some .long) 0 := ⟨lw_in (i := 906) (by decide +kernel) (by decide +kernel), lw_in (i := 129) (by decide +kernel) (by decide +kernel), by decide, by decide, by decide +kernel⟩
theorem yw_X8_badWithin : YW yX8_badWithin cX8_badWithin 2 (some .long) 1 := ⟨lw_in (i := 902) (by decide +kernel) (by decide +kernel), lw_in (i := 129) (by decide +kernel) (by decide +kernel), by decide, by decide, by decide +kernel⟩
theorem yw_X8_become : YW yX8_become cX8_become 2 none 1 := ⟨lw_in (i := 733) (by decide +kernel) (by decide +kernel), lw_in (i := 129) (by decide +kernel) (by decide +kernel), by decide, by decide, by decide +kernel⟩
theorem yw_X8_begin : YW yX8_begin cX8_begin 2 none 1 := ⟨lw_in (i := 770) (by decide +kernel) (by decide +kernel), lw_in (i := 129) (by decide +kernel) (by decide +kernel), by decide, by decide, by decide +kernel⟩
theorem yw_X8_canBar : YW yX8_canBar cX8_canBar 3 (some .boolean) 2 := ⟨lw_in (i := 820) (by decide +kernel) (by decide +kernel), lw_in (i := 129) (by decide +kernel) (by decide +kernel), by decide, by decide, by decide +kernel⟩
theorem yw_X8_fenceStart : YW yX8_fenceStart cX8_fenceStart 1 (some .int) 0 := ⟨lw_in (i := 1133) (by decide +kernel) (by decide +kernel), lw_in (i := 129) (by decide +kernel) (by decide +kernel), by decide, by decide, by decide +kernel⟩
theorem yw_X8_goOn : YW yX8_goOn cX8_goOn 3 (some .int) 1 := ⟨lw_in (i := 889) (by decide +kernel) (by decide +kernel), lw_in (i := 129) (by decide +kernel) (by decide +kernel), by decide, by decide, by decide +kernel⟩
theorem yw_X8_hasCubeFrame : YW yX8_hasCubeFrame cX8_hasCubeFrame 2 (some .boolean) 1 := ⟨lw_in (i := 824) (by decide +kernel) (by decide +kernel), lw_in (i := 129) (by decide +kernel) (by decide +kernel), by decide, by decide, by decide +kernel⟩
theorem yw_X8_hasFrame : YW yX8_hasFrame cX8_hasFrame 2 (some .boolean) 1 := ⟨lw_in (i := 1057) (by decide +kernel) (by decide +kernel), lw_in (i := 129) (by decide +kernel) (by decide +kernel), by decide, by decide, by decide +kernel⟩
theorem yw_X8_hasInit : YW yX8_hasInit cX8_hasInit 2 (some .boolean) 1 := ⟨lw_in (i := 828) (by decide +kernel) (by decide +kernel), lw_in (i := 129) (by decide +kernel) (by decide +kernel), by decide, by decide, by decide +kernel⟩
theorem yw_X8_highestFor : YW yX8_highestFor cX8_highestFor 5 (some .int) 2 := ⟨lw_in (i := 976) (by decide +kernel) (by decide +kernel), lw_in (i := 129) (by decide +kernel) (by decide +kernel), by decide, by decide, by decide +kernel⟩
theorem yw_X8_init : YW yX8_init cX8_init 2 none 1 := ⟨lw_in (i := 270) (by decide +kernel) (by decide +kernel), lw_in (i := 129) (by decide +kernel) (by decide +kernel), by decide, by decide, by decide +kernel⟩
theorem yw_X8_isOver : YW yX8_isOver cX8_isOver 1 (some .boolean) 0 := ⟨lw_in (i := 885) (by decide +kernel) (by decide +kernel), lw_in (i := 129) (by decide +kernel) (by decide +kernel), by decide, by decide, by decide +kernel⟩
theorem yw_X8_judgementOf : YW yX8_judgementOf cX8_judgementOf 3 (some .int) 1 := ⟨lw_in (i := 1279) (by decide +kernel) (by decide +kernel), lw_in (i := 129) (by decide +kernel) (by decide +kernel), by decide, by decide, by decide +kernel⟩
theorem yw_X8_keepsOut : YW yX8_keepsOut cX8_keepsOut 6 (some .boolean) 2 := ⟨lw_in (i := 856) (by decide +kernel) (by decide +kernel), lw_in (i := 129) (by decide +kernel) (by decide +kernel), by decide, by decide, by decide +kernel⟩
theorem yw_X8_loosenClaim : YW yX8_loosenClaim cX8_loosenClaim 7 (some .int) 1 := ⟨lw_in (i := 1283) (by decide +kernel) (by decide +kernel), lw_in (i := 129) (by decide +kernel) (by decide +kernel), by decide, by decide, by decide +kernel⟩
theorem yw_X8_lowestAhead : YW yX8_lowestAhead cX8_lowestAhead 3 (some .int) 2 := ⟨lw_in (i := 937) (by decide +kernel) (by decide +kernel), lw_in (i := 129) (by decide +kernel) (by decide +kernel), by decide, by decide, by decide +kernel⟩
theorem yw_X8_meet : YW yX8_meet cX8_meet 5 none 2 := ⟨lw_in (i := 933) (by decide +kernel) (by decide +kernel), lw_in (i := 129) (by decide +kernel) (by decide +kernel), by decide, by decide, by decide +kernel⟩
theorem yw_X8_oblige : YW yX8_oblige cX8_oblige 3 none 0 := ⟨lw_in (i := 924) (by decide +kernel) (by decide +kernel), lw_in (i := 129) (by decide +kernel) (by decide +kernel), by decide, by decide, by decide +kernel⟩
theorem yw_X8_push : YW yX8_push cX8_push 7 none 0 := ⟨lw_in (i := 993) (by decide +kernel) (by decide +kernel), lw_in (i := 129) (by decide +kernel) (by decide +kernel), by decide, by decide, by decide +kernel⟩
theorem yw_X8_seek : YW yX8_seek cX8_seek 4 none 0 := ⟨lw_in (i := 894) (by decide +kernel) (by decide +kernel), lw_in (i := 129) (by decide +kernel) (by decide +kernel), by decide, by decide, by decide +kernel⟩
theorem yw_X8_soughtStates : YW yX8_soughtStates cX8_soughtStates 8 (some .long) 0 := ⟨lw_in (i := 898) (by decide +kernel) (by decide +kernel), lw_in (i := 129) (by decide +kernel) (by decide +kernel), by decide, by decide, by decide +kernel⟩
theorem yw_X8_statesWithin : YW yX8_statesWithin cX8_statesWithin 2 (some .long) 1 := ⟨lw_in (i := 843) (by decide +kernel) (by decide +kernel), lw_in (i := 129) (by decide +kernel) (by decide +kernel), by decide, by decide, by decide +kernel⟩
theorem yw_X8_tellAim : YW yX8_tellAim cX8_tellAim 2 none 1 := ⟨lw_in (i := 796) (by decide +kernel) (by decide +kernel), lw_in (i := 129) (by decide +kernel) (by decide +kernel), by decide, by decide, by decide +kernel⟩
theorem yw_X8_widen : YW yX8_widen cX8_widen 9 (some .int) 3 := ⟨lw_in (i := 955) (by decide +kernel) (by decide +kernel), lw_in (i := 129) (by decide +kernel) (by decide +kernel), by decide, by decide, by decide +kernel⟩
theorem yw_X8_witnessOf : YW yX8_witnessOf cX8_witnessOf 3 (some .int) 1 := ⟨lw_in (i := 1305) (by decide +kernel) (by decide +kernel), lw_in (i := 129) (by decide +kernel) (by decide +kernel), by decide, by decide, by decide +kernel⟩
theorem yw_X9_has : YW yX9_has cX9_has 3 (some .boolean) 2 := ⟨lw_in (i := 692) (by decide +kernel) (by decide +kernel), lw_in (i := 142) (by decide +kernel) (by decide +kernel), by decide, by decide, by decide +kernel⟩
theorem yw_X9_lowest : YW yX9_lowest cX9_lowest 2 (some .int) 1 := ⟨lw_in (i := 944) (by decide +kernel) (by decide +kernel), lw_in (i := 142) (by decide +kernel) (by decide +kernel), by decide, by decide, by decide +kernel⟩
theorem yw_X9_stateAt : YW yX9_stateAt cX9_stateAt 5 (some .int) 2 := ⟨lw_in (i := 1043) (by decide +kernel) (by decide +kernel), lw_in (i := 142) (by decide +kernel) (by decide +kernel), by decide, by decide, by decide +kernel⟩
