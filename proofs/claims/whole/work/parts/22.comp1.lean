def m_X3_without (p0 : Int32) (p1 : Int32) : Option (Int32) :=
  (m_X3_maskOf p0).bind fun zx1 =>
  (m_X3_bitsOf p0).bind fun zx2 =>
  (m_X3_cubeOf (zx1 &&& (((1 : Int32) <<< (p1 &&& 31)) ^^^ (-1 : Int32))) (zx2 &&& (((1 : Int32) <<< (p1 &&& 31)) ^^^ (-1 : Int32)))).bind fun zx3 =>
  some zx3
set_option maxRecDepth 100000 in
set_option maxHeartbeats 4000000 in
theorem c_X3_without {nx : Nat} {ce : Ce} {p0 : Int32} {p1 : Int32} {q : Int32} (hr : m_X3_without p0 p1 = some q) : Ct yX3_without cX3_without 3 (some .int) 1 21 0 0 [.int p0, .int p1] nx ce (some (.int q)) ce := by
  unfold m_X3_without at hr
  refine ct_of (by decide) (Nat.le_of_ble_eq_true rfl) ?_
  intro G C hq hret hin
  show Jd G 0 0 nx ce 0 [(0, .int p0), (1, .int p1)] []
  refine j_iconst (v := 1) (pc' := 1) C dX3_without_0 kI_1 rfl ?_
  refine j_iload_n (q := 1) (pc' := 2) C dX3_without_1 rfl rfl rfl ?_
  refine j_ishl (pc' := 3) C dX3_without_2 rfl ?_
  refine j_istore_n (lv' := [(2, .int ((1 : Int32) <<< (p1 &&& 31))), (0, .int p0), (1, .int p1)]) (pc' := 4) C dX3_without_3 rfl (by decide) rfl rfl ?_
  refine j_iload_n (q := 1) (pc' := 5) C dX3_without_4 rfl rfl rfl ?_
  obtain ⟨zx1, hzx1, hr⟩ := ob hr
  refine j_callS (As := [.int p0]) (rest := []) (st1 := [.int zx1]) (pc' := 8) C wm_833 (c_X3_maskOf (nx := nx) (ce := ce) hzx1) yw_X3_maskOf wm_832 rfl rfl (Nat.le_of_ble_eq_true rfl) ⟨by decide, by decide⟩ dX3_without_5 rfl rfl ?_
  refine j_iload_n (q := 0) (pc' := 9) C dX3_without_8 rfl rfl rfl ?_
  refine j_iconst (v := -1) (pc' := 10) C dX3_without_9 kI_m1 rfl ?_
  refine j_ixor (pc' := 11) C dX3_without_10 rfl ?_
  refine j_iand (pc' := 12) C dX3_without_11 rfl ?_
  refine j_iload_n (q := 1) (pc' := 13) C dX3_without_12 rfl rfl rfl ?_
  obtain ⟨zx2, hzx2, hr⟩ := ob hr
  refine j_callS (As := [.int p0]) (rest := [.int (zx1 &&& (((1 : Int32) <<< (p1 &&& 31)) ^^^ (-1 : Int32)))]) (st1 := [.int zx2, .int (zx1 &&& (((1 : Int32) <<< (p1 &&& 31)) ^^^ (-1 : Int32)))]) (pc' := 16) C wm_836 (c_X3_bitsOf (nx := nx) (ce := ce) hzx2) yw_X3_bitsOf wm_835 rfl rfl (Nat.le_of_ble_eq_true rfl) ⟨by decide, by decide⟩ dX3_without_13 rfl rfl ?_
  refine j_iload_n (q := 0) (pc' := 17) C dX3_without_16 rfl rfl rfl ?_
  refine j_iconst (v := -1) (pc' := 18) C dX3_without_17 kI_m1 rfl ?_
  refine j_ixor (pc' := 19) C dX3_without_18 rfl ?_
  refine j_iand (pc' := 20) C dX3_without_19 rfl ?_
  obtain ⟨zx3, hzx3, hr⟩ := ob hr
  refine j_callS (As := [.int (zx1 &&& (((1 : Int32) <<< (p1 &&& 31)) ^^^ (-1 : Int32))), .int (zx2 &&& (((1 : Int32) <<< (p1 &&& 31)) ^^^ (-1 : Int32)))]) (rest := []) (st1 := [.int zx3]) (pc' := 23) C wm_815 (c_X3_cubeOf (nx := nx) (ce := ce) hzx3) yw_X3_cubeOf wm_972 rfl rfl (Nat.le_of_ble_eq_true rfl) ⟨by decide, by decide⟩ dX3_without_20 rfl rfl ?_
  have hr := Option.some.inj hr
  subst hr
  exact j_iret C hq hret dX3_without_23
def m_X4_ofFloat (p0 : UInt32) : Option (Int32) :=
  (it (fun (zs1 : UInt32 × Int32 × Int32) =>
    if (200 : Int32) ≤ zs1.2.2 then
      some (Sum.inr (zs1.1, zs1.2.1))
    else
      if (Op.cmpValue (FP.fcmp zs1.1 FP.fconst2) .l) < 0 then
        some (Sum.inr (zs1.1, zs1.2.1))
      else
        (fq (FP.fdiv zs1.1 FP.fconst2)).bind fun zx9 =>
        some (Sum.inl (zx9, (zs1.2.1 + (1 : Int32)), (zs1.2.2 + (1 : Int32))))
  ) FU (p0, (0 : Int32), (0 : Int32))).bind fun (zo2 : UInt32 × Int32) =>
  (it (fun (zs4 : UInt32 × Int32 × Int32) =>
    if (200 : Int32) ≤ zs4.2.2 then
      some (Sum.inr (zs4.1, zs4.2.1))
    else
      if 0 ≤ (Op.cmpValue (FP.fcmp zs4.1 FP.fconst1) .g) then
        some (Sum.inr (zs4.1, zs4.2.1))
      else
        if zs4.2.1 ≤ (-126 : Int32) then
          some (Sum.inr (zs4.1, zs4.2.1))
        else
          (fq (FP.fmul zs4.1 FP.fconst2)).bind fun zx8 =>
          some (Sum.inl (zx8, (zs4.2.1 + (-1 : Int32)), (zs4.2.2 + (1 : Int32))))
  ) FU (zo2.1, zo2.2, (0 : Int32))).bind fun (zo5 : UInt32 × Int32) =>
  (fq (FP.fmul zo5.1 (1258291200 : UInt32))).bind fun zx7 =>
  if (8388608 : Int32) ≤ (FP.f2i zx7) then
    some (((zo5.2 - (-126 : Int32)) * (8388608 : Int32)) + (FP.f2i zx7))
  else
    some (FP.f2i zx7)
set_option maxRecDepth 100000 in
set_option maxHeartbeats 4000000 in
theorem c_X4_ofFloat {nx : Nat} {ce : Ce} {p0 : UInt32} {q : Int32} (hr : m_X4_ofFloat p0 = some q) : Ct yX4_ofFloat cX4_ofFloat 4 (some .int) 0 0 0 0 [.float p0] nx ce (some (.int q)) ce := by
  unfold m_X4_ofFloat at hr
  refine ct_of (by decide) (Nat.le_of_ble_eq_true rfl) ?_
  intro G C hq hret hin
  show Jd G 0 0 nx ce 0 [(0, .float p0)] []
  refine j_fload_n (q := 0) (pc' := 1) C dX4_ofFloat_0 rfl rfl rfl ?_
  refine j_fstore_n (lv' := [(1, .float p0), (0, .float p0)]) (pc' := 2) C dX4_ofFloat_1 rfl (by decide) rfl rfl ?_
  refine j_iconst (v := 0) (pc' := 3) C dX4_ofFloat_2 kI_0 rfl ?_
  refine j_istore_n (lv' := [(2, .int (0 : Int32)), (1, .float p0), (0, .float p0)]) (pc' := 4) C dX4_ofFloat_3 rfl (by decide) rfl rfl ?_
  refine j_iconst (v := 0) (pc' := 5) C dX4_ofFloat_4 kI_0 rfl ?_
  refine j_istore_n (lv' := [(3, .int (0 : Int32)), (2, .int (0 : Int32)), (1, .float p0), (0, .float p0)]) (pc' := 6) C dX4_ofFloat_5 rfl (by decide) rfl rfl ?_
  obtain ⟨zo2, hzo2, rzo2⟩ := ob hr
  have kzo2 : Jd G 0 0 nx ce 32 [(1, .float zo2.1), (2, .int zo2.2)] [] := by
    have hr := rzo2
    refine j_iconst (v := 0) (pc' := 33) C dX4_ofFloat_32 kI_0 rfl ?_
    refine j_istore_n (lv' := [(3, .int (0 : Int32)), (1, .float zo2.1), (2, .int zo2.2)]) (pc' := 34) C dX4_ofFloat_33 rfl (by decide) rfl rfl ?_
    obtain ⟨zo5, hzo5, rzo5⟩ := ob hr
    have kzo5 : Jd G 0 0 nx ce 66 [(1, .float zo5.1), (2, .int zo5.2)] [] := by
      have hr := rzo5
      refine j_fload_n (q := 0) (pc' := 67) C dX4_ofFloat_66 rfl rfl rfl ?_
      refine j_ldcf (pc' := 69) C dX4_ofFloat_67 wm_1141 rfl ?_
      obtain ⟨zx7, hzx7, hr⟩ := ob hr
      refine j_fmul (pc' := 70) C dX4_ofFloat_69 hzx7 rfl ?_
      refine j_f2i (pc' := 71) C dX4_ofFloat_70 rfl ?_
      refine j_istore_n (lv' := [(3, .int (FP.f2i zx7)), (1, .float zo5.1), (2, .int zo5.2)]) (pc' := 72) C dX4_ofFloat_71 rfl (by decide) rfl rfl ?_
      refine j_iload_n (q := 0) (pc' := 73) C dX4_ofFloat_72 rfl rfl rfl ?_
      refine j_ldc (pc' := 75) C dX4_ofFloat_73 wm_1142 rfl ?_
      refine j_ic_ge (tgt := 80) (pc' := 78) C dX4_ofFloat_75 rfl rfl (fun hc => ?_) (fun hc => ?_)
      · have hr := ifT hc hr
        clear hc
        refine j_iload_n (q := 2) (pc' := 81) C dX4_ofFloat_80 rfl rfl rfl ?_
        refine j_bipush (v := -126) (pc' := 83) C dX4_ofFloat_81 kB_m126 rfl ?_
        refine j_isub (pc' := 84) C dX4_ofFloat_83 rfl ?_
        refine j_ldc (pc' := 86) C dX4_ofFloat_84 wm_1142 rfl ?_
        refine j_imul (pc' := 87) C dX4_ofFloat_86 rfl ?_
        refine j_iload_n (q := 0) (pc' := 88) C dX4_ofFloat_87 rfl rfl rfl ?_
        refine j_iadd (pc' := 89) C dX4_ofFloat_88 rfl ?_
        have hr := Option.some.inj hr
        subst hr
        exact j_iret C hq hret dX4_ofFloat_89
      · have hr := ifF hc hr
        clear hc
        refine j_iload_n (q := 0) (pc' := 79) C dX4_ofFloat_78 rfl rfl rfl ?_
        have hr := Option.some.inj hr
        subst hr
        exact j_iret C hq hret dX4_ofFloat_79
    refine j_lv (lv' := [(1, .float zo2.1), (2, .int zo2.2), (3, .int (0 : Int32))]) [1, 2, 0] rfl ?_
    refine it_J (J := (fun (zs4 : UInt32 × Int32 × Int32) => Jd G 0 0 nx ce 34 [(1, .float zs4.1), (2, .int zs4.2.1), (3, .int zs4.2.2)] [])) ?_ hzo5
    clear hzo5
    intro zs4 zr6 hr izs4 ezs4
    refine j_iload_n (q := 2) (pc' := 35) C dX4_ofFloat_34 rfl rfl rfl ?_
    refine j_sipush (v := 200) (pc' := 38) C dX4_ofFloat_35 kS_200 rfl ?_
    refine j_ic_ge (tgt := 66) (pc' := 41) C dX4_ofFloat_38 rfl rfl (fun hc => ?_) (fun hc => ?_)
    · have hr := ifT hc hr
      clear hc
      have hr := ezs4 _ (Option.some.inj hr).symm
      subst hr
      exact j_lv [0, 1] rfl kzo5
    · have hr := ifF hc hr
      clear hc
      refine j_fload_n (q := 0) (pc' := 42) C dX4_ofFloat_41 rfl rfl rfl ?_
      refine j_fconst1 (pc' := 43) C dX4_ofFloat_42 rfl ?_
      refine j_fcmp (pc' := 44) C dX4_ofFloat_43 rfl ?_
      refine j_if_ge (tgt := 66) (pc' := 47) C dX4_ofFloat_44 rfl rfl (fun hc => ?_) (fun hc => ?_)
      · have hr := ifT hc hr
        clear hc
        have hr := ezs4 _ (Option.some.inj hr).symm
        subst hr
        exact j_lv [0, 1] rfl kzo5
      · have hr := ifF hc hr
        clear hc
        refine j_iload_n (q := 1) (pc' := 48) C dX4_ofFloat_47 rfl rfl rfl ?_
        refine j_bipush (v := -126) (pc' := 50) C dX4_ofFloat_48 kB_m126 rfl ?_
        refine j_ic_le (tgt := 66) (pc' := 53) C dX4_ofFloat_50 rfl rfl (fun hc => ?_) (fun hc => ?_)
        · have hr := ifT hc hr
          clear hc
          have hr := ezs4 _ (Option.some.inj hr).symm
          subst hr
          exact j_lv [0, 1] rfl kzo5
        · have hr := ifF hc hr
          clear hc
          refine j_fload_n (q := 0) (pc' := 54) C dX4_ofFloat_53 rfl rfl rfl ?_
          refine j_fconst2 (pc' := 55) C dX4_ofFloat_54 rfl ?_
          obtain ⟨zx8, hzx8, hr⟩ := ob hr
          refine j_fmul (pc' := 56) C dX4_ofFloat_55 hzx8 rfl ?_
          refine j_fstore_n (lv' := [(1, .float zx8), (2, .int zs4.2.1), (3, .int zs4.2.2)]) (pc' := 57) C dX4_ofFloat_56 rfl (by decide) rfl rfl ?_
          refine j_iinc (q := 1) (v := -1) (lv' := [(2, .int (zs4.2.1 + (-1 : Int32))), (1, .float zx8), (3, .int zs4.2.2)]) (pc' := 60) C dX4_ofFloat_57 rfl kI_m1 (by decide) rfl rfl ?_
          refine j_iinc (q := 2) (v := 1) (lv' := [(3, .int (zs4.2.2 + (1 : Int32))), (2, .int (zs4.2.1 + (-1 : Int32))), (1, .float zx8)]) (pc' := 63) C dX4_ofFloat_60 rfl kI_1 (by decide) rfl rfl ?_
          refine j_goto (tgt := 34) C dX4_ofFloat_63 rfl ?_
          have hr := izs4 (zx8, (zs4.2.1 + (-1 : Int32)), (zs4.2.2 + (1 : Int32))) (Option.some.inj hr).symm
          exact j_lv [2, 1, 0] rfl hr
  refine j_lv (lv' := [(1, .float p0), (2, .int (0 : Int32)), (3, .int (0 : Int32))]) [2, 1, 0] rfl ?_
  refine it_J (J := (fun (zs1 : UInt32 × Int32 × Int32) => Jd G 0 0 nx ce 6 [(1, .float zs1.1), (2, .int zs1.2.1), (3, .int zs1.2.2)] [])) ?_ hzo2
  clear hzo2
  intro zs1 zr3 hr izs1 ezs1
  refine j_iload_n (q := 2) (pc' := 7) C dX4_ofFloat_6 rfl rfl rfl ?_
  refine j_sipush (v := 200) (pc' := 10) C dX4_ofFloat_7 kS_200 rfl ?_
  refine j_ic_ge (tgt := 32) (pc' := 13) C dX4_ofFloat_10 rfl rfl (fun hc => ?_) (fun hc => ?_)
  · have hr := ifT hc hr
    clear hc
    have hr := ezs1 _ (Option.some.inj hr).symm
    subst hr
    exact j_lv [0, 1] rfl kzo2
  · have hr := ifF hc hr
    clear hc
    refine j_fload_n (q := 0) (pc' := 14) C dX4_ofFloat_13 rfl rfl rfl ?_
    refine j_fconst2 (pc' := 15) C dX4_ofFloat_14 rfl ?_
    refine j_fcmp (pc' := 16) C dX4_ofFloat_15 rfl ?_
    refine j_if_lt (tgt := 32) (pc' := 19) C dX4_ofFloat_16 rfl rfl (fun hc => ?_) (fun hc => ?_)
    · have hr := ifT hc hr
      clear hc
      have hr := ezs1 _ (Option.some.inj hr).symm
      subst hr
      exact j_lv [0, 1] rfl kzo2
    · have hr := ifF hc hr
      clear hc
      refine j_fload_n (q := 0) (pc' := 20) C dX4_ofFloat_19 rfl rfl rfl ?_
      refine j_fconst2 (pc' := 21) C dX4_ofFloat_20 rfl ?_
      obtain ⟨zx9, hzx9, hr⟩ := ob hr
      refine j_fdiv (pc' := 22) C dX4_ofFloat_21 hzx9 rfl ?_
      refine j_fstore_n (lv' := [(1, .float zx9), (2, .int zs1.2.1), (3, .int zs1.2.2)]) (pc' := 23) C dX4_ofFloat_22 rfl (by decide) rfl rfl ?_
      refine j_iinc (q := 1) (v := 1) (lv' := [(2, .int (zs1.2.1 + (1 : Int32))), (1, .float zx9), (3, .int zs1.2.2)]) (pc' := 26) C dX4_ofFloat_23 rfl kI_1 (by decide) rfl rfl ?_
      refine j_iinc (q := 2) (v := 1) (lv' := [(3, .int (zs1.2.2 + (1 : Int32))), (2, .int (zs1.2.1 + (1 : Int32))), (1, .float zx9)]) (pc' := 29) C dX4_ofFloat_26 rfl kI_1 (by decide) rfl rfl ?_
      refine j_goto (tgt := 6) C dX4_ofFloat_29 rfl ?_
      have hr := izs1 (zx9, (zs1.2.1 + (1 : Int32)), (zs1.2.2 + (1 : Int32))) (Option.some.inj hr).symm
      exact j_lv [2, 1, 0] rfl hr
def m_X4_ofDouble (p0 : UInt64) : Option (Int64) :=
  (it (fun (zs1 : UInt64 × Int32 × Int32) =>
    if (1100 : Int32) ≤ zs1.2.2 then
      some (Sum.inr (zs1.1, zs1.2.1))
    else
      if (Op.cmpValue (FP.dcmp zs1.1 (4611686018427387904 : UInt64)) .l) < 0 then
        some (Sum.inr (zs1.1, zs1.2.1))
      else
        (dq (FP.ddiv zs1.1 (4611686018427387904 : UInt64))).bind fun zx9 =>
        some (Sum.inl (zx9, (zs1.2.1 + (1 : Int32)), (zs1.2.2 + (1 : Int32))))
  ) FU (p0, (0 : Int32), (0 : Int32))).bind fun (zo2 : UInt64 × Int32) =>
  (it (fun (zs4 : UInt64 × Int32 × Int32) =>
    if (1100 : Int32) ≤ zs4.2.2 then
      some (Sum.inr (zs4.1, zs4.2.1))
    else
      if 0 ≤ (Op.cmpValue (FP.dcmp zs4.1 FP.dconst1) .g) then
        some (Sum.inr (zs4.1, zs4.2.1))
      else
        if zs4.2.1 ≤ (-1022 : Int32) then
          some (Sum.inr (zs4.1, zs4.2.1))
        else
          (dq (FP.dmul zs4.1 (4611686018427387904 : UInt64))).bind fun zx8 =>
          some (Sum.inl (zx8, (zs4.2.1 + (-1 : Int32)), (zs4.2.2 + (1 : Int32))))
  ) FU (zo2.1, zo2.2, (0 : Int32))).bind fun (zo5 : UInt64 × Int32) =>
  (dq (FP.dmul zo5.1 (4841369599423283200 : UInt64))).bind fun zx7 =>
  if 0 ≤ (lg_cmp (FP.d2l zx7) (4503599627370496 : Int64)) then
    some (((Int32.toInt64 (zo5.2 - (-1022 : Int32))) * (4503599627370496 : Int64)) + (FP.d2l zx7))
  else
    some (FP.d2l zx7)
set_option maxRecDepth 100000 in
set_option maxHeartbeats 4000000 in
theorem c_X4_ofDouble {nx : Nat} {ce : Ce} {p0 : UInt64} {q : Int64} (hr : m_X4_ofDouble p0 = some q) : Ct yX4_ofDouble cX4_ofDouble 7 (some .long) 0 0 0 0 [.double p0] nx ce (some (.long q)) ce := by
  unfold m_X4_ofDouble at hr
  refine ct_of (by decide) (Nat.le_of_ble_eq_true rfl) ?_
  intro G C hq hret hin
  show Jd G 0 0 nx ce 0 [(0, .double p0)] []
  refine j_dload_n (q := 0) (pc' := 1) C dX4_ofDouble_0 rfl rfl rfl ?_
  refine j_dstore_n (lv' := [(2, .double p0), (0, .double p0)]) (pc' := 2) C dX4_ofDouble_1 rfl (by decide) rfl rfl ?_
  refine j_iconst (v := 0) (pc' := 3) C dX4_ofDouble_2 kI_0 rfl ?_
  refine j_istore (lv' := [(4, .int (0 : Int32)), (2, .double p0), (0, .double p0)]) (pc' := 5) C dX4_ofDouble_3 (by decide) rfl rfl ?_
  refine j_iconst (v := 0) (pc' := 6) C dX4_ofDouble_5 kI_0 rfl ?_
  refine j_istore (lv' := [(5, .int (0 : Int32)), (4, .int (0 : Int32)), (2, .double p0), (0, .double p0)]) (pc' := 8) C dX4_ofDouble_6 (by decide) rfl rfl ?_
  obtain ⟨zo2, hzo2, rzo2⟩ := ob hr
  have kzo2 : Jd G 0 0 nx ce 39 [(2, .double zo2.1), (4, .int zo2.2)] [] := by
    have hr := rzo2
    refine j_iconst (v := 0) (pc' := 40) C dX4_ofDouble_39 kI_0 rfl ?_
    refine j_istore (lv' := [(5, .int (0 : Int32)), (2, .double zo2.1), (4, .int zo2.2)]) (pc' := 42) C dX4_ofDouble_40 (by decide) rfl rfl ?_
    obtain ⟨zo5, hzo5, rzo5⟩ := ob hr
    have kzo5 : Jd G 0 0 nx ce 79 [(2, .double zo5.1), (4, .int zo5.2)] [] := by
      have hr := rzo5
      refine j_dload_n (q := 0) (pc' := 80) C dX4_ofDouble_79 rfl rfl rfl ?_
      refine j_ldc2d (pc' := 83) C dX4_ofDouble_80 wm_1377 rfl ?_
      obtain ⟨zx7, hzx7, hr⟩ := ob hr
      refine j_dmul (pc' := 84) C dX4_ofDouble_83 hzx7 rfl ?_
      refine j_d2l (pc' := 85) C dX4_ofDouble_84 rfl ?_
      refine j_lstore (lv' := [(5, .long (FP.d2l zx7)), (2, .double zo5.1), (4, .int zo5.2)]) (pc' := 87) C dX4_ofDouble_85 (by decide) rfl rfl ?_
      refine j_lload (q := 0) (pc' := 89) C dX4_ofDouble_87 rfl rfl ?_
      refine j_ldc2 (pc' := 92) C dX4_ofDouble_89 wm_1378 rfl ?_
      refine j_lcmp (pc' := 93) C dX4_ofDouble_92 rfl ?_
      refine j_if_ge (tgt := 99) (pc' := 96) C dX4_ofDouble_93 rfl rfl (fun hc => ?_) (fun hc => ?_)
      · have hr := ifT hc hr
        clear hc
        refine j_iload (q := 2) (pc' := 101) C dX4_ofDouble_99 rfl rfl ?_
        refine j_sipush (v := -1022) (pc' := 104) C dX4_ofDouble_101 kS_m1022 rfl ?_
        refine j_isub (pc' := 105) C dX4_ofDouble_104 rfl ?_
        refine j_i2l (pc' := 106) C dX4_ofDouble_105 rfl ?_
        refine j_ldc2 (pc' := 109) C dX4_ofDouble_106 wm_1378 rfl ?_
        refine j_lmul (pc' := 110) C dX4_ofDouble_109 rfl ?_
        refine j_lload (q := 0) (pc' := 112) C dX4_ofDouble_110 rfl rfl ?_
        refine j_ladd (pc' := 113) C dX4_ofDouble_112 rfl ?_
        have hr := Option.some.inj hr
        subst hr
        exact j_lret C hq hret dX4_ofDouble_113
      · have hr := ifF hc hr
        clear hc
        refine j_lload (q := 0) (pc' := 98) C dX4_ofDouble_96 rfl rfl ?_
        have hr := Option.some.inj hr
        subst hr
        exact j_lret C hq hret dX4_ofDouble_98
    refine j_lv (lv' := [(2, .double zo2.1), (4, .int zo2.2), (5, .int (0 : Int32))]) [1, 2, 0] rfl ?_
    refine it_J (J := (fun (zs4 : UInt64 × Int32 × Int32) => Jd G 0 0 nx ce 42 [(2, .double zs4.1), (4, .int zs4.2.1), (5, .int zs4.2.2)] [])) ?_ hzo5
    clear hzo5
    intro zs4 zr6 hr izs4 ezs4
    refine j_iload (q := 2) (pc' := 44) C dX4_ofDouble_42 rfl rfl ?_
    refine j_sipush (v := 1100) (pc' := 47) C dX4_ofDouble_44 kS_1100 rfl ?_
    refine j_ic_ge (tgt := 79) (pc' := 50) C dX4_ofDouble_47 rfl rfl (fun hc => ?_) (fun hc => ?_)
    · have hr := ifT hc hr
      clear hc
      have hr := ezs4 _ (Option.some.inj hr).symm
      subst hr
      exact j_lv [0, 1] rfl kzo5
    · have hr := ifF hc hr
      clear hc
      refine j_dload_n (q := 0) (pc' := 51) C dX4_ofDouble_50 rfl rfl rfl ?_
      refine j_dconst1 (pc' := 52) C dX4_ofDouble_51 rfl ?_
      refine j_dcmp (pc' := 53) C dX4_ofDouble_52 rfl ?_
      refine j_if_ge (tgt := 79) (pc' := 56) C dX4_ofDouble_53 rfl rfl (fun hc => ?_) (fun hc => ?_)
      · have hr := ifT hc hr
        clear hc
        have hr := ezs4 _ (Option.some.inj hr).symm
        subst hr
        exact j_lv [0, 1] rfl kzo5
      · have hr := ifF hc hr
        clear hc
        refine j_iload (q := 1) (pc' := 58) C dX4_ofDouble_56 rfl rfl ?_
        refine j_sipush (v := -1022) (pc' := 61) C dX4_ofDouble_58 kS_m1022 rfl ?_
        refine j_ic_le (tgt := 79) (pc' := 64) C dX4_ofDouble_61 rfl rfl (fun hc => ?_) (fun hc => ?_)
        · have hr := ifT hc hr
          clear hc
          have hr := ezs4 _ (Option.some.inj hr).symm
          subst hr
          exact j_lv [0, 1] rfl kzo5
        · have hr := ifF hc hr
          clear hc
          refine j_dload_n (q := 0) (pc' := 65) C dX4_ofDouble_64 rfl rfl rfl ?_
          refine j_ldc2d (pc' := 68) C dX4_ofDouble_65 wm_1376 rfl ?_
          obtain ⟨zx8, hzx8, hr⟩ := ob hr
          refine j_dmul (pc' := 69) C dX4_ofDouble_68 hzx8 rfl ?_
          refine j_dstore_n (lv' := [(2, .double zx8), (4, .int zs4.2.1), (5, .int zs4.2.2)]) (pc' := 70) C dX4_ofDouble_69 rfl (by decide) rfl rfl ?_
          refine j_iinc (q := 1) (v := -1) (lv' := [(4, .int (zs4.2.1 + (-1 : Int32))), (2, .double zx8), (5, .int zs4.2.2)]) (pc' := 73) C dX4_ofDouble_70 rfl kI_m1 (by decide) rfl rfl ?_
          refine j_iinc (q := 2) (v := 1) (lv' := [(5, .int (zs4.2.2 + (1 : Int32))), (4, .int (zs4.2.1 + (-1 : Int32))), (2, .double zx8)]) (pc' := 76) C dX4_ofDouble_73 rfl kI_1 (by decide) rfl rfl ?_
          refine j_goto (tgt := 42) C dX4_ofDouble_76 rfl ?_
          have hr := izs4 (zx8, (zs4.2.1 + (-1 : Int32)), (zs4.2.2 + (1 : Int32))) (Option.some.inj hr).symm
          exact j_lv [2, 1, 0] rfl hr
  refine j_lv (lv' := [(2, .double p0), (4, .int (0 : Int32)), (5, .int (0 : Int32))]) [2, 1, 0] rfl ?_
  refine it_J (J := (fun (zs1 : UInt64 × Int32 × Int32) => Jd G 0 0 nx ce 8 [(2, .double zs1.1), (4, .int zs1.2.1), (5, .int zs1.2.2)] [])) ?_ hzo2
  clear hzo2
  intro zs1 zr3 hr izs1 ezs1
  refine j_iload (q := 2) (pc' := 10) C dX4_ofDouble_8 rfl rfl ?_
  refine j_sipush (v := 1100) (pc' := 13) C dX4_ofDouble_10 kS_1100 rfl ?_
  refine j_ic_ge (tgt := 39) (pc' := 16) C dX4_ofDouble_13 rfl rfl (fun hc => ?_) (fun hc => ?_)
  · have hr := ifT hc hr
    clear hc
    have hr := ezs1 _ (Option.some.inj hr).symm
    subst hr
    exact j_lv [0, 1] rfl kzo2
  · have hr := ifF hc hr
    clear hc
    refine j_dload_n (q := 0) (pc' := 17) C dX4_ofDouble_16 rfl rfl rfl ?_
    refine j_ldc2d (pc' := 20) C dX4_ofDouble_17 wm_1376 rfl ?_
    refine j_dcmp (pc' := 21) C dX4_ofDouble_20 rfl ?_
    refine j_if_lt (tgt := 39) (pc' := 24) C dX4_ofDouble_21 rfl rfl (fun hc => ?_) (fun hc => ?_)
    · have hr := ifT hc hr
      clear hc
      have hr := ezs1 _ (Option.some.inj hr).symm
      subst hr
      exact j_lv [0, 1] rfl kzo2
    · have hr := ifF hc hr
      clear hc
      refine j_dload_n (q := 0) (pc' := 25) C dX4_ofDouble_24 rfl rfl rfl ?_
      refine j_ldc2d (pc' := 28) C dX4_ofDouble_25 wm_1376 rfl ?_
      obtain ⟨zx9, hzx9, hr⟩ := ob hr
      refine j_ddiv (pc' := 29) C dX4_ofDouble_28 hzx9 rfl ?_
      refine j_dstore_n (lv' := [(2, .double zx9), (4, .int zs1.2.1), (5, .int zs1.2.2)]) (pc' := 30) C dX4_ofDouble_29 rfl (by decide) rfl rfl ?_
      refine j_iinc (q := 1) (v := 1) (lv' := [(4, .int (zs1.2.1 + (1 : Int32))), (2, .double zx9), (5, .int zs1.2.2)]) (pc' := 33) C dX4_ofDouble_30 rfl kI_1 (by decide) rfl rfl ?_
      refine j_iinc (q := 2) (v := 1) (lv' := [(5, .int (zs1.2.2 + (1 : Int32))), (4, .int (zs1.2.1 + (1 : Int32))), (2, .double zx9)]) (pc' := 36) C dX4_ofDouble_33 rfl kI_1 (by decide) rfl rfl ?_
      refine j_goto (tgt := 8) C dX4_ofDouble_36 rfl ?_
      have hr := izs1 (zx9, (zs1.2.1 + (1 : Int32)), (zs1.2.2 + (1 : Int32))) (Option.some.inj hr).symm
      exact j_lv [2, 1, 0] rfl hr
def m_X5_init (nx : Nat) (ce : Ce) (this : Nat) (p1 : Int32) (p2 : Nat) (p3 : Int64) (p4 : Nat) : Option (Unit × Ce × Nat × Nat) :=
  (pV ce 3 0 this (.int p1)).bind fun zc1 =>
  (pV zc1 3 1 this (.int ((1 : Int32) <<< (p1 &&& 31)))).bind fun zc2 =>
  (gI zc2 3 1 this).bind fun zx3 =>
  (pV zc2 3 2 this (.long (usr64 (-1 : Int64) ((64 : Int32) - zx3)))).bind fun zc4 =>
  (gJ zc4 3 2 this).bind fun zx5 =>
  (pV zc4 3 3 this (.long (p3 &&& zx5))).bind fun zc6 =>
  (pV zc6 3 4 this (.ref p4)).bind fun zc7 =>
  (pV zc7 3 5 this (.ref p2)).bind fun zc8 =>
  (gI zc8 3 1 this).bind fun zx9 =>
  (nwa zx9).bind fun zk12 =>
  adcK 1 zk12 fun _ =>
  (some (gx_up zc8 nx (.inl (.long, zk12, .inr (.inl (fun _ => 0)))))).bind fun zc11 =>
  (pV zc11 3 6 this (.ref nx)).bind fun zc13 =>
  (it (fun (zs14 : Int32 × Ce) =>
    (alen zs14.2 p4).bind fun zx31 =>
    if zx31 ≤ zs14.1 then
      some (Sum.inr ((), zs14.2))
    else
      (aL zs14.2 p4 zs14.1).bind fun zx32 =>
      (gJ zs14.2 3 2 this).bind fun zx33 =>
      (sL zs14.2 p4 zs14.1 (zx32 &&& zx33)).bind fun zc34 =>
      some (Sum.inl ((zs14.1 + (1 : Int32)), zc34))
  ) FU ((0 : Int32), zc13)).bind fun (zo15 : Unit × Ce) =>
  (it (fun (zs17 : Int32 × Ce) =>
    (alen zs17.2 p2).bind fun zx24 =>
    if zx24 ≤ zs17.1 then
      some (Sum.inr ((), zs17.2))
    else
      (aI zs17.2 p2 zs17.1).bind fun zx25 =>
      if zx25 < 0 then
        some (Sum.inl ((zs17.1 + (1 : Int32)), zs17.2))
      else
        (gI zs17.2 3 1 this).bind fun zx26 =>
        if zx26 ≤ zx25 then
          some (Sum.inl ((zs17.1 + (1 : Int32)), zs17.2))
        else
          (gA zs17.2 3 6 this).bind fun zx27 =>
          (aL zs17.2 zx27 zx25).bind fun zx28 =>
          (nz (4 : Int32)).bind fun zz29 =>
          (sL zs17.2 zx27 zx25 (zx28 ||| ((1 : Int64) <<< (Int32.toInt64 (zs17.1 / (4 : Int32)) &&& 63)))).bind fun zc30 =>
          some (Sum.inl ((zs17.1 + (1 : Int32)), zc30))
  ) FU ((0 : Int32), zo15.2)).bind fun (zo18 : Unit × Ce) =>
  some ((), zo18.2, 0, 0)
set_option maxRecDepth 100000 in
set_option maxHeartbeats 4000000 in
theorem c_X5_init {nx : Nat} {ce : Ce} {this : Nat} {p1 : Int32} {p2 : Nat} {p3 : Int64} {p4 : Nat} {q : Unit × Ce × Nat × Nat} (hr : m_X5_init nx ce this p1 p2 p3 p4 = some q) : Ct yX5_init cX5_init 8 none 1 20 q.2.2.1 q.2.2.2 [.ref this, .int p1, .ref p2, .long p3, .ref p4] nx ce none q.2.1 := by
  unfold m_X5_init at hr
  refine ct_of (by decide) (Nat.le_of_ble_eq_true rfl) ?_
  intro G C hq hret hin
  show Jd G q.2.2.1 q.2.2.2 nx ce 0 [(0, .ref this), (1, .int p1), (2, .ref p2), (3, .long p3), (5, .ref p4)] []
  refine j_aload_n (q := 0) (pc' := 1) C dX5_init_0 rfl rfl rfl ?_
  refine j_objInit (pc' := 4) C dX5_init_1 wm_224 wm_157 wm_oi ⟨by decide, by decide⟩ (Nat.le_of_ble_eq_true rfl) rfl ?_
  refine j_aload_n (q := 0) (pc' := 5) C dX5_init_4 rfl rfl rfl ?_
  refine j_iload_n (q := 1) (pc' := 6) C dX5_init_5 rfl rfl rfl ?_
  obtain ⟨zc1, hzc1, hr⟩ := ob hr
  refine j_putF (pc' := 9) C hin dX5_init_6 fw_X5_9 rfl rfl hzc1 rfl ?_
  refine j_aload_n (q := 0) (pc' := 10) C dX5_init_9 rfl rfl rfl ?_
  refine j_iconst (v := 1) (pc' := 11) C dX5_init_10 kI_1 rfl ?_
  refine j_iload_n (q := 1) (pc' := 12) C dX5_init_11 rfl rfl rfl ?_
  refine j_ishl (pc' := 13) C dX5_init_12 rfl ?_
  obtain ⟨zc2, hzc2, hr⟩ := ob hr
  refine j_putF (pc' := 16) C hin dX5_init_13 fw_X5_15 rfl rfl hzc2 rfl ?_
  refine j_aload_n (q := 0) (pc' := 17) C dX5_init_16 rfl rfl rfl ?_
  refine j_ldc2 (pc' := 20) C dX5_init_17 wm_225 rfl ?_
  refine j_bipush (v := 64) (pc' := 22) C dX5_init_20 kB_64 rfl ?_
  refine j_aload_n (q := 0) (pc' := 23) C dX5_init_22 rfl rfl rfl ?_
  obtain ⟨zx3, hzx3, hr⟩ := ob hr
  refine j_getI (pc' := 26) C dX5_init_23 fl_X5_15 hzx3 rfl ?_
  refine j_isub (pc' := 27) C dX5_init_26 rfl ?_
  refine j_lushr (pc' := 28) C dX5_init_27 rfl ?_
  obtain ⟨zc4, hzc4, hr⟩ := ob hr
  refine j_putF (pc' := 31) C hin dX5_init_28 fw_X5_20 rfl rfl hzc4 rfl ?_
  refine j_aload_n (q := 0) (pc' := 32) C dX5_init_31 rfl rfl rfl ?_
  refine j_lload_n (q := 3) (pc' := 33) C dX5_init_32 rfl rfl rfl ?_
  refine j_aload_n (q := 0) (pc' := 34) C dX5_init_33 rfl rfl rfl ?_
  obtain ⟨zx5, hzx5, hr⟩ := ob hr
  refine j_getJ (pc' := 37) C dX5_init_34 fl_X5_20 hzx5 rfl ?_
  refine j_land (pc' := 38) C dX5_init_37 rfl ?_
  obtain ⟨zc6, hzc6, hr⟩ := ob hr
  refine j_putF (pc' := 41) C hin dX5_init_38 fw_X5_24 rfl rfl hzc6 rfl ?_
  refine j_aload_n (q := 0) (pc' := 42) C dX5_init_41 rfl rfl rfl ?_
  refine j_aload (q := 4) (pc' := 44) C dX5_init_42 rfl rfl ?_
  obtain ⟨zc7, hzc7, hr⟩ := ob hr
  refine j_putF (pc' := 47) C hin dX5_init_44 fw_X5_27 rfl rfl hzc7 rfl ?_
  refine j_aload_n (q := 0) (pc' := 48) C dX5_init_47 rfl rfl rfl ?_
  refine j_aload_n (q := 2) (pc' := 49) C dX5_init_48 rfl rfl rfl ?_
  obtain ⟨zc8, hzc8, hr⟩ := ob hr
  refine j_putF (pc' := 52) C hin dX5_init_49 fw_X5_31 rfl rfl hzc8 rfl ?_
  refine j_aload_n (q := 0) (pc' := 53) C dX5_init_52 rfl rfl rfl ?_
  refine j_aload_n (q := 0) (pc' := 54) C dX5_init_53 rfl rfl rfl ?_
  obtain ⟨zx9, hzx9, hr⟩ := ob hr
  refine j_getI (pc' := 57) C dX5_init_54 fl_X5_15 hzx9 rfl ?_
  obtain ⟨zk12, hzk12, hr⟩ := ob hr
  obtain ⟨nzk12, ezk12, bzk12⟩ := nwa_sp hzk12
  obtain ⟨zt10, hr, azt10, bzt10, czt10, dzt10⟩ := adcK_s hr
  obtain ⟨zc11, hzc11, hr⟩ := ob hr
  have hzc11 := Option.some.inj hzc11
  refine j_k (kc' := zt10.2.2.1 + 1) (ks' := zt10.2.2.2 + zk12) (by omega) (by omega) ?_
  refine j_newa (ty := .long) (t0 := 1) (a0 := (zk12, .inr (.inl (fun _ => 0)))) (N := zk12) (pc' := 59) C dX5_init_57 rfl (fun _ => rfl) (fun _ _ => rfl) wm_215 (fun _ => rfl) nzk12 ezk12 (Nat.le_trans (Nat.mul_le_mul_left _ (by decide)) bzk12) rfl ?_
  rw [hzc11]
  obtain ⟨zc13, hzc13, hr⟩ := ob hr
  refine j_putF (pc' := 62) C hin dX5_init_59 fw_X5_35 rfl rfl hzc13 rfl ?_
  refine j_iconst (v := 0) (pc' := 63) C dX5_init_62 kI_0 rfl ?_
  refine j_istore (lv' := [(6, .int (0 : Int32)), (0, .ref this), (1, .int p1), (2, .ref p2), (3, .long p3), (5, .ref p4)]) (pc' := 65) C dX5_init_63 (by decide) rfl rfl ?_
  obtain ⟨zo15, hzo15, rzo15⟩ := ob hr
  have kzo15 : Jd G zt10.2.2.1 zt10.2.2.2 (nx + 1) zo15.2 91 [(0, .ref this), (2, .ref p2)] [] := by
    have hr := rzo15
    refine j_iconst (v := 0) (pc' := 92) C dX5_init_91 kI_0 rfl ?_
    refine j_istore (lv' := [(6, .int (0 : Int32)), (0, .ref this), (2, .ref p2)]) (pc' := 94) C dX5_init_92 (by decide) rfl rfl ?_
    obtain ⟨zo18, hzo18, rzo18⟩ := ob hr
    have kzo18 : Jd G zt10.2.2.1 zt10.2.2.2 (nx + 1) zo18.2 143 [] [] := by
      have hr := rzo18
      obtain ⟨azf20, bzf21, czf22, dzf23⟩ := some4 hr
      refine j_k (kc' := 0) (ks' := 0) (by omega) (by omega) ?_
      rw [show nx + q.2.2.1 = (nx + 1) by omega, (bzt10.trans bzf21)] at hq
      exact j_vret C hq hret dX5_init_143
    refine j_lv (lv' := [(0, .ref this), (2, .ref p2), (6, .int (0 : Int32))]) [1, 2, 0] rfl ?_
    refine it_J (J := (fun (zs17 : Int32 × Ce) => Jd G zt10.2.2.1 zt10.2.2.2 (nx + 1) zs17.2 94 [(0, .ref this), (2, .ref p2), (6, .int zs17.1)] [])) ?_ hzo18
    clear hzo18
    intro zs17 zr19 hr izs17 ezs17
    refine j_iload (q := 2) (pc' := 96) C dX5_init_94 rfl rfl ?_
    refine j_aload_n (q := 1) (pc' := 97) C dX5_init_96 rfl rfl rfl ?_
    obtain ⟨zx24, hzx24, hr⟩ := ob hr
    refine j_alen (pc' := 98) C dX5_init_97 hzx24 rfl ?_
    refine j_ic_ge (tgt := 143) (pc' := 101) C dX5_init_98 rfl rfl (fun hc => ?_) (fun hc => ?_)
    · have hr := ifT hc hr
      clear hc
      have hr := ezs17 _ (Option.some.inj hr).symm
      subst hr
      exact j_lv [] rfl kzo18
    · have hr := ifF hc hr
      clear hc
      refine j_aload_n (q := 1) (pc' := 102) C dX5_init_101 rfl rfl rfl ?_
      refine j_iload (q := 2) (pc' := 104) C dX5_init_102 rfl rfl ?_
      obtain ⟨zx25, hzx25, hr⟩ := ob hr
      refine j_iald (pc' := 105) C dX5_init_104 hzx25 rfl ?_
      refine j_istore (lv' := [(7, .int zx25), (0, .ref this), (2, .ref p2), (6, .int zs17.1)]) (pc' := 107) C dX5_init_105 (by decide) rfl rfl ?_
      refine j_iload (q := 0) (pc' := 109) C dX5_init_107 rfl rfl ?_
      refine j_if_lt (tgt := 137) (pc' := 112) C dX5_init_109 rfl rfl (fun hc => ?_) (fun hc => ?_)
      · have hr := ifT hc hr
        clear hc
        refine j_iinc (q := 3) (v := 1) (lv' := [(6, .int (zs17.1 + (1 : Int32))), (7, .int zx25), (0, .ref this), (2, .ref p2)]) (pc' := 140) C dX5_init_137 rfl kI_1 (by decide) rfl rfl ?_
        refine j_goto (tgt := 94) C dX5_init_140 rfl ?_
        have hr := izs17 ((zs17.1 + (1 : Int32)), zs17.2) (Option.some.inj hr).symm
        exact j_lv [2, 3, 0] rfl hr
      · have hr := ifF hc hr
        clear hc
        refine j_iload (q := 0) (pc' := 114) C dX5_init_112 rfl rfl ?_
        refine j_aload_n (q := 1) (pc' := 115) C dX5_init_114 rfl rfl rfl ?_
        obtain ⟨zx26, hzx26, hr⟩ := ob hr
        refine j_getI (pc' := 118) C dX5_init_115 fl_X5_15 hzx26 rfl ?_
        refine j_ic_ge (tgt := 137) (pc' := 121) C dX5_init_118 rfl rfl (fun hc => ?_) (fun hc => ?_)
        · have hr := ifT hc hr
          clear hc
          refine j_iinc (q := 3) (v := 1) (lv' := [(6, .int (zs17.1 + (1 : Int32))), (7, .int zx25), (0, .ref this), (2, .ref p2)]) (pc' := 140) C dX5_init_137 rfl kI_1 (by decide) rfl rfl ?_
          refine j_goto (tgt := 94) C dX5_init_140 rfl ?_
          have hr := izs17 ((zs17.1 + (1 : Int32)), zs17.2) (Option.some.inj hr).symm
          exact j_lv [2, 3, 0] rfl hr
        · have hr := ifF hc hr
          clear hc
          refine j_aload_n (q := 1) (pc' := 122) C dX5_init_121 rfl rfl rfl ?_
          obtain ⟨zx27, hzx27, hr⟩ := ob hr
          refine j_getA (pc' := 125) C dX5_init_122 fl_X5_35 hzx27 rfl ?_
          refine j_iload (q := 0) (pc' := 127) C dX5_init_125 rfl rfl ?_
          refine j_dup2 (pc' := 128) C dX5_init_127 rfl rfl rfl ?_
          obtain ⟨zx28, hzx28, hr⟩ := ob hr
          refine j_lald (pc' := 129) C dX5_init_128 hzx28 rfl ?_
          refine j_lconst (v := 1) (pc' := 130) C dX5_init_129 kL_1 rfl ?_
          refine j_iload (q := 3) (pc' := 132) C dX5_init_130 rfl rfl ?_
          refine j_iconst (v := 4) (pc' := 133) C dX5_init_132 kI_4 rfl ?_
          obtain ⟨zz29, hzz29, hr⟩ := ob hr
          refine j_idiv (pc' := 134) C dX5_init_133 hzz29 rfl ?_
          refine j_lshl (pc' := 135) C dX5_init_134 rfl ?_
          refine j_lor (pc' := 136) C dX5_init_135 rfl ?_
          obtain ⟨zc30, hzc30, hr⟩ := ob hr
          refine j_last (pc' := 137) C dX5_init_136 hzc30 rfl ?_
          refine j_iinc (q := 3) (v := 1) (lv' := [(6, .int (zs17.1 + (1 : Int32))), (7, .int zx25), (0, .ref this), (2, .ref p2)]) (pc' := 140) C dX5_init_137 rfl kI_1 (by decide) rfl rfl ?_
          refine j_goto (tgt := 94) C dX5_init_140 rfl ?_
          have hr := izs17 ((zs17.1 + (1 : Int32)), zc30) (Option.some.inj hr).symm
          exact j_lv [2, 3, 0] rfl hr
  refine j_lv (lv' := [(0, .ref this), (2, .ref p2), (5, .ref p4), (6, .int (0 : Int32))]) [1, 3, 5, 0] rfl ?_
  refine it_J (J := (fun (zs14 : Int32 × Ce) => Jd G zt10.2.2.1 zt10.2.2.2 (nx + 1) zs14.2 65 [(0, .ref this), (2, .ref p2), (5, .ref p4), (6, .int zs14.1)] [])) ?_ hzo15
  clear hzo15
  intro zs14 zr16 hr izs14 ezs14
  refine j_iload (q := 3) (pc' := 67) C dX5_init_65 rfl rfl ?_
  refine j_aload (q := 2) (pc' := 69) C dX5_init_67 rfl rfl ?_
  obtain ⟨zx31, hzx31, hr⟩ := ob hr
  refine j_alen (pc' := 70) C dX5_init_69 hzx31 rfl ?_
  refine j_ic_ge (tgt := 91) (pc' := 73) C dX5_init_70 rfl rfl (fun hc => ?_) (fun hc => ?_)
  · have hr := ifT hc hr
    clear hc
    have hr := ezs14 _ (Option.some.inj hr).symm
    subst hr
    exact j_lv [0, 1] rfl kzo15
  · have hr := ifF hc hr
    clear hc
    refine j_aload (q := 2) (pc' := 75) C dX5_init_73 rfl rfl ?_
    refine j_iload (q := 3) (pc' := 77) C dX5_init_75 rfl rfl ?_
    refine j_dup2 (pc' := 78) C dX5_init_77 rfl rfl rfl ?_
    obtain ⟨zx32, hzx32, hr⟩ := ob hr
    refine j_lald (pc' := 79) C dX5_init_78 hzx32 rfl ?_
    refine j_aload_n (q := 0) (pc' := 80) C dX5_init_79 rfl rfl rfl ?_
    obtain ⟨zx33, hzx33, hr⟩ := ob hr
    refine j_getJ (pc' := 83) C dX5_init_80 fl_X5_20 hzx33 rfl ?_
    refine j_land (pc' := 84) C dX5_init_83 rfl ?_
    obtain ⟨zc34, hzc34, hr⟩ := ob hr
    refine j_last (pc' := 85) C dX5_init_84 hzc34 rfl ?_
    refine j_iinc (q := 3) (v := 1) (lv' := [(6, .int (zs14.1 + (1 : Int32))), (0, .ref this), (2, .ref p2), (5, .ref p4)]) (pc' := 88) C dX5_init_85 rfl kI_1 (by decide) rfl rfl ?_
    refine j_goto (tgt := 65) C dX5_init_88 rfl ?_
    have hr := izs14 ((zs14.1 + (1 : Int32)), zc34) (Option.some.inj hr).symm
    exact j_lv [1, 2, 3, 0] rfl hr
def m_X5_plain (nx : Nat) (ce : Ce)  : Option (Nat × Ce × Nat × Nat) :=
  (nwa ((4 : Int32) <<< ((3 : Int32) &&& 31))).bind fun zk3 =>
  adcK 1 zk3 fun _ =>
  (some (gx_up ce nx (.inl (.int, zk3, .inl (fun _ => 0))))).bind fun zc2 =>
  (it (fun (zs4 : Int32 × Ce) =>
    (alen zs4.2 nx).bind fun zx18 =>
    if zx18 ≤ zs4.1 then
      some (Sum.inr ((), zs4.2))
    else
      (nz (4 : Int32)).bind fun zz19 =>
      (sI zs4.2 nx zs4.1 (zs4.1 / (4 : Int32))).bind fun zc20 =>
      some (Sum.inl ((zs4.1 + (1 : Int32)), zc20))
  ) FU ((0 : Int32), zc2)).bind fun (zo5 : Unit × Ce) =>
  adcK 1 7 fun _ =>
  (some (gx_up zo5.2 (nx + 1) (.inr (3, df_X5)))).bind fun zc8 =>
  (nwa (1 : Int32)).bind fun zk11 =>
  adcK 1 zk11 fun _ =>
  (some (gx_up zc8 ((nx + 1) + 1) (.inl (.long, zk11, .inr (.inl (fun _ => 0)))))).bind fun zc10 =>
  adcB (m_X5_init (((nx + 1) + 1) + 1) zc10 (nx + 1) (3 : Int32) nx (1 : Int64) ((nx + 1) + 1)) fun zq12 =>
  some ((nx + 1), zq12.2.1, 0, 0)
set_option maxRecDepth 100000 in
set_option maxHeartbeats 4000000 in
theorem c_X5_plain {nx : Nat} {ce : Ce}  {q : Nat × Ce × Nat × Nat} (hr : m_X5_plain nx ce  = some q) : Ct yX5_plain cX5_plain 3 (some (.object "FencedStates$Machine")) 2 47 q.2.2.1 q.2.2.2 [] nx ce (some (.ref q.1)) q.2.1 := by
  unfold m_X5_plain at hr
  refine ct_of (by decide) (Nat.le_of_ble_eq_true rfl) ?_
  intro G C hq hret hin
  show Jd G q.2.2.1 q.2.2.2 nx ce 0 [] []
  refine j_iconst (v := 3) (pc' := 1) C dX5_plain_0 kI_3 rfl ?_
  refine j_istore_n (lv' := [(0, .int (3 : Int32))]) (pc' := 2) C dX5_plain_1 rfl (by decide) rfl rfl ?_
  refine j_iconst (v := 4) (pc' := 3) C dX5_plain_2 kI_4 rfl ?_
  refine j_iload_n (q := 0) (pc' := 4) C dX5_plain_3 rfl rfl rfl ?_
  refine j_ishl (pc' := 5) C dX5_plain_4 rfl ?_
  obtain ⟨zk3, hzk3, hr⟩ := ob hr
  obtain ⟨nzk3, ezk3, bzk3⟩ := nwa_sp hzk3
  obtain ⟨zt1, hr, azt1, bzt1, czt1, dzt1⟩ := adcK_s hr
  obtain ⟨zc2, hzc2, hr⟩ := ob hr
  have hzc2 := Option.some.inj hzc2
  refine j_k (kc' := zt1.2.2.1 + 1) (ks' := zt1.2.2.2 + zk3) (by omega) (by omega) ?_
  refine j_newa (ty := .int) (t0 := 0) (a0 := (zk3, .inl (fun _ => 0))) (N := zk3) (pc' := 7) C dX5_plain_5 rfl (fun _ => rfl) (fun _ _ => rfl) wm_214 (fun _ => rfl) nzk3 ezk3 (Nat.le_trans (Nat.mul_le_mul_left _ (by decide)) bzk3) rfl ?_
  rw [hzc2]
  refine j_astore_n (lv' := [(1, .ref nx), (0, .int (3 : Int32))]) (pc' := 8) C dX5_plain_7 rfl (by decide) rfl rfl ?_
  refine j_iconst (v := 0) (pc' := 9) C dX5_plain_8 kI_0 rfl ?_
  refine j_istore_n (lv' := [(2, .int (0 : Int32)), (1, .ref nx), (0, .int (3 : Int32))]) (pc' := 10) C dX5_plain_9 rfl (by decide) rfl rfl ?_
  obtain ⟨zo5, hzo5, rzo5⟩ := ob hr
  have kzo5 : Jd G zt1.2.2.1 zt1.2.2.2 (nx + 1) zo5.2 28 [(0, .int (3 : Int32)), (1, .ref nx)] [] := by
    have hr := rzo5
    obtain ⟨zt7, hr, azt7, bzt7, czt7, dzt7⟩ := adcK_s hr
    obtain ⟨zc8, hzc8, hr⟩ := ob hr
    have hzc8 := Option.some.inj hzc8
    refine j_k (kc' := zt7.2.2.1 + 1) (ks' := zt7.2.2.2 + 7) (by omega) (by omega) ?_
    refine j_new (ci := 3) (N := 7) (C0 := RX5) (T := TX5) (ty := tyX5) (fs := df_X5) (pc' := 31) C dX5_plain_28 rfl iw_X5 tyX5_ok wm_219 wm_220 wm_127 dv_X5 rfl ?_
    rw [hzc8]
    refine j_dup (pc' := 32) C dX5_plain_31 rfl rfl ?_
    refine j_iload_n (q := 0) (pc' := 33) C dX5_plain_32 rfl rfl rfl ?_
    refine j_aload_n (q := 1) (pc' := 34) C dX5_plain_33 rfl rfl rfl ?_
    refine j_lconst (v := 1) (pc' := 35) C dX5_plain_34 kL_1 rfl ?_
    refine j_iconst (v := 1) (pc' := 36) C dX5_plain_35 kI_1 rfl ?_
    obtain ⟨zk11, hzk11, hr⟩ := ob hr
    obtain ⟨nzk11, ezk11, bzk11⟩ := nwa_sp hzk11
    obtain ⟨zt9, hr, azt9, bzt9, czt9, dzt9⟩ := adcK_s hr
    obtain ⟨zc10, hzc10, hr⟩ := ob hr
    have hzc10 := Option.some.inj hzc10
    refine j_k (kc' := zt9.2.2.1 + 1) (ks' := zt9.2.2.2 + zk11) (by omega) (by omega) ?_
    refine j_newa (ty := .long) (t0 := 1) (a0 := (zk11, .inr (.inl (fun _ => 0)))) (N := zk11) (pc' := 38) C dX5_plain_36 rfl (fun _ => rfl) (fun _ _ => rfl) wm_215 (fun _ => rfl) nzk11 ezk11 (Nat.le_trans (Nat.mul_le_mul_left _ (by decide)) bzk11) rfl ?_
    rw [hzc10]
    obtain ⟨zq12, zt13, hzq12, hr, azt13, bzt13, czt13, dzt13⟩ := adcB_s hr
    refine j_k (kc' := zt13.2.2.1 + zq12.2.2.1) (ks' := zt13.2.2.2 + zq12.2.2.2) (by omega) (by omega) ?_
    refine j_callIA (As := [.int (3 : Int32), .ref nx, .long (1 : Int64), .ref ((nx + 1) + 1)]) (rest := [.ref (nx + 1)]) (st1 := [.ref (nx + 1)]) (pc' := 41) C wm_222 rfl (c_X5_init hzq12) yw_X5_init wm_221 rfl rfl (Nat.le_of_ble_eq_true rfl) ⟨by decide, by decide⟩ dX5_plain_38 rfl rfl ?_
    obtain ⟨azf14, bzf15, czf16, dzf17⟩ := some4 hr
    refine j_k (kc' := 0) (ks' := 0) (by omega) (by omega) ?_
    rw [show nx + q.2.2.1 = ((((nx + 1) + 1) + 1) + zq12.2.2.1) by omega, (bzt1.trans (bzt7.trans (bzt9.trans (bzt13.trans bzf15)))), (azt1.trans (azt7.trans (azt9.trans (azt13.trans azf14))))] at hq
    exact j_aret (x := some _) C hq hret (by first | exact Or.inl ⟨_, rfl⟩ | exact Or.inr ⟨_, rfl⟩) dX5_plain_41
  refine j_lv (lv' := [(0, .int (3 : Int32)), (1, .ref nx), (2, .int (0 : Int32))]) [2, 1, 0] rfl ?_
  refine it_J (J := (fun (zs4 : Int32 × Ce) => Jd G zt1.2.2.1 zt1.2.2.2 (nx + 1) zs4.2 10 [(0, .int (3 : Int32)), (1, .ref nx), (2, .int zs4.1)] [])) ?_ hzo5
  clear hzo5
  intro zs4 zr6 hr izs4 ezs4
  refine j_iload_n (q := 2) (pc' := 11) C dX5_plain_10 rfl rfl rfl ?_
  refine j_aload_n (q := 1) (pc' := 12) C dX5_plain_11 rfl rfl rfl ?_
  obtain ⟨zx18, hzx18, hr⟩ := ob hr
  refine j_alen (pc' := 13) C dX5_plain_12 hzx18 rfl ?_
  refine j_ic_ge (tgt := 28) (pc' := 16) C dX5_plain_13 rfl rfl (fun hc => ?_) (fun hc => ?_)
  · have hr := ifT hc hr
    clear hc
    have hr := ezs4 _ (Option.some.inj hr).symm
    subst hr
    exact j_lv [0, 1] rfl kzo5
  · have hr := ifF hc hr
    clear hc
    refine j_aload_n (q := 1) (pc' := 17) C dX5_plain_16 rfl rfl rfl ?_
    refine j_iload_n (q := 2) (pc' := 18) C dX5_plain_17 rfl rfl rfl ?_
    refine j_iload_n (q := 2) (pc' := 19) C dX5_plain_18 rfl rfl rfl ?_
    refine j_iconst (v := 4) (pc' := 20) C dX5_plain_19 kI_4 rfl ?_
    obtain ⟨zz19, hzz19, hr⟩ := ob hr
    refine j_idiv (pc' := 21) C dX5_plain_20 hzz19 rfl ?_
    obtain ⟨zc20, hzc20, hr⟩ := ob hr
    refine j_iast (pc' := 22) C dX5_plain_21 hzc20 rfl ?_
    refine j_iinc (q := 2) (v := 1) (lv' := [(2, .int (zs4.1 + (1 : Int32))), (0, .int (3 : Int32)), (1, .ref nx)]) (pc' := 25) C dX5_plain_22 rfl kI_1 (by decide) rfl rfl ?_
    refine j_goto (tgt := 10) C dX5_plain_25 rfl ?_
    have hr := izs4 ((zs4.1 + (1 : Int32)), zc20) (Option.some.inj hr).symm
    exact j_lv [1, 2, 0] rfl hr
def m_X5_bySeed (nx : Nat) (ce : Ce) (p0 : Int32) (p1 : Int32) : Option (Nat × Ce × Nat × Nat) :=
  (nwa ((4 : Int32) <<< (p1 &&& 31))).bind fun zk3 =>
  adcK 1 zk3 fun _ =>
  (some (gx_up ce nx (.inl (.int, zk3, .inl (fun _ => 0))))).bind fun zc2 =>
  (it (fun (zs4 : (Int32 × Int32) × Ce) =>
    (alen zs4.2 nx).bind fun zx19 =>
    if zx19 ≤ zs4.1.2 then
      some (Sum.inr ((), zs4.2))
    else
      (nz (31139 : Int32)).bind fun zz20 =>
      (nz (7 : Int32)).bind fun zz21 =>
      (nz ((1 : Int32) <<< (p1 &&& 31))).bind fun zz22 =>
      (sI zs4.2 nx zs4.1.2 (rm32 ((rm32 ((zs4.1.1 * (773 : Int32)) + (641 : Int32)) (31139 : Int32)) / (7 : Int32)) ((1 : Int32) <<< (p1 &&& 31)))).bind fun zc23 =>
      some (Sum.inl (((rm32 ((zs4.1.1 * (773 : Int32)) + (641 : Int32)) (31139 : Int32)), (zs4.1.2 + (1 : Int32))), zc23))
  ) FU ((p0, (0 : Int32)), zc2)).bind fun (zo5 : Unit × Ce) =>
  (nwa (1 : Int32)).bind fun zk9 =>
  adcK 1 zk9 fun _ =>
  (some (gx_up zo5.2 (nx + 1) (.inl (.long, zk9, .inr (.inl (fun _ => 0)))))).bind fun zc8 =>
  (sL zc8 (nx + 1) (0 : Int32) ((1 : Int64) <<< (Int32.toInt64 (((1 : Int32) <<< (p1 &&& 31)) - (1 : Int32)) &&& 63))).bind fun zc10 =>
  adcK 1 7 fun _ =>
  (some (gx_up zc10 ((nx + 1) + 1) (.inr (3, df_X5)))).bind fun zc12 =>
  adcB (m_X5_init (((nx + 1) + 1) + 1) zc12 ((nx + 1) + 1) p1 nx (1 : Int64) (nx + 1)) fun zq13 =>
  some (((nx + 1) + 1), zq13.2.1, 0, 0)
set_option maxRecDepth 100000 in
set_option maxHeartbeats 4000000 in
theorem c_X5_bySeed {nx : Nat} {ce : Ce} {p0 : Int32} {p1 : Int32} {q : Nat × Ce × Nat × Nat} (hr : m_X5_bySeed nx ce p0 p1 = some q) : Ct yX5_bySeed cX5_bySeed 6 (some (.object "FencedStates$Machine")) 2 47 q.2.2.1 q.2.2.2 [.int p0, .int p1] nx ce (some (.ref q.1)) q.2.1 := by
  unfold m_X5_bySeed at hr
  refine ct_of (by decide) (Nat.le_of_ble_eq_true rfl) ?_
  intro G C hq hret hin
  show Jd G q.2.2.1 q.2.2.2 nx ce 0 [(0, .int p0), (1, .int p1)] []
  refine j_iconst (v := 1) (pc' := 1) C dX5_bySeed_0 kI_1 rfl ?_
  refine j_iload_n (q := 1) (pc' := 2) C dX5_bySeed_1 rfl rfl rfl ?_
  refine j_ishl (pc' := 3) C dX5_bySeed_2 rfl ?_
  refine j_istore_n (lv' := [(2, .int ((1 : Int32) <<< (p1 &&& 31))), (0, .int p0), (1, .int p1)]) (pc' := 4) C dX5_bySeed_3 rfl (by decide) rfl rfl ?_
  refine j_iconst (v := 4) (pc' := 5) C dX5_bySeed_4 kI_4 rfl ?_
  refine j_iload_n (q := 2) (pc' := 6) C dX5_bySeed_5 rfl rfl rfl ?_
  refine j_ishl (pc' := 7) C dX5_bySeed_6 rfl ?_
  obtain ⟨zk3, hzk3, hr⟩ := ob hr
  obtain ⟨nzk3, ezk3, bzk3⟩ := nwa_sp hzk3
  obtain ⟨zt1, hr, azt1, bzt1, czt1, dzt1⟩ := adcK_s hr
  obtain ⟨zc2, hzc2, hr⟩ := ob hr
  have hzc2 := Option.some.inj hzc2
  refine j_k (kc' := zt1.2.2.1 + 1) (ks' := zt1.2.2.2 + zk3) (by omega) (by omega) ?_
  refine j_newa (ty := .int) (t0 := 0) (a0 := (zk3, .inl (fun _ => 0))) (N := zk3) (pc' := 9) C dX5_bySeed_7 rfl (fun _ => rfl) (fun _ _ => rfl) wm_214 (fun _ => rfl) nzk3 ezk3 (Nat.le_trans (Nat.mul_le_mul_left _ (by decide)) bzk3) rfl ?_
  rw [hzc2]
  refine j_astore_n (lv' := [(3, .ref nx), (2, .int ((1 : Int32) <<< (p1 &&& 31))), (0, .int p0), (1, .int p1)]) (pc' := 10) C dX5_bySeed_9 rfl (by decide) rfl rfl ?_
  refine j_iload_n (q := 2) (pc' := 11) C dX5_bySeed_10 rfl rfl rfl ?_
  refine j_istore (lv' := [(4, .int p0), (3, .ref nx), (2, .int ((1 : Int32) <<< (p1 &&& 31))), (0, .int p0), (1, .int p1)]) (pc' := 13) C dX5_bySeed_11 (by decide) rfl rfl ?_
  refine j_iconst (v := 0) (pc' := 14) C dX5_bySeed_13 kI_0 rfl ?_
  refine j_istore (lv' := [(5, .int (0 : Int32)), (4, .int p0), (3, .ref nx), (2, .int ((1 : Int32) <<< (p1 &&& 31))), (0, .int p0), (1, .int p1)]) (pc' := 16) C dX5_bySeed_14 (by decide) rfl rfl ?_
  obtain ⟨zo5, hzo5, rzo5⟩ := ob hr
  have kzo5 : Jd G zt1.2.2.1 zt1.2.2.2 (nx + 1) zo5.2 56 [(1, .int p1), (2, .int ((1 : Int32) <<< (p1 &&& 31))), (3, .ref nx)] [] := by
    have hr := rzo5
    refine j_iconst (v := 1) (pc' := 57) C dX5_bySeed_56 kI_1 rfl ?_
    obtain ⟨zk9, hzk9, hr⟩ := ob hr
    obtain ⟨nzk9, ezk9, bzk9⟩ := nwa_sp hzk9
    obtain ⟨zt7, hr, azt7, bzt7, czt7, dzt7⟩ := adcK_s hr
    obtain ⟨zc8, hzc8, hr⟩ := ob hr
    have hzc8 := Option.some.inj hzc8
    refine j_k (kc' := zt7.2.2.1 + 1) (ks' := zt7.2.2.2 + zk9) (by omega) (by omega) ?_
    refine j_newa (ty := .long) (t0 := 1) (a0 := (zk9, .inr (.inl (fun _ => 0)))) (N := zk9) (pc' := 59) C dX5_bySeed_57 rfl (fun _ => rfl) (fun _ _ => rfl) wm_215 (fun _ => rfl) nzk9 ezk9 (Nat.le_trans (Nat.mul_le_mul_left _ (by decide)) bzk9) rfl ?_
    rw [hzc8]
    refine j_astore (lv' := [(5, .ref (nx + 1)), (1, .int p1), (2, .int ((1 : Int32) <<< (p1 &&& 31))), (3, .ref nx)]) (pc' := 61) C dX5_bySeed_59 (by decide) rfl rfl ?_
    refine j_aload (q := 0) (pc' := 63) C dX5_bySeed_61 rfl rfl ?_
    refine j_iconst (v := 0) (pc' := 64) C dX5_bySeed_63 kI_0 rfl ?_
    refine j_lconst (v := 1) (pc' := 65) C dX5_bySeed_64 kL_1 rfl ?_
    refine j_iload_n (q := 2) (pc' := 66) C dX5_bySeed_65 rfl rfl rfl ?_
    refine j_iconst (v := 1) (pc' := 67) C dX5_bySeed_66 kI_1 rfl ?_
    refine j_isub (pc' := 68) C dX5_bySeed_67 rfl ?_
    refine j_lshl (pc' := 69) C dX5_bySeed_68 rfl ?_
    obtain ⟨zc10, hzc10, hr⟩ := ob hr
    refine j_last (pc' := 70) C dX5_bySeed_69 hzc10 rfl ?_
    obtain ⟨zt11, hr, azt11, bzt11, czt11, dzt11⟩ := adcK_s hr
    obtain ⟨zc12, hzc12, hr⟩ := ob hr
    have hzc12 := Option.some.inj hzc12
    refine j_k (kc' := zt11.2.2.1 + 1) (ks' := zt11.2.2.2 + 7) (by omega) (by omega) ?_
    refine j_new (ci := 3) (N := 7) (C0 := RX5) (T := TX5) (ty := tyX5) (fs := df_X5) (pc' := 73) C dX5_bySeed_70 rfl iw_X5 tyX5_ok wm_219 wm_220 wm_127 dv_X5 rfl ?_
    rw [hzc12]
    refine j_dup (pc' := 74) C dX5_bySeed_73 rfl rfl ?_
    refine j_iload_n (q := 1) (pc' := 75) C dX5_bySeed_74 rfl rfl rfl ?_
    refine j_aload_n (q := 3) (pc' := 76) C dX5_bySeed_75 rfl rfl rfl ?_
    refine j_lconst (v := 1) (pc' := 77) C dX5_bySeed_76 kL_1 rfl ?_
    refine j_aload (q := 0) (pc' := 79) C dX5_bySeed_77 rfl rfl ?_
    obtain ⟨zq13, zt14, hzq13, hr, azt14, bzt14, czt14, dzt14⟩ := adcB_s hr
    refine j_k (kc' := zt14.2.2.1 + zq13.2.2.1) (ks' := zt14.2.2.2 + zq13.2.2.2) (by omega) (by omega) ?_
    refine j_callIA (As := [.int p1, .ref nx, .long (1 : Int64), .ref (nx + 1)]) (rest := [.ref ((nx + 1) + 1)]) (st1 := [.ref ((nx + 1) + 1)]) (pc' := 82) C wm_222 rfl (c_X5_init hzq13) yw_X5_init wm_221 rfl rfl (Nat.le_of_ble_eq_true rfl) ⟨by decide, by decide⟩ dX5_bySeed_79 rfl rfl ?_
    obtain ⟨azf15, bzf16, czf17, dzf18⟩ := some4 hr
    refine j_k (kc' := 0) (ks' := 0) (by omega) (by omega) ?_
    rw [show nx + q.2.2.1 = ((((nx + 1) + 1) + 1) + zq13.2.2.1) by omega, (bzt1.trans (bzt7.trans (bzt11.trans (bzt14.trans bzf16)))), (azt1.trans (azt7.trans (azt11.trans (azt14.trans azf15))))] at hq
    exact j_aret (x := some _) C hq hret (by first | exact Or.inl ⟨_, rfl⟩ | exact Or.inr ⟨_, rfl⟩) dX5_bySeed_82
  refine j_lv (lv' := [(1, .int p1), (2, .int ((1 : Int32) <<< (p1 &&& 31))), (3, .ref nx), (4, .int p0), (5, .int (0 : Int32))]) [5, 3, 2, 1, 0] rfl ?_
  refine it_J (J := (fun (zs4 : (Int32 × Int32) × Ce) => Jd G zt1.2.2.1 zt1.2.2.2 (nx + 1) zs4.2 16 [(1, .int p1), (2, .int ((1 : Int32) <<< (p1 &&& 31))), (3, .ref nx), (4, .int zs4.1.1), (5, .int zs4.1.2)] [])) ?_ hzo5
  clear hzo5
  intro zs4 zr6 hr izs4 ezs4
  refine j_iload (q := 4) (pc' := 18) C dX5_bySeed_16 rfl rfl ?_
  refine j_aload_n (q := 2) (pc' := 19) C dX5_bySeed_18 rfl rfl rfl ?_
  obtain ⟨zx19, hzx19, hr⟩ := ob hr
  refine j_alen (pc' := 20) C dX5_bySeed_19 hzx19 rfl ?_
  refine j_ic_ge (tgt := 56) (pc' := 23) C dX5_bySeed_20 rfl rfl (fun hc => ?_) (fun hc => ?_)
  · have hr := ifT hc hr
    clear hc
    have hr := ezs4 _ (Option.some.inj hr).symm
    subst hr
    exact j_lv [0, 1, 2] rfl kzo5
  · have hr := ifF hc hr
    clear hc
    refine j_iload (q := 3) (pc' := 25) C dX5_bySeed_23 rfl rfl ?_
    refine j_sipush (v := 773) (pc' := 28) C dX5_bySeed_25 kS_773 rfl ?_
    refine j_imul (pc' := 29) C dX5_bySeed_28 rfl ?_
    refine j_sipush (v := 641) (pc' := 32) C dX5_bySeed_29 kS_641 rfl ?_
    refine j_iadd (pc' := 33) C dX5_bySeed_32 rfl ?_
    refine j_sipush (v := 31139) (pc' := 36) C dX5_bySeed_33 kS_31139 rfl ?_
    obtain ⟨zz20, hzz20, hr⟩ := ob hr
    refine j_irem (pc' := 37) C dX5_bySeed_36 hzz20 rfl ?_
    refine j_istore (lv' := [(4, .int (rm32 ((zs4.1.1 * (773 : Int32)) + (641 : Int32)) (31139 : Int32))), (1, .int p1), (2, .int ((1 : Int32) <<< (p1 &&& 31))), (3, .ref nx), (5, .int zs4.1.2)]) (pc' := 39) C dX5_bySeed_37 (by decide) rfl rfl ?_
    refine j_aload_n (q := 3) (pc' := 40) C dX5_bySeed_39 rfl rfl rfl ?_
    refine j_iload (q := 4) (pc' := 42) C dX5_bySeed_40 rfl rfl ?_
    refine j_iload (q := 0) (pc' := 44) C dX5_bySeed_42 rfl rfl ?_
    refine j_bipush (v := 7) (pc' := 46) C dX5_bySeed_44 kB_7 rfl ?_
    obtain ⟨zz21, hzz21, hr⟩ := ob hr
    refine j_idiv (pc' := 47) C dX5_bySeed_46 hzz21 rfl ?_
    refine j_iload_n (q := 2) (pc' := 48) C dX5_bySeed_47 rfl rfl rfl ?_
    obtain ⟨zz22, hzz22, hr⟩ := ob hr
    refine j_irem (pc' := 49) C dX5_bySeed_48 hzz22 rfl ?_
    obtain ⟨zc23, hzc23, hr⟩ := ob hr
    refine j_iast (pc' := 50) C dX5_bySeed_49 hzc23 rfl ?_
    refine j_iinc (q := 4) (v := 1) (lv' := [(5, .int (zs4.1.2 + (1 : Int32))), (4, .int (rm32 ((zs4.1.1 * (773 : Int32)) + (641 : Int32)) (31139 : Int32))), (1, .int p1), (2, .int ((1 : Int32) <<< (p1 &&& 31))), (3, .ref nx)]) (pc' := 53) C dX5_bySeed_50 rfl kI_1 (by decide) rfl rfl ?_
    refine j_goto (tgt := 16) C dX5_bySeed_53 rfl ?_
    have hr := izs4 (((rm32 ((zs4.1.1 * (773 : Int32)) + (641 : Int32)) (31139 : Int32)), (zs4.1.2 + (1 : Int32))), zc23) (Option.some.inj hr).symm
    exact j_lv [2, 3, 4, 1, 0] rfl hr
def m_X5_hasState (ce : Ce) (this : Nat) (p1 : Int32) : Option (Int32) :=
  if p1 < 0 then
    some (0 : Int32)
  else
    (gI ce 3 1 this).bind fun zx1 =>
    if zx1 ≤ p1 then
      some (0 : Int32)
    else
      some (1 : Int32)
set_option maxRecDepth 100000 in
set_option maxHeartbeats 4000000 in
theorem c_X5_hasState {nx : Nat} {ce : Ce} {this : Nat} {p1 : Int32} {q : Int32} (hr : m_X5_hasState ce this p1 = some q) : Ct yX5_hasState cX5_hasState 2 (some .boolean) 0 0 0 0 [.ref this, .int p1] nx ce (some (.int q)) ce := by
  unfold m_X5_hasState at hr
  refine ct_of (by decide) (Nat.le_of_ble_eq_true rfl) ?_
  intro G C hq hret hin
  show Jd G 0 0 nx ce 0 [(0, .ref this), (1, .int p1)] []
  refine j_iload_n (q := 1) (pc' := 1) C dX5_hasState_0 rfl rfl rfl ?_
  refine j_if_lt (tgt := 16) (pc' := 4) C dX5_hasState_1 rfl rfl (fun hc => ?_) (fun hc => ?_)
  · have hr := ifT hc hr
    clear hc
    refine j_iconst (v := 0) (pc' := 17) C dX5_hasState_16 kI_0 rfl ?_
    have hr := Option.some.inj hr
    subst hr
    exact j_zret C hq hret rfl dX5_hasState_17
  · have hr := ifF hc hr
    clear hc
    refine j_iload_n (q := 1) (pc' := 5) C dX5_hasState_4 rfl rfl rfl ?_
    refine j_aload_n (q := 0) (pc' := 6) C dX5_hasState_5 rfl rfl rfl ?_
    obtain ⟨zx1, hzx1, hr⟩ := ob hr
    refine j_getI (pc' := 9) C dX5_hasState_6 fl_X5_15 hzx1 rfl ?_
    refine j_ic_ge (tgt := 16) (pc' := 12) C dX5_hasState_9 rfl rfl (fun hc => ?_) (fun hc => ?_)
    · have hr := ifT hc hr
      clear hc
      refine j_iconst (v := 0) (pc' := 17) C dX5_hasState_16 kI_0 rfl ?_
      have hr := Option.some.inj hr
      subst hr
      exact j_zret C hq hret rfl dX5_hasState_17
    · have hr := ifF hc hr
      clear hc
      refine j_iconst (v := 1) (pc' := 13) C dX5_hasState_12 kI_1 rfl ?_
      refine j_goto (tgt := 17) C dX5_hasState_13 rfl ?_
      have hr := Option.some.inj hr
      subst hr
      exact j_zret C hq hret rfl dX5_hasState_17
def m_X5_hasCube (ce : Ce) (this : Nat) (p1 : Int32) (p2 : Int32) : Option (Int32) :=
  if p1 < 0 then
    some (0 : Int32)
  else
    (gI ce 3 1 this).bind fun zx1 =>
    if zx1 ≤ p1 then
      some (0 : Int32)
    else
      if (p2 &&& (p1 ^^^ (-1 : Int32))) = 0 then
        some (1 : Int32)
      else
        some (0 : Int32)
set_option maxRecDepth 100000 in
set_option maxHeartbeats 4000000 in
theorem c_X5_hasCube {nx : Nat} {ce : Ce} {this : Nat} {p1 : Int32} {p2 : Int32} {q : Int32} (hr : m_X5_hasCube ce this p1 p2 = some q) : Ct yX5_hasCube cX5_hasCube 3 (some .boolean) 0 0 0 0 [.ref this, .int p1, .int p2] nx ce (some (.int q)) ce := by
  unfold m_X5_hasCube at hr
  refine ct_of (by decide) (Nat.le_of_ble_eq_true rfl) ?_
  intro G C hq hret hin
  show Jd G 0 0 nx ce 0 [(0, .ref this), (1, .int p1), (2, .int p2)] []
  refine j_iload_n (q := 1) (pc' := 1) C dX5_hasCube_0 rfl rfl rfl ?_
  refine j_if_lt (tgt := 24) (pc' := 4) C dX5_hasCube_1 rfl rfl (fun hc => ?_) (fun hc => ?_)
  · have hr := ifT hc hr
    clear hc
    refine j_iconst (v := 0) (pc' := 25) C dX5_hasCube_24 kI_0 rfl ?_
    have hr := Option.some.inj hr
    subst hr
    exact j_zret C hq hret rfl dX5_hasCube_25
  · have hr := ifF hc hr
    clear hc
    refine j_iload_n (q := 1) (pc' := 5) C dX5_hasCube_4 rfl rfl rfl ?_
    refine j_aload_n (q := 0) (pc' := 6) C dX5_hasCube_5 rfl rfl rfl ?_
    obtain ⟨zx1, hzx1, hr⟩ := ob hr
    refine j_getI (pc' := 9) C dX5_hasCube_6 fl_X5_15 hzx1 rfl ?_
    refine j_ic_ge (tgt := 24) (pc' := 12) C dX5_hasCube_9 rfl rfl (fun hc => ?_) (fun hc => ?_)
    · have hr := ifT hc hr
      clear hc
      refine j_iconst (v := 0) (pc' := 25) C dX5_hasCube_24 kI_0 rfl ?_
      have hr := Option.some.inj hr
      subst hr
      exact j_zret C hq hret rfl dX5_hasCube_25
    · have hr := ifF hc hr
      clear hc
      refine j_iload_n (q := 2) (pc' := 13) C dX5_hasCube_12 rfl rfl rfl ?_
      refine j_iload_n (q := 1) (pc' := 14) C dX5_hasCube_13 rfl rfl rfl ?_
      refine j_iconst (v := -1) (pc' := 15) C dX5_hasCube_14 kI_m1 rfl ?_
      refine j_ixor (pc' := 16) C dX5_hasCube_15 rfl ?_
      refine j_iand (pc' := 17) C dX5_hasCube_16 rfl ?_
      refine j_if_ne (tgt := 24) (pc' := 20) C dX5_hasCube_17 rfl rfl (fun hc => ?_) (fun hc => ?_)
      · have hr := ifF hc hr
        clear hc
        refine j_iconst (v := 0) (pc' := 25) C dX5_hasCube_24 kI_0 rfl ?_
        have hr := Option.some.inj hr
        subst hr
        exact j_zret C hq hret rfl dX5_hasCube_25
      · have hr := ifT hc hr
        clear hc
        refine j_iconst (v := 1) (pc' := 21) C dX5_hasCube_20 kI_1 rfl ?_
        refine j_goto (tgt := 25) C dX5_hasCube_21 rfl ?_
        have hr := Option.some.inj hr
        subst hr
        exact j_zret C hq hret rfl dX5_hasCube_25
def m_X5_next (ce : Ce) (this : Nat) (p1 : Int32) (p2 : Int32) : Option (Int32) :=
  if ((p1 * (4 : Int32)) + p2) < 0 then
    some (-1 : Int32)
  else
    (gA ce 3 5 this).bind fun zx1 =>
    (alen ce zx1).bind fun zx2 =>
    if zx2 ≤ ((p1 * (4 : Int32)) + p2) then
      some (-1 : Int32)
    else
      (gA ce 3 5 this).bind fun zx3 =>
      (aI ce zx3 ((p1 * (4 : Int32)) + p2)).bind fun zx4 =>
      some zx4
set_option maxRecDepth 100000 in
set_option maxHeartbeats 4000000 in
theorem c_X5_next {nx : Nat} {ce : Ce} {this : Nat} {p1 : Int32} {p2 : Int32} {q : Int32} (hr : m_X5_next ce this p1 p2 = some q) : Ct yX5_next cX5_next 4 (some .int) 0 0 0 0 [.ref this, .int p1, .int p2] nx ce (some (.int q)) ce := by
  unfold m_X5_next at hr
  refine ct_of (by decide) (Nat.le_of_ble_eq_true rfl) ?_
  intro G C hq hret hin
  show Jd G 0 0 nx ce 0 [(0, .ref this), (1, .int p1), (2, .int p2)] []
  refine j_iload_n (q := 1) (pc' := 1) C dX5_next_0 rfl rfl rfl ?_
  refine j_iconst (v := 4) (pc' := 2) C dX5_next_1 kI_4 rfl ?_
  refine j_imul (pc' := 3) C dX5_next_2 rfl ?_
  refine j_iload_n (q := 2) (pc' := 4) C dX5_next_3 rfl rfl rfl ?_
  refine j_iadd (pc' := 5) C dX5_next_4 rfl ?_
  refine j_istore_n (lv' := [(3, .int ((p1 * (4 : Int32)) + p2)), (0, .ref this), (1, .int p1), (2, .int p2)]) (pc' := 6) C dX5_next_5 rfl (by decide) rfl rfl ?_
  refine j_iload_n (q := 0) (pc' := 7) C dX5_next_6 rfl rfl rfl ?_
  refine j_if_lt (tgt := 28) (pc' := 10) C dX5_next_7 rfl rfl (fun hc => ?_) (fun hc => ?_)
  · have hr := ifT hc hr
    clear hc
    refine j_iconst (v := -1) (pc' := 29) C dX5_next_28 kI_m1 rfl ?_
    have hr := Option.some.inj hr
    subst hr
    exact j_iret C hq hret dX5_next_29
  · have hr := ifF hc hr
    clear hc
    refine j_iload_n (q := 0) (pc' := 11) C dX5_next_10 rfl rfl rfl ?_
    refine j_aload_n (q := 1) (pc' := 12) C dX5_next_11 rfl rfl rfl ?_
    obtain ⟨zx1, hzx1, hr⟩ := ob hr
    refine j_getA (pc' := 15) C dX5_next_12 fl_X5_31 hzx1 rfl ?_
    obtain ⟨zx2, hzx2, hr⟩ := ob hr
    refine j_alen (pc' := 16) C dX5_next_15 hzx2 rfl ?_
    refine j_ic_ge (tgt := 28) (pc' := 19) C dX5_next_16 rfl rfl (fun hc => ?_) (fun hc => ?_)
    · have hr := ifT hc hr
      clear hc
      refine j_iconst (v := -1) (pc' := 29) C dX5_next_28 kI_m1 rfl ?_
      have hr := Option.some.inj hr
      subst hr
      exact j_iret C hq hret dX5_next_29
    · have hr := ifF hc hr
      clear hc
      refine j_aload_n (q := 1) (pc' := 20) C dX5_next_19 rfl rfl rfl ?_
      obtain ⟨zx3, hzx3, hr⟩ := ob hr
      refine j_getA (pc' := 23) C dX5_next_20 fl_X5_31 hzx3 rfl ?_
      refine j_iload_n (q := 0) (pc' := 24) C dX5_next_23 rfl rfl rfl ?_
      obtain ⟨zx4, hzx4, hr⟩ := ob hr
      refine j_iald (pc' := 25) C dX5_next_24 hzx4 rfl ?_
      refine j_goto (tgt := 29) C dX5_next_25 rfl ?_
      have hr := Option.some.inj hr
      subst hr
      exact j_iret C hq hret dX5_next_29
def m_X5_inputBetween (ce : Ce) (this : Nat) (p1 : Int32) (p2 : Int32) : Option (Int32) :=
  (it (fun (zs1 : Int32) =>
    if (4 : Int32) ≤ zs1 then
      some (Sum.inr (Sum.inr ()))
    else
      (rcv ce 3 this).bind fun zz4 =>
      (m_X5_next ce this p1 zs1).bind fun zx5 =>
      if zx5 = p2 then
        some (Sum.inr (Sum.inl zs1))
      else
        some (Sum.inl (zs1 + (1 : Int32)))
  ) FU (0 : Int32)).bind fun (zo2 : Int32 ⊕ Unit) =>
  Sum.elim (fun wzo2 => some wzo2) (fun vzo2 =>
    some (-1 : Int32)
  ) zo2
set_option maxRecDepth 100000 in
set_option maxHeartbeats 4000000 in
theorem c_X5_inputBetween {nx : Nat} {ce : Ce} {this : Nat} {p1 : Int32} {p2 : Int32} {q : Int32} (hr : m_X5_inputBetween ce this p1 p2 = some q) : Ct yX5_inputBetween cX5_inputBetween 4 (some .int) 1 23 0 0 [.ref this, .int p1, .int p2] nx ce (some (.int q)) ce := by
  unfold m_X5_inputBetween at hr
  refine ct_of (by decide) (Nat.le_of_ble_eq_true rfl) ?_
  intro G C hq hret hin
  show Jd G 0 0 nx ce 0 [(0, .ref this), (1, .int p1), (2, .int p2)] []
  refine j_iconst (v := 0) (pc' := 1) C dX5_inputBetween_0 kI_0 rfl ?_
  refine j_istore_n (lv' := [(3, .int (0 : Int32)), (0, .ref this), (1, .int p1), (2, .int p2)]) (pc' := 2) C dX5_inputBetween_1 rfl (by decide) rfl rfl ?_
  obtain ⟨zo2, hzo2, rzo2⟩ := ob hr
  have kzo2 : ∀ vzo2, zo2 = Sum.inr vzo2 → Jd G 0 0 nx ce 25 [] [] := by
    intro vzo2 ezo2
    rw [ezo2] at rzo2
    have hr := elR rzo2
    refine j_iconst (v := -1) (pc' := 26) C dX5_inputBetween_25 kI_m1 rfl ?_
    have hr := Option.some.inj hr
    subst hr
    exact j_iret C hq hret dX5_inputBetween_26
  refine j_lv (lv' := [(0, .ref this), (1, .int p1), (2, .int p2), (3, .int (0 : Int32))]) [1, 2, 3, 0] rfl ?_
  refine it_J (J := (fun (zs1 : Int32) => Jd G 0 0 nx ce 2 [(0, .ref this), (1, .int p1), (2, .int p2), (3, .int zs1)] [])) ?_ hzo2
  clear hzo2
  intro zs1 zr3 hr izs1 ezs1
  refine j_iload_n (q := 3) (pc' := 3) C dX5_inputBetween_2 rfl rfl rfl ?_
  refine j_iconst (v := 4) (pc' := 4) C dX5_inputBetween_3 kI_4 rfl ?_
  refine j_ic_ge (tgt := 25) (pc' := 7) C dX5_inputBetween_4 rfl rfl (fun hc => ?_) (fun hc => ?_)
  · have hr := ifT hc hr
    clear hc
    have hr := ezs1 _ (Option.some.inj hr).symm
    subst hr
    exact j_lv [] rfl (kzo2 _ rfl)
  · have hr := ifF hc hr
    clear hc
    refine j_aload_n (q := 0) (pc' := 8) C dX5_inputBetween_7 rfl rfl rfl ?_
    refine j_iload_n (q := 1) (pc' := 9) C dX5_inputBetween_8 rfl rfl rfl ?_
    refine j_iload_n (q := 3) (pc' := 10) C dX5_inputBetween_9 rfl rfl rfl ?_
    obtain ⟨zz4, hzz4, hr⟩ := ob hr
    obtain ⟨zx5, hzx5, hr⟩ := ob hr
    obtain ⟨fhzz4, hzz4⟩ := rcv_sp hzz4
    refine j_callV (ci := 3) (As := [.int p1, .int zs1]) (rest := []) (st1 := [.int zx5]) (pc' := 13) C ⟨wm_1024, wm_1025⟩ rfl hzz4 (c_X5_next (nx := nx) hzx5) yw_X5_next wm_1125 rfl rfl (Nat.le_of_ble_eq_true rfl) ⟨by decide, by decide⟩ dX5_inputBetween_10 rfl rfl ?_
    refine j_iload_n (q := 2) (pc' := 14) C dX5_inputBetween_13 rfl rfl rfl ?_
    refine j_ic_ne (tgt := 19) (pc' := 17) C dX5_inputBetween_14 rfl rfl (fun hc => ?_) (fun hc => ?_)
    · have hr := ifF hc hr
      clear hc
      refine j_iinc (q := 3) (v := 1) (lv' := [(3, .int (zs1 + (1 : Int32))), (0, .ref this), (1, .int p1), (2, .int p2)]) (pc' := 22) C dX5_inputBetween_19 rfl kI_1 (by decide) rfl rfl ?_
      refine j_goto (tgt := 2) C dX5_inputBetween_22 rfl ?_
      have hr := izs1 (zs1 + (1 : Int32)) (Option.some.inj hr).symm
      exact j_lv [1, 2, 3, 0] rfl hr
    · have hr := ifT hc hr
      clear hc
      refine j_iload_n (q := 3) (pc' := 18) C dX5_inputBetween_17 rfl rfl rfl ?_
      have hr := ezs1 _ (Option.some.inj hr).symm
      subst hr
      have hr := elL rzo2
      have hr := Option.some.inj hr
      subst hr
      exact j_iret C hq hret dX5_inputBetween_18
def m_X5_leadingTo (ce : Ce) (this : Nat) (p1 : Int32) : Option (Int64) :=
  if p1 < 0 then
    some (0 : Int64)
  else
    (gA ce 3 6 this).bind fun zx1 =>
    (alen ce zx1).bind fun zx2 =>
    if zx2 ≤ p1 then
      some (0 : Int64)
    else
      (gA ce 3 6 this).bind fun zx3 =>
      (aL ce zx3 p1).bind fun zx4 =>
      some zx4
set_option maxRecDepth 100000 in
set_option maxHeartbeats 4000000 in
theorem c_X5_leadingTo {nx : Nat} {ce : Ce} {this : Nat} {p1 : Int32} {q : Int64} (hr : m_X5_leadingTo ce this p1 = some q) : Ct yX5_leadingTo cX5_leadingTo 2 (some .long) 0 0 0 0 [.ref this, .int p1] nx ce (some (.long q)) ce := by
  unfold m_X5_leadingTo at hr
  refine ct_of (by decide) (Nat.le_of_ble_eq_true rfl) ?_
  intro G C hq hret hin
  show Jd G 0 0 nx ce 0 [(0, .ref this), (1, .int p1)] []
  refine j_iload_n (q := 1) (pc' := 1) C dX5_leadingTo_0 rfl rfl rfl ?_
  refine j_if_lt (tgt := 22) (pc' := 4) C dX5_leadingTo_1 rfl rfl (fun hc => ?_) (fun hc => ?_)
  · have hr := ifT hc hr
    clear hc
    refine j_lconst (v := 0) (pc' := 23) C dX5_leadingTo_22 kL_0 rfl ?_
    have hr := Option.some.inj hr
    subst hr
    exact j_lret C hq hret dX5_leadingTo_23
  · have hr := ifF hc hr
    clear hc
    refine j_iload_n (q := 1) (pc' := 5) C dX5_leadingTo_4 rfl rfl rfl ?_
    refine j_aload_n (q := 0) (pc' := 6) C dX5_leadingTo_5 rfl rfl rfl ?_
    obtain ⟨zx1, hzx1, hr⟩ := ob hr
    refine j_getA (pc' := 9) C dX5_leadingTo_6 fl_X5_35 hzx1 rfl ?_
    obtain ⟨zx2, hzx2, hr⟩ := ob hr
    refine j_alen (pc' := 10) C dX5_leadingTo_9 hzx2 rfl ?_
    refine j_ic_ge (tgt := 22) (pc' := 13) C dX5_leadingTo_10 rfl rfl (fun hc => ?_) (fun hc => ?_)
    · have hr := ifT hc hr
      clear hc
      refine j_lconst (v := 0) (pc' := 23) C dX5_leadingTo_22 kL_0 rfl ?_
      have hr := Option.some.inj hr
      subst hr
      exact j_lret C hq hret dX5_leadingTo_23
    · have hr := ifF hc hr
      clear hc
      refine j_aload_n (q := 0) (pc' := 14) C dX5_leadingTo_13 rfl rfl rfl ?_
      obtain ⟨zx3, hzx3, hr⟩ := ob hr
      refine j_getA (pc' := 17) C dX5_leadingTo_14 fl_X5_35 hzx3 rfl ?_
      refine j_iload_n (q := 1) (pc' := 18) C dX5_leadingTo_17 rfl rfl rfl ?_
      obtain ⟨zx4, hzx4, hr⟩ := ob hr
      refine j_lald (pc' := 19) C dX5_leadingTo_18 hzx4 rfl ?_
      refine j_goto (tgt := 23) C dX5_leadingTo_19 rfl ?_
      have hr := Option.some.inj hr
      subst hr
      exact j_lret C hq hret dX5_leadingTo_23
def m_X5_after (ce : Ce) (this : Nat) (p1 : Int64) (p2 : Int32) : Option (Int64) :=
  (it (fun (zs1 : Int64 × Int64 × Int32) =>
    (gI ce 3 1 this).bind fun zx4 =>
    if zx4 ≤ zs1.2.2 then
      some (Sum.inr zs1.1)
    else
      if (lg_cmp zs1.2.1 (0 : Int64)) = 0 then
        some (Sum.inr zs1.1)
      else
        (it (fun (zs5 : Int64 × Int32) =>
          if (4 : Int32) ≤ zs5.2 then
            some (Sum.inr zs5.1)
          else
            if (lg_cmp (zs1.2.1 &&& (1 : Int64)) (0 : Int64)) = 0 then
              some (Sum.inr zs5.1)
            else
              if ((p2 >>> (zs5.2 &&& 31)) &&& (1 : Int32)) = 0 then
                some (Sum.inl (zs5.1, (zs5.2 + (1 : Int32))))
              else
                (rcv ce 3 this).bind fun zz8 =>
                (m_X5_next ce this zs1.2.2 zs5.2).bind fun zx9 =>
                some (Sum.inl ((zs5.1 ||| ((1 : Int64) <<< (Int32.toInt64 zx9 &&& 63))), (zs5.2 + (1 : Int32))))
        ) FU (zs1.1, (0 : Int32))).bind fun (zo6 : Int64) =>
        some (Sum.inl (zo6, (usr64 zs1.2.1 (1 : Int32)), (zs1.2.2 + (1 : Int32))))
  ) FU ((0 : Int64), p1, (0 : Int32))).bind fun (zo2 : Int64) =>
  some zo2
set_option maxRecDepth 100000 in
set_option maxHeartbeats 4000000 in
theorem c_X5_after {nx : Nat} {ce : Ce} {this : Nat} {p1 : Int64} {p2 : Int32} {q : Int64} (hr : m_X5_after ce this p1 p2 = some q) : Ct yX5_after cX5_after 10 (some .long) 1 23 0 0 [.ref this, .long p1, .int p2] nx ce (some (.long q)) ce := by
  unfold m_X5_after at hr
  refine ct_of (by decide) (Nat.le_of_ble_eq_true rfl) ?_
  intro G C hq hret hin
  show Jd G 0 0 nx ce 0 [(0, .ref this), (1, .long p1), (3, .int p2)] []
  refine j_lconst (v := 0) (pc' := 1) C dX5_after_0 kL_0 rfl ?_
  refine j_lstore (lv' := [(4, .long (0 : Int64)), (0, .ref this), (1, .long p1), (3, .int p2)]) (pc' := 3) C dX5_after_1 (by decide) rfl rfl ?_
  refine j_lload_n (q := 2) (pc' := 4) C dX5_after_3 rfl rfl rfl ?_
  refine j_lstore (lv' := [(6, .long p1), (4, .long (0 : Int64)), (0, .ref this), (1, .long p1), (3, .int p2)]) (pc' := 6) C dX5_after_4 (by decide) rfl rfl ?_
  refine j_iconst (v := 0) (pc' := 7) C dX5_after_6 kI_0 rfl ?_
  refine j_istore (lv' := [(8, .int (0 : Int32)), (6, .long p1), (4, .long (0 : Int64)), (0, .ref this), (1, .long p1), (3, .int p2)]) (pc' := 9) C dX5_after_7 (by decide) rfl rfl ?_
  obtain ⟨zo2, hzo2, rzo2⟩ := ob hr
  have kzo2 : Jd G 0 0 nx ce 85 [(4, .long zo2)] [] := by
    have hr := rzo2
    refine j_lload (q := 0) (pc' := 87) C dX5_after_85 rfl rfl ?_
    have hr := Option.some.inj hr
    subst hr
    exact j_lret C hq hret dX5_after_87
  refine j_lv (lv' := [(0, .ref this), (3, .int p2), (4, .long (0 : Int64)), (6, .long p1), (8, .int (0 : Int32))]) [3, 5, 2, 1, 0] rfl ?_
  refine it_J (J := (fun (zs1 : Int64 × Int64 × Int32) => Jd G 0 0 nx ce 9 [(0, .ref this), (3, .int p2), (4, .long zs1.1), (6, .long zs1.2.1), (8, .int zs1.2.2)] [])) ?_ hzo2
  clear hzo2
  intro zs1 zr3 hr izs1 ezs1
  refine j_iload (q := 4) (pc' := 11) C dX5_after_9 rfl rfl ?_
  refine j_aload_n (q := 0) (pc' := 12) C dX5_after_11 rfl rfl rfl ?_
  obtain ⟨zx4, hzx4, hr⟩ := ob hr
  refine j_getI (pc' := 15) C dX5_after_12 fl_X5_15 hzx4 rfl ?_
  refine j_ic_ge (tgt := 85) (pc' := 18) C dX5_after_15 rfl rfl (fun hc => ?_) (fun hc => ?_)
  · have hr := ifT hc hr
    clear hc
    have hr := ezs1 _ (Option.some.inj hr).symm
    subst hr
    exact j_lv [2] rfl kzo2
  · have hr := ifF hc hr
    clear hc
    refine j_lload (q := 3) (pc' := 20) C dX5_after_18 rfl rfl ?_
    refine j_lconst (v := 0) (pc' := 21) C dX5_after_20 kL_0 rfl ?_
    refine j_lcmp (pc' := 22) C dX5_after_21 rfl ?_
    refine j_if_eq (tgt := 85) (pc' := 25) C dX5_after_22 rfl rfl (fun hc => ?_) (fun hc => ?_)
    · have hr := ifT hc hr
      clear hc
      have hr := ezs1 _ (Option.some.inj hr).symm
      subst hr
      exact j_lv [2] rfl kzo2
    · have hr := ifF hc hr
      clear hc
      refine j_iconst (v := 0) (pc' := 26) C dX5_after_25 kI_0 rfl ?_
      refine j_istore (lv' := [(9, .int (0 : Int32)), (0, .ref this), (3, .int p2), (4, .long zs1.1), (6, .long zs1.2.1), (8, .int zs1.2.2)]) (pc' := 28) C dX5_after_26 (by decide) rfl rfl ?_
      obtain ⟨zo6, hzo6, rzo6⟩ := ob hr
      have kzo6 : Jd G 0 0 nx ce 73 [(0, .ref this), (3, .int p2), (4, .long zo6), (6, .long zs1.2.1), (8, .int zs1.2.2)] [] := by
        have hr := rzo6
        refine j_lload (q := 3) (pc' := 75) C dX5_after_73 rfl rfl ?_
        refine j_iconst (v := 1) (pc' := 76) C dX5_after_75 kI_1 rfl ?_
        refine j_lushr (pc' := 77) C dX5_after_76 rfl ?_
        refine j_lstore (lv' := [(6, .long (usr64 zs1.2.1 (1 : Int32))), (0, .ref this), (3, .int p2), (4, .long zo6), (8, .int zs1.2.2)]) (pc' := 79) C dX5_after_77 (by decide) rfl rfl ?_
        refine j_iinc (q := 4) (v := 1) (lv' := [(8, .int (zs1.2.2 + (1 : Int32))), (6, .long (usr64 zs1.2.1 (1 : Int32))), (0, .ref this), (3, .int p2), (4, .long zo6)]) (pc' := 82) C dX5_after_79 rfl kI_1 (by decide) rfl rfl ?_
        refine j_goto (tgt := 9) C dX5_after_82 rfl ?_
        have hr := izs1 (zo6, (usr64 zs1.2.1 (1 : Int32)), (zs1.2.2 + (1 : Int32))) (Option.some.inj hr).symm
        exact j_lv [2, 3, 4, 1, 0] rfl hr
      refine j_lv (lv' := [(0, .ref this), (3, .int p2), (4, .long zs1.1), (6, .long zs1.2.1), (8, .int zs1.2.2), (9, .int (0 : Int32))]) [1, 2, 3, 4, 5, 0] rfl ?_
      refine it_J (J := (fun (zs5 : Int64 × Int32) => Jd G 0 0 nx ce 28 [(0, .ref this), (3, .int p2), (4, .long zs5.1), (6, .long zs1.2.1), (8, .int zs1.2.2), (9, .int zs5.2)] [])) ?_ hzo6
      clear hzo6
      intro zs5 zr7 hr izs5 ezs5
      refine j_iload (q := 5) (pc' := 30) C dX5_after_28 rfl rfl ?_
      refine j_iconst (v := 4) (pc' := 31) C dX5_after_30 kI_4 rfl ?_
      refine j_ic_ge (tgt := 73) (pc' := 34) C dX5_after_31 rfl rfl (fun hc => ?_) (fun hc => ?_)
      · have hr := ifT hc hr
        clear hc
        have hr := ezs5 _ (Option.some.inj hr).symm
        subst hr
        exact j_lv [0, 1, 2, 3, 4] rfl kzo6
      · have hr := ifF hc hr
        clear hc
        refine j_lload (q := 3) (pc' := 36) C dX5_after_34 rfl rfl ?_
        refine j_lconst (v := 1) (pc' := 37) C dX5_after_36 kL_1 rfl ?_
        refine j_land (pc' := 38) C dX5_after_37 rfl ?_
        refine j_lconst (v := 0) (pc' := 39) C dX5_after_38 kL_0 rfl ?_
        refine j_lcmp (pc' := 40) C dX5_after_39 rfl ?_
        refine j_if_eq (tgt := 73) (pc' := 43) C dX5_after_40 rfl rfl (fun hc => ?_) (fun hc => ?_)
        · have hr := ifT hc hr
          clear hc
          have hr := ezs5 _ (Option.some.inj hr).symm
          subst hr
          exact j_lv [0, 1, 2, 3, 4] rfl kzo6
        · have hr := ifF hc hr
          clear hc
          refine j_iload_n (q := 1) (pc' := 44) C dX5_after_43 rfl rfl rfl ?_
          refine j_iload (q := 5) (pc' := 46) C dX5_after_44 rfl rfl ?_
          refine j_ishr (pc' := 47) C dX5_after_46 rfl ?_
          refine j_iconst (v := 1) (pc' := 48) C dX5_after_47 kI_1 rfl ?_
          refine j_iand (pc' := 49) C dX5_after_48 rfl ?_
          refine j_if_eq (tgt := 67) (pc' := 52) C dX5_after_49 rfl rfl (fun hc => ?_) (fun hc => ?_)
          · have hr := ifT hc hr
            clear hc
            refine j_iinc (q := 5) (v := 1) (lv' := [(9, .int (zs5.2 + (1 : Int32))), (0, .ref this), (3, .int p2), (4, .long zs5.1), (6, .long zs1.2.1), (8, .int zs1.2.2)]) (pc' := 70) C dX5_after_67 rfl kI_1 (by decide) rfl rfl ?_
            refine j_goto (tgt := 28) C dX5_after_70 rfl ?_
            have hr := izs5 (zs5.1, (zs5.2 + (1 : Int32))) (Option.some.inj hr).symm
            exact j_lv [1, 2, 3, 4, 5, 0] rfl hr
          · have hr := ifF hc hr
            clear hc
            refine j_lload (q := 2) (pc' := 54) C dX5_after_52 rfl rfl ?_
            refine j_lconst (v := 1) (pc' := 55) C dX5_after_54 kL_1 rfl ?_
            refine j_aload_n (q := 0) (pc' := 56) C dX5_after_55 rfl rfl rfl ?_
            refine j_iload (q := 4) (pc' := 58) C dX5_after_56 rfl rfl ?_
            refine j_iload (q := 5) (pc' := 60) C dX5_after_58 rfl rfl ?_
            obtain ⟨zz8, hzz8, hr⟩ := ob hr
            obtain ⟨zx9, hzx9, hr⟩ := ob hr
            obtain ⟨fhzz8, hzz8⟩ := rcv_sp hzz8
            refine j_callV (ci := 3) (As := [.int zs1.2.2, .int zs5.2]) (rest := [.long (1 : Int64), .long zs5.1]) (st1 := [.int zx9, .long (1 : Int64), .long zs5.1]) (pc' := 63) C ⟨wm_1024, wm_1025⟩ rfl hzz8 (c_X5_next (nx := nx) hzx9) yw_X5_next wm_1125 rfl rfl (Nat.le_of_ble_eq_true rfl) ⟨by decide, by decide⟩ dX5_after_60 rfl rfl ?_
            refine j_lshl (pc' := 64) C dX5_after_63 rfl ?_
            refine j_lor (pc' := 65) C dX5_after_64 rfl ?_
            refine j_lstore (lv' := [(4, .long (zs5.1 ||| ((1 : Int64) <<< (Int32.toInt64 zx9 &&& 63)))), (0, .ref this), (3, .int p2), (6, .long zs1.2.1), (8, .int zs1.2.2), (9, .int zs5.2)]) (pc' := 67) C dX5_after_65 (by decide) rfl rfl ?_
            refine j_iinc (q := 5) (v := 1) (lv' := [(9, .int (zs5.2 + (1 : Int32))), (4, .long (zs5.1 ||| ((1 : Int64) <<< (Int32.toInt64 zx9 &&& 63)))), (0, .ref this), (3, .int p2), (6, .long zs1.2.1), (8, .int zs1.2.2)]) (pc' := 70) C dX5_after_67 rfl kI_1 (by decide) rfl rfl ?_
            refine j_goto (tgt := 28) C dX5_after_70 rfl ?_
            have hr := izs5 ((zs5.1 ||| ((1 : Int64) <<< (Int32.toInt64 zx9 &&& 63))), (zs5.2 + (1 : Int32))) (Option.some.inj hr).symm
            exact j_lv [2, 3, 1, 4, 5, 0] rfl hr
def m_X5_stepsTo (ce : Ce) (this : Nat) (p1 : Int64) (p2 : Int32) : Option (Int32) :=
  (gJ ce 3 3 this).bind fun zx1 =>
  (gJ ce 3 3 this).bind fun zx2 =>
  (it (fun (zs3 : Int64 × Int64 × Int32) =>
    if (64 : Int32) < zs3.2.2 then
      some (Sum.inr (Sum.inr ()))
    else
      if (lg_cmp zs3.2.1 (0 : Int64)) = 0 then
        some (Sum.inr (Sum.inr ()))
      else
        if (lg_cmp (zs3.2.1 &&& p1) (0 : Int64)) = 0 then
          (rcv ce 3 this).bind fun zz6 =>
          (m_X5_after ce this zs3.2.1 p2).bind fun zx7 =>
          some (Sum.inl ((zs3.1 ||| (zx7 &&& (zs3.1 ^^^ (-1 : Int64)))), (zx7 &&& (zs3.1 ^^^ (-1 : Int64))), (zs3.2.2 + (1 : Int32))))
        else
          some (Sum.inr (Sum.inl zs3.2.2))
  ) FU (zx1, zx2, (0 : Int32))).bind fun (zo4 : Int32 ⊕ Unit) =>
  Sum.elim (fun wzo4 => some wzo4) (fun vzo4 =>
    some (-1 : Int32)
  ) zo4
set_option maxRecDepth 100000 in
set_option maxHeartbeats 4000000 in
theorem c_X5_stepsTo {nx : Nat} {ce : Ce} {this : Nat} {p1 : Int64} {p2 : Int32} {q : Int32} (hr : m_X5_stepsTo ce this p1 p2 = some q) : Ct yX5_stepsTo cX5_stepsTo 9 (some .int) 2 52 0 0 [.ref this, .long p1, .int p2] nx ce (some (.int q)) ce := by
  unfold m_X5_stepsTo at hr
  refine ct_of (by decide) (Nat.le_of_ble_eq_true rfl) ?_
  intro G C hq hret hin
  show Jd G 0 0 nx ce 0 [(0, .ref this), (1, .long p1), (3, .int p2)] []
  refine j_aload_n (q := 0) (pc' := 1) C dX5_stepsTo_0 rfl rfl rfl ?_
  obtain ⟨zx1, hzx1, hr⟩ := ob hr
  refine j_getJ (pc' := 4) C dX5_stepsTo_1 fl_X5_24 hzx1 rfl ?_
  refine j_lstore (lv' := [(4, .long zx1), (0, .ref this), (1, .long p1), (3, .int p2)]) (pc' := 6) C dX5_stepsTo_4 (by decide) rfl rfl ?_
  refine j_aload_n (q := 1) (pc' := 7) C dX5_stepsTo_6 rfl rfl rfl ?_
  obtain ⟨zx2, hzx2, hr⟩ := ob hr
  refine j_getJ (pc' := 10) C dX5_stepsTo_7 fl_X5_24 hzx2 rfl ?_
  refine j_lstore (lv' := [(6, .long zx2), (4, .long zx1), (0, .ref this), (1, .long p1), (3, .int p2)]) (pc' := 12) C dX5_stepsTo_10 (by decide) rfl rfl ?_
  refine j_iconst (v := 0) (pc' := 13) C dX5_stepsTo_12 kI_0 rfl ?_
  refine j_istore (lv' := [(8, .int (0 : Int32)), (6, .long zx2), (4, .long zx1), (0, .ref this), (1, .long p1), (3, .int p2)]) (pc' := 15) C dX5_stepsTo_13 (by decide) rfl rfl ?_
  obtain ⟨zo4, hzo4, rzo4⟩ := ob hr
  have kzo4 : ∀ vzo4, zo4 = Sum.inr vzo4 → Jd G 0 0 nx ce 70 [] [] := by
    intro vzo4 ezo4
    rw [ezo4] at rzo4
    have hr := elR rzo4
    refine j_iconst (v := -1) (pc' := 71) C dX5_stepsTo_70 kI_m1 rfl ?_
    have hr := Option.some.inj hr
    subst hr
    exact j_iret C hq hret dX5_stepsTo_71
  refine j_lv (lv' := [(0, .ref this), (1, .long p1), (3, .int p2), (4, .long zx1), (6, .long zx2), (8, .int (0 : Int32))]) [3, 4, 5, 2, 1, 0] rfl ?_
  refine it_J (J := (fun (zs3 : Int64 × Int64 × Int32) => Jd G 0 0 nx ce 15 [(0, .ref this), (1, .long p1), (3, .int p2), (4, .long zs3.1), (6, .long zs3.2.1), (8, .int zs3.2.2)] [])) ?_ hzo4
  clear hzo4
  intro zs3 zr5 hr izs3 ezs3
  refine j_iload (q := 5) (pc' := 17) C dX5_stepsTo_15 rfl rfl ?_
  refine j_bipush (v := 64) (pc' := 19) C dX5_stepsTo_17 kB_64 rfl ?_
  refine j_ic_gt (tgt := 70) (pc' := 22) C dX5_stepsTo_19 rfl rfl (fun hc => ?_) (fun hc => ?_)
  · have hr := ifT hc hr
    clear hc
    have hr := ezs3 _ (Option.some.inj hr).symm
    subst hr
    exact j_lv [] rfl (kzo4 _ rfl)
  · have hr := ifF hc hr
    clear hc
    refine j_lload (q := 4) (pc' := 24) C dX5_stepsTo_22 rfl rfl ?_
    refine j_lconst (v := 0) (pc' := 25) C dX5_stepsTo_24 kL_0 rfl ?_
    refine j_lcmp (pc' := 26) C dX5_stepsTo_25 rfl ?_
    refine j_if_eq (tgt := 70) (pc' := 29) C dX5_stepsTo_26 rfl rfl (fun hc => ?_) (fun hc => ?_)
    · have hr := ifT hc hr
      clear hc
      have hr := ezs3 _ (Option.some.inj hr).symm
      subst hr
      exact j_lv [] rfl (kzo4 _ rfl)
    · have hr := ifF hc hr
      clear hc
      refine j_lload (q := 4) (pc' := 31) C dX5_stepsTo_29 rfl rfl ?_
      refine j_lload_n (q := 1) (pc' := 32) C dX5_stepsTo_31 rfl rfl rfl ?_
      refine j_land (pc' := 33) C dX5_stepsTo_32 rfl ?_
      refine j_lconst (v := 0) (pc' := 34) C dX5_stepsTo_33 kL_0 rfl ?_
      refine j_lcmp (pc' := 35) C dX5_stepsTo_34 rfl ?_
      refine j_if_eq (tgt := 41) (pc' := 38) C dX5_stepsTo_35 rfl rfl (fun hc => ?_) (fun hc => ?_)
      · have hr := ifT hc hr
        clear hc
        refine j_aload_n (q := 0) (pc' := 42) C dX5_stepsTo_41 rfl rfl rfl ?_
        refine j_lload (q := 4) (pc' := 44) C dX5_stepsTo_42 rfl rfl ?_
        refine j_iload_n (q := 2) (pc' := 45) C dX5_stepsTo_44 rfl rfl rfl ?_
        obtain ⟨zz6, hzz6, hr⟩ := ob hr
        obtain ⟨zx7, hzx7, hr⟩ := ob hr
        obtain ⟨fhzz6, hzz6⟩ := rcv_sp hzz6
        refine j_callV (ci := 3) (As := [.long zs3.2.1, .int p2]) (rest := []) (st1 := [.long zx7]) (pc' := 48) C ⟨wm_1177, wm_1178⟩ rfl hzz6 (c_X5_after (nx := nx) hzx7) yw_X5_after wm_1176 rfl rfl (Nat.le_of_ble_eq_true rfl) ⟨by decide, by decide⟩ dX5_stepsTo_45 rfl rfl ?_
        refine j_lload (q := 3) (pc' := 50) C dX5_stepsTo_48 rfl rfl ?_
        refine j_ldc2 (pc' := 53) C dX5_stepsTo_50 wm_225 rfl ?_
        refine j_lxor (pc' := 54) C dX5_stepsTo_53 rfl ?_
        refine j_land (pc' := 55) C dX5_stepsTo_54 rfl ?_
        refine j_lstore (lv' := [(6, .long (zx7 &&& (zs3.1 ^^^ (-1 : Int64)))), (0, .ref this), (1, .long p1), (3, .int p2), (4, .long zs3.1), (8, .int zs3.2.2)]) (pc' := 57) C dX5_stepsTo_55 (by decide) rfl rfl ?_
        refine j_lload (q := 4) (pc' := 59) C dX5_stepsTo_57 rfl rfl ?_
        refine j_lload (q := 0) (pc' := 61) C dX5_stepsTo_59 rfl rfl ?_
        refine j_lor (pc' := 62) C dX5_stepsTo_61 rfl ?_
        refine j_lstore (lv' := [(4, .long (zs3.1 ||| (zx7 &&& (zs3.1 ^^^ (-1 : Int64))))), (6, .long (zx7 &&& (zs3.1 ^^^ (-1 : Int64)))), (0, .ref this), (1, .long p1), (3, .int p2), (8, .int zs3.2.2)]) (pc' := 64) C dX5_stepsTo_62 (by decide) rfl rfl ?_
        refine j_iinc (q := 5) (v := 1) (lv' := [(8, .int (zs3.2.2 + (1 : Int32))), (4, .long (zs3.1 ||| (zx7 &&& (zs3.1 ^^^ (-1 : Int64))))), (6, .long (zx7 &&& (zs3.1 ^^^ (-1 : Int64)))), (0, .ref this), (1, .long p1), (3, .int p2)]) (pc' := 67) C dX5_stepsTo_64 rfl kI_1 (by decide) rfl rfl ?_
        refine j_goto (tgt := 15) C dX5_stepsTo_67 rfl ?_
        have hr := izs3 ((zs3.1 ||| (zx7 &&& (zs3.1 ^^^ (-1 : Int64)))), (zx7 &&& (zs3.1 ^^^ (-1 : Int64))), (zs3.2.2 + (1 : Int32))) (Option.some.inj hr).symm
        exact j_lv [3, 4, 5, 1, 2, 0] rfl hr
      · have hr := ifF hc hr
        clear hc
        refine j_iload (q := 5) (pc' := 40) C dX5_stepsTo_38 rfl rfl ?_
        have hr := ezs3 _ (Option.some.inj hr).symm
        subst hr
        have hr := elL rzo4
        have hr := Option.some.inj hr
        subst hr
        exact j_iret C hq hret dX5_stepsTo_40
def m_X5_stepsBetween (ce : Ce) (this : Nat) (p1 : Int64) (p2 : Int64) : Option (Int32) :=
  (it (fun (zs1 : Int64 × Int64 × Int32) =>
    if (64 : Int32) < zs1.2.2 then
      some (Sum.inr (Sum.inr ()))
    else
      if (lg_cmp zs1.2.1 (0 : Int64)) = 0 then
        some (Sum.inr (Sum.inr ()))
      else
        if (lg_cmp (zs1.2.1 &&& p1) (0 : Int64)) = 0 then
          (rcv ce 3 this).bind fun zz4 =>
          (m_X5_before ce this zs1.2.1).bind fun zx5 =>
          some (Sum.inl ((zs1.1 ||| (zx5 &&& (zs1.1 ^^^ (-1 : Int64)))), (zx5 &&& (zs1.1 ^^^ (-1 : Int64))), (zs1.2.2 + (1 : Int32))))
        else
          some (Sum.inr (Sum.inl zs1.2.2))
  ) FU (p2, p2, (0 : Int32))).bind fun (zo2 : Int32 ⊕ Unit) =>
  Sum.elim (fun wzo2 => some wzo2) (fun vzo2 =>
    some (-1 : Int32)
  ) zo2
set_option maxRecDepth 100000 in
set_option maxHeartbeats 4000000 in
theorem c_X5_stepsBetween {nx : Nat} {ce : Ce} {this : Nat} {p1 : Int64} {p2 : Int64} {q : Int32} (hr : m_X5_stepsBetween ce this p1 p2 = some q) : Ct yX5_stepsBetween cX5_stepsBetween 10 (some .int) 1 27 0 0 [.ref this, .long p1, .long p2] nx ce (some (.int q)) ce := by
  unfold m_X5_stepsBetween at hr
  refine ct_of (by decide) (Nat.le_of_ble_eq_true rfl) ?_
  intro G C hq hret hin
  show Jd G 0 0 nx ce 0 [(0, .ref this), (1, .long p1), (3, .long p2)] []
  refine j_lload_n (q := 2) (pc' := 1) C dX5_stepsBetween_0 rfl rfl rfl ?_
  refine j_lstore (lv' := [(5, .long p2), (0, .ref this), (1, .long p1), (3, .long p2)]) (pc' := 3) C dX5_stepsBetween_1 (by decide) rfl rfl ?_
  refine j_lload_n (q := 3) (pc' := 4) C dX5_stepsBetween_3 rfl rfl rfl ?_
  refine j_lstore (lv' := [(7, .long p2), (5, .long p2), (0, .ref this), (1, .long p1), (3, .long p2)]) (pc' := 6) C dX5_stepsBetween_4 (by decide) rfl rfl ?_
  refine j_iconst (v := 0) (pc' := 7) C dX5_stepsBetween_6 kI_0 rfl ?_
  refine j_istore (lv' := [(9, .int (0 : Int32)), (7, .long p2), (5, .long p2), (0, .ref this), (1, .long p1), (3, .long p2)]) (pc' := 9) C dX5_stepsBetween_7 (by decide) rfl rfl ?_
  obtain ⟨zo2, hzo2, rzo2⟩ := ob hr
  have kzo2 : ∀ vzo2, zo2 = Sum.inr vzo2 → Jd G 0 0 nx ce 63 [] [] := by
    intro vzo2 ezo2
    rw [ezo2] at rzo2
    have hr := elR rzo2
    refine j_iconst (v := -1) (pc' := 64) C dX5_stepsBetween_63 kI_m1 rfl ?_
    have hr := Option.some.inj hr
    subst hr
    exact j_iret C hq hret dX5_stepsBetween_64
  refine j_lv (lv' := [(0, .ref this), (1, .long p1), (5, .long p2), (7, .long p2), (9, .int (0 : Int32))]) [3, 4, 2, 1, 0] rfl ?_
  refine it_J (J := (fun (zs1 : Int64 × Int64 × Int32) => Jd G 0 0 nx ce 9 [(0, .ref this), (1, .long p1), (5, .long zs1.1), (7, .long zs1.2.1), (9, .int zs1.2.2)] [])) ?_ hzo2
  clear hzo2
  intro zs1 zr3 hr izs1 ezs1
  refine j_iload (q := 4) (pc' := 11) C dX5_stepsBetween_9 rfl rfl ?_
  refine j_bipush (v := 64) (pc' := 13) C dX5_stepsBetween_11 kB_64 rfl ?_
  refine j_ic_gt (tgt := 63) (pc' := 16) C dX5_stepsBetween_13 rfl rfl (fun hc => ?_) (fun hc => ?_)
  · have hr := ifT hc hr
    clear hc
    have hr := ezs1 _ (Option.some.inj hr).symm
    subst hr
    exact j_lv [] rfl (kzo2 _ rfl)
  · have hr := ifF hc hr
    clear hc
    refine j_lload (q := 3) (pc' := 18) C dX5_stepsBetween_16 rfl rfl ?_
    refine j_lconst (v := 0) (pc' := 19) C dX5_stepsBetween_18 kL_0 rfl ?_
    refine j_lcmp (pc' := 20) C dX5_stepsBetween_19 rfl ?_
    refine j_if_eq (tgt := 63) (pc' := 23) C dX5_stepsBetween_20 rfl rfl (fun hc => ?_) (fun hc => ?_)
    · have hr := ifT hc hr
      clear hc
      have hr := ezs1 _ (Option.some.inj hr).symm
      subst hr
      exact j_lv [] rfl (kzo2 _ rfl)
    · have hr := ifF hc hr
      clear hc
      refine j_lload (q := 3) (pc' := 25) C dX5_stepsBetween_23 rfl rfl ?_
      refine j_lload_n (q := 1) (pc' := 26) C dX5_stepsBetween_25 rfl rfl rfl ?_
      refine j_land (pc' := 27) C dX5_stepsBetween_26 rfl ?_
      refine j_lconst (v := 0) (pc' := 28) C dX5_stepsBetween_27 kL_0 rfl ?_
      refine j_lcmp (pc' := 29) C dX5_stepsBetween_28 rfl ?_
      refine j_if_eq (tgt := 35) (pc' := 32) C dX5_stepsBetween_29 rfl rfl (fun hc => ?_) (fun hc => ?_)
      · have hr := ifT hc hr
        clear hc
        refine j_aload_n (q := 0) (pc' := 36) C dX5_stepsBetween_35 rfl rfl rfl ?_
        refine j_lload (q := 3) (pc' := 38) C dX5_stepsBetween_36 rfl rfl ?_
        obtain ⟨zz4, hzz4, hr⟩ := ob hr
        obtain ⟨zx5, hzx5, hr⟩ := ob hr
        obtain ⟨fhzz4, hzz4⟩ := rcv_sp hzz4
        refine j_callV (ci := 3) (As := [.long zs1.2.1]) (rest := []) (st1 := [.long zx5]) (pc' := 41) C ⟨wm_858, wm_859⟩ rfl hzz4 (c_X5_before (nx := nx) hzx5) yw_X5_before wm_1190 rfl rfl (Nat.le_of_ble_eq_true rfl) ⟨by decide, by decide⟩ dX5_stepsBetween_38 rfl rfl ?_
        refine j_lload (q := 2) (pc' := 43) C dX5_stepsBetween_41 rfl rfl ?_
        refine j_ldc2 (pc' := 46) C dX5_stepsBetween_43 wm_225 rfl ?_
        refine j_lxor (pc' := 47) C dX5_stepsBetween_46 rfl ?_
        refine j_land (pc' := 48) C dX5_stepsBetween_47 rfl ?_
        refine j_lstore (lv' := [(7, .long (zx5 &&& (zs1.1 ^^^ (-1 : Int64)))), (0, .ref this), (1, .long p1), (5, .long zs1.1), (9, .int zs1.2.2)]) (pc' := 50) C dX5_stepsBetween_48 (by decide) rfl rfl ?_
        refine j_lload (q := 3) (pc' := 52) C dX5_stepsBetween_50 rfl rfl ?_
        refine j_lload (q := 0) (pc' := 54) C dX5_stepsBetween_52 rfl rfl ?_
        refine j_lor (pc' := 55) C dX5_stepsBetween_54 rfl ?_
        refine j_lstore (lv' := [(5, .long (zs1.1 ||| (zx5 &&& (zs1.1 ^^^ (-1 : Int64))))), (7, .long (zx5 &&& (zs1.1 ^^^ (-1 : Int64)))), (0, .ref this), (1, .long p1), (9, .int zs1.2.2)]) (pc' := 57) C dX5_stepsBetween_55 (by decide) rfl rfl ?_
        refine j_iinc (q := 4) (v := 1) (lv' := [(9, .int (zs1.2.2 + (1 : Int32))), (5, .long (zs1.1 ||| (zx5 &&& (zs1.1 ^^^ (-1 : Int64))))), (7, .long (zx5 &&& (zs1.1 ^^^ (-1 : Int64)))), (0, .ref this), (1, .long p1)]) (pc' := 60) C dX5_stepsBetween_57 rfl kI_1 (by decide) rfl rfl ?_
        refine j_goto (tgt := 9) C dX5_stepsBetween_60 rfl ?_
        have hr := izs1 ((zs1.1 ||| (zx5 &&& (zs1.1 ^^^ (-1 : Int64)))), (zx5 &&& (zs1.1 ^^^ (-1 : Int64))), (zs1.2.2 + (1 : Int32))) (Option.some.inj hr).symm
        exact j_lv [3, 4, 1, 2, 0] rfl hr
      · have hr := ifF hc hr
        clear hc
        refine j_iload (q := 4) (pc' := 34) C dX5_stepsBetween_32 rfl rfl ?_
        have hr := ezs1 _ (Option.some.inj hr).symm
        subst hr
        have hr := elL rzo2
        have hr := Option.some.inj hr
        subst hr
        exact j_iret C hq hret dX5_stepsBetween_34
def m_X5_comeToBy (ce : Ce) (this : Nat) (p1 : Int32) : Option (Int64) :=
  (gJ ce 3 3 this).bind fun zx1 =>
  (gJ ce 3 3 this).bind fun zx2 =>
  (it (fun (zs3 : Int64 × Int64 × Int32) =>
    if p1 ≤ zs3.2.2 then
      some (Sum.inr zs3.1)
    else
      if (64 : Int32) ≤ zs3.2.2 then
        some (Sum.inr zs3.1)
      else
        if (lg_cmp zs3.2.1 (0 : Int64)) = 0 then
          some (Sum.inr zs3.1)
        else
          (rcv ce 3 this).bind fun zz6 =>
          (m_X5_after ce this zs3.2.1 (15 : Int32)).bind fun zx7 =>
          some (Sum.inl ((zs3.1 ||| (zx7 &&& (zs3.1 ^^^ (-1 : Int64)))), (zx7 &&& (zs3.1 ^^^ (-1 : Int64))), (zs3.2.2 + (1 : Int32))))
  ) FU (zx1, zx2, (0 : Int32))).bind fun (zo4 : Int64) =>
  some zo4
set_option maxRecDepth 100000 in
set_option maxHeartbeats 4000000 in
theorem c_X5_comeToBy {nx : Nat} {ce : Ce} {this : Nat} {p1 : Int32} {q : Int64} (hr : m_X5_comeToBy ce this p1 = some q) : Ct yX5_comeToBy cX5_comeToBy 7 (some .long) 2 52 0 0 [.ref this, .int p1] nx ce (some (.long q)) ce := by
  unfold m_X5_comeToBy at hr
  refine ct_of (by decide) (Nat.le_of_ble_eq_true rfl) ?_
  intro G C hq hret hin
  show Jd G 0 0 nx ce 0 [(0, .ref this), (1, .int p1)] []
  refine j_aload_n (q := 0) (pc' := 1) C dX5_comeToBy_0 rfl rfl rfl ?_
  obtain ⟨zx1, hzx1, hr⟩ := ob hr
  refine j_getJ (pc' := 4) C dX5_comeToBy_1 fl_X5_24 hzx1 rfl ?_
  refine j_lstore_n (lv' := [(2, .long zx1), (0, .ref this), (1, .int p1)]) (pc' := 5) C dX5_comeToBy_4 rfl (by decide) rfl rfl ?_
  refine j_aload_n (q := 1) (pc' := 6) C dX5_comeToBy_5 rfl rfl rfl ?_
  obtain ⟨zx2, hzx2, hr⟩ := ob hr
  refine j_getJ (pc' := 9) C dX5_comeToBy_6 fl_X5_24 hzx2 rfl ?_
  refine j_lstore (lv' := [(4, .long zx2), (2, .long zx1), (0, .ref this), (1, .int p1)]) (pc' := 11) C dX5_comeToBy_9 (by decide) rfl rfl ?_
  refine j_iconst (v := 0) (pc' := 12) C dX5_comeToBy_11 kI_0 rfl ?_
  refine j_istore (lv' := [(6, .int (0 : Int32)), (4, .long zx2), (2, .long zx1), (0, .ref this), (1, .int p1)]) (pc' := 14) C dX5_comeToBy_12 (by decide) rfl rfl ?_
  obtain ⟨zo4, hzo4, rzo4⟩ := ob hr
  have kzo4 : Jd G 0 0 nx ce 61 [(2, .long zo4)] [] := by
    have hr := rzo4
    refine j_lload_n (q := 0) (pc' := 62) C dX5_comeToBy_61 rfl rfl rfl ?_
    have hr := Option.some.inj hr
    subst hr
    exact j_lret C hq hret dX5_comeToBy_62
  refine j_lv (lv' := [(0, .ref this), (1, .int p1), (2, .long zx1), (4, .long zx2), (6, .int (0 : Int32))]) [3, 4, 2, 1, 0] rfl ?_
  refine it_J (J := (fun (zs3 : Int64 × Int64 × Int32) => Jd G 0 0 nx ce 14 [(0, .ref this), (1, .int p1), (2, .long zs3.1), (4, .long zs3.2.1), (6, .int zs3.2.2)] [])) ?_ hzo4
  clear hzo4
  intro zs3 zr5 hr izs3 ezs3
  refine j_iload (q := 4) (pc' := 16) C dX5_comeToBy_14 rfl rfl ?_
  refine j_iload_n (q := 1) (pc' := 17) C dX5_comeToBy_16 rfl rfl rfl ?_
  refine j_ic_ge (tgt := 61) (pc' := 20) C dX5_comeToBy_17 rfl rfl (fun hc => ?_) (fun hc => ?_)
  · have hr := ifT hc hr
    clear hc
    have hr := ezs3 _ (Option.some.inj hr).symm
    subst hr
    exact j_lv [2] rfl kzo4
  · have hr := ifF hc hr
    clear hc
    refine j_iload (q := 4) (pc' := 22) C dX5_comeToBy_20 rfl rfl ?_
    refine j_bipush (v := 64) (pc' := 24) C dX5_comeToBy_22 kB_64 rfl ?_
    refine j_ic_ge (tgt := 61) (pc' := 27) C dX5_comeToBy_24 rfl rfl (fun hc => ?_) (fun hc => ?_)
    · have hr := ifT hc hr
      clear hc
      have hr := ezs3 _ (Option.some.inj hr).symm
      subst hr
      exact j_lv [2] rfl kzo4
    · have hr := ifF hc hr
      clear hc
      refine j_lload (q := 3) (pc' := 29) C dX5_comeToBy_27 rfl rfl ?_
      refine j_lconst (v := 0) (pc' := 30) C dX5_comeToBy_29 kL_0 rfl ?_
      refine j_lcmp (pc' := 31) C dX5_comeToBy_30 rfl ?_
      refine j_if_eq (tgt := 61) (pc' := 34) C dX5_comeToBy_31 rfl rfl (fun hc => ?_) (fun hc => ?_)
      · have hr := ifT hc hr
        clear hc
        have hr := ezs3 _ (Option.some.inj hr).symm
        subst hr
        exact j_lv [2] rfl kzo4
      · have hr := ifF hc hr
        clear hc
        refine j_aload_n (q := 0) (pc' := 35) C dX5_comeToBy_34 rfl rfl rfl ?_
        refine j_lload (q := 3) (pc' := 37) C dX5_comeToBy_35 rfl rfl ?_
        refine j_bipush (v := 15) (pc' := 39) C dX5_comeToBy_37 kB_15 rfl ?_
        obtain ⟨zz6, hzz6, hr⟩ := ob hr
        obtain ⟨zx7, hzx7, hr⟩ := ob hr
        obtain ⟨fhzz6, hzz6⟩ := rcv_sp hzz6
        refine j_callV (ci := 3) (As := [.long zs3.2.1, .int (15 : Int32)]) (rest := []) (st1 := [.long zx7]) (pc' := 42) C ⟨wm_1177, wm_1178⟩ rfl hzz6 (c_X5_after (nx := nx) hzx7) yw_X5_after wm_1176 rfl rfl (Nat.le_of_ble_eq_true rfl) ⟨by decide, by decide⟩ dX5_comeToBy_39 rfl rfl ?_
        refine j_lload_n (q := 2) (pc' := 43) C dX5_comeToBy_42 rfl rfl rfl ?_
        refine j_ldc2 (pc' := 46) C dX5_comeToBy_43 wm_225 rfl ?_
        refine j_lxor (pc' := 47) C dX5_comeToBy_46 rfl ?_
        refine j_land (pc' := 48) C dX5_comeToBy_47 rfl ?_
        refine j_lstore (lv' := [(4, .long (zx7 &&& (zs3.1 ^^^ (-1 : Int64)))), (0, .ref this), (1, .int p1), (2, .long zs3.1), (6, .int zs3.2.2)]) (pc' := 50) C dX5_comeToBy_48 (by decide) rfl rfl ?_
        refine j_lload_n (q := 3) (pc' := 51) C dX5_comeToBy_50 rfl rfl rfl ?_
        refine j_lload (q := 0) (pc' := 53) C dX5_comeToBy_51 rfl rfl ?_
        refine j_lor (pc' := 54) C dX5_comeToBy_53 rfl ?_
        refine j_lstore_n (lv' := [(2, .long (zs3.1 ||| (zx7 &&& (zs3.1 ^^^ (-1 : Int64))))), (4, .long (zx7 &&& (zs3.1 ^^^ (-1 : Int64)))), (0, .ref this), (1, .int p1), (6, .int zs3.2.2)]) (pc' := 55) C dX5_comeToBy_54 rfl (by decide) rfl rfl ?_
        refine j_iinc (q := 4) (v := 1) (lv' := [(6, .int (zs3.2.2 + (1 : Int32))), (2, .long (zs3.1 ||| (zx7 &&& (zs3.1 ^^^ (-1 : Int64))))), (4, .long (zx7 &&& (zs3.1 ^^^ (-1 : Int64)))), (0, .ref this), (1, .int p1)]) (pc' := 58) C dX5_comeToBy_55 rfl kI_1 (by decide) rfl rfl ?_
        refine j_goto (tgt := 14) C dX5_comeToBy_58 rfl ?_
        have hr := izs3 ((zs3.1 ||| (zx7 &&& (zs3.1 ^^^ (-1 : Int64)))), (zx7 &&& (zs3.1 ^^^ (-1 : Int64))), (zs3.2.2 + (1 : Int32))) (Option.some.inj hr).symm
        exact j_lv [3, 4, 1, 2, 0] rfl hr
def m_X5_comingTo (ce : Ce) (this : Nat) (p1 : Int64) (p2 : Int32) : Option (Int64) :=
  (it (fun (zs1 : Int64 × Int64 × Int32) =>
    if p2 ≤ zs1.2.2 then
      some (Sum.inr zs1.1)
    else
      if (64 : Int32) ≤ zs1.2.2 then
        some (Sum.inr zs1.1)
      else
        if (lg_cmp zs1.2.1 (0 : Int64)) = 0 then
          some (Sum.inr zs1.1)
        else
          (rcv ce 3 this).bind fun zz4 =>
          (m_X5_before ce this zs1.2.1).bind fun zx5 =>
          some (Sum.inl ((zs1.1 ||| (zx5 &&& (zs1.1 ^^^ (-1 : Int64)))), (zx5 &&& (zs1.1 ^^^ (-1 : Int64))), (zs1.2.2 + (1 : Int32))))
  ) FU (p1, p1, (0 : Int32))).bind fun (zo2 : Int64) =>
  some zo2
set_option maxRecDepth 100000 in
set_option maxHeartbeats 4000000 in
theorem c_X5_comingTo {nx : Nat} {ce : Ce} {this : Nat} {p1 : Int64} {p2 : Int32} {q : Int64} (hr : m_X5_comingTo ce this p1 p2 = some q) : Ct yX5_comingTo cX5_comingTo 9 (some .long) 1 27 0 0 [.ref this, .long p1, .int p2] nx ce (some (.long q)) ce := by
  unfold m_X5_comingTo at hr
  refine ct_of (by decide) (Nat.le_of_ble_eq_true rfl) ?_
  intro G C hq hret hin
  show Jd G 0 0 nx ce 0 [(0, .ref this), (1, .long p1), (3, .int p2)] []
  refine j_lload_n (q := 1) (pc' := 1) C dX5_comingTo_0 rfl rfl rfl ?_
  refine j_lstore (lv' := [(4, .long p1), (0, .ref this), (1, .long p1), (3, .int p2)]) (pc' := 3) C dX5_comingTo_1 (by decide) rfl rfl ?_
  refine j_lload_n (q := 2) (pc' := 4) C dX5_comingTo_3 rfl rfl rfl ?_
  refine j_lstore (lv' := [(6, .long p1), (4, .long p1), (0, .ref this), (1, .long p1), (3, .int p2)]) (pc' := 6) C dX5_comingTo_4 (by decide) rfl rfl ?_
  refine j_iconst (v := 0) (pc' := 7) C dX5_comingTo_6 kI_0 rfl ?_
  refine j_istore (lv' := [(8, .int (0 : Int32)), (6, .long p1), (4, .long p1), (0, .ref this), (1, .long p1), (3, .int p2)]) (pc' := 9) C dX5_comingTo_7 (by decide) rfl rfl ?_
  obtain ⟨zo2, hzo2, rzo2⟩ := ob hr
  have kzo2 : Jd G 0 0 nx ce 57 [(4, .long zo2)] [] := by
    have hr := rzo2
    refine j_lload (q := 0) (pc' := 59) C dX5_comingTo_57 rfl rfl ?_
    have hr := Option.some.inj hr
    subst hr
    exact j_lret C hq hret dX5_comingTo_59
  refine j_lv (lv' := [(0, .ref this), (3, .int p2), (4, .long p1), (6, .long p1), (8, .int (0 : Int32))]) [3, 5, 2, 1, 0] rfl ?_
  refine it_J (J := (fun (zs1 : Int64 × Int64 × Int32) => Jd G 0 0 nx ce 9 [(0, .ref this), (3, .int p2), (4, .long zs1.1), (6, .long zs1.2.1), (8, .int zs1.2.2)] [])) ?_ hzo2
  clear hzo2
  intro zs1 zr3 hr izs1 ezs1
  refine j_iload (q := 4) (pc' := 11) C dX5_comingTo_9 rfl rfl ?_
  refine j_iload_n (q := 1) (pc' := 12) C dX5_comingTo_11 rfl rfl rfl ?_
  refine j_ic_ge (tgt := 57) (pc' := 15) C dX5_comingTo_12 rfl rfl (fun hc => ?_) (fun hc => ?_)
  · have hr := ifT hc hr
    clear hc
    have hr := ezs1 _ (Option.some.inj hr).symm
    subst hr
    exact j_lv [2] rfl kzo2
  · have hr := ifF hc hr
    clear hc
    refine j_iload (q := 4) (pc' := 17) C dX5_comingTo_15 rfl rfl ?_
    refine j_bipush (v := 64) (pc' := 19) C dX5_comingTo_17 kB_64 rfl ?_
    refine j_ic_ge (tgt := 57) (pc' := 22) C dX5_comingTo_19 rfl rfl (fun hc => ?_) (fun hc => ?_)
    · have hr := ifT hc hr
      clear hc
      have hr := ezs1 _ (Option.some.inj hr).symm
      subst hr
      exact j_lv [2] rfl kzo2
    · have hr := ifF hc hr
      clear hc
      refine j_lload (q := 3) (pc' := 24) C dX5_comingTo_22 rfl rfl ?_
      refine j_lconst (v := 0) (pc' := 25) C dX5_comingTo_24 kL_0 rfl ?_
      refine j_lcmp (pc' := 26) C dX5_comingTo_25 rfl ?_
      refine j_if_eq (tgt := 57) (pc' := 29) C dX5_comingTo_26 rfl rfl (fun hc => ?_) (fun hc => ?_)
      · have hr := ifT hc hr
        clear hc
        have hr := ezs1 _ (Option.some.inj hr).symm
        subst hr
        exact j_lv [2] rfl kzo2
      · have hr := ifF hc hr
        clear hc
        refine j_aload_n (q := 0) (pc' := 30) C dX5_comingTo_29 rfl rfl rfl ?_
        refine j_lload (q := 3) (pc' := 32) C dX5_comingTo_30 rfl rfl ?_
        obtain ⟨zz4, hzz4, hr⟩ := ob hr
        obtain ⟨zx5, hzx5, hr⟩ := ob hr
        obtain ⟨fhzz4, hzz4⟩ := rcv_sp hzz4
        refine j_callV (ci := 3) (As := [.long zs1.2.1]) (rest := []) (st1 := [.long zx5]) (pc' := 35) C ⟨wm_858, wm_859⟩ rfl hzz4 (c_X5_before (nx := nx) hzx5) yw_X5_before wm_1190 rfl rfl (Nat.le_of_ble_eq_true rfl) ⟨by decide, by decide⟩ dX5_comingTo_32 rfl rfl ?_
        refine j_lload (q := 2) (pc' := 37) C dX5_comingTo_35 rfl rfl ?_
        refine j_ldc2 (pc' := 40) C dX5_comingTo_37 wm_225 rfl ?_
        refine j_lxor (pc' := 41) C dX5_comingTo_40 rfl ?_
        refine j_land (pc' := 42) C dX5_comingTo_41 rfl ?_
        refine j_lstore (lv' := [(6, .long (zx5 &&& (zs1.1 ^^^ (-1 : Int64)))), (0, .ref this), (3, .int p2), (4, .long zs1.1), (8, .int zs1.2.2)]) (pc' := 44) C dX5_comingTo_42 (by decide) rfl rfl ?_
        refine j_lload (q := 3) (pc' := 46) C dX5_comingTo_44 rfl rfl ?_
        refine j_lload (q := 0) (pc' := 48) C dX5_comingTo_46 rfl rfl ?_
        refine j_lor (pc' := 49) C dX5_comingTo_48 rfl ?_
        refine j_lstore (lv' := [(4, .long (zs1.1 ||| (zx5 &&& (zs1.1 ^^^ (-1 : Int64))))), (6, .long (zx5 &&& (zs1.1 ^^^ (-1 : Int64)))), (0, .ref this), (3, .int p2), (8, .int zs1.2.2)]) (pc' := 51) C dX5_comingTo_49 (by decide) rfl rfl ?_
        refine j_iinc (q := 4) (v := 1) (lv' := [(8, .int (zs1.2.2 + (1 : Int32))), (4, .long (zs1.1 ||| (zx5 &&& (zs1.1 ^^^ (-1 : Int64))))), (6, .long (zx5 &&& (zs1.1 ^^^ (-1 : Int64)))), (0, .ref this), (3, .int p2)]) (pc' := 54) C dX5_comingTo_51 rfl kI_1 (by decide) rfl rfl ?_
        refine j_goto (tgt := 9) C dX5_comingTo_54 rfl ?_
        have hr := izs1 ((zs1.1 ||| (zx5 &&& (zs1.1 ^^^ (-1 : Int64)))), (zx5 &&& (zs1.1 ^^^ (-1 : Int64))), (zs1.2.2 + (1 : Int32))) (Option.some.inj hr).symm
        exact j_lv [3, 4, 1, 2, 0] rfl hr
def m_X5_fillFars (ce : Ce) (this : Nat) (p1 : Int64) (p2 : Nat) : Option (Int32 × Ce) :=
  (it (fun (zs1 : (Int64 × Int64 × Int32) × Ce) =>
    (alen zs1.2 p2).bind fun zx4 =>
    if zx4 ≤ zs1.1.2.2 then
      some (Sum.inr (Sum.inr (), zs1.2))
    else
      if (lg_cmp zs1.1.2.1 (0 : Int64)) = 0 then
        some (Sum.inr (Sum.inr (), zs1.2))
      else
        (sL zs1.2 p2 zs1.1.2.2 zs1.1.2.1).bind fun zc5 =>
        (gJ zc5 3 3 this).bind fun zx6 =>
        if (lg_cmp (zs1.1.2.1 &&& zx6) (0 : Int64)) = 0 then
          (rcv zc5 3 this).bind fun zz7 =>
          (m_X5_before zc5 this zs1.1.2.1).bind fun zx8 =>
          some (Sum.inl (((zs1.1.1 ||| (zx8 &&& (zs1.1.1 ^^^ (-1 : Int64)))), (zx8 &&& (zs1.1.1 ^^^ (-1 : Int64))), (zs1.1.2.2 + (1 : Int32))), zc5))
        else
          some (Sum.inr (Sum.inl zs1.1.2.2, zc5))
  ) FU ((p1, p1, (0 : Int32)), ce)).bind fun (zo2 : (Int32 ⊕ Unit) × Ce) =>
  Sum.elim (fun wzo2 => some (wzo2, zo2.2)) (fun vzo2 =>
    some ((-1 : Int32), zo2.2)
  ) zo2.1
set_option maxRecDepth 100000 in
set_option maxHeartbeats 4000000 in
theorem c_X5_fillFars {nx : Nat} {ce : Ce} {this : Nat} {p1 : Int64} {p2 : Nat} {q : Int32 × Ce} (hr : m_X5_fillFars ce this p1 p2 = some q) : Ct yX5_fillFars cX5_fillFars 9 (some .int) 1 27 0 0 [.ref this, .long p1, .ref p2] nx ce (some (.int q.1)) q.2 := by
  unfold m_X5_fillFars at hr
  refine ct_of (by decide) (Nat.le_of_ble_eq_true rfl) ?_
  intro G C hq hret hin
  show Jd G 0 0 nx ce 0 [(0, .ref this), (1, .long p1), (3, .ref p2)] []
  refine j_lload_n (q := 1) (pc' := 1) C dX5_fillFars_0 rfl rfl rfl ?_
  refine j_lstore (lv' := [(4, .long p1), (0, .ref this), (1, .long p1), (3, .ref p2)]) (pc' := 3) C dX5_fillFars_1 (by decide) rfl rfl ?_
  refine j_lload_n (q := 2) (pc' := 4) C dX5_fillFars_3 rfl rfl rfl ?_
  refine j_lstore (lv' := [(6, .long p1), (4, .long p1), (0, .ref this), (1, .long p1), (3, .ref p2)]) (pc' := 6) C dX5_fillFars_4 (by decide) rfl rfl ?_
  refine j_iconst (v := 0) (pc' := 7) C dX5_fillFars_6 kI_0 rfl ?_
  refine j_istore (lv' := [(8, .int (0 : Int32)), (6, .long p1), (4, .long p1), (0, .ref this), (1, .long p1), (3, .ref p2)]) (pc' := 9) C dX5_fillFars_7 (by decide) rfl rfl ?_
  obtain ⟨zo2, hzo2, rzo2⟩ := ob hr
  have kzo2 : ∀ vzo2, zo2.1 = Sum.inr vzo2 → Jd G 0 0 nx zo2.2 72 [] [] := by
    intro vzo2 ezo2
    rw [ezo2] at rzo2
    have hr := elR rzo2
    refine j_iconst (v := -1) (pc' := 73) C dX5_fillFars_72 kI_m1 rfl ?_
    have hr := Option.some.inj hr
    subst hr
    exact j_iret C hq hret dX5_fillFars_73
  refine j_lv (lv' := [(0, .ref this), (3, .ref p2), (4, .long p1), (6, .long p1), (8, .int (0 : Int32))]) [3, 5, 2, 1, 0] rfl ?_
  refine it_J (J := (fun (zs1 : (Int64 × Int64 × Int32) × Ce) => Jd G 0 0 nx zs1.2 9 [(0, .ref this), (3, .ref p2), (4, .long zs1.1.1), (6, .long zs1.1.2.1), (8, .int zs1.1.2.2)] [])) ?_ hzo2
  clear hzo2
  intro zs1 zr3 hr izs1 ezs1
  refine j_iload (q := 4) (pc' := 11) C dX5_fillFars_9 rfl rfl ?_
  refine j_aload_n (q := 1) (pc' := 12) C dX5_fillFars_11 rfl rfl rfl ?_
  obtain ⟨zx4, hzx4, hr⟩ := ob hr
  refine j_alen (pc' := 13) C dX5_fillFars_12 hzx4 rfl ?_
  refine j_ic_ge (tgt := 72) (pc' := 16) C dX5_fillFars_13 rfl rfl (fun hc => ?_) (fun hc => ?_)
  · have hr := ifT hc hr
    clear hc
    have hr := ezs1 _ (Option.some.inj hr).symm
    subst hr
    exact j_lv [] rfl (kzo2 _ rfl)
  · have hr := ifF hc hr
    clear hc
    refine j_lload (q := 3) (pc' := 18) C dX5_fillFars_16 rfl rfl ?_
    refine j_lconst (v := 0) (pc' := 19) C dX5_fillFars_18 kL_0 rfl ?_
    refine j_lcmp (pc' := 20) C dX5_fillFars_19 rfl ?_
    refine j_if_eq (tgt := 72) (pc' := 23) C dX5_fillFars_20 rfl rfl (fun hc => ?_) (fun hc => ?_)
    · have hr := ifT hc hr
      clear hc
      have hr := ezs1 _ (Option.some.inj hr).symm
      subst hr
      exact j_lv [] rfl (kzo2 _ rfl)
    · have hr := ifF hc hr
      clear hc
      refine j_aload_n (q := 1) (pc' := 24) C dX5_fillFars_23 rfl rfl rfl ?_
      refine j_iload (q := 4) (pc' := 26) C dX5_fillFars_24 rfl rfl ?_
      refine j_lload (q := 3) (pc' := 28) C dX5_fillFars_26 rfl rfl ?_
      obtain ⟨zc5, hzc5, hr⟩ := ob hr
      refine j_last (pc' := 29) C dX5_fillFars_28 hzc5 rfl ?_
      refine j_lload (q := 3) (pc' := 31) C dX5_fillFars_29 rfl rfl ?_
      refine j_aload_n (q := 0) (pc' := 32) C dX5_fillFars_31 rfl rfl rfl ?_
      obtain ⟨zx6, hzx6, hr⟩ := ob hr
      refine j_getJ (pc' := 35) C dX5_fillFars_32 fl_X5_24 hzx6 rfl ?_
      refine j_land (pc' := 36) C dX5_fillFars_35 rfl ?_
      refine j_lconst (v := 0) (pc' := 37) C dX5_fillFars_36 kL_0 rfl ?_
      refine j_lcmp (pc' := 38) C dX5_fillFars_37 rfl ?_
      refine j_if_eq (tgt := 44) (pc' := 41) C dX5_fillFars_38 rfl rfl (fun hc => ?_) (fun hc => ?_)
      · have hr := ifT hc hr
        clear hc
        refine j_aload_n (q := 0) (pc' := 45) C dX5_fillFars_44 rfl rfl rfl ?_
        refine j_lload (q := 3) (pc' := 47) C dX5_fillFars_45 rfl rfl ?_
        obtain ⟨zz7, hzz7, hr⟩ := ob hr
        obtain ⟨zx8, hzx8, hr⟩ := ob hr
        obtain ⟨fhzz7, hzz7⟩ := rcv_sp hzz7
        refine j_callV (ci := 3) (As := [.long zs1.1.2.1]) (rest := []) (st1 := [.long zx8]) (pc' := 50) C ⟨wm_858, wm_859⟩ rfl hzz7 (c_X5_before (nx := nx) hzx8) yw_X5_before wm_1190 rfl rfl (Nat.le_of_ble_eq_true rfl) ⟨by decide, by decide⟩ dX5_fillFars_47 rfl rfl ?_
        refine j_lload (q := 2) (pc' := 52) C dX5_fillFars_50 rfl rfl ?_
        refine j_ldc2 (pc' := 55) C dX5_fillFars_52 wm_225 rfl ?_
        refine j_lxor (pc' := 56) C dX5_fillFars_55 rfl ?_
        refine j_land (pc' := 57) C dX5_fillFars_56 rfl ?_
        refine j_lstore (lv' := [(6, .long (zx8 &&& (zs1.1.1 ^^^ (-1 : Int64)))), (0, .ref this), (3, .ref p2), (4, .long zs1.1.1), (8, .int zs1.1.2.2)]) (pc' := 59) C dX5_fillFars_57 (by decide) rfl rfl ?_
        refine j_lload (q := 3) (pc' := 61) C dX5_fillFars_59 rfl rfl ?_
        refine j_lload (q := 0) (pc' := 63) C dX5_fillFars_61 rfl rfl ?_
        refine j_lor (pc' := 64) C dX5_fillFars_63 rfl ?_
        refine j_lstore (lv' := [(4, .long (zs1.1.1 ||| (zx8 &&& (zs1.1.1 ^^^ (-1 : Int64))))), (6, .long (zx8 &&& (zs1.1.1 ^^^ (-1 : Int64)))), (0, .ref this), (3, .ref p2), (8, .int zs1.1.2.2)]) (pc' := 66) C dX5_fillFars_64 (by decide) rfl rfl ?_
        refine j_iinc (q := 4) (v := 1) (lv' := [(8, .int (zs1.1.2.2 + (1 : Int32))), (4, .long (zs1.1.1 ||| (zx8 &&& (zs1.1.1 ^^^ (-1 : Int64))))), (6, .long (zx8 &&& (zs1.1.1 ^^^ (-1 : Int64)))), (0, .ref this), (3, .ref p2)]) (pc' := 69) C dX5_fillFars_66 rfl kI_1 (by decide) rfl rfl ?_
        refine j_goto (tgt := 9) C dX5_fillFars_69 rfl ?_
        have hr := izs1 (((zs1.1.1 ||| (zx8 &&& (zs1.1.1 ^^^ (-1 : Int64)))), (zx8 &&& (zs1.1.1 ^^^ (-1 : Int64))), (zs1.1.2.2 + (1 : Int32))), zc5) (Option.some.inj hr).symm
        exact j_lv [3, 4, 1, 2, 0] rfl hr
      · have hr := ifF hc hr
        clear hc
        refine j_iload (q := 4) (pc' := 43) C dX5_fillFars_41 rfl rfl ?_
        have hr := ezs1 _ (Option.some.inj hr).symm
        subst hr
        have hr := elL rzo2
        have hr := Option.some.inj hr
        subst hr
        exact j_iret C hq hret dX5_fillFars_43
def m_J13_numberOfTrailingZeros_95d88 (p0 : Int64) : Option (Int32) :=
  if (Int64.toInt32 p0) = 0 then
    (m_J6_numberOfTrailingZeros_0f7a4 (Int64.toInt32 (usr64 p0 (32 : Int32)))).bind fun zx2 =>
    some ((32 : Int32) + zx2)
  else
    (m_J6_numberOfTrailingZeros_0f7a4 (Int64.toInt32 p0)).bind fun zx1 =>
    some zx1
set_option maxRecDepth 100000 in
set_option maxHeartbeats 4000000 in
theorem c_J13_numberOfTrailingZeros_95d88 {nx : Nat} {ce : Ce} {p0 : Int64} {q : Int32} (hr : m_J13_numberOfTrailingZeros_95d88 p0 = some q) : Ct yJ13_numberOfTrailingZeros_95d88 cJ13_numberOfTrailingZeros_95d88 3 (some .int) 1 21 0 0 [.long p0] nx ce (some (.int q)) ce := by
  unfold m_J13_numberOfTrailingZeros_95d88 at hr
  refine ct_of (by decide) (Nat.le_of_ble_eq_true rfl) ?_
  intro G C hq hret hin
  show Jd G 0 0 nx ce 0 [(0, .long p0)] []
  refine j_lload_n (q := 0) (pc' := 1) C dJ13_numberOfTrailingZeros_95d88_0 rfl rfl rfl ?_
  refine j_l2i (pc' := 2) C dJ13_numberOfTrailingZeros_95d88_1 rfl ?_
  refine j_istore_n (lv' := [(2, .int (Int64.toInt32 p0)), (0, .long p0)]) (pc' := 3) C dJ13_numberOfTrailingZeros_95d88_2 rfl (by decide) rfl rfl ?_
  refine j_iload_n (q := 0) (pc' := 4) C dJ13_numberOfTrailingZeros_95d88_3 rfl rfl rfl ?_
  refine j_if_ne (tgt := 21) (pc' := 7) C dJ13_numberOfTrailingZeros_95d88_4 rfl rfl (fun hc => ?_) (fun hc => ?_)
  · have hr := ifF hc hr
    clear hc
    refine j_iload_n (q := 0) (pc' := 22) C dJ13_numberOfTrailingZeros_95d88_21 rfl rfl rfl ?_
    obtain ⟨zx1, hzx1, hr⟩ := ob hr
    refine j_callS (As := [.int (Int64.toInt32 p0)]) (rest := []) (st1 := [.int zx1]) (pc' := 25) C wm_949 (c_J6_numberOfTrailingZeros_0f7a4 (nx := nx) (ce := ce) hzx1) yw_J6_numberOfTrailingZeros_0f7a4 wm_948 rfl rfl (Nat.le_of_ble_eq_true rfl) ⟨by decide, by decide⟩ dJ13_numberOfTrailingZeros_95d88_22 rfl rfl ?_
    have hr := Option.some.inj hr
    subst hr
    exact j_iret C hq hret dJ13_numberOfTrailingZeros_95d88_25
  · have hr := ifT hc hr
    clear hc
    refine j_bipush (v := 32) (pc' := 9) C dJ13_numberOfTrailingZeros_95d88_7 kB_32 rfl ?_
    refine j_lload_n (q := 1) (pc' := 10) C dJ13_numberOfTrailingZeros_95d88_9 rfl rfl rfl ?_
    refine j_bipush (v := 32) (pc' := 12) C dJ13_numberOfTrailingZeros_95d88_10 kB_32 rfl ?_
    refine j_lushr (pc' := 13) C dJ13_numberOfTrailingZeros_95d88_12 rfl ?_
    refine j_l2i (pc' := 14) C dJ13_numberOfTrailingZeros_95d88_13 rfl ?_
    obtain ⟨zx2, hzx2, hr⟩ := ob hr
    refine j_callS (As := [.int (Int64.toInt32 (usr64 p0 (32 : Int32)))]) (rest := [.int (32 : Int32)]) (st1 := [.int zx2, .int (32 : Int32)]) (pc' := 17) C wm_949 (c_J6_numberOfTrailingZeros_0f7a4 (nx := nx) (ce := ce) hzx2) yw_J6_numberOfTrailingZeros_0f7a4 wm_948 rfl rfl (Nat.le_of_ble_eq_true rfl) ⟨by decide, by decide⟩ dJ13_numberOfTrailingZeros_95d88_14 rfl rfl ?_
    refine j_iadd (pc' := 18) C dJ13_numberOfTrailingZeros_95d88_17 rfl ?_
    refine j_goto (tgt := 25) C dJ13_numberOfTrailingZeros_95d88_18 rfl ?_
    have hr := Option.some.inj hr
    subst hr
    exact j_iret C hq hret dJ13_numberOfTrailingZeros_95d88_25
def m_X9_lowest (p0 : Int64) : Option (Int32) :=
  if (lg_cmp p0 (0 : Int64)) = 0 then
    some (-1 : Int32)
  else
    (m_J13_numberOfTrailingZeros_95d88 p0).bind fun zx1 =>
    some zx1
set_option maxRecDepth 100000 in
set_option maxHeartbeats 4000000 in
theorem c_X9_lowest {nx : Nat} {ce : Ce} {p0 : Int64} {q : Int32} (hr : m_X9_lowest p0 = some q) : Ct yX9_lowest cX9_lowest 2 (some .int) 2 43 0 0 [.long p0] nx ce (some (.int q)) ce := by
  unfold m_X9_lowest at hr
  refine ct_of (by decide) (Nat.le_of_ble_eq_true rfl) ?_
  intro G C hq hret hin
  show Jd G 0 0 nx ce 0 [(0, .long p0)] []
  refine j_lload_n (q := 0) (pc' := 1) C dX9_lowest_0 rfl rfl rfl ?_
  refine j_lconst (v := 0) (pc' := 2) C dX9_lowest_1 kL_0 rfl ?_
  refine j_lcmp (pc' := 3) C dX9_lowest_2 rfl ?_
  refine j_if_ne (tgt := 10) (pc' := 6) C dX9_lowest_3 rfl rfl (fun hc => ?_) (fun hc => ?_)
  · have hr := ifF hc hr
    clear hc
    refine j_lload_n (q := 0) (pc' := 11) C dX9_lowest_10 rfl rfl rfl ?_
    obtain ⟨zx1, hzx1, hr⟩ := ob hr
    refine j_callS (As := [.long p0]) (rest := []) (st1 := [.int zx1]) (pc' := 14) C wm_946 (c_J13_numberOfTrailingZeros_95d88 (nx := nx) (ce := ce) hzx1) yw_J13_numberOfTrailingZeros_95d88 wm_945 rfl rfl (Nat.le_of_ble_eq_true rfl) ⟨by decide, by decide⟩ dX9_lowest_11 rfl rfl ?_
    have hr := Option.some.inj hr
    subst hr
    exact j_iret C hq hret dX9_lowest_14
  · have hr := ifT hc hr
    clear hc
    refine j_iconst (v := -1) (pc' := 7) C dX9_lowest_6 kI_m1 rfl ?_
    refine j_goto (tgt := 14) C dX9_lowest_7 rfl ?_
    have hr := Option.some.inj hr
    subst hr
    exact j_iret C hq hret dX9_lowest_14
def m_X5_fillShortest (ce : Ce) (this : Nat) (p1 : Int64) (p2 : Nat) (p3 : Nat) : Option (Int32 × Ce) :=
  (rcv ce 3 this).bind fun zz1 =>
  (m_X5_fillFars ce this p1 p2).bind fun zq2 =>
  if zq2.1 = (-1 : Int32) then
    some ((0 : Int32), zq2.2)
  else
    (alen zq2.2 p3).bind fun zx3 =>
    if zq2.1 < zx3 then
      (gJ zq2.2 3 3 this).bind fun zx4 =>
      (it (fun (zs5 : (Int64 × Int32) × Ce) =>
        if zq2.1 < zs5.1.2 then
          some (Sum.inr (Sum.inr (), zs5.2))
        else
          (aL zs5.2 p2 (zq2.1 - zs5.1.2)).bind fun zx8 =>
          (m_X9_lowest (zs5.1.1 &&& zx8)).bind fun zx9 =>
          if zx9 = (-1 : Int32) then
            some (Sum.inr (Sum.inl (0 : Int32), zs5.2))
          else
            (sI zs5.2 p3 zs5.1.2 zx9).bind fun zc10 =>
            (rcv zc10 3 this).bind fun zz11 =>
            (m_X5_after zc10 this ((1 : Int64) <<< (Int32.toInt64 zx9 &&& 63)) (15 : Int32)).bind fun zx12 =>
            some (Sum.inl ((zx12, (zs5.1.2 + (1 : Int32))), zc10))
      ) FU ((zx4, (0 : Int32)), zq2.2)).bind fun (zo6 : (Int32 ⊕ Unit) × Ce) =>
      Sum.elim (fun wzo6 => some (wzo6, zo6.2)) (fun vzo6 =>
        some ((zq2.1 + (1 : Int32)), zo6.2)
      ) zo6.1
    else
      some ((0 : Int32), zq2.2)
set_option maxRecDepth 100000 in
set_option maxHeartbeats 4000000 in
theorem c_X5_fillShortest {nx : Nat} {ce : Ce} {this : Nat} {p1 : Int64} {p2 : Nat} {p3 : Nat} {q : Int32 × Ce} (hr : m_X5_fillShortest ce this p1 p2 p3 = some q) : Ct yX5_fillShortest cX5_fillShortest 10 (some .int) 3 64 0 0 [.ref this, .long p1, .ref p2, .ref p3] nx ce (some (.int q.1)) q.2 := by
  unfold m_X5_fillShortest at hr
  refine ct_of (by decide) (Nat.le_of_ble_eq_true rfl) ?_
  intro G C hq hret hin
  show Jd G 0 0 nx ce 0 [(0, .ref this), (1, .long p1), (3, .ref p2), (4, .ref p3)] []
  refine j_aload_n (q := 0) (pc' := 1) C dX5_fillShortest_0 rfl rfl rfl ?_
  refine j_lload_n (q := 1) (pc' := 2) C dX5_fillShortest_1 rfl rfl rfl ?_
  refine j_aload_n (q := 2) (pc' := 3) C dX5_fillShortest_2 rfl rfl rfl ?_
  obtain ⟨zz1, hzz1, hr⟩ := ob hr
  obtain ⟨zq2, hzq2, hr⟩ := ob hr
  obtain ⟨fhzz1, hzz1⟩ := rcv_sp hzz1
  refine j_callV (ci := 3) (As := [.long p1, .ref p2]) (rest := []) (st1 := [.int zq2.1]) (pc' := 6) C ⟨wm_1209, wm_31⟩ rfl hzz1 (c_X5_fillFars (nx := nx) hzq2) yw_X5_fillFars wm_1207 rfl rfl (Nat.le_of_ble_eq_true rfl) ⟨by decide, by decide⟩ dX5_fillShortest_3 rfl rfl ?_
  refine j_istore (lv' := [(5, .int zq2.1), (0, .ref this), (1, .long p1), (3, .ref p2), (4, .ref p3)]) (pc' := 8) C dX5_fillShortest_6 (by decide) rfl rfl ?_
  refine j_iload (q := 0) (pc' := 10) C dX5_fillShortest_8 rfl rfl ?_
  refine j_iconst (v := -1) (pc' := 11) C dX5_fillShortest_10 kI_m1 rfl ?_
  refine j_ic_eq (tgt := 22) (pc' := 14) C dX5_fillShortest_11 rfl rfl (fun hc => ?_) (fun hc => ?_)
  · have hr := ifT hc hr
    clear hc
    refine j_iconst (v := 0) (pc' := 23) C dX5_fillShortest_22 kI_0 rfl ?_
    have hr := Option.some.inj hr
    subst hr
    exact j_iret C hq hret dX5_fillShortest_23
  · have hr := ifF hc hr
    clear hc
    refine j_iload (q := 0) (pc' := 16) C dX5_fillShortest_14 rfl rfl ?_
    refine j_aload (q := 4) (pc' := 18) C dX5_fillShortest_16 rfl rfl ?_
    obtain ⟨zx3, hzx3, hr⟩ := ob hr
    refine j_alen (pc' := 19) C dX5_fillShortest_18 hzx3 rfl ?_
    refine j_ic_lt (tgt := 24) (pc' := 22) C dX5_fillShortest_19 rfl rfl (fun hc => ?_) (fun hc => ?_)
    · have hr := ifT hc hr
      clear hc
      refine j_aload_n (q := 1) (pc' := 25) C dX5_fillShortest_24 rfl rfl rfl ?_
      obtain ⟨zx4, hzx4, hr⟩ := ob hr
      refine j_getJ (pc' := 28) C dX5_fillShortest_25 fl_X5_24 hzx4 rfl ?_
      refine j_lstore (lv' := [(6, .long zx4), (5, .int zq2.1), (0, .ref this), (1, .long p1), (3, .ref p2), (4, .ref p3)]) (pc' := 30) C dX5_fillShortest_28 (by decide) rfl rfl ?_
      refine j_iconst (v := 0) (pc' := 31) C dX5_fillShortest_30 kI_0 rfl ?_
      refine j_istore (lv' := [(8, .int (0 : Int32)), (6, .long zx4), (5, .int zq2.1), (0, .ref this), (1, .long p1), (3, .ref p2), (4, .ref p3)]) (pc' := 33) C dX5_fillShortest_31 (by decide) rfl rfl ?_
      obtain ⟨zo6, hzo6, rzo6⟩ := ob hr
      have kzo6 : ∀ vzo6, zo6.1 = Sum.inr vzo6 → Jd G 0 0 nx zo6.2 88 [(5, .int zq2.1)] [] := by
        intro vzo6 ezo6
        rw [ezo6] at rzo6
        have hr := elR rzo6
        refine j_iload (q := 0) (pc' := 90) C dX5_fillShortest_88 rfl rfl ?_
        refine j_iconst (v := 1) (pc' := 91) C dX5_fillShortest_90 kI_1 rfl ?_
        refine j_iadd (pc' := 92) C dX5_fillShortest_91 rfl ?_
        have hr := Option.some.inj hr
        subst hr
        exact j_iret C hq hret dX5_fillShortest_92
      refine j_lv (lv' := [(0, .ref this), (3, .ref p2), (4, .ref p3), (5, .int zq2.1), (6, .long zx4), (8, .int (0 : Int32))]) [3, 5, 6, 2, 1, 0] rfl ?_
      refine it_J (J := (fun (zs5 : (Int64 × Int32) × Ce) => Jd G 0 0 nx zs5.2 33 [(0, .ref this), (3, .ref p2), (4, .ref p3), (5, .int zq2.1), (6, .long zs5.1.1), (8, .int zs5.1.2)] [])) ?_ hzo6
      clear hzo6
      intro zs5 zr7 hr izs5 ezs5
      refine j_iload (q := 5) (pc' := 35) C dX5_fillShortest_33 rfl rfl ?_
      refine j_iload (q := 3) (pc' := 37) C dX5_fillShortest_35 rfl rfl ?_
      refine j_ic_gt (tgt := 88) (pc' := 40) C dX5_fillShortest_37 rfl rfl (fun hc => ?_) (fun hc => ?_)
      · have hr := ifT hc hr
        clear hc
        have hr := ezs5 _ (Option.some.inj hr).symm
        subst hr
        exact j_lv [3] rfl (kzo6 _ rfl)
      · have hr := ifF hc hr
        clear hc
        refine j_lload (q := 4) (pc' := 42) C dX5_fillShortest_40 rfl rfl ?_
        refine j_aload_n (q := 1) (pc' := 43) C dX5_fillShortest_42 rfl rfl rfl ?_
        refine j_iload (q := 3) (pc' := 45) C dX5_fillShortest_43 rfl rfl ?_
        refine j_iload (q := 5) (pc' := 47) C dX5_fillShortest_45 rfl rfl ?_
        refine j_isub (pc' := 48) C dX5_fillShortest_47 rfl ?_
        obtain ⟨zx8, hzx8, hr⟩ := ob hr
        refine j_lald (pc' := 49) C dX5_fillShortest_48 hzx8 rfl ?_
        refine j_land (pc' := 50) C dX5_fillShortest_49 rfl ?_
        obtain ⟨zx9, hzx9, hr⟩ := ob hr
        refine j_callS (As := [.long (zs5.1.1 &&& zx8)]) (rest := []) (st1 := [.int zx9]) (pc' := 53) C wm_943 (c_X9_lowest (nx := nx) (ce := zs5.2) hzx9) yw_X9_lowest wm_1211 rfl rfl (Nat.le_of_ble_eq_true rfl) ⟨by decide, by decide⟩ dX5_fillShortest_50 rfl rfl ?_
        refine j_istore (lv' := [(9, .int zx9), (0, .ref this), (3, .ref p2), (4, .ref p3), (5, .int zq2.1), (6, .long zs5.1.1), (8, .int zs5.1.2)]) (pc' := 55) C dX5_fillShortest_53 (by decide) rfl rfl ?_
        refine j_iload (q := 0) (pc' := 57) C dX5_fillShortest_55 rfl rfl ?_
        refine j_iconst (v := -1) (pc' := 58) C dX5_fillShortest_57 kI_m1 rfl ?_
        refine j_ic_ne (tgt := 63) (pc' := 61) C dX5_fillShortest_58 rfl rfl (fun hc => ?_) (fun hc => ?_)
        · have hr := ifF hc hr
          clear hc
          refine j_aload (q := 3) (pc' := 65) C dX5_fillShortest_63 rfl rfl ?_
          refine j_iload (q := 6) (pc' := 67) C dX5_fillShortest_65 rfl rfl ?_
          refine j_iload (q := 0) (pc' := 69) C dX5_fillShortest_67 rfl rfl ?_
          obtain ⟨zc10, hzc10, hr⟩ := ob hr
          refine j_iast (pc' := 70) C dX5_fillShortest_69 hzc10 rfl ?_
          refine j_aload_n (q := 1) (pc' := 71) C dX5_fillShortest_70 rfl rfl rfl ?_
          refine j_lconst (v := 1) (pc' := 72) C dX5_fillShortest_71 kL_1 rfl ?_
          refine j_iload (q := 0) (pc' := 74) C dX5_fillShortest_72 rfl rfl ?_
          refine j_lshl (pc' := 75) C dX5_fillShortest_74 rfl ?_
          refine j_bipush (v := 15) (pc' := 77) C dX5_fillShortest_75 kB_15 rfl ?_
          obtain ⟨zz11, hzz11, hr⟩ := ob hr
          obtain ⟨zx12, hzx12, hr⟩ := ob hr
          obtain ⟨fhzz11, hzz11⟩ := rcv_sp hzz11
          refine j_callV (ci := 3) (As := [.long ((1 : Int64) <<< (Int32.toInt64 zx9 &&& 63)), .int (15 : Int32)]) (rest := []) (st1 := [.long zx12]) (pc' := 80) C ⟨wm_1177, wm_1178⟩ rfl hzz11 (c_X5_after (nx := nx) hzx12) yw_X5_after wm_1176 rfl rfl (Nat.le_of_ble_eq_true rfl) ⟨by decide, by decide⟩ dX5_fillShortest_77 rfl rfl ?_
          refine j_lstore (lv' := [(6, .long zx12), (9, .int zx9), (0, .ref this), (3, .ref p2), (4, .ref p3), (5, .int zq2.1), (8, .int zs5.1.2)]) (pc' := 82) C dX5_fillShortest_80 (by decide) rfl rfl ?_
          refine j_iinc (q := 6) (v := 1) (lv' := [(8, .int (zs5.1.2 + (1 : Int32))), (6, .long zx12), (9, .int zx9), (0, .ref this), (3, .ref p2), (4, .ref p3), (5, .int zq2.1)]) (pc' := 85) C dX5_fillShortest_82 rfl kI_1 (by decide) rfl rfl ?_
          refine j_goto (tgt := 33) C dX5_fillShortest_85 rfl ?_
          have hr := izs5 ((zx12, (zs5.1.2 + (1 : Int32))), zc10) (Option.some.inj hr).symm
          exact j_lv [3, 4, 5, 6, 1, 0] rfl hr
        · have hr := ifT hc hr
          clear hc
          refine j_iconst (v := 0) (pc' := 62) C dX5_fillShortest_61 kI_0 rfl ?_
          have hr := ezs5 _ (Option.some.inj hr).symm
          subst hr
          have hr := elL rzo6
          have hr := Option.some.inj hr
          subst hr
          exact j_iret C hq hret dX5_fillShortest_62
    · have hr := ifF hc hr
      clear hc
      refine j_iconst (v := 0) (pc' := 23) C dX5_fillShortest_22 kI_0 rfl ?_
      have hr := Option.some.inj hr
      subst hr
      exact j_iret C hq hret dX5_fillShortest_23
def m_X6_init (nx : Nat) (ce : Ce) (this : Nat) : Option (Unit × Ce × Nat × Nat) :=
  (nwa (0 : Int32)).bind fun zk3 =>
  adcK 1 zk3 fun _ =>
  (some (gx_up ce nx (.inl (.int, zk3, .inl (fun _ => 0))))).bind fun zc2 =>
  (pV zc2 4 0 this (.ref nx)).bind fun zc4 =>
  some ((), zc4, 0, 0)
set_option maxRecDepth 100000 in
set_option maxHeartbeats 4000000 in
theorem c_X6_init {nx : Nat} {ce : Ce} {this : Nat} {q : Unit × Ce × Nat × Nat} (hr : m_X6_init nx ce this = some q) : Ct yX6_init cX6_init 1 none 1 20 q.2.2.1 q.2.2.2 [.ref this] nx ce none q.2.1 := by
  unfold m_X6_init at hr
  refine ct_of (by decide) (Nat.le_of_ble_eq_true rfl) ?_
  intro G C hq hret hin
  show Jd G q.2.2.1 q.2.2.2 nx ce 0 [(0, .ref this)] []
  refine j_aload_n (q := 0) (pc' := 1) C dX6_init_0 rfl rfl rfl ?_
  refine j_objInit (pc' := 4) C dX6_init_1 wm_299 wm_157 wm_oi ⟨by decide, by decide⟩ (Nat.le_of_ble_eq_true rfl) rfl ?_
  refine j_aload_n (q := 0) (pc' := 5) C dX6_init_4 rfl rfl rfl ?_
  refine j_iconst (v := 0) (pc' := 6) C dX6_init_5 kI_0 rfl ?_
  obtain ⟨zk3, hzk3, hr⟩ := ob hr
  obtain ⟨nzk3, ezk3, bzk3⟩ := nwa_sp hzk3
  obtain ⟨zt1, hr, azt1, bzt1, czt1, dzt1⟩ := adcK_s hr
  obtain ⟨zc2, hzc2, hr⟩ := ob hr
  have hzc2 := Option.some.inj hzc2
  refine j_k (kc' := zt1.2.2.1 + 1) (ks' := zt1.2.2.2 + zk3) (by omega) (by omega) ?_
  refine j_newa (ty := .int) (t0 := 0) (a0 := (zk3, .inl (fun _ => 0))) (N := zk3) (pc' := 8) C dX6_init_6 rfl (fun _ => rfl) (fun _ _ => rfl) wm_214 (fun _ => rfl) nzk3 ezk3 (Nat.le_trans (Nat.mul_le_mul_left _ (by decide)) bzk3) rfl ?_
  rw [hzc2]
  obtain ⟨zc4, hzc4, hr⟩ := ob hr
  refine j_put (pc' := 11) C dX6_init_8 fw_X6_9 rfl rfl hzc4 rfl ?_
  obtain ⟨azf5, bzf6, czf7, dzf8⟩ := some4 hr
  refine j_k (kc' := 0) (ks' := 0) (by omega) (by omega) ?_
  rw [show nx + q.2.2.1 = (nx + 1) by omega, (bzt1.trans bzf6)] at hq
  exact j_vret C hq hret dX6_init_11
def m_X6_makeRoom (nx : Nat) (ce : Ce) (this : Nat) (p1 : Int32) : Option (Unit × Ce × Nat × Nat) :=
  (gA ce 4 0 this).bind fun zx1 =>
  (alen ce zx1).bind fun zx2 =>
  if (p1 * (4 : Int32)) ≤ zx2 then
    some ((), ce, 0, 0)
  else
    (gA ce 4 0 this).bind fun zx7 =>
    adcB (m_J7_copyOf_59c91 nx ce zx7 (p1 * (4 : Int32))) fun zq8 =>
    (pV zq8.2.1 4 0 this (.ref zq8.1)).bind fun zc10 =>
    some ((), zc10, 0, 0)
set_option maxRecDepth 100000 in
set_option maxHeartbeats 4000000 in
theorem c_X6_makeRoom {nx : Nat} {ce : Ce} {this : Nat} {p1 : Int32} {q : Unit × Ce × Nat × Nat} (hr : m_X6_makeRoom nx ce this p1 = some q) : Ct yX6_makeRoom cX6_makeRoom 2 none 2 82 q.2.2.1 q.2.2.2 [.ref this, .int p1] nx ce none q.2.1 := by
  unfold m_X6_makeRoom at hr
  refine ct_of (by decide) (Nat.le_of_ble_eq_true rfl) ?_
  intro G C hq hret hin
  show Jd G q.2.2.1 q.2.2.2 nx ce 0 [(0, .ref this), (1, .int p1)] []
  refine j_iload_n (q := 1) (pc' := 1) C dX6_makeRoom_0 rfl rfl rfl ?_
  refine j_iconst (v := 4) (pc' := 2) C dX6_makeRoom_1 kI_4 rfl ?_
  refine j_imul (pc' := 3) C dX6_makeRoom_2 rfl ?_
  refine j_aload_n (q := 0) (pc' := 4) C dX6_makeRoom_3 rfl rfl rfl ?_
  obtain ⟨zx1, hzx1, hr⟩ := ob hr
  refine j_getA (pc' := 7) C dX6_makeRoom_4 fl_X6_9 hzx1 rfl ?_
  obtain ⟨zx2, hzx2, hr⟩ := ob hr
  refine j_alen (pc' := 8) C dX6_makeRoom_7 hzx2 rfl ?_
  refine j_ic_le (tgt := 25) (pc' := 11) C dX6_makeRoom_8 rfl rfl (fun hc => ?_) (fun hc => ?_)
  · have hr := ifT hc hr
    clear hc
    obtain ⟨azf3, bzf4, czf5, dzf6⟩ := some4 hr
    refine j_k (kc' := 0) (ks' := 0) (by omega) (by omega) ?_
    rw [show nx + q.2.2.1 = nx by omega, bzf4] at hq
    exact j_vret C hq hret dX6_makeRoom_25
  · have hr := ifF hc hr
    clear hc
    refine j_aload_n (q := 0) (pc' := 12) C dX6_makeRoom_11 rfl rfl rfl ?_
    refine j_aload_n (q := 0) (pc' := 13) C dX6_makeRoom_12 rfl rfl rfl ?_
    obtain ⟨zx7, hzx7, hr⟩ := ob hr
    refine j_getA (pc' := 16) C dX6_makeRoom_13 fl_X6_9 hzx7 rfl ?_
    refine j_iload_n (q := 1) (pc' := 17) C dX6_makeRoom_16 rfl rfl rfl ?_
    refine j_iconst (v := 4) (pc' := 18) C dX6_makeRoom_17 kI_4 rfl ?_
    refine j_imul (pc' := 19) C dX6_makeRoom_18 rfl ?_
    obtain ⟨zq8, zt9, hzq8, hr, azt9, bzt9, czt9, dzt9⟩ := adcB_s hr
    refine j_k (kc' := zt9.2.2.1 + zq8.2.2.1) (ks' := zt9.2.2.2 + zq8.2.2.2) (by omega) (by omega) ?_
    refine j_callSA (As := [.ref zx7, .int (p1 * (4 : Int32))]) (rest := [.ref this]) (st1 := [.ref zq8.1, .ref this]) (pc' := 22) C wm_743 (c_J7_copyOf_59c91 hzq8) yw_J7_copyOf_59c91 wm_760 rfl rfl (Nat.le_of_ble_eq_true rfl) ⟨by decide, by decide⟩ dX6_makeRoom_19 rfl rfl ?_
    obtain ⟨zc10, hzc10, hr⟩ := ob hr
    refine j_put (pc' := 25) C dX6_makeRoom_22 fw_X6_9 rfl rfl hzc10 rfl ?_
    obtain ⟨azf11, bzf12, czf13, dzf14⟩ := some4 hr
    refine j_k (kc' := 0) (ks' := 0) (by omega) (by omega) ?_
    rw [show nx + q.2.2.1 = (nx + zq8.2.2.1) by omega, (bzt9.trans bzf12)] at hq
    exact j_vret C hq hret dX6_makeRoom_25
def m_X6_become (nx : Nat) (ce : Ce) (this : Nat) (p1 : Nat) : Option (Unit × Ce × Nat × Nat) :=
  (gI ce 4 1 p1).bind fun zx1 =>
  (rcv ce 4 this).bind fun zz2 =>
  adcB (m_X6_makeRoom nx ce this zx1) fun zq3 =>
  (gA zq3.2.1 4 0 p1).bind fun zx5 =>
  (gA zq3.2.1 4 0 this).bind fun zx6 =>
  (gI zq3.2.1 4 1 p1).bind fun zx7 =>
  (cpI zq3.2.1 zx5 (0 : Int32) zx6 (0 : Int32) (zx7 * (4 : Int32))).bind fun zc8 =>
  (gI zc8 4 1 p1).bind fun zx9 =>
  (pV zc8 4 1 this (.int zx9)).bind fun zc10 =>
  some ((), zc10, 0, 0)
set_option maxRecDepth 100000 in
set_option maxHeartbeats 4000000 in
theorem c_X6_become {nx : Nat} {ce : Ce} {this : Nat} {p1 : Nat} {q : Unit × Ce × Nat × Nat} (hr : m_X6_become nx ce this p1 = some q) : Ct yX6_become cX6_become 2 none 3 103 q.2.2.1 q.2.2.2 [.ref this, .ref p1] nx ce none q.2.1 := by
  unfold m_X6_become at hr
  refine ct_of (by decide) (Nat.le_of_ble_eq_true rfl) ?_
  intro G C hq hret hin
  show Jd G q.2.2.1 q.2.2.2 nx ce 0 [(0, .ref this), (1, .ref p1)] []
  refine j_aload_n (q := 0) (pc' := 1) C dX6_become_0 rfl rfl rfl ?_
  refine j_aload_n (q := 1) (pc' := 2) C dX6_become_1 rfl rfl rfl ?_
  obtain ⟨zx1, hzx1, hr⟩ := ob hr
  refine j_getI (pc' := 5) C dX6_become_2 fl_X6_15 hzx1 rfl ?_
  obtain ⟨zz2, hzz2, hr⟩ := ob hr
  obtain ⟨zq3, zt4, hzq3, hr, azt4, bzt4, czt4, dzt4⟩ := adcB_s hr
  refine j_k (kc' := zt4.2.2.1 + zq3.2.2.1) (ks' := zt4.2.2.2 + zq3.2.2.2) (by omega) (by omega) ?_
  obtain ⟨fhzz2, hzz2⟩ := rcv_sp hzz2
  refine j_callVA (ci := 4) (As := [.int zx1]) (rest := []) (st1 := []) (pc' := 8) C ⟨wm_758, wm_19⟩ rfl hzz2 (c_X6_makeRoom hzq3) yw_X6_makeRoom wm_756 rfl rfl (Nat.le_of_ble_eq_true rfl) ⟨by decide, by decide⟩ dX6_become_5 rfl rfl ?_
  refine j_aload_n (q := 1) (pc' := 9) C dX6_become_8 rfl rfl rfl ?_
  obtain ⟨zx5, hzx5, hr⟩ := ob hr
  refine j_getA (pc' := 12) C dX6_become_9 fl_X6_9 hzx5 rfl ?_
  refine j_iconst (v := 0) (pc' := 13) C dX6_become_12 kI_0 rfl ?_
  refine j_aload_n (q := 0) (pc' := 14) C dX6_become_13 rfl rfl rfl ?_
  obtain ⟨zx6, hzx6, hr⟩ := ob hr
  refine j_getA (pc' := 17) C dX6_become_14 fl_X6_9 hzx6 rfl ?_
  refine j_iconst (v := 0) (pc' := 18) C dX6_become_17 kI_0 rfl ?_
  refine j_aload_n (q := 1) (pc' := 19) C dX6_become_18 rfl rfl rfl ?_
  obtain ⟨zx7, hzx7, hr⟩ := ob hr
  refine j_getI (pc' := 22) C dX6_become_19 fl_X6_15 hzx7 rfl ?_
  refine j_iconst (v := 4) (pc' := 23) C dX6_become_22 kI_4 rfl ?_
  refine j_imul (pc' := 24) C dX6_become_23 rfl ?_
  obtain ⟨zc8, hzc8, hr⟩ := ob hr
  refine j_cpI (pc' := 27) C dX6_become_24 wm_761 wm_708 wm_707 wm_143 ⟨by decide, by decide⟩ (Nat.le_of_ble_eq_true rfl) hzc8 rfl ?_
  refine j_aload_n (q := 0) (pc' := 28) C dX6_become_27 rfl rfl rfl ?_
  refine j_aload_n (q := 1) (pc' := 29) C dX6_become_28 rfl rfl rfl ?_
  obtain ⟨zx9, hzx9, hr⟩ := ob hr
  refine j_getI (pc' := 32) C dX6_become_29 fl_X6_15 hzx9 rfl ?_
  obtain ⟨zc10, hzc10, hr⟩ := ob hr
  refine j_put (pc' := 35) C dX6_become_32 fw_X6_15 rfl rfl hzc10 rfl ?_
  obtain ⟨azf11, bzf12, czf13, dzf14⟩ := some4 hr
  refine j_k (kc' := 0) (ks' := 0) (by omega) (by omega) ?_
  rw [show nx + q.2.2.1 = (nx + zq3.2.2.1) by omega, (bzt4.trans bzf12)] at hq
  exact j_vret C hq hret dX6_become_35
def m_X6_part (ce : Ce) (this : Nat) (p1 : Int32) (p2 : Int32) : Option (Int32) :=
  if ((p1 * (4 : Int32)) + p2) < 0 then
    some (0 : Int32)
  else
    (gA ce 4 0 this).bind fun zx1 =>
    (alen ce zx1).bind fun zx2 =>
    if zx2 ≤ ((p1 * (4 : Int32)) + p2) then
      some (0 : Int32)
    else
      (gA ce 4 0 this).bind fun zx3 =>
      (aI ce zx3 ((p1 * (4 : Int32)) + p2)).bind fun zx4 =>
      some zx4
set_option maxRecDepth 100000 in
set_option maxHeartbeats 4000000 in
theorem c_X6_part {nx : Nat} {ce : Ce} {this : Nat} {p1 : Int32} {p2 : Int32} {q : Int32} (hr : m_X6_part ce this p1 p2 = some q) : Ct yX6_part cX6_part 4 (some .int) 0 0 0 0 [.ref this, .int p1, .int p2] nx ce (some (.int q)) ce := by
  unfold m_X6_part at hr
  refine ct_of (by decide) (Nat.le_of_ble_eq_true rfl) ?_
  intro G C hq hret hin
  show Jd G 0 0 nx ce 0 [(0, .ref this), (1, .int p1), (2, .int p2)] []
  refine j_iload_n (q := 1) (pc' := 1) C dX6_part_0 rfl rfl rfl ?_
  refine j_iconst (v := 4) (pc' := 2) C dX6_part_1 kI_4 rfl ?_
  refine j_imul (pc' := 3) C dX6_part_2 rfl ?_
  refine j_iload_n (q := 2) (pc' := 4) C dX6_part_3 rfl rfl rfl ?_
  refine j_iadd (pc' := 5) C dX6_part_4 rfl ?_
  refine j_istore_n (lv' := [(3, .int ((p1 * (4 : Int32)) + p2)), (0, .ref this), (1, .int p1), (2, .int p2)]) (pc' := 6) C dX6_part_5 rfl (by decide) rfl rfl ?_
  refine j_iload_n (q := 0) (pc' := 7) C dX6_part_6 rfl rfl rfl ?_
  refine j_if_lt (tgt := 28) (pc' := 10) C dX6_part_7 rfl rfl (fun hc => ?_) (fun hc => ?_)
  · have hr := ifT hc hr
    clear hc
    refine j_iconst (v := 0) (pc' := 29) C dX6_part_28 kI_0 rfl ?_
    have hr := Option.some.inj hr
    subst hr
    exact j_iret C hq hret dX6_part_29
  · have hr := ifF hc hr
    clear hc
    refine j_iload_n (q := 0) (pc' := 11) C dX6_part_10 rfl rfl rfl ?_
    refine j_aload_n (q := 1) (pc' := 12) C dX6_part_11 rfl rfl rfl ?_
    obtain ⟨zx1, hzx1, hr⟩ := ob hr
    refine j_getA (pc' := 15) C dX6_part_12 fl_X6_9 hzx1 rfl ?_
    obtain ⟨zx2, hzx2, hr⟩ := ob hr
    refine j_alen (pc' := 16) C dX6_part_15 hzx2 rfl ?_
    refine j_ic_ge (tgt := 28) (pc' := 19) C dX6_part_16 rfl rfl (fun hc => ?_) (fun hc => ?_)
    · have hr := ifT hc hr
      clear hc
      refine j_iconst (v := 0) (pc' := 29) C dX6_part_28 kI_0 rfl ?_
      have hr := Option.some.inj hr
      subst hr
      exact j_iret C hq hret dX6_part_29
    · have hr := ifF hc hr
      clear hc
      refine j_aload_n (q := 1) (pc' := 20) C dX6_part_19 rfl rfl rfl ?_
      obtain ⟨zx3, hzx3, hr⟩ := ob hr
      refine j_getA (pc' := 23) C dX6_part_20 fl_X6_9 hzx3 rfl ?_
      refine j_iload_n (q := 0) (pc' := 24) C dX6_part_23 rfl rfl rfl ?_
      obtain ⟨zx4, hzx4, hr⟩ := ob hr
      refine j_iald (pc' := 25) C dX6_part_24 hzx4 rfl ?_
      refine j_goto (tgt := 29) C dX6_part_25 rfl ?_
      have hr := Option.some.inj hr
      subst hr
      exact j_iret C hq hret dX6_part_29
def m_X6_comesFirst (ce : Ce) (this : Nat) (p1 : Int32) (p2 : Int32) (p3 : Int32) : Option (Int32) :=
  (rcv ce 4 this).bind fun zz1 =>
  (m_X6_part ce this p1 (1 : Int32)).bind fun zx2 =>
  if zx2 < p3 then
    some (1 : Int32)
  else
    if zx2 = p3 then
      (rcv ce 4 this).bind fun zz3 =>
      (m_X6_part ce this p1 (0 : Int32)).bind fun zx4 =>
      if p2 < zx4 then
        some (0 : Int32)
      else
        some (1 : Int32)
    else
      some (0 : Int32)
set_option maxRecDepth 100000 in
set_option maxHeartbeats 4000000 in
theorem c_X6_comesFirst {nx : Nat} {ce : Ce} {this : Nat} {p1 : Int32} {p2 : Int32} {p3 : Int32} {q : Int32} (hr : m_X6_comesFirst ce this p1 p2 p3 = some q) : Ct yX6_comesFirst cX6_comesFirst 5 (some .boolean) 1 23 0 0 [.ref this, .int p1, .int p2, .int p3] nx ce (some (.int q)) ce := by
  unfold m_X6_comesFirst at hr
  refine ct_of (by decide) (Nat.le_of_ble_eq_true rfl) ?_
  intro G C hq hret hin
  show Jd G 0 0 nx ce 0 [(0, .ref this), (1, .int p1), (2, .int p2), (3, .int p3)] []
  refine j_aload_n (q := 0) (pc' := 1) C dX6_comesFirst_0 rfl rfl rfl ?_
  refine j_iload_n (q := 1) (pc' := 2) C dX6_comesFirst_1 rfl rfl rfl ?_
  refine j_iconst (v := 1) (pc' := 3) C dX6_comesFirst_2 kI_1 rfl ?_
  obtain ⟨zz1, hzz1, hr⟩ := ob hr
  obtain ⟨zx2, hzx2, hr⟩ := ob hr
  obtain ⟨fhzz1, hzz1⟩ := rcv_sp hzz1
  refine j_callV (ci := 4) (As := [.int p1, .int (1 : Int32)]) (rest := []) (st1 := [.int zx2]) (pc' := 6) C ⟨wm_918, wm_919⟩ rfl hzz1 (c_X6_part (nx := nx) hzx2) yw_X6_part wm_917 rfl rfl (Nat.le_of_ble_eq_true rfl) ⟨by decide, by decide⟩ dX6_comesFirst_3 rfl rfl ?_
  refine j_istore (lv' := [(4, .int zx2), (0, .ref this), (1, .int p1), (2, .int p2), (3, .int p3)]) (pc' := 8) C dX6_comesFirst_6 (by decide) rfl rfl ?_
  refine j_iload (q := 0) (pc' := 10) C dX6_comesFirst_8 rfl rfl ?_
  refine j_iload_n (q := 4) (pc' := 11) C dX6_comesFirst_10 rfl rfl rfl ?_
  refine j_ic_lt (tgt := 30) (pc' := 14) C dX6_comesFirst_11 rfl rfl (fun hc => ?_) (fun hc => ?_)
  · have hr := ifT hc hr
    clear hc
    refine j_iconst (v := 1) (pc' := 31) C dX6_comesFirst_30 kI_1 rfl ?_
    refine j_goto (tgt := 35) C dX6_comesFirst_31 rfl ?_
    have hr := Option.some.inj hr
    subst hr
    exact j_zret C hq hret rfl dX6_comesFirst_35
  · have hr := ifF hc hr
    clear hc
    refine j_iload (q := 0) (pc' := 16) C dX6_comesFirst_14 rfl rfl ?_
    refine j_iload_n (q := 4) (pc' := 17) C dX6_comesFirst_16 rfl rfl rfl ?_
    refine j_ic_ne (tgt := 34) (pc' := 20) C dX6_comesFirst_17 rfl rfl (fun hc => ?_) (fun hc => ?_)
    · have hr := ifF hc hr
      clear hc
      refine j_iconst (v := 0) (pc' := 35) C dX6_comesFirst_34 kI_0 rfl ?_
      have hr := Option.some.inj hr
      subst hr
      exact j_zret C hq hret rfl dX6_comesFirst_35
    · have hr := ifT hc hr
      clear hc
      refine j_aload_n (q := 1) (pc' := 21) C dX6_comesFirst_20 rfl rfl rfl ?_
      refine j_iload_n (q := 2) (pc' := 22) C dX6_comesFirst_21 rfl rfl rfl ?_
      refine j_iconst (v := 0) (pc' := 23) C dX6_comesFirst_22 kI_0 rfl ?_
      obtain ⟨zz3, hzz3, hr⟩ := ob hr
      obtain ⟨zx4, hzx4, hr⟩ := ob hr
      obtain ⟨fhzz3, hzz3⟩ := rcv_sp hzz3
      refine j_callV (ci := 4) (As := [.int p1, .int (0 : Int32)]) (rest := []) (st1 := [.int zx4]) (pc' := 26) C ⟨wm_918, wm_919⟩ rfl hzz3 (c_X6_part (nx := nx) hzx4) yw_X6_part wm_917 rfl rfl (Nat.le_of_ble_eq_true rfl) ⟨by decide, by decide⟩ dX6_comesFirst_23 rfl rfl ?_
      refine j_iload_n (q := 3) (pc' := 27) C dX6_comesFirst_26 rfl rfl rfl ?_
      refine j_ic_gt (tgt := 34) (pc' := 30) C dX6_comesFirst_27 rfl rfl (fun hc => ?_) (fun hc => ?_)
      · have hr := ifT hc hr
        clear hc
        refine j_iconst (v := 0) (pc' := 35) C dX6_comesFirst_34 kI_0 rfl ?_
        have hr := Option.some.inj hr
        subst hr
        exact j_zret C hq hret rfl dX6_comesFirst_35
      · have hr := ifF hc hr
        clear hc
        refine j_iconst (v := 1) (pc' := 31) C dX6_comesFirst_30 kI_1 rfl ?_
        refine j_goto (tgt := 35) C dX6_comesFirst_31 rfl ?_
        have hr := Option.some.inj hr
        subst hr
        exact j_zret C hq hret rfl dX6_comesFirst_35
def m_X6_add (nx : Nat) (ce : Ce) (this : Nat) (p1 : Int32) (p2 : Int32) (p3 : Int32) (p4 : Int32) : Option (Unit × Ce × Nat × Nat) :=
  (it (fun (zs1 : Int32) =>
    (gI ce 4 1 this).bind fun zx39 =>
    if zx39 ≤ zs1 then
      some (Sum.inr zs1)
    else
      (rcv ce 4 this).bind fun zz40 =>
      (m_X6_comesFirst ce this zs1 p1 p2).bind fun zx41 =>
      if zx41 = 0 then
        some (Sum.inr zs1)
      else
        some (Sum.inl (zs1 + (1 : Int32)))
  ) FU (0 : Int32)).bind fun (zo2 : Int32) =>
  (gI ce 4 1 this).bind fun zx4 =>
  (gA ce 4 0 this).bind fun zx5 =>
  (alen ce zx5).bind fun zx6 =>
  adcB (
    if ((zx4 + (1 : Int32)) * (4 : Int32)) ≤ zx6 then
      some ((), ce, 0, 0)
    else
      (gI ce 4 1 this).bind fun zx31 =>
      (rcv ce 4 this).bind fun zz32 =>
      adcB (m_X6_makeRoom nx ce this ((zx31 * (2 : Int32)) + (8 : Int32))) fun zq33 =>
      some ((), zq33.2.1, 0, 0)
  ) fun (zj7 : Unit × Ce × Nat × Nat) =>
  (gA zj7.2.1 4 0 this).bind fun zx9 =>
  (gA zj7.2.1 4 0 this).bind fun zx10 =>
  (gI zj7.2.1 4 1 this).bind fun zx11 =>
  (cpI zj7.2.1 zx9 (zo2 * (4 : Int32)) zx10 ((zo2 * (4 : Int32)) + (4 : Int32)) ((zx11 - zo2) * (4 : Int32))).bind fun zc12 =>
  (gA zc12 4 0 this).bind fun zx13 =>
  (sI zc12 zx13 ((zo2 * (4 : Int32)) + (0 : Int32)) p1).bind fun zc14 =>
  (gA zc14 4 0 this).bind fun zx15 =>
  (sI zc14 zx15 ((zo2 * (4 : Int32)) + (1 : Int32)) p2).bind fun zc16 =>
  (gA zc16 4 0 this).bind fun zx17 =>
  (sI zc16 zx17 ((zo2 * (4 : Int32)) + (2 : Int32)) p3).bind fun zc18 =>
  (gA zc18 4 0 this).bind fun zx19 =>
  (sI zc18 zx19 ((zo2 * (4 : Int32)) + (3 : Int32)) p4).bind fun zc20 =>
  (gI zc20 4 1 this).bind fun zx21 =>
  (pV zc20 4 1 this (.int (zx21 + (1 : Int32)))).bind fun zc22 =>
  some ((), zc22, 0, 0)
set_option maxRecDepth 100000 in
set_option maxHeartbeats 4000000 in
theorem c_X6_add {nx : Nat} {ce : Ce} {this : Nat} {p1 : Int32} {p2 : Int32} {p3 : Int32} {p4 : Int32} {q : Unit × Ce × Nat × Nat} (hr : m_X6_add nx ce this p1 p2 p3 p4 = some q) : Ct yX6_add cX6_add 7 none 3 103 q.2.2.1 q.2.2.2 [.ref this, .int p1, .int p2, .int p3, .int p4] nx ce none q.2.1 := by
  unfold m_X6_add at hr
  refine ct_of (by decide) (Nat.le_of_ble_eq_true rfl) ?_
  intro G C hq hret hin
  show Jd G q.2.2.1 q.2.2.2 nx ce 0 [(0, .ref this), (1, .int p1), (2, .int p2), (3, .int p3), (4, .int p4)] []
  refine j_iconst (v := 0) (pc' := 1) C dX6_add_0 kI_0 rfl ?_
  refine j_istore (lv' := [(5, .int (0 : Int32)), (0, .ref this), (1, .int p1), (2, .int p2), (3, .int p3), (4, .int p4)]) (pc' := 3) C dX6_add_1 (by decide) rfl rfl ?_
  obtain ⟨zo2, hzo2, rzo2⟩ := ob hr
  have kzo2 : Jd G q.2.2.1 q.2.2.2 nx ce 29 [(0, .ref this), (1, .int p1), (2, .int p2), (3, .int p3), (4, .int p4), (5, .int zo2)] [] := by
    have hr := rzo2
    refine j_aload_n (q := 0) (pc' := 30) C dX6_add_29 rfl rfl rfl ?_
    obtain ⟨zx4, hzx4, hr⟩ := ob hr
    refine j_getI (pc' := 33) C dX6_add_30 fl_X6_15 hzx4 rfl ?_
    refine j_iconst (v := 1) (pc' := 34) C dX6_add_33 kI_1 rfl ?_
    refine j_iadd (pc' := 35) C dX6_add_34 rfl ?_
    refine j_iconst (v := 4) (pc' := 36) C dX6_add_35 kI_4 rfl ?_
    refine j_imul (pc' := 37) C dX6_add_36 rfl ?_
    refine j_aload_n (q := 0) (pc' := 38) C dX6_add_37 rfl rfl rfl ?_
    obtain ⟨zx5, hzx5, hr⟩ := ob hr
    refine j_getA (pc' := 41) C dX6_add_38 fl_X6_9 hzx5 rfl ?_
    obtain ⟨zx6, hzx6, hr⟩ := ob hr
    refine j_alen (pc' := 42) C dX6_add_41 hzx6 rfl ?_
    obtain ⟨zj7, zt8, hzj7, rzj7, azt8, bzt8, czt8, dzt8⟩ := adcB_s hr
    have kzj7 : ∀ (vzj7 : Unit) (czj7 : Ce) (nzj7 : Nat), zj7.1 = vzj7 → zj7.2.1 = czj7 → nx + zj7.2.2.1 = nzj7 → Jd G (zt8.2.2.1) (zt8.2.2.2) nzj7 czj7 58 [(0, .ref this), (1, .int p1), (2, .int p2), (3, .int p3), (4, .int p4), (5, .int zo2)] [] := by
      rintro _ _ _ rfl rfl rfl
      have hr := rzj7
      refine j_iload (q := 5) (pc' := 60) C dX6_add_58 rfl rfl ?_
      refine j_iconst (v := 4) (pc' := 61) C dX6_add_60 kI_4 rfl ?_
      refine j_imul (pc' := 62) C dX6_add_61 rfl ?_
      refine j_istore (lv' := [(6, .int (zo2 * (4 : Int32))), (0, .ref this), (1, .int p1), (2, .int p2), (3, .int p3), (4, .int p4), (5, .int zo2)]) (pc' := 64) C dX6_add_62 (by decide) rfl rfl ?_
      refine j_aload_n (q := 1) (pc' := 65) C dX6_add_64 rfl rfl rfl ?_
      obtain ⟨zx9, hzx9, hr⟩ := ob hr
      refine j_getA (pc' := 68) C dX6_add_65 fl_X6_9 hzx9 rfl ?_
      refine j_iload (q := 0) (pc' := 70) C dX6_add_68 rfl rfl ?_
      refine j_aload_n (q := 1) (pc' := 71) C dX6_add_70 rfl rfl rfl ?_
      obtain ⟨zx10, hzx10, hr⟩ := ob hr
      refine j_getA (pc' := 74) C dX6_add_71 fl_X6_9 hzx10 rfl ?_
      refine j_iload (q := 0) (pc' := 76) C dX6_add_74 rfl rfl ?_
      refine j_iconst (v := 4) (pc' := 77) C dX6_add_76 kI_4 rfl ?_
      refine j_iadd (pc' := 78) C dX6_add_77 rfl ?_
      refine j_aload_n (q := 1) (pc' := 79) C dX6_add_78 rfl rfl rfl ?_
      obtain ⟨zx11, hzx11, hr⟩ := ob hr
      refine j_getI (pc' := 82) C dX6_add_79 fl_X6_15 hzx11 rfl ?_
      refine j_iload (q := 6) (pc' := 84) C dX6_add_82 rfl rfl ?_
      refine j_isub (pc' := 85) C dX6_add_84 rfl ?_
      refine j_iconst (v := 4) (pc' := 86) C dX6_add_85 kI_4 rfl ?_
      refine j_imul (pc' := 87) C dX6_add_86 rfl ?_
      obtain ⟨zc12, hzc12, hr⟩ := ob hr
      refine j_cpI (pc' := 90) C dX6_add_87 wm_761 wm_708 wm_707 wm_143 ⟨by decide, by decide⟩ (Nat.le_of_ble_eq_true rfl) hzc12 rfl ?_
      refine j_aload_n (q := 1) (pc' := 91) C dX6_add_90 rfl rfl rfl ?_
      obtain ⟨zx13, hzx13, hr⟩ := ob hr
      refine j_getA (pc' := 94) C dX6_add_91 fl_X6_9 hzx13 rfl ?_
      refine j_iload (q := 0) (pc' := 96) C dX6_add_94 rfl rfl ?_
      refine j_iconst (v := 0) (pc' := 97) C dX6_add_96 kI_0 rfl ?_
      refine j_iadd (pc' := 98) C dX6_add_97 rfl ?_
      refine j_iload_n (q := 2) (pc' := 99) C dX6_add_98 rfl rfl rfl ?_
      obtain ⟨zc14, hzc14, hr⟩ := ob hr
      refine j_iast (pc' := 100) C dX6_add_99 hzc14 rfl ?_
      refine j_aload_n (q := 1) (pc' := 101) C dX6_add_100 rfl rfl rfl ?_
      obtain ⟨zx15, hzx15, hr⟩ := ob hr
      refine j_getA (pc' := 104) C dX6_add_101 fl_X6_9 hzx15 rfl ?_
      refine j_iload (q := 0) (pc' := 106) C dX6_add_104 rfl rfl ?_
      refine j_iconst (v := 1) (pc' := 107) C dX6_add_106 kI_1 rfl ?_
      refine j_iadd (pc' := 108) C dX6_add_107 rfl ?_
      refine j_iload_n (q := 3) (pc' := 109) C dX6_add_108 rfl rfl rfl ?_
      obtain ⟨zc16, hzc16, hr⟩ := ob hr
      refine j_iast (pc' := 110) C dX6_add_109 hzc16 rfl ?_
      refine j_aload_n (q := 1) (pc' := 111) C dX6_add_110 rfl rfl rfl ?_
      obtain ⟨zx17, hzx17, hr⟩ := ob hr
      refine j_getA (pc' := 114) C dX6_add_111 fl_X6_9 hzx17 rfl ?_
      refine j_iload (q := 0) (pc' := 116) C dX6_add_114 rfl rfl ?_
      refine j_iconst (v := 2) (pc' := 117) C dX6_add_116 kI_2 rfl ?_
      refine j_iadd (pc' := 118) C dX6_add_117 rfl ?_
      refine j_iload_n (q := 4) (pc' := 119) C dX6_add_118 rfl rfl rfl ?_
      obtain ⟨zc18, hzc18, hr⟩ := ob hr
      refine j_iast (pc' := 120) C dX6_add_119 hzc18 rfl ?_
      refine j_aload_n (q := 1) (pc' := 121) C dX6_add_120 rfl rfl rfl ?_
      obtain ⟨zx19, hzx19, hr⟩ := ob hr
      refine j_getA (pc' := 124) C dX6_add_121 fl_X6_9 hzx19 rfl ?_
      refine j_iload (q := 0) (pc' := 126) C dX6_add_124 rfl rfl ?_
      refine j_iconst (v := 3) (pc' := 127) C dX6_add_126 kI_3 rfl ?_
      refine j_iadd (pc' := 128) C dX6_add_127 rfl ?_
      refine j_iload (q := 5) (pc' := 130) C dX6_add_128 rfl rfl ?_
      obtain ⟨zc20, hzc20, hr⟩ := ob hr
      refine j_iast (pc' := 131) C dX6_add_130 hzc20 rfl ?_
      refine j_aload_n (q := 1) (pc' := 132) C dX6_add_131 rfl rfl rfl ?_
      refine j_dup (pc' := 133) C dX6_add_132 rfl rfl ?_
      obtain ⟨zx21, hzx21, hr⟩ := ob hr
      refine j_getI (pc' := 136) C dX6_add_133 fl_X6_15 hzx21 rfl ?_
      refine j_iconst (v := 1) (pc' := 137) C dX6_add_136 kI_1 rfl ?_
      refine j_iadd (pc' := 138) C dX6_add_137 rfl ?_
      obtain ⟨zc22, hzc22, hr⟩ := ob hr
      refine j_put (pc' := 141) C dX6_add_138 fw_X6_15 rfl rfl hzc22 rfl ?_
      obtain ⟨azf23, bzf24, czf25, dzf26⟩ := some4 hr
      refine j_k (kc' := 0) (ks' := 0) (by omega) (by omega) ?_
      rw [show nx + q.2.2.1 = (nx + zj7.2.2.1) by omega, (bzt8.trans bzf24)] at hq
      exact j_vret C hq hret dX6_add_141
    have hr := hzj7
    clear hzj7
    refine j_k (kc' := zt8.2.2.1 + zj7.2.2.1) (ks' := zt8.2.2.2 + zj7.2.2.2) (by omega) (by omega) ?_
    refine j_ic_le (tgt := 58) (pc' := 45) C dX6_add_42 rfl rfl (fun hc => ?_) (fun hc => ?_)
    · have hr := ifT hc hr
      clear hc
      obtain ⟨azf27, bzf28, czf29, dzf30⟩ := some4 hr
      refine j_k (kc' := zt8.2.2.1) (ks' := zt8.2.2.2) (by omega) (by omega) ?_
      exact j_lv [0, 1, 2, 3, 4, 5] rfl (kzj7 _ _ _ azf27 bzf28 (by omega))
    · have hr := ifF hc hr
      clear hc
      refine j_aload_n (q := 0) (pc' := 46) C dX6_add_45 rfl rfl rfl ?_
      refine j_aload_n (q := 0) (pc' := 47) C dX6_add_46 rfl rfl rfl ?_
      obtain ⟨zx31, hzx31, hr⟩ := ob hr
      refine j_getI (pc' := 50) C dX6_add_47 fl_X6_15 hzx31 rfl ?_
      refine j_iconst (v := 2) (pc' := 51) C dX6_add_50 kI_2 rfl ?_
      refine j_imul (pc' := 52) C dX6_add_51 rfl ?_
      refine j_bipush (v := 8) (pc' := 54) C dX6_add_52 kB_8 rfl ?_
      refine j_iadd (pc' := 55) C dX6_add_54 rfl ?_
      obtain ⟨zz32, hzz32, hr⟩ := ob hr
      obtain ⟨zq33, zt34, hzq33, hr, azt34, bzt34, czt34, dzt34⟩ := adcB_s hr
      refine j_k (kc' := zt8.2.2.1 + zt34.2.2.1 + zq33.2.2.1) (ks' := zt8.2.2.2 + zt34.2.2.2 + zq33.2.2.2) (by omega) (by omega) ?_
      obtain ⟨fhzz32, hzz32⟩ := rcv_sp hzz32
      refine j_callVA (ci := 4) (As := [.int ((zx31 * (2 : Int32)) + (8 : Int32))]) (rest := []) (st1 := []) (pc' := 58) C ⟨wm_758, wm_19⟩ rfl hzz32 (c_X6_makeRoom hzq33) yw_X6_makeRoom wm_756 rfl rfl (Nat.le_of_ble_eq_true rfl) ⟨by decide, by decide⟩ dX6_add_55 rfl rfl ?_
      obtain ⟨azf35, bzf36, czf37, dzf38⟩ := some4 hr
      refine j_k (kc' := zt8.2.2.1) (ks' := zt8.2.2.2) (by omega) (by omega) ?_
      exact j_lv [0, 1, 2, 3, 4, 5] rfl (kzj7 _ _ _ (azt34.trans azf35) (bzt34.trans bzf36) (by omega))
  refine j_lv (lv' := [(0, .ref this), (1, .int p1), (2, .int p2), (3, .int p3), (4, .int p4), (5, .int (0 : Int32))]) [1, 2, 3, 4, 5, 0] rfl ?_
  refine it_J (J := (fun (zs1 : Int32) => Jd G q.2.2.1 q.2.2.2 nx ce 3 [(0, .ref this), (1, .int p1), (2, .int p2), (3, .int p3), (4, .int p4), (5, .int zs1)] [])) ?_ hzo2
  clear hzo2
  intro zs1 zr3 hr izs1 ezs1
  refine j_iload (q := 5) (pc' := 5) C dX6_add_3 rfl rfl ?_
  refine j_aload_n (q := 0) (pc' := 6) C dX6_add_5 rfl rfl rfl ?_
  obtain ⟨zx39, hzx39, hr⟩ := ob hr
  refine j_getI (pc' := 9) C dX6_add_6 fl_X6_15 hzx39 rfl ?_
  refine j_ic_ge (tgt := 29) (pc' := 12) C dX6_add_9 rfl rfl (fun hc => ?_) (fun hc => ?_)
  · have hr := ifT hc hr
    clear hc
    have hr := ezs1 _ (Option.some.inj hr).symm
    subst hr
    exact j_lv [0, 1, 2, 3, 4, 5] rfl kzo2
  · have hr := ifF hc hr
    clear hc
    refine j_aload_n (q := 0) (pc' := 13) C dX6_add_12 rfl rfl rfl ?_
    refine j_iload (q := 5) (pc' := 15) C dX6_add_13 rfl rfl ?_
    refine j_iload_n (q := 1) (pc' := 16) C dX6_add_15 rfl rfl rfl ?_
    refine j_iload_n (q := 2) (pc' := 17) C dX6_add_16 rfl rfl rfl ?_
    obtain ⟨zz40, hzz40, hr⟩ := ob hr
    obtain ⟨zx41, hzx41, hr⟩ := ob hr
    obtain ⟨fhzz40, hzz40⟩ := rcv_sp hzz40
    refine j_callV (ci := 4) (As := [.int zs1, .int p1, .int p2]) (rest := []) (st1 := [.int zx41]) (pc' := 20) C ⟨wm_915, wm_22⟩ rfl hzz40 (c_X6_comesFirst (nx := nx) hzx41) yw_X6_comesFirst wm_913 rfl rfl (Nat.le_of_ble_eq_true rfl) ⟨by decide, by decide⟩ dX6_add_17 rfl rfl ?_
    refine j_if_eq (tgt := 29) (pc' := 23) C dX6_add_20 rfl rfl (fun hc => ?_) (fun hc => ?_)
    · have hr := ifT hc hr
      clear hc
      have hr := ezs1 _ (Option.some.inj hr).symm
      subst hr
      exact j_lv [0, 1, 2, 3, 4, 5] rfl kzo2
    · have hr := ifF hc hr
      clear hc
      refine j_iinc (q := 5) (v := 1) (lv' := [(5, .int (zs1 + (1 : Int32))), (0, .ref this), (1, .int p1), (2, .int p2), (3, .int p3), (4, .int p4)]) (pc' := 26) C dX6_add_23 rfl kI_1 (by decide) rfl rfl ?_
      refine j_goto (tgt := 3) C dX6_add_26 rfl ?_
      have hr := izs1 (zs1 + (1 : Int32)) (Option.some.inj hr).symm
      exact j_lv [1, 2, 3, 4, 5, 0] rfl hr
def m_X6_dropFirst (ce : Ce) (this : Nat) : Option (Unit × Ce) :=
  (gI ce 4 1 this).bind fun zx1 =>
  if zx1 ≤ 0 then
    some ((), ce)
  else
    (gA ce 4 0 this).bind fun zx2 =>
    (gA ce 4 0 this).bind fun zx3 =>
    (gI ce 4 1 this).bind fun zx4 =>
    (cpI ce zx2 (4 : Int32) zx3 (0 : Int32) ((zx4 - (1 : Int32)) * (4 : Int32))).bind fun zc5 =>
    (gI zc5 4 1 this).bind fun zx6 =>
    (pV zc5 4 1 this (.int (zx6 - (1 : Int32)))).bind fun zc7 =>
    some ((), zc7)
set_option maxRecDepth 100000 in
set_option maxHeartbeats 4000000 in
theorem c_X6_dropFirst {nx : Nat} {ce : Ce} {this : Nat} {q : Unit × Ce} (hr : m_X6_dropFirst ce this = some q) : Ct yX6_dropFirst cX6_dropFirst 1 none 1 60 0 0 [.ref this] nx ce none q.2 := by
  unfold m_X6_dropFirst at hr
  refine ct_of (by decide) (Nat.le_of_ble_eq_true rfl) ?_
  intro G C hq hret hin
  show Jd G 0 0 nx ce 0 [(0, .ref this)] []
  refine j_aload_n (q := 0) (pc' := 1) C dX6_dropFirst_0 rfl rfl rfl ?_
  obtain ⟨zx1, hzx1, hr⟩ := ob hr
  refine j_getI (pc' := 4) C dX6_dropFirst_1 fl_X6_15 hzx1 rfl ?_
  refine j_if_le (tgt := 38) (pc' := 7) C dX6_dropFirst_4 rfl rfl (fun hc => ?_) (fun hc => ?_)
  · have hr := ifT hc hr
    clear hc
    have hr := Option.some.inj hr
    subst hr
    exact j_vret C hq hret dX6_dropFirst_38
  · have hr := ifF hc hr
    clear hc
    refine j_aload_n (q := 0) (pc' := 8) C dX6_dropFirst_7 rfl rfl rfl ?_
    obtain ⟨zx2, hzx2, hr⟩ := ob hr
    refine j_getA (pc' := 11) C dX6_dropFirst_8 fl_X6_9 hzx2 rfl ?_
    refine j_iconst (v := 4) (pc' := 12) C dX6_dropFirst_11 kI_4 rfl ?_
    refine j_aload_n (q := 0) (pc' := 13) C dX6_dropFirst_12 rfl rfl rfl ?_
    obtain ⟨zx3, hzx3, hr⟩ := ob hr
    refine j_getA (pc' := 16) C dX6_dropFirst_13 fl_X6_9 hzx3 rfl ?_
    refine j_iconst (v := 0) (pc' := 17) C dX6_dropFirst_16 kI_0 rfl ?_
    refine j_aload_n (q := 0) (pc' := 18) C dX6_dropFirst_17 rfl rfl rfl ?_
    obtain ⟨zx4, hzx4, hr⟩ := ob hr
    refine j_getI (pc' := 21) C dX6_dropFirst_18 fl_X6_15 hzx4 rfl ?_
    refine j_iconst (v := 1) (pc' := 22) C dX6_dropFirst_21 kI_1 rfl ?_
    refine j_isub (pc' := 23) C dX6_dropFirst_22 rfl ?_
    refine j_iconst (v := 4) (pc' := 24) C dX6_dropFirst_23 kI_4 rfl ?_
    refine j_imul (pc' := 25) C dX6_dropFirst_24 rfl ?_
    obtain ⟨zc5, hzc5, hr⟩ := ob hr
    refine j_cpI (pc' := 28) C dX6_dropFirst_25 wm_761 wm_708 wm_707 wm_143 ⟨by decide, by decide⟩ (Nat.le_of_ble_eq_true rfl) hzc5 rfl ?_
    refine j_aload_n (q := 0) (pc' := 29) C dX6_dropFirst_28 rfl rfl rfl ?_
    refine j_dup (pc' := 30) C dX6_dropFirst_29 rfl rfl ?_
    obtain ⟨zx6, hzx6, hr⟩ := ob hr
    refine j_getI (pc' := 33) C dX6_dropFirst_30 fl_X6_15 hzx6 rfl ?_
    refine j_iconst (v := 1) (pc' := 34) C dX6_dropFirst_33 kI_1 rfl ?_
    refine j_isub (pc' := 35) C dX6_dropFirst_34 rfl ?_
    obtain ⟨zc7, hzc7, hr⟩ := ob hr
    refine j_put (pc' := 38) C dX6_dropFirst_35 fw_X6_15 rfl rfl hzc7 rfl ?_
    have hr := Option.some.inj hr
    subst hr
    exact j_vret C hq hret dX6_dropFirst_38
def m_X6_placeOf (ce : Ce) (this : Nat) (p1 : Int32) : Option (Int32) :=
  (it (fun (zs1 : Int32) =>
    (gI ce 4 1 this).bind fun zx4 =>
    if zx4 ≤ zs1 then
      some (Sum.inr (Sum.inr ()))
    else
      (rcv ce 4 this).bind fun zz5 =>
      (m_X6_part ce this zs1 (2 : Int32)).bind fun zx6 =>
      if zx6 = p1 then
        some (Sum.inr (Sum.inl zs1))
      else
        some (Sum.inl (zs1 + (1 : Int32)))
  ) FU (0 : Int32)).bind fun (zo2 : Int32 ⊕ Unit) =>
  Sum.elim (fun wzo2 => some wzo2) (fun vzo2 =>
    some (-1 : Int32)
  ) zo2
set_option maxRecDepth 100000 in
set_option maxHeartbeats 4000000 in
theorem c_X6_placeOf {nx : Nat} {ce : Ce} {this : Nat} {p1 : Int32} {q : Int32} (hr : m_X6_placeOf ce this p1 = some q) : Ct yX6_placeOf cX6_placeOf 3 (some .int) 1 23 0 0 [.ref this, .int p1] nx ce (some (.int q)) ce := by
  unfold m_X6_placeOf at hr
  refine ct_of (by decide) (Nat.le_of_ble_eq_true rfl) ?_
  intro G C hq hret hin
  show Jd G 0 0 nx ce 0 [(0, .ref this), (1, .int p1)] []
  refine j_iconst (v := 0) (pc' := 1) C dX6_placeOf_0 kI_0 rfl ?_
  refine j_istore_n (lv' := [(2, .int (0 : Int32)), (0, .ref this), (1, .int p1)]) (pc' := 2) C dX6_placeOf_1 rfl (by decide) rfl rfl ?_
  obtain ⟨zo2, hzo2, rzo2⟩ := ob hr
  have kzo2 : ∀ vzo2, zo2 = Sum.inr vzo2 → Jd G 0 0 nx ce 28 [] [] := by
    intro vzo2 ezo2
    rw [ezo2] at rzo2
    have hr := elR rzo2
    refine j_iconst (v := -1) (pc' := 29) C dX6_placeOf_28 kI_m1 rfl ?_
    have hr := Option.some.inj hr
    subst hr
    exact j_iret C hq hret dX6_placeOf_29
  refine j_lv (lv' := [(0, .ref this), (1, .int p1), (2, .int (0 : Int32))]) [1, 2, 0] rfl ?_
  refine it_J (J := (fun (zs1 : Int32) => Jd G 0 0 nx ce 2 [(0, .ref this), (1, .int p1), (2, .int zs1)] [])) ?_ hzo2
  clear hzo2
  intro zs1 zr3 hr izs1 ezs1
  refine j_iload_n (q := 2) (pc' := 3) C dX6_placeOf_2 rfl rfl rfl ?_
  refine j_aload_n (q := 0) (pc' := 4) C dX6_placeOf_3 rfl rfl rfl ?_
  obtain ⟨zx4, hzx4, hr⟩ := ob hr
  refine j_getI (pc' := 7) C dX6_placeOf_4 fl_X6_15 hzx4 rfl ?_
  refine j_ic_ge (tgt := 28) (pc' := 10) C dX6_placeOf_7 rfl rfl (fun hc => ?_) (fun hc => ?_)
  · have hr := ifT hc hr
    clear hc
    have hr := ezs1 _ (Option.some.inj hr).symm
    subst hr
    exact j_lv [] rfl (kzo2 _ rfl)
  · have hr := ifF hc hr
    clear hc
    refine j_aload_n (q := 0) (pc' := 11) C dX6_placeOf_10 rfl rfl rfl ?_
    refine j_iload_n (q := 2) (pc' := 12) C dX6_placeOf_11 rfl rfl rfl ?_
    refine j_iconst (v := 2) (pc' := 13) C dX6_placeOf_12 kI_2 rfl ?_
    obtain ⟨zz5, hzz5, hr⟩ := ob hr
    obtain ⟨zx6, hzx6, hr⟩ := ob hr
    obtain ⟨fhzz5, hzz5⟩ := rcv_sp hzz5
    refine j_callV (ci := 4) (As := [.int zs1, .int (2 : Int32)]) (rest := []) (st1 := [.int zx6]) (pc' := 16) C ⟨wm_918, wm_919⟩ rfl hzz5 (c_X6_part (nx := nx) hzx6) yw_X6_part wm_917 rfl rfl (Nat.le_of_ble_eq_true rfl) ⟨by decide, by decide⟩ dX6_placeOf_13 rfl rfl ?_
    refine j_iload_n (q := 1) (pc' := 17) C dX6_placeOf_16 rfl rfl rfl ?_
    refine j_ic_ne (tgt := 22) (pc' := 20) C dX6_placeOf_17 rfl rfl (fun hc => ?_) (fun hc => ?_)
    · have hr := ifF hc hr
      clear hc
      refine j_iinc (q := 2) (v := 1) (lv' := [(2, .int (zs1 + (1 : Int32))), (0, .ref this), (1, .int p1)]) (pc' := 25) C dX6_placeOf_22 rfl kI_1 (by decide) rfl rfl ?_
      refine j_goto (tgt := 2) C dX6_placeOf_25 rfl ?_
      have hr := izs1 (zs1 + (1 : Int32)) (Option.some.inj hr).symm
      exact j_lv [1, 2, 0] rfl hr
    · have hr := ifT hc hr
      clear hc
      refine j_iload_n (q := 2) (pc' := 21) C dX6_placeOf_20 rfl rfl rfl ?_
      have hr := ezs1 _ (Option.some.inj hr).symm
      subst hr
      have hr := elL rzo2
      have hr := Option.some.inj hr
      subst hr
      exact j_iret C hq hret dX6_placeOf_21
def m_X6_fillChain (ce : Ce) (this : Nat) (p1 : Nat) : Option (Int32 × Ce) :=
  (gI ce 4 1 this).bind fun zx1 =>
  (
    if zx1 ≤ 0 then
      some (-1 : Int32)
    else
      some (0 : Int32)
  ).bind fun (zj2 : Int32) =>
  (it (fun (zs3 : (Int32 × Int32) × Ce) =>
    if zs3.1.2 = (-1 : Int32) then
      some (Sum.inr (zs3.1.1, zs3.2))
    else
      (alen zs3.2 p1).bind fun zx6 =>
      if zx6 ≤ zs3.1.1 then
        some (Sum.inr (zs3.1.1, zs3.2))
      else
        (rcv zs3.2 4 this).bind fun zz7 =>
        (m_X6_part zs3.2 this zs3.1.2 (0 : Int32)).bind fun zx8 =>
        (sI zs3.2 p1 zs3.1.1 zx8).bind fun zc9 =>
        (rcv zc9 4 this).bind fun zz10 =>
        (m_X6_part zc9 this zs3.1.2 (3 : Int32)).bind fun zx11 =>
        (rcv zc9 4 this).bind fun zz12 =>
        (m_X6_placeOf zc9 this zx11).bind fun zx13 =>
        some (Sum.inl (((zs3.1.1 + (1 : Int32)), zx13), zc9))
  ) FU (((0 : Int32), zj2), ce)).bind fun (zo4 : Int32 × Ce) =>
  some (zo4.1, zo4.2)
set_option maxRecDepth 100000 in
set_option maxHeartbeats 4000000 in
theorem c_X6_fillChain {nx : Nat} {ce : Ce} {this : Nat} {p1 : Nat} {q : Int32 × Ce} (hr : m_X6_fillChain ce this p1 = some q) : Ct yX6_fillChain cX6_fillChain 4 (some .int) 2 45 0 0 [.ref this, .ref p1] nx ce (some (.int q.1)) q.2 := by
  unfold m_X6_fillChain at hr
  refine ct_of (by decide) (Nat.le_of_ble_eq_true rfl) ?_
  intro G C hq hret hin
  show Jd G 0 0 nx ce 0 [(0, .ref this), (1, .ref p1)] []
  refine j_iconst (v := 0) (pc' := 1) C dX6_fillChain_0 kI_0 rfl ?_
  refine j_istore_n (lv' := [(2, .int (0 : Int32)), (0, .ref this), (1, .ref p1)]) (pc' := 2) C dX6_fillChain_1 rfl (by decide) rfl rfl ?_
  refine j_aload_n (q := 1) (pc' := 3) C dX6_fillChain_2 rfl rfl rfl ?_
  obtain ⟨zx1, hzx1, hr⟩ := ob hr
  refine j_getI (pc' := 6) C dX6_fillChain_3 fl_X6_15 hzx1 rfl ?_
  obtain ⟨zj2, hzj2, rzj2⟩ := ob hr
  have kzj2 : Jd G 0 0 nx ce 14 [(0, .ref this), (1, .ref p1), (2, .int (0 : Int32))] [.int zj2] := by
    have hr := rzj2
    refine j_istore_n (lv' := [(3, .int zj2), (0, .ref this), (1, .ref p1), (2, .int (0 : Int32))]) (pc' := 15) C dX6_fillChain_14 rfl (by decide) rfl rfl ?_
    obtain ⟨zo4, hzo4, rzo4⟩ := ob hr
    have kzo4 : Jd G 0 0 nx zo4.2 52 [(2, .int zo4.1)] [] := by
      have hr := rzo4
      refine j_iload_n (q := 0) (pc' := 53) C dX6_fillChain_52 rfl rfl rfl ?_
      have hr := Option.some.inj hr
      subst hr
      exact j_iret C hq hret dX6_fillChain_53
    refine j_lv (lv' := [(0, .ref this), (1, .ref p1), (2, .int (0 : Int32)), (3, .int zj2)]) [1, 2, 3, 0] rfl ?_
    refine it_J (J := (fun (zs3 : (Int32 × Int32) × Ce) => Jd G 0 0 nx zs3.2 15 [(0, .ref this), (1, .ref p1), (2, .int zs3.1.1), (3, .int zs3.1.2)] [])) ?_ hzo4
    clear hzo4
    intro zs3 zr5 hr izs3 ezs3
    refine j_iload_n (q := 3) (pc' := 16) C dX6_fillChain_15 rfl rfl rfl ?_
    refine j_iconst (v := -1) (pc' := 17) C dX6_fillChain_16 kI_m1 rfl ?_
    refine j_ic_eq (tgt := 52) (pc' := 20) C dX6_fillChain_17 rfl rfl (fun hc => ?_) (fun hc => ?_)
    · have hr := ifT hc hr
      clear hc
      have hr := ezs3 _ (Option.some.inj hr).symm
      subst hr
      exact j_lv [2] rfl kzo4
    · have hr := ifF hc hr
      clear hc
      refine j_iload_n (q := 2) (pc' := 21) C dX6_fillChain_20 rfl rfl rfl ?_
      refine j_aload_n (q := 1) (pc' := 22) C dX6_fillChain_21 rfl rfl rfl ?_
      obtain ⟨zx6, hzx6, hr⟩ := ob hr
      refine j_alen (pc' := 23) C dX6_fillChain_22 hzx6 rfl ?_
      refine j_ic_ge (tgt := 52) (pc' := 26) C dX6_fillChain_23 rfl rfl (fun hc => ?_) (fun hc => ?_)
      · have hr := ifT hc hr
        clear hc
        have hr := ezs3 _ (Option.some.inj hr).symm
        subst hr
        exact j_lv [2] rfl kzo4
      · have hr := ifF hc hr
        clear hc
        refine j_aload_n (q := 1) (pc' := 27) C dX6_fillChain_26 rfl rfl rfl ?_
        refine j_iload_n (q := 2) (pc' := 28) C dX6_fillChain_27 rfl rfl rfl ?_
        refine j_aload_n (q := 0) (pc' := 29) C dX6_fillChain_28 rfl rfl rfl ?_
        refine j_iload_n (q := 3) (pc' := 30) C dX6_fillChain_29 rfl rfl rfl ?_
        refine j_iconst (v := 0) (pc' := 31) C dX6_fillChain_30 kI_0 rfl ?_
        obtain ⟨zz7, hzz7, hr⟩ := ob hr
        obtain ⟨zx8, hzx8, hr⟩ := ob hr
        obtain ⟨fhzz7, hzz7⟩ := rcv_sp hzz7
        refine j_callV (ci := 4) (As := [.int zs3.1.2, .int (0 : Int32)]) (rest := [.int zs3.1.1, .ref p1]) (st1 := [.int zx8, .int zs3.1.1, .ref p1]) (pc' := 34) C ⟨wm_918, wm_919⟩ rfl hzz7 (c_X6_part (nx := nx) hzx8) yw_X6_part wm_917 rfl rfl (Nat.le_of_ble_eq_true rfl) ⟨by decide, by decide⟩ dX6_fillChain_31 rfl rfl ?_
        obtain ⟨zc9, hzc9, hr⟩ := ob hr
        refine j_iast (pc' := 35) C dX6_fillChain_34 hzc9 rfl ?_
        refine j_iinc (q := 2) (v := 1) (lv' := [(2, .int (zs3.1.1 + (1 : Int32))), (0, .ref this), (1, .ref p1), (3, .int zs3.1.2)]) (pc' := 38) C dX6_fillChain_35 rfl kI_1 (by decide) rfl rfl ?_
        refine j_aload_n (q := 1) (pc' := 39) C dX6_fillChain_38 rfl rfl rfl ?_
        refine j_aload_n (q := 1) (pc' := 40) C dX6_fillChain_39 rfl rfl rfl ?_
        refine j_iload_n (q := 3) (pc' := 41) C dX6_fillChain_40 rfl rfl rfl ?_
        refine j_iconst (v := 3) (pc' := 42) C dX6_fillChain_41 kI_3 rfl ?_
        obtain ⟨zz10, hzz10, hr⟩ := ob hr
        obtain ⟨zx11, hzx11, hr⟩ := ob hr
        obtain ⟨fhzz10, hzz10⟩ := rcv_sp hzz10
        refine j_callV (ci := 4) (As := [.int zs3.1.2, .int (3 : Int32)]) (rest := [.ref this]) (st1 := [.int zx11, .ref this]) (pc' := 45) C ⟨wm_918, wm_919⟩ rfl hzz10 (c_X6_part (nx := nx) hzx11) yw_X6_part wm_917 rfl rfl (Nat.le_of_ble_eq_true rfl) ⟨by decide, by decide⟩ dX6_fillChain_42 rfl rfl ?_
        obtain ⟨zz12, hzz12, hr⟩ := ob hr
        obtain ⟨zx13, hzx13, hr⟩ := ob hr
        obtain ⟨fhzz12, hzz12⟩ := rcv_sp hzz12
        refine j_callV (ci := 4) (As := [.int zx11]) (rest := []) (st1 := [.int zx13]) (pc' := 48) C ⟨wm_1115, wm_29⟩ rfl hzz12 (c_X6_placeOf (nx := nx) hzx13) yw_X6_placeOf wm_1113 rfl rfl (Nat.le_of_ble_eq_true rfl) ⟨by decide, by decide⟩ dX6_fillChain_45 rfl rfl ?_
        refine j_istore_n (lv' := [(3, .int zx13), (2, .int (zs3.1.1 + (1 : Int32))), (0, .ref this), (1, .ref p1)]) (pc' := 49) C dX6_fillChain_48 rfl (by decide) rfl rfl ?_
        refine j_goto (tgt := 15) C dX6_fillChain_49 rfl ?_
        have hr := izs3 (((zs3.1.1 + (1 : Int32)), zx13), zc9) (Option.some.inj hr).symm
        exact j_lv [2, 3, 1, 0] rfl hr
  clear rzj2
  have hr := hzj2
  clear hzj2
  refine j_if_le (tgt := 13) (pc' := 9) C dX6_fillChain_6 rfl rfl (fun hc => ?_) (fun hc => ?_)
  · have hr := ifT hc hr
    clear hc
    refine j_iconst (v := -1) (pc' := 14) C dX6_fillChain_13 kI_m1 rfl ?_
    have hr := Option.some.inj hr
    subst hr
    exact j_lv [1, 2, 0] rfl kzj2
  · have hr := ifF hc hr
    clear hc
    refine j_iconst (v := 0) (pc' := 10) C dX6_fillChain_9 kI_0 rfl ?_
    refine j_goto (tgt := 14) C dX6_fillChain_10 rfl ?_
    have hr := Option.some.inj hr
    subst hr
    exact j_lv [1, 2, 0] rfl kzj2
def m_X7_init (nx : Nat) (ce : Ce) (this : Nat) : Option (Unit × Ce × Nat × Nat) :=
  (nwa (301 : Int32)).bind fun zk3 =>
  adcK 1 zk3 fun _ =>
  (some (gx_up ce nx (.inl (.int, zk3, .inl (fun _ => 0))))).bind fun zc2 =>
  (pV zc2 5 0 this (.ref nx)).bind fun zc4 =>
  (nwa (301 : Int32)).bind fun zk7 =>
  adcK 1 zk7 fun _ =>
  (some (gx_up zc4 (nx + 1) (.inl (.int, zk7, .inl (fun _ => 0))))).bind fun zc6 =>
  (pV zc6 5 1 this (.ref (nx + 1))).bind fun zc8 =>
  (nwa (301 : Int32)).bind fun zk11 =>
  adcK 1 zk11 fun _ =>
  (some (gx_up zc8 ((nx + 1) + 1) (.inl (.int, zk11, .inl (fun _ => 0))))).bind fun zc10 =>
  (pV zc10 5 2 this (.ref ((nx + 1) + 1))).bind fun zc12 =>
  (nwa (4 : Int32)).bind fun zk15 =>
  adcK 1 zk15 fun _ =>
  (some (gx_up zc12 (((nx + 1) + 1) + 1) (.inl (.long, zk15, .inr (.inl (fun _ => 0)))))).bind fun zc14 =>
  (pV zc14 5 11 this (.ref (((nx + 1) + 1) + 1))).bind fun zc16 =>
  (nwa (24 : Int32)).bind fun zk19 =>
  adcK 1 zk19 fun _ =>
  (some (gx_up zc16 ((((nx + 1) + 1) + 1) + 1) (.inl (.long, zk19, .inr (.inl (fun _ => 0)))))).bind fun zc18 =>
  (pV zc18 5 13 this (.ref ((((nx + 1) + 1) + 1) + 1))).bind fun zc20 =>
  some ((), zc20, 0, 0)
set_option maxRecDepth 100000 in
set_option maxHeartbeats 4000000 in
theorem c_X7_init {nx : Nat} {ce : Ce} {this : Nat} {q : Unit × Ce × Nat × Nat} (hr : m_X7_init nx ce this = some q) : Ct yX7_init cX7_init 1 none 1 20 q.2.2.1 q.2.2.2 [.ref this] nx ce none q.2.1 := by
  unfold m_X7_init at hr
  refine ct_of (by decide) (Nat.le_of_ble_eq_true rfl) ?_
  intro G C hq hret hin
  show Jd G q.2.2.1 q.2.2.2 nx ce 0 [(0, .ref this)] []
  refine j_aload_n (q := 0) (pc' := 1) C dX7_init_0 rfl rfl rfl ?_
  refine j_objInit (pc' := 4) C dX7_init_1 wm_164 wm_157 wm_oi ⟨by decide, by decide⟩ (Nat.le_of_ble_eq_true rfl) rfl ?_
  refine j_aload_n (q := 0) (pc' := 5) C dX7_init_4 rfl rfl rfl ?_
  refine j_sipush (v := 301) (pc' := 8) C dX7_init_5 kS_301 rfl ?_
  obtain ⟨zk3, hzk3, hr⟩ := ob hr
  obtain ⟨nzk3, ezk3, bzk3⟩ := nwa_sp hzk3
  obtain ⟨zt1, hr, azt1, bzt1, czt1, dzt1⟩ := adcK_s hr
  obtain ⟨zc2, hzc2, hr⟩ := ob hr
  have hzc2 := Option.some.inj hzc2
  refine j_k (kc' := zt1.2.2.1 + 1) (ks' := zt1.2.2.2 + zk3) (by omega) (by omega) ?_
  refine j_newa (ty := .int) (t0 := 0) (a0 := (zk3, .inl (fun _ => 0))) (N := zk3) (pc' := 10) C dX7_init_8 rfl (fun _ => rfl) (fun _ _ => rfl) wm_214 (fun _ => rfl) nzk3 ezk3 (Nat.le_trans (Nat.mul_le_mul_left _ (by decide)) bzk3) rfl ?_
  rw [hzc2]
  obtain ⟨zc4, hzc4, hr⟩ := ob hr
  refine j_putF (pc' := 13) C hin dX7_init_10 fw_X7_9 rfl rfl hzc4 rfl ?_
  refine j_aload_n (q := 0) (pc' := 14) C dX7_init_13 rfl rfl rfl ?_
  refine j_sipush (v := 301) (pc' := 17) C dX7_init_14 kS_301 rfl ?_
  obtain ⟨zk7, hzk7, hr⟩ := ob hr
  obtain ⟨nzk7, ezk7, bzk7⟩ := nwa_sp hzk7
  obtain ⟨zt5, hr, azt5, bzt5, czt5, dzt5⟩ := adcK_s hr
  obtain ⟨zc6, hzc6, hr⟩ := ob hr
  have hzc6 := Option.some.inj hzc6
  refine j_k (kc' := zt5.2.2.1 + 1) (ks' := zt5.2.2.2 + zk7) (by omega) (by omega) ?_
  refine j_newa (ty := .int) (t0 := 0) (a0 := (zk7, .inl (fun _ => 0))) (N := zk7) (pc' := 19) C dX7_init_17 rfl (fun _ => rfl) (fun _ _ => rfl) wm_214 (fun _ => rfl) nzk7 ezk7 (Nat.le_trans (Nat.mul_le_mul_left _ (by decide)) bzk7) rfl ?_
  rw [hzc6]
  obtain ⟨zc8, hzc8, hr⟩ := ob hr
  refine j_putF (pc' := 22) C hin dX7_init_19 fw_X7_15 rfl rfl hzc8 rfl ?_
  refine j_aload_n (q := 0) (pc' := 23) C dX7_init_22 rfl rfl rfl ?_
  refine j_sipush (v := 301) (pc' := 26) C dX7_init_23 kS_301 rfl ?_
  obtain ⟨zk11, hzk11, hr⟩ := ob hr
  obtain ⟨nzk11, ezk11, bzk11⟩ := nwa_sp hzk11
  obtain ⟨zt9, hr, azt9, bzt9, czt9, dzt9⟩ := adcK_s hr
  obtain ⟨zc10, hzc10, hr⟩ := ob hr
  have hzc10 := Option.some.inj hzc10
  refine j_k (kc' := zt9.2.2.1 + 1) (ks' := zt9.2.2.2 + zk11) (by omega) (by omega) ?_
  refine j_newa (ty := .int) (t0 := 0) (a0 := (zk11, .inl (fun _ => 0))) (N := zk11) (pc' := 28) C dX7_init_26 rfl (fun _ => rfl) (fun _ _ => rfl) wm_214 (fun _ => rfl) nzk11 ezk11 (Nat.le_trans (Nat.mul_le_mul_left _ (by decide)) bzk11) rfl ?_
  rw [hzc10]
  obtain ⟨zc12, hzc12, hr⟩ := ob hr
  refine j_putF (pc' := 31) C hin dX7_init_28 fw_X7_18 rfl rfl hzc12 rfl ?_
  refine j_aload_n (q := 0) (pc' := 32) C dX7_init_31 rfl rfl rfl ?_
  refine j_iconst (v := 4) (pc' := 33) C dX7_init_32 kI_4 rfl ?_
  obtain ⟨zk15, hzk15, hr⟩ := ob hr
  obtain ⟨nzk15, ezk15, bzk15⟩ := nwa_sp hzk15
  obtain ⟨zt13, hr, azt13, bzt13, czt13, dzt13⟩ := adcK_s hr
  obtain ⟨zc14, hzc14, hr⟩ := ob hr
  have hzc14 := Option.some.inj hzc14
  refine j_k (kc' := zt13.2.2.1 + 1) (ks' := zt13.2.2.2 + zk15) (by omega) (by omega) ?_
  refine j_newa (ty := .long) (t0 := 1) (a0 := (zk15, .inr (.inl (fun _ => 0)))) (N := zk15) (pc' := 35) C dX7_init_33 rfl (fun _ => rfl) (fun _ _ => rfl) wm_215 (fun _ => rfl) nzk15 ezk15 (Nat.le_trans (Nat.mul_le_mul_left _ (by decide)) bzk15) rfl ?_
  rw [hzc14]
  obtain ⟨zc16, hzc16, hr⟩ := ob hr
  refine j_putF (pc' := 38) C hin dX7_init_35 fw_X7_21 rfl rfl hzc16 rfl ?_
  refine j_aload_n (q := 0) (pc' := 39) C dX7_init_38 rfl rfl rfl ?_
  refine j_bipush (v := 24) (pc' := 41) C dX7_init_39 kB_24 rfl ?_
  obtain ⟨zk19, hzk19, hr⟩ := ob hr
  obtain ⟨nzk19, ezk19, bzk19⟩ := nwa_sp hzk19
  obtain ⟨zt17, hr, azt17, bzt17, czt17, dzt17⟩ := adcK_s hr
  obtain ⟨zc18, hzc18, hr⟩ := ob hr
  have hzc18 := Option.some.inj hzc18
  refine j_k (kc' := zt17.2.2.1 + 1) (ks' := zt17.2.2.2 + zk19) (by omega) (by omega) ?_
  refine j_newa (ty := .long) (t0 := 1) (a0 := (zk19, .inr (.inl (fun _ => 0)))) (N := zk19) (pc' := 43) C dX7_init_41 rfl (fun _ => rfl) (fun _ _ => rfl) wm_215 (fun _ => rfl) nzk19 ezk19 (Nat.le_trans (Nat.mul_le_mul_left _ (by decide)) bzk19) rfl ?_
  rw [hzc18]
  obtain ⟨zc20, hzc20, hr⟩ := ob hr
  refine j_putF (pc' := 46) C hin dX7_init_43 fw_X7_25 rfl rfl hzc20 rfl ?_
  obtain ⟨azf21, bzf22, czf23, dzf24⟩ := some4 hr
  refine j_k (kc' := 0) (ks' := 0) (by omega) (by omega) ?_
  rw [show nx + q.2.2.1 = (((((nx + 1) + 1) + 1) + 1) + 1) by omega, (bzt1.trans (bzt5.trans (bzt9.trans (bzt13.trans (bzt17.trans bzf22)))))] at hq
  exact j_vret C hq hret dX7_init_46
def m_J7_fill_d0a16 (ce : Ce) (p0 : Nat) (p1 : Int64) : Option (Unit × Ce) :=
  (alen ce p0).bind fun zx1 =>
  (it (fun (zs2 : Int32 × Ce) =>
    if zx1 ≤ zs2.1 then
      some (Sum.inr ((), zs2.2))
    else
      (sL zs2.2 p0 zs2.1 p1).bind fun zc5 =>
      some (Sum.inl ((zs2.1 + (1 : Int32)), zc5))
  ) FU ((0 : Int32), ce)).bind fun (zo3 : Unit × Ce) =>
  some ((), zo3.2)
set_option maxRecDepth 100000 in
set_option maxHeartbeats 4000000 in
theorem c_J7_fill_d0a16 {nx : Nat} {ce : Ce} {p0 : Nat} {p1 : Int64} {q : Unit × Ce} (hr : m_J7_fill_d0a16 ce p0 p1 = some q) : Ct yJ7_fill_d0a16 cJ7_fill_d0a16 5 none 0 0 0 0 [.ref p0, .long p1] nx ce none q.2 := by
  unfold m_J7_fill_d0a16 at hr
  refine ct_of (by decide) (Nat.le_of_ble_eq_true rfl) ?_
  intro G C hq hret hin
  show Jd G 0 0 nx ce 0 [(0, .ref p0), (1, .long p1)] []
  refine j_iconst (v := 0) (pc' := 1) C dJ7_fill_d0a16_0 kI_0 rfl ?_
  refine j_istore_n (lv' := [(3, .int (0 : Int32)), (0, .ref p0), (1, .long p1)]) (pc' := 2) C dJ7_fill_d0a16_1 rfl (by decide) rfl rfl ?_
  refine j_aload_n (q := 1) (pc' := 3) C dJ7_fill_d0a16_2 rfl rfl rfl ?_
  obtain ⟨zx1, hzx1, hr⟩ := ob hr
  refine j_alen (pc' := 4) C dJ7_fill_d0a16_3 hzx1 rfl ?_
  refine j_istore (lv' := [(4, .int zx1), (3, .int (0 : Int32)), (0, .ref p0), (1, .long p1)]) (pc' := 6) C dJ7_fill_d0a16_4 (by decide) rfl rfl ?_
  obtain ⟨zo3, hzo3, rzo3⟩ := ob hr
  have kzo3 : Jd G 0 0 nx zo3.2 22 [] [] := by
    have hr := rzo3
    have hr := Option.some.inj hr
    subst hr
    exact j_vret C hq hret dJ7_fill_d0a16_22
  refine j_lv (lv' := [(0, .ref p0), (1, .long p1), (3, .int (0 : Int32)), (4, .int zx1)]) [2, 3, 1, 0] rfl ?_
  refine it_J (J := (fun (zs2 : Int32 × Ce) => Jd G 0 0 nx zs2.2 6 [(0, .ref p0), (1, .long p1), (3, .int zs2.1), (4, .int zx1)] [])) ?_ hzo3
  clear hzo3
  intro zs2 zr4 hr izs2 ezs2
  refine j_iload_n (q := 2) (pc' := 7) C dJ7_fill_d0a16_6 rfl rfl rfl ?_
  refine j_iload (q := 3) (pc' := 9) C dJ7_fill_d0a16_7 rfl rfl ?_
  refine j_ic_ge (tgt := 22) (pc' := 12) C dJ7_fill_d0a16_9 rfl rfl (fun hc => ?_) (fun hc => ?_)
  · have hr := ifT hc hr
    clear hc
    have hr := ezs2 _ (Option.some.inj hr).symm
    subst hr
    exact j_lv [] rfl kzo3
  · have hr := ifF hc hr
    clear hc
    refine j_aload_n (q := 0) (pc' := 13) C dJ7_fill_d0a16_12 rfl rfl rfl ?_
    refine j_iload_n (q := 2) (pc' := 14) C dJ7_fill_d0a16_13 rfl rfl rfl ?_
    refine j_lload_n (q := 1) (pc' := 15) C dJ7_fill_d0a16_14 rfl rfl rfl ?_
    obtain ⟨zc5, hzc5, hr⟩ := ob hr
    refine j_last (pc' := 16) C dJ7_fill_d0a16_15 hzc5 rfl ?_
    refine j_iinc (q := 2) (v := 1) (lv' := [(3, .int (zs2.1 + (1 : Int32))), (0, .ref p0), (1, .long p1), (4, .int zx1)]) (pc' := 19) C dJ7_fill_d0a16_16 rfl kI_1 (by decide) rfl rfl ?_
    refine j_goto (tgt := 6) C dJ7_fill_d0a16_19 rfl ?_
    have hr := izs2 ((zs2.1 + (1 : Int32)), zc5) (Option.some.inj hr).symm
    exact j_lv [1, 2, 0, 3] rfl hr
def m_X7_forget (ce : Ce) (this : Nat) : Option (Unit × Ce) :=
  (pV ce 5 3 this (.int (0 : Int32))).bind fun zc1 =>
  (pV zc1 5 4 this (.int (0 : Int32))).bind fun zc2 =>
  (pV zc2 5 5 this (.int (0 : Int32))).bind fun zc3 =>
  (pV zc3 5 6 this (.int (-1 : Int32))).bind fun zc4 =>
  (pV zc4 5 7 this (.int (3 : Int32))).bind fun zc5 =>
  (pZ zc5 5 8 this (0 : Int32)).bind fun zc6 =>
  (pV zc6 5 9 this (.long (1 : Int64))).bind fun zc7 =>
  (pV zc7 5 10 this (.int (0 : Int32))).bind fun zc8 =>
  (gA zc8 5 11 this).bind fun zx9 =>
  (m_J7_fill_d0a16 zc8 zx9 (0 : Int64)).bind fun zq10 =>
  (pV zq10.2 5 12 this (.int (0 : Int32))).bind fun zc11 =>
  (it (fun (zs12 : Int32 × Ce) =>
    (gA zs12.2 5 13 this).bind fun zx16 =>
    (alen zs12.2 zx16).bind fun zx17 =>
    if zx17 ≤ zs12.1 then
      some (Sum.inr ((), zs12.2))
    else
      (nz (4 : Int32)).bind fun zz18 =>
      if (6 : Int32) ≤ (zs12.1 / (4 : Int32)) then
        some (Sum.inr ((), zs12.2))
      else
        (gA zs12.2 5 13 this).bind fun zx19 =>
        (nz (4 : Int32)).bind fun zz20 =>
        (aLS (zs12.1 / (4 : Int32))).bind fun zx21 =>
        (sL zs12.2 zx19 zs12.1 zx21).bind fun zc22 =>
        some (Sum.inl ((zs12.1 + (1 : Int32)), zc22))
  ) FU ((0 : Int32), zc11)).bind fun (zo13 : Unit × Ce) =>
  (pV zo13.2 5 14 this (.int (-1 : Int32))).bind fun zc15 =>
  some ((), zc15)
set_option maxRecDepth 100000 in
set_option maxHeartbeats 4000000 in
theorem c_X7_forget {nx : Nat} {ce : Ce} {this : Nat} {q : Unit × Ce} (hr : m_X7_forget ce this = some q) : Ct yX7_forget cX7_forget 2 none 1 24 0 0 [.ref this] nx ce none q.2 := by
  unfold m_X7_forget at hr
  refine ct_of (by decide) (Nat.le_of_ble_eq_true rfl) ?_
  intro G C hq hret hin
  show Jd G 0 0 nx ce 0 [(0, .ref this)] []
  refine j_aload_n (q := 0) (pc' := 1) C dX7_forget_0 rfl rfl rfl ?_
  refine j_iconst (v := 0) (pc' := 2) C dX7_forget_1 kI_0 rfl ?_
  obtain ⟨zc1, hzc1, hr⟩ := ob hr
  refine j_put (pc' := 5) C dX7_forget_2 fw_X7_28 rfl rfl hzc1 rfl ?_
  refine j_aload_n (q := 0) (pc' := 6) C dX7_forget_5 rfl rfl rfl ?_
  refine j_iconst (v := 0) (pc' := 7) C dX7_forget_6 kI_0 rfl ?_
  obtain ⟨zc2, hzc2, hr⟩ := ob hr
  refine j_put (pc' := 10) C dX7_forget_7 fw_X7_32 rfl rfl hzc2 rfl ?_
  refine j_aload_n (q := 0) (pc' := 11) C dX7_forget_10 rfl rfl rfl ?_
  refine j_iconst (v := 0) (pc' := 12) C dX7_forget_11 kI_0 rfl ?_
  obtain ⟨zc3, hzc3, hr⟩ := ob hr
  refine j_put (pc' := 15) C dX7_forget_12 fw_X7_35 rfl rfl hzc3 rfl ?_
  refine j_aload_n (q := 0) (pc' := 16) C dX7_forget_15 rfl rfl rfl ?_
  refine j_iconst (v := -1) (pc' := 17) C dX7_forget_16 kI_m1 rfl ?_
  obtain ⟨zc4, hzc4, hr⟩ := ob hr
  refine j_put (pc' := 20) C dX7_forget_17 fw_X7_38 rfl rfl hzc4 rfl ?_
  refine j_aload_n (q := 0) (pc' := 21) C dX7_forget_20 rfl rfl rfl ?_
  refine j_iconst (v := 3) (pc' := 22) C dX7_forget_21 kI_3 rfl ?_
  obtain ⟨zc5, hzc5, hr⟩ := ob hr
  refine j_put (pc' := 25) C dX7_forget_22 fw_X7_41 rfl rfl hzc5 rfl ?_
  refine j_aload_n (q := 0) (pc' := 26) C dX7_forget_25 rfl rfl rfl ?_
  refine j_iconst (v := 0) (pc' := 27) C dX7_forget_26 kI_0 rfl ?_
  obtain ⟨zc6, hzc6, hr⟩ := ob hr
  obtain ⟨hzc6n, hzc6f, hzc6⟩ := pZ_sp hzc6
  refine j_put (pc' := 30) C dX7_forget_27 fw_X7_44 hzc6n hzc6f hzc6 rfl ?_
  refine j_aload_n (q := 0) (pc' := 31) C dX7_forget_30 rfl rfl rfl ?_
  refine j_lconst (v := 1) (pc' := 32) C dX7_forget_31 kL_1 rfl ?_
  obtain ⟨zc7, hzc7, hr⟩ := ob hr
  refine j_put (pc' := 35) C dX7_forget_32 fw_X7_48 rfl rfl hzc7 rfl ?_
  refine j_aload_n (q := 0) (pc' := 36) C dX7_forget_35 rfl rfl rfl ?_
  refine j_iconst (v := 0) (pc' := 37) C dX7_forget_36 kI_0 rfl ?_
  obtain ⟨zc8, hzc8, hr⟩ := ob hr
  refine j_put (pc' := 40) C dX7_forget_37 fw_X7_52 rfl rfl hzc8 rfl ?_
  refine j_aload_n (q := 0) (pc' := 41) C dX7_forget_40 rfl rfl rfl ?_
  obtain ⟨zx9, hzx9, hr⟩ := ob hr
  refine j_getA (pc' := 44) C dX7_forget_41 fl_X7_21 hzx9 rfl ?_
  refine j_lconst (v := 0) (pc' := 45) C dX7_forget_44 kL_0 rfl ?_
  obtain ⟨zq10, hzq10, hr⟩ := ob hr
  refine j_callS (As := [.ref zx9, .long (0 : Int64)]) (rest := []) (st1 := []) (pc' := 48) C wm_488 (c_J7_fill_d0a16 (nx := nx) hzq10) yw_J7_fill_d0a16 wm_487 rfl rfl (Nat.le_of_ble_eq_true rfl) ⟨by decide, by decide⟩ dX7_forget_45 rfl rfl ?_
  refine j_aload_n (q := 0) (pc' := 49) C dX7_forget_48 rfl rfl rfl ?_
  refine j_iconst (v := 0) (pc' := 50) C dX7_forget_49 kI_0 rfl ?_
  obtain ⟨zc11, hzc11, hr⟩ := ob hr
  refine j_put (pc' := 53) C dX7_forget_50 fw_X7_61 rfl rfl hzc11 rfl ?_
  refine j_iconst (v := 0) (pc' := 54) C dX7_forget_53 kI_0 rfl ?_
  refine j_istore_n (lv' := [(1, .int (0 : Int32)), (0, .ref this)]) (pc' := 55) C dX7_forget_54 rfl (by decide) rfl rfl ?_
  obtain ⟨zo13, hzo13, rzo13⟩ := ob hr
  have kzo13 : Jd G 0 0 nx zo13.2 93 [(0, .ref this)] [] := by
    have hr := rzo13
    refine j_aload_n (q := 0) (pc' := 94) C dX7_forget_93 rfl rfl rfl ?_
    refine j_iconst (v := -1) (pc' := 95) C dX7_forget_94 kI_m1 rfl ?_
    obtain ⟨zc15, hzc15, hr⟩ := ob hr
    refine j_put (pc' := 98) C dX7_forget_95 fw_X7_67 rfl rfl hzc15 rfl ?_
    have hr := Option.some.inj hr
    subst hr
    exact j_vret C hq hret dX7_forget_98
  refine j_lv (lv' := [(0, .ref this), (1, .int (0 : Int32))]) [1, 0] rfl ?_
  refine it_J (J := (fun (zs12 : Int32 × Ce) => Jd G 0 0 nx zs12.2 55 [(0, .ref this), (1, .int zs12.1)] [])) ?_ hzo13
  clear hzo13
  intro zs12 zr14 hr izs12 ezs12
  refine j_iload_n (q := 1) (pc' := 56) C dX7_forget_55 rfl rfl rfl ?_
  refine j_aload_n (q := 0) (pc' := 57) C dX7_forget_56 rfl rfl rfl ?_
  obtain ⟨zx16, hzx16, hr⟩ := ob hr
  refine j_getA (pc' := 60) C dX7_forget_57 fl_X7_25 hzx16 rfl ?_
  obtain ⟨zx17, hzx17, hr⟩ := ob hr
  refine j_alen (pc' := 61) C dX7_forget_60 hzx17 rfl ?_
  refine j_ic_ge (tgt := 93) (pc' := 64) C dX7_forget_61 rfl rfl (fun hc => ?_) (fun hc => ?_)
  · have hr := ifT hc hr
    clear hc
    have hr := ezs12 _ (Option.some.inj hr).symm
    subst hr
    exact j_lv [0] rfl kzo13
  · have hr := ifF hc hr
    clear hc
    refine j_iload_n (q := 1) (pc' := 65) C dX7_forget_64 rfl rfl rfl ?_
    refine j_iconst (v := 4) (pc' := 66) C dX7_forget_65 kI_4 rfl ?_
    obtain ⟨zz18, hzz18, hr⟩ := ob hr
    refine j_idiv (pc' := 67) C dX7_forget_66 hzz18 rfl ?_
    refine j_lsR (pc' := 70) C dX7_forget_67 rfl rfl ?_
    refine j_lslen (pc' := 71) C dX7_forget_70 rfl ?_
    refine j_ic_ge (tgt := 93) (pc' := 74) C dX7_forget_71 rfl rfl (fun hc => ?_) (fun hc => ?_)
    · have hr := ifT hc hr
      clear hc
      have hr := ezs12 _ (Option.some.inj hr).symm
      subst hr
      exact j_lv [0] rfl kzo13
    · have hr := ifF hc hr
      clear hc
      refine j_aload_n (q := 0) (pc' := 75) C dX7_forget_74 rfl rfl rfl ?_
      obtain ⟨zx19, hzx19, hr⟩ := ob hr
      refine j_getA (pc' := 78) C dX7_forget_75 fl_X7_25 hzx19 rfl ?_
      refine j_iload_n (q := 1) (pc' := 79) C dX7_forget_78 rfl rfl rfl ?_
      refine j_lsR (pc' := 82) C dX7_forget_79 rfl rfl ?_
      refine j_iload_n (q := 1) (pc' := 83) C dX7_forget_82 rfl rfl rfl ?_
      refine j_iconst (v := 4) (pc' := 84) C dX7_forget_83 kI_4 rfl ?_
      obtain ⟨zz20, hzz20, hr⟩ := ob hr
      refine j_idiv (pc' := 85) C dX7_forget_84 hzz20 rfl ?_
      obtain ⟨zx21, hzx21, hr⟩ := ob hr
      refine j_lsld (pc' := 86) C dX7_forget_85 hzx21 rfl ?_
      obtain ⟨zc22, hzc22, hr⟩ := ob hr
      refine j_last (pc' := 87) C dX7_forget_86 hzc22 rfl ?_
      refine j_iinc (q := 1) (v := 1) (lv' := [(1, .int (zs12.1 + (1 : Int32))), (0, .ref this)]) (pc' := 90) C dX7_forget_87 rfl kI_1 (by decide) rfl rfl ?_
      refine j_goto (tgt := 55) C dX7_forget_90 rfl ?_
      have hr := izs12 ((zs12.1 + (1 : Int32)), zc22) (Option.some.inj hr).symm
      exact j_lv [1, 0] rfl hr
def m_X9_has (p0 : Int64) (p1 : Int32) : Option (Int32) :=
  if (lg_cmp ((usr64 p0 p1) &&& (1 : Int64)) (0 : Int64)) = 0 then
    some (0 : Int32)
  else
    some (1 : Int32)
set_option maxRecDepth 100000 in
set_option maxHeartbeats 4000000 in
theorem c_X9_has {nx : Nat} {ce : Ce} {p0 : Int64} {p1 : Int32} {q : Int32} (hr : m_X9_has p0 p1 = some q) : Ct yX9_has cX9_has 3 (some .boolean) 0 0 0 0 [.long p0, .int p1] nx ce (some (.int q)) ce := by
  unfold m_X9_has at hr
  refine ct_of (by decide) (Nat.le_of_ble_eq_true rfl) ?_
  intro G C hq hret hin
  show Jd G 0 0 nx ce 0 [(0, .long p0), (2, .int p1)] []
  refine j_lload_n (q := 0) (pc' := 1) C dX9_has_0 rfl rfl rfl ?_
  refine j_iload_n (q := 1) (pc' := 2) C dX9_has_1 rfl rfl rfl ?_
  refine j_lushr (pc' := 3) C dX9_has_2 rfl ?_
  refine j_lconst (v := 1) (pc' := 4) C dX9_has_3 kL_1 rfl ?_
  refine j_land (pc' := 5) C dX9_has_4 rfl ?_
  refine j_lconst (v := 0) (pc' := 6) C dX9_has_5 kL_0 rfl ?_
  refine j_lcmp (pc' := 7) C dX9_has_6 rfl ?_
  refine j_if_eq (tgt := 14) (pc' := 10) C dX9_has_7 rfl rfl (fun hc => ?_) (fun hc => ?_)
  · have hr := ifT hc hr
    clear hc
    refine j_iconst (v := 0) (pc' := 15) C dX9_has_14 kI_0 rfl ?_
    have hr := Option.some.inj hr
    subst hr
    exact j_zret C hq hret rfl dX9_has_15
  · have hr := ifF hc hr
    clear hc
    refine j_iconst (v := 1) (pc' := 11) C dX9_has_10 kI_1 rfl ?_
    refine j_goto (tgt := 15) C dX9_has_11 rfl ?_
    have hr := Option.some.inj hr
    subst hr
    exact j_zret C hq hret rfl dX9_has_15
def m_J9_max_7cf53 (p0 : Int32) (p1 : Int32) : Option (Int32) :=
  if p0 < p1 then
    some p1
  else
    some p0
set_option maxRecDepth 100000 in
set_option maxHeartbeats 4000000 in
theorem c_J9_max_7cf53 {nx : Nat} {ce : Ce} {p0 : Int32} {p1 : Int32} {q : Int32} (hr : m_J9_max_7cf53 p0 p1 = some q) : Ct yJ9_max_7cf53 cJ9_max_7cf53 2 (some .int) 0 0 0 0 [.int p0, .int p1] nx ce (some (.int q)) ce := by
  unfold m_J9_max_7cf53 at hr
  refine ct_ofF (by decide +kernel) (Nat.le_of_ble_eq_true rfl) ?_
  intro G C hq hret hin
  show Jd G 0 0 nx ce 0 [(0, .int p0), (1, .int p1)] []
  refine j_iload_n (q := 0) (pc' := 1) C dJ9_max_7cf53_0 rfl rfl rfl ?_
  refine j_iload_n (q := 1) (pc' := 2) C dJ9_max_7cf53_1 rfl rfl rfl ?_
  refine j_ic_lt (tgt := 9) (pc' := 5) C dJ9_max_7cf53_2 rfl rfl (fun hc => ?_) (fun hc => ?_)
  · have hr := ifT hc hr
    clear hc
    refine j_iload_n (q := 1) (pc' := 10) C dJ9_max_7cf53_9 rfl rfl rfl ?_
    have hr := Option.some.inj hr
    subst hr
    exact j_iret C hq hret dJ9_max_7cf53_10
  · have hr := ifF hc hr
    clear hc
    refine j_iload_n (q := 0) (pc' := 6) C dJ9_max_7cf53_5 rfl rfl rfl ?_
    refine j_goto (tgt := 10) C dJ9_max_7cf53_6 rfl ?_
    have hr := Option.some.inj hr
    subst hr
    exact j_iret C hq hret dJ9_max_7cf53_10
def m_X7_machine (nx : Nat) (ce : Ce) (this : Nat) : Option (Nat × Ce × Nat × Nat) :=
  (gI ce 5 7 this).bind fun zx1 =>
  (nwa ((4 : Int32) <<< (zx1 &&& 31))).bind fun zk4 =>
  adcK 1 zk4 fun _ =>
  (some (gx_up ce nx (.inl (.int, zk4, .inl (fun _ => 0))))).bind fun zc3 =>
  (it (fun (zs5 : Int32 × Ce) =>
    (alen zs5.2 nx).bind fun zx23 =>
    if zx23 ≤ zs5.1 then
      some (Sum.inr ((), zs5.2))
    else
      (it (fun (zs24 : Int32 × Ce) =>
        (gI zs24.2 5 7 this).bind fun zx27 =>
        if zx27 ≤ zs24.1 then
          some (Sum.inr ((), zs24.2))
        else
          (gA zs24.2 5 13 this).bind fun zx28 =>
          (nz (4 : Int32)).bind fun zz29 =>
          (aL zs24.2 zx28 ((zs24.1 * (4 : Int32)) + (rm32 zs5.1 (4 : Int32)))).bind fun zx30 =>
          (nz (4 : Int32)).bind fun zz31 =>
          (m_X9_has zx30 (zs5.1 / (4 : Int32))).bind fun zx32 =>
          if zx32 = 0 then
            some (Sum.inl ((zs24.1 + (1 : Int32)), zs24.2))
          else
            (aI zs24.2 nx zs5.1).bind fun zx33 =>
            (sI zs24.2 nx zs5.1 (zx33 ||| ((1 : Int32) <<< (zs24.1 &&& 31)))).bind fun zc34 =>
            some (Sum.inl ((zs24.1 + (1 : Int32)), zc34))
      ) FU ((0 : Int32), zs5.2)).bind fun (zo25 : Unit × Ce) =>
      some (Sum.inl ((zs5.1 + (1 : Int32)), zo25.2))
  ) FU ((0 : Int32), zc3)).bind fun (zo6 : Unit × Ce) =>
  adcK 1 7 fun _ =>
  (some (gx_up zo6.2 (nx + 1) (.inr (3, df_X5)))).bind fun zc9 =>
  (gI zc9 5 7 this).bind fun zx10 =>
  (gJ zc9 5 9 this).bind fun zx11 =>
  (gA zc9 5 11 this).bind fun zx12 =>
  (gI zc9 5 10 this).bind fun zx13 =>
  (m_J9_max_7cf53 (1 : Int32) zx13).bind fun zx14 =>
  adcB (m_J7_copyOf_c38d5 ((nx + 1) + 1) zc9 zx12 zx14) fun zq15 =>
  adcB (m_X5_init (((nx + 1) + 1) + zq15.2.2.1) zq15.2.1 (nx + 1) zx10 nx zx11 zq15.1) fun zq17 =>
  some ((nx + 1), zq17.2.1, 0, 0)
set_option maxRecDepth 100000 in
set_option maxHeartbeats 4000000 in
theorem c_X7_machine {nx : Nat} {ce : Ce} {this : Nat} {q : Nat × Ce × Nat × Nat} (hr : m_X7_machine nx ce this = some q) : Ct yX7_machine cX7_machine 4 (some (.object "FencedStates$Machine")) 2 82 q.2.2.1 q.2.2.2 [.ref this] nx ce (some (.ref q.1)) q.2.1 := by
  unfold m_X7_machine at hr
  refine ct_of (by decide) (Nat.le_of_ble_eq_true rfl) ?_
  intro G C hq hret hin
  show Jd G q.2.2.1 q.2.2.2 nx ce 0 [(0, .ref this)] []
  refine j_iconst (v := 4) (pc' := 1) C dX7_machine_0 kI_4 rfl ?_
  refine j_aload_n (q := 0) (pc' := 2) C dX7_machine_1 rfl rfl rfl ?_
  obtain ⟨zx1, hzx1, hr⟩ := ob hr
  refine j_getI (pc' := 5) C dX7_machine_2 fl_X7_41 hzx1 rfl ?_
  refine j_ishl (pc' := 6) C dX7_machine_5 rfl ?_
  obtain ⟨zk4, hzk4, hr⟩ := ob hr
  obtain ⟨nzk4, ezk4, bzk4⟩ := nwa_sp hzk4
  obtain ⟨zt2, hr, azt2, bzt2, czt2, dzt2⟩ := adcK_s hr
  obtain ⟨zc3, hzc3, hr⟩ := ob hr
  have hzc3 := Option.some.inj hzc3
  refine j_k (kc' := zt2.2.2.1 + 1) (ks' := zt2.2.2.2 + zk4) (by omega) (by omega) ?_
  refine j_newa (ty := .int) (t0 := 0) (a0 := (zk4, .inl (fun _ => 0))) (N := zk4) (pc' := 8) C dX7_machine_6 rfl (fun _ => rfl) (fun _ _ => rfl) wm_214 (fun _ => rfl) nzk4 ezk4 (Nat.le_trans (Nat.mul_le_mul_left _ (by decide)) bzk4) rfl ?_
  rw [hzc3]
  refine j_astore_n (lv' := [(1, .ref nx), (0, .ref this)]) (pc' := 9) C dX7_machine_8 rfl (by decide) rfl rfl ?_
  refine j_iconst (v := 0) (pc' := 10) C dX7_machine_9 kI_0 rfl ?_
  refine j_istore_n (lv' := [(2, .int (0 : Int32)), (1, .ref nx), (0, .ref this)]) (pc' := 11) C dX7_machine_10 rfl (by decide) rfl rfl ?_
  obtain ⟨zo6, hzo6, rzo6⟩ := ob hr
  have kzo6 : Jd G zt2.2.2.1 zt2.2.2.2 (nx + 1) zo6.2 69 [(0, .ref this), (1, .ref nx)] [] := by
    have hr := rzo6
    obtain ⟨zt8, hr, azt8, bzt8, czt8, dzt8⟩ := adcK_s hr
    obtain ⟨zc9, hzc9, hr⟩ := ob hr
    have hzc9 := Option.some.inj hzc9
    refine j_k (kc' := zt8.2.2.1 + 1) (ks' := zt8.2.2.2 + 7) (by omega) (by omega) ?_
    refine j_new (ci := 3) (N := 7) (C0 := RX5) (T := TX5) (ty := tyX5) (fs := df_X5) (pc' := 72) C dX7_machine_69 rfl iw_X5 tyX5_ok wm_693 wm_220 wm_127 dv_X5 rfl ?_
    rw [hzc9]
    refine j_dup (pc' := 73) C dX7_machine_72 rfl rfl ?_
    refine j_aload_n (q := 0) (pc' := 74) C dX7_machine_73 rfl rfl rfl ?_
    obtain ⟨zx10, hzx10, hr⟩ := ob hr
    refine j_getI (pc' := 77) C dX7_machine_74 fl_X7_41 hzx10 rfl ?_
    refine j_aload_n (q := 1) (pc' := 78) C dX7_machine_77 rfl rfl rfl ?_
    refine j_aload_n (q := 0) (pc' := 79) C dX7_machine_78 rfl rfl rfl ?_
    obtain ⟨zx11, hzx11, hr⟩ := ob hr
    refine j_getJ (pc' := 82) C dX7_machine_79 fl_X7_48 hzx11 rfl ?_
    refine j_aload_n (q := 0) (pc' := 83) C dX7_machine_82 rfl rfl rfl ?_
    obtain ⟨zx12, hzx12, hr⟩ := ob hr
    refine j_getA (pc' := 86) C dX7_machine_83 fl_X7_21 hzx12 rfl ?_
    refine j_iconst (v := 1) (pc' := 87) C dX7_machine_86 kI_1 rfl ?_
    refine j_aload_n (q := 0) (pc' := 88) C dX7_machine_87 rfl rfl rfl ?_
    obtain ⟨zx13, hzx13, hr⟩ := ob hr
    refine j_getI (pc' := 91) C dX7_machine_88 fl_X7_52 hzx13 rfl ?_
    obtain ⟨zx14, hzx14, hr⟩ := ob hr
    refine j_callS (As := [.int (1 : Int32), .int zx13]) (rest := [.ref zx12, .long zx11, .ref nx, .int zx10, .ref (nx + 1), .ref (nx + 1)]) (st1 := [.int zx14, .ref zx12, .long zx11, .ref nx, .int zx10, .ref (nx + 1), .ref (nx + 1)]) (pc' := 94) C wm_592 (c_J9_max_7cf53 (nx := ((nx + 1) + 1)) (ce := zc9) hzx14) yw_J9_max_7cf53 wm_694 rfl rfl (Nat.le_of_ble_eq_true rfl) ⟨by decide, by decide⟩ dX7_machine_91 rfl rfl ?_
    obtain ⟨zq15, zt16, hzq15, hr, azt16, bzt16, czt16, dzt16⟩ := adcB_s hr
    refine j_k (kc' := zt16.2.2.1 + zq15.2.2.1) (ks' := zt16.2.2.2 + zq15.2.2.2) (by omega) (by omega) ?_
    refine j_callSA (As := [.ref zx12, .int zx14]) (rest := [.long zx11, .ref nx, .int zx10, .ref (nx + 1), .ref (nx + 1)]) (st1 := [.ref zq15.1, .long zx11, .ref nx, .int zx10, .ref (nx + 1), .ref (nx + 1)]) (pc' := 97) C wm_696 (c_J7_copyOf_c38d5 hzq15) yw_J7_copyOf_c38d5 wm_695 rfl rfl (Nat.le_of_ble_eq_true rfl) ⟨by decide, by decide⟩ dX7_machine_94 rfl rfl ?_
    obtain ⟨zq17, zt18, hzq17, hr, azt18, bzt18, czt18, dzt18⟩ := adcB_s hr
    refine j_k (kc' := zt18.2.2.1 + zq17.2.2.1) (ks' := zt18.2.2.2 + zq17.2.2.2) (by omega) (by omega) ?_
    refine j_callIA (As := [.int zx10, .ref nx, .long zx11, .ref zq15.1]) (rest := [.ref (nx + 1)]) (st1 := [.ref (nx + 1)]) (pc' := 100) C wm_222 rfl (c_X5_init hzq17) yw_X5_init wm_709 rfl rfl (Nat.le_of_ble_eq_true rfl) ⟨by decide, by decide⟩ dX7_machine_97 rfl rfl ?_
    obtain ⟨azf19, bzf20, czf21, dzf22⟩ := some4 hr
    refine j_k (kc' := 0) (ks' := 0) (by omega) (by omega) ?_
    rw [show nx + q.2.2.1 = ((((nx + 1) + 1) + zq15.2.2.1) + zq17.2.2.1) by omega, (bzt2.trans (bzt8.trans (bzt16.trans (bzt18.trans bzf20)))), (azt2.trans (azt8.trans (azt16.trans (azt18.trans azf19))))] at hq
    exact j_aret (x := some _) C hq hret (by first | exact Or.inl ⟨_, rfl⟩ | exact Or.inr ⟨_, rfl⟩) dX7_machine_100
  refine j_lv (lv' := [(0, .ref this), (1, .ref nx), (2, .int (0 : Int32))]) [2, 1, 0] rfl ?_
  refine it_J (J := (fun (zs5 : Int32 × Ce) => Jd G zt2.2.2.1 zt2.2.2.2 (nx + 1) zs5.2 11 [(0, .ref this), (1, .ref nx), (2, .int zs5.1)] [])) ?_ hzo6
  clear hzo6
  intro zs5 zr7 hr izs5 ezs5
  refine j_iload_n (q := 2) (pc' := 12) C dX7_machine_11 rfl rfl rfl ?_
  refine j_aload_n (q := 1) (pc' := 13) C dX7_machine_12 rfl rfl rfl ?_
  obtain ⟨zx23, hzx23, hr⟩ := ob hr
  refine j_alen (pc' := 14) C dX7_machine_13 hzx23 rfl ?_
  refine j_ic_ge (tgt := 69) (pc' := 17) C dX7_machine_14 rfl rfl (fun hc => ?_) (fun hc => ?_)
  · have hr := ifT hc hr
    clear hc
    have hr := ezs5 _ (Option.some.inj hr).symm
    subst hr
    exact j_lv [0, 1] rfl kzo6
  · have hr := ifF hc hr
    clear hc
    refine j_iconst (v := 0) (pc' := 18) C dX7_machine_17 kI_0 rfl ?_
    refine j_istore_n (lv' := [(3, .int (0 : Int32)), (0, .ref this), (1, .ref nx), (2, .int zs5.1)]) (pc' := 19) C dX7_machine_18 rfl (by decide) rfl rfl ?_
    obtain ⟨zo25, hzo25, rzo25⟩ := ob hr
    have kzo25 : Jd G zt2.2.2.1 zt2.2.2.2 (nx + 1) zo25.2 63 [(0, .ref this), (1, .ref nx), (2, .int zs5.1)] [] := by
      have hr := rzo25
      refine j_iinc (q := 2) (v := 1) (lv' := [(2, .int (zs5.1 + (1 : Int32))), (0, .ref this), (1, .ref nx)]) (pc' := 66) C dX7_machine_63 rfl kI_1 (by decide) rfl rfl ?_
      refine j_goto (tgt := 11) C dX7_machine_66 rfl ?_
      have hr := izs5 ((zs5.1 + (1 : Int32)), zo25.2) (Option.some.inj hr).symm
      exact j_lv [1, 2, 0] rfl hr
    refine j_lv (lv' := [(0, .ref this), (1, .ref nx), (2, .int zs5.1), (3, .int (0 : Int32))]) [1, 2, 3, 0] rfl ?_
    refine it_J (J := (fun (zs24 : Int32 × Ce) => Jd G zt2.2.2.1 zt2.2.2.2 (nx + 1) zs24.2 19 [(0, .ref this), (1, .ref nx), (2, .int zs5.1), (3, .int zs24.1)] [])) ?_ hzo25
    clear hzo25
    intro zs24 zr26 hr izs24 ezs24
    refine j_iload_n (q := 3) (pc' := 20) C dX7_machine_19 rfl rfl rfl ?_
    refine j_aload_n (q := 0) (pc' := 21) C dX7_machine_20 rfl rfl rfl ?_
    obtain ⟨zx27, hzx27, hr⟩ := ob hr
    refine j_getI (pc' := 24) C dX7_machine_21 fl_X7_41 hzx27 rfl ?_
    refine j_ic_ge (tgt := 63) (pc' := 27) C dX7_machine_24 rfl rfl (fun hc => ?_) (fun hc => ?_)
    · have hr := ifT hc hr
      clear hc
      have hr := ezs24 _ (Option.some.inj hr).symm
      subst hr
      exact j_lv [0, 1, 2] rfl kzo25
    · have hr := ifF hc hr
      clear hc
      refine j_aload_n (q := 0) (pc' := 28) C dX7_machine_27 rfl rfl rfl ?_
      obtain ⟨zx28, hzx28, hr⟩ := ob hr
      refine j_getA (pc' := 31) C dX7_machine_28 fl_X7_25 hzx28 rfl ?_
      refine j_iload_n (q := 3) (pc' := 32) C dX7_machine_31 rfl rfl rfl ?_
      refine j_iconst (v := 4) (pc' := 33) C dX7_machine_32 kI_4 rfl ?_
      refine j_imul (pc' := 34) C dX7_machine_33 rfl ?_
      refine j_iload_n (q := 2) (pc' := 35) C dX7_machine_34 rfl rfl rfl ?_
      refine j_iconst (v := 4) (pc' := 36) C dX7_machine_35 kI_4 rfl ?_
      obtain ⟨zz29, hzz29, hr⟩ := ob hr
      refine j_irem (pc' := 37) C dX7_machine_36 hzz29 rfl ?_
      refine j_iadd (pc' := 38) C dX7_machine_37 rfl ?_
      obtain ⟨zx30, hzx30, hr⟩ := ob hr
      refine j_lald (pc' := 39) C dX7_machine_38 hzx30 rfl ?_
      refine j_iload_n (q := 2) (pc' := 40) C dX7_machine_39 rfl rfl rfl ?_
      refine j_iconst (v := 4) (pc' := 41) C dX7_machine_40 kI_4 rfl ?_
      obtain ⟨zz31, hzz31, hr⟩ := ob hr
      refine j_idiv (pc' := 42) C dX7_machine_41 hzz31 rfl ?_
      obtain ⟨zx32, hzx32, hr⟩ := ob hr
      refine j_callS (As := [.long zx30, .int (zs5.1 / (4 : Int32))]) (rest := []) (st1 := [.int zx32]) (pc' := 45) C wm_691 (c_X9_has (nx := (nx + 1)) (ce := zs24.2) hzx32) yw_X9_has wm_690 rfl rfl (Nat.le_of_ble_eq_true rfl) ⟨by decide, by decide⟩ dX7_machine_42 rfl rfl ?_
      refine j_if_eq (tgt := 57) (pc' := 48) C dX7_machine_45 rfl rfl (fun hc => ?_) (fun hc => ?_)
      · have hr := ifT hc hr
        clear hc
        refine j_iinc (q := 3) (v := 1) (lv' := [(3, .int (zs24.1 + (1 : Int32))), (0, .ref this), (1, .ref nx), (2, .int zs5.1)]) (pc' := 60) C dX7_machine_57 rfl kI_1 (by decide) rfl rfl ?_
        refine j_goto (tgt := 19) C dX7_machine_60 rfl ?_
        have hr := izs24 ((zs24.1 + (1 : Int32)), zs24.2) (Option.some.inj hr).symm
        exact j_lv [1, 2, 3, 0] rfl hr
      · have hr := ifF hc hr
        clear hc
        refine j_aload_n (q := 1) (pc' := 49) C dX7_machine_48 rfl rfl rfl ?_
        refine j_iload_n (q := 2) (pc' := 50) C dX7_machine_49 rfl rfl rfl ?_
        refine j_dup2 (pc' := 51) C dX7_machine_50 rfl rfl rfl ?_
        obtain ⟨zx33, hzx33, hr⟩ := ob hr
        refine j_iald (pc' := 52) C dX7_machine_51 hzx33 rfl ?_
        refine j_iconst (v := 1) (pc' := 53) C dX7_machine_52 kI_1 rfl ?_
        refine j_iload_n (q := 3) (pc' := 54) C dX7_machine_53 rfl rfl rfl ?_
        refine j_ishl (pc' := 55) C dX7_machine_54 rfl ?_
        refine j_ior (pc' := 56) C dX7_machine_55 rfl ?_
        obtain ⟨zc34, hzc34, hr⟩ := ob hr
        refine j_iast (pc' := 57) C dX7_machine_56 hzc34 rfl ?_
        refine j_iinc (q := 3) (v := 1) (lv' := [(3, .int (zs24.1 + (1 : Int32))), (0, .ref this), (1, .ref nx), (2, .int zs5.1)]) (pc' := 60) C dX7_machine_57 rfl kI_1 (by decide) rfl rfl ?_
        refine j_goto (tgt := 19) C dX7_machine_60 rfl ?_
        have hr := izs24 ((zs24.1 + (1 : Int32)), zc34) (Option.some.inj hr).symm
        exact j_lv [1, 2, 3, 0] rfl hr
def m_X7_isSmall (p0 : Int32) : Option (Int32) :=
  if p0 < (97 : Int32) then
    some (0 : Int32)
  else
    if (122 : Int32) < p0 then
      some (0 : Int32)
    else
      some (1 : Int32)
set_option maxRecDepth 100000 in
set_option maxHeartbeats 4000000 in
theorem c_X7_isSmall {nx : Nat} {ce : Ce} {p0 : Int32} {q : Int32} (hr : m_X7_isSmall p0 = some q) : Ct yX7_isSmall cX7_isSmall 1 (some .boolean) 0 0 0 0 [.int p0] nx ce (some (.int q)) ce := by
  unfold m_X7_isSmall at hr
  refine ct_of (by decide) (Nat.le_of_ble_eq_true rfl) ?_
  intro G C hq hret hin
  show Jd G 0 0 nx ce 0 [(0, .int p0)] []
  refine j_iload_n (q := 0) (pc' := 1) C dX7_isSmall_0 rfl rfl rfl ?_
  refine j_bipush (v := 97) (pc' := 3) C dX7_isSmall_1 kB_97 rfl ?_
  refine j_ic_lt (tgt := 16) (pc' := 6) C dX7_isSmall_3 rfl rfl (fun hc => ?_) (fun hc => ?_)
  · have hr := ifT hc hr
    clear hc
    refine j_iconst (v := 0) (pc' := 17) C dX7_isSmall_16 kI_0 rfl ?_
    have hr := Option.some.inj hr
    subst hr
    exact j_zret C hq hret rfl dX7_isSmall_17
  · have hr := ifF hc hr
    clear hc
    refine j_iload_n (q := 0) (pc' := 7) C dX7_isSmall_6 rfl rfl rfl ?_
    refine j_bipush (v := 122) (pc' := 9) C dX7_isSmall_7 kB_122 rfl ?_
    refine j_ic_gt (tgt := 16) (pc' := 12) C dX7_isSmall_9 rfl rfl (fun hc => ?_) (fun hc => ?_)
    · have hr := ifT hc hr
      clear hc
      refine j_iconst (v := 0) (pc' := 17) C dX7_isSmall_16 kI_0 rfl ?_
      have hr := Option.some.inj hr
      subst hr
      exact j_zret C hq hret rfl dX7_isSmall_17
    · have hr := ifF hc hr
      clear hc
      refine j_iconst (v := 1) (pc' := 13) C dX7_isSmall_12 kI_1 rfl ?_
      refine j_goto (tgt := 17) C dX7_isSmall_13 rfl ?_
      have hr := Option.some.inj hr
      subst hr
      exact j_zret C hq hret rfl dX7_isSmall_17
def m_J0_coder_7d493 (ce : Ce) (this : Nat) : Option (Int32) :=
  if (1 : Int32) = 0 then
    some (1 : Int32)
  else
    (kst this).bind fun zz1 =>
    some (0 : Int32)
set_option maxRecDepth 100000 in
set_option maxHeartbeats 4000000 in
theorem c_J0_coder_7d493 {nx : Nat} {ce : Ce} {this : Nat} {q : Int32} (hr : m_J0_coder_7d493 ce this = some q) : CtG yJ0_coder_7d493 cJ0_coder_7d493 1 (some .byte) 0 0 (fun X => [.ref (X.2.2.2.2.1 this)]) nx ce (some (.int q)) ce := by
  unfold m_J0_coder_7d493 at hr
  refine ctG_of (by decide) (fun _ => Nat.le_of_ble_eq_true rfl) ?_
  intro G C hq hret hin
  show Jd G 0 0 nx ce 0 [(0, .ref (G.1.2.2.2.2.1 this))] []
  refine j_scs (pc' := 3) C dJ0_coder_7d493_0 wm_521 rfl ?_
  refine j_if_eq (tgt := 13) (pc' := 6) C dJ0_coder_7d493_3 rfl rfl (fun hc => ?_) (fun hc => ?_)
  · have hr := ifT hc hr
    clear hc
    refine j_iconst (v := 1) (pc' := 14) C dJ0_coder_7d493_13 kI_1 rfl ?_
    have hr := Option.some.inj hr
    subst hr
    exact j_zret C hq hret rfl dJ0_coder_7d493_14
  · have hr := ifF hc hr
    clear hc
    refine j_aload_n (q := 0) (pc' := 7) C dJ0_coder_7d493_6 rfl rfl rfl ?_
    obtain ⟨zz1, hzz1, hr⟩ := ob hr
    refine j_scod (k0 := this) (pc' := 10) C dJ0_coder_7d493_7 wm_2149 hzz1 rfl ?_
    refine j_goto (tgt := 14) C dJ0_coder_7d493_10 rfl ?_
    have hr := Option.some.inj hr
    subst hr
    exact j_zret C hq hret rfl dJ0_coder_7d493_14
def m_J0_length_8abf5 (ce : Ce) (this : Nat) : Option (Int32) :=
  (kst this).bind fun zz1 =>
  (kst this).bind fun zz2 =>
  (kst this).bind fun zz3 =>
  (m_J0_coder_7d493 ce this).bind fun zx4 =>
  some ((Int32.ofNat (stL.getD this 0)) >>> (zx4 &&& 31))
set_option maxRecDepth 100000 in
set_option maxHeartbeats 4000000 in
theorem c_J0_length_8abf5 {nx : Nat} {ce : Ce} {this : Nat} {q : Int32} (hr : m_J0_length_8abf5 ce this = some q) : CtG yJ0_length_8abf5 cJ0_length_8abf5 1 (some .int) 1 20 (fun X => [.ref (X.2.2.2.2.1 this)]) nx ce (some (.int q)) ce := by
  unfold m_J0_length_8abf5 at hr
  refine ctG_of (by decide) (fun _ => Nat.le_of_ble_eq_true rfl) ?_
  intro G C hq hret hin
  show Jd G 0 0 nx ce 0 [(0, .ref (G.1.2.2.2.2.1 this))] []
  refine j_aload_n (q := 0) (pc' := 1) C dJ0_length_8abf5_0 rfl rfl rfl ?_
  obtain ⟨zz1, hzz1, hr⟩ := ob hr
  refine j_sval (k0 := this) (pc' := 4) C dJ0_length_8abf5_1 wm_2148 hzz1 rfl ?_
  obtain ⟨zz2, hzz2, hr⟩ := ob hr
  refine j_slen (k0 := this) (pc' := 5) C dJ0_length_8abf5_4 hzz2 rfl ?_
  refine j_aload_n (q := 0) (pc' := 6) C dJ0_length_8abf5_5 rfl rfl rfl ?_
  obtain ⟨zz3, hzz3, hr⟩ := ob hr
  obtain ⟨zx4, hzx4, hr⟩ := ob hr
  refine j_callVG (k0 := this) (As := []) (rest := [.int (Int32.ofNat (stL.getD this 0))]) (st1 := [.int zx4, .int (Int32.ofNat (stL.getD this 0))]) (pc' := 9) C ⟨wm_518, wm_519⟩ rfl hzz3 rfl (c_J0_coder_7d493 (nx := nx) hzx4) yw_J0_coder_7d493 wm_517 rfl rfl (Nat.le_of_ble_eq_true rfl) ⟨by decide, by decide⟩ dJ0_length_8abf5_6 rfl rfl ?_
  refine j_ishr (pc' := 10) C dJ0_length_8abf5_9 rfl ?_
  have hr := Option.some.inj hr
  subst hr
  exact j_iret C hq hret dJ0_length_8abf5_10
def m_J0_isLatin1_aae02 (ce : Ce) (this : Nat) : Option (Int32) :=
  if (1 : Int32) = 0 then
    some (0 : Int32)
  else
    (kst this).bind fun zz1 =>
    if (0 : Int32) = 0 then
      some (1 : Int32)
    else
      some (0 : Int32)
set_option maxRecDepth 100000 in
set_option maxHeartbeats 4000000 in
theorem c_J0_isLatin1_aae02 {nx : Nat} {ce : Ce} {this : Nat} {q : Int32} (hr : m_J0_isLatin1_aae02 ce this = some q) : CtG yJ0_isLatin1_aae02 cJ0_isLatin1_aae02 1 (some .boolean) 0 0 (fun X => [.ref (X.2.2.2.2.1 this)]) nx ce (some (.int q)) ce := by
  unfold m_J0_isLatin1_aae02 at hr
  refine ctG_of (by decide) (fun _ => Nat.le_of_ble_eq_true rfl) ?_
  intro G C hq hret hin
  show Jd G 0 0 nx ce 0 [(0, .ref (G.1.2.2.2.2.1 this))] []
  refine j_scs (pc' := 3) C dJ0_isLatin1_aae02_0 wm_521 rfl ?_
  refine j_if_eq (tgt := 17) (pc' := 6) C dJ0_isLatin1_aae02_3 rfl rfl (fun hc => ?_) (fun hc => ?_)
  · have hr := ifT hc hr
    clear hc
    refine j_iconst (v := 0) (pc' := 18) C dJ0_isLatin1_aae02_17 kI_0 rfl ?_
    have hr := Option.some.inj hr
    subst hr
    exact j_zret C hq hret rfl dJ0_isLatin1_aae02_18
  · have hr := ifF hc hr
    clear hc
    refine j_aload_n (q := 0) (pc' := 7) C dJ0_isLatin1_aae02_6 rfl rfl rfl ?_
    obtain ⟨zz1, hzz1, hr⟩ := ob hr
    refine j_scod (k0 := this) (pc' := 10) C dJ0_isLatin1_aae02_7 wm_2149 hzz1 rfl ?_
    refine j_if_ne (tgt := 17) (pc' := 13) C dJ0_isLatin1_aae02_10 rfl rfl (fun hc => ?_) (fun hc => ?_)
    · have hr := ifF hc hr
      clear hc
      refine j_iconst (v := 0) (pc' := 18) C dJ0_isLatin1_aae02_17 kI_0 rfl ?_
      have hr := Option.some.inj hr
      subst hr
      exact j_zret C hq hret rfl dJ0_isLatin1_aae02_18
    · have hr := ifT hc hr
      clear hc
      refine j_iconst (v := 1) (pc' := 14) C dJ0_isLatin1_aae02_13 kI_1 rfl ?_
      refine j_goto (tgt := 18) C dJ0_isLatin1_aae02_14 rfl ?_
      have hr := Option.some.inj hr
      subst hr
      exact j_zret C hq hret rfl dJ0_isLatin1_aae02_18
def m_J3_checkIndex_8e157 (p0 : Int32) (p1 : Int32) : Option (Int32) :=
  (
    if p0 < 0 then
      some (Sum.inr ())
    else
      if p0 < p1 then
        some (Sum.inl p0)
      else
        some (Sum.inr ())
  ).bind fun (zj1 : Int32 ⊕ Unit) => Sum.elim (fun wzj1 => some wzj1) (fun vzj1 =>
    none
  ) zj1
set_option maxRecDepth 100000 in
set_option maxHeartbeats 4000000 in
theorem c_J3_checkIndex_8e157 {nx : Nat} {ce : Ce} {p0 : Int32} {p1 : Int32} {q : Int32} (hr : m_J3_checkIndex_8e157 p0 p1 = some q) : CtG yJ3_checkIndex_8e157 cJ3_checkIndex_8e157 3 (some .int) 0 0 (fun X => [.int p0, .int p1, va_rf X.2.2.2.2.2.2]) nx ce (some (.int q)) ce := by
  unfold m_J3_checkIndex_8e157 at hr
  refine ctG_of (by decide) (fun X => by rcases X with ⟨a, b, c, d, e, f, g⟩; cases g <;> exact Nat.le_of_ble_eq_true rfl) ?_
  intro G C hq hret hin
  show Jd G 0 0 nx ce 0 [(0, .int p0), (1, .int p1), (2, va_rf G.1.2.2.2.2.2.2)] []
  refine j_iload_n (q := 0) (pc' := 1) C dJ3_checkIndex_8e157_0 rfl rfl rfl ?_
  obtain ⟨zj1, hzj1, rzj1⟩ := ob hr
  have kzj1 : ∀ vzj1, zj1 = Sum.inr vzj1 → Jd G 0 0 nx ce 9 [(0, .int p0), (1, .int p1), (2, va_rf G.1.2.2.2.2.2.2)] [] := by
    intro vzj1 ezj1
    rw [ezj1] at rzj1
    have hr := elR rzj1
    refine j_qload_n (q := 2) (pc' := 10) C dJ3_checkIndex_8e157_9 rfl rfl rfl ?_
    refine j_iload_n (q := 0) (pc' := 11) C dJ3_checkIndex_8e157_10 rfl rfl rfl ?_
    refine j_iload_n (q := 1) (pc' := 12) C dJ3_checkIndex_8e157_11 rfl rfl rfl ?_
    cases hr
  have hr := hzj1
  clear hzj1
  refine j_if_lt (tgt := 9) (pc' := 4) C dJ3_checkIndex_8e157_1 rfl rfl (fun hc => ?_) (fun hc => ?_)
  · have hr := ifT hc hr
    clear hc
    have hr := Option.some.inj hr
    subst hr
    exact j_lv [0, 1, 2] rfl (kzj1 _ rfl)
  · have hr := ifF hc hr
    clear hc
    refine j_iload_n (q := 0) (pc' := 5) C dJ3_checkIndex_8e157_4 rfl rfl rfl ?_
    refine j_iload_n (q := 1) (pc' := 6) C dJ3_checkIndex_8e157_5 rfl rfl rfl ?_
    refine j_ic_lt (tgt := 16) (pc' := 9) C dJ3_checkIndex_8e157_6 rfl rfl (fun hc => ?_) (fun hc => ?_)
    · have hr := ifT hc hr
      clear hc
      refine j_iload_n (q := 0) (pc' := 17) C dJ3_checkIndex_8e157_16 rfl rfl rfl ?_
      have hr := Option.some.inj hr
      subst hr
      have hr := elL rzj1
      have hr := Option.some.inj hr
      subst hr
      exact j_iret C hq hret dJ3_checkIndex_8e157_17
    · have hr := ifF hc hr
      clear hc
      have hr := Option.some.inj hr
      subst hr
      exact j_lv [0, 1, 2] rfl (kzj1 _ rfl)
def m_J0_checkIndex_df160 (p0 : Int32) (p1 : Int32) : Option (Unit) :=
  (m_J3_checkIndex_8e157 p0 p1).bind fun zx1 =>
  some ()
set_option maxRecDepth 100000 in
set_option maxHeartbeats 4000000 in
theorem c_J0_checkIndex_df160 {nx : Nat} {ce : Ce} {p0 : Int32} {p1 : Int32} {q : Unit} (hr : m_J0_checkIndex_df160 p0 p1 = some q) : Ct yJ0_checkIndex_df160 cJ0_checkIndex_df160 2 none 1 22 0 0 [.int p0, .int p1] nx ce none ce := by
  unfold m_J0_checkIndex_df160 at hr
  refine ct_of (by decide) (Nat.le_of_ble_eq_true rfl) ?_
  intro G C hq hret hin
  show Jd G 0 0 nx ce 0 [(0, .int p0), (1, .int p1)] []
  refine j_iload_n (q := 0) (pc' := 1) C dJ0_checkIndex_df160_0 rfl rfl rfl ?_
  refine j_iload_n (q := 1) (pc' := 2) C dJ0_checkIndex_df160_1 rfl rfl rfl ?_
  refine j_sfm (pc' := 5) C dJ0_checkIndex_df160_2 wm_537 rfl ?_
  obtain ⟨zx1, hzx1, hr⟩ := ob hr
  refine j_callSG (As := [.int p0, .int p1, va_rf G.1.2.2.2.2.2.2]) (rest := []) (st1 := [.int zx1]) (pc' := 8) C wm_540 rfl (c_J3_checkIndex_8e157 (nx := nx) (ce := ce) hzx1) yw_J3_checkIndex_8e157 wm_539 rfl rfl (Nat.le_of_ble_eq_true rfl) ⟨by decide, by decide⟩ dJ0_checkIndex_df160_5 rfl rfl ?_
  refine j_pop (pc' := 9) C dJ0_checkIndex_df160_8 rfl rfl ?_
  have hr := Option.some.inj hr
  subst hr
  exact j_vret C hq hret dJ0_checkIndex_df160_9
def m_J1_charAt_3b067 (ce : Ce) (p0 : Nat) (p1 : Int32) : Option (Int32) :=
  (kst p0).bind fun zz1 =>
  (m_J0_checkIndex_df160 p1 (Int32.ofNat (stL.getD p0 0))).bind fun zx2 =>
  (kst p0).bind fun zz3 =>
  (aSB p0 p1).bind fun zx4 =>
  (cz (i2ch (zx4 &&& (255 : Int32)))).bind fun zx5 =>
  some (i2ch (zx4 &&& (255 : Int32)))
set_option maxRecDepth 100000 in
set_option maxHeartbeats 4000000 in
theorem c_J1_charAt_3b067 {nx : Nat} {ce : Ce} {p0 : Nat} {p1 : Int32} {q : Int32} (hr : m_J1_charAt_3b067 ce p0 p1 = some q) : CtG yJ1_charAt_3b067 cJ1_charAt_3b067 2 (some .char) 2 43 (fun X => [.ref (X.2.2.2.2.2.1 p0), .int p1]) nx ce (some (.int q)) ce := by
  unfold m_J1_charAt_3b067 at hr
  refine ctG_of (by decide) (fun _ => Nat.le_of_ble_eq_true rfl) ?_
  intro G C hq hret hin
  show Jd G 0 0 nx ce 0 [(0, .ref (G.1.2.2.2.2.2.1 p0)), (1, .int p1)] []
  refine j_iload_n (q := 1) (pc' := 1) C dJ1_charAt_3b067_0 rfl rfl rfl ?_
  refine j_aload_n (q := 0) (pc' := 2) C dJ1_charAt_3b067_1 rfl rfl rfl ?_
  obtain ⟨zz1, hzz1, hr⟩ := ob hr
  refine j_slen (k0 := p0) (pc' := 3) C dJ1_charAt_3b067_2 hzz1 rfl ?_
  obtain ⟨zx2, hzx2, hr⟩ := ob hr
  refine j_callS (As := [.int p1, .int (Int32.ofNat (stL.getD p0 0))]) (rest := []) (st1 := []) (pc' := 6) C wm_535 (c_J0_checkIndex_df160 (nx := nx) (ce := ce) hzx2) yw_J0_checkIndex_df160 wm_534 rfl rfl (Nat.le_of_ble_eq_true rfl) ⟨by decide, by decide⟩ dJ1_charAt_3b067_3 rfl rfl ?_
  refine j_aload_n (q := 0) (pc' := 7) C dJ1_charAt_3b067_6 rfl rfl rfl ?_
  refine j_iload_n (q := 1) (pc' := 8) C dJ1_charAt_3b067_7 rfl rfl rfl ?_
  obtain ⟨zz3, hzz3, hr⟩ := ob hr
  obtain ⟨zx4, hzx4, hr⟩ := ob hr
  refine j_sald (k0 := p0) (pc' := 9) C dJ1_charAt_3b067_8 hzz3 hzx4 rfl ?_
  refine j_sipush (v := 255) (pc' := 12) C dJ1_charAt_3b067_9 kS_255 rfl ?_
  refine j_iand (pc' := 13) C dJ1_charAt_3b067_12 rfl ?_
  refine j_i2c (pc' := 14) C dJ1_charAt_3b067_13 rfl ?_
  obtain ⟨zx5, hzx5, hr⟩ := ob hr
  obtain ⟨rfl, nhzx5⟩ := cz_sp hzx5
  have hr := Option.some.inj hr
  subst hr
  exact j_zret C hq hret nhzx5 dJ1_charAt_3b067_14
def m_J0_charAt_5068e (ce : Ce) (this : Nat) (p1 : Int32) : Option (Int32) :=
  (kst this).bind fun zz1 =>
  (m_J0_isLatin1_aae02 ce this).bind fun zx2 =>
  if zx2 = 0 then
    (kst this).bind fun zz3 =>
    none
  else
    (kst this).bind fun zz4 =>
    (m_J1_charAt_3b067 ce this p1).bind fun zx5 =>
    (cz zx5).bind fun zx6 =>
    some zx5
set_option maxRecDepth 100000 in
set_option maxHeartbeats 4000000 in
theorem c_J0_charAt_5068e {nx : Nat} {ce : Ce} {this : Nat} {p1 : Int32} {q : Int32} (hr : m_J0_charAt_5068e ce this p1 = some q) : CtG yJ0_charAt_5068e cJ0_charAt_5068e 2 (some .char) 3 64 (fun X => [.ref (X.2.2.2.2.1 this), .int p1]) nx ce (some (.int q)) ce := by
  unfold m_J0_charAt_5068e at hr
  refine ctG_of (by decide) (fun _ => Nat.le_of_ble_eq_true rfl) ?_
  intro G C hq hret hin
  show Jd G 0 0 nx ce 0 [(0, .ref (G.1.2.2.2.2.1 this)), (1, .int p1)] []
  refine j_aload_n (q := 0) (pc' := 1) C dJ0_charAt_5068e_0 rfl rfl rfl ?_
  obtain ⟨zz1, hzz1, hr⟩ := ob hr
  obtain ⟨zx2, hzx2, hr⟩ := ob hr
  refine j_callVG (k0 := this) (As := []) (rest := []) (st1 := [.int zx2]) (pc' := 4) C ⟨wm_528, wm_529⟩ rfl hzz1 rfl (c_J0_isLatin1_aae02 (nx := nx) hzx2) yw_J0_isLatin1_aae02 wm_527 rfl rfl (Nat.le_of_ble_eq_true rfl) ⟨by decide, by decide⟩ dJ0_charAt_5068e_1 rfl rfl ?_
  refine j_if_eq (tgt := 16) (pc' := 7) C dJ0_charAt_5068e_4 rfl rfl (fun hc => ?_) (fun hc => ?_)
  · have hr := ifT hc hr
    clear hc
    refine j_aload_n (q := 0) (pc' := 17) C dJ0_charAt_5068e_16 rfl rfl rfl ?_
    obtain ⟨zz3, hzz3, hr⟩ := ob hr
    refine j_sval (k0 := this) (pc' := 20) C dJ0_charAt_5068e_17 wm_2148 hzz3 rfl ?_
    refine j_iload_n (q := 1) (pc' := 21) C dJ0_charAt_5068e_20 rfl rfl rfl ?_
    cases hr
  · have hr := ifF hc hr
    clear hc
    refine j_aload_n (q := 0) (pc' := 8) C dJ0_charAt_5068e_7 rfl rfl rfl ?_
    obtain ⟨zz4, hzz4, hr⟩ := ob hr
    refine j_sval (k0 := this) (pc' := 11) C dJ0_charAt_5068e_8 wm_2148 hzz4 rfl ?_
    refine j_iload_n (q := 1) (pc' := 12) C dJ0_charAt_5068e_11 rfl rfl rfl ?_
    obtain ⟨zx5, hzx5, hr⟩ := ob hr
    refine j_callSG (As := [.ref (G.1.2.2.2.2.2.1 this), .int p1]) (rest := []) (st1 := [.int zx5]) (pc' := 15) C wm_532 rfl (c_J1_charAt_3b067 (nx := nx) hzx5) yw_J1_charAt_3b067 wm_531 rfl rfl (Nat.le_of_ble_eq_true rfl) ⟨by decide, by decide⟩ dJ0_charAt_5068e_12 rfl rfl ?_
    obtain ⟨zx6, hzx6, hr⟩ := ob hr
    obtain ⟨rfl, nhzx6⟩ := cz_sp hzx6
    have hr := Option.some.inj hr
    subst hr
    exact j_zret C hq hret nhzx6 dJ0_charAt_5068e_15
def m_X7_isWord (ce : Ce) (p0 : Nat) (p1 : Nat) (p2 : Int32) (p3 : Int32) : Option (Int32) :=
  (kst p0).bind fun zz1 =>
  (m_J0_length_8abf5 ce p0).bind fun zx2 =>
  if zx2 = (p3 - p2) then
    (alen ce p1).bind fun zx3 =>
    if p3 ≤ zx3 then
      (it (fun (zs4 : Int32) =>
        (kst p0).bind fun zz7 =>
        (m_J0_length_8abf5 ce p0).bind fun zx8 =>
        if zx8 ≤ zs4 then
          some (Sum.inr (Sum.inr ()))
        else
          (aB ce p1 (p2 + zs4)).bind fun zx9 =>
          (kst p0).bind fun zz10 =>
          (m_J0_charAt_5068e ce p0 zs4).bind fun zx11 =>
          if zx9 = zx11 then
            some (Sum.inl (zs4 + (1 : Int32)))
          else
            some (Sum.inr (Sum.inl (0 : Int32)))
      ) FU (0 : Int32)).bind fun (zo5 : Int32 ⊕ Unit) =>
      Sum.elim (fun wzo5 => some wzo5) (fun vzo5 =>
        some (1 : Int32)
      ) zo5
    else
      some (0 : Int32)
  else
    some (0 : Int32)
set_option maxRecDepth 100000 in
set_option maxHeartbeats 4000000 in
theorem c_X7_isWord {nx : Nat} {ce : Ce} {p0 : Nat} {p1 : Nat} {p2 : Int32} {p3 : Int32} {q : Int32} (hr : m_X7_isWord ce p0 p1 p2 p3 = some q) : CtG yX7_isWord cX7_isWord 5 (some .boolean) 4 85 (fun X => [.ref (X.2.2.2.2.1 p0), .ref p1, .int p2, .int p3]) nx ce (some (.int q)) ce := by
  unfold m_X7_isWord at hr
  refine ctG_of (by decide) (fun _ => Nat.le_of_ble_eq_true rfl) ?_
  intro G C hq hret hin
  show Jd G 0 0 nx ce 0 [(0, .ref (G.1.2.2.2.2.1 p0)), (1, .ref p1), (2, .int p2), (3, .int p3)] []
  refine j_aload_n (q := 0) (pc' := 1) C dX7_isWord_0 rfl rfl rfl ?_
  obtain ⟨zz1, hzz1, hr⟩ := ob hr
  obtain ⟨zx2, hzx2, hr⟩ := ob hr
  refine j_callVG (k0 := p0) (As := []) (rest := []) (st1 := [.int zx2]) (pc' := 4) C ⟨wm_514, wm_515⟩ rfl hzz1 rfl (c_J0_length_8abf5 (nx := nx) hzx2) yw_J0_length_8abf5 wm_513 rfl rfl (Nat.le_of_ble_eq_true rfl) ⟨by decide, by decide⟩ dX7_isWord_1 rfl rfl ?_
  refine j_iload_n (q := 3) (pc' := 5) C dX7_isWord_4 rfl rfl rfl ?_
  refine j_iload_n (q := 2) (pc' := 6) C dX7_isWord_5 rfl rfl rfl ?_
  refine j_isub (pc' := 7) C dX7_isWord_6 rfl ?_
  refine j_ic_ne (tgt := 16) (pc' := 10) C dX7_isWord_7 rfl rfl (fun hc => ?_) (fun hc => ?_)
  · have hr := ifF hc hr
    clear hc
    refine j_iconst (v := 0) (pc' := 17) C dX7_isWord_16 kI_0 rfl ?_
    have hr := Option.some.inj hr
    subst hr
    exact j_zret C hq hret rfl dX7_isWord_17
  · have hr := ifT hc hr
    clear hc
    refine j_iload_n (q := 3) (pc' := 11) C dX7_isWord_10 rfl rfl rfl ?_
    refine j_aload_n (q := 1) (pc' := 12) C dX7_isWord_11 rfl rfl rfl ?_
    obtain ⟨zx3, hzx3, hr⟩ := ob hr
    refine j_alen (pc' := 13) C dX7_isWord_12 hzx3 rfl ?_
    refine j_ic_le (tgt := 18) (pc' := 16) C dX7_isWord_13 rfl rfl (fun hc => ?_) (fun hc => ?_)
    · have hr := ifT hc hr
      clear hc
      refine j_iconst (v := 0) (pc' := 19) C dX7_isWord_18 kI_0 rfl ?_
      refine j_istore (lv' := [(4, .int (0 : Int32)), (0, .ref (G.1.2.2.2.2.1 p0)), (1, .ref p1), (2, .int p2), (3, .int p3)]) (pc' := 21) C dX7_isWord_19 (by decide) rfl rfl ?_
      obtain ⟨zo5, hzo5, rzo5⟩ := ob hr
      have kzo5 : ∀ vzo5, zo5 = Sum.inr vzo5 → Jd G 0 0 nx ce 53 [] [] := by
        intro vzo5 ezo5
        rw [ezo5] at rzo5
        have hr := elR rzo5
        refine j_iconst (v := 1) (pc' := 54) C dX7_isWord_53 kI_1 rfl ?_
        have hr := Option.some.inj hr
        subst hr
        exact j_zret C hq hret rfl dX7_isWord_54
      refine j_lv (lv' := [(0, .ref (G.1.2.2.2.2.1 p0)), (1, .ref p1), (2, .int p2), (4, .int (0 : Int32))]) [1, 2, 3, 0] rfl ?_
      refine it_J (J := (fun (zs4 : Int32) => Jd G 0 0 nx ce 21 [(0, .ref (G.1.2.2.2.2.1 p0)), (1, .ref p1), (2, .int p2), (4, .int zs4)] [])) ?_ hzo5
      clear hzo5
      intro zs4 zr6 hr izs4 ezs4
      refine j_iload (q := 3) (pc' := 23) C dX7_isWord_21 rfl rfl ?_
      refine j_aload_n (q := 0) (pc' := 24) C dX7_isWord_23 rfl rfl rfl ?_
      obtain ⟨zz7, hzz7, hr⟩ := ob hr
      obtain ⟨zx8, hzx8, hr⟩ := ob hr
      refine j_callVG (k0 := p0) (As := []) (rest := [.int zs4]) (st1 := [.int zx8, .int zs4]) (pc' := 27) C ⟨wm_514, wm_515⟩ rfl hzz7 rfl (c_J0_length_8abf5 (nx := nx) hzx8) yw_J0_length_8abf5 wm_513 rfl rfl (Nat.le_of_ble_eq_true rfl) ⟨by decide, by decide⟩ dX7_isWord_24 rfl rfl ?_
      refine j_ic_ge (tgt := 53) (pc' := 30) C dX7_isWord_27 rfl rfl (fun hc => ?_) (fun hc => ?_)
      · have hr := ifT hc hr
        clear hc
        have hr := ezs4 _ (Option.some.inj hr).symm
        subst hr
        exact j_lv [] rfl (kzo5 _ rfl)
      · have hr := ifF hc hr
        clear hc
        refine j_aload_n (q := 1) (pc' := 31) C dX7_isWord_30 rfl rfl rfl ?_
        refine j_iload_n (q := 2) (pc' := 32) C dX7_isWord_31 rfl rfl rfl ?_
        refine j_iload (q := 3) (pc' := 34) C dX7_isWord_32 rfl rfl ?_
        refine j_iadd (pc' := 35) C dX7_isWord_34 rfl ?_
        obtain ⟨zx9, hzx9, hr⟩ := ob hr
        refine j_bald (pc' := 36) C dX7_isWord_35 hzx9 rfl ?_
        refine j_aload_n (q := 0) (pc' := 37) C dX7_isWord_36 rfl rfl rfl ?_
        refine j_iload (q := 3) (pc' := 39) C dX7_isWord_37 rfl rfl ?_
        obtain ⟨zz10, hzz10, hr⟩ := ob hr
        obtain ⟨zx11, hzx11, hr⟩ := ob hr
        refine j_callVG (k0 := p0) (As := [.int zs4]) (rest := [.int zx9]) (st1 := [.int zx11, .int zx9]) (pc' := 42) C ⟨wm_524, wm_525⟩ rfl hzz10 rfl (c_J0_charAt_5068e (nx := nx) hzx11) yw_J0_charAt_5068e wm_523 rfl rfl (Nat.le_of_ble_eq_true rfl) ⟨by decide, by decide⟩ dX7_isWord_39 rfl rfl ?_
        refine j_ic_eq (tgt := 47) (pc' := 45) C dX7_isWord_42 rfl rfl (fun hc => ?_) (fun hc => ?_)
        · have hr := ifT hc hr
          clear hc
          refine j_iinc (q := 3) (v := 1) (lv' := [(4, .int (zs4 + (1 : Int32))), (0, .ref (G.1.2.2.2.2.1 p0)), (1, .ref p1), (2, .int p2)]) (pc' := 50) C dX7_isWord_47 rfl kI_1 (by decide) rfl rfl ?_
          refine j_goto (tgt := 21) C dX7_isWord_50 rfl ?_
          have hr := izs4 (zs4 + (1 : Int32)) (Option.some.inj hr).symm
          exact j_lv [1, 2, 3, 0] rfl hr
        · have hr := ifF hc hr
          clear hc
          refine j_iconst (v := 0) (pc' := 46) C dX7_isWord_45 kI_0 rfl ?_
          have hr := ezs4 _ (Option.some.inj hr).symm
          subst hr
          have hr := elL rzo5
          have hr := Option.some.inj hr
          subst hr
          exact j_zret C hq hret rfl dX7_isWord_46
    · have hr := ifF hc hr
      clear hc
      refine j_iconst (v := 0) (pc' := 17) C dX7_isWord_16 kI_0 rfl ?_
      have hr := Option.some.inj hr
      subst hr
      exact j_zret C hq hret rfl dX7_isWord_17
def m_X7_kindOfWord (ce : Ce) (p0 : Nat) (p1 : Int32) (p2 : Int32) : Option (Int32) :=
  (m_X7_isWord ce 0 p0 p1 p2).bind fun zx1 =>
  if zx1 = 0 then
    (m_X7_isWord ce 1 p0 p1 p2).bind fun zx2 =>
    if zx2 = 0 then
      (m_X7_isWord ce 2 p0 p1 p2).bind fun zx3 =>
      if zx3 = 0 then
        (m_X7_isWord ce 3 p0 p1 p2).bind fun zx4 =>
        if zx4 = 0 then
          some (1 : Int32)
        else
          some (9 : Int32)
      else
        some (8 : Int32)
    else
      some (7 : Int32)
  else
    some (6 : Int32)
set_option maxRecDepth 100000 in
set_option maxHeartbeats 4000000 in
theorem c_X7_kindOfWord {nx : Nat} {ce : Ce} {p0 : Nat} {p1 : Int32} {p2 : Int32} {q : Int32} (hr : m_X7_kindOfWord ce p0 p1 p2 = some q) : Ct yX7_kindOfWord cX7_kindOfWord 3 (some .int) 5 109 0 0 [.ref p0, .int p1, .int p2] nx ce (some (.int q)) ce := by
  unfold m_X7_kindOfWord at hr
  refine ct_of (by decide) (Nat.le_of_ble_eq_true rfl) ?_
  intro G C hq hret hin
  show Jd G 0 0 nx ce 0 [(0, .ref p0), (1, .int p1), (2, .int p2)] []
  refine j_ldcS (k0 := 0) (pc' := 2) C dX7_kindOfWord_0 rfl (by decide) rfl ?_
  refine j_aload_n (q := 0) (pc' := 3) C dX7_kindOfWord_2 rfl rfl rfl ?_
  refine j_iload_n (q := 1) (pc' := 4) C dX7_kindOfWord_3 rfl rfl rfl ?_
  refine j_iload_n (q := 2) (pc' := 5) C dX7_kindOfWord_4 rfl rfl rfl ?_
  obtain ⟨zx1, hzx1, hr⟩ := ob hr
  refine j_callSG (As := [.ref (G.1.2.2.2.2.1 0), .ref p0, .int p1, .int p2]) (rest := []) (st1 := [.int zx1]) (pc' := 8) C wm_511 rfl (c_X7_isWord (nx := nx) hzx1) yw_X7_isWord wm_510 rfl rfl (Nat.le_of_ble_eq_true rfl) ⟨by decide, by decide⟩ dX7_kindOfWord_5 rfl rfl ?_
  refine j_if_eq (tgt := 14) (pc' := 11) C dX7_kindOfWord_8 rfl rfl (fun hc => ?_) (fun hc => ?_)
  · have hr := ifT hc hr
    clear hc
    refine j_ldcS (k0 := 1) (pc' := 16) C dX7_kindOfWord_14 rfl (by decide) rfl ?_
    refine j_aload_n (q := 0) (pc' := 17) C dX7_kindOfWord_16 rfl rfl rfl ?_
    refine j_iload_n (q := 1) (pc' := 18) C dX7_kindOfWord_17 rfl rfl rfl ?_
    refine j_iload_n (q := 2) (pc' := 19) C dX7_kindOfWord_18 rfl rfl rfl ?_
    obtain ⟨zx2, hzx2, hr⟩ := ob hr
    refine j_callSG (As := [.ref (G.1.2.2.2.2.1 1), .ref p0, .int p1, .int p2]) (rest := []) (st1 := [.int zx2]) (pc' := 22) C wm_511 rfl (c_X7_isWord (nx := nx) hzx2) yw_X7_isWord wm_510 rfl rfl (Nat.le_of_ble_eq_true rfl) ⟨by decide, by decide⟩ dX7_kindOfWord_19 rfl rfl ?_
    refine j_if_eq (tgt := 28) (pc' := 25) C dX7_kindOfWord_22 rfl rfl (fun hc => ?_) (fun hc => ?_)
    · have hr := ifT hc hr
      clear hc
      refine j_ldcS (k0 := 2) (pc' := 30) C dX7_kindOfWord_28 rfl (by decide) rfl ?_
      refine j_aload_n (q := 0) (pc' := 31) C dX7_kindOfWord_30 rfl rfl rfl ?_
      refine j_iload_n (q := 1) (pc' := 32) C dX7_kindOfWord_31 rfl rfl rfl ?_
      refine j_iload_n (q := 2) (pc' := 33) C dX7_kindOfWord_32 rfl rfl rfl ?_
      obtain ⟨zx3, hzx3, hr⟩ := ob hr
      refine j_callSG (As := [.ref (G.1.2.2.2.2.1 2), .ref p0, .int p1, .int p2]) (rest := []) (st1 := [.int zx3]) (pc' := 36) C wm_511 rfl (c_X7_isWord (nx := nx) hzx3) yw_X7_isWord wm_510 rfl rfl (Nat.le_of_ble_eq_true rfl) ⟨by decide, by decide⟩ dX7_kindOfWord_33 rfl rfl ?_
      refine j_if_eq (tgt := 42) (pc' := 39) C dX7_kindOfWord_36 rfl rfl (fun hc => ?_) (fun hc => ?_)
      · have hr := ifT hc hr
        clear hc
        refine j_ldcS (k0 := 3) (pc' := 44) C dX7_kindOfWord_42 rfl (by decide) rfl ?_
        refine j_aload_n (q := 0) (pc' := 45) C dX7_kindOfWord_44 rfl rfl rfl ?_
        refine j_iload_n (q := 1) (pc' := 46) C dX7_kindOfWord_45 rfl rfl rfl ?_
        refine j_iload_n (q := 2) (pc' := 47) C dX7_kindOfWord_46 rfl rfl rfl ?_
        obtain ⟨zx4, hzx4, hr⟩ := ob hr
        refine j_callSG (As := [.ref (G.1.2.2.2.2.1 3), .ref p0, .int p1, .int p2]) (rest := []) (st1 := [.int zx4]) (pc' := 50) C wm_511 rfl (c_X7_isWord (nx := nx) hzx4) yw_X7_isWord wm_510 rfl rfl (Nat.le_of_ble_eq_true rfl) ⟨by decide, by decide⟩ dX7_kindOfWord_47 rfl rfl ?_
        refine j_if_eq (tgt := 58) (pc' := 53) C dX7_kindOfWord_50 rfl rfl (fun hc => ?_) (fun hc => ?_)
        · have hr := ifT hc hr
          clear hc
          refine j_iconst (v := 1) (pc' := 59) C dX7_kindOfWord_58 kI_1 rfl ?_
          have hr := Option.some.inj hr
          subst hr
          exact j_iret C hq hret dX7_kindOfWord_59
        · have hr := ifF hc hr
          clear hc
          refine j_bipush (v := 9) (pc' := 55) C dX7_kindOfWord_53 kB_9 rfl ?_
          refine j_goto (tgt := 59) C dX7_kindOfWord_55 rfl ?_
          have hr := Option.some.inj hr
          subst hr
          exact j_iret C hq hret dX7_kindOfWord_59
      · have hr := ifF hc hr
        clear hc
        refine j_bipush (v := 8) (pc' := 41) C dX7_kindOfWord_39 kB_8 rfl ?_
        have hr := Option.some.inj hr
        subst hr
        exact j_iret C hq hret dX7_kindOfWord_41
    · have hr := ifF hc hr
      clear hc
      refine j_bipush (v := 7) (pc' := 27) C dX7_kindOfWord_25 kB_7 rfl ?_
      have hr := Option.some.inj hr
      subst hr
      exact j_iret C hq hret dX7_kindOfWord_27
  · have hr := ifF hc hr
    clear hc
    refine j_bipush (v := 6) (pc' := 13) C dX7_kindOfWord_11 kB_6 rfl ?_
    have hr := Option.some.inj hr
    subst hr
    exact j_iret C hq hret dX7_kindOfWord_13
