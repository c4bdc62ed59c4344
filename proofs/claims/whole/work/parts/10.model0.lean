def m_X12_putSet (ce : Ce) (this : Nat) (p1 : Int32) (p2 : Int64) : Option (Unit × Ce) :=
  (gA ce 9 0 this).bind fun zx1 =>
  (sI ce zx1 ((18 : Int32) + ((2 : Int32) * p1)) (Int64.toInt32 p2)).bind fun zc2 =>
  (gA zc2 9 0 this).bind fun zx3 =>
  (sI zc2 zx3 (((18 : Int32) + ((2 : Int32) * p1)) + (1 : Int32)) (Int64.toInt32 (p2 >>> (Int32.toInt64 (32 : Int32) &&& 63)))).bind fun zc4 =>
  some ((), zc4)
set_option maxRecDepth 100000 in
set_option maxHeartbeats 4000000 in
theorem c_X12_putSet {nx : Nat} {ce : Ce} {this : Nat} {p1 : Int32} {p2 : Int64} {q : Unit × Ce} (hr : m_X12_putSet ce this p1 p2 = some q) : Ct yX12_putSet cX12_putSet 4 none 0 0 0 0 [.ref this, .int p1, .long p2] nx ce none q.2 := by
  unfold m_X12_putSet at hr
  refine ct_of (by decide) (Nat.le_of_ble_eq_true rfl) ?_
  intro G C hq hret hin
  show Jd G 0 0 nx ce 0 [(0, .ref this), (1, .int p1), (2, .long p2)] []
  refine j_aload_n (q := 0) (pc' := 1) C dX12_putSet_0 rfl rfl rfl ?_
  obtain ⟨zx1, hzx1, hr⟩ := ob hr
  refine j_getA (pc' := 4) C dX12_putSet_1 fl_X12_8 hzx1 rfl ?_
  refine j_bipush (v := 18) (pc' := 6) C dX12_putSet_4 kB_18 rfl ?_
  refine j_iconst (v := 2) (pc' := 7) C dX12_putSet_6 kI_2 rfl ?_
  refine j_iload_n (q := 1) (pc' := 8) C dX12_putSet_7 rfl rfl rfl ?_
  refine j_imul (pc' := 9) C dX12_putSet_8 rfl ?_
  refine j_iadd (pc' := 10) C dX12_putSet_9 rfl ?_
  refine j_lload_n (q := 2) (pc' := 11) C dX12_putSet_10 rfl rfl rfl ?_
  refine j_l2i (pc' := 12) C dX12_putSet_11 rfl ?_
  obtain ⟨zc2, hzc2, hr⟩ := ob hr
  refine j_iast (pc' := 13) C dX12_putSet_12 hzc2 rfl ?_
  refine j_aload_n (q := 0) (pc' := 14) C dX12_putSet_13 rfl rfl rfl ?_
  obtain ⟨zx3, hzx3, hr⟩ := ob hr
  refine j_getA (pc' := 17) C dX12_putSet_14 fl_X12_8 hzx3 rfl ?_
  refine j_bipush (v := 18) (pc' := 19) C dX12_putSet_17 kB_18 rfl ?_
  refine j_iconst (v := 2) (pc' := 20) C dX12_putSet_19 kI_2 rfl ?_
  refine j_iload_n (q := 1) (pc' := 21) C dX12_putSet_20 rfl rfl rfl ?_
  refine j_imul (pc' := 22) C dX12_putSet_21 rfl ?_
  refine j_iadd (pc' := 23) C dX12_putSet_22 rfl ?_
  refine j_iconst (v := 1) (pc' := 24) C dX12_putSet_23 kI_1 rfl ?_
  refine j_iadd (pc' := 25) C dX12_putSet_24 rfl ?_
  refine j_lload_n (q := 2) (pc' := 26) C dX12_putSet_25 rfl rfl rfl ?_
  refine j_bipush (v := 32) (pc' := 28) C dX12_putSet_26 kB_32 rfl ?_
  refine j_lshr (pc' := 29) C dX12_putSet_28 rfl ?_
  refine j_l2i (pc' := 30) C dX12_putSet_29 rfl ?_
  obtain ⟨zc4, hzc4, hr⟩ := ob hr
  refine j_iast (pc' := 31) C dX12_putSet_30 hzc4 rfl ?_
  have hr := Option.some.inj hr
  subst hr
  exact j_vret C hq hret dX12_putSet_31
def m_X12_anew (ce : Ce) (this : Nat) : Option (Unit × Ce) :=
  (gA ce 9 0 this).bind fun zx1 =>
  (sI ce zx1 (4 : Int32) (1 : Int32)).bind fun zc2 =>
  (gA zc2 9 0 this).bind fun zx3 =>
  (sI zc2 zx3 (5 : Int32) (0 : Int32)).bind fun zc4 =>
  (gA zc4 9 0 this).bind fun zx5 =>
  (sI zc4 zx5 (6 : Int32) (0 : Int32)).bind fun zc6 =>
  (gA zc6 9 0 this).bind fun zx7 =>
  (sI zc6 zx7 (8 : Int32) (0 : Int32)).bind fun zc8 =>
  (gA zc8 9 0 this).bind fun zx9 =>
  (sI zc8 zx9 (10 : Int32) (0 : Int32)).bind fun zc10 =>
  (gA zc10 9 0 this).bind fun zx11 =>
  (sI zc10 zx11 (11 : Int32) (0 : Int32)).bind fun zc12 =>
  (gA zc12 9 0 this).bind fun zx13 =>
  (sI zc12 zx13 (12 : Int32) (0 : Int32)).bind fun zc14 =>
  (gA zc14 9 0 this).bind fun zx15 =>
  (sI zc14 zx15 (13 : Int32) (0 : Int32)).bind fun zc16 =>
  (gA zc16 9 0 this).bind fun zx17 =>
  (sI zc16 zx17 (14 : Int32) (0 : Int32)).bind fun zc18 =>
  (gA zc18 9 0 this).bind fun zx19 =>
  (sI zc18 zx19 (16 : Int32) (0 : Int32)).bind fun zc20 =>
  (gA zc20 9 0 this).bind fun zx21 =>
  (sI zc20 zx21 (17 : Int32) (0 : Int32)).bind fun zc22 =>
  (gA zc22 9 0 this).bind fun zx23 =>
  (sI zc22 zx23 (9 : Int32) (0 : Int32)).bind fun zc24 =>
  (it (fun (zs25 : Int32 × Ce) =>
    if (6 : Int32) ≤ zs25.1 then
      some (Sum.inr ((), zs25.2))
    else
      (gA zs25.2 9 2 this).bind fun zx30 =>
      (sG zs25.2 zx30 zs25.1 FP.fconst0).bind fun zc31 =>
      some (Sum.inl ((zs25.1 + (1 : Int32)), zc31))
  ) FU ((0 : Int32), zc24)).bind fun (zo26 : Unit × Ce) =>
  (gA zo26.2 9 2 this).bind fun zx28 =>
  (sG zo26.2 zx28 (6 : Int32) FP.fconst1).bind fun zc29 =>
  some ((), zc29)
set_option maxRecDepth 100000 in
set_option maxHeartbeats 4000000 in
theorem c_X12_anew {nx : Nat} {ce : Ce} {this : Nat} {q : Unit × Ce} (hr : m_X12_anew ce this = some q) : Ct yX12_anew cX12_anew 2 none 0 0 0 0 [.ref this] nx ce none q.2 := by
  unfold m_X12_anew at hr
  refine ct_of (by decide) (Nat.le_of_ble_eq_true rfl) ?_
  intro G C hq hret hin
  show Jd G 0 0 nx ce 0 [(0, .ref this)] []
  refine j_aload_n (q := 0) (pc' := 1) C dX12_anew_0 rfl rfl rfl ?_
  obtain ⟨zx1, hzx1, hr⟩ := ob hr
  refine j_getA (pc' := 4) C dX12_anew_1 fl_X12_8 hzx1 rfl ?_
  refine j_iconst (v := 4) (pc' := 5) C dX12_anew_4 kI_4 rfl ?_
  refine j_iconst (v := 1) (pc' := 6) C dX12_anew_5 kI_1 rfl ?_
  obtain ⟨zc2, hzc2, hr⟩ := ob hr
  refine j_iast (pc' := 7) C dX12_anew_6 hzc2 rfl ?_
  refine j_aload_n (q := 0) (pc' := 8) C dX12_anew_7 rfl rfl rfl ?_
  obtain ⟨zx3, hzx3, hr⟩ := ob hr
  refine j_getA (pc' := 11) C dX12_anew_8 fl_X12_8 hzx3 rfl ?_
  refine j_iconst (v := 5) (pc' := 12) C dX12_anew_11 kI_5 rfl ?_
  refine j_iconst (v := 0) (pc' := 13) C dX12_anew_12 kI_0 rfl ?_
  obtain ⟨zc4, hzc4, hr⟩ := ob hr
  refine j_iast (pc' := 14) C dX12_anew_13 hzc4 rfl ?_
  refine j_aload_n (q := 0) (pc' := 15) C dX12_anew_14 rfl rfl rfl ?_
  obtain ⟨zx5, hzx5, hr⟩ := ob hr
  refine j_getA (pc' := 18) C dX12_anew_15 fl_X12_8 hzx5 rfl ?_
  refine j_bipush (v := 6) (pc' := 20) C dX12_anew_18 kB_6 rfl ?_
  refine j_iconst (v := 0) (pc' := 21) C dX12_anew_20 kI_0 rfl ?_
  obtain ⟨zc6, hzc6, hr⟩ := ob hr
  refine j_iast (pc' := 22) C dX12_anew_21 hzc6 rfl ?_
  refine j_aload_n (q := 0) (pc' := 23) C dX12_anew_22 rfl rfl rfl ?_
  obtain ⟨zx7, hzx7, hr⟩ := ob hr
  refine j_getA (pc' := 26) C dX12_anew_23 fl_X12_8 hzx7 rfl ?_
  refine j_bipush (v := 8) (pc' := 28) C dX12_anew_26 kB_8 rfl ?_
  refine j_iconst (v := 0) (pc' := 29) C dX12_anew_28 kI_0 rfl ?_
  obtain ⟨zc8, hzc8, hr⟩ := ob hr
  refine j_iast (pc' := 30) C dX12_anew_29 hzc8 rfl ?_
  refine j_aload_n (q := 0) (pc' := 31) C dX12_anew_30 rfl rfl rfl ?_
  obtain ⟨zx9, hzx9, hr⟩ := ob hr
  refine j_getA (pc' := 34) C dX12_anew_31 fl_X12_8 hzx9 rfl ?_
  refine j_bipush (v := 10) (pc' := 36) C dX12_anew_34 kB_10 rfl ?_
  refine j_iconst (v := 0) (pc' := 37) C dX12_anew_36 kI_0 rfl ?_
  obtain ⟨zc10, hzc10, hr⟩ := ob hr
  refine j_iast (pc' := 38) C dX12_anew_37 hzc10 rfl ?_
  refine j_aload_n (q := 0) (pc' := 39) C dX12_anew_38 rfl rfl rfl ?_
  obtain ⟨zx11, hzx11, hr⟩ := ob hr
  refine j_getA (pc' := 42) C dX12_anew_39 fl_X12_8 hzx11 rfl ?_
  refine j_bipush (v := 11) (pc' := 44) C dX12_anew_42 kB_11 rfl ?_
  refine j_iconst (v := 0) (pc' := 45) C dX12_anew_44 kI_0 rfl ?_
  obtain ⟨zc12, hzc12, hr⟩ := ob hr
  refine j_iast (pc' := 46) C dX12_anew_45 hzc12 rfl ?_
  refine j_aload_n (q := 0) (pc' := 47) C dX12_anew_46 rfl rfl rfl ?_
  obtain ⟨zx13, hzx13, hr⟩ := ob hr
  refine j_getA (pc' := 50) C dX12_anew_47 fl_X12_8 hzx13 rfl ?_
  refine j_bipush (v := 12) (pc' := 52) C dX12_anew_50 kB_12 rfl ?_
  refine j_iconst (v := 0) (pc' := 53) C dX12_anew_52 kI_0 rfl ?_
  obtain ⟨zc14, hzc14, hr⟩ := ob hr
  refine j_iast (pc' := 54) C dX12_anew_53 hzc14 rfl ?_
  refine j_aload_n (q := 0) (pc' := 55) C dX12_anew_54 rfl rfl rfl ?_
  obtain ⟨zx15, hzx15, hr⟩ := ob hr
  refine j_getA (pc' := 58) C dX12_anew_55 fl_X12_8 hzx15 rfl ?_
  refine j_bipush (v := 13) (pc' := 60) C dX12_anew_58 kB_13 rfl ?_
  refine j_iconst (v := 0) (pc' := 61) C dX12_anew_60 kI_0 rfl ?_
  obtain ⟨zc16, hzc16, hr⟩ := ob hr
  refine j_iast (pc' := 62) C dX12_anew_61 hzc16 rfl ?_
  refine j_aload_n (q := 0) (pc' := 63) C dX12_anew_62 rfl rfl rfl ?_
  obtain ⟨zx17, hzx17, hr⟩ := ob hr
  refine j_getA (pc' := 66) C dX12_anew_63 fl_X12_8 hzx17 rfl ?_
  refine j_bipush (v := 14) (pc' := 68) C dX12_anew_66 kB_14 rfl ?_
  refine j_iconst (v := 0) (pc' := 69) C dX12_anew_68 kI_0 rfl ?_
  obtain ⟨zc18, hzc18, hr⟩ := ob hr
  refine j_iast (pc' := 70) C dX12_anew_69 hzc18 rfl ?_
  refine j_aload_n (q := 0) (pc' := 71) C dX12_anew_70 rfl rfl rfl ?_
  obtain ⟨zx19, hzx19, hr⟩ := ob hr
  refine j_getA (pc' := 74) C dX12_anew_71 fl_X12_8 hzx19 rfl ?_
  refine j_bipush (v := 16) (pc' := 76) C dX12_anew_74 kB_16 rfl ?_
  refine j_iconst (v := 0) (pc' := 77) C dX12_anew_76 kI_0 rfl ?_
  obtain ⟨zc20, hzc20, hr⟩ := ob hr
  refine j_iast (pc' := 78) C dX12_anew_77 hzc20 rfl ?_
  refine j_aload_n (q := 0) (pc' := 79) C dX12_anew_78 rfl rfl rfl ?_
  obtain ⟨zx21, hzx21, hr⟩ := ob hr
  refine j_getA (pc' := 82) C dX12_anew_79 fl_X12_8 hzx21 rfl ?_
  refine j_bipush (v := 17) (pc' := 84) C dX12_anew_82 kB_17 rfl ?_
  refine j_iconst (v := 0) (pc' := 85) C dX12_anew_84 kI_0 rfl ?_
  obtain ⟨zc22, hzc22, hr⟩ := ob hr
  refine j_iast (pc' := 86) C dX12_anew_85 hzc22 rfl ?_
  refine j_aload_n (q := 0) (pc' := 87) C dX12_anew_86 rfl rfl rfl ?_
  obtain ⟨zx23, hzx23, hr⟩ := ob hr
  refine j_getA (pc' := 90) C dX12_anew_87 fl_X12_8 hzx23 rfl ?_
  refine j_bipush (v := 9) (pc' := 92) C dX12_anew_90 kB_9 rfl ?_
  refine j_iconst (v := 0) (pc' := 93) C dX12_anew_92 kI_0 rfl ?_
  obtain ⟨zc24, hzc24, hr⟩ := ob hr
  refine j_iast (pc' := 94) C dX12_anew_93 hzc24 rfl ?_
  refine j_iconst (v := 0) (pc' := 95) C dX12_anew_94 kI_0 rfl ?_
  refine j_istore_n (lv' := [(1, .int (0 : Int32)), (0, .ref this)]) (pc' := 96) C dX12_anew_95 rfl (by decide) rfl rfl ?_
  obtain ⟨zo26, hzo26, rzo26⟩ := ob hr
  have kzo26 : Jd G 0 0 nx zo26.2 115 [(0, .ref this)] [] := by
    have hr := rzo26
    refine j_aload_n (q := 0) (pc' := 116) C dX12_anew_115 rfl rfl rfl ?_
    obtain ⟨zx28, hzx28, hr⟩ := ob hr
    refine j_getA (pc' := 119) C dX12_anew_116 fl_X12_17 hzx28 rfl ?_
    refine j_bipush (v := 6) (pc' := 121) C dX12_anew_119 kB_6 rfl ?_
    refine j_fconst1 (pc' := 122) C dX12_anew_121 rfl ?_
    obtain ⟨zc29, hzc29, hr⟩ := ob hr
    refine j_fast (pc' := 123) C dX12_anew_122 hzc29 rfl ?_
    have hr := Option.some.inj hr
    subst hr
    exact j_vret C hq hret dX12_anew_123
  refine j_lv (lv' := [(0, .ref this), (1, .int (0 : Int32))]) [1, 0] rfl ?_
  refine it_J (J := (fun (zs25 : Int32 × Ce) => Jd G 0 0 nx zs25.2 96 [(0, .ref this), (1, .int zs25.1)] [])) ?_ hzo26
  clear hzo26
  intro zs25 zr27 hr izs25 ezs25
  refine j_iload_n (q := 1) (pc' := 97) C dX12_anew_96 rfl rfl rfl ?_
  refine j_bipush (v := 6) (pc' := 99) C dX12_anew_97 kB_6 rfl ?_
  refine j_ic_ge (tgt := 115) (pc' := 102) C dX12_anew_99 rfl rfl (fun hc => ?_) (fun hc => ?_)
  · have hr := ifT hc hr
    clear hc
    have hr := ezs25 _ (Option.some.inj hr).symm
    subst hr
    exact j_lv [0] rfl kzo26
  · have hr := ifF hc hr
    clear hc
    refine j_aload_n (q := 0) (pc' := 103) C dX12_anew_102 rfl rfl rfl ?_
    obtain ⟨zx30, hzx30, hr⟩ := ob hr
    refine j_getA (pc' := 106) C dX12_anew_103 fl_X12_17 hzx30 rfl ?_
    refine j_iload_n (q := 1) (pc' := 107) C dX12_anew_106 rfl rfl rfl ?_
    refine j_fconst0 (pc' := 108) C dX12_anew_107 rfl ?_
    obtain ⟨zc31, hzc31, hr⟩ := ob hr
    refine j_fast (pc' := 109) C dX12_anew_108 hzc31 rfl ?_
    refine j_iinc (q := 1) (v := 1) (lv' := [(1, .int (zs25.1 + (1 : Int32))), (0, .ref this)]) (pc' := 112) C dX12_anew_109 rfl kI_1 (by decide) rfl rfl ?_
    refine j_goto (tgt := 96) C dX12_anew_112 rfl ?_
    have hr := izs25 ((zs25.1 + (1 : Int32)), zc31) (Option.some.inj hr).symm
    exact j_lv [1, 0] rfl hr
def m_X12_copy (ce : Ce) (p0 : Nat) (p1 : Nat) : Option (Unit × Ce) :=
  (it (fun (zs1 : Int32 × Ce) =>
    if (113844 : Int32) ≤ zs1.1 then
      some (Sum.inr ((), zs1.2))
    else
      (aI zs1.2 p0 zs1.1).bind fun zx4 =>
      (sI zs1.2 p1 zs1.1 zx4).bind fun zc5 =>
      some (Sum.inl ((zs1.1 + (1 : Int32)), zc5))
  ) FU ((0 : Int32), ce)).bind fun (zo2 : Unit × Ce) =>
  some ((), zo2.2)
set_option maxRecDepth 100000 in
set_option maxHeartbeats 4000000 in
theorem c_X12_copy {nx : Nat} {ce : Ce} {p0 : Nat} {p1 : Nat} {q : Unit × Ce} (hr : m_X12_copy ce p0 p1 = some q) : Ct yX12_copy cX12_copy 3 none 0 0 0 0 [.ref p0, .ref p1] nx ce none q.2 := by
  unfold m_X12_copy at hr
  refine ct_of (by decide) (Nat.le_of_ble_eq_true rfl) ?_
  intro G C hq hret hin
  show Jd G 0 0 nx ce 0 [(0, .ref p0), (1, .ref p1)] []
  refine j_iconst (v := 0) (pc' := 1) C dX12_copy_0 kI_0 rfl ?_
  refine j_istore_n (lv' := [(2, .int (0 : Int32)), (0, .ref p0), (1, .ref p1)]) (pc' := 2) C dX12_copy_1 rfl (by decide) rfl rfl ?_
  obtain ⟨zo2, hzo2, rzo2⟩ := ob hr
  have kzo2 : Jd G 0 0 nx zo2.2 20 [] [] := by
    have hr := rzo2
    have hr := Option.some.inj hr
    subst hr
    exact j_vret C hq hret dX12_copy_20
  refine j_lv (lv' := [(0, .ref p0), (1, .ref p1), (2, .int (0 : Int32))]) [1, 2, 0] rfl ?_
  refine it_J (J := (fun (zs1 : Int32 × Ce) => Jd G 0 0 nx zs1.2 2 [(0, .ref p0), (1, .ref p1), (2, .int zs1.1)] [])) ?_ hzo2
  clear hzo2
  intro zs1 zr3 hr izs1 ezs1
  refine j_iload_n (q := 2) (pc' := 3) C dX12_copy_2 rfl rfl rfl ?_
  refine j_ldc (pc' := 5) C dX12_copy_3 wm_1401 rfl ?_
  refine j_ic_ge (tgt := 20) (pc' := 8) C dX12_copy_5 rfl rfl (fun hc => ?_) (fun hc => ?_)
  · have hr := ifT hc hr
    clear hc
    have hr := ezs1 _ (Option.some.inj hr).symm
    subst hr
    exact j_lv [] rfl kzo2
  · have hr := ifF hc hr
    clear hc
    refine j_aload_n (q := 1) (pc' := 9) C dX12_copy_8 rfl rfl rfl ?_
    refine j_iload_n (q := 2) (pc' := 10) C dX12_copy_9 rfl rfl rfl ?_
    refine j_aload_n (q := 0) (pc' := 11) C dX12_copy_10 rfl rfl rfl ?_
    refine j_iload_n (q := 2) (pc' := 12) C dX12_copy_11 rfl rfl rfl ?_
    obtain ⟨zx4, hzx4, hr⟩ := ob hr
    refine j_iald (pc' := 13) C dX12_copy_12 hzx4 rfl ?_
    obtain ⟨zc5, hzc5, hr⟩ := ob hr
    refine j_iast (pc' := 14) C dX12_copy_13 hzc5 rfl ?_
    refine j_iinc (q := 2) (v := 1) (lv' := [(2, .int (zs1.1 + (1 : Int32))), (0, .ref p0), (1, .ref p1)]) (pc' := 17) C dX12_copy_14 rfl kI_1 (by decide) rfl rfl ?_
    refine j_goto (tgt := 2) C dX12_copy_17 rfl ?_
    have hr := izs1 ((zs1.1 + (1 : Int32)), zc5) (Option.some.inj hr).symm
    exact j_lv [1, 2, 0] rfl hr
def m_X12_copyFloats (ce : Ce) (p0 : Nat) (p1 : Nat) : Option (Unit × Ce) :=
  (it (fun (zs1 : Int32 × Ce) =>
    if (147 : Int32) ≤ zs1.1 then
      some (Sum.inr ((), zs1.2))
    else
      (aG zs1.2 p0 zs1.1).bind fun zx4 =>
      (sG zs1.2 p1 zs1.1 zx4).bind fun zc5 =>
      some (Sum.inl ((zs1.1 + (1 : Int32)), zc5))
  ) FU ((0 : Int32), ce)).bind fun (zo2 : Unit × Ce) =>
  some ((), zo2.2)
set_option maxRecDepth 100000 in
set_option maxHeartbeats 4000000 in
theorem c_X12_copyFloats {nx : Nat} {ce : Ce} {p0 : Nat} {p1 : Nat} {q : Unit × Ce} (hr : m_X12_copyFloats ce p0 p1 = some q) : Ct yX12_copyFloats cX12_copyFloats 3 none 0 0 0 0 [.ref p0, .ref p1] nx ce none q.2 := by
  unfold m_X12_copyFloats at hr
  refine ct_of (by decide) (Nat.le_of_ble_eq_true rfl) ?_
  intro G C hq hret hin
  show Jd G 0 0 nx ce 0 [(0, .ref p0), (1, .ref p1)] []
  refine j_iconst (v := 0) (pc' := 1) C dX12_copyFloats_0 kI_0 rfl ?_
  refine j_istore_n (lv' := [(2, .int (0 : Int32)), (0, .ref p0), (1, .ref p1)]) (pc' := 2) C dX12_copyFloats_1 rfl (by decide) rfl rfl ?_
  obtain ⟨zo2, hzo2, rzo2⟩ := ob hr
  have kzo2 : Jd G 0 0 nx zo2.2 21 [] [] := by
    have hr := rzo2
    have hr := Option.some.inj hr
    subst hr
    exact j_vret C hq hret dX12_copyFloats_21
  refine j_lv (lv' := [(0, .ref p0), (1, .ref p1), (2, .int (0 : Int32))]) [1, 2, 0] rfl ?_
  refine it_J (J := (fun (zs1 : Int32 × Ce) => Jd G 0 0 nx zs1.2 2 [(0, .ref p0), (1, .ref p1), (2, .int zs1.1)] [])) ?_ hzo2
  clear hzo2
  intro zs1 zr3 hr izs1 ezs1
  refine j_iload_n (q := 2) (pc' := 3) C dX12_copyFloats_2 rfl rfl rfl ?_
  refine j_sipush (v := 147) (pc' := 6) C dX12_copyFloats_3 kS_147 rfl ?_
  refine j_ic_ge (tgt := 21) (pc' := 9) C dX12_copyFloats_6 rfl rfl (fun hc => ?_) (fun hc => ?_)
  · have hr := ifT hc hr
    clear hc
    have hr := ezs1 _ (Option.some.inj hr).symm
    subst hr
    exact j_lv [] rfl kzo2
  · have hr := ifF hc hr
    clear hc
    refine j_aload_n (q := 1) (pc' := 10) C dX12_copyFloats_9 rfl rfl rfl ?_
    refine j_iload_n (q := 2) (pc' := 11) C dX12_copyFloats_10 rfl rfl rfl ?_
    refine j_aload_n (q := 0) (pc' := 12) C dX12_copyFloats_11 rfl rfl rfl ?_
    refine j_iload_n (q := 2) (pc' := 13) C dX12_copyFloats_12 rfl rfl rfl ?_
    obtain ⟨zx4, hzx4, hr⟩ := ob hr
    refine j_fald (pc' := 14) C dX12_copyFloats_13 hzx4 rfl ?_
    obtain ⟨zc5, hzc5, hr⟩ := ob hr
    refine j_fast (pc' := 15) C dX12_copyFloats_14 hzc5 rfl ?_
    refine j_iinc (q := 2) (v := 1) (lv' := [(2, .int (zs1.1 + (1 : Int32))), (0, .ref p0), (1, .ref p1)]) (pc' := 18) C dX12_copyFloats_15 rfl kI_1 (by decide) rfl rfl ?_
    refine j_goto (tgt := 2) C dX12_copyFloats_18 rfl ?_
    have hr := izs1 ((zs1.1 + (1 : Int32)), zc5) (Option.some.inj hr).symm
    exact j_lv [1, 2, 0] rfl hr
def m_X12_isIn (p0 : Int32) (p1 : Int32) (p2 : Int32) : Option (Int32) :=
  if p0 < p1 then
    some (0 : Int32)
  else
    if p2 < p0 then
      some (0 : Int32)
    else
      some (1 : Int32)
set_option maxRecDepth 100000 in
set_option maxHeartbeats 4000000 in
theorem c_X12_isIn {nx : Nat} {ce : Ce} {p0 : Int32} {p1 : Int32} {p2 : Int32} {q : Int32} (hr : m_X12_isIn p0 p1 p2 = some q) : Ct yX12_isIn cX12_isIn 3 (some .boolean) 0 0 0 0 [.int p0, .int p1, .int p2] nx ce (some (.int q)) ce := by
  unfold m_X12_isIn at hr
  refine ct_of (by decide) (Nat.le_of_ble_eq_true rfl) ?_
  intro G C hq hret hin
  show Jd G 0 0 nx ce 0 [(0, .int p0), (1, .int p1), (2, .int p2)] []
  refine j_iload_n (q := 0) (pc' := 1) C dX12_isIn_0 rfl rfl rfl ?_
  refine j_iload_n (q := 1) (pc' := 2) C dX12_isIn_1 rfl rfl rfl ?_
  refine j_ic_lt (tgt := 14) (pc' := 5) C dX12_isIn_2 rfl rfl (fun hc => ?_) (fun hc => ?_)
  · have hr := ifT hc hr
    clear hc
    refine j_iconst (v := 0) (pc' := 15) C dX12_isIn_14 kI_0 rfl ?_
    have hr := Option.some.inj hr
    subst hr
    exact j_zret C hq hret rfl dX12_isIn_15
  · have hr := ifF hc hr
    clear hc
    refine j_iload_n (q := 0) (pc' := 6) C dX12_isIn_5 rfl rfl rfl ?_
    refine j_iload_n (q := 2) (pc' := 7) C dX12_isIn_6 rfl rfl rfl ?_
    refine j_ic_gt (tgt := 14) (pc' := 10) C dX12_isIn_7 rfl rfl (fun hc => ?_) (fun hc => ?_)
    · have hr := ifT hc hr
      clear hc
      refine j_iconst (v := 0) (pc' := 15) C dX12_isIn_14 kI_0 rfl ?_
      have hr := Option.some.inj hr
      subst hr
      exact j_zret C hq hret rfl dX12_isIn_15
    · have hr := ifF hc hr
      clear hc
      refine j_iconst (v := 1) (pc' := 11) C dX12_isIn_10 kI_1 rfl ?_
      refine j_goto (tgt := 15) C dX12_isIn_11 rfl ?_
      have hr := Option.some.inj hr
      subst hr
      exact j_zret C hq hret rfl dX12_isIn_15
def m_X12_has (p0 : Int64) (p1 : Int32) : Option (Int32) :=
  if (lg_cmp ((p0 >>> (Int32.toInt64 p1 &&& 63)) &&& (1 : Int64)) (1 : Int64)) = 0 then
    some (1 : Int32)
  else
    some (0 : Int32)
set_option maxRecDepth 100000 in
set_option maxHeartbeats 4000000 in
theorem c_X12_has {nx : Nat} {ce : Ce} {p0 : Int64} {p1 : Int32} {q : Int32} (hr : m_X12_has p0 p1 = some q) : Ct yX12_has cX12_has 3 (some .boolean) 0 0 0 0 [.long p0, .int p1] nx ce (some (.int q)) ce := by
  unfold m_X12_has at hr
  refine ct_of (by decide) (Nat.le_of_ble_eq_true rfl) ?_
  intro G C hq hret hin
  show Jd G 0 0 nx ce 0 [(0, .long p0), (2, .int p1)] []
  refine j_lload_n (q := 0) (pc' := 1) C dX12_has_0 rfl rfl rfl ?_
  refine j_iload_n (q := 1) (pc' := 2) C dX12_has_1 rfl rfl rfl ?_
  refine j_lshr (pc' := 3) C dX12_has_2 rfl ?_
  refine j_lconst (v := 1) (pc' := 4) C dX12_has_3 kL_1 rfl ?_
  refine j_land (pc' := 5) C dX12_has_4 rfl ?_
  refine j_lconst (v := 1) (pc' := 6) C dX12_has_5 kL_1 rfl ?_
  refine j_lcmp (pc' := 7) C dX12_has_6 rfl ?_
  refine j_if_ne (tgt := 14) (pc' := 10) C dX12_has_7 rfl rfl (fun hc => ?_) (fun hc => ?_)
  · have hr := ifF hc hr
    clear hc
    refine j_iconst (v := 0) (pc' := 15) C dX12_has_14 kI_0 rfl ?_
    have hr := Option.some.inj hr
    subst hr
    exact j_zret C hq hret rfl dX12_has_15
  · have hr := ifT hc hr
    clear hc
    refine j_iconst (v := 1) (pc' := 11) C dX12_has_10 kI_1 rfl ?_
    refine j_goto (tgt := 15) C dX12_has_11 rfl ?_
    have hr := Option.some.inj hr
    subst hr
    exact j_zret C hq hret rfl dX12_has_15
def m_X12_many (p0 : Int64) : Option (Int32) :=
  (it (fun (zs1 : Int32 × Int64) =>
    if (lg_cmp zs1.2 (0 : Int64)) = 0 then
      some (Sum.inr zs1.1)
    else
      some (Sum.inl ((zs1.1 + (1 : Int32)), (zs1.2 &&& (zs1.2 - (1 : Int64)))))
  ) FU ((0 : Int32), p0)).bind fun (zo2 : Int32) =>
  some zo2
set_option maxRecDepth 100000 in
set_option maxHeartbeats 4000000 in
theorem c_X12_many {nx : Nat} {ce : Ce} {p0 : Int64} {q : Int32} (hr : m_X12_many p0 = some q) : Ct yX12_many cX12_many 5 (some .int) 0 0 0 0 [.long p0] nx ce (some (.int q)) ce := by
  unfold m_X12_many at hr
  refine ct_of (by decide) (Nat.le_of_ble_eq_true rfl) ?_
  intro G C hq hret hin
  show Jd G 0 0 nx ce 0 [(0, .long p0)] []
  refine j_iconst (v := 0) (pc' := 1) C dX12_many_0 kI_0 rfl ?_
  refine j_istore_n (lv' := [(2, .int (0 : Int32)), (0, .long p0)]) (pc' := 2) C dX12_many_1 rfl (by decide) rfl rfl ?_
  refine j_lload_n (q := 1) (pc' := 3) C dX12_many_2 rfl rfl rfl ?_
  refine j_lstore_n (lv' := [(3, .long p0), (2, .int (0 : Int32)), (0, .long p0)]) (pc' := 4) C dX12_many_3 rfl (by decide) rfl rfl ?_
  obtain ⟨zo2, hzo2, rzo2⟩ := ob hr
  have kzo2 : Jd G 0 0 nx ce 22 [(2, .int zo2)] [] := by
    have hr := rzo2
    refine j_iload_n (q := 0) (pc' := 23) C dX12_many_22 rfl rfl rfl ?_
    have hr := Option.some.inj hr
    subst hr
    exact j_iret C hq hret dX12_many_23
  refine j_lv (lv' := [(2, .int (0 : Int32)), (3, .long p0)]) [1, 0] rfl ?_
  refine it_J (J := (fun (zs1 : Int32 × Int64) => Jd G 0 0 nx ce 4 [(2, .int zs1.1), (3, .long zs1.2)] [])) ?_ hzo2
  clear hzo2
  intro zs1 zr3 hr izs1 ezs1
  refine j_lload_n (q := 1) (pc' := 5) C dX12_many_4 rfl rfl rfl ?_
  refine j_lconst (v := 0) (pc' := 6) C dX12_many_5 kL_0 rfl ?_
  refine j_lcmp (pc' := 7) C dX12_many_6 rfl ?_
  refine j_if_eq (tgt := 22) (pc' := 10) C dX12_many_7 rfl rfl (fun hc => ?_) (fun hc => ?_)
  · have hr := ifT hc hr
    clear hc
    have hr := ezs1 _ (Option.some.inj hr).symm
    subst hr
    exact j_lv [0] rfl kzo2
  · have hr := ifF hc hr
    clear hc
    refine j_iinc (q := 0) (v := 1) (lv' := [(2, .int (zs1.1 + (1 : Int32))), (3, .long zs1.2)]) (pc' := 13) C dX12_many_10 rfl kI_1 (by decide) rfl rfl ?_
    refine j_lload_n (q := 1) (pc' := 14) C dX12_many_13 rfl rfl rfl ?_
    refine j_lload_n (q := 1) (pc' := 15) C dX12_many_14 rfl rfl rfl ?_
    refine j_lconst (v := 1) (pc' := 16) C dX12_many_15 kL_1 rfl ?_
    refine j_lsub (pc' := 17) C dX12_many_16 rfl ?_
    refine j_land (pc' := 18) C dX12_many_17 rfl ?_
    refine j_lstore_n (lv' := [(3, .long (zs1.2 &&& (zs1.2 - (1 : Int64)))), (2, .int (zs1.1 + (1 : Int32)))]) (pc' := 19) C dX12_many_18 rfl (by decide) rfl rfl ?_
    refine j_goto (tgt := 4) C dX12_many_19 rfl ?_
    have hr := izs1 ((zs1.1 + (1 : Int32)), (zs1.2 &&& (zs1.2 - (1 : Int64)))) (Option.some.inj hr).symm
    exact j_lv [1, 0] rfl hr
def m_X12_lowest (p0 : Int64) : Option (Int32) :=
  (it (fun (zs1 : Int32) =>
    if (64 : Int32) ≤ zs1 then
      some (Sum.inr (Sum.inr ()))
    else
      (m_X12_has p0 zs1).bind fun zx4 =>
      if zx4 = 0 then
        some (Sum.inl (zs1 + (1 : Int32)))
      else
        some (Sum.inr (Sum.inl zs1))
  ) FU (0 : Int32)).bind fun (zo2 : Int32 ⊕ Unit) =>
  Sum.elim (fun wzo2 => some wzo2) (fun vzo2 =>
    some (-1 : Int32)
  ) zo2
set_option maxRecDepth 100000 in
set_option maxHeartbeats 4000000 in
theorem c_X12_lowest {nx : Nat} {ce : Ce} {p0 : Int64} {q : Int32} (hr : m_X12_lowest p0 = some q) : Ct yX12_lowest cX12_lowest 3 (some .int) 1 22 0 0 [.long p0] nx ce (some (.int q)) ce := by
  unfold m_X12_lowest at hr
  refine ct_of (by decide) (Nat.le_of_ble_eq_true rfl) ?_
  intro G C hq hret hin
  show Jd G 0 0 nx ce 0 [(0, .long p0)] []
  refine j_iconst (v := 0) (pc' := 1) C dX12_lowest_0 kI_0 rfl ?_
  refine j_istore_n (lv' := [(2, .int (0 : Int32)), (0, .long p0)]) (pc' := 2) C dX12_lowest_1 rfl (by decide) rfl rfl ?_
  obtain ⟨zo2, hzo2, rzo2⟩ := ob hr
  have kzo2 : ∀ vzo2, zo2 = Sum.inr vzo2 → Jd G 0 0 nx ce 24 [] [] := by
    intro vzo2 ezo2
    rw [ezo2] at rzo2
    have hr := elR rzo2
    refine j_iconst (v := -1) (pc' := 25) C dX12_lowest_24 kI_m1 rfl ?_
    have hr := Option.some.inj hr
    subst hr
    exact j_iret C hq hret dX12_lowest_25
  refine j_lv (lv' := [(0, .long p0), (2, .int (0 : Int32))]) [1, 0] rfl ?_
  refine it_J (J := (fun (zs1 : Int32) => Jd G 0 0 nx ce 2 [(0, .long p0), (2, .int zs1)] [])) ?_ hzo2
  clear hzo2
  intro zs1 zr3 hr izs1 ezs1
  refine j_iload_n (q := 1) (pc' := 3) C dX12_lowest_2 rfl rfl rfl ?_
  refine j_bipush (v := 64) (pc' := 5) C dX12_lowest_3 kB_64 rfl ?_
  refine j_ic_ge (tgt := 24) (pc' := 8) C dX12_lowest_5 rfl rfl (fun hc => ?_) (fun hc => ?_)
  · have hr := ifT hc hr
    clear hc
    have hr := ezs1 _ (Option.some.inj hr).symm
    subst hr
    exact j_lv [] rfl (kzo2 _ rfl)
  · have hr := ifF hc hr
    clear hc
    refine j_lload_n (q := 0) (pc' := 9) C dX12_lowest_8 rfl rfl rfl ?_
    refine j_iload_n (q := 1) (pc' := 10) C dX12_lowest_9 rfl rfl rfl ?_
    obtain ⟨zx4, hzx4, hr⟩ := ob hr
    refine j_callS (As := [.long p0, .int zs1]) (rest := []) (st1 := [.int zx4]) (pc' := 13) C wm_1645 (c_X12_has (nx := nx) (ce := ce) hzx4) yw_X12_has wm_1644 rfl rfl (Nat.le_of_ble_eq_true rfl) ⟨by decide, by decide⟩ dX12_lowest_10 rfl rfl ?_
    refine j_if_eq (tgt := 18) (pc' := 16) C dX12_lowest_13 rfl rfl (fun hc => ?_) (fun hc => ?_)
    · have hr := ifT hc hr
      clear hc
      refine j_iinc (q := 1) (v := 1) (lv' := [(2, .int (zs1 + (1 : Int32))), (0, .long p0)]) (pc' := 21) C dX12_lowest_18 rfl kI_1 (by decide) rfl rfl ?_
      refine j_goto (tgt := 2) C dX12_lowest_21 rfl ?_
      have hr := izs1 (zs1 + (1 : Int32)) (Option.some.inj hr).symm
      exact j_lv [1, 0] rfl hr
    · have hr := ifF hc hr
      clear hc
      refine j_iload_n (q := 1) (pc' := 17) C dX12_lowest_16 rfl rfl rfl ?_
      have hr := ezs1 _ (Option.some.inj hr).symm
      subst hr
      have hr := elL rzo2
      have hr := Option.some.inj hr
      subst hr
      exact j_iret C hq hret dX12_lowest_17
def m_X12_setOf (ce : Ce) (this : Nat) (p1 : Int32) : Option (Int64) :=
  (gA ce 9 0 this).bind fun zx1 =>
  (aI ce zx1 (((18 : Int32) + ((2 : Int32) * p1)) + (1 : Int32))).bind fun zx2 =>
  (gA ce 9 0 this).bind fun zx3 =>
  (aI ce zx3 ((18 : Int32) + ((2 : Int32) * p1))).bind fun zx4 =>
  some (((Int32.toInt64 zx2) <<< (Int32.toInt64 (32 : Int32) &&& 63)) ||| ((Int32.toInt64 zx4) &&& (4294967295 : Int64)))
set_option maxRecDepth 100000 in
set_option maxHeartbeats 4000000 in
theorem c_X12_setOf {nx : Nat} {ce : Ce} {this : Nat} {p1 : Int32} {q : Int64} (hr : m_X12_setOf ce this p1 = some q) : Ct yX12_setOf cX12_setOf 2 (some .long) 0 0 0 0 [.ref this, .int p1] nx ce (some (.long q)) ce := by
  unfold m_X12_setOf at hr
  refine ct_of (by decide) (Nat.le_of_ble_eq_true rfl) ?_
  intro G C hq hret hin
  show Jd G 0 0 nx ce 0 [(0, .ref this), (1, .int p1)] []
  refine j_aload_n (q := 0) (pc' := 1) C dX12_setOf_0 rfl rfl rfl ?_
  obtain ⟨zx1, hzx1, hr⟩ := ob hr
  refine j_getA (pc' := 4) C dX12_setOf_1 fl_X12_8 hzx1 rfl ?_
  refine j_bipush (v := 18) (pc' := 6) C dX12_setOf_4 kB_18 rfl ?_
  refine j_iconst (v := 2) (pc' := 7) C dX12_setOf_6 kI_2 rfl ?_
  refine j_iload_n (q := 1) (pc' := 8) C dX12_setOf_7 rfl rfl rfl ?_
  refine j_imul (pc' := 9) C dX12_setOf_8 rfl ?_
  refine j_iadd (pc' := 10) C dX12_setOf_9 rfl ?_
  refine j_iconst (v := 1) (pc' := 11) C dX12_setOf_10 kI_1 rfl ?_
  refine j_iadd (pc' := 12) C dX12_setOf_11 rfl ?_
  obtain ⟨zx2, hzx2, hr⟩ := ob hr
  refine j_iald (pc' := 13) C dX12_setOf_12 hzx2 rfl ?_
  refine j_i2l (pc' := 14) C dX12_setOf_13 rfl ?_
  refine j_bipush (v := 32) (pc' := 16) C dX12_setOf_14 kB_32 rfl ?_
  refine j_lshl (pc' := 17) C dX12_setOf_16 rfl ?_
  refine j_aload_n (q := 0) (pc' := 18) C dX12_setOf_17 rfl rfl rfl ?_
  obtain ⟨zx3, hzx3, hr⟩ := ob hr
  refine j_getA (pc' := 21) C dX12_setOf_18 fl_X12_8 hzx3 rfl ?_
  refine j_bipush (v := 18) (pc' := 23) C dX12_setOf_21 kB_18 rfl ?_
  refine j_iconst (v := 2) (pc' := 24) C dX12_setOf_23 kI_2 rfl ?_
  refine j_iload_n (q := 1) (pc' := 25) C dX12_setOf_24 rfl rfl rfl ?_
  refine j_imul (pc' := 26) C dX12_setOf_25 rfl ?_
  refine j_iadd (pc' := 27) C dX12_setOf_26 rfl ?_
  obtain ⟨zx4, hzx4, hr⟩ := ob hr
  refine j_iald (pc' := 28) C dX12_setOf_27 hzx4 rfl ?_
  refine j_i2l (pc' := 29) C dX12_setOf_28 rfl ?_
  refine j_ldc2 (pc' := 32) C dX12_setOf_29 wm_1703 rfl ?_
  refine j_land (pc' := 33) C dX12_setOf_32 rfl ?_
  refine j_lor (pc' := 34) C dX12_setOf_33 rfl ?_
  have hr := Option.some.inj hr
  subst hr
  exact j_lret C hq hret dX12_setOf_34
def m_X12_states (ce : Ce) (this : Nat) : Option (Int32) :=
  (gA ce 9 0 this).bind fun zx1 =>
  (aI ce zx1 (3 : Int32)).bind fun zx2 =>
  some ((1 : Int32) <<< (zx2 &&& 31))
set_option maxRecDepth 100000 in
set_option maxHeartbeats 4000000 in
theorem c_X12_states {nx : Nat} {ce : Ce} {this : Nat} {q : Int32} (hr : m_X12_states ce this = some q) : Ct yX12_states cX12_states 1 (some .int) 0 0 0 0 [.ref this] nx ce (some (.int q)) ce := by
  unfold m_X12_states at hr
  refine ct_of (by decide) (Nat.le_of_ble_eq_true rfl) ?_
  intro G C hq hret hin
  show Jd G 0 0 nx ce 0 [(0, .ref this)] []
  refine j_iconst (v := 1) (pc' := 1) C dX12_states_0 kI_1 rfl ?_
  refine j_aload_n (q := 0) (pc' := 2) C dX12_states_1 rfl rfl rfl ?_
  obtain ⟨zx1, hzx1, hr⟩ := ob hr
  refine j_getA (pc' := 5) C dX12_states_2 fl_X12_8 hzx1 rfl ?_
  refine j_iconst (v := 3) (pc' := 6) C dX12_states_5 kI_3 rfl ?_
  obtain ⟨zx2, hzx2, hr⟩ := ob hr
  refine j_iald (pc' := 7) C dX12_states_6 hzx2 rfl ?_
  refine j_ishl (pc' := 8) C dX12_states_7 rfl ?_
  have hr := Option.some.inj hr
  subst hr
  exact j_iret C hq hret dX12_states_8
def m_X12_allOf (p0 : Int32) : Option (Int64) :=
  if p0 = (6 : Int32) then
    some (-1 : Int64)
  else
    some (((1 : Int64) <<< (Int32.toInt64 ((1 : Int32) <<< (p0 &&& 31)) &&& 63)) - (1 : Int64))
set_option maxRecDepth 100000 in
set_option maxHeartbeats 4000000 in
theorem c_X12_allOf {nx : Nat} {ce : Ce} {p0 : Int32} {q : Int64} (hr : m_X12_allOf p0 = some q) : Ct yX12_allOf cX12_allOf 1 (some .long) 0 0 0 0 [.int p0] nx ce (some (.long q)) ce := by
  unfold m_X12_allOf at hr
  refine ct_of (by decide) (Nat.le_of_ble_eq_true rfl) ?_
  intro G C hq hret hin
  show Jd G 0 0 nx ce 0 [(0, .int p0)] []
  refine j_iload_n (q := 0) (pc' := 1) C dX12_allOf_0 rfl rfl rfl ?_
  refine j_bipush (v := 6) (pc' := 3) C dX12_allOf_1 kB_6 rfl ?_
  refine j_ic_ne (tgt := 12) (pc' := 6) C dX12_allOf_3 rfl rfl (fun hc => ?_) (fun hc => ?_)
  · have hr := ifF hc hr
    clear hc
    refine j_lconst (v := 1) (pc' := 13) C dX12_allOf_12 kL_1 rfl ?_
    refine j_iconst (v := 1) (pc' := 14) C dX12_allOf_13 kI_1 rfl ?_
    refine j_iload_n (q := 0) (pc' := 15) C dX12_allOf_14 rfl rfl rfl ?_
    refine j_ishl (pc' := 16) C dX12_allOf_15 rfl ?_
    refine j_lshl (pc' := 17) C dX12_allOf_16 rfl ?_
    refine j_lconst (v := 1) (pc' := 18) C dX12_allOf_17 kL_1 rfl ?_
    refine j_lsub (pc' := 19) C dX12_allOf_18 rfl ?_
    have hr := Option.some.inj hr
    subst hr
    exact j_lret C hq hret dX12_allOf_19
  · have hr := ifT hc hr
    clear hc
    refine j_ldc2 (pc' := 9) C dX12_allOf_6 wm_1598 rfl ?_
    refine j_goto (tgt := 19) C dX12_allOf_9 rfl ?_
    have hr := Option.some.inj hr
    subst hr
    exact j_lret C hq hret dX12_allOf_19
def m_X12_all (ce : Ce) (this : Nat) : Option (Int64) :=
  (gA ce 9 0 this).bind fun zx1 =>
  (aI ce zx1 (3 : Int32)).bind fun zx2 =>
  (m_X12_allOf zx2).bind fun zx3 =>
  some zx3
set_option maxRecDepth 100000 in
set_option maxHeartbeats 4000000 in
theorem c_X12_all {nx : Nat} {ce : Ce} {this : Nat} {q : Int64} (hr : m_X12_all ce this = some q) : Ct yX12_all cX12_all 1 (some .long) 1 20 0 0 [.ref this] nx ce (some (.long q)) ce := by
  unfold m_X12_all at hr
  refine ct_of (by decide) (Nat.le_of_ble_eq_true rfl) ?_
  intro G C hq hret hin
  show Jd G 0 0 nx ce 0 [(0, .ref this)] []
  refine j_aload_n (q := 0) (pc' := 1) C dX12_all_0 rfl rfl rfl ?_
  obtain ⟨zx1, hzx1, hr⟩ := ob hr
  refine j_getA (pc' := 4) C dX12_all_1 fl_X12_8 hzx1 rfl ?_
  refine j_iconst (v := 3) (pc' := 5) C dX12_all_4 kI_3 rfl ?_
  obtain ⟨zx2, hzx2, hr⟩ := ob hr
  refine j_iald (pc' := 6) C dX12_all_5 hzx2 rfl ?_
  obtain ⟨zx3, hzx3, hr⟩ := ob hr
  refine j_callS (As := [.int zx2]) (rest := []) (st1 := [.long zx3]) (pc' := 9) C wm_1638 (c_X12_allOf (nx := nx) (ce := ce) hzx3) yw_X12_allOf wm_1637 rfl rfl (Nat.le_of_ble_eq_true rfl) ⟨by decide, by decide⟩ dX12_all_6 rfl rfl ?_
  have hr := Option.some.inj hr
  subst hr
  exact j_lret C hq hret dX12_all_9
def m_X12_starts (ce : Ce) (this : Nat) : Option (Int64) :=
  (rcv ce 9 this).bind fun zz1 =>
  (m_X12_setOf ce this (0 : Int32)).bind fun zx2 =>
  some zx2
set_option maxRecDepth 100000 in
set_option maxHeartbeats 4000000 in
theorem c_X12_starts {nx : Nat} {ce : Ce} {this : Nat} {q : Int64} (hr : m_X12_starts ce this = some q) : Ct yX12_starts cX12_starts 1 (some .long) 1 21 0 0 [.ref this] nx ce (some (.long q)) ce := by
  unfold m_X12_starts at hr
  refine ct_of (by decide) (Nat.le_of_ble_eq_true rfl) ?_
  intro G C hq hret hin
  show Jd G 0 0 nx ce 0 [(0, .ref this)] []
  refine j_aload_n (q := 0) (pc' := 1) C dX12_starts_0 rfl rfl rfl ?_
  refine j_iconst (v := 0) (pc' := 2) C dX12_starts_1 kI_0 rfl ?_
  obtain ⟨zz1, hzz1, hr⟩ := ob hr
  obtain ⟨zx2, hzx2, hr⟩ := ob hr
  obtain ⟨fhzz1, hzz1⟩ := rcv_sp hzz1
  refine j_callV (ci := 9) (As := [.int (0 : Int32)]) (rest := []) (st1 := [.long zx2]) (pc' := 5) C ⟨wm_1701, wm_67⟩ rfl hzz1 (c_X12_setOf (nx := nx) hzx2) yw_X12_setOf wm_1699 rfl rfl (Nat.le_of_ble_eq_true rfl) ⟨by decide, by decide⟩ dX12_starts_2 rfl rfl ?_
  have hr := Option.some.inj hr
  subst hr
  exact j_lret C hq hret dX12_starts_5
def m_X12_aims (ce : Ce) (this : Nat) : Option (Int64) :=
  (gA ce 9 0 this).bind fun zx1 =>
  (aI ce zx1 (8 : Int32)).bind fun zx2 =>
  (rcv ce 9 this).bind fun zz3 =>
  (m_X12_setOf ce this ((1 : Int32) + zx2)).bind fun zx4 =>
  some zx4
set_option maxRecDepth 100000 in
set_option maxHeartbeats 4000000 in
theorem c_X12_aims {nx : Nat} {ce : Ce} {this : Nat} {q : Int64} (hr : m_X12_aims ce this = some q) : Ct yX12_aims cX12_aims 1 (some .long) 1 21 0 0 [.ref this] nx ce (some (.long q)) ce := by
  unfold m_X12_aims at hr
  refine ct_of (by decide) (Nat.le_of_ble_eq_true rfl) ?_
  intro G C hq hret hin
  show Jd G 0 0 nx ce 0 [(0, .ref this)] []
  refine j_aload_n (q := 0) (pc' := 1) C dX12_aims_0 rfl rfl rfl ?_
  refine j_iconst (v := 1) (pc' := 2) C dX12_aims_1 kI_1 rfl ?_
  refine j_aload_n (q := 0) (pc' := 3) C dX12_aims_2 rfl rfl rfl ?_
  obtain ⟨zx1, hzx1, hr⟩ := ob hr
  refine j_getA (pc' := 6) C dX12_aims_3 fl_X12_8 hzx1 rfl ?_
  refine j_bipush (v := 8) (pc' := 8) C dX12_aims_6 kB_8 rfl ?_
  obtain ⟨zx2, hzx2, hr⟩ := ob hr
  refine j_iald (pc' := 9) C dX12_aims_8 hzx2 rfl ?_
  refine j_iadd (pc' := 10) C dX12_aims_9 rfl ?_
  obtain ⟨zz3, hzz3, hr⟩ := ob hr
  obtain ⟨zx4, hzx4, hr⟩ := ob hr
  obtain ⟨fhzz3, hzz3⟩ := rcv_sp hzz3
  refine j_callV (ci := 9) (As := [.int ((1 : Int32) + zx2)]) (rest := []) (st1 := [.long zx4]) (pc' := 13) C ⟨wm_1701, wm_67⟩ rfl hzz3 (c_X12_setOf (nx := nx) hzx4) yw_X12_setOf wm_1699 rfl rfl (Nat.le_of_ble_eq_true rfl) ⟨by decide, by decide⟩ dX12_aims_10 rfl rfl ?_
  have hr := Option.some.inj hr
  subst hr
  exact j_lret C hq hret dX12_aims_13
def m_X12_isState (ce : Ce) (this : Nat) (p1 : Int32) : Option (Int32) :=
  (rcv ce 9 this).bind fun zz1 =>
  (m_X12_states ce this).bind fun zx2 =>
  (m_X12_isIn p1 (0 : Int32) (zx2 - (1 : Int32))).bind fun zx3 =>
  (bz zx3).bind fun zx4 =>
  some zx3
set_option maxRecDepth 100000 in
set_option maxHeartbeats 4000000 in
theorem c_X12_isState {nx : Nat} {ce : Ce} {this : Nat} {p1 : Int32} {q : Int32} (hr : m_X12_isState ce this p1 = some q) : Ct yX12_isState cX12_isState 2 (some .boolean) 1 22 0 0 [.ref this, .int p1] nx ce (some (.int q)) ce := by
  unfold m_X12_isState at hr
  refine ct_of (by decide) (Nat.le_of_ble_eq_true rfl) ?_
  intro G C hq hret hin
  show Jd G 0 0 nx ce 0 [(0, .ref this), (1, .int p1)] []
  refine j_iload_n (q := 1) (pc' := 1) C dX12_isState_0 rfl rfl rfl ?_
  refine j_iconst (v := 0) (pc' := 2) C dX12_isState_1 kI_0 rfl ?_
  refine j_aload_n (q := 0) (pc' := 3) C dX12_isState_2 rfl rfl rfl ?_
  obtain ⟨zz1, hzz1, hr⟩ := ob hr
  obtain ⟨zx2, hzx2, hr⟩ := ob hr
  obtain ⟨fhzz1, hzz1⟩ := rcv_sp hzz1
  refine j_callV (ci := 9) (As := []) (rest := [.int (0 : Int32), .int p1]) (st1 := [.int zx2, .int (0 : Int32), .int p1]) (pc' := 6) C ⟨wm_1642, wm_58⟩ rfl hzz1 (c_X12_states (nx := nx) hzx2) yw_X12_states wm_1640 rfl rfl (Nat.le_of_ble_eq_true rfl) ⟨by decide, by decide⟩ dX12_isState_3 rfl rfl ?_
  refine j_iconst (v := 1) (pc' := 7) C dX12_isState_6 kI_1 rfl ?_
  refine j_isub (pc' := 8) C dX12_isState_7 rfl ?_
  obtain ⟨zx3, hzx3, hr⟩ := ob hr
  refine j_callS (As := [.int p1, .int (0 : Int32), .int (zx2 - (1 : Int32))]) (rest := []) (st1 := [.int zx3]) (pc' := 11) C wm_1529 (c_X12_isIn (nx := nx) (ce := ce) hzx3) yw_X12_isIn wm_1528 rfl rfl (Nat.le_of_ble_eq_true rfl) ⟨by decide, by decide⟩ dX12_isState_8 rfl rfl ?_
  obtain ⟨zx4, hzx4, hr⟩ := ob hr
  obtain ⟨rfl, nhzx4⟩ := bz_sp hzx4
  have hr := Option.some.inj hr
  subst hr
  exact j_zret C hq hret nhzx4 dX12_isState_11
def m_X12_isMask (ce : Ce) (this : Nat) (p1 : Int32) (p2 : Int32) : Option (Int32) :=
  (rcv ce 9 this).bind fun zz1 =>
  (m_X12_states ce this).bind fun zx2 =>
  (m_X12_isIn p1 (0 : Int32) (zx2 - (1 : Int32))).bind fun zx3 =>
  if zx3 = 0 then
    some (0 : Int32)
  else
    if p2 < 0 then
      some (0 : Int32)
    else
      if (p2 &&& (p1 ^^^ (-1 : Int32))) = 0 then
        some (1 : Int32)
      else
        some (0 : Int32)
set_option maxRecDepth 100000 in
set_option maxHeartbeats 4000000 in
theorem c_X12_isMask {nx : Nat} {ce : Ce} {this : Nat} {p1 : Int32} {p2 : Int32} {q : Int32} (hr : m_X12_isMask ce this p1 p2 = some q) : Ct yX12_isMask cX12_isMask 3 (some .boolean) 1 22 0 0 [.ref this, .int p1, .int p2] nx ce (some (.int q)) ce := by
  unfold m_X12_isMask at hr
  refine ct_of (by decide) (Nat.le_of_ble_eq_true rfl) ?_
  intro G C hq hret hin
  show Jd G 0 0 nx ce 0 [(0, .ref this), (1, .int p1), (2, .int p2)] []
  refine j_iload_n (q := 1) (pc' := 1) C dX12_isMask_0 rfl rfl rfl ?_
  refine j_iconst (v := 0) (pc' := 2) C dX12_isMask_1 kI_0 rfl ?_
  refine j_aload_n (q := 0) (pc' := 3) C dX12_isMask_2 rfl rfl rfl ?_
  obtain ⟨zz1, hzz1, hr⟩ := ob hr
  obtain ⟨zx2, hzx2, hr⟩ := ob hr
  obtain ⟨fhzz1, hzz1⟩ := rcv_sp hzz1
  refine j_callV (ci := 9) (As := []) (rest := [.int (0 : Int32), .int p1]) (st1 := [.int zx2, .int (0 : Int32), .int p1]) (pc' := 6) C ⟨wm_1642, wm_58⟩ rfl hzz1 (c_X12_states (nx := nx) hzx2) yw_X12_states wm_1640 rfl rfl (Nat.le_of_ble_eq_true rfl) ⟨by decide, by decide⟩ dX12_isMask_3 rfl rfl ?_
  refine j_iconst (v := 1) (pc' := 7) C dX12_isMask_6 kI_1 rfl ?_
  refine j_isub (pc' := 8) C dX12_isMask_7 rfl ?_
  obtain ⟨zx3, hzx3, hr⟩ := ob hr
  refine j_callS (As := [.int p1, .int (0 : Int32), .int (zx2 - (1 : Int32))]) (rest := []) (st1 := [.int zx3]) (pc' := 11) C wm_1529 (c_X12_isIn (nx := nx) (ce := ce) hzx3) yw_X12_isIn wm_1528 rfl rfl (Nat.le_of_ble_eq_true rfl) ⟨by decide, by decide⟩ dX12_isMask_8 rfl rfl ?_
  refine j_if_eq (tgt := 30) (pc' := 14) C dX12_isMask_11 rfl rfl (fun hc => ?_) (fun hc => ?_)
  · have hr := ifT hc hr
    clear hc
    refine j_iconst (v := 0) (pc' := 31) C dX12_isMask_30 kI_0 rfl ?_
    have hr := Option.some.inj hr
    subst hr
    exact j_zret C hq hret rfl dX12_isMask_31
  · have hr := ifF hc hr
    clear hc
    refine j_iload_n (q := 2) (pc' := 15) C dX12_isMask_14 rfl rfl rfl ?_
    refine j_if_lt (tgt := 30) (pc' := 18) C dX12_isMask_15 rfl rfl (fun hc => ?_) (fun hc => ?_)
    · have hr := ifT hc hr
      clear hc
      refine j_iconst (v := 0) (pc' := 31) C dX12_isMask_30 kI_0 rfl ?_
      have hr := Option.some.inj hr
      subst hr
      exact j_zret C hq hret rfl dX12_isMask_31
    · have hr := ifF hc hr
      clear hc
      refine j_iload_n (q := 2) (pc' := 19) C dX12_isMask_18 rfl rfl rfl ?_
      refine j_iload_n (q := 1) (pc' := 20) C dX12_isMask_19 rfl rfl rfl ?_
      refine j_iconst (v := -1) (pc' := 21) C dX12_isMask_20 kI_m1 rfl ?_
      refine j_ixor (pc' := 22) C dX12_isMask_21 rfl ?_
      refine j_iand (pc' := 23) C dX12_isMask_22 rfl ?_
      refine j_if_ne (tgt := 30) (pc' := 26) C dX12_isMask_23 rfl rfl (fun hc => ?_) (fun hc => ?_)
      · have hr := ifF hc hr
        clear hc
        refine j_iconst (v := 0) (pc' := 31) C dX12_isMask_30 kI_0 rfl ?_
        have hr := Option.some.inj hr
        subst hr
        exact j_zret C hq hret rfl dX12_isMask_31
      · have hr := ifT hc hr
        clear hc
        refine j_iconst (v := 1) (pc' := 27) C dX12_isMask_26 kI_1 rfl ?_
        refine j_goto (tgt := 31) C dX12_isMask_27 rfl ?_
        have hr := Option.some.inj hr
        subst hr
        exact j_zret C hq hret rfl dX12_isMask_31
def m_X12_succOf (ce : Ce) (this : Nat) (p1 : Int32) (p2 : Int32) : Option (Int32) :=
  (gA ce 9 0 this).bind fun zx1 =>
  (aI ce zx1 ((28 : Int32) + p1)).bind fun zx2 =>
  some ((zx2 >>> (((6 : Int32) * p2) &&& 31)) &&& (63 : Int32))
set_option maxRecDepth 100000 in
set_option maxHeartbeats 4000000 in
theorem c_X12_succOf {nx : Nat} {ce : Ce} {this : Nat} {p1 : Int32} {p2 : Int32} {q : Int32} (hr : m_X12_succOf ce this p1 p2 = some q) : Ct yX12_succOf cX12_succOf 3 (some .int) 0 0 0 0 [.ref this, .int p1, .int p2] nx ce (some (.int q)) ce := by
  unfold m_X12_succOf at hr
  refine ct_of (by decide) (Nat.le_of_ble_eq_true rfl) ?_
  intro G C hq hret hin
  show Jd G 0 0 nx ce 0 [(0, .ref this), (1, .int p1), (2, .int p2)] []
  refine j_aload_n (q := 0) (pc' := 1) C dX12_succOf_0 rfl rfl rfl ?_
  obtain ⟨zx1, hzx1, hr⟩ := ob hr
  refine j_getA (pc' := 4) C dX12_succOf_1 fl_X12_8 hzx1 rfl ?_
  refine j_bipush (v := 28) (pc' := 6) C dX12_succOf_4 kB_28 rfl ?_
  refine j_iload_n (q := 1) (pc' := 7) C dX12_succOf_6 rfl rfl rfl ?_
  refine j_iadd (pc' := 8) C dX12_succOf_7 rfl ?_
  obtain ⟨zx2, hzx2, hr⟩ := ob hr
  refine j_iald (pc' := 9) C dX12_succOf_8 hzx2 rfl ?_
  refine j_bipush (v := 6) (pc' := 11) C dX12_succOf_9 kB_6 rfl ?_
  refine j_iload_n (q := 2) (pc' := 12) C dX12_succOf_11 rfl rfl rfl ?_
  refine j_imul (pc' := 13) C dX12_succOf_12 rfl ?_
  refine j_ishr (pc' := 14) C dX12_succOf_13 rfl ?_
  refine j_bipush (v := 63) (pc' := 16) C dX12_succOf_14 kB_63 rfl ?_
  refine j_iand (pc' := 17) C dX12_succOf_16 rfl ?_
  have hr := Option.some.inj hr
  subst hr
  exact j_iret C hq hret dX12_succOf_17
def m_X12_afterBy (ce : Ce) (this : Nat) (p1 : Int32) (p2 : Int32) : Option (Int64) :=
  (it (fun (zs1 : Int64 × Int32) =>
    if (4 : Int32) ≤ zs1.2 then
      some (Sum.inr zs1.1)
    else
      if ((p2 >>> (zs1.2 &&& 31)) &&& (1 : Int32)) = (1 : Int32) then
        (rcv ce 9 this).bind fun zz4 =>
        (m_X12_succOf ce this p1 zs1.2).bind fun zx5 =>
        some (Sum.inl ((zs1.1 ||| ((1 : Int64) <<< (Int32.toInt64 zx5 &&& 63))), (zs1.2 + (1 : Int32))))
      else
        some (Sum.inl (zs1.1, (zs1.2 + (1 : Int32))))
  ) FU ((0 : Int64), (0 : Int32))).bind fun (zo2 : Int64) =>
  some zo2
set_option maxRecDepth 100000 in
set_option maxHeartbeats 4000000 in
theorem c_X12_afterBy {nx : Nat} {ce : Ce} {this : Nat} {p1 : Int32} {p2 : Int32} {q : Int64} (hr : m_X12_afterBy ce this p1 p2 = some q) : Ct yX12_afterBy cX12_afterBy 6 (some .long) 1 22 0 0 [.ref this, .int p1, .int p2] nx ce (some (.long q)) ce := by
  unfold m_X12_afterBy at hr
  refine ct_of (by decide) (Nat.le_of_ble_eq_true rfl) ?_
  intro G C hq hret hin
  show Jd G 0 0 nx ce 0 [(0, .ref this), (1, .int p1), (2, .int p2)] []
  refine j_lconst (v := 0) (pc' := 1) C dX12_afterBy_0 kL_0 rfl ?_
  refine j_lstore_n (lv' := [(3, .long (0 : Int64)), (0, .ref this), (1, .int p1), (2, .int p2)]) (pc' := 2) C dX12_afterBy_1 rfl (by decide) rfl rfl ?_
  refine j_iconst (v := 0) (pc' := 3) C dX12_afterBy_2 kI_0 rfl ?_
  refine j_istore (lv' := [(5, .int (0 : Int32)), (3, .long (0 : Int64)), (0, .ref this), (1, .int p1), (2, .int p2)]) (pc' := 5) C dX12_afterBy_3 (by decide) rfl rfl ?_
  obtain ⟨zo2, hzo2, rzo2⟩ := ob hr
  have kzo2 : Jd G 0 0 nx ce 39 [(3, .long zo2)] [] := by
    have hr := rzo2
    refine j_lload_n (q := 0) (pc' := 40) C dX12_afterBy_39 rfl rfl rfl ?_
    have hr := Option.some.inj hr
    subst hr
    exact j_lret C hq hret dX12_afterBy_40
  refine j_lv (lv' := [(0, .ref this), (1, .int p1), (2, .int p2), (3, .long (0 : Int64)), (5, .int (0 : Int32))]) [2, 3, 4, 1, 0] rfl ?_
  refine it_J (J := (fun (zs1 : Int64 × Int32) => Jd G 0 0 nx ce 5 [(0, .ref this), (1, .int p1), (2, .int p2), (3, .long zs1.1), (5, .int zs1.2)] [])) ?_ hzo2
  clear hzo2
  intro zs1 zr3 hr izs1 ezs1
  refine j_iload (q := 4) (pc' := 7) C dX12_afterBy_5 rfl rfl ?_
  refine j_iconst (v := 4) (pc' := 8) C dX12_afterBy_7 kI_4 rfl ?_
  refine j_ic_ge (tgt := 39) (pc' := 11) C dX12_afterBy_8 rfl rfl (fun hc => ?_) (fun hc => ?_)
  · have hr := ifT hc hr
    clear hc
    have hr := ezs1 _ (Option.some.inj hr).symm
    subst hr
    exact j_lv [3] rfl kzo2
  · have hr := ifF hc hr
    clear hc
    refine j_iload_n (q := 2) (pc' := 12) C dX12_afterBy_11 rfl rfl rfl ?_
    refine j_iload (q := 4) (pc' := 14) C dX12_afterBy_12 rfl rfl ?_
    refine j_ishr (pc' := 15) C dX12_afterBy_14 rfl ?_
    refine j_iconst (v := 1) (pc' := 16) C dX12_afterBy_15 kI_1 rfl ?_
    refine j_iand (pc' := 17) C dX12_afterBy_16 rfl ?_
    refine j_iconst (v := 1) (pc' := 18) C dX12_afterBy_17 kI_1 rfl ?_
    refine j_ic_ne (tgt := 33) (pc' := 21) C dX12_afterBy_18 rfl rfl (fun hc => ?_) (fun hc => ?_)
    · have hr := ifF hc hr
      clear hc
      refine j_iinc (q := 4) (v := 1) (lv' := [(5, .int (zs1.2 + (1 : Int32))), (0, .ref this), (1, .int p1), (2, .int p2), (3, .long zs1.1)]) (pc' := 36) C dX12_afterBy_33 rfl kI_1 (by decide) rfl rfl ?_
      refine j_goto (tgt := 5) C dX12_afterBy_36 rfl ?_
      have hr := izs1 (zs1.1, (zs1.2 + (1 : Int32))) (Option.some.inj hr).symm
      exact j_lv [1, 2, 3, 4, 0] rfl hr
    · have hr := ifT hc hr
      clear hc
      refine j_lload_n (q := 3) (pc' := 22) C dX12_afterBy_21 rfl rfl rfl ?_
      refine j_lconst (v := 1) (pc' := 23) C dX12_afterBy_22 kL_1 rfl ?_
      refine j_aload_n (q := 0) (pc' := 24) C dX12_afterBy_23 rfl rfl rfl ?_
      refine j_iload_n (q := 1) (pc' := 25) C dX12_afterBy_24 rfl rfl rfl ?_
      refine j_iload (q := 4) (pc' := 27) C dX12_afterBy_25 rfl rfl ?_
      obtain ⟨zz4, hzz4, hr⟩ := ob hr
      obtain ⟨zx5, hzx5, hr⟩ := ob hr
      obtain ⟨fhzz4, hzz4⟩ := rcv_sp hzz4
      refine j_callV (ci := 9) (As := [.int p1, .int zs1.2]) (rest := [.long (1 : Int64), .long zs1.1]) (st1 := [.int zx5, .long (1 : Int64), .long zs1.1]) (pc' := 30) C ⟨wm_1769, wm_83⟩ rfl hzz4 (c_X12_succOf (nx := nx) hzx5) yw_X12_succOf wm_1767 rfl rfl (Nat.le_of_ble_eq_true rfl) ⟨by decide, by decide⟩ dX12_afterBy_27 rfl rfl ?_
      refine j_lshl (pc' := 31) C dX12_afterBy_30 rfl ?_
      refine j_lor (pc' := 32) C dX12_afterBy_31 rfl ?_
      refine j_lstore_n (lv' := [(3, .long (zs1.1 ||| ((1 : Int64) <<< (Int32.toInt64 zx5 &&& 63)))), (0, .ref this), (1, .int p1), (2, .int p2), (5, .int zs1.2)]) (pc' := 33) C dX12_afterBy_32 rfl (by decide) rfl rfl ?_
      refine j_iinc (q := 4) (v := 1) (lv' := [(5, .int (zs1.2 + (1 : Int32))), (3, .long (zs1.1 ||| ((1 : Int64) <<< (Int32.toInt64 zx5 &&& 63)))), (0, .ref this), (1, .int p1), (2, .int p2)]) (pc' := 36) C dX12_afterBy_33 rfl kI_1 (by decide) rfl rfl ?_
      refine j_goto (tgt := 5) C dX12_afterBy_36 rfl ?_
      have hr := izs1 ((zs1.1 ||| ((1 : Int64) <<< (Int32.toInt64 zx5 &&& 63))), (zs1.2 + (1 : Int32))) (Option.some.inj hr).symm
      exact j_lv [2, 3, 4, 1, 0] rfl hr
def m_X12_after (ce : Ce) (this : Nat) (p1 : Int32) : Option (Int64) :=
  (rcv ce 9 this).bind fun zz1 =>
  (m_X12_afterBy ce this p1 (15 : Int32)).bind fun zx2 =>
  some zx2
set_option maxRecDepth 100000 in
set_option maxHeartbeats 4000000 in
theorem c_X12_after {nx : Nat} {ce : Ce} {this : Nat} {p1 : Int32} {q : Int64} (hr : m_X12_after ce this p1 = some q) : Ct yX12_after cX12_after 2 (some .long) 2 47 0 0 [.ref this, .int p1] nx ce (some (.long q)) ce := by
  unfold m_X12_after at hr
  refine ct_of (by decide) (Nat.le_of_ble_eq_true rfl) ?_
  intro G C hq hret hin
  show Jd G 0 0 nx ce 0 [(0, .ref this), (1, .int p1)] []
  refine j_aload_n (q := 0) (pc' := 1) C dX12_after_0 rfl rfl rfl ?_
  refine j_iload_n (q := 1) (pc' := 2) C dX12_after_1 rfl rfl rfl ?_
  refine j_bipush (v := 15) (pc' := 4) C dX12_after_2 kB_15 rfl ?_
  obtain ⟨zz1, hzz1, hr⟩ := ob hr
  obtain ⟨zx2, hzx2, hr⟩ := ob hr
  obtain ⟨fhzz1, hzz1⟩ := rcv_sp hzz1
  refine j_callV (ci := 9) (As := [.int p1, .int (15 : Int32)]) (rest := []) (st1 := [.long zx2]) (pc' := 7) C ⟨wm_1765, wm_82⟩ rfl hzz1 (c_X12_afterBy (nx := nx) hzx2) yw_X12_afterBy wm_1763 rfl rfl (Nat.le_of_ble_eq_true rfl) ⟨by decide, by decide⟩ dX12_after_4 rfl rfl ?_
  have hr := Option.some.inj hr
  subst hr
  exact j_lret C hq hret dX12_after_7
def m_X12_letterSet (p0 : Int32) : Option (Int64) :=
  (it (fun (zs1 : Int64 × Int32) =>
    if (64 : Int32) ≤ zs1.2 then
      some (Sum.inr zs1.1)
    else
      if ((zs1.2 >>> (p0 &&& 31)) &&& (1 : Int32)) = (1 : Int32) then
        some (Sum.inl ((zs1.1 ||| ((1 : Int64) <<< (Int32.toInt64 zs1.2 &&& 63))), (zs1.2 + (1 : Int32))))
      else
        some (Sum.inl (zs1.1, (zs1.2 + (1 : Int32))))
  ) FU ((0 : Int64), (0 : Int32))).bind fun (zo2 : Int64) =>
  some zo2
set_option maxRecDepth 100000 in
set_option maxHeartbeats 4000000 in
theorem c_X12_letterSet {nx : Nat} {ce : Ce} {p0 : Int32} {q : Int64} (hr : m_X12_letterSet p0 = some q) : Ct yX12_letterSet cX12_letterSet 4 (some .long) 0 0 0 0 [.int p0] nx ce (some (.long q)) ce := by
  unfold m_X12_letterSet at hr
  refine ct_of (by decide) (Nat.le_of_ble_eq_true rfl) ?_
  intro G C hq hret hin
  show Jd G 0 0 nx ce 0 [(0, .int p0)] []
  refine j_lconst (v := 0) (pc' := 1) C dX12_letterSet_0 kL_0 rfl ?_
  refine j_lstore_n (lv' := [(1, .long (0 : Int64)), (0, .int p0)]) (pc' := 2) C dX12_letterSet_1 rfl (by decide) rfl rfl ?_
  refine j_iconst (v := 0) (pc' := 3) C dX12_letterSet_2 kI_0 rfl ?_
  refine j_istore_n (lv' := [(3, .int (0 : Int32)), (1, .long (0 : Int64)), (0, .int p0)]) (pc' := 4) C dX12_letterSet_3 rfl (by decide) rfl rfl ?_
  obtain ⟨zo2, hzo2, rzo2⟩ := ob hr
  have kzo2 : Jd G 0 0 nx ce 31 [(1, .long zo2)] [] := by
    have hr := rzo2
    refine j_lload_n (q := 0) (pc' := 32) C dX12_letterSet_31 rfl rfl rfl ?_
    have hr := Option.some.inj hr
    subst hr
    exact j_lret C hq hret dX12_letterSet_32
  refine j_lv (lv' := [(0, .int p0), (1, .long (0 : Int64)), (3, .int (0 : Int32))]) [2, 1, 0] rfl ?_
  refine it_J (J := (fun (zs1 : Int64 × Int32) => Jd G 0 0 nx ce 4 [(0, .int p0), (1, .long zs1.1), (3, .int zs1.2)] [])) ?_ hzo2
  clear hzo2
  intro zs1 zr3 hr izs1 ezs1
  refine j_iload_n (q := 2) (pc' := 5) C dX12_letterSet_4 rfl rfl rfl ?_
  refine j_bipush (v := 64) (pc' := 7) C dX12_letterSet_5 kB_64 rfl ?_
  refine j_ic_ge (tgt := 31) (pc' := 10) C dX12_letterSet_7 rfl rfl (fun hc => ?_) (fun hc => ?_)
  · have hr := ifT hc hr
    clear hc
    have hr := ezs1 _ (Option.some.inj hr).symm
    subst hr
    exact j_lv [1] rfl kzo2
  · have hr := ifF hc hr
    clear hc
    refine j_iload_n (q := 2) (pc' := 11) C dX12_letterSet_10 rfl rfl rfl ?_
    refine j_iload_n (q := 0) (pc' := 12) C dX12_letterSet_11 rfl rfl rfl ?_
    refine j_ishr (pc' := 13) C dX12_letterSet_12 rfl ?_
    refine j_iconst (v := 1) (pc' := 14) C dX12_letterSet_13 kI_1 rfl ?_
    refine j_iand (pc' := 15) C dX12_letterSet_14 rfl ?_
    refine j_iconst (v := 1) (pc' := 16) C dX12_letterSet_15 kI_1 rfl ?_
    refine j_ic_ne (tgt := 25) (pc' := 19) C dX12_letterSet_16 rfl rfl (fun hc => ?_) (fun hc => ?_)
    · have hr := ifF hc hr
      clear hc
      refine j_iinc (q := 2) (v := 1) (lv' := [(3, .int (zs1.2 + (1 : Int32))), (0, .int p0), (1, .long zs1.1)]) (pc' := 28) C dX12_letterSet_25 rfl kI_1 (by decide) rfl rfl ?_
      refine j_goto (tgt := 4) C dX12_letterSet_28 rfl ?_
      have hr := izs1 (zs1.1, (zs1.2 + (1 : Int32))) (Option.some.inj hr).symm
      exact j_lv [1, 2, 0] rfl hr
    · have hr := ifT hc hr
      clear hc
      refine j_lload_n (q := 1) (pc' := 20) C dX12_letterSet_19 rfl rfl rfl ?_
      refine j_lconst (v := 1) (pc' := 21) C dX12_letterSet_20 kL_1 rfl ?_
      refine j_iload_n (q := 2) (pc' := 22) C dX12_letterSet_21 rfl rfl rfl ?_
      refine j_lshl (pc' := 23) C dX12_letterSet_22 rfl ?_
      refine j_lor (pc' := 24) C dX12_letterSet_23 rfl ?_
      refine j_lstore_n (lv' := [(1, .long (zs1.1 ||| ((1 : Int64) <<< (Int32.toInt64 zs1.2 &&& 63)))), (0, .int p0), (3, .int zs1.2)]) (pc' := 25) C dX12_letterSet_24 rfl (by decide) rfl rfl ?_
      refine j_iinc (q := 2) (v := 1) (lv' := [(3, .int (zs1.2 + (1 : Int32))), (1, .long (zs1.1 ||| ((1 : Int64) <<< (Int32.toInt64 zs1.2 &&& 63)))), (0, .int p0)]) (pc' := 28) C dX12_letterSet_25 rfl kI_1 (by decide) rfl rfl ?_
      refine j_goto (tgt := 4) C dX12_letterSet_28 rfl ?_
      have hr := izs1 ((zs1.1 ||| ((1 : Int64) <<< (Int32.toInt64 zs1.2 &&& 63))), (zs1.2 + (1 : Int32))) (Option.some.inj hr).symm
      exact j_lv [2, 1, 0] rfl hr
def m_X12_cubeSet (ce : Ce) (this : Nat) (p1 : Int32) (p2 : Int32) : Option (Int64) :=
  (rcv ce 9 this).bind fun zz1 =>
  (m_X12_all ce this).bind fun zx2 =>
  (it (fun (zs3 : Int64 × Int32) =>
    (gA ce 9 0 this).bind fun zx6 =>
    (aI ce zx6 (3 : Int32)).bind fun zx7 =>
    if zx7 ≤ zs3.2 then
      some (Sum.inr zs3.1)
    else
      if ((p1 >>> (zs3.2 &&& 31)) &&& (1 : Int32)) = (1 : Int32) then
        if ((p2 >>> (zs3.2 &&& 31)) &&& (1 : Int32)) = (1 : Int32) then
          (m_X12_letterSet zs3.2).bind fun zx9 =>
          some (Sum.inl ((zs3.1 &&& zx9), (zs3.2 + (1 : Int32))))
        else
          (m_X12_letterSet zs3.2).bind fun zx8 =>
          some (Sum.inl ((zs3.1 &&& (zx8 ^^^ (-1 : Int64))), (zs3.2 + (1 : Int32))))
      else
        some (Sum.inl (zs3.1, (zs3.2 + (1 : Int32))))
  ) FU (zx2, (0 : Int32))).bind fun (zo4 : Int64) =>
  some zo4
set_option maxRecDepth 100000 in
set_option maxHeartbeats 4000000 in
theorem c_X12_cubeSet {nx : Nat} {ce : Ce} {this : Nat} {p1 : Int32} {p2 : Int32} {q : Int64} (hr : m_X12_cubeSet ce this p1 p2 = some q) : Ct yX12_cubeSet cX12_cubeSet 6 (some .long) 2 40 0 0 [.ref this, .int p1, .int p2] nx ce (some (.long q)) ce := by
  unfold m_X12_cubeSet at hr
  refine ct_of (by decide) (Nat.le_of_ble_eq_true rfl) ?_
  intro G C hq hret hin
  show Jd G 0 0 nx ce 0 [(0, .ref this), (1, .int p1), (2, .int p2)] []
  refine j_aload_n (q := 0) (pc' := 1) C dX12_cubeSet_0 rfl rfl rfl ?_
  obtain ⟨zz1, hzz1, hr⟩ := ob hr
  obtain ⟨zx2, hzx2, hr⟩ := ob hr
  obtain ⟨fhzz1, hzz1⟩ := rcv_sp hzz1
  refine j_callV (ci := 9) (As := []) (rest := []) (st1 := [.long zx2]) (pc' := 4) C ⟨wm_1635, wm_57⟩ rfl hzz1 (c_X12_all (nx := nx) hzx2) yw_X12_all wm_1633 rfl rfl (Nat.le_of_ble_eq_true rfl) ⟨by decide, by decide⟩ dX12_cubeSet_1 rfl rfl ?_
  refine j_lstore_n (lv' := [(3, .long zx2), (0, .ref this), (1, .int p1), (2, .int p2)]) (pc' := 5) C dX12_cubeSet_4 rfl (by decide) rfl rfl ?_
  refine j_iconst (v := 0) (pc' := 6) C dX12_cubeSet_5 kI_0 rfl ?_
  refine j_istore (lv' := [(5, .int (0 : Int32)), (3, .long zx2), (0, .ref this), (1, .int p1), (2, .int p2)]) (pc' := 8) C dX12_cubeSet_6 (by decide) rfl rfl ?_
  obtain ⟨zo4, hzo4, rzo4⟩ := ob hr
  have kzo4 : Jd G 0 0 nx ce 65 [(3, .long zo4)] [] := by
    have hr := rzo4
    refine j_lload_n (q := 0) (pc' := 66) C dX12_cubeSet_65 rfl rfl rfl ?_
    have hr := Option.some.inj hr
    subst hr
    exact j_lret C hq hret dX12_cubeSet_66
  refine j_lv (lv' := [(0, .ref this), (1, .int p1), (2, .int p2), (3, .long zx2), (5, .int (0 : Int32))]) [2, 3, 4, 1, 0] rfl ?_
  refine it_J (J := (fun (zs3 : Int64 × Int32) => Jd G 0 0 nx ce 8 [(0, .ref this), (1, .int p1), (2, .int p2), (3, .long zs3.1), (5, .int zs3.2)] [])) ?_ hzo4
  clear hzo4
  intro zs3 zr5 hr izs3 ezs3
  refine j_iload (q := 4) (pc' := 10) C dX12_cubeSet_8 rfl rfl ?_
  refine j_aload_n (q := 0) (pc' := 11) C dX12_cubeSet_10 rfl rfl rfl ?_
  obtain ⟨zx6, hzx6, hr⟩ := ob hr
  refine j_getA (pc' := 14) C dX12_cubeSet_11 fl_X12_8 hzx6 rfl ?_
  refine j_iconst (v := 3) (pc' := 15) C dX12_cubeSet_14 kI_3 rfl ?_
  obtain ⟨zx7, hzx7, hr⟩ := ob hr
  refine j_iald (pc' := 16) C dX12_cubeSet_15 hzx7 rfl ?_
  refine j_ic_ge (tgt := 65) (pc' := 19) C dX12_cubeSet_16 rfl rfl (fun hc => ?_) (fun hc => ?_)
  · have hr := ifT hc hr
    clear hc
    have hr := ezs3 _ (Option.some.inj hr).symm
    subst hr
    exact j_lv [3] rfl kzo4
  · have hr := ifF hc hr
    clear hc
    refine j_iload_n (q := 1) (pc' := 20) C dX12_cubeSet_19 rfl rfl rfl ?_
    refine j_iload (q := 4) (pc' := 22) C dX12_cubeSet_20 rfl rfl ?_
    refine j_ishr (pc' := 23) C dX12_cubeSet_22 rfl ?_
    refine j_iconst (v := 1) (pc' := 24) C dX12_cubeSet_23 kI_1 rfl ?_
    refine j_iand (pc' := 25) C dX12_cubeSet_24 rfl ?_
    refine j_iconst (v := 1) (pc' := 26) C dX12_cubeSet_25 kI_1 rfl ?_
    refine j_ic_ne (tgt := 59) (pc' := 29) C dX12_cubeSet_26 rfl rfl (fun hc => ?_) (fun hc => ?_)
    · have hr := ifF hc hr
      clear hc
      refine j_iinc (q := 4) (v := 1) (lv' := [(5, .int (zs3.2 + (1 : Int32))), (0, .ref this), (1, .int p1), (2, .int p2), (3, .long zs3.1)]) (pc' := 62) C dX12_cubeSet_59 rfl kI_1 (by decide) rfl rfl ?_
      refine j_goto (tgt := 8) C dX12_cubeSet_62 rfl ?_
      have hr := izs3 (zs3.1, (zs3.2 + (1 : Int32))) (Option.some.inj hr).symm
      exact j_lv [1, 2, 3, 4, 0] rfl hr
    · have hr := ifT hc hr
      clear hc
      refine j_lload_n (q := 3) (pc' := 30) C dX12_cubeSet_29 rfl rfl rfl ?_
      refine j_iload_n (q := 2) (pc' := 31) C dX12_cubeSet_30 rfl rfl rfl ?_
      refine j_iload (q := 4) (pc' := 33) C dX12_cubeSet_31 rfl rfl ?_
      refine j_ishr (pc' := 34) C dX12_cubeSet_33 rfl ?_
      refine j_iconst (v := 1) (pc' := 35) C dX12_cubeSet_34 kI_1 rfl ?_
      refine j_iand (pc' := 36) C dX12_cubeSet_35 rfl ?_
      refine j_iconst (v := 1) (pc' := 37) C dX12_cubeSet_36 kI_1 rfl ?_
      refine j_ic_ne (tgt := 48) (pc' := 40) C dX12_cubeSet_37 rfl rfl (fun hc => ?_) (fun hc => ?_)
      · have hr := ifF hc hr
        clear hc
        refine j_iload (q := 4) (pc' := 50) C dX12_cubeSet_48 rfl rfl ?_
        obtain ⟨zx8, hzx8, hr⟩ := ob hr
        refine j_callS (As := [.int zs3.2]) (rest := [.long zs3.1]) (st1 := [.long zx8, .long zs3.1]) (pc' := 53) C wm_1543 (c_X12_letterSet (nx := nx) (ce := ce) hzx8) yw_X12_letterSet wm_1542 rfl rfl (Nat.le_of_ble_eq_true rfl) ⟨by decide, by decide⟩ dX12_cubeSet_50 rfl rfl ?_
        refine j_ldc2 (pc' := 56) C dX12_cubeSet_53 wm_1598 rfl ?_
        refine j_lxor (pc' := 57) C dX12_cubeSet_56 rfl ?_
        refine j_land (pc' := 58) C dX12_cubeSet_57 rfl ?_
        refine j_lstore_n (lv' := [(3, .long (zs3.1 &&& (zx8 ^^^ (-1 : Int64)))), (0, .ref this), (1, .int p1), (2, .int p2), (5, .int zs3.2)]) (pc' := 59) C dX12_cubeSet_58 rfl (by decide) rfl rfl ?_
        refine j_iinc (q := 4) (v := 1) (lv' := [(5, .int (zs3.2 + (1 : Int32))), (3, .long (zs3.1 &&& (zx8 ^^^ (-1 : Int64)))), (0, .ref this), (1, .int p1), (2, .int p2)]) (pc' := 62) C dX12_cubeSet_59 rfl kI_1 (by decide) rfl rfl ?_
        refine j_goto (tgt := 8) C dX12_cubeSet_62 rfl ?_
        have hr := izs3 ((zs3.1 &&& (zx8 ^^^ (-1 : Int64))), (zs3.2 + (1 : Int32))) (Option.some.inj hr).symm
        exact j_lv [2, 3, 4, 1, 0] rfl hr
      · have hr := ifT hc hr
        clear hc
        refine j_iload (q := 4) (pc' := 42) C dX12_cubeSet_40 rfl rfl ?_
        obtain ⟨zx9, hzx9, hr⟩ := ob hr
        refine j_callS (As := [.int zs3.2]) (rest := [.long zs3.1]) (st1 := [.long zx9, .long zs3.1]) (pc' := 45) C wm_1543 (c_X12_letterSet (nx := nx) (ce := ce) hzx9) yw_X12_letterSet wm_1542 rfl rfl (Nat.le_of_ble_eq_true rfl) ⟨by decide, by decide⟩ dX12_cubeSet_42 rfl rfl ?_
        refine j_goto (tgt := 57) C dX12_cubeSet_45 rfl ?_
        refine j_land (pc' := 58) C dX12_cubeSet_57 rfl ?_
        refine j_lstore_n (lv' := [(3, .long (zs3.1 &&& zx9)), (0, .ref this), (1, .int p1), (2, .int p2), (5, .int zs3.2)]) (pc' := 59) C dX12_cubeSet_58 rfl (by decide) rfl rfl ?_
        refine j_iinc (q := 4) (v := 1) (lv' := [(5, .int (zs3.2 + (1 : Int32))), (3, .long (zs3.1 &&& zx9)), (0, .ref this), (1, .int p1), (2, .int p2)]) (pc' := 62) C dX12_cubeSet_59 rfl kI_1 (by decide) rfl rfl ?_
        refine j_goto (tgt := 8) C dX12_cubeSet_62 rfl ?_
        have hr := izs3 ((zs3.1 &&& zx9), (zs3.2 + (1 : Int32))) (Option.some.inj hr).symm
        exact j_lv [2, 3, 4, 1, 0] rfl hr
def m_X12_four (ce : Ce) (this : Nat) (p1 : Int32) : Option (Unit × Ce) :=
  (it (fun (zs1 : Int32 × Ce) =>
    if zs1.1 < 0 then
      some (Sum.inr ((), zs1.2))
    else
      (gA zs1.2 9 6 this).bind fun zx4 =>
      (gI zs1.2 9 7 this).bind fun zx5 =>
      (sI zs1.2 zx4 zx5 ((p1 >>> (zs1.1 &&& 31)) &&& (255 : Int32))).bind fun zc6 =>
      (gI zc6 9 7 this).bind fun zx7 =>
      (pV zc6 9 7 this (.int (zx7 + (1 : Int32)))).bind fun zc8 =>
      some (Sum.inl ((zs1.1 + (-8 : Int32)), zc8))
  ) FU ((24 : Int32), ce)).bind fun (zo2 : Unit × Ce) =>
  some ((), zo2.2)
set_option maxRecDepth 100000 in
set_option maxHeartbeats 4000000 in
theorem c_X12_four {nx : Nat} {ce : Ce} {this : Nat} {p1 : Int32} {q : Unit × Ce} (hr : m_X12_four ce this p1 = some q) : Ct yX12_four cX12_four 3 none 0 0 0 0 [.ref this, .int p1] nx ce none q.2 := by
  unfold m_X12_four at hr
  refine ct_of (by decide) (Nat.le_of_ble_eq_true rfl) ?_
  intro G C hq hret hin
  show Jd G 0 0 nx ce 0 [(0, .ref this), (1, .int p1)] []
  refine j_bipush (v := 24) (pc' := 2) C dX12_four_0 kB_24 rfl ?_
  refine j_istore_n (lv' := [(2, .int (24 : Int32)), (0, .ref this), (1, .int p1)]) (pc' := 3) C dX12_four_2 rfl (by decide) rfl rfl ?_
  obtain ⟨zo2, hzo2, rzo2⟩ := ob hr
  have kzo2 : Jd G 0 0 nx zo2.2 39 [] [] := by
    have hr := rzo2
    have hr := Option.some.inj hr
    subst hr
    exact j_vret C hq hret dX12_four_39
  refine j_lv (lv' := [(0, .ref this), (1, .int p1), (2, .int (24 : Int32))]) [1, 2, 0] rfl ?_
  refine it_J (J := (fun (zs1 : Int32 × Ce) => Jd G 0 0 nx zs1.2 3 [(0, .ref this), (1, .int p1), (2, .int zs1.1)] [])) ?_ hzo2
  clear hzo2
  intro zs1 zr3 hr izs1 ezs1
  refine j_iload_n (q := 2) (pc' := 4) C dX12_four_3 rfl rfl rfl ?_
  refine j_if_lt (tgt := 39) (pc' := 7) C dX12_four_4 rfl rfl (fun hc => ?_) (fun hc => ?_)
  · have hr := ifT hc hr
    clear hc
    have hr := ezs1 _ (Option.some.inj hr).symm
    subst hr
    exact j_lv [] rfl kzo2
  · have hr := ifF hc hr
    clear hc
    refine j_aload_n (q := 0) (pc' := 8) C dX12_four_7 rfl rfl rfl ?_
    obtain ⟨zx4, hzx4, hr⟩ := ob hr
    refine j_getA (pc' := 11) C dX12_four_8 fl_X12_31 hzx4 rfl ?_
    refine j_aload_n (q := 0) (pc' := 12) C dX12_four_11 rfl rfl rfl ?_
    obtain ⟨zx5, hzx5, hr⟩ := ob hr
    refine j_getI (pc' := 15) C dX12_four_12 fl_X12_124 hzx5 rfl ?_
    refine j_iload_n (q := 1) (pc' := 16) C dX12_four_15 rfl rfl rfl ?_
    refine j_iload_n (q := 2) (pc' := 17) C dX12_four_16 rfl rfl rfl ?_
    refine j_ishr (pc' := 18) C dX12_four_17 rfl ?_
    refine j_sipush (v := 255) (pc' := 21) C dX12_four_18 kS_255 rfl ?_
    refine j_iand (pc' := 22) C dX12_four_21 rfl ?_
    obtain ⟨zc6, hzc6, hr⟩ := ob hr
    refine j_iast (pc' := 23) C dX12_four_22 hzc6 rfl ?_
    refine j_aload_n (q := 0) (pc' := 24) C dX12_four_23 rfl rfl rfl ?_
    refine j_dup (pc' := 25) C dX12_four_24 rfl rfl ?_
    obtain ⟨zx7, hzx7, hr⟩ := ob hr
    refine j_getI (pc' := 28) C dX12_four_25 fl_X12_124 hzx7 rfl ?_
    refine j_iconst (v := 1) (pc' := 29) C dX12_four_28 kI_1 rfl ?_
    refine j_iadd (pc' := 30) C dX12_four_29 rfl ?_
    obtain ⟨zc8, hzc8, hr⟩ := ob hr
    refine j_put (pc' := 33) C dX12_four_30 fw_X12_124 rfl rfl hzc8 rfl ?_
    refine j_iinc (q := 2) (v := -8) (lv' := [(2, .int (zs1.1 + (-8 : Int32))), (0, .ref this), (1, .int p1)]) (pc' := 36) C dX12_four_33 rfl kI_m8 (by decide) rfl rfl ?_
    refine j_goto (tgt := 3) C dX12_four_36 rfl ?_
    have hr := izs1 ((zs1.1 + (-8 : Int32)), zc8) (Option.some.inj hr).symm
    exact j_lv [1, 2, 0] rfl hr
def m_X12_feed (ce : Ce) (this : Nat) (p1 : Int32) (p2 : Int32) (p3 : Int32) (p4 : Int32) (p5 : Int32) : Option (Int32 × Ce) :=
  (gI ce 9 7 this).bind fun zx1 =>
  if (zx1 + (20 : Int32)) ≤ (300 : Int32) then
    (rcv ce 9 this).bind fun zz2 =>
    (m_X12_four ce this p1).bind fun zq3 =>
    (rcv zq3.2 9 this).bind fun zz4 =>
    (m_X12_four zq3.2 this p2).bind fun zq5 =>
    (rcv zq5.2 9 this).bind fun zz6 =>
    (m_X12_four zq5.2 this p3).bind fun zq7 =>
    (rcv zq7.2 9 this).bind fun zz8 =>
    (m_X12_four zq7.2 this p4).bind fun zq9 =>
    (rcv zq9.2 9 this).bind fun zz10 =>
    (m_X12_four zq9.2 this p5).bind fun zq11 =>
    (gI zq11.2 9 7 this).bind fun zx12 =>
    some (zx12, zq11.2)
  else
    some ((-1 : Int32), ce)
set_option maxRecDepth 100000 in
set_option maxHeartbeats 4000000 in
theorem c_X12_feed {nx : Nat} {ce : Ce} {this : Nat} {p1 : Int32} {p2 : Int32} {p3 : Int32} {p4 : Int32} {p5 : Int32} {q : Int32 × Ce} (hr : m_X12_feed ce this p1 p2 p3 p4 p5 = some q) : Ct yX12_feed cX12_feed 6 (some .int) 1 22 0 0 [.ref this, .int p1, .int p2, .int p3, .int p4, .int p5] nx ce (some (.int q.1)) q.2 := by
  unfold m_X12_feed at hr
  refine ct_of (by decide) (Nat.le_of_ble_eq_true rfl) ?_
  intro G C hq hret hin
  show Jd G 0 0 nx ce 0 [(0, .ref this), (1, .int p1), (2, .int p2), (3, .int p3), (4, .int p4), (5, .int p5)] []
  refine j_aload_n (q := 0) (pc' := 1) C dX12_feed_0 rfl rfl rfl ?_
  obtain ⟨zx1, hzx1, hr⟩ := ob hr
  refine j_getI (pc' := 4) C dX12_feed_1 fl_X12_124 hzx1 rfl ?_
  refine j_bipush (v := 20) (pc' := 6) C dX12_feed_4 kB_20 rfl ?_
  refine j_iadd (pc' := 7) C dX12_feed_6 rfl ?_
  refine j_sipush (v := 300) (pc' := 10) C dX12_feed_7 kS_300 rfl ?_
  refine j_ic_le (tgt := 15) (pc' := 13) C dX12_feed_10 rfl rfl (fun hc => ?_) (fun hc => ?_)
  · have hr := ifT hc hr
    clear hc
    refine j_aload_n (q := 0) (pc' := 16) C dX12_feed_15 rfl rfl rfl ?_
    refine j_iload_n (q := 1) (pc' := 17) C dX12_feed_16 rfl rfl rfl ?_
    obtain ⟨zz2, hzz2, hr⟩ := ob hr
    obtain ⟨zq3, hzq3, hr⟩ := ob hr
    obtain ⟨fhzz2, hzz2⟩ := rcv_sp hzz2
    refine j_callV (ci := 9) (As := [.int p1]) (rest := []) (st1 := []) (pc' := 20) C ⟨wm_1522, wm_39⟩ rfl hzz2 (c_X12_four (nx := nx) hzq3) yw_X12_four wm_1520 rfl rfl (Nat.le_of_ble_eq_true rfl) ⟨by decide, by decide⟩ dX12_feed_17 rfl rfl ?_
    refine j_aload_n (q := 0) (pc' := 21) C dX12_feed_20 rfl rfl rfl ?_
    refine j_iload_n (q := 2) (pc' := 22) C dX12_feed_21 rfl rfl rfl ?_
    obtain ⟨zz4, hzz4, hr⟩ := ob hr
    obtain ⟨zq5, hzq5, hr⟩ := ob hr
    obtain ⟨fhzz4, hzz4⟩ := rcv_sp hzz4
    refine j_callV (ci := 9) (As := [.int p2]) (rest := []) (st1 := []) (pc' := 25) C ⟨wm_1522, wm_39⟩ rfl hzz4 (c_X12_four (nx := nx) hzq5) yw_X12_four wm_1520 rfl rfl (Nat.le_of_ble_eq_true rfl) ⟨by decide, by decide⟩ dX12_feed_22 rfl rfl ?_
    refine j_aload_n (q := 0) (pc' := 26) C dX12_feed_25 rfl rfl rfl ?_
    refine j_iload_n (q := 3) (pc' := 27) C dX12_feed_26 rfl rfl rfl ?_
    obtain ⟨zz6, hzz6, hr⟩ := ob hr
    obtain ⟨zq7, hzq7, hr⟩ := ob hr
    obtain ⟨fhzz6, hzz6⟩ := rcv_sp hzz6
    refine j_callV (ci := 9) (As := [.int p3]) (rest := []) (st1 := []) (pc' := 30) C ⟨wm_1522, wm_39⟩ rfl hzz6 (c_X12_four (nx := nx) hzq7) yw_X12_four wm_1520 rfl rfl (Nat.le_of_ble_eq_true rfl) ⟨by decide, by decide⟩ dX12_feed_27 rfl rfl ?_
    refine j_aload_n (q := 0) (pc' := 31) C dX12_feed_30 rfl rfl rfl ?_
    refine j_iload (q := 4) (pc' := 33) C dX12_feed_31 rfl rfl ?_
    obtain ⟨zz8, hzz8, hr⟩ := ob hr
    obtain ⟨zq9, hzq9, hr⟩ := ob hr
    obtain ⟨fhzz8, hzz8⟩ := rcv_sp hzz8
    refine j_callV (ci := 9) (As := [.int p4]) (rest := []) (st1 := []) (pc' := 36) C ⟨wm_1522, wm_39⟩ rfl hzz8 (c_X12_four (nx := nx) hzq9) yw_X12_four wm_1520 rfl rfl (Nat.le_of_ble_eq_true rfl) ⟨by decide, by decide⟩ dX12_feed_33 rfl rfl ?_
    refine j_aload_n (q := 0) (pc' := 37) C dX12_feed_36 rfl rfl rfl ?_
    refine j_iload (q := 5) (pc' := 39) C dX12_feed_37 rfl rfl ?_
    obtain ⟨zz10, hzz10, hr⟩ := ob hr
    obtain ⟨zq11, hzq11, hr⟩ := ob hr
    obtain ⟨fhzz10, hzz10⟩ := rcv_sp hzz10
    refine j_callV (ci := 9) (As := [.int p5]) (rest := []) (st1 := []) (pc' := 42) C ⟨wm_1522, wm_39⟩ rfl hzz10 (c_X12_four (nx := nx) hzq11) yw_X12_four wm_1520 rfl rfl (Nat.le_of_ble_eq_true rfl) ⟨by decide, by decide⟩ dX12_feed_39 rfl rfl ?_
    refine j_aload_n (q := 0) (pc' := 43) C dX12_feed_42 rfl rfl rfl ?_
    obtain ⟨zx12, hzx12, hr⟩ := ob hr
    refine j_getI (pc' := 46) C dX12_feed_43 fl_X12_124 hzx12 rfl ?_
    have hr := Option.some.inj hr
    subst hr
    exact j_iret C hq hret dX12_feed_46
  · have hr := ifF hc hr
    clear hc
    refine j_iconst (v := -1) (pc' := 14) C dX12_feed_13 kI_m1 rfl ?_
    have hr := Option.some.inj hr
    subst hr
    exact j_iret C hq hret dX12_feed_14
def m_X12_end (ce : Ce) (this : Nat) (p1 : Int32) : Option (Int32 × Ce) :=
  (gI ce 9 7 this).bind fun zx1 =>
  (m_X12_isIn p1 (0 : Int32) zx1).bind fun zx2 =>
  if zx2 = 0 then
    some ((-1 : Int32), ce)
  else
    (pV ce 9 7 this (.int p1)).bind fun zc3 =>
    some (p1, zc3)
set_option maxRecDepth 100000 in
set_option maxHeartbeats 4000000 in
theorem c_X12_end {nx : Nat} {ce : Ce} {this : Nat} {p1 : Int32} {q : Int32 × Ce} (hr : m_X12_end ce this p1 = some q) : Ct yX12_end cX12_end 2 (some .int) 1 22 0 0 [.ref this, .int p1] nx ce (some (.int q.1)) q.2 := by
  unfold m_X12_end at hr
  refine ct_of (by decide) (Nat.le_of_ble_eq_true rfl) ?_
  intro G C hq hret hin
  show Jd G 0 0 nx ce 0 [(0, .ref this), (1, .int p1)] []
  refine j_iload_n (q := 1) (pc' := 1) C dX12_end_0 rfl rfl rfl ?_
  refine j_iconst (v := 0) (pc' := 2) C dX12_end_1 kI_0 rfl ?_
  refine j_aload_n (q := 0) (pc' := 3) C dX12_end_2 rfl rfl rfl ?_
  obtain ⟨zx1, hzx1, hr⟩ := ob hr
  refine j_getI (pc' := 6) C dX12_end_3 fl_X12_124 hzx1 rfl ?_
  obtain ⟨zx2, hzx2, hr⟩ := ob hr
  refine j_callS (As := [.int p1, .int (0 : Int32), .int zx1]) (rest := []) (st1 := [.int zx2]) (pc' := 9) C wm_1529 (c_X12_isIn (nx := nx) (ce := ce) hzx2) yw_X12_isIn wm_1528 rfl rfl (Nat.le_of_ble_eq_true rfl) ⟨by decide, by decide⟩ dX12_end_6 rfl rfl ?_
  refine j_if_ne (tgt := 14) (pc' := 12) C dX12_end_9 rfl rfl (fun hc => ?_) (fun hc => ?_)
  · have hr := ifF hc hr
    clear hc
    refine j_aload_n (q := 0) (pc' := 15) C dX12_end_14 rfl rfl rfl ?_
    refine j_iload_n (q := 1) (pc' := 16) C dX12_end_15 rfl rfl rfl ?_
    obtain ⟨zc3, hzc3, hr⟩ := ob hr
    refine j_put (pc' := 19) C dX12_end_16 fw_X12_124 rfl rfl hzc3 rfl ?_
    refine j_iload_n (q := 1) (pc' := 20) C dX12_end_19 rfl rfl rfl ?_
    have hr := Option.some.inj hr
    subst hr
    exact j_iret C hq hret dX12_end_20
  · have hr := ifT hc hr
    clear hc
    refine j_iconst (v := -1) (pc' := 13) C dX12_end_12 kI_m1 rfl ?_
    have hr := Option.some.inj hr
    subst hr
    exact j_iret C hq hret dX12_end_13
def m_X12_byteAt (ce : Ce) (this : Nat) (p1 : Int32) : Option (Int32) :=
  (gI ce 9 7 this).bind fun zx1 =>
  if zx1 ≤ p1 then
    some (-1 : Int32)
  else
    (gA ce 9 6 this).bind fun zx2 =>
    (aI ce zx2 p1).bind fun zx3 =>
    some zx3
set_option maxRecDepth 100000 in
set_option maxHeartbeats 4000000 in
theorem c_X12_byteAt {nx : Nat} {ce : Ce} {this : Nat} {p1 : Int32} {q : Int32} (hr : m_X12_byteAt ce this p1 = some q) : Ct yX12_byteAt cX12_byteAt 2 (some .int) 0 0 0 0 [.ref this, .int p1] nx ce (some (.int q)) ce := by
  unfold m_X12_byteAt at hr
  refine ct_of (by decide) (Nat.le_of_ble_eq_true rfl) ?_
  intro G C hq hret hin
  show Jd G 0 0 nx ce 0 [(0, .ref this), (1, .int p1)] []
  refine j_iload_n (q := 1) (pc' := 1) C dX12_byteAt_0 rfl rfl rfl ?_
  refine j_aload_n (q := 0) (pc' := 2) C dX12_byteAt_1 rfl rfl rfl ?_
  obtain ⟨zx1, hzx1, hr⟩ := ob hr
  refine j_getI (pc' := 5) C dX12_byteAt_2 fl_X12_124 hzx1 rfl ?_
  refine j_ic_ge (tgt := 17) (pc' := 8) C dX12_byteAt_5 rfl rfl (fun hc => ?_) (fun hc => ?_)
  · have hr := ifT hc hr
    clear hc
    refine j_iconst (v := -1) (pc' := 18) C dX12_byteAt_17 kI_m1 rfl ?_
    have hr := Option.some.inj hr
    subst hr
    exact j_iret C hq hret dX12_byteAt_18
  · have hr := ifF hc hr
    clear hc
    refine j_aload_n (q := 0) (pc' := 9) C dX12_byteAt_8 rfl rfl rfl ?_
    obtain ⟨zx2, hzx2, hr⟩ := ob hr
    refine j_getA (pc' := 12) C dX12_byteAt_9 fl_X12_31 hzx2 rfl ?_
    refine j_iload_n (q := 1) (pc' := 13) C dX12_byteAt_12 rfl rfl rfl ?_
    obtain ⟨zx3, hzx3, hr⟩ := ob hr
    refine j_iald (pc' := 14) C dX12_byteAt_13 hzx3 rfl ?_
    refine j_goto (tgt := 18) C dX12_byteAt_14 rfl ?_
    have hr := Option.some.inj hr
    subst hr
    exact j_iret C hq hret dX12_byteAt_18
def m_X12_isLetterByte (p0 : Int32) : Option (Int32) :=
  if p0 < (97 : Int32) then
    some (0 : Int32)
  else
    if (122 : Int32) < p0 then
      some (0 : Int32)
    else
      some (1 : Int32)
set_option maxRecDepth 100000 in
set_option maxHeartbeats 4000000 in
theorem c_X12_isLetterByte {nx : Nat} {ce : Ce} {p0 : Int32} {q : Int32} (hr : m_X12_isLetterByte p0 = some q) : Ct yX12_isLetterByte cX12_isLetterByte 1 (some .boolean) 0 0 0 0 [.int p0] nx ce (some (.int q)) ce := by
  unfold m_X12_isLetterByte at hr
  refine ct_of (by decide) (Nat.le_of_ble_eq_true rfl) ?_
  intro G C hq hret hin
  show Jd G 0 0 nx ce 0 [(0, .int p0)] []
  refine j_iload_n (q := 0) (pc' := 1) C dX12_isLetterByte_0 rfl rfl rfl ?_
  refine j_bipush (v := 97) (pc' := 3) C dX12_isLetterByte_1 kB_97 rfl ?_
  refine j_ic_lt (tgt := 16) (pc' := 6) C dX12_isLetterByte_3 rfl rfl (fun hc => ?_) (fun hc => ?_)
  · have hr := ifT hc hr
    clear hc
    refine j_iconst (v := 0) (pc' := 17) C dX12_isLetterByte_16 kI_0 rfl ?_
    have hr := Option.some.inj hr
    subst hr
    exact j_zret C hq hret rfl dX12_isLetterByte_17
  · have hr := ifF hc hr
    clear hc
    refine j_iload_n (q := 0) (pc' := 7) C dX12_isLetterByte_6 rfl rfl rfl ?_
    refine j_bipush (v := 122) (pc' := 9) C dX12_isLetterByte_7 kB_122 rfl ?_
    refine j_ic_gt (tgt := 16) (pc' := 12) C dX12_isLetterByte_9 rfl rfl (fun hc => ?_) (fun hc => ?_)
    · have hr := ifT hc hr
      clear hc
      refine j_iconst (v := 0) (pc' := 17) C dX12_isLetterByte_16 kI_0 rfl ?_
      have hr := Option.some.inj hr
      subst hr
      exact j_zret C hq hret rfl dX12_isLetterByte_17
    · have hr := ifF hc hr
      clear hc
      refine j_iconst (v := 1) (pc' := 13) C dX12_isLetterByte_12 kI_1 rfl ?_
      refine j_goto (tgt := 17) C dX12_isLetterByte_13 rfl ?_
      have hr := Option.some.inj hr
      subst hr
      exact j_zret C hq hret rfl dX12_isLetterByte_17
def m_X12_isFigure (p0 : Int32) : Option (Int32) :=
  if p0 < (48 : Int32) then
    some (0 : Int32)
  else
    if (57 : Int32) < p0 then
      some (0 : Int32)
    else
      some (1 : Int32)
set_option maxRecDepth 100000 in
set_option maxHeartbeats 4000000 in
theorem c_X12_isFigure {nx : Nat} {ce : Ce} {p0 : Int32} {q : Int32} (hr : m_X12_isFigure p0 = some q) : Ct yX12_isFigure cX12_isFigure 1 (some .boolean) 0 0 0 0 [.int p0] nx ce (some (.int q)) ce := by
  unfold m_X12_isFigure at hr
  refine ct_of (by decide) (Nat.le_of_ble_eq_true rfl) ?_
  intro G C hq hret hin
  show Jd G 0 0 nx ce 0 [(0, .int p0)] []
  refine j_iload_n (q := 0) (pc' := 1) C dX12_isFigure_0 rfl rfl rfl ?_
  refine j_bipush (v := 48) (pc' := 3) C dX12_isFigure_1 kB_48 rfl ?_
  refine j_ic_lt (tgt := 16) (pc' := 6) C dX12_isFigure_3 rfl rfl (fun hc => ?_) (fun hc => ?_)
  · have hr := ifT hc hr
    clear hc
    refine j_iconst (v := 0) (pc' := 17) C dX12_isFigure_16 kI_0 rfl ?_
    have hr := Option.some.inj hr
    subst hr
    exact j_zret C hq hret rfl dX12_isFigure_17
  · have hr := ifF hc hr
    clear hc
    refine j_iload_n (q := 0) (pc' := 7) C dX12_isFigure_6 rfl rfl rfl ?_
    refine j_bipush (v := 57) (pc' := 9) C dX12_isFigure_7 kB_57 rfl ?_
    refine j_ic_gt (tgt := 16) (pc' := 12) C dX12_isFigure_9 rfl rfl (fun hc => ?_) (fun hc => ?_)
    · have hr := ifT hc hr
      clear hc
      refine j_iconst (v := 0) (pc' := 17) C dX12_isFigure_16 kI_0 rfl ?_
      have hr := Option.some.inj hr
      subst hr
      exact j_zret C hq hret rfl dX12_isFigure_17
    · have hr := ifF hc hr
      clear hc
      refine j_iconst (v := 1) (pc' := 13) C dX12_isFigure_12 kI_1 rfl ?_
      refine j_goto (tgt := 17) C dX12_isFigure_13 rfl ?_
      have hr := Option.some.inj hr
      subst hr
      exact j_zret C hq hret rfl dX12_isFigure_17
def m_X12_isSign (p0 : Int32) : Option (Int32) :=
  if p0 = (40 : Int32) then
    some (1 : Int32)
  else
    if p0 = (41 : Int32) then
      some (1 : Int32)
    else
      if p0 = (33 : Int32) then
        some (1 : Int32)
      else
        if p0 = (38 : Int32) then
          some (1 : Int32)
        else
          if p0 = (94 : Int32) then
            some (1 : Int32)
          else
            if p0 = (124 : Int32) then
              some (1 : Int32)
            else
              if p0 = (59 : Int32) then
                some (1 : Int32)
              else
                some (0 : Int32)
set_option maxRecDepth 100000 in
set_option maxHeartbeats 4000000 in
theorem c_X12_isSign {nx : Nat} {ce : Ce} {p0 : Int32} {q : Int32} (hr : m_X12_isSign p0 = some q) : Ct yX12_isSign cX12_isSign 1 (some .boolean) 0 0 0 0 [.int p0] nx ce (some (.int q)) ce := by
  unfold m_X12_isSign at hr
  refine ct_of (by decide) (Nat.le_of_ble_eq_true rfl) ?_
  intro G C hq hret hin
  show Jd G 0 0 nx ce 0 [(0, .int p0)] []
  refine j_iload_n (q := 0) (pc' := 1) C dX12_isSign_0 rfl rfl rfl ?_
  refine j_bipush (v := 40) (pc' := 3) C dX12_isSign_1 kB_40 rfl ?_
  refine j_ic_eq (tgt := 42) (pc' := 6) C dX12_isSign_3 rfl rfl (fun hc => ?_) (fun hc => ?_)
  · have hr := ifT hc hr
    clear hc
    refine j_iconst (v := 1) (pc' := 43) C dX12_isSign_42 kI_1 rfl ?_
    refine j_goto (tgt := 47) C dX12_isSign_43 rfl ?_
    have hr := Option.some.inj hr
    subst hr
    exact j_zret C hq hret rfl dX12_isSign_47
  · have hr := ifF hc hr
    clear hc
    refine j_iload_n (q := 0) (pc' := 7) C dX12_isSign_6 rfl rfl rfl ?_
    refine j_bipush (v := 41) (pc' := 9) C dX12_isSign_7 kB_41 rfl ?_
    refine j_ic_eq (tgt := 42) (pc' := 12) C dX12_isSign_9 rfl rfl (fun hc => ?_) (fun hc => ?_)
    · have hr := ifT hc hr
      clear hc
      refine j_iconst (v := 1) (pc' := 43) C dX12_isSign_42 kI_1 rfl ?_
      refine j_goto (tgt := 47) C dX12_isSign_43 rfl ?_
      have hr := Option.some.inj hr
      subst hr
      exact j_zret C hq hret rfl dX12_isSign_47
    · have hr := ifF hc hr
      clear hc
      refine j_iload_n (q := 0) (pc' := 13) C dX12_isSign_12 rfl rfl rfl ?_
      refine j_bipush (v := 33) (pc' := 15) C dX12_isSign_13 kB_33 rfl ?_
      refine j_ic_eq (tgt := 42) (pc' := 18) C dX12_isSign_15 rfl rfl (fun hc => ?_) (fun hc => ?_)
      · have hr := ifT hc hr
        clear hc
        refine j_iconst (v := 1) (pc' := 43) C dX12_isSign_42 kI_1 rfl ?_
        refine j_goto (tgt := 47) C dX12_isSign_43 rfl ?_
        have hr := Option.some.inj hr
        subst hr
        exact j_zret C hq hret rfl dX12_isSign_47
      · have hr := ifF hc hr
        clear hc
        refine j_iload_n (q := 0) (pc' := 19) C dX12_isSign_18 rfl rfl rfl ?_
        refine j_bipush (v := 38) (pc' := 21) C dX12_isSign_19 kB_38 rfl ?_
        refine j_ic_eq (tgt := 42) (pc' := 24) C dX12_isSign_21 rfl rfl (fun hc => ?_) (fun hc => ?_)
        · have hr := ifT hc hr
          clear hc
          refine j_iconst (v := 1) (pc' := 43) C dX12_isSign_42 kI_1 rfl ?_
          refine j_goto (tgt := 47) C dX12_isSign_43 rfl ?_
          have hr := Option.some.inj hr
          subst hr
          exact j_zret C hq hret rfl dX12_isSign_47
        · have hr := ifF hc hr
          clear hc
          refine j_iload_n (q := 0) (pc' := 25) C dX12_isSign_24 rfl rfl rfl ?_
          refine j_bipush (v := 94) (pc' := 27) C dX12_isSign_25 kB_94 rfl ?_
          refine j_ic_eq (tgt := 42) (pc' := 30) C dX12_isSign_27 rfl rfl (fun hc => ?_) (fun hc => ?_)
          · have hr := ifT hc hr
            clear hc
            refine j_iconst (v := 1) (pc' := 43) C dX12_isSign_42 kI_1 rfl ?_
            refine j_goto (tgt := 47) C dX12_isSign_43 rfl ?_
            have hr := Option.some.inj hr
            subst hr
            exact j_zret C hq hret rfl dX12_isSign_47
          · have hr := ifF hc hr
            clear hc
            refine j_iload_n (q := 0) (pc' := 31) C dX12_isSign_30 rfl rfl rfl ?_
            refine j_bipush (v := 124) (pc' := 33) C dX12_isSign_31 kB_124 rfl ?_
            refine j_ic_eq (tgt := 42) (pc' := 36) C dX12_isSign_33 rfl rfl (fun hc => ?_) (fun hc => ?_)
            · have hr := ifT hc hr
              clear hc
              refine j_iconst (v := 1) (pc' := 43) C dX12_isSign_42 kI_1 rfl ?_
              refine j_goto (tgt := 47) C dX12_isSign_43 rfl ?_
              have hr := Option.some.inj hr
              subst hr
              exact j_zret C hq hret rfl dX12_isSign_47
            · have hr := ifF hc hr
              clear hc
              refine j_iload_n (q := 0) (pc' := 37) C dX12_isSign_36 rfl rfl rfl ?_
              refine j_bipush (v := 59) (pc' := 39) C dX12_isSign_37 kB_59 rfl ?_
              refine j_ic_ne (tgt := 46) (pc' := 42) C dX12_isSign_39 rfl rfl (fun hc => ?_) (fun hc => ?_)
              · have hr := ifF hc hr
                clear hc
                refine j_iconst (v := 0) (pc' := 47) C dX12_isSign_46 kI_0 rfl ?_
                have hr := Option.some.inj hr
                subst hr
                exact j_zret C hq hret rfl dX12_isSign_47
              · have hr := ifT hc hr
                clear hc
                refine j_iconst (v := 1) (pc' := 43) C dX12_isSign_42 kI_1 rfl ?_
                refine j_goto (tgt := 47) C dX12_isSign_43 rfl ?_
                have hr := Option.some.inj hr
                subst hr
                exact j_zret C hq hret rfl dX12_isSign_47
def m_X12_isFour (ce : Ce) (this : Nat) (p1 : Int32) (p2 : Int32) (p3 : Int32) (p4 : Int32) (p5 : Int32) : Option (Int32) :=
  if p1 = (4 : Int32) then
    (gI ce 9 11 this).bind fun zx1 =>
    (rcv ce 9 this).bind fun zz2 =>
    (m_X12_byteAt ce this zx1).bind fun zx3 =>
    if zx3 = p2 then
      (gI ce 9 11 this).bind fun zx4 =>
      (rcv ce 9 this).bind fun zz5 =>
      (m_X12_byteAt ce this (zx4 + (1 : Int32))).bind fun zx6 =>
      if zx6 = p3 then
        (gI ce 9 11 this).bind fun zx7 =>
        (rcv ce 9 this).bind fun zz8 =>
        (m_X12_byteAt ce this (zx7 + (2 : Int32))).bind fun zx9 =>
        if zx9 = p4 then
          (gI ce 9 11 this).bind fun zx10 =>
          (rcv ce 9 this).bind fun zz11 =>
          (m_X12_byteAt ce this (zx10 + (3 : Int32))).bind fun zx12 =>
          if zx12 = p5 then
            some (1 : Int32)
          else
            some (0 : Int32)
        else
          some (0 : Int32)
      else
        some (0 : Int32)
    else
      some (0 : Int32)
  else
    some (0 : Int32)
set_option maxRecDepth 100000 in
set_option maxHeartbeats 4000000 in
theorem c_X12_isFour {nx : Nat} {ce : Ce} {this : Nat} {p1 : Int32} {p2 : Int32} {p3 : Int32} {p4 : Int32} {p5 : Int32} {q : Int32} (hr : m_X12_isFour ce this p1 p2 p3 p4 p5 = some q) : Ct yX12_isFour cX12_isFour 6 (some .boolean) 1 21 0 0 [.ref this, .int p1, .int p2, .int p3, .int p4, .int p5] nx ce (some (.int q)) ce := by
  unfold m_X12_isFour at hr
  refine ct_of (by decide) (Nat.le_of_ble_eq_true rfl) ?_
  intro G C hq hret hin
  show Jd G 0 0 nx ce 0 [(0, .ref this), (1, .int p1), (2, .int p2), (3, .int p3), (4, .int p4), (5, .int p5)] []
  refine j_iload_n (q := 1) (pc' := 1) C dX12_isFour_0 rfl rfl rfl ?_
  refine j_iconst (v := 4) (pc' := 2) C dX12_isFour_1 kI_4 rfl ?_
  refine j_ic_ne (tgt := 65) (pc' := 5) C dX12_isFour_2 rfl rfl (fun hc => ?_) (fun hc => ?_)
  · have hr := ifF hc hr
    clear hc
    refine j_iconst (v := 0) (pc' := 66) C dX12_isFour_65 kI_0 rfl ?_
    have hr := Option.some.inj hr
    subst hr
    exact j_zret C hq hret rfl dX12_isFour_66
  · have hr := ifT hc hr
    clear hc
    refine j_aload_n (q := 0) (pc' := 6) C dX12_isFour_5 rfl rfl rfl ?_
    refine j_aload_n (q := 0) (pc' := 7) C dX12_isFour_6 rfl rfl rfl ?_
    obtain ⟨zx1, hzx1, hr⟩ := ob hr
    refine j_getI (pc' := 10) C dX12_isFour_7 fl_X12_131 hzx1 rfl ?_
    obtain ⟨zz2, hzz2, hr⟩ := ob hr
    obtain ⟨zx3, hzx3, hr⟩ := ob hr
    obtain ⟨fhzz2, hzz2⟩ := rcv_sp hzz2
    refine j_callV (ci := 9) (As := [.int zx1]) (rest := []) (st1 := [.int zx3]) (pc' := 13) C ⟨wm_1551, wm_42⟩ rfl hzz2 (c_X12_byteAt (nx := nx) hzx3) yw_X12_byteAt wm_1549 rfl rfl (Nat.le_of_ble_eq_true rfl) ⟨by decide, by decide⟩ dX12_isFour_10 rfl rfl ?_
    refine j_iload_n (q := 2) (pc' := 14) C dX12_isFour_13 rfl rfl rfl ?_
    refine j_ic_ne (tgt := 65) (pc' := 17) C dX12_isFour_14 rfl rfl (fun hc => ?_) (fun hc => ?_)
    · have hr := ifF hc hr
      clear hc
      refine j_iconst (v := 0) (pc' := 66) C dX12_isFour_65 kI_0 rfl ?_
      have hr := Option.some.inj hr
      subst hr
      exact j_zret C hq hret rfl dX12_isFour_66
    · have hr := ifT hc hr
      clear hc
      refine j_aload_n (q := 0) (pc' := 18) C dX12_isFour_17 rfl rfl rfl ?_
      refine j_aload_n (q := 0) (pc' := 19) C dX12_isFour_18 rfl rfl rfl ?_
      obtain ⟨zx4, hzx4, hr⟩ := ob hr
      refine j_getI (pc' := 22) C dX12_isFour_19 fl_X12_131 hzx4 rfl ?_
      refine j_iconst (v := 1) (pc' := 23) C dX12_isFour_22 kI_1 rfl ?_
      refine j_iadd (pc' := 24) C dX12_isFour_23 rfl ?_
      obtain ⟨zz5, hzz5, hr⟩ := ob hr
      obtain ⟨zx6, hzx6, hr⟩ := ob hr
      obtain ⟨fhzz5, hzz5⟩ := rcv_sp hzz5
      refine j_callV (ci := 9) (As := [.int (zx4 + (1 : Int32))]) (rest := []) (st1 := [.int zx6]) (pc' := 27) C ⟨wm_1551, wm_42⟩ rfl hzz5 (c_X12_byteAt (nx := nx) hzx6) yw_X12_byteAt wm_1549 rfl rfl (Nat.le_of_ble_eq_true rfl) ⟨by decide, by decide⟩ dX12_isFour_24 rfl rfl ?_
      refine j_iload_n (q := 3) (pc' := 28) C dX12_isFour_27 rfl rfl rfl ?_
      refine j_ic_ne (tgt := 65) (pc' := 31) C dX12_isFour_28 rfl rfl (fun hc => ?_) (fun hc => ?_)
      · have hr := ifF hc hr
        clear hc
        refine j_iconst (v := 0) (pc' := 66) C dX12_isFour_65 kI_0 rfl ?_
        have hr := Option.some.inj hr
        subst hr
        exact j_zret C hq hret rfl dX12_isFour_66
      · have hr := ifT hc hr
        clear hc
        refine j_aload_n (q := 0) (pc' := 32) C dX12_isFour_31 rfl rfl rfl ?_
        refine j_aload_n (q := 0) (pc' := 33) C dX12_isFour_32 rfl rfl rfl ?_
        obtain ⟨zx7, hzx7, hr⟩ := ob hr
        refine j_getI (pc' := 36) C dX12_isFour_33 fl_X12_131 hzx7 rfl ?_
        refine j_iconst (v := 2) (pc' := 37) C dX12_isFour_36 kI_2 rfl ?_
        refine j_iadd (pc' := 38) C dX12_isFour_37 rfl ?_
        obtain ⟨zz8, hzz8, hr⟩ := ob hr
        obtain ⟨zx9, hzx9, hr⟩ := ob hr
        obtain ⟨fhzz8, hzz8⟩ := rcv_sp hzz8
        refine j_callV (ci := 9) (As := [.int (zx7 + (2 : Int32))]) (rest := []) (st1 := [.int zx9]) (pc' := 41) C ⟨wm_1551, wm_42⟩ rfl hzz8 (c_X12_byteAt (nx := nx) hzx9) yw_X12_byteAt wm_1549 rfl rfl (Nat.le_of_ble_eq_true rfl) ⟨by decide, by decide⟩ dX12_isFour_38 rfl rfl ?_
        refine j_iload (q := 4) (pc' := 43) C dX12_isFour_41 rfl rfl ?_
        refine j_ic_ne (tgt := 65) (pc' := 46) C dX12_isFour_43 rfl rfl (fun hc => ?_) (fun hc => ?_)
        · have hr := ifF hc hr
          clear hc
          refine j_iconst (v := 0) (pc' := 66) C dX12_isFour_65 kI_0 rfl ?_
          have hr := Option.some.inj hr
          subst hr
          exact j_zret C hq hret rfl dX12_isFour_66
        · have hr := ifT hc hr
          clear hc
          refine j_aload_n (q := 0) (pc' := 47) C dX12_isFour_46 rfl rfl rfl ?_
          refine j_aload_n (q := 0) (pc' := 48) C dX12_isFour_47 rfl rfl rfl ?_
          obtain ⟨zx10, hzx10, hr⟩ := ob hr
          refine j_getI (pc' := 51) C dX12_isFour_48 fl_X12_131 hzx10 rfl ?_
          refine j_iconst (v := 3) (pc' := 52) C dX12_isFour_51 kI_3 rfl ?_
          refine j_iadd (pc' := 53) C dX12_isFour_52 rfl ?_
          obtain ⟨zz11, hzz11, hr⟩ := ob hr
          obtain ⟨zx12, hzx12, hr⟩ := ob hr
          obtain ⟨fhzz11, hzz11⟩ := rcv_sp hzz11
          refine j_callV (ci := 9) (As := [.int (zx10 + (3 : Int32))]) (rest := []) (st1 := [.int zx12]) (pc' := 56) C ⟨wm_1551, wm_42⟩ rfl hzz11 (c_X12_byteAt (nx := nx) hzx12) yw_X12_byteAt wm_1549 rfl rfl (Nat.le_of_ble_eq_true rfl) ⟨by decide, by decide⟩ dX12_isFour_53 rfl rfl ?_
          refine j_iload (q := 5) (pc' := 58) C dX12_isFour_56 rfl rfl ?_
          refine j_ic_ne (tgt := 65) (pc' := 61) C dX12_isFour_58 rfl rfl (fun hc => ?_) (fun hc => ?_)
          · have hr := ifF hc hr
            clear hc
            refine j_iconst (v := 0) (pc' := 66) C dX12_isFour_65 kI_0 rfl ?_
            have hr := Option.some.inj hr
            subst hr
            exact j_zret C hq hret rfl dX12_isFour_66
          · have hr := ifT hc hr
            clear hc
            refine j_iconst (v := 1) (pc' := 62) C dX12_isFour_61 kI_1 rfl ?_
            refine j_goto (tgt := 66) C dX12_isFour_62 rfl ?_
            have hr := Option.some.inj hr
            subst hr
            exact j_zret C hq hret rfl dX12_isFour_66
def m_X12_wordOf (ce : Ce) (this : Nat) (p1 : Int32) : Option (Int32 × Ce) :=
  (gI ce 9 11 this).bind fun zx1 =>
  (rcv ce 9 this).bind fun zz2 =>
  (m_X12_byteAt ce this zx1).bind fun zx3 =>
  (pV ce 9 13 this (.int (zx3 - (97 : Int32)))).bind fun zc4 =>
  (
    if p1 = (1 : Int32) then
      if (102 : Int32) < zx3 then
        some (Sum.inr ())
      else
        some (Sum.inl (204 : Int32))
    else
      some (Sum.inr ())
  ).bind fun (zj5 : Int32 ⊕ Unit) => Sum.elim (fun wzj5 => some (wzj5, zc4)) (fun vzj5 =>
    (pV zc4 9 13 this (.int (zx3 - (120 : Int32)))).bind fun zc6 =>
    (
      if p1 = (1 : Int32) then
        if zx3 = (120 : Int32) then
          some (Sum.inl (205 : Int32))
        else
          if zx3 = (121 : Int32) then
            some (Sum.inl (205 : Int32))
          else
            some (Sum.inr ())
      else
        some (Sum.inr ())
    ).bind fun (zj7 : Int32 ⊕ Unit) => Sum.elim (fun wzj7 => some (wzj7, zc6)) (fun vzj7 =>
      (rcv zc6 9 this).bind fun zz8 =>
      (m_X12_isFour zc6 this p1 (105 : Int32) (110 : Int32) (105 : Int32) (116 : Int32)).bind fun zx9 =>
      if zx9 = 0 then
        (rcv zc6 9 this).bind fun zz10 =>
        (m_X12_isFour zc6 this p1 (110 : Int32) (101 : Int32) (120 : Int32) (116 : Int32)).bind fun zx11 =>
        if zx11 = 0 then
          (
            if p1 = (3 : Int32) then
              if zx3 = (98 : Int32) then
                (gI zc6 9 11 this).bind fun zx27 =>
                (rcv zc6 9 this).bind fun zz28 =>
                (m_X12_byteAt zc6 this (zx27 + (1 : Int32))).bind fun zx29 =>
                if zx29 = (97 : Int32) then
                  (gI zc6 9 11 this).bind fun zx30 =>
                  (rcv zc6 9 this).bind fun zz31 =>
                  (m_X12_byteAt zc6 this (zx30 + (2 : Int32))).bind fun zx32 =>
                  if zx32 = (100 : Int32) then
                    some (Sum.inl (202 : Int32))
                  else
                    some (Sum.inr ())
                else
                  some (Sum.inr ())
              else
                some (Sum.inr ())
            else
              some (Sum.inr ())
          ).bind fun (zj12 : Int32 ⊕ Unit) => Sum.elim (fun wzj12 => some (wzj12, zc6)) (fun vzj12 =>
            (
              if p1 = (7 : Int32) then
                (gI zc6 9 11 this).bind fun zx16 =>
                (rcv zc6 9 this).bind fun zz17 =>
                (m_X12_byteAt zc6 this (zx16 + (4 : Int32))).bind fun zx18 =>
                if zx18 = (101 : Int32) then
                  (gI zc6 9 11 this).bind fun zx19 =>
                  (rcv zc6 9 this).bind fun zz20 =>
                  (m_X12_byteAt zc6 this (zx19 + (5 : Int32))).bind fun zx21 =>
                  if zx21 = (114 : Int32) then
                    (gI zc6 9 11 this).bind fun zx22 =>
                    (rcv zc6 9 this).bind fun zz23 =>
                    (m_X12_byteAt zc6 this (zx22 + (6 : Int32))).bind fun zx24 =>
                    if zx24 = (115 : Int32) then
                      if (1 : Int32) = 0 then
                        some (Sum.inl (2 : Int32))
                      else
                        (rcv zc6 9 this).bind fun zz25 =>
                        (m_X12_isFour zc6 this (4 : Int32) (108 : Int32) (101 : Int32) (116 : Int32) (116 : Int32)).bind fun zx26 =>
                        if zx26 = 0 then
                          some (Sum.inl (2 : Int32))
                        else
                          some (Sum.inl (200 : Int32))
                    else
                      some (Sum.inr ())
                  else
                    some (Sum.inr ())
                else
                  some (Sum.inr ())
              else
                some (Sum.inr ())
            ).bind fun (zj13 : Int32 ⊕ Unit) => Sum.elim (fun wzj13 => some (wzj13, zc6)) (fun vzj13 =>
              if (0 : Int32) = 0 then
                some ((2 : Int32), zc6)
              else
                (rcv zc6 9 this).bind fun zz14 =>
                (m_X12_isFour zc6 this (4 : Int32) (108 : Int32) (101 : Int32) (116 : Int32) (116 : Int32)).bind fun zx15 =>
                if zx15 = 0 then
                  some ((2 : Int32), zc6)
                else
                  some ((200 : Int32), zc6)
            ) zj13
          ) zj12
        else
          some ((203 : Int32), zc6)
      else
        some ((201 : Int32), zc6)
    ) zj7
  ) zj5
set_option maxRecDepth 100000 in
set_option maxHeartbeats 4000000 in
theorem c_X12_wordOf {nx : Nat} {ce : Ce} {this : Nat} {p1 : Int32} {q : Int32 × Ce} (hr : m_X12_wordOf ce this p1 = some q) : Ct yX12_wordOf cX12_wordOf 4 (some .int) 2 46 0 0 [.ref this, .int p1] nx ce (some (.int q.1)) q.2 := by
  unfold m_X12_wordOf at hr
  refine ct_of (by decide) (Nat.le_of_ble_eq_true rfl) ?_
  intro G C hq hret hin
  show Jd G 0 0 nx ce 0 [(0, .ref this), (1, .int p1)] []
  refine j_aload_n (q := 0) (pc' := 1) C dX12_wordOf_0 rfl rfl rfl ?_
  refine j_aload_n (q := 0) (pc' := 2) C dX12_wordOf_1 rfl rfl rfl ?_
  obtain ⟨zx1, hzx1, hr⟩ := ob hr
  refine j_getI (pc' := 5) C dX12_wordOf_2 fl_X12_131 hzx1 rfl ?_
  obtain ⟨zz2, hzz2, hr⟩ := ob hr
  obtain ⟨zx3, hzx3, hr⟩ := ob hr
  obtain ⟨fhzz2, hzz2⟩ := rcv_sp hzz2
  refine j_callV (ci := 9) (As := [.int zx1]) (rest := []) (st1 := [.int zx3]) (pc' := 8) C ⟨wm_1551, wm_42⟩ rfl hzz2 (c_X12_byteAt (nx := nx) hzx3) yw_X12_byteAt wm_1549 rfl rfl (Nat.le_of_ble_eq_true rfl) ⟨by decide, by decide⟩ dX12_wordOf_5 rfl rfl ?_
  refine j_istore_n (lv' := [(2, .int zx3), (0, .ref this), (1, .int p1)]) (pc' := 9) C dX12_wordOf_8 rfl (by decide) rfl rfl ?_
  refine j_aload_n (q := 1) (pc' := 10) C dX12_wordOf_9 rfl rfl rfl ?_
  refine j_iload_n (q := 0) (pc' := 11) C dX12_wordOf_10 rfl rfl rfl ?_
  refine j_bipush (v := 97) (pc' := 13) C dX12_wordOf_11 kB_97 rfl ?_
  refine j_isub (pc' := 14) C dX12_wordOf_13 rfl ?_
  obtain ⟨zc4, hzc4, hr⟩ := ob hr
  refine j_put (pc' := 17) C dX12_wordOf_14 fw_X12_138 rfl rfl hzc4 rfl ?_
  refine j_iload_n (q := 2) (pc' := 18) C dX12_wordOf_17 rfl rfl rfl ?_
  refine j_iconst (v := 1) (pc' := 19) C dX12_wordOf_18 kI_1 rfl ?_
  obtain ⟨zj5, hzj5, rzj5⟩ := ob hr
  have kzj5 : ∀ vzj5, zj5 = Sum.inr vzj5 → Jd G 0 0 nx zc4 32 [(0, .ref this), (1, .int p1), (2, .int zx3)] [] := by
    intro vzj5 ezj5
    rw [ezj5] at rzj5
    have hr := elR rzj5
    refine j_aload_n (q := 0) (pc' := 33) C dX12_wordOf_32 rfl rfl rfl ?_
    refine j_iload_n (q := 2) (pc' := 34) C dX12_wordOf_33 rfl rfl rfl ?_
    refine j_bipush (v := 120) (pc' := 36) C dX12_wordOf_34 kB_120 rfl ?_
    refine j_isub (pc' := 37) C dX12_wordOf_36 rfl ?_
    obtain ⟨zc6, hzc6, hr⟩ := ob hr
    refine j_put (pc' := 40) C dX12_wordOf_37 fw_X12_138 rfl rfl hzc6 rfl ?_
    refine j_iload_n (q := 1) (pc' := 41) C dX12_wordOf_40 rfl rfl rfl ?_
    refine j_iconst (v := 1) (pc' := 42) C dX12_wordOf_41 kI_1 rfl ?_
    obtain ⟨zj7, hzj7, rzj7⟩ := ob hr
    have kzj7 : ∀ vzj7, zj7 = Sum.inr vzj7 → Jd G 0 0 nx zc6 61 [(0, .ref this), (1, .int p1), (2, .int zx3)] [] := by
      intro vzj7 ezj7
      rw [ezj7] at rzj7
      have hr := elR rzj7
      refine j_aload_n (q := 0) (pc' := 62) C dX12_wordOf_61 rfl rfl rfl ?_
      refine j_iload_n (q := 1) (pc' := 63) C dX12_wordOf_62 rfl rfl rfl ?_
      refine j_bipush (v := 105) (pc' := 65) C dX12_wordOf_63 kB_105 rfl ?_
      refine j_bipush (v := 110) (pc' := 67) C dX12_wordOf_65 kB_110 rfl ?_
      refine j_bipush (v := 105) (pc' := 69) C dX12_wordOf_67 kB_105 rfl ?_
      refine j_bipush (v := 116) (pc' := 71) C dX12_wordOf_69 kB_116 rfl ?_
      obtain ⟨zz8, hzz8, hr⟩ := ob hr
      obtain ⟨zx9, hzx9, hr⟩ := ob hr
      obtain ⟨fhzz8, hzz8⟩ := rcv_sp hzz8
      refine j_callV (ci := 9) (As := [.int p1, .int (105 : Int32), .int (110 : Int32), .int (105 : Int32), .int (116 : Int32)]) (rest := []) (st1 := [.int zx9]) (pc' := 74) C ⟨wm_1565, wm_44⟩ rfl hzz8 (c_X12_isFour (nx := nx) hzx9) yw_X12_isFour wm_1563 rfl rfl (Nat.le_of_ble_eq_true rfl) ⟨by decide, by decide⟩ dX12_wordOf_71 rfl rfl ?_
      refine j_if_eq (tgt := 81) (pc' := 77) C dX12_wordOf_74 rfl rfl (fun hc => ?_) (fun hc => ?_)
      · have hr := ifT hc hr
        clear hc
        refine j_aload_n (q := 0) (pc' := 82) C dX12_wordOf_81 rfl rfl rfl ?_
        refine j_iload_n (q := 1) (pc' := 83) C dX12_wordOf_82 rfl rfl rfl ?_
        refine j_bipush (v := 110) (pc' := 85) C dX12_wordOf_83 kB_110 rfl ?_
        refine j_bipush (v := 101) (pc' := 87) C dX12_wordOf_85 kB_101 rfl ?_
        refine j_bipush (v := 120) (pc' := 89) C dX12_wordOf_87 kB_120 rfl ?_
        refine j_bipush (v := 116) (pc' := 91) C dX12_wordOf_89 kB_116 rfl ?_
        obtain ⟨zz10, hzz10, hr⟩ := ob hr
        obtain ⟨zx11, hzx11, hr⟩ := ob hr
        obtain ⟨fhzz10, hzz10⟩ := rcv_sp hzz10
        refine j_callV (ci := 9) (As := [.int p1, .int (110 : Int32), .int (101 : Int32), .int (120 : Int32), .int (116 : Int32)]) (rest := []) (st1 := [.int zx11]) (pc' := 94) C ⟨wm_1565, wm_44⟩ rfl hzz10 (c_X12_isFour (nx := nx) hzx11) yw_X12_isFour wm_1563 rfl rfl (Nat.le_of_ble_eq_true rfl) ⟨by decide, by decide⟩ dX12_wordOf_91 rfl rfl ?_
        refine j_if_eq (tgt := 101) (pc' := 97) C dX12_wordOf_94 rfl rfl (fun hc => ?_) (fun hc => ?_)
        · have hr := ifT hc hr
          clear hc
          refine j_iload_n (q := 1) (pc' := 102) C dX12_wordOf_101 rfl rfl rfl ?_
          refine j_iconst (v := 3) (pc' := 103) C dX12_wordOf_102 kI_3 rfl ?_
          obtain ⟨zj12, hzj12, rzj12⟩ := ob hr
          have kzj12 : ∀ vzj12, zj12 = Sum.inr vzj12 → Jd G 0 0 nx zc6 146 [(0, .ref this), (1, .int p1)] [] := by
            intro vzj12 ezj12
            rw [ezj12] at rzj12
            have hr := elR rzj12
            refine j_iload_n (q := 1) (pc' := 147) C dX12_wordOf_146 rfl rfl rfl ?_
            refine j_bipush (v := 7) (pc' := 149) C dX12_wordOf_147 kB_7 rfl ?_
            obtain ⟨zj13, hzj13, rzj13⟩ := ob hr
            have kzj13 : ∀ vzj13, zj13 = Sum.inr vzj13 → Jd G 0 0 nx zc6 202 [(0, .ref this)] [] := by
              intro vzj13 ezj13
              rw [ezj13] at rzj13
              have hr := elR rzj13
              refine j_iconst (v := 0) (pc' := 203) C dX12_wordOf_202 kI_0 rfl ?_
              refine j_istore_n (lv' := [(3, .int (0 : Int32)), (0, .ref this)]) (pc' := 204) C dX12_wordOf_203 rfl (by decide) rfl rfl ?_
              refine j_iload_n (q := 0) (pc' := 205) C dX12_wordOf_204 rfl rfl rfl ?_
              refine j_if_eq (tgt := 230) (pc' := 208) C dX12_wordOf_205 rfl rfl (fun hc => ?_) (fun hc => ?_)
              · have hr := ifT hc hr
                clear hc
                refine j_iconst (v := 2) (pc' := 231) C dX12_wordOf_230 kI_2 rfl ?_
                have hr := Option.some.inj hr
                subst hr
                exact j_iret C hq hret dX12_wordOf_231
              · have hr := ifF hc hr
                clear hc
                refine j_aload_n (q := 1) (pc' := 209) C dX12_wordOf_208 rfl rfl rfl ?_
                refine j_iconst (v := 4) (pc' := 210) C dX12_wordOf_209 kI_4 rfl ?_
                refine j_bipush (v := 108) (pc' := 212) C dX12_wordOf_210 kB_108 rfl ?_
                refine j_bipush (v := 101) (pc' := 214) C dX12_wordOf_212 kB_101 rfl ?_
                refine j_bipush (v := 116) (pc' := 216) C dX12_wordOf_214 kB_116 rfl ?_
                refine j_bipush (v := 116) (pc' := 218) C dX12_wordOf_216 kB_116 rfl ?_
                obtain ⟨zz14, hzz14, hr⟩ := ob hr
                obtain ⟨zx15, hzx15, hr⟩ := ob hr
                obtain ⟨fhzz14, hzz14⟩ := rcv_sp hzz14
                refine j_callV (ci := 9) (As := [.int (4 : Int32), .int (108 : Int32), .int (101 : Int32), .int (116 : Int32), .int (116 : Int32)]) (rest := []) (st1 := [.int zx15]) (pc' := 221) C ⟨wm_1565, wm_44⟩ rfl hzz14 (c_X12_isFour (nx := nx) hzx15) yw_X12_isFour wm_1563 rfl rfl (Nat.le_of_ble_eq_true rfl) ⟨by decide, by decide⟩ dX12_wordOf_218 rfl rfl ?_
                refine j_if_eq (tgt := 230) (pc' := 224) C dX12_wordOf_221 rfl rfl (fun hc => ?_) (fun hc => ?_)
                · have hr := ifT hc hr
                  clear hc
                  refine j_iconst (v := 2) (pc' := 231) C dX12_wordOf_230 kI_2 rfl ?_
                  have hr := Option.some.inj hr
                  subst hr
                  exact j_iret C hq hret dX12_wordOf_231
                · have hr := ifF hc hr
                  clear hc
                  refine j_sipush (v := 200) (pc' := 227) C dX12_wordOf_224 kS_200 rfl ?_
                  refine j_goto (tgt := 231) C dX12_wordOf_227 rfl ?_
                  have hr := Option.some.inj hr
                  subst hr
                  exact j_iret C hq hret dX12_wordOf_231
            have hr := hzj13
            clear hzj13
            refine j_ic_ne (tgt := 202) (pc' := 152) C dX12_wordOf_149 rfl rfl (fun hc => ?_) (fun hc => ?_)
            · have hr := ifF hc hr
              clear hc
              have hr := Option.some.inj hr
              subst hr
              exact j_lv [0] rfl (kzj13 _ rfl)
            · have hr := ifT hc hr
              clear hc
              refine j_aload_n (q := 0) (pc' := 153) C dX12_wordOf_152 rfl rfl rfl ?_
              refine j_aload_n (q := 0) (pc' := 154) C dX12_wordOf_153 rfl rfl rfl ?_
              obtain ⟨zx16, hzx16, hr⟩ := ob hr
              refine j_getI (pc' := 157) C dX12_wordOf_154 fl_X12_131 hzx16 rfl ?_
              refine j_iconst (v := 4) (pc' := 158) C dX12_wordOf_157 kI_4 rfl ?_
              refine j_iadd (pc' := 159) C dX12_wordOf_158 rfl ?_
              obtain ⟨zz17, hzz17, hr⟩ := ob hr
              obtain ⟨zx18, hzx18, hr⟩ := ob hr
              obtain ⟨fhzz17, hzz17⟩ := rcv_sp hzz17
              refine j_callV (ci := 9) (As := [.int (zx16 + (4 : Int32))]) (rest := []) (st1 := [.int zx18]) (pc' := 162) C ⟨wm_1551, wm_42⟩ rfl hzz17 (c_X12_byteAt (nx := nx) hzx18) yw_X12_byteAt wm_1549 rfl rfl (Nat.le_of_ble_eq_true rfl) ⟨by decide, by decide⟩ dX12_wordOf_159 rfl rfl ?_
              refine j_bipush (v := 101) (pc' := 164) C dX12_wordOf_162 kB_101 rfl ?_
              refine j_ic_ne (tgt := 202) (pc' := 167) C dX12_wordOf_164 rfl rfl (fun hc => ?_) (fun hc => ?_)
              · have hr := ifF hc hr
                clear hc
                have hr := Option.some.inj hr
                subst hr
                exact j_lv [0] rfl (kzj13 _ rfl)
              · have hr := ifT hc hr
                clear hc
                refine j_aload_n (q := 0) (pc' := 168) C dX12_wordOf_167 rfl rfl rfl ?_
                refine j_aload_n (q := 0) (pc' := 169) C dX12_wordOf_168 rfl rfl rfl ?_
                obtain ⟨zx19, hzx19, hr⟩ := ob hr
                refine j_getI (pc' := 172) C dX12_wordOf_169 fl_X12_131 hzx19 rfl ?_
                refine j_iconst (v := 5) (pc' := 173) C dX12_wordOf_172 kI_5 rfl ?_
                refine j_iadd (pc' := 174) C dX12_wordOf_173 rfl ?_
                obtain ⟨zz20, hzz20, hr⟩ := ob hr
                obtain ⟨zx21, hzx21, hr⟩ := ob hr
                obtain ⟨fhzz20, hzz20⟩ := rcv_sp hzz20
                refine j_callV (ci := 9) (As := [.int (zx19 + (5 : Int32))]) (rest := []) (st1 := [.int zx21]) (pc' := 177) C ⟨wm_1551, wm_42⟩ rfl hzz20 (c_X12_byteAt (nx := nx) hzx21) yw_X12_byteAt wm_1549 rfl rfl (Nat.le_of_ble_eq_true rfl) ⟨by decide, by decide⟩ dX12_wordOf_174 rfl rfl ?_
                refine j_bipush (v := 114) (pc' := 179) C dX12_wordOf_177 kB_114 rfl ?_
                refine j_ic_ne (tgt := 202) (pc' := 182) C dX12_wordOf_179 rfl rfl (fun hc => ?_) (fun hc => ?_)
                · have hr := ifF hc hr
                  clear hc
                  have hr := Option.some.inj hr
                  subst hr
                  exact j_lv [0] rfl (kzj13 _ rfl)
                · have hr := ifT hc hr
                  clear hc
                  refine j_aload_n (q := 0) (pc' := 183) C dX12_wordOf_182 rfl rfl rfl ?_
                  refine j_aload_n (q := 0) (pc' := 184) C dX12_wordOf_183 rfl rfl rfl ?_
                  obtain ⟨zx22, hzx22, hr⟩ := ob hr
                  refine j_getI (pc' := 187) C dX12_wordOf_184 fl_X12_131 hzx22 rfl ?_
                  refine j_bipush (v := 6) (pc' := 189) C dX12_wordOf_187 kB_6 rfl ?_
                  refine j_iadd (pc' := 190) C dX12_wordOf_189 rfl ?_
                  obtain ⟨zz23, hzz23, hr⟩ := ob hr
                  obtain ⟨zx24, hzx24, hr⟩ := ob hr
                  obtain ⟨fhzz23, hzz23⟩ := rcv_sp hzz23
                  refine j_callV (ci := 9) (As := [.int (zx22 + (6 : Int32))]) (rest := []) (st1 := [.int zx24]) (pc' := 193) C ⟨wm_1551, wm_42⟩ rfl hzz23 (c_X12_byteAt (nx := nx) hzx24) yw_X12_byteAt wm_1549 rfl rfl (Nat.le_of_ble_eq_true rfl) ⟨by decide, by decide⟩ dX12_wordOf_190 rfl rfl ?_
                  refine j_bipush (v := 115) (pc' := 195) C dX12_wordOf_193 kB_115 rfl ?_
                  refine j_ic_ne (tgt := 202) (pc' := 198) C dX12_wordOf_195 rfl rfl (fun hc => ?_) (fun hc => ?_)
                  · have hr := ifF hc hr
                    clear hc
                    have hr := Option.some.inj hr
                    subst hr
                    exact j_lv [0] rfl (kzj13 _ rfl)
                  · have hr := ifT hc hr
                    clear hc
                    refine j_iconst (v := 1) (pc' := 199) C dX12_wordOf_198 kI_1 rfl ?_
                    refine j_goto (tgt := 203) C dX12_wordOf_199 rfl ?_
                    refine j_istore_n (lv' := [(3, .int (1 : Int32)), (0, .ref this), (1, .int p1)]) (pc' := 204) C dX12_wordOf_203 rfl (by decide) rfl rfl ?_
                    refine j_iload_n (q := 0) (pc' := 205) C dX12_wordOf_204 rfl rfl rfl ?_
                    refine j_if_eq (tgt := 230) (pc' := 208) C dX12_wordOf_205 rfl rfl (fun hc => ?_) (fun hc => ?_)
                    · have hr := ifT hc hr
                      clear hc
                      refine j_iconst (v := 2) (pc' := 231) C dX12_wordOf_230 kI_2 rfl ?_
                      have hr := Option.some.inj hr
                      subst hr
                      have hr := elL rzj13
                      have hr := Option.some.inj hr
                      subst hr
                      exact j_iret C hq hret dX12_wordOf_231
                    · have hr := ifF hc hr
                      clear hc
                      refine j_aload_n (q := 1) (pc' := 209) C dX12_wordOf_208 rfl rfl rfl ?_
                      refine j_iconst (v := 4) (pc' := 210) C dX12_wordOf_209 kI_4 rfl ?_
                      refine j_bipush (v := 108) (pc' := 212) C dX12_wordOf_210 kB_108 rfl ?_
                      refine j_bipush (v := 101) (pc' := 214) C dX12_wordOf_212 kB_101 rfl ?_
                      refine j_bipush (v := 116) (pc' := 216) C dX12_wordOf_214 kB_116 rfl ?_
                      refine j_bipush (v := 116) (pc' := 218) C dX12_wordOf_216 kB_116 rfl ?_
                      obtain ⟨zz25, hzz25, hr⟩ := ob hr
                      obtain ⟨zx26, hzx26, hr⟩ := ob hr
                      obtain ⟨fhzz25, hzz25⟩ := rcv_sp hzz25
                      refine j_callV (ci := 9) (As := [.int (4 : Int32), .int (108 : Int32), .int (101 : Int32), .int (116 : Int32), .int (116 : Int32)]) (rest := []) (st1 := [.int zx26]) (pc' := 221) C ⟨wm_1565, wm_44⟩ rfl hzz25 (c_X12_isFour (nx := nx) hzx26) yw_X12_isFour wm_1563 rfl rfl (Nat.le_of_ble_eq_true rfl) ⟨by decide, by decide⟩ dX12_wordOf_218 rfl rfl ?_
                      refine j_if_eq (tgt := 230) (pc' := 224) C dX12_wordOf_221 rfl rfl (fun hc => ?_) (fun hc => ?_)
                      · have hr := ifT hc hr
                        clear hc
                        refine j_iconst (v := 2) (pc' := 231) C dX12_wordOf_230 kI_2 rfl ?_
                        have hr := Option.some.inj hr
                        subst hr
                        have hr := elL rzj13
                        have hr := Option.some.inj hr
                        subst hr
                        exact j_iret C hq hret dX12_wordOf_231
                      · have hr := ifF hc hr
                        clear hc
                        refine j_sipush (v := 200) (pc' := 227) C dX12_wordOf_224 kS_200 rfl ?_
                        refine j_goto (tgt := 231) C dX12_wordOf_227 rfl ?_
                        have hr := Option.some.inj hr
                        subst hr
                        have hr := elL rzj13
                        have hr := Option.some.inj hr
                        subst hr
                        exact j_iret C hq hret dX12_wordOf_231
          have hr := hzj12
          clear hzj12
          refine j_ic_ne (tgt := 146) (pc' := 106) C dX12_wordOf_103 rfl rfl (fun hc => ?_) (fun hc => ?_)
          · have hr := ifF hc hr
            clear hc
            have hr := Option.some.inj hr
            subst hr
            exact j_lv [0, 1] rfl (kzj12 _ rfl)
          · have hr := ifT hc hr
            clear hc
            refine j_iload_n (q := 2) (pc' := 107) C dX12_wordOf_106 rfl rfl rfl ?_
            refine j_bipush (v := 98) (pc' := 109) C dX12_wordOf_107 kB_98 rfl ?_
            refine j_ic_ne (tgt := 146) (pc' := 112) C dX12_wordOf_109 rfl rfl (fun hc => ?_) (fun hc => ?_)
            · have hr := ifF hc hr
              clear hc
              have hr := Option.some.inj hr
              subst hr
              exact j_lv [0, 1] rfl (kzj12 _ rfl)
            · have hr := ifT hc hr
              clear hc
              refine j_aload_n (q := 0) (pc' := 113) C dX12_wordOf_112 rfl rfl rfl ?_
              refine j_aload_n (q := 0) (pc' := 114) C dX12_wordOf_113 rfl rfl rfl ?_
              obtain ⟨zx27, hzx27, hr⟩ := ob hr
              refine j_getI (pc' := 117) C dX12_wordOf_114 fl_X12_131 hzx27 rfl ?_
              refine j_iconst (v := 1) (pc' := 118) C dX12_wordOf_117 kI_1 rfl ?_
              refine j_iadd (pc' := 119) C dX12_wordOf_118 rfl ?_
              obtain ⟨zz28, hzz28, hr⟩ := ob hr
              obtain ⟨zx29, hzx29, hr⟩ := ob hr
              obtain ⟨fhzz28, hzz28⟩ := rcv_sp hzz28
              refine j_callV (ci := 9) (As := [.int (zx27 + (1 : Int32))]) (rest := []) (st1 := [.int zx29]) (pc' := 122) C ⟨wm_1551, wm_42⟩ rfl hzz28 (c_X12_byteAt (nx := nx) hzx29) yw_X12_byteAt wm_1549 rfl rfl (Nat.le_of_ble_eq_true rfl) ⟨by decide, by decide⟩ dX12_wordOf_119 rfl rfl ?_
              refine j_bipush (v := 97) (pc' := 124) C dX12_wordOf_122 kB_97 rfl ?_
              refine j_ic_ne (tgt := 146) (pc' := 127) C dX12_wordOf_124 rfl rfl (fun hc => ?_) (fun hc => ?_)
              · have hr := ifF hc hr
                clear hc
                have hr := Option.some.inj hr
                subst hr
                exact j_lv [0, 1] rfl (kzj12 _ rfl)
              · have hr := ifT hc hr
                clear hc
                refine j_aload_n (q := 0) (pc' := 128) C dX12_wordOf_127 rfl rfl rfl ?_
                refine j_aload_n (q := 0) (pc' := 129) C dX12_wordOf_128 rfl rfl rfl ?_
                obtain ⟨zx30, hzx30, hr⟩ := ob hr
                refine j_getI (pc' := 132) C dX12_wordOf_129 fl_X12_131 hzx30 rfl ?_
                refine j_iconst (v := 2) (pc' := 133) C dX12_wordOf_132 kI_2 rfl ?_
                refine j_iadd (pc' := 134) C dX12_wordOf_133 rfl ?_
                obtain ⟨zz31, hzz31, hr⟩ := ob hr
                obtain ⟨zx32, hzx32, hr⟩ := ob hr
                obtain ⟨fhzz31, hzz31⟩ := rcv_sp hzz31
                refine j_callV (ci := 9) (As := [.int (zx30 + (2 : Int32))]) (rest := []) (st1 := [.int zx32]) (pc' := 137) C ⟨wm_1551, wm_42⟩ rfl hzz31 (c_X12_byteAt (nx := nx) hzx32) yw_X12_byteAt wm_1549 rfl rfl (Nat.le_of_ble_eq_true rfl) ⟨by decide, by decide⟩ dX12_wordOf_134 rfl rfl ?_
                refine j_bipush (v := 100) (pc' := 139) C dX12_wordOf_137 kB_100 rfl ?_
                refine j_ic_ne (tgt := 146) (pc' := 142) C dX12_wordOf_139 rfl rfl (fun hc => ?_) (fun hc => ?_)
                · have hr := ifF hc hr
                  clear hc
                  have hr := Option.some.inj hr
                  subst hr
                  exact j_lv [0, 1] rfl (kzj12 _ rfl)
                · have hr := ifT hc hr
                  clear hc
                  refine j_sipush (v := 202) (pc' := 145) C dX12_wordOf_142 kS_202 rfl ?_
                  have hr := Option.some.inj hr
                  subst hr
                  have hr := elL rzj12
                  have hr := Option.some.inj hr
                  subst hr
                  exact j_iret C hq hret dX12_wordOf_145
        · have hr := ifF hc hr
          clear hc
          refine j_sipush (v := 203) (pc' := 100) C dX12_wordOf_97 kS_203 rfl ?_
          have hr := Option.some.inj hr
          subst hr
          exact j_iret C hq hret dX12_wordOf_100
      · have hr := ifF hc hr
        clear hc
        refine j_sipush (v := 201) (pc' := 80) C dX12_wordOf_77 kS_201 rfl ?_
        have hr := Option.some.inj hr
        subst hr
        exact j_iret C hq hret dX12_wordOf_80
    have hr := hzj7
    clear hzj7
    refine j_ic_ne (tgt := 61) (pc' := 45) C dX12_wordOf_42 rfl rfl (fun hc => ?_) (fun hc => ?_)
    · have hr := ifF hc hr
      clear hc
      have hr := Option.some.inj hr
      subst hr
      exact j_lv [0, 1, 2] rfl (kzj7 _ rfl)
    · have hr := ifT hc hr
      clear hc
      refine j_iload_n (q := 2) (pc' := 46) C dX12_wordOf_45 rfl rfl rfl ?_
      refine j_bipush (v := 120) (pc' := 48) C dX12_wordOf_46 kB_120 rfl ?_
      refine j_ic_eq (tgt := 57) (pc' := 51) C dX12_wordOf_48 rfl rfl (fun hc => ?_) (fun hc => ?_)
      · have hr := ifT hc hr
        clear hc
        refine j_sipush (v := 205) (pc' := 60) C dX12_wordOf_57 kS_205 rfl ?_
        have hr := Option.some.inj hr
        subst hr
        have hr := elL rzj7
        have hr := Option.some.inj hr
        subst hr
        exact j_iret C hq hret dX12_wordOf_60
      · have hr := ifF hc hr
        clear hc
        refine j_iload_n (q := 2) (pc' := 52) C dX12_wordOf_51 rfl rfl rfl ?_
        refine j_bipush (v := 121) (pc' := 54) C dX12_wordOf_52 kB_121 rfl ?_
        refine j_ic_ne (tgt := 61) (pc' := 57) C dX12_wordOf_54 rfl rfl (fun hc => ?_) (fun hc => ?_)
        · have hr := ifF hc hr
          clear hc
          have hr := Option.some.inj hr
          subst hr
          exact j_lv [0, 1, 2] rfl (kzj7 _ rfl)
        · have hr := ifT hc hr
          clear hc
          refine j_sipush (v := 205) (pc' := 60) C dX12_wordOf_57 kS_205 rfl ?_
          have hr := Option.some.inj hr
          subst hr
          have hr := elL rzj7
          have hr := Option.some.inj hr
          subst hr
          exact j_iret C hq hret dX12_wordOf_60
  have hr := hzj5
  clear hzj5
  refine j_ic_ne (tgt := 32) (pc' := 22) C dX12_wordOf_19 rfl rfl (fun hc => ?_) (fun hc => ?_)
  · have hr := ifF hc hr
    clear hc
    have hr := Option.some.inj hr
    subst hr
    exact j_lv [1, 2, 0] rfl (kzj5 _ rfl)
  · have hr := ifT hc hr
    clear hc
    refine j_iload_n (q := 0) (pc' := 23) C dX12_wordOf_22 rfl rfl rfl ?_
    refine j_bipush (v := 102) (pc' := 25) C dX12_wordOf_23 kB_102 rfl ?_
    refine j_ic_gt (tgt := 32) (pc' := 28) C dX12_wordOf_25 rfl rfl (fun hc => ?_) (fun hc => ?_)
    · have hr := ifT hc hr
      clear hc
      have hr := Option.some.inj hr
      subst hr
      exact j_lv [1, 2, 0] rfl (kzj5 _ rfl)
    · have hr := ifF hc hr
      clear hc
      refine j_sipush (v := 204) (pc' := 31) C dX12_wordOf_28 kS_204 rfl ?_
      have hr := Option.some.inj hr
      subst hr
      have hr := elL rzj5
      have hr := Option.some.inj hr
      subst hr
      exact j_iret C hq hret dX12_wordOf_31
def m_X12_nextToken (ce : Ce) (this : Nat) : Option (Unit × Ce) :=
  (it (fun (zs1 : Unit × Ce) =>
    (gI zs1.2 9 10 this).bind fun zx50 =>
    (rcv zs1.2 9 this).bind fun zz51 =>
    (m_X12_byteAt zs1.2 this zx50).bind fun zx52 =>
    (
      if zx52 = (32 : Int32) then
        some (Sum.inr ())
      else
        (gI zs1.2 9 10 this).bind fun zx56 =>
        (rcv zs1.2 9 this).bind fun zz57 =>
        (m_X12_byteAt zs1.2 this zx56).bind fun zx58 =>
        if zx58 = (10 : Int32) then
          some (Sum.inr ())
        else
          some (Sum.inl (Sum.inr ((), zs1.2)))
    ).bind fun (zj53 : ((Unit × Ce) ⊕ (Unit × Ce)) ⊕ Unit) => Sum.elim (fun wzj53 => some wzj53) (fun vzj53 =>
      (gI zs1.2 9 10 this).bind fun zx54 =>
      (pV zs1.2 9 10 this (.int (zx54 + (1 : Int32)))).bind fun zc55 =>
      some (Sum.inl ((), zc55))
    ) zj53
  ) FU ((), ce)).bind fun (zo2 : Unit × Ce) =>
  (gI zo2.2 9 10 this).bind fun zx4 =>
  (pV zo2.2 9 11 this (.int zx4)).bind fun zc5 =>
  (gI zc5 9 10 this).bind fun zx6 =>
  (rcv zc5 9 this).bind fun zz7 =>
  (m_X12_byteAt zc5 this zx6).bind fun zx8 =>
  if 0 ≤ zx8 then
    (m_X12_isFigure zx8).bind fun zx9 =>
    if zx9 = 0 then
      (m_X12_isLetterByte zx8).bind fun zx10 =>
      if zx10 = 0 then
        (m_X12_isSign zx8).bind fun zx11 =>
        (
          if zx11 = 0 then
            some (2 : Int32)
          else
            some zx8
        ).bind fun (zj12 : Int32) =>
        (pV zc5 9 12 this (.int zj12)).bind fun zc13 =>
        (gI zc13 9 10 this).bind fun zx14 =>
        (pV zc13 9 10 this (.int (zx14 + (1 : Int32)))).bind fun zc15 =>
        some ((), zc15)
      else
        (it (fun (zs16 : Unit × Ce) =>
          (gI zs16.2 9 10 this).bind fun zx24 =>
          (rcv zs16.2 9 this).bind fun zz25 =>
          (m_X12_byteAt zs16.2 this zx24).bind fun zx26 =>
          (m_X12_isLetterByte zx26).bind fun zx27 =>
          if zx27 = 0 then
            some (Sum.inr ((), zs16.2))
          else
            (gI zs16.2 9 10 this).bind fun zx28 =>
            (pV zs16.2 9 10 this (.int (zx28 + (1 : Int32)))).bind fun zc29 =>
            some (Sum.inl ((), zc29))
        ) FU ((), zc5)).bind fun (zo17 : Unit × Ce) =>
        (gI zo17.2 9 10 this).bind fun zx19 =>
        (gI zo17.2 9 11 this).bind fun zx20 =>
        (rcv zo17.2 9 this).bind fun zz21 =>
        (m_X12_wordOf zo17.2 this (zx19 - zx20)).bind fun zq22 =>
        (pV zq22.2 9 12 this (.int zq22.1)).bind fun zc23 =>
        some ((), zc23)
    else
      (pV zc5 9 12 this (.int (1 : Int32))).bind fun zc30 =>
      (pV zc30 9 13 this (.int (0 : Int32))).bind fun zc31 =>
      (it (fun (zs32 : Unit × Ce) =>
        (gI zs32.2 9 10 this).bind fun zx35 =>
        (rcv zs32.2 9 this).bind fun zz36 =>
        (m_X12_byteAt zs32.2 this zx35).bind fun zx37 =>
        (m_X12_isFigure zx37).bind fun zx38 =>
        if zx38 = 0 then
          some (Sum.inr ((), zs32.2))
        else
          (gI zs32.2 9 13 this).bind fun zx39 =>
          (
            if zx39 ≤ (9999 : Int32) then
              (gI zs32.2 9 13 this).bind fun zx44 =>
              (gI zs32.2 9 10 this).bind fun zx45 =>
              (rcv zs32.2 9 this).bind fun zz46 =>
              (m_X12_byteAt zs32.2 this zx45).bind fun zx47 =>
              some ((((10 : Int32) * zx44) + zx47) - (48 : Int32))
            else
              (gI zs32.2 9 13 this).bind fun zx48 =>
              some zx48
          ).bind fun (zj40 : Int32) =>
          (pV zs32.2 9 13 this (.int zj40)).bind fun zc41 =>
          (gI zc41 9 10 this).bind fun zx42 =>
          (pV zc41 9 10 this (.int (zx42 + (1 : Int32)))).bind fun zc43 =>
          some (Sum.inl ((), zc43))
      ) FU ((), zc31)).bind fun (zo33 : Unit × Ce) =>
      some ((), zo33.2)
  else
    (pV zc5 9 12 this (.int (0 : Int32))).bind fun zc49 =>
    some ((), zc49)
set_option maxRecDepth 100000 in
set_option maxHeartbeats 4000000 in
theorem c_X12_nextToken {nx : Nat} {ce : Ce} {this : Nat} {q : Unit × Ce} (hr : m_X12_nextToken ce this = some q) : Ct yX12_nextToken cX12_nextToken 2 none 3 69 0 0 [.ref this] nx ce none q.2 := by
  unfold m_X12_nextToken at hr
  refine ct_of (by decide) (Nat.le_of_ble_eq_true rfl) ?_
  intro G C hq hret hin
  show Jd G 0 0 nx ce 0 [(0, .ref this)] []
  obtain ⟨zo2, hzo2, rzo2⟩ := ob hr
  have kzo2 : Jd G 0 0 nx zo2.2 39 [(0, .ref this)] [] := by
    have hr := rzo2
    refine j_aload_n (q := 0) (pc' := 40) C dX12_nextToken_39 rfl rfl rfl ?_
    refine j_aload_n (q := 0) (pc' := 41) C dX12_nextToken_40 rfl rfl rfl ?_
    obtain ⟨zx4, hzx4, hr⟩ := ob hr
    refine j_getI (pc' := 44) C dX12_nextToken_41 fl_X12_145 hzx4 rfl ?_
    obtain ⟨zc5, hzc5, hr⟩ := ob hr
    refine j_put (pc' := 47) C dX12_nextToken_44 fw_X12_131 rfl rfl hzc5 rfl ?_
    refine j_aload_n (q := 0) (pc' := 48) C dX12_nextToken_47 rfl rfl rfl ?_
    refine j_aload_n (q := 0) (pc' := 49) C dX12_nextToken_48 rfl rfl rfl ?_
    obtain ⟨zx6, hzx6, hr⟩ := ob hr
    refine j_getI (pc' := 52) C dX12_nextToken_49 fl_X12_145 hzx6 rfl ?_
    obtain ⟨zz7, hzz7, hr⟩ := ob hr
    obtain ⟨zx8, hzx8, hr⟩ := ob hr
    obtain ⟨fhzz7, hzz7⟩ := rcv_sp hzz7
    refine j_callV (ci := 9) (As := [.int zx6]) (rest := []) (st1 := [.int zx8]) (pc' := 55) C ⟨wm_1551, wm_42⟩ rfl hzz7 (c_X12_byteAt (nx := nx) hzx8) yw_X12_byteAt wm_1549 rfl rfl (Nat.le_of_ble_eq_true rfl) ⟨by decide, by decide⟩ dX12_nextToken_52 rfl rfl ?_
    refine j_istore_n (lv' := [(1, .int zx8), (0, .ref this)]) (pc' := 56) C dX12_nextToken_55 rfl (by decide) rfl rfl ?_
    refine j_iload_n (q := 0) (pc' := 57) C dX12_nextToken_56 rfl rfl rfl ?_
    refine j_if_ge (tgt := 68) (pc' := 60) C dX12_nextToken_57 rfl rfl (fun hc => ?_) (fun hc => ?_)
    · have hr := ifT hc hr
      clear hc
      refine j_iload_n (q := 0) (pc' := 69) C dX12_nextToken_68 rfl rfl rfl ?_
      obtain ⟨zx9, hzx9, hr⟩ := ob hr
      refine j_callS (As := [.int zx8]) (rest := []) (st1 := [.int zx9]) (pc' := 72) C wm_1554 (c_X12_isFigure (nx := nx) (ce := zc5) hzx9) yw_X12_isFigure wm_1553 rfl rfl (Nat.le_of_ble_eq_true rfl) ⟨by decide, by decide⟩ dX12_nextToken_69 rfl rfl ?_
      refine j_if_eq (tgt := 152) (pc' := 75) C dX12_nextToken_72 rfl rfl (fun hc => ?_) (fun hc => ?_)
      · have hr := ifT hc hr
        clear hc
        refine j_iload_n (q := 0) (pc' := 153) C dX12_nextToken_152 rfl rfl rfl ?_
        obtain ⟨zx10, hzx10, hr⟩ := ob hr
        refine j_callS (As := [.int zx8]) (rest := []) (st1 := [.int zx10]) (pc' := 156) C wm_1557 (c_X12_isLetterByte (nx := nx) (ce := zc5) hzx10) yw_X12_isLetterByte wm_1556 rfl rfl (Nat.le_of_ble_eq_true rfl) ⟨by decide, by decide⟩ dX12_nextToken_153 rfl rfl ?_
        refine j_if_eq (tgt := 206) (pc' := 159) C dX12_nextToken_156 rfl rfl (fun hc => ?_) (fun hc => ?_)
        · have hr := ifT hc hr
          clear hc
          refine j_aload_n (q := 1) (pc' := 207) C dX12_nextToken_206 rfl rfl rfl ?_
          refine j_iload_n (q := 0) (pc' := 208) C dX12_nextToken_207 rfl rfl rfl ?_
          obtain ⟨zx11, hzx11, hr⟩ := ob hr
          refine j_callS (As := [.int zx8]) (rest := [.ref this]) (st1 := [.int zx11, .ref this]) (pc' := 211) C wm_1568 (c_X12_isSign (nx := nx) (ce := zc5) hzx11) yw_X12_isSign wm_1567 rfl rfl (Nat.le_of_ble_eq_true rfl) ⟨by decide, by decide⟩ dX12_nextToken_208 rfl rfl ?_
          obtain ⟨zj12, hzj12, rzj12⟩ := ob hr
          have kzj12 : Jd G 0 0 nx zc5 219 [(0, .ref this)] [.int zj12, .ref this] := by
            have hr := rzj12
            obtain ⟨zc13, hzc13, hr⟩ := ob hr
            refine j_put (pc' := 222) C dX12_nextToken_219 fw_X12_148 rfl rfl hzc13 rfl ?_
            refine j_aload_n (q := 0) (pc' := 223) C dX12_nextToken_222 rfl rfl rfl ?_
            refine j_dup (pc' := 224) C dX12_nextToken_223 rfl rfl ?_
            obtain ⟨zx14, hzx14, hr⟩ := ob hr
            refine j_getI (pc' := 227) C dX12_nextToken_224 fl_X12_145 hzx14 rfl ?_
            refine j_iconst (v := 1) (pc' := 228) C dX12_nextToken_227 kI_1 rfl ?_
            refine j_iadd (pc' := 229) C dX12_nextToken_228 rfl ?_
            obtain ⟨zc15, hzc15, hr⟩ := ob hr
            refine j_put (pc' := 232) C dX12_nextToken_229 fw_X12_145 rfl rfl hzc15 rfl ?_
            have hr := Option.some.inj hr
            subst hr
            exact j_vret C hq hret dX12_nextToken_232
          clear rzj12
          have hr := hzj12
          clear hzj12
          refine j_if_eq (tgt := 218) (pc' := 214) C dX12_nextToken_211 rfl rfl (fun hc => ?_) (fun hc => ?_)
          · have hr := ifT hc hr
            clear hc
            refine j_iconst (v := 2) (pc' := 219) C dX12_nextToken_218 kI_2 rfl ?_
            have hr := Option.some.inj hr
            subst hr
            exact j_lv [1] rfl kzj12
          · have hr := ifF hc hr
            clear hc
            refine j_iload_n (q := 0) (pc' := 215) C dX12_nextToken_214 rfl rfl rfl ?_
            refine j_goto (tgt := 219) C dX12_nextToken_215 rfl ?_
            have hr := Option.some.inj hr
            subst hr
            exact j_lv [1] rfl kzj12
        · have hr := ifF hc hr
          clear hc
          obtain ⟨zo17, hzo17, rzo17⟩ := ob hr
          have kzo17 : Jd G 0 0 nx zo17.2 186 [(0, .ref this)] [] := by
            have hr := rzo17
            refine j_aload_n (q := 0) (pc' := 187) C dX12_nextToken_186 rfl rfl rfl ?_
            refine j_aload_n (q := 0) (pc' := 188) C dX12_nextToken_187 rfl rfl rfl ?_
            refine j_aload_n (q := 0) (pc' := 189) C dX12_nextToken_188 rfl rfl rfl ?_
            obtain ⟨zx19, hzx19, hr⟩ := ob hr
            refine j_getI (pc' := 192) C dX12_nextToken_189 fl_X12_145 hzx19 rfl ?_
            refine j_aload_n (q := 0) (pc' := 193) C dX12_nextToken_192 rfl rfl rfl ?_
            obtain ⟨zx20, hzx20, hr⟩ := ob hr
            refine j_getI (pc' := 196) C dX12_nextToken_193 fl_X12_131 hzx20 rfl ?_
            refine j_isub (pc' := 197) C dX12_nextToken_196 rfl ?_
            obtain ⟨zz21, hzz21, hr⟩ := ob hr
            obtain ⟨zq22, hzq22, hr⟩ := ob hr
            obtain ⟨fhzz21, hzz21⟩ := rcv_sp hzz21
            refine j_callV (ci := 9) (As := [.int (zx19 - zx20)]) (rest := [.ref this]) (st1 := [.int zq22.1, .ref this]) (pc' := 200) C ⟨wm_1561, wm_43⟩ rfl hzz21 (c_X12_wordOf (nx := nx) hzq22) yw_X12_wordOf wm_1559 rfl rfl (Nat.le_of_ble_eq_true rfl) ⟨by decide, by decide⟩ dX12_nextToken_197 rfl rfl ?_
            obtain ⟨zc23, hzc23, hr⟩ := ob hr
            refine j_put (pc' := 203) C dX12_nextToken_200 fw_X12_148 rfl rfl hzc23 rfl ?_
            refine j_goto (tgt := 232) C dX12_nextToken_203 rfl ?_
            have hr := Option.some.inj hr
            subst hr
            exact j_vret C hq hret dX12_nextToken_232
          refine j_lv (lv' := [(0, .ref this)]) [1] rfl ?_
          refine it_J (J := (fun (zs16 : Unit × Ce) => Jd G 0 0 nx zs16.2 159 [(0, .ref this)] [])) ?_ hzo17
          clear hzo17
          intro zs16 zr18 hr izs16 ezs16
          refine j_aload_n (q := 0) (pc' := 160) C dX12_nextToken_159 rfl rfl rfl ?_
          refine j_aload_n (q := 0) (pc' := 161) C dX12_nextToken_160 rfl rfl rfl ?_
          obtain ⟨zx24, hzx24, hr⟩ := ob hr
          refine j_getI (pc' := 164) C dX12_nextToken_161 fl_X12_145 hzx24 rfl ?_
          obtain ⟨zz25, hzz25, hr⟩ := ob hr
          obtain ⟨zx26, hzx26, hr⟩ := ob hr
          obtain ⟨fhzz25, hzz25⟩ := rcv_sp hzz25
          refine j_callV (ci := 9) (As := [.int zx24]) (rest := []) (st1 := [.int zx26]) (pc' := 167) C ⟨wm_1551, wm_42⟩ rfl hzz25 (c_X12_byteAt (nx := nx) hzx26) yw_X12_byteAt wm_1549 rfl rfl (Nat.le_of_ble_eq_true rfl) ⟨by decide, by decide⟩ dX12_nextToken_164 rfl rfl ?_
          obtain ⟨zx27, hzx27, hr⟩ := ob hr
          refine j_callS (As := [.int zx26]) (rest := []) (st1 := [.int zx27]) (pc' := 170) C wm_1557 (c_X12_isLetterByte (nx := nx) (ce := zs16.2) hzx27) yw_X12_isLetterByte wm_1556 rfl rfl (Nat.le_of_ble_eq_true rfl) ⟨by decide, by decide⟩ dX12_nextToken_167 rfl rfl ?_
          refine j_if_eq (tgt := 186) (pc' := 173) C dX12_nextToken_170 rfl rfl (fun hc => ?_) (fun hc => ?_)
          · have hr := ifT hc hr
            clear hc
            have hr := ezs16 _ (Option.some.inj hr).symm
            subst hr
            exact j_lv [0] rfl kzo17
          · have hr := ifF hc hr
            clear hc
            refine j_aload_n (q := 0) (pc' := 174) C dX12_nextToken_173 rfl rfl rfl ?_
            refine j_dup (pc' := 175) C dX12_nextToken_174 rfl rfl ?_
            obtain ⟨zx28, hzx28, hr⟩ := ob hr
            refine j_getI (pc' := 178) C dX12_nextToken_175 fl_X12_145 hzx28 rfl ?_
            refine j_iconst (v := 1) (pc' := 179) C dX12_nextToken_178 kI_1 rfl ?_
            refine j_iadd (pc' := 180) C dX12_nextToken_179 rfl ?_
            obtain ⟨zc29, hzc29, hr⟩ := ob hr
            refine j_put (pc' := 183) C dX12_nextToken_180 fw_X12_145 rfl rfl hzc29 rfl ?_
            refine j_goto (tgt := 159) C dX12_nextToken_183 rfl ?_
            have hr := izs16 ((), zc29) (Option.some.inj hr).symm
            exact j_lv [0] rfl hr
      · have hr := ifF hc hr
        clear hc
        refine j_aload_n (q := 1) (pc' := 76) C dX12_nextToken_75 rfl rfl rfl ?_
        refine j_iconst (v := 1) (pc' := 77) C dX12_nextToken_76 kI_1 rfl ?_
        obtain ⟨zc30, hzc30, hr⟩ := ob hr
        refine j_put (pc' := 80) C dX12_nextToken_77 fw_X12_148 rfl rfl hzc30 rfl ?_
        refine j_aload_n (q := 1) (pc' := 81) C dX12_nextToken_80 rfl rfl rfl ?_
        refine j_iconst (v := 0) (pc' := 82) C dX12_nextToken_81 kI_0 rfl ?_
        obtain ⟨zc31, hzc31, hr⟩ := ob hr
        refine j_put (pc' := 85) C dX12_nextToken_82 fw_X12_138 rfl rfl hzc31 rfl ?_
        obtain ⟨zo33, hzo33, rzo33⟩ := ob hr
        have kzo33 : Jd G 0 0 nx zo33.2 232 [] [] := by
          have hr := rzo33
          have hr := Option.some.inj hr
          subst hr
          exact j_vret C hq hret dX12_nextToken_232
        refine j_lv (lv' := [(0, .ref this)]) [1] rfl ?_
        refine it_J (J := (fun (zs32 : Unit × Ce) => Jd G 0 0 nx zs32.2 85 [(0, .ref this)] [])) ?_ hzo33
        clear hzo33
        intro zs32 zr34 hr izs32 ezs32
        refine j_aload_n (q := 0) (pc' := 86) C dX12_nextToken_85 rfl rfl rfl ?_
        refine j_aload_n (q := 0) (pc' := 87) C dX12_nextToken_86 rfl rfl rfl ?_
        obtain ⟨zx35, hzx35, hr⟩ := ob hr
        refine j_getI (pc' := 90) C dX12_nextToken_87 fl_X12_145 hzx35 rfl ?_
        obtain ⟨zz36, hzz36, hr⟩ := ob hr
        obtain ⟨zx37, hzx37, hr⟩ := ob hr
        obtain ⟨fhzz36, hzz36⟩ := rcv_sp hzz36
        refine j_callV (ci := 9) (As := [.int zx35]) (rest := []) (st1 := [.int zx37]) (pc' := 93) C ⟨wm_1551, wm_42⟩ rfl hzz36 (c_X12_byteAt (nx := nx) hzx37) yw_X12_byteAt wm_1549 rfl rfl (Nat.le_of_ble_eq_true rfl) ⟨by decide, by decide⟩ dX12_nextToken_90 rfl rfl ?_
        obtain ⟨zx38, hzx38, hr⟩ := ob hr
        refine j_callS (As := [.int zx37]) (rest := []) (st1 := [.int zx38]) (pc' := 96) C wm_1554 (c_X12_isFigure (nx := nx) (ce := zs32.2) hzx38) yw_X12_isFigure wm_1553 rfl rfl (Nat.le_of_ble_eq_true rfl) ⟨by decide, by decide⟩ dX12_nextToken_93 rfl rfl ?_
        refine j_if_eq (tgt := 232) (pc' := 99) C dX12_nextToken_96 rfl rfl (fun hc => ?_) (fun hc => ?_)
        · have hr := ifT hc hr
          clear hc
          have hr := ezs32 _ (Option.some.inj hr).symm
          subst hr
          exact j_lv [] rfl kzo33
        · have hr := ifF hc hr
          clear hc
          refine j_aload_n (q := 0) (pc' := 100) C dX12_nextToken_99 rfl rfl rfl ?_
          refine j_aload_n (q := 0) (pc' := 101) C dX12_nextToken_100 rfl rfl rfl ?_
          obtain ⟨zx39, hzx39, hr⟩ := ob hr
          refine j_getI (pc' := 104) C dX12_nextToken_101 fl_X12_138 hzx39 rfl ?_
          refine j_sipush (v := 9999) (pc' := 107) C dX12_nextToken_104 kS_9999 rfl ?_
          obtain ⟨zj40, hzj40, rzj40⟩ := ob hr
          have kzj40 : Jd G 0 0 nx zs32.2 136 [(0, .ref this)] [.int zj40, .ref this] := by
            have hr := rzj40
            obtain ⟨zc41, hzc41, hr⟩ := ob hr
            refine j_put (pc' := 139) C dX12_nextToken_136 fw_X12_138 rfl rfl hzc41 rfl ?_
            refine j_aload_n (q := 0) (pc' := 140) C dX12_nextToken_139 rfl rfl rfl ?_
            refine j_dup (pc' := 141) C dX12_nextToken_140 rfl rfl ?_
            obtain ⟨zx42, hzx42, hr⟩ := ob hr
            refine j_getI (pc' := 144) C dX12_nextToken_141 fl_X12_145 hzx42 rfl ?_
            refine j_iconst (v := 1) (pc' := 145) C dX12_nextToken_144 kI_1 rfl ?_
            refine j_iadd (pc' := 146) C dX12_nextToken_145 rfl ?_
            obtain ⟨zc43, hzc43, hr⟩ := ob hr
            refine j_put (pc' := 149) C dX12_nextToken_146 fw_X12_145 rfl rfl hzc43 rfl ?_
            refine j_goto (tgt := 85) C dX12_nextToken_149 rfl ?_
            have hr := izs32 ((), zc43) (Option.some.inj hr).symm
            exact j_lv [0] rfl hr
          clear rzj40
          have hr := hzj40
          clear hzj40
          refine j_ic_le (tgt := 117) (pc' := 110) C dX12_nextToken_107 rfl rfl (fun hc => ?_) (fun hc => ?_)
          · have hr := ifT hc hr
            clear hc
            refine j_bipush (v := 10) (pc' := 119) C dX12_nextToken_117 kB_10 rfl ?_
            refine j_aload_n (q := 0) (pc' := 120) C dX12_nextToken_119 rfl rfl rfl ?_
            obtain ⟨zx44, hzx44, hr⟩ := ob hr
            refine j_getI (pc' := 123) C dX12_nextToken_120 fl_X12_138 hzx44 rfl ?_
            refine j_imul (pc' := 124) C dX12_nextToken_123 rfl ?_
            refine j_aload_n (q := 0) (pc' := 125) C dX12_nextToken_124 rfl rfl rfl ?_
            refine j_aload_n (q := 0) (pc' := 126) C dX12_nextToken_125 rfl rfl rfl ?_
            obtain ⟨zx45, hzx45, hr⟩ := ob hr
            refine j_getI (pc' := 129) C dX12_nextToken_126 fl_X12_145 hzx45 rfl ?_
            obtain ⟨zz46, hzz46, hr⟩ := ob hr
            obtain ⟨zx47, hzx47, hr⟩ := ob hr
            obtain ⟨fhzz46, hzz46⟩ := rcv_sp hzz46
            refine j_callV (ci := 9) (As := [.int zx45]) (rest := [.int ((10 : Int32) * zx44), .ref this]) (st1 := [.int zx47, .int ((10 : Int32) * zx44), .ref this]) (pc' := 132) C ⟨wm_1551, wm_42⟩ rfl hzz46 (c_X12_byteAt (nx := nx) hzx47) yw_X12_byteAt wm_1549 rfl rfl (Nat.le_of_ble_eq_true rfl) ⟨by decide, by decide⟩ dX12_nextToken_129 rfl rfl ?_
            refine j_iadd (pc' := 133) C dX12_nextToken_132 rfl ?_
            refine j_bipush (v := 48) (pc' := 135) C dX12_nextToken_133 kB_48 rfl ?_
            refine j_isub (pc' := 136) C dX12_nextToken_135 rfl ?_
            have hr := Option.some.inj hr
            subst hr
            exact j_lv [0] rfl kzj40
          · have hr := ifF hc hr
            clear hc
            refine j_aload_n (q := 0) (pc' := 111) C dX12_nextToken_110 rfl rfl rfl ?_
            obtain ⟨zx48, hzx48, hr⟩ := ob hr
            refine j_getI (pc' := 114) C dX12_nextToken_111 fl_X12_138 hzx48 rfl ?_
            refine j_goto (tgt := 136) C dX12_nextToken_114 rfl ?_
            have hr := Option.some.inj hr
            subst hr
            exact j_lv [0] rfl kzj40
    · have hr := ifF hc hr
      clear hc
      refine j_aload_n (q := 1) (pc' := 61) C dX12_nextToken_60 rfl rfl rfl ?_
      refine j_iconst (v := 0) (pc' := 62) C dX12_nextToken_61 kI_0 rfl ?_
      obtain ⟨zc49, hzc49, hr⟩ := ob hr
      refine j_put (pc' := 65) C dX12_nextToken_62 fw_X12_148 rfl rfl hzc49 rfl ?_
      refine j_goto (tgt := 232) C dX12_nextToken_65 rfl ?_
      have hr := Option.some.inj hr
      subst hr
      exact j_vret C hq hret dX12_nextToken_232
  refine j_lv (lv' := [(0, .ref this)]) [0] rfl ?_
  refine it_J (J := (fun (zs1 : Unit × Ce) => Jd G 0 0 nx zs1.2 0 [(0, .ref this)] [])) ?_ hzo2
  clear hzo2
  intro zs1 zr3 hr izs1 ezs1
  refine j_aload_n (q := 0) (pc' := 1) C dX12_nextToken_0 rfl rfl rfl ?_
  refine j_aload_n (q := 0) (pc' := 2) C dX12_nextToken_1 rfl rfl rfl ?_
  obtain ⟨zx50, hzx50, hr⟩ := ob hr
  refine j_getI (pc' := 5) C dX12_nextToken_2 fl_X12_145 hzx50 rfl ?_
  obtain ⟨zz51, hzz51, hr⟩ := ob hr
  obtain ⟨zx52, hzx52, hr⟩ := ob hr
  obtain ⟨fhzz51, hzz51⟩ := rcv_sp hzz51
  refine j_callV (ci := 9) (As := [.int zx50]) (rest := []) (st1 := [.int zx52]) (pc' := 8) C ⟨wm_1551, wm_42⟩ rfl hzz51 (c_X12_byteAt (nx := nx) hzx52) yw_X12_byteAt wm_1549 rfl rfl (Nat.le_of_ble_eq_true rfl) ⟨by decide, by decide⟩ dX12_nextToken_5 rfl rfl ?_
  refine j_bipush (v := 32) (pc' := 10) C dX12_nextToken_8 kB_32 rfl ?_
  obtain ⟨zj53, hzj53, rzj53⟩ := ob hr
  have kzj53 : ∀ vzj53, zj53 = Sum.inr vzj53 → Jd G 0 0 nx zs1.2 26 [(0, .ref this)] [] := by
    intro vzj53 ezj53
    rw [ezj53] at rzj53
    have hr := elR rzj53
    refine j_aload_n (q := 0) (pc' := 27) C dX12_nextToken_26 rfl rfl rfl ?_
    refine j_dup (pc' := 28) C dX12_nextToken_27 rfl rfl ?_
    obtain ⟨zx54, hzx54, hr⟩ := ob hr
    refine j_getI (pc' := 31) C dX12_nextToken_28 fl_X12_145 hzx54 rfl ?_
    refine j_iconst (v := 1) (pc' := 32) C dX12_nextToken_31 kI_1 rfl ?_
    refine j_iadd (pc' := 33) C dX12_nextToken_32 rfl ?_
    obtain ⟨zc55, hzc55, hr⟩ := ob hr
    refine j_put (pc' := 36) C dX12_nextToken_33 fw_X12_145 rfl rfl hzc55 rfl ?_
    refine j_goto (tgt := 0) C dX12_nextToken_36 rfl ?_
    have hr := izs1 ((), zc55) (Option.some.inj hr).symm
    exact j_lv [0] rfl hr
  have hr := hzj53
  clear hzj53
  refine j_ic_eq (tgt := 26) (pc' := 13) C dX12_nextToken_10 rfl rfl (fun hc => ?_) (fun hc => ?_)
  · have hr := ifT hc hr
    clear hc
    have hr := Option.some.inj hr
    subst hr
    exact j_lv [0] rfl (kzj53 _ rfl)
  · have hr := ifF hc hr
    clear hc
    refine j_aload_n (q := 0) (pc' := 14) C dX12_nextToken_13 rfl rfl rfl ?_
    refine j_aload_n (q := 0) (pc' := 15) C dX12_nextToken_14 rfl rfl rfl ?_
    obtain ⟨zx56, hzx56, hr⟩ := ob hr
    refine j_getI (pc' := 18) C dX12_nextToken_15 fl_X12_145 hzx56 rfl ?_
    obtain ⟨zz57, hzz57, hr⟩ := ob hr
    obtain ⟨zx58, hzx58, hr⟩ := ob hr
    obtain ⟨fhzz57, hzz57⟩ := rcv_sp hzz57
    refine j_callV (ci := 9) (As := [.int zx56]) (rest := []) (st1 := [.int zx58]) (pc' := 21) C ⟨wm_1551, wm_42⟩ rfl hzz57 (c_X12_byteAt (nx := nx) hzx58) yw_X12_byteAt wm_1549 rfl rfl (Nat.le_of_ble_eq_true rfl) ⟨by decide, by decide⟩ dX12_nextToken_18 rfl rfl ?_
    refine j_bipush (v := 10) (pc' := 23) C dX12_nextToken_21 kB_10 rfl ?_
    refine j_ic_ne (tgt := 39) (pc' := 26) C dX12_nextToken_23 rfl rfl (fun hc => ?_) (fun hc => ?_)
    · have hr := ifF hc hr
      clear hc
      have hr := Option.some.inj hr
      subst hr
      have hr := elL rzj53
      have hr := ezs1 _ (Option.some.inj hr).symm
      subst hr
      exact j_lv [0] rfl kzo2
    · have hr := ifT hc hr
      clear hc
      have hr := Option.some.inj hr
      subst hr
      exact j_lv [0] rfl (kzj53 _ rfl)
def m_X12_push (ce : Ce) (this : Nat) (p1 : Int64) (p2 : Int64) (p3 : Int64) (p4 : Int64) : Option (Unit × Ce) :=
  (gA ce 9 14 this).bind fun zx1 =>
  (gI ce 9 16 this).bind fun zx2 =>
  (sL ce zx1 ((4 : Int32) * zx2) p1).bind fun zc3 =>
  (gA zc3 9 14 this).bind fun zx4 =>
  (gI zc3 9 16 this).bind fun zx5 =>
  (sL zc3 zx4 (((4 : Int32) * zx5) + (1 : Int32)) p2).bind fun zc6 =>
  (gA zc6 9 14 this).bind fun zx7 =>
  (gI zc6 9 16 this).bind fun zx8 =>
  (sL zc6 zx7 (((4 : Int32) * zx8) + (2 : Int32)) p3).bind fun zc9 =>
  (gA zc9 9 14 this).bind fun zx10 =>
  (gI zc9 9 16 this).bind fun zx11 =>
  (sL zc9 zx10 (((4 : Int32) * zx11) + (3 : Int32)) p4).bind fun zc12 =>
  (gI zc12 9 16 this).bind fun zx13 =>
  (pV zc12 9 16 this (.int (zx13 + (1 : Int32)))).bind fun zc14 =>
  some ((), zc14)
set_option maxRecDepth 100000 in
set_option maxHeartbeats 4000000 in
theorem c_X12_push {nx : Nat} {ce : Ce} {this : Nat} {p1 : Int64} {p2 : Int64} {p3 : Int64} {p4 : Int64} {q : Unit × Ce} (hr : m_X12_push ce this p1 p2 p3 p4 = some q) : Ct yX12_push cX12_push 9 none 0 0 0 0 [.ref this, .long p1, .long p2, .long p3, .long p4] nx ce none q.2 := by
  unfold m_X12_push at hr
  refine ct_of (by decide) (Nat.le_of_ble_eq_true rfl) ?_
  intro G C hq hret hin
  show Jd G 0 0 nx ce 0 [(0, .ref this), (1, .long p1), (3, .long p2), (5, .long p3), (7, .long p4)] []
  refine j_aload_n (q := 0) (pc' := 1) C dX12_push_0 rfl rfl rfl ?_
  obtain ⟨zx1, hzx1, hr⟩ := ob hr
  refine j_getA (pc' := 4) C dX12_push_1 fl_X12_41 hzx1 rfl ?_
  refine j_iconst (v := 4) (pc' := 5) C dX12_push_4 kI_4 rfl ?_
  refine j_aload_n (q := 0) (pc' := 6) C dX12_push_5 rfl rfl rfl ?_
  obtain ⟨zx2, hzx2, hr⟩ := ob hr
  refine j_getI (pc' := 9) C dX12_push_6 fl_X12_164 hzx2 rfl ?_
  refine j_imul (pc' := 10) C dX12_push_9 rfl ?_
  refine j_lload_n (q := 1) (pc' := 11) C dX12_push_10 rfl rfl rfl ?_
  obtain ⟨zc3, hzc3, hr⟩ := ob hr
  refine j_last (pc' := 12) C dX12_push_11 hzc3 rfl ?_
  refine j_aload_n (q := 0) (pc' := 13) C dX12_push_12 rfl rfl rfl ?_
  obtain ⟨zx4, hzx4, hr⟩ := ob hr
  refine j_getA (pc' := 16) C dX12_push_13 fl_X12_41 hzx4 rfl ?_
  refine j_iconst (v := 4) (pc' := 17) C dX12_push_16 kI_4 rfl ?_
  refine j_aload_n (q := 0) (pc' := 18) C dX12_push_17 rfl rfl rfl ?_
  obtain ⟨zx5, hzx5, hr⟩ := ob hr
  refine j_getI (pc' := 21) C dX12_push_18 fl_X12_164 hzx5 rfl ?_
  refine j_imul (pc' := 22) C dX12_push_21 rfl ?_
  refine j_iconst (v := 1) (pc' := 23) C dX12_push_22 kI_1 rfl ?_
  refine j_iadd (pc' := 24) C dX12_push_23 rfl ?_
  refine j_lload_n (q := 2) (pc' := 25) C dX12_push_24 rfl rfl rfl ?_
  obtain ⟨zc6, hzc6, hr⟩ := ob hr
  refine j_last (pc' := 26) C dX12_push_25 hzc6 rfl ?_
  refine j_aload_n (q := 0) (pc' := 27) C dX12_push_26 rfl rfl rfl ?_
  obtain ⟨zx7, hzx7, hr⟩ := ob hr
  refine j_getA (pc' := 30) C dX12_push_27 fl_X12_41 hzx7 rfl ?_
  refine j_iconst (v := 4) (pc' := 31) C dX12_push_30 kI_4 rfl ?_
  refine j_aload_n (q := 0) (pc' := 32) C dX12_push_31 rfl rfl rfl ?_
  obtain ⟨zx8, hzx8, hr⟩ := ob hr
  refine j_getI (pc' := 35) C dX12_push_32 fl_X12_164 hzx8 rfl ?_
  refine j_imul (pc' := 36) C dX12_push_35 rfl ?_
  refine j_iconst (v := 2) (pc' := 37) C dX12_push_36 kI_2 rfl ?_
  refine j_iadd (pc' := 38) C dX12_push_37 rfl ?_
  refine j_lload (q := 3) (pc' := 40) C dX12_push_38 rfl rfl ?_
  obtain ⟨zc9, hzc9, hr⟩ := ob hr
  refine j_last (pc' := 41) C dX12_push_40 hzc9 rfl ?_
  refine j_aload_n (q := 0) (pc' := 42) C dX12_push_41 rfl rfl rfl ?_
  obtain ⟨zx10, hzx10, hr⟩ := ob hr
  refine j_getA (pc' := 45) C dX12_push_42 fl_X12_41 hzx10 rfl ?_
  refine j_iconst (v := 4) (pc' := 46) C dX12_push_45 kI_4 rfl ?_
  refine j_aload_n (q := 0) (pc' := 47) C dX12_push_46 rfl rfl rfl ?_
  obtain ⟨zx11, hzx11, hr⟩ := ob hr
  refine j_getI (pc' := 50) C dX12_push_47 fl_X12_164 hzx11 rfl ?_
  refine j_imul (pc' := 51) C dX12_push_50 rfl ?_
  refine j_iconst (v := 3) (pc' := 52) C dX12_push_51 kI_3 rfl ?_
  refine j_iadd (pc' := 53) C dX12_push_52 rfl ?_
  refine j_lload (q := 4) (pc' := 55) C dX12_push_53 rfl rfl ?_
  obtain ⟨zc12, hzc12, hr⟩ := ob hr
  refine j_last (pc' := 56) C dX12_push_55 hzc12 rfl ?_
  refine j_aload_n (q := 0) (pc' := 57) C dX12_push_56 rfl rfl rfl ?_
  refine j_dup (pc' := 58) C dX12_push_57 rfl rfl ?_
  obtain ⟨zx13, hzx13, hr⟩ := ob hr
  refine j_getI (pc' := 61) C dX12_push_58 fl_X12_164 hzx13 rfl ?_
  refine j_iconst (v := 1) (pc' := 62) C dX12_push_61 kI_1 rfl ?_
  refine j_iadd (pc' := 63) C dX12_push_62 rfl ?_
  obtain ⟨zc14, hzc14, hr⟩ := ob hr
  refine j_put (pc' := 66) C dX12_push_63 fw_X12_164 rfl rfl hzc14 rfl ?_
  have hr := Option.some.inj hr
  subst hr
  exact j_vret C hq hret dX12_push_66
def m_X12_rank (p0 : Int32) : Option (Int32) :=
  if p0 = (33 : Int32) then
    some (4 : Int32)
  else
    if p0 = (38 : Int32) then
      some (3 : Int32)
    else
      if p0 = (94 : Int32) then
        some (2 : Int32)
      else
        if p0 = (124 : Int32) then
          some (1 : Int32)
        else
          some (0 : Int32)
set_option maxRecDepth 100000 in
set_option maxHeartbeats 4000000 in
theorem c_X12_rank {nx : Nat} {ce : Ce} {p0 : Int32} {q : Int32} (hr : m_X12_rank p0 = some q) : Ct yX12_rank cX12_rank 1 (some .int) 0 0 0 0 [.int p0] nx ce (some (.int q)) ce := by
  unfold m_X12_rank at hr
  refine ct_of (by decide) (Nat.le_of_ble_eq_true rfl) ?_
  intro G C hq hret hin
  show Jd G 0 0 nx ce 0 [(0, .int p0)] []
  refine j_iload_n (q := 0) (pc' := 1) C dX12_rank_0 rfl rfl rfl ?_
  refine j_bipush (v := 33) (pc' := 3) C dX12_rank_1 kB_33 rfl ?_
  refine j_ic_ne (tgt := 10) (pc' := 6) C dX12_rank_3 rfl rfl (fun hc => ?_) (fun hc => ?_)
  · have hr := ifF hc hr
    clear hc
    refine j_iload_n (q := 0) (pc' := 11) C dX12_rank_10 rfl rfl rfl ?_
    refine j_bipush (v := 38) (pc' := 13) C dX12_rank_11 kB_38 rfl ?_
    refine j_ic_ne (tgt := 20) (pc' := 16) C dX12_rank_13 rfl rfl (fun hc => ?_) (fun hc => ?_)
    · have hr := ifF hc hr
      clear hc
      refine j_iload_n (q := 0) (pc' := 21) C dX12_rank_20 rfl rfl rfl ?_
      refine j_bipush (v := 94) (pc' := 23) C dX12_rank_21 kB_94 rfl ?_
      refine j_ic_ne (tgt := 30) (pc' := 26) C dX12_rank_23 rfl rfl (fun hc => ?_) (fun hc => ?_)
      · have hr := ifF hc hr
        clear hc
        refine j_iload_n (q := 0) (pc' := 31) C dX12_rank_30 rfl rfl rfl ?_
        refine j_bipush (v := 124) (pc' := 33) C dX12_rank_31 kB_124 rfl ?_
        refine j_ic_ne (tgt := 40) (pc' := 36) C dX12_rank_33 rfl rfl (fun hc => ?_) (fun hc => ?_)
        · have hr := ifF hc hr
          clear hc
          refine j_iconst (v := 0) (pc' := 41) C dX12_rank_40 kI_0 rfl ?_
          have hr := Option.some.inj hr
          subst hr
          exact j_iret C hq hret dX12_rank_41
        · have hr := ifT hc hr
          clear hc
          refine j_iconst (v := 1) (pc' := 37) C dX12_rank_36 kI_1 rfl ?_
          refine j_goto (tgt := 41) C dX12_rank_37 rfl ?_
          have hr := Option.some.inj hr
          subst hr
          exact j_iret C hq hret dX12_rank_41
      · have hr := ifT hc hr
        clear hc
        refine j_iconst (v := 2) (pc' := 27) C dX12_rank_26 kI_2 rfl ?_
        refine j_goto (tgt := 41) C dX12_rank_27 rfl ?_
        have hr := Option.some.inj hr
        subst hr
        exact j_iret C hq hret dX12_rank_41
    · have hr := ifT hc hr
      clear hc
      refine j_iconst (v := 3) (pc' := 17) C dX12_rank_16 kI_3 rfl ?_
      refine j_goto (tgt := 41) C dX12_rank_17 rfl ?_
      have hr := Option.some.inj hr
      subst hr
      exact j_iret C hq hret dX12_rank_41
  · have hr := ifT hc hr
    clear hc
    refine j_iconst (v := 4) (pc' := 7) C dX12_rank_6 kI_4 rfl ?_
    refine j_goto (tgt := 41) C dX12_rank_7 rfl ?_
    have hr := Option.some.inj hr
    subst hr
    exact j_iret C hq hret dX12_rank_41
def m_X12_apply (ce : Ce) (this : Nat) (p1 : Int32) : Option (Unit × Ce) :=
  (gI ce 9 16 this).bind fun zx1 =>
  if p1 = (33 : Int32) then
    (it (fun (zs23 : Int32 × Ce) =>
      if (4 : Int32) ≤ zs23.1 then
        some (Sum.inr ((), zs23.2))
      else
        (gA zs23.2 9 14 this).bind fun zx28 =>
        (gA zs23.2 9 14 this).bind fun zx29 =>
        (aL zs23.2 zx29 ((((4 : Int32) * zx1) - (4 : Int32)) + zs23.1)).bind fun zx30 =>
        (sL zs23.2 zx28 ((((4 : Int32) * zx1) - (4 : Int32)) + zs23.1) (zx30 ^^^ (-1 : Int64))).bind fun zc31 =>
        some (Sum.inl ((zs23.1 + (1 : Int32)), zc31))
    ) FU ((0 : Int32), ce)).bind fun (zo24 : Unit × Ce) =>
    (gI zo24.2 9 18 this).bind fun zx26 =>
    (pV zo24.2 9 18 this (.int (zx26 - (1 : Int32)))).bind fun zc27 =>
    some ((), zc27)
  else
    (it (fun (zs2 : Int32 × Ce) =>
      if ((((4 : Int32) * zx1) - (4 : Int32)) + (4 : Int32)) ≤ zs2.1 then
        some (Sum.inr ((), zs2.2))
      else
        (gA zs2.2 9 14 this).bind fun zx7 =>
        if p1 = (38 : Int32) then
          (gA zs2.2 9 14 this).bind fun zx18 =>
          (aL zs2.2 zx18 (zs2.1 - (4 : Int32))).bind fun zx19 =>
          (gA zs2.2 9 14 this).bind fun zx20 =>
          (aL zs2.2 zx20 zs2.1).bind fun zx21 =>
          (sL zs2.2 zx7 (zs2.1 - (4 : Int32)) (zx19 &&& zx21)).bind fun zc22 =>
          some (Sum.inl ((zs2.1 + (1 : Int32)), zc22))
        else
          if p1 = (94 : Int32) then
            (gA zs2.2 9 14 this).bind fun zx13 =>
            (aL zs2.2 zx13 (zs2.1 - (4 : Int32))).bind fun zx14 =>
            (gA zs2.2 9 14 this).bind fun zx15 =>
            (aL zs2.2 zx15 zs2.1).bind fun zx16 =>
            (sL zs2.2 zx7 (zs2.1 - (4 : Int32)) (zx14 ^^^ zx16)).bind fun zc17 =>
            some (Sum.inl ((zs2.1 + (1 : Int32)), zc17))
          else
            (gA zs2.2 9 14 this).bind fun zx8 =>
            (aL zs2.2 zx8 (zs2.1 - (4 : Int32))).bind fun zx9 =>
            (gA zs2.2 9 14 this).bind fun zx10 =>
            (aL zs2.2 zx10 zs2.1).bind fun zx11 =>
            (sL zs2.2 zx7 (zs2.1 - (4 : Int32)) (zx9 ||| zx11)).bind fun zc12 =>
            some (Sum.inl ((zs2.1 + (1 : Int32)), zc12))
    ) FU ((((4 : Int32) * zx1) - (4 : Int32)), ce)).bind fun (zo3 : Unit × Ce) =>
    (gI zo3.2 9 16 this).bind fun zx5 =>
    (pV zo3.2 9 16 this (.int (zx5 - (1 : Int32)))).bind fun zc6 =>
    some ((), zc6)
set_option maxRecDepth 100000 in
set_option maxHeartbeats 4000000 in
theorem c_X12_apply {nx : Nat} {ce : Ce} {this : Nat} {p1 : Int32} {q : Unit × Ce} (hr : m_X12_apply ce this p1 = some q) : Ct yX12_apply cX12_apply 4 none 0 0 0 0 [.ref this, .int p1] nx ce none q.2 := by
  unfold m_X12_apply at hr
  refine ct_of (by decide) (Nat.le_of_ble_eq_true rfl) ?_
  intro G C hq hret hin
  show Jd G 0 0 nx ce 0 [(0, .ref this), (1, .int p1)] []
  refine j_iconst (v := 4) (pc' := 1) C dX12_apply_0 kI_4 rfl ?_
  refine j_aload_n (q := 0) (pc' := 2) C dX12_apply_1 rfl rfl rfl ?_
  obtain ⟨zx1, hzx1, hr⟩ := ob hr
  refine j_getI (pc' := 5) C dX12_apply_2 fl_X12_164 hzx1 rfl ?_
  refine j_imul (pc' := 6) C dX12_apply_5 rfl ?_
  refine j_iconst (v := 4) (pc' := 7) C dX12_apply_6 kI_4 rfl ?_
  refine j_isub (pc' := 8) C dX12_apply_7 rfl ?_
  refine j_istore_n (lv' := [(2, .int (((4 : Int32) * zx1) - (4 : Int32))), (0, .ref this), (1, .int p1)]) (pc' := 9) C dX12_apply_8 rfl (by decide) rfl rfl ?_
  refine j_iload_n (q := 2) (pc' := 10) C dX12_apply_9 rfl rfl rfl ?_
  refine j_bipush (v := 33) (pc' := 12) C dX12_apply_10 kB_33 rfl ?_
  refine j_ic_ne (tgt := 59) (pc' := 15) C dX12_apply_12 rfl rfl (fun hc => ?_) (fun hc => ?_)
  · have hr := ifF hc hr
    clear hc
    refine j_iload_n (q := 0) (pc' := 60) C dX12_apply_59 rfl rfl rfl ?_
    refine j_istore_n (lv' := [(3, .int (((4 : Int32) * zx1) - (4 : Int32))), (2, .int (((4 : Int32) * zx1) - (4 : Int32))), (0, .ref this), (1, .int p1)]) (pc' := 61) C dX12_apply_60 rfl (by decide) rfl rfl ?_
    obtain ⟨zo3, hzo3, rzo3⟩ := ob hr
    have kzo3 : Jd G 0 0 nx zo3.2 145 [(0, .ref this)] [] := by
      have hr := rzo3
      refine j_aload_n (q := 0) (pc' := 146) C dX12_apply_145 rfl rfl rfl ?_
      refine j_dup (pc' := 147) C dX12_apply_146 rfl rfl ?_
      obtain ⟨zx5, hzx5, hr⟩ := ob hr
      refine j_getI (pc' := 150) C dX12_apply_147 fl_X12_164 hzx5 rfl ?_
      refine j_iconst (v := 1) (pc' := 151) C dX12_apply_150 kI_1 rfl ?_
      refine j_isub (pc' := 152) C dX12_apply_151 rfl ?_
      obtain ⟨zc6, hzc6, hr⟩ := ob hr
      refine j_put (pc' := 155) C dX12_apply_152 fw_X12_164 rfl rfl hzc6 rfl ?_
      have hr := Option.some.inj hr
      subst hr
      exact j_vret C hq hret dX12_apply_155
    refine j_lv (lv' := [(0, .ref this), (1, .int p1), (2, .int (((4 : Int32) * zx1) - (4 : Int32))), (3, .int (((4 : Int32) * zx1) - (4 : Int32)))]) [2, 3, 1, 0] rfl ?_
    refine it_J (J := (fun (zs2 : Int32 × Ce) => Jd G 0 0 nx zs2.2 61 [(0, .ref this), (1, .int p1), (2, .int (((4 : Int32) * zx1) - (4 : Int32))), (3, .int zs2.1)] [])) ?_ hzo3
    clear hzo3
    intro zs2 zr4 hr izs2 ezs2
    refine j_iload_n (q := 3) (pc' := 62) C dX12_apply_61 rfl rfl rfl ?_
    refine j_iload_n (q := 2) (pc' := 63) C dX12_apply_62 rfl rfl rfl ?_
    refine j_iconst (v := 4) (pc' := 64) C dX12_apply_63 kI_4 rfl ?_
    refine j_iadd (pc' := 65) C dX12_apply_64 rfl ?_
    refine j_ic_ge (tgt := 145) (pc' := 68) C dX12_apply_65 rfl rfl (fun hc => ?_) (fun hc => ?_)
    · have hr := ifT hc hr
      clear hc
      have hr := ezs2 _ (Option.some.inj hr).symm
      subst hr
      exact j_lv [0] rfl kzo3
    · have hr := ifF hc hr
      clear hc
      refine j_aload_n (q := 0) (pc' := 69) C dX12_apply_68 rfl rfl rfl ?_
      obtain ⟨zx7, hzx7, hr⟩ := ob hr
      refine j_getA (pc' := 72) C dX12_apply_69 fl_X12_41 hzx7 rfl ?_
      refine j_iload_n (q := 3) (pc' := 73) C dX12_apply_72 rfl rfl rfl ?_
      refine j_iconst (v := 4) (pc' := 74) C dX12_apply_73 kI_4 rfl ?_
      refine j_isub (pc' := 75) C dX12_apply_74 rfl ?_
      refine j_iload_n (q := 1) (pc' := 76) C dX12_apply_75 rfl rfl rfl ?_
      refine j_bipush (v := 38) (pc' := 78) C dX12_apply_76 kB_38 rfl ?_
      refine j_ic_ne (tgt := 99) (pc' := 81) C dX12_apply_78 rfl rfl (fun hc => ?_) (fun hc => ?_)
      · have hr := ifF hc hr
        clear hc
        refine j_iload_n (q := 1) (pc' := 100) C dX12_apply_99 rfl rfl rfl ?_
        refine j_bipush (v := 94) (pc' := 102) C dX12_apply_100 kB_94 rfl ?_
        refine j_ic_ne (tgt := 123) (pc' := 105) C dX12_apply_102 rfl rfl (fun hc => ?_) (fun hc => ?_)
        · have hr := ifF hc hr
          clear hc
          refine j_aload_n (q := 0) (pc' := 124) C dX12_apply_123 rfl rfl rfl ?_
          obtain ⟨zx8, hzx8, hr⟩ := ob hr
          refine j_getA (pc' := 127) C dX12_apply_124 fl_X12_41 hzx8 rfl ?_
          refine j_iload_n (q := 3) (pc' := 128) C dX12_apply_127 rfl rfl rfl ?_
          refine j_iconst (v := 4) (pc' := 129) C dX12_apply_128 kI_4 rfl ?_
          refine j_isub (pc' := 130) C dX12_apply_129 rfl ?_
          obtain ⟨zx9, hzx9, hr⟩ := ob hr
          refine j_lald (pc' := 131) C dX12_apply_130 hzx9 rfl ?_
          refine j_aload_n (q := 0) (pc' := 132) C dX12_apply_131 rfl rfl rfl ?_
          obtain ⟨zx10, hzx10, hr⟩ := ob hr
          refine j_getA (pc' := 135) C dX12_apply_132 fl_X12_41 hzx10 rfl ?_
          refine j_iload_n (q := 3) (pc' := 136) C dX12_apply_135 rfl rfl rfl ?_
          obtain ⟨zx11, hzx11, hr⟩ := ob hr
          refine j_lald (pc' := 137) C dX12_apply_136 hzx11 rfl ?_
          refine j_lor (pc' := 138) C dX12_apply_137 rfl ?_
          obtain ⟨zc12, hzc12, hr⟩ := ob hr
          refine j_last (pc' := 139) C dX12_apply_138 hzc12 rfl ?_
          refine j_iinc (q := 3) (v := 1) (lv' := [(3, .int (zs2.1 + (1 : Int32))), (0, .ref this), (1, .int p1), (2, .int (((4 : Int32) * zx1) - (4 : Int32)))]) (pc' := 142) C dX12_apply_139 rfl kI_1 (by decide) rfl rfl ?_
          refine j_goto (tgt := 61) C dX12_apply_142 rfl ?_
          have hr := izs2 ((zs2.1 + (1 : Int32)), zc12) (Option.some.inj hr).symm
          exact j_lv [1, 2, 3, 0] rfl hr
        · have hr := ifT hc hr
          clear hc
          refine j_aload_n (q := 0) (pc' := 106) C dX12_apply_105 rfl rfl rfl ?_
          obtain ⟨zx13, hzx13, hr⟩ := ob hr
          refine j_getA (pc' := 109) C dX12_apply_106 fl_X12_41 hzx13 rfl ?_
          refine j_iload_n (q := 3) (pc' := 110) C dX12_apply_109 rfl rfl rfl ?_
          refine j_iconst (v := 4) (pc' := 111) C dX12_apply_110 kI_4 rfl ?_
          refine j_isub (pc' := 112) C dX12_apply_111 rfl ?_
          obtain ⟨zx14, hzx14, hr⟩ := ob hr
          refine j_lald (pc' := 113) C dX12_apply_112 hzx14 rfl ?_
          refine j_aload_n (q := 0) (pc' := 114) C dX12_apply_113 rfl rfl rfl ?_
          obtain ⟨zx15, hzx15, hr⟩ := ob hr
          refine j_getA (pc' := 117) C dX12_apply_114 fl_X12_41 hzx15 rfl ?_
          refine j_iload_n (q := 3) (pc' := 118) C dX12_apply_117 rfl rfl rfl ?_
          obtain ⟨zx16, hzx16, hr⟩ := ob hr
          refine j_lald (pc' := 119) C dX12_apply_118 hzx16 rfl ?_
          refine j_lxor (pc' := 120) C dX12_apply_119 rfl ?_
          refine j_goto (tgt := 138) C dX12_apply_120 rfl ?_
          obtain ⟨zc17, hzc17, hr⟩ := ob hr
          refine j_last (pc' := 139) C dX12_apply_138 hzc17 rfl ?_
          refine j_iinc (q := 3) (v := 1) (lv' := [(3, .int (zs2.1 + (1 : Int32))), (0, .ref this), (1, .int p1), (2, .int (((4 : Int32) * zx1) - (4 : Int32)))]) (pc' := 142) C dX12_apply_139 rfl kI_1 (by decide) rfl rfl ?_
          refine j_goto (tgt := 61) C dX12_apply_142 rfl ?_
          have hr := izs2 ((zs2.1 + (1 : Int32)), zc17) (Option.some.inj hr).symm
          exact j_lv [1, 2, 3, 0] rfl hr
      · have hr := ifT hc hr
        clear hc
        refine j_aload_n (q := 0) (pc' := 82) C dX12_apply_81 rfl rfl rfl ?_
        obtain ⟨zx18, hzx18, hr⟩ := ob hr
        refine j_getA (pc' := 85) C dX12_apply_82 fl_X12_41 hzx18 rfl ?_
        refine j_iload_n (q := 3) (pc' := 86) C dX12_apply_85 rfl rfl rfl ?_
        refine j_iconst (v := 4) (pc' := 87) C dX12_apply_86 kI_4 rfl ?_
        refine j_isub (pc' := 88) C dX12_apply_87 rfl ?_
        obtain ⟨zx19, hzx19, hr⟩ := ob hr
        refine j_lald (pc' := 89) C dX12_apply_88 hzx19 rfl ?_
        refine j_aload_n (q := 0) (pc' := 90) C dX12_apply_89 rfl rfl rfl ?_
        obtain ⟨zx20, hzx20, hr⟩ := ob hr
        refine j_getA (pc' := 93) C dX12_apply_90 fl_X12_41 hzx20 rfl ?_
        refine j_iload_n (q := 3) (pc' := 94) C dX12_apply_93 rfl rfl rfl ?_
        obtain ⟨zx21, hzx21, hr⟩ := ob hr
        refine j_lald (pc' := 95) C dX12_apply_94 hzx21 rfl ?_
        refine j_land (pc' := 96) C dX12_apply_95 rfl ?_
        refine j_goto (tgt := 138) C dX12_apply_96 rfl ?_
        obtain ⟨zc22, hzc22, hr⟩ := ob hr
        refine j_last (pc' := 139) C dX12_apply_138 hzc22 rfl ?_
        refine j_iinc (q := 3) (v := 1) (lv' := [(3, .int (zs2.1 + (1 : Int32))), (0, .ref this), (1, .int p1), (2, .int (((4 : Int32) * zx1) - (4 : Int32)))]) (pc' := 142) C dX12_apply_139 rfl kI_1 (by decide) rfl rfl ?_
        refine j_goto (tgt := 61) C dX12_apply_142 rfl ?_
        have hr := izs2 ((zs2.1 + (1 : Int32)), zc22) (Option.some.inj hr).symm
        exact j_lv [1, 2, 3, 0] rfl hr
  · have hr := ifT hc hr
    clear hc
    refine j_iconst (v := 0) (pc' := 16) C dX12_apply_15 kI_0 rfl ?_
    refine j_istore_n (lv' := [(3, .int (0 : Int32)), (2, .int (((4 : Int32) * zx1) - (4 : Int32))), (0, .ref this), (1, .int p1)]) (pc' := 17) C dX12_apply_16 rfl (by decide) rfl rfl ?_
    obtain ⟨zo24, hzo24, rzo24⟩ := ob hr
    have kzo24 : Jd G 0 0 nx zo24.2 48 [(0, .ref this)] [] := by
      have hr := rzo24
      refine j_aload_n (q := 0) (pc' := 49) C dX12_apply_48 rfl rfl rfl ?_
      refine j_dup (pc' := 50) C dX12_apply_49 rfl rfl ?_
      obtain ⟨zx26, hzx26, hr⟩ := ob hr
      refine j_getI (pc' := 53) C dX12_apply_50 fl_X12_167 hzx26 rfl ?_
      refine j_iconst (v := 1) (pc' := 54) C dX12_apply_53 kI_1 rfl ?_
      refine j_isub (pc' := 55) C dX12_apply_54 rfl ?_
      obtain ⟨zc27, hzc27, hr⟩ := ob hr
      refine j_put (pc' := 58) C dX12_apply_55 fw_X12_167 rfl rfl hzc27 rfl ?_
      have hr := Option.some.inj hr
      subst hr
      exact j_vret C hq hret dX12_apply_58
    refine j_lv (lv' := [(0, .ref this), (2, .int (((4 : Int32) * zx1) - (4 : Int32))), (3, .int (0 : Int32))]) [2, 1, 0] rfl ?_
    refine it_J (J := (fun (zs23 : Int32 × Ce) => Jd G 0 0 nx zs23.2 17 [(0, .ref this), (2, .int (((4 : Int32) * zx1) - (4 : Int32))), (3, .int zs23.1)] [])) ?_ hzo24
    clear hzo24
    intro zs23 zr25 hr izs23 ezs23
    refine j_iload_n (q := 2) (pc' := 18) C dX12_apply_17 rfl rfl rfl ?_
    refine j_iconst (v := 4) (pc' := 19) C dX12_apply_18 kI_4 rfl ?_
    refine j_ic_ge (tgt := 48) (pc' := 22) C dX12_apply_19 rfl rfl (fun hc => ?_) (fun hc => ?_)
    · have hr := ifT hc hr
      clear hc
      have hr := ezs23 _ (Option.some.inj hr).symm
      subst hr
      exact j_lv [0] rfl kzo24
    · have hr := ifF hc hr
      clear hc
      refine j_aload_n (q := 0) (pc' := 23) C dX12_apply_22 rfl rfl rfl ?_
      obtain ⟨zx28, hzx28, hr⟩ := ob hr
      refine j_getA (pc' := 26) C dX12_apply_23 fl_X12_41 hzx28 rfl ?_
      refine j_iload_n (q := 1) (pc' := 27) C dX12_apply_26 rfl rfl rfl ?_
      refine j_iload_n (q := 2) (pc' := 28) C dX12_apply_27 rfl rfl rfl ?_
      refine j_iadd (pc' := 29) C dX12_apply_28 rfl ?_
      refine j_aload_n (q := 0) (pc' := 30) C dX12_apply_29 rfl rfl rfl ?_
      obtain ⟨zx29, hzx29, hr⟩ := ob hr
      refine j_getA (pc' := 33) C dX12_apply_30 fl_X12_41 hzx29 rfl ?_
      refine j_iload_n (q := 1) (pc' := 34) C dX12_apply_33 rfl rfl rfl ?_
      refine j_iload_n (q := 2) (pc' := 35) C dX12_apply_34 rfl rfl rfl ?_
      refine j_iadd (pc' := 36) C dX12_apply_35 rfl ?_
      obtain ⟨zx30, hzx30, hr⟩ := ob hr
      refine j_lald (pc' := 37) C dX12_apply_36 hzx30 rfl ?_
      refine j_ldc2 (pc' := 40) C dX12_apply_37 wm_1598 rfl ?_
      refine j_lxor (pc' := 41) C dX12_apply_40 rfl ?_
      obtain ⟨zc31, hzc31, hr⟩ := ob hr
      refine j_last (pc' := 42) C dX12_apply_41 hzc31 rfl ?_
      refine j_iinc (q := 2) (v := 1) (lv' := [(3, .int (zs23.1 + (1 : Int32))), (0, .ref this), (2, .int (((4 : Int32) * zx1) - (4 : Int32)))]) (pc' := 45) C dX12_apply_42 rfl kI_1 (by decide) rfl rfl ?_
      refine j_goto (tgt := 17) C dX12_apply_45 rfl ?_
      have hr := izs23 ((zs23.1 + (1 : Int32)), zc31) (Option.some.inj hr).symm
      exact j_lv [1, 2, 0] rfl hr
def m_X12_settle (ce : Ce) (this : Nat) (p1 : Int32) : Option (Unit × Ce) :=
  (it (fun (zs1 : Unit × Ce) =>
    (gI zs1.2 9 17 this).bind fun zx4 =>
    if zx4 ≤ 0 then
      some (Sum.inr ((), zs1.2))
    else
      (gA zs1.2 9 15 this).bind fun zx5 =>
      (gI zs1.2 9 17 this).bind fun zx6 =>
      (aI zs1.2 zx5 (zx6 - (1 : Int32))).bind fun zx7 =>
      (m_X12_rank zx7).bind fun zx8 =>
      if zx8 < p1 then
        some (Sum.inr ((), zs1.2))
      else
        (gI zs1.2 9 17 this).bind fun zx9 =>
        (pV zs1.2 9 17 this (.int (zx9 - (1 : Int32)))).bind fun zc10 =>
        (gA zc10 9 15 this).bind fun zx11 =>
        (gI zc10 9 17 this).bind fun zx12 =>
        (aI zc10 zx11 zx12).bind fun zx13 =>
        (rcv zc10 9 this).bind fun zz14 =>
        (m_X12_apply zc10 this zx13).bind fun zq15 =>
        some (Sum.inl ((), zq15.2))
  ) FU ((), ce)).bind fun (zo2 : Unit × Ce) =>
  some ((), zo2.2)
set_option maxRecDepth 100000 in
set_option maxHeartbeats 4000000 in
theorem c_X12_settle {nx : Nat} {ce : Ce} {this : Nat} {p1 : Int32} {q : Unit × Ce} (hr : m_X12_settle ce this p1 = some q) : Ct yX12_settle cX12_settle 2 none 1 23 0 0 [.ref this, .int p1] nx ce none q.2 := by
  unfold m_X12_settle at hr
  refine ct_of (by decide) (Nat.le_of_ble_eq_true rfl) ?_
  intro G C hq hret hin
  show Jd G 0 0 nx ce 0 [(0, .ref this), (1, .int p1)] []
  obtain ⟨zo2, hzo2, rzo2⟩ := ob hr
  have kzo2 : Jd G 0 0 nx zo2.2 51 [] [] := by
    have hr := rzo2
    have hr := Option.some.inj hr
    subst hr
    exact j_vret C hq hret dX12_settle_51
  refine j_lv (lv' := [(0, .ref this), (1, .int p1)]) [0, 1] rfl ?_
  refine it_J (J := (fun (zs1 : Unit × Ce) => Jd G 0 0 nx zs1.2 0 [(0, .ref this), (1, .int p1)] [])) ?_ hzo2
  clear hzo2
  intro zs1 zr3 hr izs1 ezs1
  refine j_aload_n (q := 0) (pc' := 1) C dX12_settle_0 rfl rfl rfl ?_
  obtain ⟨zx4, hzx4, hr⟩ := ob hr
  refine j_getI (pc' := 4) C dX12_settle_1 fl_X12_170 hzx4 rfl ?_
  refine j_if_le (tgt := 51) (pc' := 7) C dX12_settle_4 rfl rfl (fun hc => ?_) (fun hc => ?_)
  · have hr := ifT hc hr
    clear hc
    have hr := ezs1 _ (Option.some.inj hr).symm
    subst hr
    exact j_lv [] rfl kzo2
  · have hr := ifF hc hr
    clear hc
    refine j_aload_n (q := 0) (pc' := 8) C dX12_settle_7 rfl rfl rfl ?_
    obtain ⟨zx5, hzx5, hr⟩ := ob hr
    refine j_getA (pc' := 11) C dX12_settle_8 fl_X12_44 hzx5 rfl ?_
    refine j_aload_n (q := 0) (pc' := 12) C dX12_settle_11 rfl rfl rfl ?_
    obtain ⟨zx6, hzx6, hr⟩ := ob hr
    refine j_getI (pc' := 15) C dX12_settle_12 fl_X12_170 hzx6 rfl ?_
    refine j_iconst (v := 1) (pc' := 16) C dX12_settle_15 kI_1 rfl ?_
    refine j_isub (pc' := 17) C dX12_settle_16 rfl ?_
    obtain ⟨zx7, hzx7, hr⟩ := ob hr
    refine j_iald (pc' := 18) C dX12_settle_17 hzx7 rfl ?_
    obtain ⟨zx8, hzx8, hr⟩ := ob hr
    refine j_callS (As := [.int zx7]) (rest := []) (st1 := [.int zx8]) (pc' := 21) C wm_1604 (c_X12_rank (nx := nx) (ce := zs1.2) hzx8) yw_X12_rank wm_1603 rfl rfl (Nat.le_of_ble_eq_true rfl) ⟨by decide, by decide⟩ dX12_settle_18 rfl rfl ?_
    refine j_iload_n (q := 1) (pc' := 22) C dX12_settle_21 rfl rfl rfl ?_
    refine j_ic_lt (tgt := 51) (pc' := 25) C dX12_settle_22 rfl rfl (fun hc => ?_) (fun hc => ?_)
    · have hr := ifT hc hr
      clear hc
      have hr := ezs1 _ (Option.some.inj hr).symm
      subst hr
      exact j_lv [] rfl kzo2
    · have hr := ifF hc hr
      clear hc
      refine j_aload_n (q := 0) (pc' := 26) C dX12_settle_25 rfl rfl rfl ?_
      refine j_dup (pc' := 27) C dX12_settle_26 rfl rfl ?_
      obtain ⟨zx9, hzx9, hr⟩ := ob hr
      refine j_getI (pc' := 30) C dX12_settle_27 fl_X12_170 hzx9 rfl ?_
      refine j_iconst (v := 1) (pc' := 31) C dX12_settle_30 kI_1 rfl ?_
      refine j_isub (pc' := 32) C dX12_settle_31 rfl ?_
      obtain ⟨zc10, hzc10, hr⟩ := ob hr
      refine j_put (pc' := 35) C dX12_settle_32 fw_X12_170 rfl rfl hzc10 rfl ?_
      refine j_aload_n (q := 0) (pc' := 36) C dX12_settle_35 rfl rfl rfl ?_
      refine j_aload_n (q := 0) (pc' := 37) C dX12_settle_36 rfl rfl rfl ?_
      obtain ⟨zx11, hzx11, hr⟩ := ob hr
      refine j_getA (pc' := 40) C dX12_settle_37 fl_X12_44 hzx11 rfl ?_
      refine j_aload_n (q := 0) (pc' := 41) C dX12_settle_40 rfl rfl rfl ?_
      obtain ⟨zx12, hzx12, hr⟩ := ob hr
      refine j_getI (pc' := 44) C dX12_settle_41 fl_X12_170 hzx12 rfl ?_
      obtain ⟨zx13, hzx13, hr⟩ := ob hr
      refine j_iald (pc' := 45) C dX12_settle_44 hzx13 rfl ?_
      obtain ⟨zz14, hzz14, hr⟩ := ob hr
      obtain ⟨zq15, hzq15, hr⟩ := ob hr
      obtain ⟨fhzz14, hzz14⟩ := rcv_sp hzz14
      refine j_callV (ci := 9) (As := [.int zx13]) (rest := []) (st1 := []) (pc' := 48) C ⟨wm_1608, wm_53⟩ rfl hzz14 (c_X12_apply (nx := nx) hzq15) yw_X12_apply wm_1606 rfl rfl (Nat.le_of_ble_eq_true rfl) ⟨by decide, by decide⟩ dX12_settle_45 rfl rfl ?_
      refine j_goto (tgt := 0) C dX12_settle_48 rfl ?_
      have hr := izs1 ((), zq15.2) (Option.some.inj hr).symm
      exact j_lv [0, 1] rfl hr
def m_X12_opened (ce : Ce) (this : Nat) : Option (Int32 × Ce) :=
  (gI ce 9 18 this).bind fun zx1 =>
  if zx1 = (10 : Int32) then
    some ((6 : Int32), ce)
  else
    (gI ce 9 18 this).bind fun zx2 =>
    (pV ce 9 18 this (.int (zx2 + (1 : Int32)))).bind fun zc3 =>
    (gA zc3 9 15 this).bind fun zx4 =>
    (gI zc3 9 17 this).bind fun zx5 =>
    (gI zc3 9 12 this).bind fun zx6 =>
    (sI zc3 zx4 zx5 zx6).bind fun zc7 =>
    (gI zc7 9 17 this).bind fun zx8 =>
    (pV zc7 9 17 this (.int (zx8 + (1 : Int32)))).bind fun zc9 =>
    (rcv zc9 9 this).bind fun zz10 =>
    (m_X12_nextToken zc9 this).bind fun zq11 =>
    some ((0 : Int32), zq11.2)
set_option maxRecDepth 100000 in
set_option maxHeartbeats 4000000 in
theorem c_X12_opened {nx : Nat} {ce : Ce} {this : Nat} {q : Int32 × Ce} (hr : m_X12_opened ce this = some q) : Ct yX12_opened cX12_opened 1 (some .int) 4 90 0 0 [.ref this] nx ce (some (.int q.1)) q.2 := by
  unfold m_X12_opened at hr
  refine ct_of (by decide) (Nat.le_of_ble_eq_true rfl) ?_
  intro G C hq hret hin
  show Jd G 0 0 nx ce 0 [(0, .ref this)] []
  refine j_aload_n (q := 0) (pc' := 1) C dX12_opened_0 rfl rfl rfl ?_
  obtain ⟨zx1, hzx1, hr⟩ := ob hr
  refine j_getI (pc' := 4) C dX12_opened_1 fl_X12_167 hzx1 rfl ?_
  refine j_bipush (v := 10) (pc' := 6) C dX12_opened_4 kB_10 rfl ?_
  refine j_ic_ne (tgt := 12) (pc' := 9) C dX12_opened_6 rfl rfl (fun hc => ?_) (fun hc => ?_)
  · have hr := ifF hc hr
    clear hc
    refine j_aload_n (q := 0) (pc' := 13) C dX12_opened_12 rfl rfl rfl ?_
    refine j_dup (pc' := 14) C dX12_opened_13 rfl rfl ?_
    obtain ⟨zx2, hzx2, hr⟩ := ob hr
    refine j_getI (pc' := 17) C dX12_opened_14 fl_X12_167 hzx2 rfl ?_
    refine j_iconst (v := 1) (pc' := 18) C dX12_opened_17 kI_1 rfl ?_
    refine j_iadd (pc' := 19) C dX12_opened_18 rfl ?_
    obtain ⟨zc3, hzc3, hr⟩ := ob hr
    refine j_put (pc' := 22) C dX12_opened_19 fw_X12_167 rfl rfl hzc3 rfl ?_
    refine j_aload_n (q := 0) (pc' := 23) C dX12_opened_22 rfl rfl rfl ?_
    obtain ⟨zx4, hzx4, hr⟩ := ob hr
    refine j_getA (pc' := 26) C dX12_opened_23 fl_X12_44 hzx4 rfl ?_
    refine j_aload_n (q := 0) (pc' := 27) C dX12_opened_26 rfl rfl rfl ?_
    obtain ⟨zx5, hzx5, hr⟩ := ob hr
    refine j_getI (pc' := 30) C dX12_opened_27 fl_X12_170 hzx5 rfl ?_
    refine j_aload_n (q := 0) (pc' := 31) C dX12_opened_30 rfl rfl rfl ?_
    obtain ⟨zx6, hzx6, hr⟩ := ob hr
    refine j_getI (pc' := 34) C dX12_opened_31 fl_X12_148 hzx6 rfl ?_
    obtain ⟨zc7, hzc7, hr⟩ := ob hr
    refine j_iast (pc' := 35) C dX12_opened_34 hzc7 rfl ?_
    refine j_aload_n (q := 0) (pc' := 36) C dX12_opened_35 rfl rfl rfl ?_
    refine j_dup (pc' := 37) C dX12_opened_36 rfl rfl ?_
    obtain ⟨zx8, hzx8, hr⟩ := ob hr
    refine j_getI (pc' := 40) C dX12_opened_37 fl_X12_170 hzx8 rfl ?_
    refine j_iconst (v := 1) (pc' := 41) C dX12_opened_40 kI_1 rfl ?_
    refine j_iadd (pc' := 42) C dX12_opened_41 rfl ?_
    obtain ⟨zc9, hzc9, hr⟩ := ob hr
    refine j_put (pc' := 45) C dX12_opened_42 fw_X12_170 rfl rfl hzc9 rfl ?_
    refine j_aload_n (q := 0) (pc' := 46) C dX12_opened_45 rfl rfl rfl ?_
    obtain ⟨zz10, hzz10, hr⟩ := ob hr
    obtain ⟨zq11, hzq11, hr⟩ := ob hr
    obtain ⟨fhzz10, hzz10⟩ := rcv_sp hzz10
    refine j_callV (ci := 9) (As := []) (rest := []) (st1 := []) (pc' := 49) C ⟨wm_1547, wm_41⟩ rfl hzz10 (c_X12_nextToken (nx := nx) hzq11) yw_X12_nextToken wm_1545 rfl rfl (Nat.le_of_ble_eq_true rfl) ⟨by decide, by decide⟩ dX12_opened_46 rfl rfl ?_
    refine j_iconst (v := 0) (pc' := 50) C dX12_opened_49 kI_0 rfl ?_
    have hr := Option.some.inj hr
    subst hr
    exact j_iret C hq hret dX12_opened_50
  · have hr := ifT hc hr
    clear hc
    refine j_bipush (v := 6) (pc' := 11) C dX12_opened_9 kB_6 rfl ?_
    have hr := Option.some.inj hr
    subst hr
    exact j_iret C hq hret dX12_opened_11
def m_X12_atom (ce : Ce) (this : Nat) : Option (Int32 × Ce) :=
  (gI ce 9 12 this).bind fun zx1 =>
  (
    if zx1 = (204 : Int32) then
      (gI ce 9 13 this).bind fun zx21 =>
      (gI ce 9 19 this).bind fun zx22 =>
      if zx21 < zx22 then
        (gI ce 9 13 this).bind fun zx23 =>
        (m_X12_letterSet zx23).bind fun zx24 =>
        (rcv ce 9 this).bind fun zz25 =>
        (m_X12_push ce this zx24 zx24 zx24 zx24).bind fun zq26 =>
        some ((Sum.inr (), zq26.2))
      else
        some ((Sum.inl (3 : Int32), ce))
    else
      (gI ce 9 12 this).bind fun zx7 =>
      if zx7 = (205 : Int32) then
        (gI ce 9 20 this).bind fun zx14 =>
        if zx14 = 0 then
          some ((Sum.inl (5 : Int32), ce))
        else
          (gI ce 9 13 this).bind fun zx15 =>
          (
            if zx15 = 0 then
              some (-1 : Int64)
            else
              some (0 : Int64)
          ).bind fun (zj16 : Int64) =>
          (gI ce 9 13 this).bind fun zx17 =>
          (
            if zx17 = (1 : Int32) then
              some (-1 : Int64)
            else
              some (0 : Int64)
          ).bind fun (zj18 : Int64) =>
          (rcv ce 9 this).bind fun zz19 =>
          (m_X12_push ce this (0 : Int64) zj16 zj18 (-1 : Int64)).bind fun zq20 =>
          some ((Sum.inr (), zq20.2))
      else
        (gI ce 9 12 this).bind fun zx8 =>
        if zx8 = (1 : Int32) then
          (gI ce 9 13 this).bind fun zx9 =>
          if zx9 ≤ (1 : Int32) then
            (gI ce 9 13 this).bind fun zx10 =>
            (
              if zx10 = (1 : Int32) then
                some (-1 : Int64)
              else
                some (0 : Int64)
            ).bind fun (zj11 : Int64) =>
            (rcv ce 9 this).bind fun zz12 =>
            (m_X12_push ce this zj11 zj11 zj11 zj11).bind fun zq13 =>
            some ((Sum.inr (), zq13.2))
          else
            some ((Sum.inl (2 : Int32), ce))
        else
          some ((Sum.inl (1 : Int32), ce))
  ).bind fun (zj2 : (Int32 ⊕ Unit) × Ce) => Sum.elim (fun wzj2 => some (wzj2, zj2.2)) (fun vzj2 =>
    (rcv zj2.2 9 this).bind fun zz3 =>
    (m_X12_nextToken zj2.2 this).bind fun zq4 =>
    (rcv zq4.2 9 this).bind fun zz5 =>
    (m_X12_settle zq4.2 this (4 : Int32)).bind fun zq6 =>
    some ((0 : Int32), zq6.2)
  ) zj2.1
set_option maxRecDepth 100000 in
set_option maxHeartbeats 4000000 in
theorem c_X12_atom {nx : Nat} {ce : Ce} {this : Nat} {q : Int32 × Ce} (hr : m_X12_atom ce this = some q) : Ct yX12_atom cX12_atom 3 (some .int) 4 90 0 0 [.ref this] nx ce (some (.int q.1)) q.2 := by
  unfold m_X12_atom at hr
  refine ct_of (by decide) (Nat.le_of_ble_eq_true rfl) ?_
  intro G C hq hret hin
  show Jd G 0 0 nx ce 0 [(0, .ref this)] []
  refine j_aload_n (q := 0) (pc' := 1) C dX12_atom_0 rfl rfl rfl ?_
  obtain ⟨zx1, hzx1, hr⟩ := ob hr
  refine j_getI (pc' := 4) C dX12_atom_1 fl_X12_148 hzx1 rfl ?_
  refine j_sipush (v := 204) (pc' := 7) C dX12_atom_4 kS_204 rfl ?_
  obtain ⟨zj2, hzj2, rzj2⟩ := ob hr
  have kzj2 : ∀ vzj2, zj2.1 = Sum.inr vzj2 → Jd G 0 0 nx zj2.2 148 [(0, .ref this)] [] := by
    intro vzj2 ezj2
    rw [ezj2] at rzj2
    have hr := elR rzj2
    refine j_aload_n (q := 0) (pc' := 149) C dX12_atom_148 rfl rfl rfl ?_
    obtain ⟨zz3, hzz3, hr⟩ := ob hr
    obtain ⟨zq4, hzq4, hr⟩ := ob hr
    obtain ⟨fhzz3, hzz3⟩ := rcv_sp hzz3
    refine j_callV (ci := 9) (As := []) (rest := []) (st1 := []) (pc' := 152) C ⟨wm_1547, wm_41⟩ rfl hzz3 (c_X12_nextToken (nx := nx) hzq4) yw_X12_nextToken wm_1545 rfl rfl (Nat.le_of_ble_eq_true rfl) ⟨by decide, by decide⟩ dX12_atom_149 rfl rfl ?_
    refine j_aload_n (q := 0) (pc' := 153) C dX12_atom_152 rfl rfl rfl ?_
    refine j_iconst (v := 4) (pc' := 154) C dX12_atom_153 kI_4 rfl ?_
    obtain ⟨zz5, hzz5, hr⟩ := ob hr
    obtain ⟨zq6, hzq6, hr⟩ := ob hr
    obtain ⟨fhzz5, hzz5⟩ := rcv_sp hzz5
    refine j_callV (ci := 9) (As := [.int (4 : Int32)]) (rest := []) (st1 := []) (pc' := 157) C ⟨wm_1601, wm_52⟩ rfl hzz5 (c_X12_settle (nx := nx) hzq6) yw_X12_settle wm_1599 rfl rfl (Nat.le_of_ble_eq_true rfl) ⟨by decide, by decide⟩ dX12_atom_154 rfl rfl ?_
    refine j_iconst (v := 0) (pc' := 158) C dX12_atom_157 kI_0 rfl ?_
    have hr := Option.some.inj hr
    subst hr
    exact j_iret C hq hret dX12_atom_158
  have hr := hzj2
  clear hzj2
  refine j_ic_ne (tgt := 42) (pc' := 10) C dX12_atom_7 rfl rfl (fun hc => ?_) (fun hc => ?_)
  · have hr := ifF hc hr
    clear hc
    refine j_aload_n (q := 0) (pc' := 43) C dX12_atom_42 rfl rfl rfl ?_
    obtain ⟨zx7, hzx7, hr⟩ := ob hr
    refine j_getI (pc' := 46) C dX12_atom_43 fl_X12_148 hzx7 rfl ?_
    refine j_sipush (v := 205) (pc' := 49) C dX12_atom_46 kS_205 rfl ?_
    refine j_ic_ne (tgt := 101) (pc' := 52) C dX12_atom_49 rfl rfl (fun hc => ?_) (fun hc => ?_)
    · have hr := ifF hc hr
      clear hc
      refine j_aload_n (q := 0) (pc' := 102) C dX12_atom_101 rfl rfl rfl ?_
      obtain ⟨zx8, hzx8, hr⟩ := ob hr
      refine j_getI (pc' := 105) C dX12_atom_102 fl_X12_148 hzx8 rfl ?_
      refine j_iconst (v := 1) (pc' := 106) C dX12_atom_105 kI_1 rfl ?_
      refine j_ic_ne (tgt := 146) (pc' := 109) C dX12_atom_106 rfl rfl (fun hc => ?_) (fun hc => ?_)
      · have hr := ifF hc hr
        clear hc
        refine j_iconst (v := 1) (pc' := 147) C dX12_atom_146 kI_1 rfl ?_
        have hr := Option.some.inj hr
        subst hr
        have hr := elL rzj2
        have hr := Option.some.inj hr
        subst hr
        exact j_iret C hq hret dX12_atom_147
      · have hr := ifT hc hr
        clear hc
        refine j_aload_n (q := 0) (pc' := 110) C dX12_atom_109 rfl rfl rfl ?_
        obtain ⟨zx9, hzx9, hr⟩ := ob hr
        refine j_getI (pc' := 113) C dX12_atom_110 fl_X12_138 hzx9 rfl ?_
        refine j_iconst (v := 1) (pc' := 114) C dX12_atom_113 kI_1 rfl ?_
        refine j_ic_le (tgt := 119) (pc' := 117) C dX12_atom_114 rfl rfl (fun hc => ?_) (fun hc => ?_)
        · have hr := ifT hc hr
          clear hc
          refine j_aload_n (q := 0) (pc' := 120) C dX12_atom_119 rfl rfl rfl ?_
          obtain ⟨zx10, hzx10, hr⟩ := ob hr
          refine j_getI (pc' := 123) C dX12_atom_120 fl_X12_138 hzx10 rfl ?_
          refine j_iconst (v := 1) (pc' := 124) C dX12_atom_123 kI_1 rfl ?_
          obtain ⟨zj11, hzj11, rzj11⟩ := ob hr
          have kzj11 : Jd G 0 0 nx ce 134 [(0, .ref this)] [.long zj11] := by
            have hr := rzj11
            refine j_lstore_n (lv' := [(1, .long zj11), (0, .ref this)]) (pc' := 135) C dX12_atom_134 rfl (by decide) rfl rfl ?_
            refine j_aload_n (q := 1) (pc' := 136) C dX12_atom_135 rfl rfl rfl ?_
            refine j_lload_n (q := 0) (pc' := 137) C dX12_atom_136 rfl rfl rfl ?_
            refine j_lload_n (q := 0) (pc' := 138) C dX12_atom_137 rfl rfl rfl ?_
            refine j_lload_n (q := 0) (pc' := 139) C dX12_atom_138 rfl rfl rfl ?_
            refine j_lload_n (q := 0) (pc' := 140) C dX12_atom_139 rfl rfl rfl ?_
            obtain ⟨zz12, hzz12, hr⟩ := ob hr
            obtain ⟨zq13, hzq13, hr⟩ := ob hr
            obtain ⟨fhzz12, hzz12⟩ := rcv_sp hzz12
            refine j_callV (ci := 9) (As := [.long zj11, .long zj11, .long zj11, .long zj11]) (rest := []) (st1 := []) (pc' := 143) C ⟨wm_1596, wm_51⟩ rfl hzz12 (c_X12_push (nx := nx) hzq13) yw_X12_push wm_1594 rfl rfl (Nat.le_of_ble_eq_true rfl) ⟨by decide, by decide⟩ dX12_atom_140 rfl rfl ?_
            refine j_goto (tgt := 148) C dX12_atom_143 rfl ?_
            have hr := Option.some.inj hr
            subst hr
            exact j_lv [1] rfl (kzj2 _ rfl)
          clear rzj11
          have hr := hzj11
          clear hzj11
          refine j_ic_ne (tgt := 133) (pc' := 127) C dX12_atom_124 rfl rfl (fun hc => ?_) (fun hc => ?_)
          · have hr := ifF hc hr
            clear hc
            refine j_lconst (v := 0) (pc' := 134) C dX12_atom_133 kL_0 rfl ?_
            have hr := Option.some.inj hr
            subst hr
            exact j_lv [0] rfl kzj11
          · have hr := ifT hc hr
            clear hc
            refine j_ldc2 (pc' := 130) C dX12_atom_127 wm_1598 rfl ?_
            refine j_goto (tgt := 134) C dX12_atom_130 rfl ?_
            have hr := Option.some.inj hr
            subst hr
            exact j_lv [0] rfl kzj11
        · have hr := ifF hc hr
          clear hc
          refine j_iconst (v := 2) (pc' := 118) C dX12_atom_117 kI_2 rfl ?_
          have hr := Option.some.inj hr
          subst hr
          have hr := elL rzj2
          have hr := Option.some.inj hr
          subst hr
          exact j_iret C hq hret dX12_atom_118
    · have hr := ifT hc hr
      clear hc
      refine j_aload_n (q := 0) (pc' := 53) C dX12_atom_52 rfl rfl rfl ?_
      obtain ⟨zx14, hzx14, hr⟩ := ob hr
      refine j_getI (pc' := 56) C dX12_atom_53 fl_X12_189 hzx14 rfl ?_
      refine j_if_ne (tgt := 61) (pc' := 59) C dX12_atom_56 rfl rfl (fun hc => ?_) (fun hc => ?_)
      · have hr := ifF hc hr
        clear hc
        refine j_aload_n (q := 0) (pc' := 62) C dX12_atom_61 rfl rfl rfl ?_
        refine j_lconst (v := 0) (pc' := 63) C dX12_atom_62 kL_0 rfl ?_
        refine j_aload_n (q := 0) (pc' := 64) C dX12_atom_63 rfl rfl rfl ?_
        obtain ⟨zx15, hzx15, hr⟩ := ob hr
        refine j_getI (pc' := 67) C dX12_atom_64 fl_X12_138 hzx15 rfl ?_
        obtain ⟨zj16, hzj16, rzj16⟩ := ob hr
        have kzj16 : Jd G 0 0 nx ce 77 [(0, .ref this)] [.long zj16, .long (0 : Int64), .ref this] := by
          have hr := rzj16
          refine j_aload_n (q := 0) (pc' := 78) C dX12_atom_77 rfl rfl rfl ?_
          obtain ⟨zx17, hzx17, hr⟩ := ob hr
          refine j_getI (pc' := 81) C dX12_atom_78 fl_X12_138 hzx17 rfl ?_
          refine j_iconst (v := 1) (pc' := 82) C dX12_atom_81 kI_1 rfl ?_
          obtain ⟨zj18, hzj18, rzj18⟩ := ob hr
          have kzj18 : Jd G 0 0 nx ce 92 [(0, .ref this)] [.long zj18, .long zj16, .long (0 : Int64), .ref this] := by
            have hr := rzj18
            refine j_ldc2 (pc' := 95) C dX12_atom_92 wm_1598 rfl ?_
            obtain ⟨zz19, hzz19, hr⟩ := ob hr
            obtain ⟨zq20, hzq20, hr⟩ := ob hr
            obtain ⟨fhzz19, hzz19⟩ := rcv_sp hzz19
            refine j_callV (ci := 9) (As := [.long (0 : Int64), .long zj16, .long zj18, .long (-1 : Int64)]) (rest := []) (st1 := []) (pc' := 98) C ⟨wm_1596, wm_51⟩ rfl hzz19 (c_X12_push (nx := nx) hzq20) yw_X12_push wm_1594 rfl rfl (Nat.le_of_ble_eq_true rfl) ⟨by decide, by decide⟩ dX12_atom_95 rfl rfl ?_
            refine j_goto (tgt := 148) C dX12_atom_98 rfl ?_
            have hr := Option.some.inj hr
            subst hr
            exact j_lv [0] rfl (kzj2 _ rfl)
          clear rzj18
          have hr := hzj18
          clear hzj18
          refine j_ic_ne (tgt := 91) (pc' := 85) C dX12_atom_82 rfl rfl (fun hc => ?_) (fun hc => ?_)
          · have hr := ifF hc hr
            clear hc
            refine j_lconst (v := 0) (pc' := 92) C dX12_atom_91 kL_0 rfl ?_
            have hr := Option.some.inj hr
            subst hr
            exact j_lv [0] rfl kzj18
          · have hr := ifT hc hr
            clear hc
            refine j_ldc2 (pc' := 88) C dX12_atom_85 wm_1598 rfl ?_
            refine j_goto (tgt := 92) C dX12_atom_88 rfl ?_
            have hr := Option.some.inj hr
            subst hr
            exact j_lv [0] rfl kzj18
        clear rzj16
        have hr := hzj16
        clear hzj16
        refine j_if_ne (tgt := 76) (pc' := 70) C dX12_atom_67 rfl rfl (fun hc => ?_) (fun hc => ?_)
        · have hr := ifF hc hr
          clear hc
          refine j_lconst (v := 0) (pc' := 77) C dX12_atom_76 kL_0 rfl ?_
          have hr := Option.some.inj hr
          subst hr
          exact j_lv [0] rfl kzj16
        · have hr := ifT hc hr
          clear hc
          refine j_ldc2 (pc' := 73) C dX12_atom_70 wm_1598 rfl ?_
          refine j_goto (tgt := 77) C dX12_atom_73 rfl ?_
          have hr := Option.some.inj hr
          subst hr
          exact j_lv [0] rfl kzj16
      · have hr := ifT hc hr
        clear hc
        refine j_iconst (v := 5) (pc' := 60) C dX12_atom_59 kI_5 rfl ?_
        have hr := Option.some.inj hr
        subst hr
        have hr := elL rzj2
        have hr := Option.some.inj hr
        subst hr
        exact j_iret C hq hret dX12_atom_60
  · have hr := ifT hc hr
    clear hc
    refine j_aload_n (q := 0) (pc' := 11) C dX12_atom_10 rfl rfl rfl ?_
    obtain ⟨zx21, hzx21, hr⟩ := ob hr
    refine j_getI (pc' := 14) C dX12_atom_11 fl_X12_138 hzx21 rfl ?_
    refine j_aload_n (q := 0) (pc' := 15) C dX12_atom_14 rfl rfl rfl ?_
    obtain ⟨zx22, hzx22, hr⟩ := ob hr
    refine j_getI (pc' := 18) C dX12_atom_15 fl_X12_182 hzx22 rfl ?_
    refine j_ic_lt (tgt := 23) (pc' := 21) C dX12_atom_18 rfl rfl (fun hc => ?_) (fun hc => ?_)
    · have hr := ifT hc hr
      clear hc
      refine j_aload_n (q := 0) (pc' := 24) C dX12_atom_23 rfl rfl rfl ?_
      obtain ⟨zx23, hzx23, hr⟩ := ob hr
      refine j_getI (pc' := 27) C dX12_atom_24 fl_X12_138 hzx23 rfl ?_
      obtain ⟨zx24, hzx24, hr⟩ := ob hr
      refine j_callS (As := [.int zx23]) (rest := []) (st1 := [.long zx24]) (pc' := 30) C wm_1543 (c_X12_letterSet (nx := nx) (ce := ce) hzx24) yw_X12_letterSet wm_1542 rfl rfl (Nat.le_of_ble_eq_true rfl) ⟨by decide, by decide⟩ dX12_atom_27 rfl rfl ?_
      refine j_lstore_n (lv' := [(1, .long zx24), (0, .ref this)]) (pc' := 31) C dX12_atom_30 rfl (by decide) rfl rfl ?_
      refine j_aload_n (q := 1) (pc' := 32) C dX12_atom_31 rfl rfl rfl ?_
      refine j_lload_n (q := 0) (pc' := 33) C dX12_atom_32 rfl rfl rfl ?_
      refine j_lload_n (q := 0) (pc' := 34) C dX12_atom_33 rfl rfl rfl ?_
      refine j_lload_n (q := 0) (pc' := 35) C dX12_atom_34 rfl rfl rfl ?_
      refine j_lload_n (q := 0) (pc' := 36) C dX12_atom_35 rfl rfl rfl ?_
      obtain ⟨zz25, hzz25, hr⟩ := ob hr
      obtain ⟨zq26, hzq26, hr⟩ := ob hr
      obtain ⟨fhzz25, hzz25⟩ := rcv_sp hzz25
      refine j_callV (ci := 9) (As := [.long zx24, .long zx24, .long zx24, .long zx24]) (rest := []) (st1 := []) (pc' := 39) C ⟨wm_1596, wm_51⟩ rfl hzz25 (c_X12_push (nx := nx) hzq26) yw_X12_push wm_1594 rfl rfl (Nat.le_of_ble_eq_true rfl) ⟨by decide, by decide⟩ dX12_atom_36 rfl rfl ?_
      refine j_goto (tgt := 148) C dX12_atom_39 rfl ?_
      have hr := Option.some.inj hr
      subst hr
      exact j_lv [1] rfl (kzj2 _ rfl)
    · have hr := ifF hc hr
      clear hc
      refine j_iconst (v := 3) (pc' := 22) C dX12_atom_21 kI_3 rfl ?_
      have hr := Option.some.inj hr
      subst hr
      have hr := elL rzj2
      have hr := Option.some.inj hr
      subst hr
      exact j_iret C hq hret dX12_atom_22
def m_X12_isBetween (ce : Ce) (this : Nat) : Option (Int32) :=
  (gI ce 9 12 this).bind fun zx1 =>
  if zx1 = (38 : Int32) then
    some (1 : Int32)
  else
    (gI ce 9 12 this).bind fun zx2 =>
    if zx2 = (94 : Int32) then
      some (1 : Int32)
    else
      (gI ce 9 12 this).bind fun zx3 =>
      if zx3 = (124 : Int32) then
        some (1 : Int32)
      else
        some (0 : Int32)
set_option maxRecDepth 100000 in
set_option maxHeartbeats 4000000 in
theorem c_X12_isBetween {nx : Nat} {ce : Ce} {this : Nat} {q : Int32} (hr : m_X12_isBetween ce this = some q) : Ct yX12_isBetween cX12_isBetween 1 (some .boolean) 0 0 0 0 [.ref this] nx ce (some (.int q)) ce := by
  unfold m_X12_isBetween at hr
  refine ct_of (by decide) (Nat.le_of_ble_eq_true rfl) ?_
  intro G C hq hret hin
  show Jd G 0 0 nx ce 0 [(0, .ref this)] []
  refine j_aload_n (q := 0) (pc' := 1) C dX12_isBetween_0 rfl rfl rfl ?_
  obtain ⟨zx1, hzx1, hr⟩ := ob hr
  refine j_getI (pc' := 4) C dX12_isBetween_1 fl_X12_148 hzx1 rfl ?_
  refine j_bipush (v := 38) (pc' := 6) C dX12_isBetween_4 kB_38 rfl ?_
  refine j_ic_eq (tgt := 27) (pc' := 9) C dX12_isBetween_6 rfl rfl (fun hc => ?_) (fun hc => ?_)
  · have hr := ifT hc hr
    clear hc
    refine j_iconst (v := 1) (pc' := 28) C dX12_isBetween_27 kI_1 rfl ?_
    refine j_goto (tgt := 32) C dX12_isBetween_28 rfl ?_
    have hr := Option.some.inj hr
    subst hr
    exact j_zret C hq hret rfl dX12_isBetween_32
  · have hr := ifF hc hr
    clear hc
    refine j_aload_n (q := 0) (pc' := 10) C dX12_isBetween_9 rfl rfl rfl ?_
    obtain ⟨zx2, hzx2, hr⟩ := ob hr
    refine j_getI (pc' := 13) C dX12_isBetween_10 fl_X12_148 hzx2 rfl ?_
    refine j_bipush (v := 94) (pc' := 15) C dX12_isBetween_13 kB_94 rfl ?_
    refine j_ic_eq (tgt := 27) (pc' := 18) C dX12_isBetween_15 rfl rfl (fun hc => ?_) (fun hc => ?_)
    · have hr := ifT hc hr
      clear hc
      refine j_iconst (v := 1) (pc' := 28) C dX12_isBetween_27 kI_1 rfl ?_
      refine j_goto (tgt := 32) C dX12_isBetween_28 rfl ?_
      have hr := Option.some.inj hr
      subst hr
      exact j_zret C hq hret rfl dX12_isBetween_32
    · have hr := ifF hc hr
      clear hc
      refine j_aload_n (q := 0) (pc' := 19) C dX12_isBetween_18 rfl rfl rfl ?_
      obtain ⟨zx3, hzx3, hr⟩ := ob hr
      refine j_getI (pc' := 22) C dX12_isBetween_19 fl_X12_148 hzx3 rfl ?_
      refine j_bipush (v := 124) (pc' := 24) C dX12_isBetween_22 kB_124 rfl ?_
      refine j_ic_ne (tgt := 31) (pc' := 27) C dX12_isBetween_24 rfl rfl (fun hc => ?_) (fun hc => ?_)
      · have hr := ifF hc hr
        clear hc
        refine j_iconst (v := 0) (pc' := 32) C dX12_isBetween_31 kI_0 rfl ?_
        have hr := Option.some.inj hr
        subst hr
        exact j_zret C hq hret rfl dX12_isBetween_32
      · have hr := ifT hc hr
        clear hc
        refine j_iconst (v := 1) (pc' := 28) C dX12_isBetween_27 kI_1 rfl ?_
        refine j_goto (tgt := 32) C dX12_isBetween_28 rfl ?_
        have hr := Option.some.inj hr
        subst hr
        exact j_zret C hq hret rfl dX12_isBetween_32
def m_X12_form (ce : Ce) (this : Nat) : Option (Int32 × Ce) :=
  (pV ce 9 16 this (.int (0 : Int32))).bind fun zc1 =>
  (pV zc1 9 17 this (.int (0 : Int32))).bind fun zc2 =>
  (pV zc2 9 18 this (.int (0 : Int32))).bind fun zc3 =>
  (it (fun (zs4 : Int32 × Ce) =>
    if zs4.1 = 0 then
      (gI zs4.2 9 12 this).bind fun zx33 =>
      (
        if zx33 = (40 : Int32) then
          some ((Sum.inr (), zs4.2))
        else
          (gI zs4.2 9 12 this).bind fun zx40 =>
          if zx40 = (33 : Int32) then
            some ((Sum.inr (), zs4.2))
          else
            (
              if (0 : Int32) = 0 then
                (rcv zs4.2 9 this).bind fun zz42 =>
                (m_X12_atom zs4.2 this).bind fun zq43 =>
                some (zq43.1, zq43.2)
              else
                (rcv zs4.2 9 this).bind fun zz44 =>
                (m_X12_opened zs4.2 this).bind fun zq45 =>
                some (zq45.1, zq45.2)
            ).bind fun (zj41 : Int32 × Ce) =>
            if zj41.1 = 0 then
              if (0 : Int32) = 0 then
                some ((Sum.inl (Sum.inl ((1 : Int32), zj41.2)), zj41.2))
              else
                some ((Sum.inl (Sum.inl ((0 : Int32), zj41.2)), zj41.2))
            else
              some ((Sum.inl (Sum.inr (Sum.inl zj41.1, zj41.2)), zj41.2))
      ).bind fun (zj34 : (((Int32 × Ce) ⊕ ((Int32 ⊕ Unit) × Ce)) ⊕ Unit) × Ce) => Sum.elim (fun wzj34 => some wzj34) (fun vzj34 =>
        (
          if (1 : Int32) = 0 then
            (rcv zj34.2 9 this).bind fun zz36 =>
            (m_X12_atom zj34.2 this).bind fun zq37 =>
            some (zq37.1, zq37.2)
          else
            (rcv zj34.2 9 this).bind fun zz38 =>
            (m_X12_opened zj34.2 this).bind fun zq39 =>
            some (zq39.1, zq39.2)
        ).bind fun (zj35 : Int32 × Ce) =>
        if zj35.1 = 0 then
          if (1 : Int32) = 0 then
            some (Sum.inl ((1 : Int32), zj35.2))
          else
            some (Sum.inl ((0 : Int32), zj35.2))
        else
          some (Sum.inr (Sum.inl zj35.1, zj35.2))
      ) zj34.1
    else
      (rcv zs4.2 9 this).bind fun zz7 =>
      (m_X12_isBetween zs4.2 this).bind fun zx8 =>
      if zx8 = 0 then
        (rcv zs4.2 9 this).bind fun zz9 =>
        (m_X12_settle zs4.2 this (1 : Int32)).bind fun zq10 =>
        (gI zq10.2 9 17 this).bind fun zx11 =>
        if zx11 = 0 then
          some (Sum.inr (Sum.inl (0 : Int32), zq10.2))
        else
          (gI zq10.2 9 12 this).bind fun zx12 =>
          if zx12 = (41 : Int32) then
            (gI zq10.2 9 17 this).bind fun zx13 =>
            (pV zq10.2 9 17 this (.int (zx13 - (1 : Int32)))).bind fun zc14 =>
            (gI zc14 9 18 this).bind fun zx15 =>
            (pV zc14 9 18 this (.int (zx15 - (1 : Int32)))).bind fun zc16 =>
            (rcv zc16 9 this).bind fun zz17 =>
            (m_X12_nextToken zc16 this).bind fun zq18 =>
            (rcv zq18.2 9 this).bind fun zz19 =>
            (m_X12_settle zq18.2 this (4 : Int32)).bind fun zq20 =>
            some (Sum.inl (zs4.1, zq20.2))
          else
            some (Sum.inr (Sum.inl (1 : Int32), zq10.2))
      else
        (gI zs4.2 9 12 this).bind fun zx21 =>
        (m_X12_rank zx21).bind fun zx22 =>
        (rcv zs4.2 9 this).bind fun zz23 =>
        (m_X12_settle zs4.2 this zx22).bind fun zq24 =>
        (gA zq24.2 9 15 this).bind fun zx25 =>
        (gI zq24.2 9 17 this).bind fun zx26 =>
        (gI zq24.2 9 12 this).bind fun zx27 =>
        (sI zq24.2 zx25 zx26 zx27).bind fun zc28 =>
        (gI zc28 9 17 this).bind fun zx29 =>
        (pV zc28 9 17 this (.int (zx29 + (1 : Int32)))).bind fun zc30 =>
        (rcv zc30 9 this).bind fun zz31 =>
        (m_X12_nextToken zc30 this).bind fun zq32 =>
        some (Sum.inl ((0 : Int32), zq32.2))
  ) FU ((0 : Int32), zc3)).bind fun (zo5 : (Int32 ⊕ Unit) × Ce) =>
  Sum.elim (fun wzo5 => some (wzo5, zo5.2)) (fun (_ : Unit) => none) zo5.1
set_option maxRecDepth 100000 in
set_option maxHeartbeats 4000000 in
theorem c_X12_form {nx : Nat} {ce : Ce} {this : Nat} {q : Int32 × Ce} (hr : m_X12_form ce this = some q) : Ct yX12_form cX12_form 4 (some .int) 5 112 0 0 [.ref this] nx ce (some (.int q.1)) q.2 := by
  unfold m_X12_form at hr
  refine ct_of (by decide) (Nat.le_of_ble_eq_true rfl) ?_
  intro G C hq hret hin
  show Jd G 0 0 nx ce 0 [(0, .ref this)] []
  refine j_aload_n (q := 0) (pc' := 1) C dX12_form_0 rfl rfl rfl ?_
  refine j_iconst (v := 0) (pc' := 2) C dX12_form_1 kI_0 rfl ?_
  obtain ⟨zc1, hzc1, hr⟩ := ob hr
  refine j_put (pc' := 5) C dX12_form_2 fw_X12_164 rfl rfl hzc1 rfl ?_
  refine j_aload_n (q := 0) (pc' := 6) C dX12_form_5 rfl rfl rfl ?_
  refine j_iconst (v := 0) (pc' := 7) C dX12_form_6 kI_0 rfl ?_
  obtain ⟨zc2, hzc2, hr⟩ := ob hr
  refine j_put (pc' := 10) C dX12_form_7 fw_X12_170 rfl rfl hzc2 rfl ?_
  refine j_aload_n (q := 0) (pc' := 11) C dX12_form_10 rfl rfl rfl ?_
  refine j_iconst (v := 0) (pc' := 12) C dX12_form_11 kI_0 rfl ?_
  obtain ⟨zc3, hzc3, hr⟩ := ob hr
  refine j_put (pc' := 15) C dX12_form_12 fw_X12_167 rfl rfl hzc3 rfl ?_
  refine j_iconst (v := 0) (pc' := 16) C dX12_form_15 kI_0 rfl ?_
  refine j_istore_n (lv' := [(1, .int (0 : Int32)), (0, .ref this)]) (pc' := 17) C dX12_form_16 rfl (by decide) rfl rfl ?_
  obtain ⟨zo5, hzo5, rzo5⟩ := ob hr
  refine j_lv (lv' := [(0, .ref this), (1, .int (0 : Int32))]) [1, 0] rfl ?_
  refine it_J (J := (fun (zs4 : Int32 × Ce) => Jd G 0 0 nx zs4.2 17 [(0, .ref this), (1, .int zs4.1)] [])) ?_ hzo5
  clear hzo5
  intro zs4 zr6 hr izs4 ezs4
  refine j_iload_n (q := 1) (pc' := 18) C dX12_form_17 rfl rfl rfl ?_
  refine j_if_ne (tgt := 80) (pc' := 21) C dX12_form_18 rfl rfl (fun hc => ?_) (fun hc => ?_)
  · have hr := ifF hc hr
    clear hc
    refine j_aload_n (q := 0) (pc' := 81) C dX12_form_80 rfl rfl rfl ?_
    obtain ⟨zz7, hzz7, hr⟩ := ob hr
    obtain ⟨zx8, hzx8, hr⟩ := ob hr
    obtain ⟨fhzz7, hzz7⟩ := rcv_sp hzz7
    refine j_callV (ci := 9) (As := []) (rest := []) (st1 := [.int zx8]) (pc' := 84) C ⟨wm_1612, wm_54⟩ rfl hzz7 (c_X12_isBetween (nx := nx) hzx8) yw_X12_isBetween wm_1610 rfl rfl (Nat.le_of_ble_eq_true rfl) ⟨by decide, by decide⟩ dX12_form_81 rfl rfl ?_
    refine j_if_eq (tgt := 130) (pc' := 87) C dX12_form_84 rfl rfl (fun hc => ?_) (fun hc => ?_)
    · have hr := ifT hc hr
      clear hc
      refine j_aload_n (q := 0) (pc' := 131) C dX12_form_130 rfl rfl rfl ?_
      refine j_iconst (v := 1) (pc' := 132) C dX12_form_131 kI_1 rfl ?_
      obtain ⟨zz9, hzz9, hr⟩ := ob hr
      obtain ⟨zq10, hzq10, hr⟩ := ob hr
      obtain ⟨fhzz9, hzz9⟩ := rcv_sp hzz9
      refine j_callV (ci := 9) (As := [.int (1 : Int32)]) (rest := []) (st1 := []) (pc' := 135) C ⟨wm_1601, wm_52⟩ rfl hzz9 (c_X12_settle (nx := nx) hzq10) yw_X12_settle wm_1599 rfl rfl (Nat.le_of_ble_eq_true rfl) ⟨by decide, by decide⟩ dX12_form_132 rfl rfl ?_
      refine j_aload_n (q := 0) (pc' := 136) C dX12_form_135 rfl rfl rfl ?_
      obtain ⟨zx11, hzx11, hr⟩ := ob hr
      refine j_getI (pc' := 139) C dX12_form_136 fl_X12_170 hzx11 rfl ?_
      refine j_if_ne (tgt := 144) (pc' := 142) C dX12_form_139 rfl rfl (fun hc => ?_) (fun hc => ?_)
      · have hr := ifF hc hr
        clear hc
        refine j_aload_n (q := 0) (pc' := 145) C dX12_form_144 rfl rfl rfl ?_
        obtain ⟨zx12, hzx12, hr⟩ := ob hr
        refine j_getI (pc' := 148) C dX12_form_145 fl_X12_148 hzx12 rfl ?_
        refine j_bipush (v := 41) (pc' := 150) C dX12_form_148 kB_41 rfl ?_
        refine j_ic_eq (tgt := 155) (pc' := 153) C dX12_form_150 rfl rfl (fun hc => ?_) (fun hc => ?_)
        · have hr := ifT hc hr
          clear hc
          refine j_aload_n (q := 0) (pc' := 156) C dX12_form_155 rfl rfl rfl ?_
          refine j_dup (pc' := 157) C dX12_form_156 rfl rfl ?_
          obtain ⟨zx13, hzx13, hr⟩ := ob hr
          refine j_getI (pc' := 160) C dX12_form_157 fl_X12_170 hzx13 rfl ?_
          refine j_iconst (v := 1) (pc' := 161) C dX12_form_160 kI_1 rfl ?_
          refine j_isub (pc' := 162) C dX12_form_161 rfl ?_
          obtain ⟨zc14, hzc14, hr⟩ := ob hr
          refine j_put (pc' := 165) C dX12_form_162 fw_X12_170 rfl rfl hzc14 rfl ?_
          refine j_aload_n (q := 0) (pc' := 166) C dX12_form_165 rfl rfl rfl ?_
          refine j_dup (pc' := 167) C dX12_form_166 rfl rfl ?_
          obtain ⟨zx15, hzx15, hr⟩ := ob hr
          refine j_getI (pc' := 170) C dX12_form_167 fl_X12_167 hzx15 rfl ?_
          refine j_iconst (v := 1) (pc' := 171) C dX12_form_170 kI_1 rfl ?_
          refine j_isub (pc' := 172) C dX12_form_171 rfl ?_
          obtain ⟨zc16, hzc16, hr⟩ := ob hr
          refine j_put (pc' := 175) C dX12_form_172 fw_X12_167 rfl rfl hzc16 rfl ?_
          refine j_aload_n (q := 0) (pc' := 176) C dX12_form_175 rfl rfl rfl ?_
          obtain ⟨zz17, hzz17, hr⟩ := ob hr
          obtain ⟨zq18, hzq18, hr⟩ := ob hr
          obtain ⟨fhzz17, hzz17⟩ := rcv_sp hzz17
          refine j_callV (ci := 9) (As := []) (rest := []) (st1 := []) (pc' := 179) C ⟨wm_1547, wm_41⟩ rfl hzz17 (c_X12_nextToken (nx := nx) hzq18) yw_X12_nextToken wm_1545 rfl rfl (Nat.le_of_ble_eq_true rfl) ⟨by decide, by decide⟩ dX12_form_176 rfl rfl ?_
          refine j_aload_n (q := 0) (pc' := 180) C dX12_form_179 rfl rfl rfl ?_
          refine j_iconst (v := 4) (pc' := 181) C dX12_form_180 kI_4 rfl ?_
          obtain ⟨zz19, hzz19, hr⟩ := ob hr
          obtain ⟨zq20, hzq20, hr⟩ := ob hr
          obtain ⟨fhzz19, hzz19⟩ := rcv_sp hzz19
          refine j_callV (ci := 9) (As := [.int (4 : Int32)]) (rest := []) (st1 := []) (pc' := 184) C ⟨wm_1601, wm_52⟩ rfl hzz19 (c_X12_settle (nx := nx) hzq20) yw_X12_settle wm_1599 rfl rfl (Nat.le_of_ble_eq_true rfl) ⟨by decide, by decide⟩ dX12_form_181 rfl rfl ?_
          refine j_goto (tgt := 17) C dX12_form_184 rfl ?_
          have hr := izs4 (zs4.1, zq20.2) (Option.some.inj hr).symm
          exact j_lv [0, 1] rfl hr
        · have hr := ifF hc hr
          clear hc
          refine j_iconst (v := 1) (pc' := 154) C dX12_form_153 kI_1 rfl ?_
          have hr := ezs4 _ (Option.some.inj hr).symm
          subst hr
          have hr := elL rzo5
          have hr := Option.some.inj hr
          subst hr
          exact j_iret C hq hret dX12_form_154
      · have hr := ifT hc hr
        clear hc
        refine j_iconst (v := 0) (pc' := 143) C dX12_form_142 kI_0 rfl ?_
        have hr := ezs4 _ (Option.some.inj hr).symm
        subst hr
        have hr := elL rzo5
        have hr := Option.some.inj hr
        subst hr
        exact j_iret C hq hret dX12_form_143
    · have hr := ifF hc hr
      clear hc
      refine j_aload_n (q := 0) (pc' := 88) C dX12_form_87 rfl rfl rfl ?_
      refine j_aload_n (q := 0) (pc' := 89) C dX12_form_88 rfl rfl rfl ?_
      obtain ⟨zx21, hzx21, hr⟩ := ob hr
      refine j_getI (pc' := 92) C dX12_form_89 fl_X12_148 hzx21 rfl ?_
      obtain ⟨zx22, hzx22, hr⟩ := ob hr
      refine j_callS (As := [.int zx21]) (rest := [.ref this]) (st1 := [.int zx22, .ref this]) (pc' := 95) C wm_1604 (c_X12_rank (nx := nx) (ce := zs4.2) hzx22) yw_X12_rank wm_1603 rfl rfl (Nat.le_of_ble_eq_true rfl) ⟨by decide, by decide⟩ dX12_form_92 rfl rfl ?_
      obtain ⟨zz23, hzz23, hr⟩ := ob hr
      obtain ⟨zq24, hzq24, hr⟩ := ob hr
      obtain ⟨fhzz23, hzz23⟩ := rcv_sp hzz23
      refine j_callV (ci := 9) (As := [.int zx22]) (rest := []) (st1 := []) (pc' := 98) C ⟨wm_1601, wm_52⟩ rfl hzz23 (c_X12_settle (nx := nx) hzq24) yw_X12_settle wm_1599 rfl rfl (Nat.le_of_ble_eq_true rfl) ⟨by decide, by decide⟩ dX12_form_95 rfl rfl ?_
      refine j_aload_n (q := 0) (pc' := 99) C dX12_form_98 rfl rfl rfl ?_
      obtain ⟨zx25, hzx25, hr⟩ := ob hr
      refine j_getA (pc' := 102) C dX12_form_99 fl_X12_44 hzx25 rfl ?_
      refine j_aload_n (q := 0) (pc' := 103) C dX12_form_102 rfl rfl rfl ?_
      obtain ⟨zx26, hzx26, hr⟩ := ob hr
      refine j_getI (pc' := 106) C dX12_form_103 fl_X12_170 hzx26 rfl ?_
      refine j_aload_n (q := 0) (pc' := 107) C dX12_form_106 rfl rfl rfl ?_
      obtain ⟨zx27, hzx27, hr⟩ := ob hr
      refine j_getI (pc' := 110) C dX12_form_107 fl_X12_148 hzx27 rfl ?_
      obtain ⟨zc28, hzc28, hr⟩ := ob hr
      refine j_iast (pc' := 111) C dX12_form_110 hzc28 rfl ?_
      refine j_aload_n (q := 0) (pc' := 112) C dX12_form_111 rfl rfl rfl ?_
      refine j_dup (pc' := 113) C dX12_form_112 rfl rfl ?_
      obtain ⟨zx29, hzx29, hr⟩ := ob hr
      refine j_getI (pc' := 116) C dX12_form_113 fl_X12_170 hzx29 rfl ?_
      refine j_iconst (v := 1) (pc' := 117) C dX12_form_116 kI_1 rfl ?_
      refine j_iadd (pc' := 118) C dX12_form_117 rfl ?_
      obtain ⟨zc30, hzc30, hr⟩ := ob hr
      refine j_put (pc' := 121) C dX12_form_118 fw_X12_170 rfl rfl hzc30 rfl ?_
      refine j_aload_n (q := 0) (pc' := 122) C dX12_form_121 rfl rfl rfl ?_
      obtain ⟨zz31, hzz31, hr⟩ := ob hr
      obtain ⟨zq32, hzq32, hr⟩ := ob hr
      obtain ⟨fhzz31, hzz31⟩ := rcv_sp hzz31
      refine j_callV (ci := 9) (As := []) (rest := []) (st1 := []) (pc' := 125) C ⟨wm_1547, wm_41⟩ rfl hzz31 (c_X12_nextToken (nx := nx) hzq32) yw_X12_nextToken wm_1545 rfl rfl (Nat.le_of_ble_eq_true rfl) ⟨by decide, by decide⟩ dX12_form_122 rfl rfl ?_
      refine j_iconst (v := 0) (pc' := 126) C dX12_form_125 kI_0 rfl ?_
      refine j_istore_n (lv' := [(1, .int (0 : Int32)), (0, .ref this)]) (pc' := 127) C dX12_form_126 rfl (by decide) rfl rfl ?_
      refine j_goto (tgt := 17) C dX12_form_127 rfl ?_
      have hr := izs4 ((0 : Int32), zq32.2) (Option.some.inj hr).symm
      exact j_lv [1, 0] rfl hr
  · have hr := ifT hc hr
    clear hc
    refine j_aload_n (q := 0) (pc' := 22) C dX12_form_21 rfl rfl rfl ?_
    obtain ⟨zx33, hzx33, hr⟩ := ob hr
    refine j_getI (pc' := 25) C dX12_form_22 fl_X12_148 hzx33 rfl ?_
    refine j_bipush (v := 40) (pc' := 27) C dX12_form_25 kB_40 rfl ?_
    obtain ⟨zj34, hzj34, rzj34⟩ := ob hr
    have kzj34 : ∀ vzj34, zj34.1 = Sum.inr vzj34 → Jd G 0 0 nx zj34.2 39 [(0, .ref this)] [] := by
      intro vzj34 ezj34
      rw [ezj34] at rzj34
      have hr := elR rzj34
      refine j_iconst (v := 1) (pc' := 40) C dX12_form_39 kI_1 rfl ?_
      refine j_goto (tgt := 44) C dX12_form_40 rfl ?_
      refine j_istore_n (lv' := [(2, .int (1 : Int32)), (0, .ref this)]) (pc' := 45) C dX12_form_44 rfl (by decide) rfl rfl ?_
      refine j_iload_n (q := 0) (pc' := 46) C dX12_form_45 rfl rfl rfl ?_
      obtain ⟨zj35, hzj35, rzj35⟩ := ob hr
      have kzj35 : Jd G 0 0 nx zj35.2 60 [(0, .ref this), (2, .int (1 : Int32))] [.int zj35.1] := by
        have hr := rzj35
        refine j_istore_n (lv' := [(3, .int zj35.1), (0, .ref this), (2, .int (1 : Int32))]) (pc' := 61) C dX12_form_60 rfl (by decide) rfl rfl ?_
        refine j_iload_n (q := 0) (pc' := 62) C dX12_form_61 rfl rfl rfl ?_
        refine j_if_eq (tgt := 67) (pc' := 65) C dX12_form_62 rfl rfl (fun hc => ?_) (fun hc => ?_)
        · have hr := ifT hc hr
          clear hc
          refine j_iload_n (q := 2) (pc' := 68) C dX12_form_67 rfl rfl rfl ?_
          refine j_if_ne (tgt := 75) (pc' := 71) C dX12_form_68 rfl rfl (fun hc => ?_) (fun hc => ?_)
          · have hr := ifF hc hr
            clear hc
            refine j_iconst (v := 0) (pc' := 76) C dX12_form_75 kI_0 rfl ?_
            refine j_istore_n (lv' := [(1, .int (0 : Int32)), (3, .int zj35.1), (0, .ref this), (2, .int (1 : Int32))]) (pc' := 77) C dX12_form_76 rfl (by decide) rfl rfl ?_
            refine j_goto (tgt := 17) C dX12_form_77 rfl ?_
            have hr := izs4 ((0 : Int32), zj35.2) (Option.some.inj hr).symm
            exact j_lv [2, 0] rfl hr
          · have hr := ifT hc hr
            clear hc
            refine j_iconst (v := 1) (pc' := 72) C dX12_form_71 kI_1 rfl ?_
            refine j_goto (tgt := 76) C dX12_form_72 rfl ?_
            refine j_istore_n (lv' := [(1, .int (1 : Int32)), (3, .int zj35.1), (0, .ref this), (2, .int (1 : Int32))]) (pc' := 77) C dX12_form_76 rfl (by decide) rfl rfl ?_
            refine j_goto (tgt := 17) C dX12_form_77 rfl ?_
            have hr := izs4 ((1 : Int32), zj35.2) (Option.some.inj hr).symm
            exact j_lv [2, 0] rfl hr
        · have hr := ifF hc hr
          clear hc
          refine j_iload_n (q := 0) (pc' := 66) C dX12_form_65 rfl rfl rfl ?_
          have hr := ezs4 _ (Option.some.inj hr).symm
          subst hr
          have hr := elL rzo5
          have hr := Option.some.inj hr
          subst hr
          exact j_iret C hq hret dX12_form_66
      clear rzj35
      have hr := hzj35
      clear hzj35
      refine j_if_eq (tgt := 56) (pc' := 49) C dX12_form_46 rfl rfl (fun hc => ?_) (fun hc => ?_)
      · have hr := ifT hc hr
        clear hc
        refine j_aload_n (q := 1) (pc' := 57) C dX12_form_56 rfl rfl rfl ?_
        obtain ⟨zz36, hzz36, hr⟩ := ob hr
        obtain ⟨zq37, hzq37, hr⟩ := ob hr
        obtain ⟨fhzz36, hzz36⟩ := rcv_sp hzz36
        refine j_callV (ci := 9) (As := []) (rest := []) (st1 := [.int zq37.1]) (pc' := 60) C ⟨wm_1592, wm_50⟩ rfl hzz36 (c_X12_atom (nx := nx) hzq37) yw_X12_atom wm_1590 rfl rfl (Nat.le_of_ble_eq_true rfl) ⟨by decide, by decide⟩ dX12_form_57 rfl rfl ?_
        have hr := Option.some.inj hr
        subst hr
        exact j_lv [1, 0] rfl kzj35
      · have hr := ifF hc hr
        clear hc
        refine j_aload_n (q := 1) (pc' := 50) C dX12_form_49 rfl rfl rfl ?_
        obtain ⟨zz38, hzz38, hr⟩ := ob hr
        obtain ⟨zq39, hzq39, hr⟩ := ob hr
        obtain ⟨fhzz38, hzz38⟩ := rcv_sp hzz38
        refine j_callV (ci := 9) (As := []) (rest := []) (st1 := [.int zq39.1]) (pc' := 53) C ⟨wm_1588, wm_49⟩ rfl hzz38 (c_X12_opened (nx := nx) hzq39) yw_X12_opened wm_1586 rfl rfl (Nat.le_of_ble_eq_true rfl) ⟨by decide, by decide⟩ dX12_form_50 rfl rfl ?_
        refine j_goto (tgt := 60) C dX12_form_53 rfl ?_
        have hr := Option.some.inj hr
        subst hr
        exact j_lv [1, 0] rfl kzj35
    have hr := hzj34
    clear hzj34
    refine j_ic_eq (tgt := 39) (pc' := 30) C dX12_form_27 rfl rfl (fun hc => ?_) (fun hc => ?_)
    · have hr := ifT hc hr
      clear hc
      have hr := Option.some.inj hr
      subst hr
      exact j_lv [0] rfl (kzj34 _ rfl)
    · have hr := ifF hc hr
      clear hc
      refine j_aload_n (q := 0) (pc' := 31) C dX12_form_30 rfl rfl rfl ?_
      obtain ⟨zx40, hzx40, hr⟩ := ob hr
      refine j_getI (pc' := 34) C dX12_form_31 fl_X12_148 hzx40 rfl ?_
      refine j_bipush (v := 33) (pc' := 36) C dX12_form_34 kB_33 rfl ?_
      refine j_ic_ne (tgt := 43) (pc' := 39) C dX12_form_36 rfl rfl (fun hc => ?_) (fun hc => ?_)
      · have hr := ifF hc hr
        clear hc
        refine j_iconst (v := 0) (pc' := 44) C dX12_form_43 kI_0 rfl ?_
        refine j_istore_n (lv' := [(2, .int (0 : Int32)), (0, .ref this), (1, .int zs4.1)]) (pc' := 45) C dX12_form_44 rfl (by decide) rfl rfl ?_
        refine j_iload_n (q := 0) (pc' := 46) C dX12_form_45 rfl rfl rfl ?_
        obtain ⟨zj41, hzj41, rzj41⟩ := ob hr
        have kzj41 : Jd G 0 0 nx zj41.2 60 [(0, .ref this), (2, .int (0 : Int32))] [.int zj41.1] := by
          have hr := rzj41
          refine j_istore_n (lv' := [(3, .int zj41.1), (0, .ref this), (2, .int (0 : Int32))]) (pc' := 61) C dX12_form_60 rfl (by decide) rfl rfl ?_
          refine j_iload_n (q := 0) (pc' := 62) C dX12_form_61 rfl rfl rfl ?_
          refine j_if_eq (tgt := 67) (pc' := 65) C dX12_form_62 rfl rfl (fun hc => ?_) (fun hc => ?_)
          · have hr := ifT hc hr
            clear hc
            refine j_iload_n (q := 2) (pc' := 68) C dX12_form_67 rfl rfl rfl ?_
            refine j_if_ne (tgt := 75) (pc' := 71) C dX12_form_68 rfl rfl (fun hc => ?_) (fun hc => ?_)
            · have hr := ifF hc hr
              clear hc
              refine j_iconst (v := 0) (pc' := 76) C dX12_form_75 kI_0 rfl ?_
              refine j_istore_n (lv' := [(1, .int (0 : Int32)), (3, .int zj41.1), (0, .ref this), (2, .int (0 : Int32))]) (pc' := 77) C dX12_form_76 rfl (by decide) rfl rfl ?_
              refine j_goto (tgt := 17) C dX12_form_77 rfl ?_
              have hr := Option.some.inj hr
              subst hr
              have hr := elL rzj34
              have hr := izs4 ((0 : Int32), zj41.2) (Option.some.inj hr).symm
              exact j_lv [2, 0] rfl hr
            · have hr := ifT hc hr
              clear hc
              refine j_iconst (v := 1) (pc' := 72) C dX12_form_71 kI_1 rfl ?_
              refine j_goto (tgt := 76) C dX12_form_72 rfl ?_
              refine j_istore_n (lv' := [(1, .int (1 : Int32)), (3, .int zj41.1), (0, .ref this), (2, .int (0 : Int32))]) (pc' := 77) C dX12_form_76 rfl (by decide) rfl rfl ?_
              refine j_goto (tgt := 17) C dX12_form_77 rfl ?_
              have hr := Option.some.inj hr
              subst hr
              have hr := elL rzj34
              have hr := izs4 ((1 : Int32), zj41.2) (Option.some.inj hr).symm
              exact j_lv [2, 0] rfl hr
          · have hr := ifF hc hr
            clear hc
            refine j_iload_n (q := 0) (pc' := 66) C dX12_form_65 rfl rfl rfl ?_
            have hr := Option.some.inj hr
            subst hr
            have hr := elL rzj34
            have hr := ezs4 _ (Option.some.inj hr).symm
            subst hr
            have hr := elL rzo5
            have hr := Option.some.inj hr
            subst hr
            exact j_iret C hq hret dX12_form_66
        clear rzj41
        have hr := hzj41
        clear hzj41
        refine j_if_eq (tgt := 56) (pc' := 49) C dX12_form_46 rfl rfl (fun hc => ?_) (fun hc => ?_)
        · have hr := ifT hc hr
          clear hc
          refine j_aload_n (q := 1) (pc' := 57) C dX12_form_56 rfl rfl rfl ?_
          obtain ⟨zz42, hzz42, hr⟩ := ob hr
          obtain ⟨zq43, hzq43, hr⟩ := ob hr
          obtain ⟨fhzz42, hzz42⟩ := rcv_sp hzz42
          refine j_callV (ci := 9) (As := []) (rest := []) (st1 := [.int zq43.1]) (pc' := 60) C ⟨wm_1592, wm_50⟩ rfl hzz42 (c_X12_atom (nx := nx) hzq43) yw_X12_atom wm_1590 rfl rfl (Nat.le_of_ble_eq_true rfl) ⟨by decide, by decide⟩ dX12_form_57 rfl rfl ?_
          have hr := Option.some.inj hr
          subst hr
          exact j_lv [1, 0] rfl kzj41
        · have hr := ifF hc hr
          clear hc
          refine j_aload_n (q := 1) (pc' := 50) C dX12_form_49 rfl rfl rfl ?_
          obtain ⟨zz44, hzz44, hr⟩ := ob hr
          obtain ⟨zq45, hzq45, hr⟩ := ob hr
          obtain ⟨fhzz44, hzz44⟩ := rcv_sp hzz44
          refine j_callV (ci := 9) (As := []) (rest := []) (st1 := [.int zq45.1]) (pc' := 53) C ⟨wm_1588, wm_49⟩ rfl hzz44 (c_X12_opened (nx := nx) hzq45) yw_X12_opened wm_1586 rfl rfl (Nat.le_of_ble_eq_true rfl) ⟨by decide, by decide⟩ dX12_form_50 rfl rfl ?_
          refine j_goto (tgt := 60) C dX12_form_53 rfl ?_
          have hr := Option.some.inj hr
          subst hr
          exact j_lv [1, 0] rfl kzj41
      · have hr := ifT hc hr
        clear hc
        have hr := Option.some.inj hr
        subst hr
        exact j_lv [0] rfl (kzj34 _ rfl)
def m_X12_formAt (ce : Ce) (this : Nat) (p1 : Int32) (p2 : Int32) : Option (Int32 × Ce) :=
  (pZ ce 9 20 this p2).bind fun zc1 =>
  (rcv zc1 9 this).bind fun zz2 =>
  (m_X12_form zc1 this).bind fun zq3 =>
  if zq3.1 = 0 then
    (it (fun (zs4 : Int32 × Ce) =>
      (
        if p2 = 0 then
          some (1 : Int32)
        else
          some (4 : Int32)
      ).bind fun (zj7 : Int32) =>
      if zj7 ≤ zs4.1 then
        some (Sum.inr ((), zs4.2))
      else
        (gA zs4.2 9 5 this).bind fun zx8 =>
        (gA zs4.2 9 14 this).bind fun zx9 =>
        (aL zs4.2 zx9 zs4.1).bind fun zx10 =>
        (sL zs4.2 zx8 (p1 + zs4.1) zx10).bind fun zc11 =>
        some (Sum.inl ((zs4.1 + (1 : Int32)), zc11))
    ) FU ((0 : Int32), zq3.2)).bind fun (zo5 : Unit × Ce) =>
    some ((0 : Int32), zo5.2)
  else
    some (zq3.1, zq3.2)
set_option maxRecDepth 100000 in
set_option maxHeartbeats 4000000 in
theorem c_X12_formAt {nx : Nat} {ce : Ce} {this : Nat} {p1 : Int32} {p2 : Int32} {q : Int32 × Ce} (hr : m_X12_formAt ce this p1 p2 = some q) : Ct yX12_formAt cX12_formAt 5 (some .int) 6 135 0 0 [.ref this, .int p1, .int p2] nx ce (some (.int q.1)) q.2 := by
  unfold m_X12_formAt at hr
  refine ct_of (by decide) (Nat.le_of_ble_eq_true rfl) ?_
  intro G C hq hret hin
  show Jd G 0 0 nx ce 0 [(0, .ref this), (1, .int p1), (2, .int p2)] []
  refine j_aload_n (q := 0) (pc' := 1) C dX12_formAt_0 rfl rfl rfl ?_
  refine j_iload_n (q := 2) (pc' := 2) C dX12_formAt_1 rfl rfl rfl ?_
  obtain ⟨zc1, hzc1, hr⟩ := ob hr
  obtain ⟨hzc1n, hzc1f, hzc1⟩ := pZ_sp hzc1
  refine j_put (pc' := 5) C dX12_formAt_2 fw_X12_189 hzc1n hzc1f hzc1 rfl ?_
  refine j_aload_n (q := 0) (pc' := 6) C dX12_formAt_5 rfl rfl rfl ?_
  obtain ⟨zz2, hzz2, hr⟩ := ob hr
  obtain ⟨zq3, hzq3, hr⟩ := ob hr
  obtain ⟨fhzz2, hzz2⟩ := rcv_sp hzz2
  refine j_callV (ci := 9) (As := []) (rest := []) (st1 := [.int zq3.1]) (pc' := 9) C ⟨wm_1584, wm_48⟩ rfl hzz2 (c_X12_form (nx := nx) hzq3) yw_X12_form wm_1582 rfl rfl (Nat.le_of_ble_eq_true rfl) ⟨by decide, by decide⟩ dX12_formAt_6 rfl rfl ?_
  refine j_istore_n (lv' := [(3, .int zq3.1), (0, .ref this), (1, .int p1), (2, .int p2)]) (pc' := 10) C dX12_formAt_9 rfl (by decide) rfl rfl ?_
  refine j_iload_n (q := 0) (pc' := 11) C dX12_formAt_10 rfl rfl rfl ?_
  refine j_if_eq (tgt := 16) (pc' := 14) C dX12_formAt_11 rfl rfl (fun hc => ?_) (fun hc => ?_)
  · have hr := ifT hc hr
    clear hc
    refine j_iconst (v := 0) (pc' := 17) C dX12_formAt_16 kI_0 rfl ?_
    refine j_istore (lv' := [(4, .int (0 : Int32)), (3, .int zq3.1), (0, .ref this), (1, .int p1), (2, .int p2)]) (pc' := 19) C dX12_formAt_17 (by decide) rfl rfl ?_
    obtain ⟨zo5, hzo5, rzo5⟩ := ob hr
    have kzo5 : Jd G 0 0 nx zo5.2 55 [] [] := by
      have hr := rzo5
      refine j_iconst (v := 0) (pc' := 56) C dX12_formAt_55 kI_0 rfl ?_
      have hr := Option.some.inj hr
      subst hr
      exact j_iret C hq hret dX12_formAt_56
    refine j_lv (lv' := [(0, .ref this), (1, .int p1), (2, .int p2), (4, .int (0 : Int32))]) [2, 3, 4, 0] rfl ?_
    refine it_J (J := (fun (zs4 : Int32 × Ce) => Jd G 0 0 nx zs4.2 19 [(0, .ref this), (1, .int p1), (2, .int p2), (4, .int zs4.1)] [])) ?_ hzo5
    clear hzo5
    intro zs4 zr6 hr izs4 ezs4
    refine j_iload (q := 3) (pc' := 21) C dX12_formAt_19 rfl rfl ?_
    refine j_iload_n (q := 2) (pc' := 22) C dX12_formAt_21 rfl rfl rfl ?_
    obtain ⟨zj7, hzj7, rzj7⟩ := ob hr
    have kzj7 : Jd G 0 0 nx zs4.2 30 [(0, .ref this), (1, .int p1), (2, .int p2), (4, .int zs4.1)] [.int zj7, .int zs4.1] := by
      have hr := rzj7
      refine j_ic_ge (tgt := 55) (pc' := 33) C dX12_formAt_30 rfl rfl (fun hc => ?_) (fun hc => ?_)
      · have hr := ifT hc hr
        clear hc
        have hr := ezs4 _ (Option.some.inj hr).symm
        subst hr
        exact j_lv [] rfl kzo5
      · have hr := ifF hc hr
        clear hc
        refine j_aload_n (q := 0) (pc' := 34) C dX12_formAt_33 rfl rfl rfl ?_
        obtain ⟨zx8, hzx8, hr⟩ := ob hr
        refine j_getA (pc' := 37) C dX12_formAt_34 fl_X12_27 hzx8 rfl ?_
        refine j_iload_n (q := 1) (pc' := 38) C dX12_formAt_37 rfl rfl rfl ?_
        refine j_iload (q := 3) (pc' := 40) C dX12_formAt_38 rfl rfl ?_
        refine j_iadd (pc' := 41) C dX12_formAt_40 rfl ?_
        refine j_aload_n (q := 0) (pc' := 42) C dX12_formAt_41 rfl rfl rfl ?_
        obtain ⟨zx9, hzx9, hr⟩ := ob hr
        refine j_getA (pc' := 45) C dX12_formAt_42 fl_X12_41 hzx9 rfl ?_
        refine j_iload (q := 3) (pc' := 47) C dX12_formAt_45 rfl rfl ?_
        obtain ⟨zx10, hzx10, hr⟩ := ob hr
        refine j_lald (pc' := 48) C dX12_formAt_47 hzx10 rfl ?_
        obtain ⟨zc11, hzc11, hr⟩ := ob hr
        refine j_last (pc' := 49) C dX12_formAt_48 hzc11 rfl ?_
        refine j_iinc (q := 3) (v := 1) (lv' := [(4, .int (zs4.1 + (1 : Int32))), (0, .ref this), (1, .int p1), (2, .int p2)]) (pc' := 52) C dX12_formAt_49 rfl kI_1 (by decide) rfl rfl ?_
        refine j_goto (tgt := 19) C dX12_formAt_52 rfl ?_
        have hr := izs4 ((zs4.1 + (1 : Int32)), zc11) (Option.some.inj hr).symm
        exact j_lv [1, 2, 3, 0] rfl hr
    clear rzj7
    have hr := hzj7
    clear hzj7
    refine j_if_eq (tgt := 29) (pc' := 25) C dX12_formAt_22 rfl rfl (fun hc => ?_) (fun hc => ?_)
    · have hr := ifT hc hr
      clear hc
      refine j_iconst (v := 1) (pc' := 30) C dX12_formAt_29 kI_1 rfl ?_
      have hr := Option.some.inj hr
      subst hr
      exact j_lv [0, 1, 2, 3] rfl kzj7
    · have hr := ifF hc hr
      clear hc
      refine j_iconst (v := 4) (pc' := 26) C dX12_formAt_25 kI_4 rfl ?_
      refine j_goto (tgt := 30) C dX12_formAt_26 rfl ?_
      have hr := Option.some.inj hr
      subst hr
      exact j_lv [0, 1, 2, 3] rfl kzj7
  · have hr := ifF hc hr
    clear hc
    refine j_iload_n (q := 0) (pc' := 15) C dX12_formAt_14 rfl rfl rfl ?_
    have hr := Option.some.inj hr
    subst hr
    exact j_iret C hq hret dX12_formAt_15
def m_X12_formsOf (p0 : Int32) : Option (Int32) :=
  some ((29 : Int32) * p0)
set_option maxRecDepth 100000 in
set_option maxHeartbeats 4000000 in
theorem c_X12_formsOf {nx : Nat} {ce : Ce} {p0 : Int32} {q : Int32} (hr : m_X12_formsOf p0 = some q) : Ct yX12_formsOf cX12_formsOf 1 (some .int) 0 0 0 0 [.int p0] nx ce (some (.int q)) ce := by
  unfold m_X12_formsOf at hr
  refine ct_of (by decide) (Nat.le_of_ble_eq_true rfl) ?_
  intro G C hq hret hin
  show Jd G 0 0 nx ce 0 [(0, .int p0)] []
  refine j_bipush (v := 29) (pc' := 2) C dX12_formsOf_0 kB_29 rfl ?_
  refine j_iload_n (q := 0) (pc' := 3) C dX12_formsOf_2 rfl rfl rfl ?_
  refine j_imul (pc' := 4) C dX12_formsOf_3 rfl ?_
  have hr := Option.some.inj hr
  subst hr
  exact j_iret C hq hret dX12_formsOf_4
def m_X12_lettersClause (ce : Ce) (this : Nat) (p1 : Int32) (p2 : Int32) : Option (Int32 × Ce) :=
  if p2 ≤ 0 then
    (rcv ce 9 this).bind fun zz1 =>
    (m_X12_nextToken ce this).bind fun zq2 =>
    (gI zq2.2 9 12 this).bind fun zx3 =>
    if zx3 = (1 : Int32) then
      (gI zq2.2 9 13 this).bind fun zx4 =>
      (m_X12_isIn zx4 (1 : Int32) (6 : Int32)).bind fun zx5 =>
      if zx5 = 0 then
        some ((2 : Int32), zq2.2)
      else
        (gI zq2.2 9 13 this).bind fun zx6 =>
        (pV zq2.2 9 19 this (.int zx6)).bind fun zc7 =>
        (gA zc7 9 4 this).bind fun zx8 =>
        (gI zc7 9 13 this).bind fun zx9 =>
        (sI zc7 zx8 ((2 : Int32) * p1) zx9).bind fun zc10 =>
        (rcv zc10 9 this).bind fun zz11 =>
        (m_X12_nextToken zc10 this).bind fun zq12 =>
        some ((0 : Int32), zq12.2)
    else
      some ((1 : Int32), zq2.2)
  else
    some ((1 : Int32), ce)
set_option maxRecDepth 100000 in
set_option maxHeartbeats 4000000 in
theorem c_X12_lettersClause {nx : Nat} {ce : Ce} {this : Nat} {p1 : Int32} {p2 : Int32} {q : Int32 × Ce} (hr : m_X12_lettersClause ce this p1 p2 = some q) : Ct yX12_lettersClause cX12_lettersClause 3 (some .int) 4 90 0 0 [.ref this, .int p1, .int p2] nx ce (some (.int q.1)) q.2 := by
  unfold m_X12_lettersClause at hr
  refine ct_of (by decide) (Nat.le_of_ble_eq_true rfl) ?_
  intro G C hq hret hin
  show Jd G 0 0 nx ce 0 [(0, .ref this), (1, .int p1), (2, .int p2)] []
  refine j_iload_n (q := 2) (pc' := 1) C dX12_lettersClause_0 rfl rfl rfl ?_
  refine j_if_le (tgt := 6) (pc' := 4) C dX12_lettersClause_1 rfl rfl (fun hc => ?_) (fun hc => ?_)
  · have hr := ifT hc hr
    clear hc
    refine j_aload_n (q := 0) (pc' := 7) C dX12_lettersClause_6 rfl rfl rfl ?_
    obtain ⟨zz1, hzz1, hr⟩ := ob hr
    obtain ⟨zq2, hzq2, hr⟩ := ob hr
    obtain ⟨fhzz1, hzz1⟩ := rcv_sp hzz1
    refine j_callV (ci := 9) (As := []) (rest := []) (st1 := []) (pc' := 10) C ⟨wm_1547, wm_41⟩ rfl hzz1 (c_X12_nextToken (nx := nx) hzq2) yw_X12_nextToken wm_1545 rfl rfl (Nat.le_of_ble_eq_true rfl) ⟨by decide, by decide⟩ dX12_lettersClause_7 rfl rfl ?_
    refine j_aload_n (q := 0) (pc' := 11) C dX12_lettersClause_10 rfl rfl rfl ?_
    obtain ⟨zx3, hzx3, hr⟩ := ob hr
    refine j_getI (pc' := 14) C dX12_lettersClause_11 fl_X12_148 hzx3 rfl ?_
    refine j_iconst (v := 1) (pc' := 15) C dX12_lettersClause_14 kI_1 rfl ?_
    refine j_ic_eq (tgt := 20) (pc' := 18) C dX12_lettersClause_15 rfl rfl (fun hc => ?_) (fun hc => ?_)
    · have hr := ifT hc hr
      clear hc
      refine j_aload_n (q := 0) (pc' := 21) C dX12_lettersClause_20 rfl rfl rfl ?_
      obtain ⟨zx4, hzx4, hr⟩ := ob hr
      refine j_getI (pc' := 24) C dX12_lettersClause_21 fl_X12_138 hzx4 rfl ?_
      refine j_iconst (v := 1) (pc' := 25) C dX12_lettersClause_24 kI_1 rfl ?_
      refine j_bipush (v := 6) (pc' := 27) C dX12_lettersClause_25 kB_6 rfl ?_
      obtain ⟨zx5, hzx5, hr⟩ := ob hr
      refine j_callS (As := [.int zx4, .int (1 : Int32), .int (6 : Int32)]) (rest := []) (st1 := [.int zx5]) (pc' := 30) C wm_1529 (c_X12_isIn (nx := nx) (ce := zq2.2) hzx5) yw_X12_isIn wm_1528 rfl rfl (Nat.le_of_ble_eq_true rfl) ⟨by decide, by decide⟩ dX12_lettersClause_27 rfl rfl ?_
      refine j_if_ne (tgt := 35) (pc' := 33) C dX12_lettersClause_30 rfl rfl (fun hc => ?_) (fun hc => ?_)
      · have hr := ifF hc hr
        clear hc
        refine j_aload_n (q := 0) (pc' := 36) C dX12_lettersClause_35 rfl rfl rfl ?_
        refine j_aload_n (q := 0) (pc' := 37) C dX12_lettersClause_36 rfl rfl rfl ?_
        obtain ⟨zx6, hzx6, hr⟩ := ob hr
        refine j_getI (pc' := 40) C dX12_lettersClause_37 fl_X12_138 hzx6 rfl ?_
        obtain ⟨zc7, hzc7, hr⟩ := ob hr
        refine j_put (pc' := 43) C dX12_lettersClause_40 fw_X12_182 rfl rfl hzc7 rfl ?_
        refine j_aload_n (q := 0) (pc' := 44) C dX12_lettersClause_43 rfl rfl rfl ?_
        obtain ⟨zx8, hzx8, hr⟩ := ob hr
        refine j_getA (pc' := 47) C dX12_lettersClause_44 fl_X12_24 hzx8 rfl ?_
        refine j_iconst (v := 2) (pc' := 48) C dX12_lettersClause_47 kI_2 rfl ?_
        refine j_iload_n (q := 1) (pc' := 49) C dX12_lettersClause_48 rfl rfl rfl ?_
        refine j_imul (pc' := 50) C dX12_lettersClause_49 rfl ?_
        refine j_aload_n (q := 0) (pc' := 51) C dX12_lettersClause_50 rfl rfl rfl ?_
        obtain ⟨zx9, hzx9, hr⟩ := ob hr
        refine j_getI (pc' := 54) C dX12_lettersClause_51 fl_X12_138 hzx9 rfl ?_
        obtain ⟨zc10, hzc10, hr⟩ := ob hr
        refine j_iast (pc' := 55) C dX12_lettersClause_54 hzc10 rfl ?_
        refine j_aload_n (q := 0) (pc' := 56) C dX12_lettersClause_55 rfl rfl rfl ?_
        obtain ⟨zz11, hzz11, hr⟩ := ob hr
        obtain ⟨zq12, hzq12, hr⟩ := ob hr
        obtain ⟨fhzz11, hzz11⟩ := rcv_sp hzz11
        refine j_callV (ci := 9) (As := []) (rest := []) (st1 := []) (pc' := 59) C ⟨wm_1547, wm_41⟩ rfl hzz11 (c_X12_nextToken (nx := nx) hzq12) yw_X12_nextToken wm_1545 rfl rfl (Nat.le_of_ble_eq_true rfl) ⟨by decide, by decide⟩ dX12_lettersClause_56 rfl rfl ?_
        refine j_iconst (v := 0) (pc' := 60) C dX12_lettersClause_59 kI_0 rfl ?_
        have hr := Option.some.inj hr
        subst hr
        exact j_iret C hq hret dX12_lettersClause_60
      · have hr := ifT hc hr
        clear hc
        refine j_iconst (v := 2) (pc' := 34) C dX12_lettersClause_33 kI_2 rfl ?_
        have hr := Option.some.inj hr
        subst hr
        exact j_iret C hq hret dX12_lettersClause_34
    · have hr := ifF hc hr
      clear hc
      refine j_iconst (v := 1) (pc' := 19) C dX12_lettersClause_18 kI_1 rfl ?_
      have hr := Option.some.inj hr
      subst hr
      exact j_iret C hq hret dX12_lettersClause_19
  · have hr := ifF hc hr
    clear hc
    refine j_iconst (v := 1) (pc' := 5) C dX12_lettersClause_4 kI_1 rfl ?_
    have hr := Option.some.inj hr
    subst hr
    exact j_iret C hq hret dX12_lettersClause_5
