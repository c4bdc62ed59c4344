def m_X12_putSet (ce : Ce) (this : Nat) (p1 : Int32) (p2 : Int64) : Option (Unit × Ce) :=
  (gA ce 9 0 this).bind fun x1 =>
  (sI ce x1 (18 + (2 * p1)) (Int64.toInt32 p2)).bind fun c2 =>
  (gA c2 9 0 this).bind fun x3 =>
  (sI c2 x3 ((18 + (2 * p1)) + 1) (Int64.toInt32 (p2 >>> (Int32.toInt64 32 &&& 63)))).bind fun c4 =>
  some ((), c4)
set_option maxRecDepth 100000 in
set_option maxHeartbeats 4000000 in
theorem c_X12_putSet {nx : Nat} {ce : Ce} {this : Nat} {p1 : Int32} {p2 : Int64} {q : Unit × Ce} (hr : m_X12_putSet ce this p1 p2 = some q) : Ct yX12_putSet cX12_putSet 4 none 0 0 0 0 [.ref this, .int p1, .long p2] nx ce none q.2 := by
  unfold m_X12_putSet at hr
  refine ct_of (by decide) (by decide) ?_
  intro G C hq hret hin
  show Jd G 0 0 nx ce 0 [(0, .ref this), (1, .int p1), (2, .long p2)] []
  refine j_aload_n (q := 0) (pc' := 1) C dX12_putSet_0 rfl rfl rfl ?_
  obtain ⟨x1, hx1, hr⟩ := ob hr
  refine j_getA (pc' := 4) C dX12_putSet_1 fl_X12_8 hx1 rfl ?_
  refine j_bipush (v := 18) (pc' := 6) C dX12_putSet_4 kB_18 rfl ?_
  refine j_iconst (v := 2) (pc' := 7) C dX12_putSet_6 kI_2 rfl ?_
  refine j_iload_n (q := 1) (pc' := 8) C dX12_putSet_7 rfl rfl rfl ?_
  refine j_imul (pc' := 9) C dX12_putSet_8 rfl ?_
  refine j_iadd (pc' := 10) C dX12_putSet_9 rfl ?_
  refine j_lload_n (q := 2) (pc' := 11) C dX12_putSet_10 rfl rfl rfl ?_
  refine j_l2i (pc' := 12) C dX12_putSet_11 rfl ?_
  obtain ⟨c2, hc2, hr⟩ := ob hr
  refine j_iast (pc' := 13) C dX12_putSet_12 hc2 rfl ?_
  refine j_aload_n (q := 0) (pc' := 14) C dX12_putSet_13 rfl rfl rfl ?_
  obtain ⟨x3, hx3, hr⟩ := ob hr
  refine j_getA (pc' := 17) C dX12_putSet_14 fl_X12_8 hx3 rfl ?_
  refine j_bipush (v := 18) (pc' := 19) C dX12_putSet_17 kB_18 rfl ?_
  refine j_iconst (v := 2) (pc' := 20) C dX12_putSet_19 kI_2 rfl ?_
  refine j_iload_n (q := 1) (pc' := 21) C dX12_putSet_20 rfl rfl rfl ?_
  refine j_imul (pc' := 22) C dX12_putSet_21 rfl ?_
  refine j_iadd (pc' := 23) C dX12_putSet_22 rfl ?_
  refine j_iconst (v := 1) (pc' := 24) C dX12_putSet_23 kI_1 rfl ?_
  refine j_iadd (pc' := 25) C dX12_putSet_24 rfl ?_
  refine j_lload_n (q := 2) (pc' := 26) C dX12_putSet_25 rfl rfl rfl ?_
  refine j_bipush (v := 32) (pc' := 28) C dX12_putSet_26 kB_32 rfl ?_
  refine j_lshr (pc' := 29) C dX12_putSet_28 rfl ?_
  refine j_l2i (pc' := 30) C dX12_putSet_29 rfl ?_
  obtain ⟨c4, hc4, hr⟩ := ob hr
  refine j_iast (pc' := 31) C dX12_putSet_30 hc4 rfl ?_
  have hr := Option.some.inj hr
  subst hr
  exact j_vret C hq hret dX12_putSet_31
def m_X12_anew (ce : Ce) (this : Nat) : Option (Unit × Ce) :=
  (gA ce 9 0 this).bind fun x1 =>
  (sI ce x1 4 1).bind fun c2 =>
  (gA c2 9 0 this).bind fun x3 =>
  (sI c2 x3 5 0).bind fun c4 =>
  (gA c4 9 0 this).bind fun x5 =>
  (sI c4 x5 6 0).bind fun c6 =>
  (gA c6 9 0 this).bind fun x7 =>
  (sI c6 x7 8 0).bind fun c8 =>
  (gA c8 9 0 this).bind fun x9 =>
  (sI c8 x9 10 0).bind fun c10 =>
  (gA c10 9 0 this).bind fun x11 =>
  (sI c10 x11 11 0).bind fun c12 =>
  (gA c12 9 0 this).bind fun x13 =>
  (sI c12 x13 12 0).bind fun c14 =>
  (gA c14 9 0 this).bind fun x15 =>
  (sI c14 x15 13 0).bind fun c16 =>
  (gA c16 9 0 this).bind fun x17 =>
  (sI c16 x17 14 0).bind fun c18 =>
  (gA c18 9 0 this).bind fun x19 =>
  (sI c18 x19 16 0).bind fun c20 =>
  (gA c20 9 0 this).bind fun x21 =>
  (sI c20 x21 17 0).bind fun c22 =>
  (gA c22 9 0 this).bind fun x23 =>
  (sI c22 x23 9 0).bind fun c24 =>
  (it (fun s25 =>
    if 6 ≤ s25.1 then
      some (Sum.inr ((), s25.2))
    else
      (gA s25.2 9 2 this).bind fun x30 =>
      (sG s25.2 x30 s25.1 FP.fconst0).bind fun c31 =>
      some (Sum.inl ((s25.1 + 1), c31))
  ) FU (0, c24)).bind fun o26 =>
  (gA o26.2 9 2 this).bind fun x28 =>
  (sG o26.2 x28 6 FP.fconst1).bind fun c29 =>
  some ((), c29)
set_option maxRecDepth 100000 in
set_option maxHeartbeats 4000000 in
theorem c_X12_anew {nx : Nat} {ce : Ce} {this : Nat} {q : Unit × Ce} (hr : m_X12_anew ce this = some q) : Ct yX12_anew cX12_anew 2 none 0 0 0 0 [.ref this] nx ce none q.2 := by
  unfold m_X12_anew at hr
  refine ct_of (by decide) (by decide) ?_
  intro G C hq hret hin
  show Jd G 0 0 nx ce 0 [(0, .ref this)] []
  refine j_aload_n (q := 0) (pc' := 1) C dX12_anew_0 rfl rfl rfl ?_
  obtain ⟨x1, hx1, hr⟩ := ob hr
  refine j_getA (pc' := 4) C dX12_anew_1 fl_X12_8 hx1 rfl ?_
  refine j_iconst (v := 4) (pc' := 5) C dX12_anew_4 kI_4 rfl ?_
  refine j_iconst (v := 1) (pc' := 6) C dX12_anew_5 kI_1 rfl ?_
  obtain ⟨c2, hc2, hr⟩ := ob hr
  refine j_iast (pc' := 7) C dX12_anew_6 hc2 rfl ?_
  refine j_aload_n (q := 0) (pc' := 8) C dX12_anew_7 rfl rfl rfl ?_
  obtain ⟨x3, hx3, hr⟩ := ob hr
  refine j_getA (pc' := 11) C dX12_anew_8 fl_X12_8 hx3 rfl ?_
  refine j_iconst (v := 5) (pc' := 12) C dX12_anew_11 kI_5 rfl ?_
  refine j_iconst (v := 0) (pc' := 13) C dX12_anew_12 kI_0 rfl ?_
  obtain ⟨c4, hc4, hr⟩ := ob hr
  refine j_iast (pc' := 14) C dX12_anew_13 hc4 rfl ?_
  refine j_aload_n (q := 0) (pc' := 15) C dX12_anew_14 rfl rfl rfl ?_
  obtain ⟨x5, hx5, hr⟩ := ob hr
  refine j_getA (pc' := 18) C dX12_anew_15 fl_X12_8 hx5 rfl ?_
  refine j_bipush (v := 6) (pc' := 20) C dX12_anew_18 kB_6 rfl ?_
  refine j_iconst (v := 0) (pc' := 21) C dX12_anew_20 kI_0 rfl ?_
  obtain ⟨c6, hc6, hr⟩ := ob hr
  refine j_iast (pc' := 22) C dX12_anew_21 hc6 rfl ?_
  refine j_aload_n (q := 0) (pc' := 23) C dX12_anew_22 rfl rfl rfl ?_
  obtain ⟨x7, hx7, hr⟩ := ob hr
  refine j_getA (pc' := 26) C dX12_anew_23 fl_X12_8 hx7 rfl ?_
  refine j_bipush (v := 8) (pc' := 28) C dX12_anew_26 kB_8 rfl ?_
  refine j_iconst (v := 0) (pc' := 29) C dX12_anew_28 kI_0 rfl ?_
  obtain ⟨c8, hc8, hr⟩ := ob hr
  refine j_iast (pc' := 30) C dX12_anew_29 hc8 rfl ?_
  refine j_aload_n (q := 0) (pc' := 31) C dX12_anew_30 rfl rfl rfl ?_
  obtain ⟨x9, hx9, hr⟩ := ob hr
  refine j_getA (pc' := 34) C dX12_anew_31 fl_X12_8 hx9 rfl ?_
  refine j_bipush (v := 10) (pc' := 36) C dX12_anew_34 kB_10 rfl ?_
  refine j_iconst (v := 0) (pc' := 37) C dX12_anew_36 kI_0 rfl ?_
  obtain ⟨c10, hc10, hr⟩ := ob hr
  refine j_iast (pc' := 38) C dX12_anew_37 hc10 rfl ?_
  refine j_aload_n (q := 0) (pc' := 39) C dX12_anew_38 rfl rfl rfl ?_
  obtain ⟨x11, hx11, hr⟩ := ob hr
  refine j_getA (pc' := 42) C dX12_anew_39 fl_X12_8 hx11 rfl ?_
  refine j_bipush (v := 11) (pc' := 44) C dX12_anew_42 kB_11 rfl ?_
  refine j_iconst (v := 0) (pc' := 45) C dX12_anew_44 kI_0 rfl ?_
  obtain ⟨c12, hc12, hr⟩ := ob hr
  refine j_iast (pc' := 46) C dX12_anew_45 hc12 rfl ?_
  refine j_aload_n (q := 0) (pc' := 47) C dX12_anew_46 rfl rfl rfl ?_
  obtain ⟨x13, hx13, hr⟩ := ob hr
  refine j_getA (pc' := 50) C dX12_anew_47 fl_X12_8 hx13 rfl ?_
  refine j_bipush (v := 12) (pc' := 52) C dX12_anew_50 kB_12 rfl ?_
  refine j_iconst (v := 0) (pc' := 53) C dX12_anew_52 kI_0 rfl ?_
  obtain ⟨c14, hc14, hr⟩ := ob hr
  refine j_iast (pc' := 54) C dX12_anew_53 hc14 rfl ?_
  refine j_aload_n (q := 0) (pc' := 55) C dX12_anew_54 rfl rfl rfl ?_
  obtain ⟨x15, hx15, hr⟩ := ob hr
  refine j_getA (pc' := 58) C dX12_anew_55 fl_X12_8 hx15 rfl ?_
  refine j_bipush (v := 13) (pc' := 60) C dX12_anew_58 kB_13 rfl ?_
  refine j_iconst (v := 0) (pc' := 61) C dX12_anew_60 kI_0 rfl ?_
  obtain ⟨c16, hc16, hr⟩ := ob hr
  refine j_iast (pc' := 62) C dX12_anew_61 hc16 rfl ?_
  refine j_aload_n (q := 0) (pc' := 63) C dX12_anew_62 rfl rfl rfl ?_
  obtain ⟨x17, hx17, hr⟩ := ob hr
  refine j_getA (pc' := 66) C dX12_anew_63 fl_X12_8 hx17 rfl ?_
  refine j_bipush (v := 14) (pc' := 68) C dX12_anew_66 kB_14 rfl ?_
  refine j_iconst (v := 0) (pc' := 69) C dX12_anew_68 kI_0 rfl ?_
  obtain ⟨c18, hc18, hr⟩ := ob hr
  refine j_iast (pc' := 70) C dX12_anew_69 hc18 rfl ?_
  refine j_aload_n (q := 0) (pc' := 71) C dX12_anew_70 rfl rfl rfl ?_
  obtain ⟨x19, hx19, hr⟩ := ob hr
  refine j_getA (pc' := 74) C dX12_anew_71 fl_X12_8 hx19 rfl ?_
  refine j_bipush (v := 16) (pc' := 76) C dX12_anew_74 kB_16 rfl ?_
  refine j_iconst (v := 0) (pc' := 77) C dX12_anew_76 kI_0 rfl ?_
  obtain ⟨c20, hc20, hr⟩ := ob hr
  refine j_iast (pc' := 78) C dX12_anew_77 hc20 rfl ?_
  refine j_aload_n (q := 0) (pc' := 79) C dX12_anew_78 rfl rfl rfl ?_
  obtain ⟨x21, hx21, hr⟩ := ob hr
  refine j_getA (pc' := 82) C dX12_anew_79 fl_X12_8 hx21 rfl ?_
  refine j_bipush (v := 17) (pc' := 84) C dX12_anew_82 kB_17 rfl ?_
  refine j_iconst (v := 0) (pc' := 85) C dX12_anew_84 kI_0 rfl ?_
  obtain ⟨c22, hc22, hr⟩ := ob hr
  refine j_iast (pc' := 86) C dX12_anew_85 hc22 rfl ?_
  refine j_aload_n (q := 0) (pc' := 87) C dX12_anew_86 rfl rfl rfl ?_
  obtain ⟨x23, hx23, hr⟩ := ob hr
  refine j_getA (pc' := 90) C dX12_anew_87 fl_X12_8 hx23 rfl ?_
  refine j_bipush (v := 9) (pc' := 92) C dX12_anew_90 kB_9 rfl ?_
  refine j_iconst (v := 0) (pc' := 93) C dX12_anew_92 kI_0 rfl ?_
  obtain ⟨c24, hc24, hr⟩ := ob hr
  refine j_iast (pc' := 94) C dX12_anew_93 hc24 rfl ?_
  refine j_iconst (v := 0) (pc' := 95) C dX12_anew_94 kI_0 rfl ?_
  refine j_istore_n (lv' := [(1, .int 0), (0, .ref this)]) (pc' := 96) C dX12_anew_95 rfl (by decide) rfl rfl ?_
  obtain ⟨o26, ho26, ro26⟩ := ob hr
  have ko26 : Jd G 0 0 nx o26.2 115 [(0, .ref this)] [] := by
    have hr := ro26
    refine j_aload_n (q := 0) (pc' := 116) C dX12_anew_115 rfl rfl rfl ?_
    obtain ⟨x28, hx28, hr⟩ := ob hr
    refine j_getA (pc' := 119) C dX12_anew_116 fl_X12_17 hx28 rfl ?_
    refine j_bipush (v := 6) (pc' := 121) C dX12_anew_119 kB_6 rfl ?_
    refine j_fconst1 (pc' := 122) C dX12_anew_121 rfl ?_
    obtain ⟨c29, hc29, hr⟩ := ob hr
    refine j_fast (pc' := 123) C dX12_anew_122 hc29 rfl ?_
    have hr := Option.some.inj hr
    subst hr
    exact j_vret C hq hret dX12_anew_123
  refine j_lv [1, 0] rfl (it_J (J := (fun s25 => Jd G 0 0 nx s25.2 96 [(0, .ref this), (1, .int s25.1)] [])) ?_ ho26)
  clear ho26
  intro s25 r27 hr is25 es25
  refine j_iload_n (q := 1) (pc' := 97) C dX12_anew_96 rfl rfl rfl ?_
  refine j_bipush (v := 6) (pc' := 99) C dX12_anew_97 kB_6 rfl ?_
  refine j_ic_ge (tgt := 115) (pc' := 102) C dX12_anew_99 rfl rfl (fun hc => ?_) (fun hc => ?_)
  · have hr := ifT hc hr
    clear hc
    have hr := es25 _ (Option.some.inj hr).symm
    subst hr
    exact j_lv [0] rfl ko26
  · have hr := ifF hc hr
    clear hc
    refine j_aload_n (q := 0) (pc' := 103) C dX12_anew_102 rfl rfl rfl ?_
    obtain ⟨x30, hx30, hr⟩ := ob hr
    refine j_getA (pc' := 106) C dX12_anew_103 fl_X12_17 hx30 rfl ?_
    refine j_iload_n (q := 1) (pc' := 107) C dX12_anew_106 rfl rfl rfl ?_
    refine j_fconst0 (pc' := 108) C dX12_anew_107 rfl ?_
    obtain ⟨c31, hc31, hr⟩ := ob hr
    refine j_fast (pc' := 109) C dX12_anew_108 hc31 rfl ?_
    refine j_iinc (q := 1) (v := 1) (lv' := [(1, .int (s25.1 + 1)), (0, .ref this)]) (pc' := 112) C dX12_anew_109 rfl kI_1 (by decide) rfl rfl ?_
    refine j_goto (tgt := 96) C dX12_anew_112 rfl ?_
    exact j_lv [1, 0] rfl (is25 _ (Option.some.inj hr).symm)
def m_X12_copy (ce : Ce) (p0 : Nat) (p1 : Nat) : Option (Unit × Ce) :=
  (it (fun s1 =>
    if 113844 ≤ s1.1 then
      some (Sum.inr ((), s1.2))
    else
      (aI s1.2 p0 s1.1).bind fun x4 =>
      (sI s1.2 p1 s1.1 x4).bind fun c5 =>
      some (Sum.inl ((s1.1 + 1), c5))
  ) FU (0, ce)).bind fun o2 =>
  some ((), o2.2)
set_option maxRecDepth 100000 in
set_option maxHeartbeats 4000000 in
theorem c_X12_copy {nx : Nat} {ce : Ce} {p0 : Nat} {p1 : Nat} {q : Unit × Ce} (hr : m_X12_copy ce p0 p1 = some q) : Ct yX12_copy cX12_copy 3 none 0 0 0 0 [.ref p0, .ref p1] nx ce none q.2 := by
  unfold m_X12_copy at hr
  refine ct_of (by decide) (by decide) ?_
  intro G C hq hret hin
  show Jd G 0 0 nx ce 0 [(0, .ref p0), (1, .ref p1)] []
  refine j_iconst (v := 0) (pc' := 1) C dX12_copy_0 kI_0 rfl ?_
  refine j_istore_n (lv' := [(2, .int 0), (0, .ref p0), (1, .ref p1)]) (pc' := 2) C dX12_copy_1 rfl (by decide) rfl rfl ?_
  obtain ⟨o2, ho2, ro2⟩ := ob hr
  have ko2 : Jd G 0 0 nx o2.2 20 [] [] := by
    have hr := ro2
    have hr := Option.some.inj hr
    subst hr
    exact j_vret C hq hret dX12_copy_20
  refine j_lv [1, 2, 0] rfl (it_J (J := (fun s1 => Jd G 0 0 nx s1.2 2 [(0, .ref p0), (1, .ref p1), (2, .int s1.1)] [])) ?_ ho2)
  clear ho2
  intro s1 r3 hr is1 es1
  refine j_iload_n (q := 2) (pc' := 3) C dX12_copy_2 rfl rfl rfl ?_
  refine j_ldc (pc' := 5) C dX12_copy_3 wm_1391 rfl ?_
  refine j_ic_ge (tgt := 20) (pc' := 8) C dX12_copy_5 rfl rfl (fun hc => ?_) (fun hc => ?_)
  · have hr := ifT hc hr
    clear hc
    have hr := es1 _ (Option.some.inj hr).symm
    subst hr
    exact j_lv [] rfl ko2
  · have hr := ifF hc hr
    clear hc
    refine j_aload_n (q := 1) (pc' := 9) C dX12_copy_8 rfl rfl rfl ?_
    refine j_iload_n (q := 2) (pc' := 10) C dX12_copy_9 rfl rfl rfl ?_
    refine j_aload_n (q := 0) (pc' := 11) C dX12_copy_10 rfl rfl rfl ?_
    refine j_iload_n (q := 2) (pc' := 12) C dX12_copy_11 rfl rfl rfl ?_
    obtain ⟨x4, hx4, hr⟩ := ob hr
    refine j_iald (pc' := 13) C dX12_copy_12 hx4 rfl ?_
    obtain ⟨c5, hc5, hr⟩ := ob hr
    refine j_iast (pc' := 14) C dX12_copy_13 hc5 rfl ?_
    refine j_iinc (q := 2) (v := 1) (lv' := [(2, .int (s1.1 + 1)), (0, .ref p0), (1, .ref p1)]) (pc' := 17) C dX12_copy_14 rfl kI_1 (by decide) rfl rfl ?_
    refine j_goto (tgt := 2) C dX12_copy_17 rfl ?_
    exact j_lv [1, 2, 0] rfl (is1 _ (Option.some.inj hr).symm)
def m_X12_copyFloats (ce : Ce) (p0 : Nat) (p1 : Nat) : Option (Unit × Ce) :=
  (it (fun s1 =>
    if 147 ≤ s1.1 then
      some (Sum.inr ((), s1.2))
    else
      (aG s1.2 p0 s1.1).bind fun x4 =>
      (sG s1.2 p1 s1.1 x4).bind fun c5 =>
      some (Sum.inl ((s1.1 + 1), c5))
  ) FU (0, ce)).bind fun o2 =>
  some ((), o2.2)
set_option maxRecDepth 100000 in
set_option maxHeartbeats 4000000 in
theorem c_X12_copyFloats {nx : Nat} {ce : Ce} {p0 : Nat} {p1 : Nat} {q : Unit × Ce} (hr : m_X12_copyFloats ce p0 p1 = some q) : Ct yX12_copyFloats cX12_copyFloats 3 none 0 0 0 0 [.ref p0, .ref p1] nx ce none q.2 := by
  unfold m_X12_copyFloats at hr
  refine ct_of (by decide) (by decide) ?_
  intro G C hq hret hin
  show Jd G 0 0 nx ce 0 [(0, .ref p0), (1, .ref p1)] []
  refine j_iconst (v := 0) (pc' := 1) C dX12_copyFloats_0 kI_0 rfl ?_
  refine j_istore_n (lv' := [(2, .int 0), (0, .ref p0), (1, .ref p1)]) (pc' := 2) C dX12_copyFloats_1 rfl (by decide) rfl rfl ?_
  obtain ⟨o2, ho2, ro2⟩ := ob hr
  have ko2 : Jd G 0 0 nx o2.2 21 [] [] := by
    have hr := ro2
    have hr := Option.some.inj hr
    subst hr
    exact j_vret C hq hret dX12_copyFloats_21
  refine j_lv [1, 2, 0] rfl (it_J (J := (fun s1 => Jd G 0 0 nx s1.2 2 [(0, .ref p0), (1, .ref p1), (2, .int s1.1)] [])) ?_ ho2)
  clear ho2
  intro s1 r3 hr is1 es1
  refine j_iload_n (q := 2) (pc' := 3) C dX12_copyFloats_2 rfl rfl rfl ?_
  refine j_sipush (v := 147) (pc' := 6) C dX12_copyFloats_3 kS_147 rfl ?_
  refine j_ic_ge (tgt := 21) (pc' := 9) C dX12_copyFloats_6 rfl rfl (fun hc => ?_) (fun hc => ?_)
  · have hr := ifT hc hr
    clear hc
    have hr := es1 _ (Option.some.inj hr).symm
    subst hr
    exact j_lv [] rfl ko2
  · have hr := ifF hc hr
    clear hc
    refine j_aload_n (q := 1) (pc' := 10) C dX12_copyFloats_9 rfl rfl rfl ?_
    refine j_iload_n (q := 2) (pc' := 11) C dX12_copyFloats_10 rfl rfl rfl ?_
    refine j_aload_n (q := 0) (pc' := 12) C dX12_copyFloats_11 rfl rfl rfl ?_
    refine j_iload_n (q := 2) (pc' := 13) C dX12_copyFloats_12 rfl rfl rfl ?_
    obtain ⟨x4, hx4, hr⟩ := ob hr
    refine j_fald (pc' := 14) C dX12_copyFloats_13 hx4 rfl ?_
    obtain ⟨c5, hc5, hr⟩ := ob hr
    refine j_fast (pc' := 15) C dX12_copyFloats_14 hc5 rfl ?_
    refine j_iinc (q := 2) (v := 1) (lv' := [(2, .int (s1.1 + 1)), (0, .ref p0), (1, .ref p1)]) (pc' := 18) C dX12_copyFloats_15 rfl kI_1 (by decide) rfl rfl ?_
    refine j_goto (tgt := 2) C dX12_copyFloats_18 rfl ?_
    exact j_lv [1, 2, 0] rfl (is1 _ (Option.some.inj hr).symm)
def m_X12_isIn (p0 : Int32) (p1 : Int32) (p2 : Int32) : Option (Int32) :=
  if p0 < p1 then
    some 0
  else
    if p2 < p0 then
      some 0
    else
      some 1
set_option maxRecDepth 100000 in
set_option maxHeartbeats 4000000 in
theorem c_X12_isIn {nx : Nat} {ce : Ce} {p0 : Int32} {p1 : Int32} {p2 : Int32} {q : Int32} (hr : m_X12_isIn p0 p1 p2 = some q) : Ct yX12_isIn cX12_isIn 3 (some .boolean) 0 0 0 0 [.int p0, .int p1, .int p2] nx ce (some (.int q)) ce := by
  unfold m_X12_isIn at hr
  refine ct_of (by decide) (by decide) ?_
  intro G C hq hret hin
  show Jd G 0 0 nx ce 0 [(0, .int p0), (1, .int p1), (2, .int p2)] []
  refine j_iload_n (q := 0) (pc' := 1) C dX12_isIn_0 rfl rfl rfl ?_
  refine j_iload_n (q := 1) (pc' := 2) C dX12_isIn_1 rfl rfl rfl ?_
  refine j_ic_lt (tgt := 14) (pc' := 5) C dX12_isIn_2 rfl rfl (fun hc => ?_) (fun hc => ?_)
  · have hr := ifT hc hr
    clear hc
    refine j_iconst (v := 0) (pc' := 15) C dX12_isIn_14 kI_0 rfl ?_
    have hr := Option.some.inj hr
    subst hr
    exact j_zret C hq hret rfl dX12_isIn_15
  · have hr := ifF hc hr
    clear hc
    refine j_iload_n (q := 0) (pc' := 6) C dX12_isIn_5 rfl rfl rfl ?_
    refine j_iload_n (q := 2) (pc' := 7) C dX12_isIn_6 rfl rfl rfl ?_
    refine j_ic_gt (tgt := 14) (pc' := 10) C dX12_isIn_7 rfl rfl (fun hc => ?_) (fun hc => ?_)
    · have hr := ifT hc hr
      clear hc
      refine j_iconst (v := 0) (pc' := 15) C dX12_isIn_14 kI_0 rfl ?_
      have hr := Option.some.inj hr
      subst hr
      exact j_zret C hq hret rfl dX12_isIn_15
    · have hr := ifF hc hr
      clear hc
      refine j_iconst (v := 1) (pc' := 11) C dX12_isIn_10 kI_1 rfl ?_
      refine j_goto (tgt := 15) C dX12_isIn_11 rfl ?_
      have hr := Option.some.inj hr
      subst hr
      exact j_zret C hq hret rfl dX12_isIn_15
def m_X12_has (p0 : Int64) (p1 : Int32) : Option (Int32) :=
  if (lg_cmp ((p0 >>> (Int32.toInt64 p1 &&& 63)) &&& 1) 1) = 0 then
    some 1
  else
    some 0
set_option maxRecDepth 100000 in
set_option maxHeartbeats 4000000 in
theorem c_X12_has {nx : Nat} {ce : Ce} {p0 : Int64} {p1 : Int32} {q : Int32} (hr : m_X12_has p0 p1 = some q) : Ct yX12_has cX12_has 3 (some .boolean) 0 0 0 0 [.long p0, .int p1] nx ce (some (.int q)) ce := by
  unfold m_X12_has at hr
  refine ct_of (by decide) (by decide) ?_
  intro G C hq hret hin
  show Jd G 0 0 nx ce 0 [(0, .long p0), (2, .int p1)] []
  refine j_lload_n (q := 0) (pc' := 1) C dX12_has_0 rfl rfl rfl ?_
  refine j_iload_n (q := 1) (pc' := 2) C dX12_has_1 rfl rfl rfl ?_
  refine j_lshr (pc' := 3) C dX12_has_2 rfl ?_
  refine j_lconst (v := 1) (pc' := 4) C dX12_has_3 kL_1 rfl ?_
  refine j_land (pc' := 5) C dX12_has_4 rfl ?_
  refine j_lconst (v := 1) (pc' := 6) C dX12_has_5 kL_1 rfl ?_
  refine j_lcmp (pc' := 7) C dX12_has_6 rfl ?_
  refine j_if_ne (tgt := 14) (pc' := 10) C dX12_has_7 rfl rfl (fun hc => ?_) (fun hc => ?_)
  · have hr := ifF hc hr
    clear hc
    refine j_iconst (v := 0) (pc' := 15) C dX12_has_14 kI_0 rfl ?_
    have hr := Option.some.inj hr
    subst hr
    exact j_zret C hq hret rfl dX12_has_15
  · have hr := ifT hc hr
    clear hc
    refine j_iconst (v := 1) (pc' := 11) C dX12_has_10 kI_1 rfl ?_
    refine j_goto (tgt := 15) C dX12_has_11 rfl ?_
    have hr := Option.some.inj hr
    subst hr
    exact j_zret C hq hret rfl dX12_has_15
def m_X12_many (p0 : Int64) : Option (Int32) :=
  (it (fun s1 =>
    if (lg_cmp s1.2 0) = 0 then
      some (Sum.inr s1.1)
    else
      some (Sum.inl ((s1.1 + 1), (s1.2 &&& (s1.2 - 1))))
  ) FU (0, p0)).bind fun o2 =>
  some o2
set_option maxRecDepth 100000 in
set_option maxHeartbeats 4000000 in
theorem c_X12_many {nx : Nat} {ce : Ce} {p0 : Int64} {q : Int32} (hr : m_X12_many p0 = some q) : Ct yX12_many cX12_many 5 (some .int) 0 0 0 0 [.long p0] nx ce (some (.int q)) ce := by
  unfold m_X12_many at hr
  refine ct_of (by decide) (by decide) ?_
  intro G C hq hret hin
  show Jd G 0 0 nx ce 0 [(0, .long p0)] []
  refine j_iconst (v := 0) (pc' := 1) C dX12_many_0 kI_0 rfl ?_
  refine j_istore_n (lv' := [(2, .int 0), (0, .long p0)]) (pc' := 2) C dX12_many_1 rfl (by decide) rfl rfl ?_
  refine j_lload_n (q := 1) (pc' := 3) C dX12_many_2 rfl rfl rfl ?_
  refine j_lstore_n (lv' := [(3, .long p0), (2, .int 0), (0, .long p0)]) (pc' := 4) C dX12_many_3 rfl (by decide) rfl rfl ?_
  obtain ⟨o2, ho2, ro2⟩ := ob hr
  have ko2 : Jd G 0 0 nx ce 22 [(2, .int o2)] [] := by
    have hr := ro2
    refine j_iload_n (q := 0) (pc' := 23) C dX12_many_22 rfl rfl rfl ?_
    have hr := Option.some.inj hr
    subst hr
    exact j_iret C hq hret dX12_many_23
  refine j_lv [1, 0] rfl (it_J (J := (fun s1 => Jd G 0 0 nx ce 4 [(2, .int s1.1), (3, .long s1.2)] [])) ?_ ho2)
  clear ho2
  intro s1 r3 hr is1 es1
  refine j_lload_n (q := 1) (pc' := 5) C dX12_many_4 rfl rfl rfl ?_
  refine j_lconst (v := 0) (pc' := 6) C dX12_many_5 kL_0 rfl ?_
  refine j_lcmp (pc' := 7) C dX12_many_6 rfl ?_
  refine j_if_eq (tgt := 22) (pc' := 10) C dX12_many_7 rfl rfl (fun hc => ?_) (fun hc => ?_)
  · have hr := ifT hc hr
    clear hc
    have hr := es1 _ (Option.some.inj hr).symm
    subst hr
    exact j_lv [0] rfl ko2
  · have hr := ifF hc hr
    clear hc
    refine j_iinc (q := 0) (v := 1) (lv' := [(2, .int (s1.1 + 1)), (3, .long s1.2)]) (pc' := 13) C dX12_many_10 rfl kI_1 (by decide) rfl rfl ?_
    refine j_lload_n (q := 1) (pc' := 14) C dX12_many_13 rfl rfl rfl ?_
    refine j_lload_n (q := 1) (pc' := 15) C dX12_many_14 rfl rfl rfl ?_
    refine j_lconst (v := 1) (pc' := 16) C dX12_many_15 kL_1 rfl ?_
    refine j_lsub (pc' := 17) C dX12_many_16 rfl ?_
    refine j_land (pc' := 18) C dX12_many_17 rfl ?_
    refine j_lstore_n (lv' := [(3, .long (s1.2 &&& (s1.2 - 1))), (2, .int (s1.1 + 1))]) (pc' := 19) C dX12_many_18 rfl (by decide) rfl rfl ?_
    refine j_goto (tgt := 4) C dX12_many_19 rfl ?_
    exact j_lv [1, 0] rfl (is1 _ (Option.some.inj hr).symm)
def m_X12_lowest (p0 : Int64) : Option (Int32) :=
  (it (fun s1 =>
    if 64 ≤ s1 then
      some (Sum.inr (Sum.inr ()))
    else
      (m_X12_has p0 s1).bind fun x4 =>
      if x4 = 0 then
        some (Sum.inl (s1 + 1))
      else
        some (Sum.inr (Sum.inl s1))
  ) FU 0).bind fun o2 =>
  Sum.elim (fun wo2 => some wo2) (fun vo2 =>
    some (-1)
  ) o2
set_option maxRecDepth 100000 in
set_option maxHeartbeats 4000000 in
theorem c_X12_lowest {nx : Nat} {ce : Ce} {p0 : Int64} {q : Int32} (hr : m_X12_lowest p0 = some q) : Ct yX12_lowest cX12_lowest 3 (some .int) 1 22 0 0 [.long p0] nx ce (some (.int q)) ce := by
  unfold m_X12_lowest at hr
  refine ct_of (by decide) (by decide) ?_
  intro G C hq hret hin
  show Jd G 0 0 nx ce 0 [(0, .long p0)] []
  refine j_iconst (v := 0) (pc' := 1) C dX12_lowest_0 kI_0 rfl ?_
  refine j_istore_n (lv' := [(2, .int 0), (0, .long p0)]) (pc' := 2) C dX12_lowest_1 rfl (by decide) rfl rfl ?_
  obtain ⟨o2, ho2, ro2⟩ := ob hr
  have ko2 : ∀ vo2, o2 = Sum.inr vo2 → Jd G 0 0 nx ce 24 [] [] := by
    intro vo2 eo2
    rw [eo2] at ro2
    have hr := elR ro2
    refine j_iconst (v := -1) (pc' := 25) C dX12_lowest_24 kI_m1 rfl ?_
    have hr := Option.some.inj hr
    subst hr
    exact j_iret C hq hret dX12_lowest_25
  refine j_lv [1, 0] rfl (it_J (J := (fun s1 => Jd G 0 0 nx ce 2 [(0, .long p0), (2, .int s1)] [])) ?_ ho2)
  clear ho2
  intro s1 r3 hr is1 es1
  refine j_iload_n (q := 1) (pc' := 3) C dX12_lowest_2 rfl rfl rfl ?_
  refine j_bipush (v := 64) (pc' := 5) C dX12_lowest_3 kB_64 rfl ?_
  refine j_ic_ge (tgt := 24) (pc' := 8) C dX12_lowest_5 rfl rfl (fun hc => ?_) (fun hc => ?_)
  · have hr := ifT hc hr
    clear hc
    have hr := es1 _ (Option.some.inj hr).symm
    subst hr
    exact j_lv [] rfl (ko2 _ rfl)
  · have hr := ifF hc hr
    clear hc
    refine j_lload_n (q := 0) (pc' := 9) C dX12_lowest_8 rfl rfl rfl ?_
    refine j_iload_n (q := 1) (pc' := 10) C dX12_lowest_9 rfl rfl rfl ?_
    obtain ⟨x4, hx4, hr⟩ := ob hr
    refine j_callS (As := [.long p0, .int s1]) (rest := []) (st1 := [.int x4]) (pc' := 13) C wm_1635 (c_X12_has (nx := nx) (ce := ce) hx4) yw_X12_has wm_1634 rfl rfl (by decide) ⟨by decide, by decide⟩ dX12_lowest_10 rfl rfl ?_
    refine j_if_eq (tgt := 18) (pc' := 16) C dX12_lowest_13 rfl rfl (fun hc => ?_) (fun hc => ?_)
    · have hr := ifT hc hr
      clear hc
      refine j_iinc (q := 1) (v := 1) (lv' := [(2, .int (s1 + 1)), (0, .long p0)]) (pc' := 21) C dX12_lowest_18 rfl kI_1 (by decide) rfl rfl ?_
      refine j_goto (tgt := 2) C dX12_lowest_21 rfl ?_
      exact j_lv [1, 0] rfl (is1 _ (Option.some.inj hr).symm)
    · have hr := ifF hc hr
      clear hc
      refine j_iload_n (q := 1) (pc' := 17) C dX12_lowest_16 rfl rfl rfl ?_
      have hr := es1 _ (Option.some.inj hr).symm
      subst hr
      have hr := elL ro2
      have hr := Option.some.inj hr
      subst hr
      exact j_iret C hq hret dX12_lowest_17
def m_X12_setOf (ce : Ce) (this : Nat) (p1 : Int32) : Option (Int64) :=
  (gA ce 9 0 this).bind fun x1 =>
  (aI ce x1 ((18 + (2 * p1)) + 1)).bind fun x2 =>
  (gA ce 9 0 this).bind fun x3 =>
  (aI ce x3 (18 + (2 * p1))).bind fun x4 =>
  some (((Int32.toInt64 x2) <<< (Int32.toInt64 32 &&& 63)) ||| ((Int32.toInt64 x4) &&& 4294967295))
set_option maxRecDepth 100000 in
set_option maxHeartbeats 4000000 in
theorem c_X12_setOf {nx : Nat} {ce : Ce} {this : Nat} {p1 : Int32} {q : Int64} (hr : m_X12_setOf ce this p1 = some q) : Ct yX12_setOf cX12_setOf 2 (some .long) 0 0 0 0 [.ref this, .int p1] nx ce (some (.long q)) ce := by
  unfold m_X12_setOf at hr
  refine ct_of (by decide) (by decide) ?_
  intro G C hq hret hin
  show Jd G 0 0 nx ce 0 [(0, .ref this), (1, .int p1)] []
  refine j_aload_n (q := 0) (pc' := 1) C dX12_setOf_0 rfl rfl rfl ?_
  obtain ⟨x1, hx1, hr⟩ := ob hr
  refine j_getA (pc' := 4) C dX12_setOf_1 fl_X12_8 hx1 rfl ?_
  refine j_bipush (v := 18) (pc' := 6) C dX12_setOf_4 kB_18 rfl ?_
  refine j_iconst (v := 2) (pc' := 7) C dX12_setOf_6 kI_2 rfl ?_
  refine j_iload_n (q := 1) (pc' := 8) C dX12_setOf_7 rfl rfl rfl ?_
  refine j_imul (pc' := 9) C dX12_setOf_8 rfl ?_
  refine j_iadd (pc' := 10) C dX12_setOf_9 rfl ?_
  refine j_iconst (v := 1) (pc' := 11) C dX12_setOf_10 kI_1 rfl ?_
  refine j_iadd (pc' := 12) C dX12_setOf_11 rfl ?_
  obtain ⟨x2, hx2, hr⟩ := ob hr
  refine j_iald (pc' := 13) C dX12_setOf_12 hx2 rfl ?_
  refine j_i2l (pc' := 14) C dX12_setOf_13 rfl ?_
  refine j_bipush (v := 32) (pc' := 16) C dX12_setOf_14 kB_32 rfl ?_
  refine j_lshl (pc' := 17) C dX12_setOf_16 rfl ?_
  refine j_aload_n (q := 0) (pc' := 18) C dX12_setOf_17 rfl rfl rfl ?_
  obtain ⟨x3, hx3, hr⟩ := ob hr
  refine j_getA (pc' := 21) C dX12_setOf_18 fl_X12_8 hx3 rfl ?_
  refine j_bipush (v := 18) (pc' := 23) C dX12_setOf_21 kB_18 rfl ?_
  refine j_iconst (v := 2) (pc' := 24) C dX12_setOf_23 kI_2 rfl ?_
  refine j_iload_n (q := 1) (pc' := 25) C dX12_setOf_24 rfl rfl rfl ?_
  refine j_imul (pc' := 26) C dX12_setOf_25 rfl ?_
  refine j_iadd (pc' := 27) C dX12_setOf_26 rfl ?_
  obtain ⟨x4, hx4, hr⟩ := ob hr
  refine j_iald (pc' := 28) C dX12_setOf_27 hx4 rfl ?_
  refine j_i2l (pc' := 29) C dX12_setOf_28 rfl ?_
  refine j_ldc2 (pc' := 32) C dX12_setOf_29 wm_1693 rfl ?_
  refine j_land (pc' := 33) C dX12_setOf_32 rfl ?_
  refine j_lor (pc' := 34) C dX12_setOf_33 rfl ?_
  have hr := Option.some.inj hr
  subst hr
  exact j_lret C hq hret dX12_setOf_34
def m_X12_states (ce : Ce) (this : Nat) : Option (Int32) :=
  (gA ce 9 0 this).bind fun x1 =>
  (aI ce x1 3).bind fun x2 =>
  some (1 <<< (x2 &&& 31))
set_option maxRecDepth 100000 in
set_option maxHeartbeats 4000000 in
theorem c_X12_states {nx : Nat} {ce : Ce} {this : Nat} {q : Int32} (hr : m_X12_states ce this = some q) : Ct yX12_states cX12_states 1 (some .int) 0 0 0 0 [.ref this] nx ce (some (.int q)) ce := by
  unfold m_X12_states at hr
  refine ct_of (by decide) (by decide) ?_
  intro G C hq hret hin
  show Jd G 0 0 nx ce 0 [(0, .ref this)] []
  refine j_iconst (v := 1) (pc' := 1) C dX12_states_0 kI_1 rfl ?_
  refine j_aload_n (q := 0) (pc' := 2) C dX12_states_1 rfl rfl rfl ?_
  obtain ⟨x1, hx1, hr⟩ := ob hr
  refine j_getA (pc' := 5) C dX12_states_2 fl_X12_8 hx1 rfl ?_
  refine j_iconst (v := 3) (pc' := 6) C dX12_states_5 kI_3 rfl ?_
  obtain ⟨x2, hx2, hr⟩ := ob hr
  refine j_iald (pc' := 7) C dX12_states_6 hx2 rfl ?_
  refine j_ishl (pc' := 8) C dX12_states_7 rfl ?_
  have hr := Option.some.inj hr
  subst hr
  exact j_iret C hq hret dX12_states_8
def m_X12_allOf (p0 : Int32) : Option (Int64) :=
  if p0 = 6 then
    some (-1)
  else
    some ((1 <<< (Int32.toInt64 (1 <<< (p0 &&& 31)) &&& 63)) - 1)
set_option maxRecDepth 100000 in
set_option maxHeartbeats 4000000 in
theorem c_X12_allOf {nx : Nat} {ce : Ce} {p0 : Int32} {q : Int64} (hr : m_X12_allOf p0 = some q) : Ct yX12_allOf cX12_allOf 1 (some .long) 0 0 0 0 [.int p0] nx ce (some (.long q)) ce := by
  unfold m_X12_allOf at hr
  refine ct_of (by decide) (by decide) ?_
  intro G C hq hret hin
  show Jd G 0 0 nx ce 0 [(0, .int p0)] []
  refine j_iload_n (q := 0) (pc' := 1) C dX12_allOf_0 rfl rfl rfl ?_
  refine j_bipush (v := 6) (pc' := 3) C dX12_allOf_1 kB_6 rfl ?_
  refine j_ic_ne (tgt := 12) (pc' := 6) C dX12_allOf_3 rfl rfl (fun hc => ?_) (fun hc => ?_)
  · have hr := ifF hc hr
    clear hc
    refine j_lconst (v := 1) (pc' := 13) C dX12_allOf_12 kL_1 rfl ?_
    refine j_iconst (v := 1) (pc' := 14) C dX12_allOf_13 kI_1 rfl ?_
    refine j_iload_n (q := 0) (pc' := 15) C dX12_allOf_14 rfl rfl rfl ?_
    refine j_ishl (pc' := 16) C dX12_allOf_15 rfl ?_
    refine j_lshl (pc' := 17) C dX12_allOf_16 rfl ?_
    refine j_lconst (v := 1) (pc' := 18) C dX12_allOf_17 kL_1 rfl ?_
    refine j_lsub (pc' := 19) C dX12_allOf_18 rfl ?_
    have hr := Option.some.inj hr
    subst hr
    exact j_lret C hq hret dX12_allOf_19
  · have hr := ifT hc hr
    clear hc
    refine j_ldc2 (pc' := 9) C dX12_allOf_6 wm_1588 rfl ?_
    refine j_goto (tgt := 19) C dX12_allOf_9 rfl ?_
    have hr := Option.some.inj hr
    subst hr
    exact j_lret C hq hret dX12_allOf_19
def m_X12_all (ce : Ce) (this : Nat) : Option (Int64) :=
  (gA ce 9 0 this).bind fun x1 =>
  (aI ce x1 3).bind fun x2 =>
  (m_X12_allOf x2).bind fun x3 =>
  some x3
set_option maxRecDepth 100000 in
set_option maxHeartbeats 4000000 in
theorem c_X12_all {nx : Nat} {ce : Ce} {this : Nat} {q : Int64} (hr : m_X12_all ce this = some q) : Ct yX12_all cX12_all 1 (some .long) 1 20 0 0 [.ref this] nx ce (some (.long q)) ce := by
  unfold m_X12_all at hr
  refine ct_of (by decide) (by decide) ?_
  intro G C hq hret hin
  show Jd G 0 0 nx ce 0 [(0, .ref this)] []
  refine j_aload_n (q := 0) (pc' := 1) C dX12_all_0 rfl rfl rfl ?_
  obtain ⟨x1, hx1, hr⟩ := ob hr
  refine j_getA (pc' := 4) C dX12_all_1 fl_X12_8 hx1 rfl ?_
  refine j_iconst (v := 3) (pc' := 5) C dX12_all_4 kI_3 rfl ?_
  obtain ⟨x2, hx2, hr⟩ := ob hr
  refine j_iald (pc' := 6) C dX12_all_5 hx2 rfl ?_
  obtain ⟨x3, hx3, hr⟩ := ob hr
  refine j_callS (As := [.int x2]) (rest := []) (st1 := [.long x3]) (pc' := 9) C wm_1628 (c_X12_allOf (nx := nx) (ce := ce) hx3) yw_X12_allOf wm_1627 rfl rfl (by decide) ⟨by decide, by decide⟩ dX12_all_6 rfl rfl ?_
  have hr := Option.some.inj hr
  subst hr
  exact j_lret C hq hret dX12_all_9
def m_X12_starts (ce : Ce) (this : Nat) : Option (Int64) :=
  (rcv ce 9 this).bind fun z1 =>
  (m_X12_setOf ce this 0).bind fun x2 =>
  some x2
set_option maxRecDepth 100000 in
set_option maxHeartbeats 4000000 in
theorem c_X12_starts {nx : Nat} {ce : Ce} {this : Nat} {q : Int64} (hr : m_X12_starts ce this = some q) : Ct yX12_starts cX12_starts 1 (some .long) 1 21 0 0 [.ref this] nx ce (some (.long q)) ce := by
  unfold m_X12_starts at hr
  refine ct_of (by decide) (by decide) ?_
  intro G C hq hret hin
  show Jd G 0 0 nx ce 0 [(0, .ref this)] []
  refine j_aload_n (q := 0) (pc' := 1) C dX12_starts_0 rfl rfl rfl ?_
  refine j_iconst (v := 0) (pc' := 2) C dX12_starts_1 kI_0 rfl ?_
  obtain ⟨z1, hz1, hr⟩ := ob hr
  obtain ⟨x2, hx2, hr⟩ := ob hr
  obtain ⟨fhz1, hz1⟩ := rcv_sp hz1
  refine j_callV (ci := 9) (As := [.int 0]) (rest := []) (st1 := [.long x2]) (pc' := 5) C ⟨wm_1691, wm_66⟩ rfl hz1 (c_X12_setOf (nx := nx) hx2) yw_X12_setOf wm_1689 rfl rfl (by decide) ⟨by decide, by decide⟩ dX12_starts_2 rfl rfl ?_
  have hr := Option.some.inj hr
  subst hr
  exact j_lret C hq hret dX12_starts_5
def m_X12_aims (ce : Ce) (this : Nat) : Option (Int64) :=
  (gA ce 9 0 this).bind fun x1 =>
  (aI ce x1 8).bind fun x2 =>
  (rcv ce 9 this).bind fun z3 =>
  (m_X12_setOf ce this (1 + x2)).bind fun x4 =>
  some x4
set_option maxRecDepth 100000 in
set_option maxHeartbeats 4000000 in
theorem c_X12_aims {nx : Nat} {ce : Ce} {this : Nat} {q : Int64} (hr : m_X12_aims ce this = some q) : Ct yX12_aims cX12_aims 1 (some .long) 1 21 0 0 [.ref this] nx ce (some (.long q)) ce := by
  unfold m_X12_aims at hr
  refine ct_of (by decide) (by decide) ?_
  intro G C hq hret hin
  show Jd G 0 0 nx ce 0 [(0, .ref this)] []
  refine j_aload_n (q := 0) (pc' := 1) C dX12_aims_0 rfl rfl rfl ?_
  refine j_iconst (v := 1) (pc' := 2) C dX12_aims_1 kI_1 rfl ?_
  refine j_aload_n (q := 0) (pc' := 3) C dX12_aims_2 rfl rfl rfl ?_
  obtain ⟨x1, hx1, hr⟩ := ob hr
  refine j_getA (pc' := 6) C dX12_aims_3 fl_X12_8 hx1 rfl ?_
  refine j_bipush (v := 8) (pc' := 8) C dX12_aims_6 kB_8 rfl ?_
  obtain ⟨x2, hx2, hr⟩ := ob hr
  refine j_iald (pc' := 9) C dX12_aims_8 hx2 rfl ?_
  refine j_iadd (pc' := 10) C dX12_aims_9 rfl ?_
  obtain ⟨z3, hz3, hr⟩ := ob hr
  obtain ⟨x4, hx4, hr⟩ := ob hr
  obtain ⟨fhz3, hz3⟩ := rcv_sp hz3
  refine j_callV (ci := 9) (As := [.int (1 + x2)]) (rest := []) (st1 := [.long x4]) (pc' := 13) C ⟨wm_1691, wm_66⟩ rfl hz3 (c_X12_setOf (nx := nx) hx4) yw_X12_setOf wm_1689 rfl rfl (by decide) ⟨by decide, by decide⟩ dX12_aims_10 rfl rfl ?_
  have hr := Option.some.inj hr
  subst hr
  exact j_lret C hq hret dX12_aims_13
def m_X12_isState (ce : Ce) (this : Nat) (p1 : Int32) : Option (Int32) :=
  (rcv ce 9 this).bind fun z1 =>
  (m_X12_states ce this).bind fun x2 =>
  (m_X12_isIn p1 0 (x2 - 1)).bind fun x3 =>
  (bz x3).bind fun x4 =>
  some x3
set_option maxRecDepth 100000 in
set_option maxHeartbeats 4000000 in
theorem c_X12_isState {nx : Nat} {ce : Ce} {this : Nat} {p1 : Int32} {q : Int32} (hr : m_X12_isState ce this p1 = some q) : Ct yX12_isState cX12_isState 2 (some .boolean) 1 22 0 0 [.ref this, .int p1] nx ce (some (.int q)) ce := by
  unfold m_X12_isState at hr
  refine ct_of (by decide) (by decide) ?_
  intro G C hq hret hin
  show Jd G 0 0 nx ce 0 [(0, .ref this), (1, .int p1)] []
  refine j_iload_n (q := 1) (pc' := 1) C dX12_isState_0 rfl rfl rfl ?_
  refine j_iconst (v := 0) (pc' := 2) C dX12_isState_1 kI_0 rfl ?_
  refine j_aload_n (q := 0) (pc' := 3) C dX12_isState_2 rfl rfl rfl ?_
  obtain ⟨z1, hz1, hr⟩ := ob hr
  obtain ⟨x2, hx2, hr⟩ := ob hr
  obtain ⟨fhz1, hz1⟩ := rcv_sp hz1
  refine j_callV (ci := 9) (As := []) (rest := [.int 0, .int p1]) (st1 := [.int x2, .int 0, .int p1]) (pc' := 6) C ⟨wm_1632, wm_57⟩ rfl hz1 (c_X12_states (nx := nx) hx2) yw_X12_states wm_1630 rfl rfl (by decide) ⟨by decide, by decide⟩ dX12_isState_3 rfl rfl ?_
  refine j_iconst (v := 1) (pc' := 7) C dX12_isState_6 kI_1 rfl ?_
  refine j_isub (pc' := 8) C dX12_isState_7 rfl ?_
  obtain ⟨x3, hx3, hr⟩ := ob hr
  refine j_callS (As := [.int p1, .int 0, .int (x2 - 1)]) (rest := []) (st1 := [.int x3]) (pc' := 11) C wm_1519 (c_X12_isIn (nx := nx) (ce := ce) hx3) yw_X12_isIn wm_1518 rfl rfl (by decide) ⟨by decide, by decide⟩ dX12_isState_8 rfl rfl ?_
  obtain ⟨x4, hx4, hr⟩ := ob hr
  obtain ⟨rfl, hx4⟩ := bz_sp hx4
  have hr := Option.some.inj hr
  subst hr
  exact j_zret C hq hret hx4 dX12_isState_11
def m_X12_isMask (ce : Ce) (this : Nat) (p1 : Int32) (p2 : Int32) : Option (Int32) :=
  (rcv ce 9 this).bind fun z1 =>
  (m_X12_states ce this).bind fun x2 =>
  (m_X12_isIn p1 0 (x2 - 1)).bind fun x3 =>
  if x3 = 0 then
    some 0
  else
    if p2 < 0 then
      some 0
    else
      if (p2 &&& (p1 ^^^ (-1))) = 0 then
        some 1
      else
        some 0
set_option maxRecDepth 100000 in
set_option maxHeartbeats 4000000 in
theorem c_X12_isMask {nx : Nat} {ce : Ce} {this : Nat} {p1 : Int32} {p2 : Int32} {q : Int32} (hr : m_X12_isMask ce this p1 p2 = some q) : Ct yX12_isMask cX12_isMask 3 (some .boolean) 1 22 0 0 [.ref this, .int p1, .int p2] nx ce (some (.int q)) ce := by
  unfold m_X12_isMask at hr
  refine ct_of (by decide) (by decide) ?_
  intro G C hq hret hin
  show Jd G 0 0 nx ce 0 [(0, .ref this), (1, .int p1), (2, .int p2)] []
  refine j_iload_n (q := 1) (pc' := 1) C dX12_isMask_0 rfl rfl rfl ?_
  refine j_iconst (v := 0) (pc' := 2) C dX12_isMask_1 kI_0 rfl ?_
  refine j_aload_n (q := 0) (pc' := 3) C dX12_isMask_2 rfl rfl rfl ?_
  obtain ⟨z1, hz1, hr⟩ := ob hr
  obtain ⟨x2, hx2, hr⟩ := ob hr
  obtain ⟨fhz1, hz1⟩ := rcv_sp hz1
  refine j_callV (ci := 9) (As := []) (rest := [.int 0, .int p1]) (st1 := [.int x2, .int 0, .int p1]) (pc' := 6) C ⟨wm_1632, wm_57⟩ rfl hz1 (c_X12_states (nx := nx) hx2) yw_X12_states wm_1630 rfl rfl (by decide) ⟨by decide, by decide⟩ dX12_isMask_3 rfl rfl ?_
  refine j_iconst (v := 1) (pc' := 7) C dX12_isMask_6 kI_1 rfl ?_
  refine j_isub (pc' := 8) C dX12_isMask_7 rfl ?_
  obtain ⟨x3, hx3, hr⟩ := ob hr
  refine j_callS (As := [.int p1, .int 0, .int (x2 - 1)]) (rest := []) (st1 := [.int x3]) (pc' := 11) C wm_1519 (c_X12_isIn (nx := nx) (ce := ce) hx3) yw_X12_isIn wm_1518 rfl rfl (by decide) ⟨by decide, by decide⟩ dX12_isMask_8 rfl rfl ?_
  refine j_if_eq (tgt := 30) (pc' := 14) C dX12_isMask_11 rfl rfl (fun hc => ?_) (fun hc => ?_)
  · have hr := ifT hc hr
    clear hc
    refine j_iconst (v := 0) (pc' := 31) C dX12_isMask_30 kI_0 rfl ?_
    have hr := Option.some.inj hr
    subst hr
    exact j_zret C hq hret rfl dX12_isMask_31
  · have hr := ifF hc hr
    clear hc
    refine j_iload_n (q := 2) (pc' := 15) C dX12_isMask_14 rfl rfl rfl ?_
    refine j_if_lt (tgt := 30) (pc' := 18) C dX12_isMask_15 rfl rfl (fun hc => ?_) (fun hc => ?_)
    · have hr := ifT hc hr
      clear hc
      refine j_iconst (v := 0) (pc' := 31) C dX12_isMask_30 kI_0 rfl ?_
      have hr := Option.some.inj hr
      subst hr
      exact j_zret C hq hret rfl dX12_isMask_31
    · have hr := ifF hc hr
      clear hc
      refine j_iload_n (q := 2) (pc' := 19) C dX12_isMask_18 rfl rfl rfl ?_
      refine j_iload_n (q := 1) (pc' := 20) C dX12_isMask_19 rfl rfl rfl ?_
      refine j_iconst (v := -1) (pc' := 21) C dX12_isMask_20 kI_m1 rfl ?_
      refine j_ixor (pc' := 22) C dX12_isMask_21 rfl ?_
      refine j_iand (pc' := 23) C dX12_isMask_22 rfl ?_
      refine j_if_ne (tgt := 30) (pc' := 26) C dX12_isMask_23 rfl rfl (fun hc => ?_) (fun hc => ?_)
      · have hr := ifF hc hr
        clear hc
        refine j_iconst (v := 0) (pc' := 31) C dX12_isMask_30 kI_0 rfl ?_
        have hr := Option.some.inj hr
        subst hr
        exact j_zret C hq hret rfl dX12_isMask_31
      · have hr := ifT hc hr
        clear hc
        refine j_iconst (v := 1) (pc' := 27) C dX12_isMask_26 kI_1 rfl ?_
        refine j_goto (tgt := 31) C dX12_isMask_27 rfl ?_
        have hr := Option.some.inj hr
        subst hr
        exact j_zret C hq hret rfl dX12_isMask_31
def m_X12_succOf (ce : Ce) (this : Nat) (p1 : Int32) (p2 : Int32) : Option (Int32) :=
  (gA ce 9 0 this).bind fun x1 =>
  (aI ce x1 (28 + p1)).bind fun x2 =>
  some ((x2 >>> ((6 * p2) &&& 31)) &&& 63)
set_option maxRecDepth 100000 in
set_option maxHeartbeats 4000000 in
theorem c_X12_succOf {nx : Nat} {ce : Ce} {this : Nat} {p1 : Int32} {p2 : Int32} {q : Int32} (hr : m_X12_succOf ce this p1 p2 = some q) : Ct yX12_succOf cX12_succOf 3 (some .int) 0 0 0 0 [.ref this, .int p1, .int p2] nx ce (some (.int q)) ce := by
  unfold m_X12_succOf at hr
  refine ct_of (by decide) (by decide) ?_
  intro G C hq hret hin
  show Jd G 0 0 nx ce 0 [(0, .ref this), (1, .int p1), (2, .int p2)] []
  refine j_aload_n (q := 0) (pc' := 1) C dX12_succOf_0 rfl rfl rfl ?_
  obtain ⟨x1, hx1, hr⟩ := ob hr
  refine j_getA (pc' := 4) C dX12_succOf_1 fl_X12_8 hx1 rfl ?_
  refine j_bipush (v := 28) (pc' := 6) C dX12_succOf_4 kB_28 rfl ?_
  refine j_iload_n (q := 1) (pc' := 7) C dX12_succOf_6 rfl rfl rfl ?_
  refine j_iadd (pc' := 8) C dX12_succOf_7 rfl ?_
  obtain ⟨x2, hx2, hr⟩ := ob hr
  refine j_iald (pc' := 9) C dX12_succOf_8 hx2 rfl ?_
  refine j_bipush (v := 6) (pc' := 11) C dX12_succOf_9 kB_6 rfl ?_
  refine j_iload_n (q := 2) (pc' := 12) C dX12_succOf_11 rfl rfl rfl ?_
  refine j_imul (pc' := 13) C dX12_succOf_12 rfl ?_
  refine j_ishr (pc' := 14) C dX12_succOf_13 rfl ?_
  refine j_bipush (v := 63) (pc' := 16) C dX12_succOf_14 kB_63 rfl ?_
  refine j_iand (pc' := 17) C dX12_succOf_16 rfl ?_
  have hr := Option.some.inj hr
  subst hr
  exact j_iret C hq hret dX12_succOf_17
def m_X12_afterBy (ce : Ce) (this : Nat) (p1 : Int32) (p2 : Int32) : Option (Int64) :=
  (it (fun s1 =>
    if 4 ≤ s1.2 then
      some (Sum.inr s1.1)
    else
      if ((p2 >>> (s1.2 &&& 31)) &&& 1) = 1 then
        (rcv ce 9 this).bind fun z4 =>
        (m_X12_succOf ce this p1 s1.2).bind fun x5 =>
        some (Sum.inl ((s1.1 ||| (1 <<< (Int32.toInt64 x5 &&& 63))), (s1.2 + 1)))
      else
        some (Sum.inl (s1.1, (s1.2 + 1)))
  ) FU (0, 0)).bind fun o2 =>
  some o2
set_option maxRecDepth 100000 in
set_option maxHeartbeats 4000000 in
theorem c_X12_afterBy {nx : Nat} {ce : Ce} {this : Nat} {p1 : Int32} {p2 : Int32} {q : Int64} (hr : m_X12_afterBy ce this p1 p2 = some q) : Ct yX12_afterBy cX12_afterBy 6 (some .long) 1 22 0 0 [.ref this, .int p1, .int p2] nx ce (some (.long q)) ce := by
  unfold m_X12_afterBy at hr
  refine ct_of (by decide) (by decide) ?_
  intro G C hq hret hin
  show Jd G 0 0 nx ce 0 [(0, .ref this), (1, .int p1), (2, .int p2)] []
  refine j_lconst (v := 0) (pc' := 1) C dX12_afterBy_0 kL_0 rfl ?_
  refine j_lstore_n (lv' := [(3, .long 0), (0, .ref this), (1, .int p1), (2, .int p2)]) (pc' := 2) C dX12_afterBy_1 rfl (by decide) rfl rfl ?_
  refine j_iconst (v := 0) (pc' := 3) C dX12_afterBy_2 kI_0 rfl ?_
  refine j_istore (lv' := [(5, .int 0), (3, .long 0), (0, .ref this), (1, .int p1), (2, .int p2)]) (pc' := 5) C dX12_afterBy_3 (by decide) rfl rfl ?_
  obtain ⟨o2, ho2, ro2⟩ := ob hr
  have ko2 : Jd G 0 0 nx ce 39 [(3, .long o2)] [] := by
    have hr := ro2
    refine j_lload_n (q := 0) (pc' := 40) C dX12_afterBy_39 rfl rfl rfl ?_
    have hr := Option.some.inj hr
    subst hr
    exact j_lret C hq hret dX12_afterBy_40
  refine j_lv [2, 3, 4, 1, 0] rfl (it_J (J := (fun s1 => Jd G 0 0 nx ce 5 [(0, .ref this), (1, .int p1), (2, .int p2), (3, .long s1.1), (5, .int s1.2)] [])) ?_ ho2)
  clear ho2
  intro s1 r3 hr is1 es1
  refine j_iload (q := 4) (pc' := 7) C dX12_afterBy_5 rfl rfl ?_
  refine j_iconst (v := 4) (pc' := 8) C dX12_afterBy_7 kI_4 rfl ?_
  refine j_ic_ge (tgt := 39) (pc' := 11) C dX12_afterBy_8 rfl rfl (fun hc => ?_) (fun hc => ?_)
  · have hr := ifT hc hr
    clear hc
    have hr := es1 _ (Option.some.inj hr).symm
    subst hr
    exact j_lv [3] rfl ko2
  · have hr := ifF hc hr
    clear hc
    refine j_iload_n (q := 2) (pc' := 12) C dX12_afterBy_11 rfl rfl rfl ?_
    refine j_iload (q := 4) (pc' := 14) C dX12_afterBy_12 rfl rfl ?_
    refine j_ishr (pc' := 15) C dX12_afterBy_14 rfl ?_
    refine j_iconst (v := 1) (pc' := 16) C dX12_afterBy_15 kI_1 rfl ?_
    refine j_iand (pc' := 17) C dX12_afterBy_16 rfl ?_
    refine j_iconst (v := 1) (pc' := 18) C dX12_afterBy_17 kI_1 rfl ?_
    refine j_ic_ne (tgt := 33) (pc' := 21) C dX12_afterBy_18 rfl rfl (fun hc => ?_) (fun hc => ?_)
    · have hr := ifF hc hr
      clear hc
      refine j_iinc (q := 4) (v := 1) (lv' := [(5, .int (s1.2 + 1)), (0, .ref this), (1, .int p1), (2, .int p2), (3, .long s1.1)]) (pc' := 36) C dX12_afterBy_33 rfl kI_1 (by decide) rfl rfl ?_
      refine j_goto (tgt := 5) C dX12_afterBy_36 rfl ?_
      exact j_lv [1, 2, 3, 4, 0] rfl (is1 _ (Option.some.inj hr).symm)
    · have hr := ifT hc hr
      clear hc
      refine j_lload_n (q := 3) (pc' := 22) C dX12_afterBy_21 rfl rfl rfl ?_
      refine j_lconst (v := 1) (pc' := 23) C dX12_afterBy_22 kL_1 rfl ?_
      refine j_aload_n (q := 0) (pc' := 24) C dX12_afterBy_23 rfl rfl rfl ?_
      refine j_iload_n (q := 1) (pc' := 25) C dX12_afterBy_24 rfl rfl rfl ?_
      refine j_iload (q := 4) (pc' := 27) C dX12_afterBy_25 rfl rfl ?_
      obtain ⟨z4, hz4, hr⟩ := ob hr
      obtain ⟨x5, hx5, hr⟩ := ob hr
      obtain ⟨fhz4, hz4⟩ := rcv_sp hz4
      refine j_callV (ci := 9) (As := [.int p1, .int s1.2]) (rest := [.long 1, .long s1.1]) (st1 := [.int x5, .long 1, .long s1.1]) (pc' := 30) C ⟨wm_1759, wm_82⟩ rfl hz4 (c_X12_succOf (nx := nx) hx5) yw_X12_succOf wm_1757 rfl rfl (by decide) ⟨by decide, by decide⟩ dX12_afterBy_27 rfl rfl ?_
      refine j_lshl (pc' := 31) C dX12_afterBy_30 rfl ?_
      refine j_lor (pc' := 32) C dX12_afterBy_31 rfl ?_
      refine j_lstore_n (lv' := [(3, .long (s1.1 ||| (1 <<< (Int32.toInt64 x5 &&& 63)))), (0, .ref this), (1, .int p1), (2, .int p2), (5, .int s1.2)]) (pc' := 33) C dX12_afterBy_32 rfl (by decide) rfl rfl ?_
      refine j_iinc (q := 4) (v := 1) (lv' := [(5, .int (s1.2 + 1)), (3, .long (s1.1 ||| (1 <<< (Int32.toInt64 x5 &&& 63)))), (0, .ref this), (1, .int p1), (2, .int p2)]) (pc' := 36) C dX12_afterBy_33 rfl kI_1 (by decide) rfl rfl ?_
      refine j_goto (tgt := 5) C dX12_afterBy_36 rfl ?_
      exact j_lv [2, 3, 4, 1, 0] rfl (is1 _ (Option.some.inj hr).symm)
def m_X12_after (ce : Ce) (this : Nat) (p1 : Int32) : Option (Int64) :=
  (rcv ce 9 this).bind fun z1 =>
  (m_X12_afterBy ce this p1 15).bind fun x2 =>
  some x2
set_option maxRecDepth 100000 in
set_option maxHeartbeats 4000000 in
theorem c_X12_after {nx : Nat} {ce : Ce} {this : Nat} {p1 : Int32} {q : Int64} (hr : m_X12_after ce this p1 = some q) : Ct yX12_after cX12_after 2 (some .long) 2 47 0 0 [.ref this, .int p1] nx ce (some (.long q)) ce := by
  unfold m_X12_after at hr
  refine ct_of (by decide) (by decide) ?_
  intro G C hq hret hin
  show Jd G 0 0 nx ce 0 [(0, .ref this), (1, .int p1)] []
  refine j_aload_n (q := 0) (pc' := 1) C dX12_after_0 rfl rfl rfl ?_
  refine j_iload_n (q := 1) (pc' := 2) C dX12_after_1 rfl rfl rfl ?_
  refine j_bipush (v := 15) (pc' := 4) C dX12_after_2 kB_15 rfl ?_
  obtain ⟨z1, hz1, hr⟩ := ob hr
  obtain ⟨x2, hx2, hr⟩ := ob hr
  obtain ⟨fhz1, hz1⟩ := rcv_sp hz1
  refine j_callV (ci := 9) (As := [.int p1, .int 15]) (rest := []) (st1 := [.long x2]) (pc' := 7) C ⟨wm_1755, wm_81⟩ rfl hz1 (c_X12_afterBy (nx := nx) hx2) yw_X12_afterBy wm_1753 rfl rfl (by decide) ⟨by decide, by decide⟩ dX12_after_4 rfl rfl ?_
  have hr := Option.some.inj hr
  subst hr
  exact j_lret C hq hret dX12_after_7
def m_X12_letterSet (p0 : Int32) : Option (Int64) :=
  (it (fun s1 =>
    if 64 ≤ s1.2 then
      some (Sum.inr s1.1)
    else
      if ((s1.2 >>> (p0 &&& 31)) &&& 1) = 1 then
        some (Sum.inl ((s1.1 ||| (1 <<< (Int32.toInt64 s1.2 &&& 63))), (s1.2 + 1)))
      else
        some (Sum.inl (s1.1, (s1.2 + 1)))
  ) FU (0, 0)).bind fun o2 =>
  some o2
set_option maxRecDepth 100000 in
set_option maxHeartbeats 4000000 in
theorem c_X12_letterSet {nx : Nat} {ce : Ce} {p0 : Int32} {q : Int64} (hr : m_X12_letterSet p0 = some q) : Ct yX12_letterSet cX12_letterSet 4 (some .long) 0 0 0 0 [.int p0] nx ce (some (.long q)) ce := by
  unfold m_X12_letterSet at hr
  refine ct_of (by decide) (by decide) ?_
  intro G C hq hret hin
  show Jd G 0 0 nx ce 0 [(0, .int p0)] []
  refine j_lconst (v := 0) (pc' := 1) C dX12_letterSet_0 kL_0 rfl ?_
  refine j_lstore_n (lv' := [(1, .long 0), (0, .int p0)]) (pc' := 2) C dX12_letterSet_1 rfl (by decide) rfl rfl ?_
  refine j_iconst (v := 0) (pc' := 3) C dX12_letterSet_2 kI_0 rfl ?_
  refine j_istore_n (lv' := [(3, .int 0), (1, .long 0), (0, .int p0)]) (pc' := 4) C dX12_letterSet_3 rfl (by decide) rfl rfl ?_
  obtain ⟨o2, ho2, ro2⟩ := ob hr
  have ko2 : Jd G 0 0 nx ce 31 [(1, .long o2)] [] := by
    have hr := ro2
    refine j_lload_n (q := 0) (pc' := 32) C dX12_letterSet_31 rfl rfl rfl ?_
    have hr := Option.some.inj hr
    subst hr
    exact j_lret C hq hret dX12_letterSet_32
  refine j_lv [2, 1, 0] rfl (it_J (J := (fun s1 => Jd G 0 0 nx ce 4 [(0, .int p0), (1, .long s1.1), (3, .int s1.2)] [])) ?_ ho2)
  clear ho2
  intro s1 r3 hr is1 es1
  refine j_iload_n (q := 2) (pc' := 5) C dX12_letterSet_4 rfl rfl rfl ?_
  refine j_bipush (v := 64) (pc' := 7) C dX12_letterSet_5 kB_64 rfl ?_
  refine j_ic_ge (tgt := 31) (pc' := 10) C dX12_letterSet_7 rfl rfl (fun hc => ?_) (fun hc => ?_)
  · have hr := ifT hc hr
    clear hc
    have hr := es1 _ (Option.some.inj hr).symm
    subst hr
    exact j_lv [1] rfl ko2
  · have hr := ifF hc hr
    clear hc
    refine j_iload_n (q := 2) (pc' := 11) C dX12_letterSet_10 rfl rfl rfl ?_
    refine j_iload_n (q := 0) (pc' := 12) C dX12_letterSet_11 rfl rfl rfl ?_
    refine j_ishr (pc' := 13) C dX12_letterSet_12 rfl ?_
    refine j_iconst (v := 1) (pc' := 14) C dX12_letterSet_13 kI_1 rfl ?_
    refine j_iand (pc' := 15) C dX12_letterSet_14 rfl ?_
    refine j_iconst (v := 1) (pc' := 16) C dX12_letterSet_15 kI_1 rfl ?_
    refine j_ic_ne (tgt := 25) (pc' := 19) C dX12_letterSet_16 rfl rfl (fun hc => ?_) (fun hc => ?_)
    · have hr := ifF hc hr
      clear hc
      refine j_iinc (q := 2) (v := 1) (lv' := [(3, .int (s1.2 + 1)), (0, .int p0), (1, .long s1.1)]) (pc' := 28) C dX12_letterSet_25 rfl kI_1 (by decide) rfl rfl ?_
      refine j_goto (tgt := 4) C dX12_letterSet_28 rfl ?_
      exact j_lv [1, 2, 0] rfl (is1 _ (Option.some.inj hr).symm)
    · have hr := ifT hc hr
      clear hc
      refine j_lload_n (q := 1) (pc' := 20) C dX12_letterSet_19 rfl rfl rfl ?_
      refine j_lconst (v := 1) (pc' := 21) C dX12_letterSet_20 kL_1 rfl ?_
      refine j_iload_n (q := 2) (pc' := 22) C dX12_letterSet_21 rfl rfl rfl ?_
      refine j_lshl (pc' := 23) C dX12_letterSet_22 rfl ?_
      refine j_lor (pc' := 24) C dX12_letterSet_23 rfl ?_
      refine j_lstore_n (lv' := [(1, .long (s1.1 ||| (1 <<< (Int32.toInt64 s1.2 &&& 63)))), (0, .int p0), (3, .int s1.2)]) (pc' := 25) C dX12_letterSet_24 rfl (by decide) rfl rfl ?_
      refine j_iinc (q := 2) (v := 1) (lv' := [(3, .int (s1.2 + 1)), (1, .long (s1.1 ||| (1 <<< (Int32.toInt64 s1.2 &&& 63)))), (0, .int p0)]) (pc' := 28) C dX12_letterSet_25 rfl kI_1 (by decide) rfl rfl ?_
      refine j_goto (tgt := 4) C dX12_letterSet_28 rfl ?_
      exact j_lv [2, 1, 0] rfl (is1 _ (Option.some.inj hr).symm)
def m_X12_cubeSet (ce : Ce) (this : Nat) (p1 : Int32) (p2 : Int32) : Option (Int64) :=
  (rcv ce 9 this).bind fun z1 =>
  (m_X12_all ce this).bind fun x2 =>
  (it (fun s3 =>
    (gA ce 9 0 this).bind fun x6 =>
    (aI ce x6 3).bind fun x7 =>
    if x7 ≤ s3.2 then
      some (Sum.inr s3.1)
    else
      if ((p1 >>> (s3.2 &&& 31)) &&& 1) = 1 then
        if ((p2 >>> (s3.2 &&& 31)) &&& 1) = 1 then
          (m_X12_letterSet s3.2).bind fun x9 =>
          some (Sum.inl ((s3.1 &&& x9), (s3.2 + 1)))
        else
          (m_X12_letterSet s3.2).bind fun x8 =>
          some (Sum.inl ((s3.1 &&& (x8 ^^^ (-1))), (s3.2 + 1)))
      else
        some (Sum.inl (s3.1, (s3.2 + 1)))
  ) FU (x2, 0)).bind fun o4 =>
  some o4
set_option maxRecDepth 100000 in
set_option maxHeartbeats 4000000 in
theorem c_X12_cubeSet {nx : Nat} {ce : Ce} {this : Nat} {p1 : Int32} {p2 : Int32} {q : Int64} (hr : m_X12_cubeSet ce this p1 p2 = some q) : Ct yX12_cubeSet cX12_cubeSet 6 (some .long) 2 40 0 0 [.ref this, .int p1, .int p2] nx ce (some (.long q)) ce := by
  unfold m_X12_cubeSet at hr
  refine ct_of (by decide) (by decide) ?_
  intro G C hq hret hin
  show Jd G 0 0 nx ce 0 [(0, .ref this), (1, .int p1), (2, .int p2)] []
  refine j_aload_n (q := 0) (pc' := 1) C dX12_cubeSet_0 rfl rfl rfl ?_
  obtain ⟨z1, hz1, hr⟩ := ob hr
  obtain ⟨x2, hx2, hr⟩ := ob hr
  obtain ⟨fhz1, hz1⟩ := rcv_sp hz1
  refine j_callV (ci := 9) (As := []) (rest := []) (st1 := [.long x2]) (pc' := 4) C ⟨wm_1625, wm_56⟩ rfl hz1 (c_X12_all (nx := nx) hx2) yw_X12_all wm_1623 rfl rfl (by decide) ⟨by decide, by decide⟩ dX12_cubeSet_1 rfl rfl ?_
  refine j_lstore_n (lv' := [(3, .long x2), (0, .ref this), (1, .int p1), (2, .int p2)]) (pc' := 5) C dX12_cubeSet_4 rfl (by decide) rfl rfl ?_
  refine j_iconst (v := 0) (pc' := 6) C dX12_cubeSet_5 kI_0 rfl ?_
  refine j_istore (lv' := [(5, .int 0), (3, .long x2), (0, .ref this), (1, .int p1), (2, .int p2)]) (pc' := 8) C dX12_cubeSet_6 (by decide) rfl rfl ?_
  obtain ⟨o4, ho4, ro4⟩ := ob hr
  have ko4 : Jd G 0 0 nx ce 65 [(3, .long o4)] [] := by
    have hr := ro4
    refine j_lload_n (q := 0) (pc' := 66) C dX12_cubeSet_65 rfl rfl rfl ?_
    have hr := Option.some.inj hr
    subst hr
    exact j_lret C hq hret dX12_cubeSet_66
  refine j_lv [2, 3, 4, 1, 0] rfl (it_J (J := (fun s3 => Jd G 0 0 nx ce 8 [(0, .ref this), (1, .int p1), (2, .int p2), (3, .long s3.1), (5, .int s3.2)] [])) ?_ ho4)
  clear ho4
  intro s3 r5 hr is3 es3
  refine j_iload (q := 4) (pc' := 10) C dX12_cubeSet_8 rfl rfl ?_
  refine j_aload_n (q := 0) (pc' := 11) C dX12_cubeSet_10 rfl rfl rfl ?_
  obtain ⟨x6, hx6, hr⟩ := ob hr
  refine j_getA (pc' := 14) C dX12_cubeSet_11 fl_X12_8 hx6 rfl ?_
  refine j_iconst (v := 3) (pc' := 15) C dX12_cubeSet_14 kI_3 rfl ?_
  obtain ⟨x7, hx7, hr⟩ := ob hr
  refine j_iald (pc' := 16) C dX12_cubeSet_15 hx7 rfl ?_
  refine j_ic_ge (tgt := 65) (pc' := 19) C dX12_cubeSet_16 rfl rfl (fun hc => ?_) (fun hc => ?_)
  · have hr := ifT hc hr
    clear hc
    have hr := es3 _ (Option.some.inj hr).symm
    subst hr
    exact j_lv [3] rfl ko4
  · have hr := ifF hc hr
    clear hc
    refine j_iload_n (q := 1) (pc' := 20) C dX12_cubeSet_19 rfl rfl rfl ?_
    refine j_iload (q := 4) (pc' := 22) C dX12_cubeSet_20 rfl rfl ?_
    refine j_ishr (pc' := 23) C dX12_cubeSet_22 rfl ?_
    refine j_iconst (v := 1) (pc' := 24) C dX12_cubeSet_23 kI_1 rfl ?_
    refine j_iand (pc' := 25) C dX12_cubeSet_24 rfl ?_
    refine j_iconst (v := 1) (pc' := 26) C dX12_cubeSet_25 kI_1 rfl ?_
    refine j_ic_ne (tgt := 59) (pc' := 29) C dX12_cubeSet_26 rfl rfl (fun hc => ?_) (fun hc => ?_)
    · have hr := ifF hc hr
      clear hc
      refine j_iinc (q := 4) (v := 1) (lv' := [(5, .int (s3.2 + 1)), (0, .ref this), (1, .int p1), (2, .int p2), (3, .long s3.1)]) (pc' := 62) C dX12_cubeSet_59 rfl kI_1 (by decide) rfl rfl ?_
      refine j_goto (tgt := 8) C dX12_cubeSet_62 rfl ?_
      exact j_lv [1, 2, 3, 4, 0] rfl (is3 _ (Option.some.inj hr).symm)
    · have hr := ifT hc hr
      clear hc
      refine j_lload_n (q := 3) (pc' := 30) C dX12_cubeSet_29 rfl rfl rfl ?_
      refine j_iload_n (q := 2) (pc' := 31) C dX12_cubeSet_30 rfl rfl rfl ?_
      refine j_iload (q := 4) (pc' := 33) C dX12_cubeSet_31 rfl rfl ?_
      refine j_ishr (pc' := 34) C dX12_cubeSet_33 rfl ?_
      refine j_iconst (v := 1) (pc' := 35) C dX12_cubeSet_34 kI_1 rfl ?_
      refine j_iand (pc' := 36) C dX12_cubeSet_35 rfl ?_
      refine j_iconst (v := 1) (pc' := 37) C dX12_cubeSet_36 kI_1 rfl ?_
      refine j_ic_ne (tgt := 48) (pc' := 40) C dX12_cubeSet_37 rfl rfl (fun hc => ?_) (fun hc => ?_)
      · have hr := ifF hc hr
        clear hc
        refine j_iload (q := 4) (pc' := 50) C dX12_cubeSet_48 rfl rfl ?_
        obtain ⟨x8, hx8, hr⟩ := ob hr
        refine j_callS (As := [.int s3.2]) (rest := [.long s3.1]) (st1 := [.long x8, .long s3.1]) (pc' := 53) C wm_1533 (c_X12_letterSet (nx := nx) (ce := ce) hx8) yw_X12_letterSet wm_1532 rfl rfl (by decide) ⟨by decide, by decide⟩ dX12_cubeSet_50 rfl rfl ?_
        refine j_ldc2 (pc' := 56) C dX12_cubeSet_53 wm_1588 rfl ?_
        refine j_lxor (pc' := 57) C dX12_cubeSet_56 rfl ?_
        refine j_land (pc' := 58) C dX12_cubeSet_57 rfl ?_
        refine j_lstore_n (lv' := [(3, .long (s3.1 &&& (x8 ^^^ (-1)))), (0, .ref this), (1, .int p1), (2, .int p2), (5, .int s3.2)]) (pc' := 59) C dX12_cubeSet_58 rfl (by decide) rfl rfl ?_
        refine j_iinc (q := 4) (v := 1) (lv' := [(5, .int (s3.2 + 1)), (3, .long (s3.1 &&& (x8 ^^^ (-1)))), (0, .ref this), (1, .int p1), (2, .int p2)]) (pc' := 62) C dX12_cubeSet_59 rfl kI_1 (by decide) rfl rfl ?_
        refine j_goto (tgt := 8) C dX12_cubeSet_62 rfl ?_
        exact j_lv [2, 3, 4, 1, 0] rfl (is3 _ (Option.some.inj hr).symm)
      · have hr := ifT hc hr
        clear hc
        refine j_iload (q := 4) (pc' := 42) C dX12_cubeSet_40 rfl rfl ?_
        obtain ⟨x9, hx9, hr⟩ := ob hr
        refine j_callS (As := [.int s3.2]) (rest := [.long s3.1]) (st1 := [.long x9, .long s3.1]) (pc' := 45) C wm_1533 (c_X12_letterSet (nx := nx) (ce := ce) hx9) yw_X12_letterSet wm_1532 rfl rfl (by decide) ⟨by decide, by decide⟩ dX12_cubeSet_42 rfl rfl ?_
        refine j_goto (tgt := 57) C dX12_cubeSet_45 rfl ?_
        refine j_land (pc' := 58) C dX12_cubeSet_57 rfl ?_
        refine j_lstore_n (lv' := [(3, .long (s3.1 &&& x9)), (0, .ref this), (1, .int p1), (2, .int p2), (5, .int s3.2)]) (pc' := 59) C dX12_cubeSet_58 rfl (by decide) rfl rfl ?_
        refine j_iinc (q := 4) (v := 1) (lv' := [(5, .int (s3.2 + 1)), (3, .long (s3.1 &&& x9)), (0, .ref this), (1, .int p1), (2, .int p2)]) (pc' := 62) C dX12_cubeSet_59 rfl kI_1 (by decide) rfl rfl ?_
        refine j_goto (tgt := 8) C dX12_cubeSet_62 rfl ?_
        exact j_lv [2, 3, 4, 1, 0] rfl (is3 _ (Option.some.inj hr).symm)
def m_X12_four (ce : Ce) (this : Nat) (p1 : Int32) : Option (Unit × Ce) :=
  (it (fun s1 =>
    if s1.1 < 0 then
      some (Sum.inr ((), s1.2))
    else
      (gA s1.2 9 6 this).bind fun x4 =>
      (gI s1.2 9 7 this).bind fun x5 =>
      (sI s1.2 x4 x5 ((p1 >>> (s1.1 &&& 31)) &&& 255)).bind fun c6 =>
      (gI c6 9 7 this).bind fun x7 =>
      (pV c6 9 7 this (.int (x7 + 1))).bind fun c8 =>
      some (Sum.inl ((s1.1 + (-8)), c8))
  ) FU (24, ce)).bind fun o2 =>
  some ((), o2.2)
set_option maxRecDepth 100000 in
set_option maxHeartbeats 4000000 in
theorem c_X12_four {nx : Nat} {ce : Ce} {this : Nat} {p1 : Int32} {q : Unit × Ce} (hr : m_X12_four ce this p1 = some q) : Ct yX12_four cX12_four 3 none 0 0 0 0 [.ref this, .int p1] nx ce none q.2 := by
  unfold m_X12_four at hr
  refine ct_of (by decide) (by decide) ?_
  intro G C hq hret hin
  show Jd G 0 0 nx ce 0 [(0, .ref this), (1, .int p1)] []
  refine j_bipush (v := 24) (pc' := 2) C dX12_four_0 kB_24 rfl ?_
  refine j_istore_n (lv' := [(2, .int 24), (0, .ref this), (1, .int p1)]) (pc' := 3) C dX12_four_2 rfl (by decide) rfl rfl ?_
  obtain ⟨o2, ho2, ro2⟩ := ob hr
  have ko2 : Jd G 0 0 nx o2.2 39 [] [] := by
    have hr := ro2
    have hr := Option.some.inj hr
    subst hr
    exact j_vret C hq hret dX12_four_39
  refine j_lv [1, 2, 0] rfl (it_J (J := (fun s1 => Jd G 0 0 nx s1.2 3 [(0, .ref this), (1, .int p1), (2, .int s1.1)] [])) ?_ ho2)
  clear ho2
  intro s1 r3 hr is1 es1
  refine j_iload_n (q := 2) (pc' := 4) C dX12_four_3 rfl rfl rfl ?_
  refine j_if_lt (tgt := 39) (pc' := 7) C dX12_four_4 rfl rfl (fun hc => ?_) (fun hc => ?_)
  · have hr := ifT hc hr
    clear hc
    have hr := es1 _ (Option.some.inj hr).symm
    subst hr
    exact j_lv [] rfl ko2
  · have hr := ifF hc hr
    clear hc
    refine j_aload_n (q := 0) (pc' := 8) C dX12_four_7 rfl rfl rfl ?_
    obtain ⟨x4, hx4, hr⟩ := ob hr
    refine j_getA (pc' := 11) C dX12_four_8 fl_X12_31 hx4 rfl ?_
    refine j_aload_n (q := 0) (pc' := 12) C dX12_four_11 rfl rfl rfl ?_
    obtain ⟨x5, hx5, hr⟩ := ob hr
    refine j_getI (pc' := 15) C dX12_four_12 fl_X12_124 hx5 rfl ?_
    refine j_iload_n (q := 1) (pc' := 16) C dX12_four_15 rfl rfl rfl ?_
    refine j_iload_n (q := 2) (pc' := 17) C dX12_four_16 rfl rfl rfl ?_
    refine j_ishr (pc' := 18) C dX12_four_17 rfl ?_
    refine j_sipush (v := 255) (pc' := 21) C dX12_four_18 kS_255 rfl ?_
    refine j_iand (pc' := 22) C dX12_four_21 rfl ?_
    obtain ⟨c6, hc6, hr⟩ := ob hr
    refine j_iast (pc' := 23) C dX12_four_22 hc6 rfl ?_
    refine j_aload_n (q := 0) (pc' := 24) C dX12_four_23 rfl rfl rfl ?_
    refine j_dup (pc' := 25) C dX12_four_24 rfl rfl ?_
    obtain ⟨x7, hx7, hr⟩ := ob hr
    refine j_getI (pc' := 28) C dX12_four_25 fl_X12_124 hx7 rfl ?_
    refine j_iconst (v := 1) (pc' := 29) C dX12_four_28 kI_1 rfl ?_
    refine j_iadd (pc' := 30) C dX12_four_29 rfl ?_
    obtain ⟨c8, hc8, hr⟩ := ob hr
    refine j_put (pc' := 33) C dX12_four_30 fw_X12_124 rfl rfl hc8 rfl ?_
    refine j_iinc (q := 2) (v := -8) (lv' := [(2, .int (s1.1 + (-8))), (0, .ref this), (1, .int p1)]) (pc' := 36) C dX12_four_33 rfl kI_m8 (by decide) rfl rfl ?_
    refine j_goto (tgt := 3) C dX12_four_36 rfl ?_
    exact j_lv [1, 2, 0] rfl (is1 _ (Option.some.inj hr).symm)
def m_X12_feed (ce : Ce) (this : Nat) (p1 : Int32) (p2 : Int32) (p3 : Int32) (p4 : Int32) (p5 : Int32) : Option (Int32 × Ce) :=
  (gI ce 9 7 this).bind fun x1 =>
  if (x1 + 20) ≤ 300 then
    (rcv ce 9 this).bind fun z2 =>
    (m_X12_four ce this p1).bind fun q3 =>
    (rcv q3.2 9 this).bind fun z4 =>
    (m_X12_four q3.2 this p2).bind fun q5 =>
    (rcv q5.2 9 this).bind fun z6 =>
    (m_X12_four q5.2 this p3).bind fun q7 =>
    (rcv q7.2 9 this).bind fun z8 =>
    (m_X12_four q7.2 this p4).bind fun q9 =>
    (rcv q9.2 9 this).bind fun z10 =>
    (m_X12_four q9.2 this p5).bind fun q11 =>
    (gI q11.2 9 7 this).bind fun x12 =>
    some (x12, q11.2)
  else
    some ((-1), ce)
set_option maxRecDepth 100000 in
set_option maxHeartbeats 4000000 in
theorem c_X12_feed {nx : Nat} {ce : Ce} {this : Nat} {p1 : Int32} {p2 : Int32} {p3 : Int32} {p4 : Int32} {p5 : Int32} {q : Int32 × Ce} (hr : m_X12_feed ce this p1 p2 p3 p4 p5 = some q) : Ct yX12_feed cX12_feed 6 (some .int) 1 22 0 0 [.ref this, .int p1, .int p2, .int p3, .int p4, .int p5] nx ce (some (.int q.1)) q.2 := by
  unfold m_X12_feed at hr
  refine ct_of (by decide) (by decide) ?_
  intro G C hq hret hin
  show Jd G 0 0 nx ce 0 [(0, .ref this), (1, .int p1), (2, .int p2), (3, .int p3), (4, .int p4), (5, .int p5)] []
  refine j_aload_n (q := 0) (pc' := 1) C dX12_feed_0 rfl rfl rfl ?_
  obtain ⟨x1, hx1, hr⟩ := ob hr
  refine j_getI (pc' := 4) C dX12_feed_1 fl_X12_124 hx1 rfl ?_
  refine j_bipush (v := 20) (pc' := 6) C dX12_feed_4 kB_20 rfl ?_
  refine j_iadd (pc' := 7) C dX12_feed_6 rfl ?_
  refine j_sipush (v := 300) (pc' := 10) C dX12_feed_7 kS_300 rfl ?_
  refine j_ic_le (tgt := 15) (pc' := 13) C dX12_feed_10 rfl rfl (fun hc => ?_) (fun hc => ?_)
  · have hr := ifT hc hr
    clear hc
    refine j_aload_n (q := 0) (pc' := 16) C dX12_feed_15 rfl rfl rfl ?_
    refine j_iload_n (q := 1) (pc' := 17) C dX12_feed_16 rfl rfl rfl ?_
    obtain ⟨z2, hz2, hr⟩ := ob hr
    obtain ⟨q3, hq3, hr⟩ := ob hr
    obtain ⟨fhz2, hz2⟩ := rcv_sp hz2
    refine j_callV (ci := 9) (As := [.int p1]) (rest := []) (st1 := []) (pc' := 20) C ⟨wm_1512, wm_38⟩ rfl hz2 (c_X12_four (nx := nx) hq3) yw_X12_four wm_1510 rfl rfl (by decide) ⟨by decide, by decide⟩ dX12_feed_17 rfl rfl ?_
    refine j_aload_n (q := 0) (pc' := 21) C dX12_feed_20 rfl rfl rfl ?_
    refine j_iload_n (q := 2) (pc' := 22) C dX12_feed_21 rfl rfl rfl ?_
    obtain ⟨z4, hz4, hr⟩ := ob hr
    obtain ⟨q5, hq5, hr⟩ := ob hr
    obtain ⟨fhz4, hz4⟩ := rcv_sp hz4
    refine j_callV (ci := 9) (As := [.int p2]) (rest := []) (st1 := []) (pc' := 25) C ⟨wm_1512, wm_38⟩ rfl hz4 (c_X12_four (nx := nx) hq5) yw_X12_four wm_1510 rfl rfl (by decide) ⟨by decide, by decide⟩ dX12_feed_22 rfl rfl ?_
    refine j_aload_n (q := 0) (pc' := 26) C dX12_feed_25 rfl rfl rfl ?_
    refine j_iload_n (q := 3) (pc' := 27) C dX12_feed_26 rfl rfl rfl ?_
    obtain ⟨z6, hz6, hr⟩ := ob hr
    obtain ⟨q7, hq7, hr⟩ := ob hr
    obtain ⟨fhz6, hz6⟩ := rcv_sp hz6
    refine j_callV (ci := 9) (As := [.int p3]) (rest := []) (st1 := []) (pc' := 30) C ⟨wm_1512, wm_38⟩ rfl hz6 (c_X12_four (nx := nx) hq7) yw_X12_four wm_1510 rfl rfl (by decide) ⟨by decide, by decide⟩ dX12_feed_27 rfl rfl ?_
    refine j_aload_n (q := 0) (pc' := 31) C dX12_feed_30 rfl rfl rfl ?_
    refine j_iload (q := 4) (pc' := 33) C dX12_feed_31 rfl rfl ?_
    obtain ⟨z8, hz8, hr⟩ := ob hr
    obtain ⟨q9, hq9, hr⟩ := ob hr
    obtain ⟨fhz8, hz8⟩ := rcv_sp hz8
    refine j_callV (ci := 9) (As := [.int p4]) (rest := []) (st1 := []) (pc' := 36) C ⟨wm_1512, wm_38⟩ rfl hz8 (c_X12_four (nx := nx) hq9) yw_X12_four wm_1510 rfl rfl (by decide) ⟨by decide, by decide⟩ dX12_feed_33 rfl rfl ?_
    refine j_aload_n (q := 0) (pc' := 37) C dX12_feed_36 rfl rfl rfl ?_
    refine j_iload (q := 5) (pc' := 39) C dX12_feed_37 rfl rfl ?_
    obtain ⟨z10, hz10, hr⟩ := ob hr
    obtain ⟨q11, hq11, hr⟩ := ob hr
    obtain ⟨fhz10, hz10⟩ := rcv_sp hz10
    refine j_callV (ci := 9) (As := [.int p5]) (rest := []) (st1 := []) (pc' := 42) C ⟨wm_1512, wm_38⟩ rfl hz10 (c_X12_four (nx := nx) hq11) yw_X12_four wm_1510 rfl rfl (by decide) ⟨by decide, by decide⟩ dX12_feed_39 rfl rfl ?_
    refine j_aload_n (q := 0) (pc' := 43) C dX12_feed_42 rfl rfl rfl ?_
    obtain ⟨x12, hx12, hr⟩ := ob hr
    refine j_getI (pc' := 46) C dX12_feed_43 fl_X12_124 hx12 rfl ?_
    have hr := Option.some.inj hr
    subst hr
    exact j_iret C hq hret dX12_feed_46
  · have hr := ifF hc hr
    clear hc
    refine j_iconst (v := -1) (pc' := 14) C dX12_feed_13 kI_m1 rfl ?_
    have hr := Option.some.inj hr
    subst hr
    exact j_iret C hq hret dX12_feed_14
def m_X12_end (ce : Ce) (this : Nat) (p1 : Int32) : Option (Int32 × Ce) :=
  (gI ce 9 7 this).bind fun x1 =>
  (m_X12_isIn p1 0 x1).bind fun x2 =>
  if x2 = 0 then
    some ((-1), ce)
  else
    (pV ce 9 7 this (.int p1)).bind fun c3 =>
    some (p1, c3)
set_option maxRecDepth 100000 in
set_option maxHeartbeats 4000000 in
theorem c_X12_end {nx : Nat} {ce : Ce} {this : Nat} {p1 : Int32} {q : Int32 × Ce} (hr : m_X12_end ce this p1 = some q) : Ct yX12_end cX12_end 2 (some .int) 1 22 0 0 [.ref this, .int p1] nx ce (some (.int q.1)) q.2 := by
  unfold m_X12_end at hr
  refine ct_of (by decide) (by decide) ?_
  intro G C hq hret hin
  show Jd G 0 0 nx ce 0 [(0, .ref this), (1, .int p1)] []
  refine j_iload_n (q := 1) (pc' := 1) C dX12_end_0 rfl rfl rfl ?_
  refine j_iconst (v := 0) (pc' := 2) C dX12_end_1 kI_0 rfl ?_
  refine j_aload_n (q := 0) (pc' := 3) C dX12_end_2 rfl rfl rfl ?_
  obtain ⟨x1, hx1, hr⟩ := ob hr
  refine j_getI (pc' := 6) C dX12_end_3 fl_X12_124 hx1 rfl ?_
  obtain ⟨x2, hx2, hr⟩ := ob hr
  refine j_callS (As := [.int p1, .int 0, .int x1]) (rest := []) (st1 := [.int x2]) (pc' := 9) C wm_1519 (c_X12_isIn (nx := nx) (ce := ce) hx2) yw_X12_isIn wm_1518 rfl rfl (by decide) ⟨by decide, by decide⟩ dX12_end_6 rfl rfl ?_
  refine j_if_ne (tgt := 14) (pc' := 12) C dX12_end_9 rfl rfl (fun hc => ?_) (fun hc => ?_)
  · have hr := ifF hc hr
    clear hc
    refine j_aload_n (q := 0) (pc' := 15) C dX12_end_14 rfl rfl rfl ?_
    refine j_iload_n (q := 1) (pc' := 16) C dX12_end_15 rfl rfl rfl ?_
    obtain ⟨c3, hc3, hr⟩ := ob hr
    refine j_put (pc' := 19) C dX12_end_16 fw_X12_124 rfl rfl hc3 rfl ?_
    refine j_iload_n (q := 1) (pc' := 20) C dX12_end_19 rfl rfl rfl ?_
    have hr := Option.some.inj hr
    subst hr
    exact j_iret C hq hret dX12_end_20
  · have hr := ifT hc hr
    clear hc
    refine j_iconst (v := -1) (pc' := 13) C dX12_end_12 kI_m1 rfl ?_
    have hr := Option.some.inj hr
    subst hr
    exact j_iret C hq hret dX12_end_13
def m_X12_byteAt (ce : Ce) (this : Nat) (p1 : Int32) : Option (Int32) :=
  (gI ce 9 7 this).bind fun x1 =>
  if x1 ≤ p1 then
    some (-1)
  else
    (gA ce 9 6 this).bind fun x2 =>
    (aI ce x2 p1).bind fun x3 =>
    some x3
set_option maxRecDepth 100000 in
set_option maxHeartbeats 4000000 in
theorem c_X12_byteAt {nx : Nat} {ce : Ce} {this : Nat} {p1 : Int32} {q : Int32} (hr : m_X12_byteAt ce this p1 = some q) : Ct yX12_byteAt cX12_byteAt 2 (some .int) 0 0 0 0 [.ref this, .int p1] nx ce (some (.int q)) ce := by
  unfold m_X12_byteAt at hr
  refine ct_of (by decide) (by decide) ?_
  intro G C hq hret hin
  show Jd G 0 0 nx ce 0 [(0, .ref this), (1, .int p1)] []
  refine j_iload_n (q := 1) (pc' := 1) C dX12_byteAt_0 rfl rfl rfl ?_
  refine j_aload_n (q := 0) (pc' := 2) C dX12_byteAt_1 rfl rfl rfl ?_
  obtain ⟨x1, hx1, hr⟩ := ob hr
  refine j_getI (pc' := 5) C dX12_byteAt_2 fl_X12_124 hx1 rfl ?_
  refine j_ic_ge (tgt := 17) (pc' := 8) C dX12_byteAt_5 rfl rfl (fun hc => ?_) (fun hc => ?_)
  · have hr := ifT hc hr
    clear hc
    refine j_iconst (v := -1) (pc' := 18) C dX12_byteAt_17 kI_m1 rfl ?_
    have hr := Option.some.inj hr
    subst hr
    exact j_iret C hq hret dX12_byteAt_18
  · have hr := ifF hc hr
    clear hc
    refine j_aload_n (q := 0) (pc' := 9) C dX12_byteAt_8 rfl rfl rfl ?_
    obtain ⟨x2, hx2, hr⟩ := ob hr
    refine j_getA (pc' := 12) C dX12_byteAt_9 fl_X12_31 hx2 rfl ?_
    refine j_iload_n (q := 1) (pc' := 13) C dX12_byteAt_12 rfl rfl rfl ?_
    obtain ⟨x3, hx3, hr⟩ := ob hr
    refine j_iald (pc' := 14) C dX12_byteAt_13 hx3 rfl ?_
    refine j_goto (tgt := 18) C dX12_byteAt_14 rfl ?_
    have hr := Option.some.inj hr
    subst hr
    exact j_iret C hq hret dX12_byteAt_18
def m_X12_isLetterByte (p0 : Int32) : Option (Int32) :=
  if p0 < 97 then
    some 0
  else
    if 122 < p0 then
      some 0
    else
      some 1
set_option maxRecDepth 100000 in
set_option maxHeartbeats 4000000 in
theorem c_X12_isLetterByte {nx : Nat} {ce : Ce} {p0 : Int32} {q : Int32} (hr : m_X12_isLetterByte p0 = some q) : Ct yX12_isLetterByte cX12_isLetterByte 1 (some .boolean) 0 0 0 0 [.int p0] nx ce (some (.int q)) ce := by
  unfold m_X12_isLetterByte at hr
  refine ct_of (by decide) (by decide) ?_
  intro G C hq hret hin
  show Jd G 0 0 nx ce 0 [(0, .int p0)] []
  refine j_iload_n (q := 0) (pc' := 1) C dX12_isLetterByte_0 rfl rfl rfl ?_
  refine j_bipush (v := 97) (pc' := 3) C dX12_isLetterByte_1 kB_97 rfl ?_
  refine j_ic_lt (tgt := 16) (pc' := 6) C dX12_isLetterByte_3 rfl rfl (fun hc => ?_) (fun hc => ?_)
  · have hr := ifT hc hr
    clear hc
    refine j_iconst (v := 0) (pc' := 17) C dX12_isLetterByte_16 kI_0 rfl ?_
    have hr := Option.some.inj hr
    subst hr
    exact j_zret C hq hret rfl dX12_isLetterByte_17
  · have hr := ifF hc hr
    clear hc
    refine j_iload_n (q := 0) (pc' := 7) C dX12_isLetterByte_6 rfl rfl rfl ?_
    refine j_bipush (v := 122) (pc' := 9) C dX12_isLetterByte_7 kB_122 rfl ?_
    refine j_ic_gt (tgt := 16) (pc' := 12) C dX12_isLetterByte_9 rfl rfl (fun hc => ?_) (fun hc => ?_)
    · have hr := ifT hc hr
      clear hc
      refine j_iconst (v := 0) (pc' := 17) C dX12_isLetterByte_16 kI_0 rfl ?_
      have hr := Option.some.inj hr
      subst hr
      exact j_zret C hq hret rfl dX12_isLetterByte_17
    · have hr := ifF hc hr
      clear hc
      refine j_iconst (v := 1) (pc' := 13) C dX12_isLetterByte_12 kI_1 rfl ?_
      refine j_goto (tgt := 17) C dX12_isLetterByte_13 rfl ?_
      have hr := Option.some.inj hr
      subst hr
      exact j_zret C hq hret rfl dX12_isLetterByte_17
def m_X12_isFigure (p0 : Int32) : Option (Int32) :=
  if p0 < 48 then
    some 0
  else
    if 57 < p0 then
      some 0
    else
      some 1
set_option maxRecDepth 100000 in
set_option maxHeartbeats 4000000 in
theorem c_X12_isFigure {nx : Nat} {ce : Ce} {p0 : Int32} {q : Int32} (hr : m_X12_isFigure p0 = some q) : Ct yX12_isFigure cX12_isFigure 1 (some .boolean) 0 0 0 0 [.int p0] nx ce (some (.int q)) ce := by
  unfold m_X12_isFigure at hr
  refine ct_of (by decide) (by decide) ?_
  intro G C hq hret hin
  show Jd G 0 0 nx ce 0 [(0, .int p0)] []
  refine j_iload_n (q := 0) (pc' := 1) C dX12_isFigure_0 rfl rfl rfl ?_
  refine j_bipush (v := 48) (pc' := 3) C dX12_isFigure_1 kB_48 rfl ?_
  refine j_ic_lt (tgt := 16) (pc' := 6) C dX12_isFigure_3 rfl rfl (fun hc => ?_) (fun hc => ?_)
  · have hr := ifT hc hr
    clear hc
    refine j_iconst (v := 0) (pc' := 17) C dX12_isFigure_16 kI_0 rfl ?_
    have hr := Option.some.inj hr
    subst hr
    exact j_zret C hq hret rfl dX12_isFigure_17
  · have hr := ifF hc hr
    clear hc
    refine j_iload_n (q := 0) (pc' := 7) C dX12_isFigure_6 rfl rfl rfl ?_
    refine j_bipush (v := 57) (pc' := 9) C dX12_isFigure_7 kB_57 rfl ?_
    refine j_ic_gt (tgt := 16) (pc' := 12) C dX12_isFigure_9 rfl rfl (fun hc => ?_) (fun hc => ?_)
    · have hr := ifT hc hr
      clear hc
      refine j_iconst (v := 0) (pc' := 17) C dX12_isFigure_16 kI_0 rfl ?_
      have hr := Option.some.inj hr
      subst hr
      exact j_zret C hq hret rfl dX12_isFigure_17
    · have hr := ifF hc hr
      clear hc
      refine j_iconst (v := 1) (pc' := 13) C dX12_isFigure_12 kI_1 rfl ?_
      refine j_goto (tgt := 17) C dX12_isFigure_13 rfl ?_
      have hr := Option.some.inj hr
      subst hr
      exact j_zret C hq hret rfl dX12_isFigure_17
def m_X12_isSign (p0 : Int32) : Option (Int32) :=
  if p0 = 40 then
    some 1
  else
    if p0 = 41 then
      some 1
    else
      if p0 = 33 then
        some 1
      else
        if p0 = 38 then
          some 1
        else
          if p0 = 94 then
            some 1
          else
            if p0 = 124 then
              some 1
            else
              if p0 = 59 then
                some 1
              else
                some 0
set_option maxRecDepth 100000 in
set_option maxHeartbeats 4000000 in
theorem c_X12_isSign {nx : Nat} {ce : Ce} {p0 : Int32} {q : Int32} (hr : m_X12_isSign p0 = some q) : Ct yX12_isSign cX12_isSign 1 (some .boolean) 0 0 0 0 [.int p0] nx ce (some (.int q)) ce := by
  unfold m_X12_isSign at hr
  refine ct_of (by decide) (by decide) ?_
  intro G C hq hret hin
  show Jd G 0 0 nx ce 0 [(0, .int p0)] []
  refine j_iload_n (q := 0) (pc' := 1) C dX12_isSign_0 rfl rfl rfl ?_
  refine j_bipush (v := 40) (pc' := 3) C dX12_isSign_1 kB_40 rfl ?_
  refine j_ic_eq (tgt := 42) (pc' := 6) C dX12_isSign_3 rfl rfl (fun hc => ?_) (fun hc => ?_)
  · have hr := ifT hc hr
    clear hc
    refine j_iconst (v := 1) (pc' := 43) C dX12_isSign_42 kI_1 rfl ?_
    refine j_goto (tgt := 47) C dX12_isSign_43 rfl ?_
    have hr := Option.some.inj hr
    subst hr
    exact j_zret C hq hret rfl dX12_isSign_47
  · have hr := ifF hc hr
    clear hc
    refine j_iload_n (q := 0) (pc' := 7) C dX12_isSign_6 rfl rfl rfl ?_
    refine j_bipush (v := 41) (pc' := 9) C dX12_isSign_7 kB_41 rfl ?_
    refine j_ic_eq (tgt := 42) (pc' := 12) C dX12_isSign_9 rfl rfl (fun hc => ?_) (fun hc => ?_)
    · have hr := ifT hc hr
      clear hc
      refine j_iconst (v := 1) (pc' := 43) C dX12_isSign_42 kI_1 rfl ?_
      refine j_goto (tgt := 47) C dX12_isSign_43 rfl ?_
      have hr := Option.some.inj hr
      subst hr
      exact j_zret C hq hret rfl dX12_isSign_47
    · have hr := ifF hc hr
      clear hc
      refine j_iload_n (q := 0) (pc' := 13) C dX12_isSign_12 rfl rfl rfl ?_
      refine j_bipush (v := 33) (pc' := 15) C dX12_isSign_13 kB_33 rfl ?_
      refine j_ic_eq (tgt := 42) (pc' := 18) C dX12_isSign_15 rfl rfl (fun hc => ?_) (fun hc => ?_)
      · have hr := ifT hc hr
        clear hc
        refine j_iconst (v := 1) (pc' := 43) C dX12_isSign_42 kI_1 rfl ?_
        refine j_goto (tgt := 47) C dX12_isSign_43 rfl ?_
        have hr := Option.some.inj hr
        subst hr
        exact j_zret C hq hret rfl dX12_isSign_47
      · have hr := ifF hc hr
        clear hc
        refine j_iload_n (q := 0) (pc' := 19) C dX12_isSign_18 rfl rfl rfl ?_
        refine j_bipush (v := 38) (pc' := 21) C dX12_isSign_19 kB_38 rfl ?_
        refine j_ic_eq (tgt := 42) (pc' := 24) C dX12_isSign_21 rfl rfl (fun hc => ?_) (fun hc => ?_)
        · have hr := ifT hc hr
          clear hc
          refine j_iconst (v := 1) (pc' := 43) C dX12_isSign_42 kI_1 rfl ?_
          refine j_goto (tgt := 47) C dX12_isSign_43 rfl ?_
          have hr := Option.some.inj hr
          subst hr
          exact j_zret C hq hret rfl dX12_isSign_47
        · have hr := ifF hc hr
          clear hc
          refine j_iload_n (q := 0) (pc' := 25) C dX12_isSign_24 rfl rfl rfl ?_
          refine j_bipush (v := 94) (pc' := 27) C dX12_isSign_25 kB_94 rfl ?_
          refine j_ic_eq (tgt := 42) (pc' := 30) C dX12_isSign_27 rfl rfl (fun hc => ?_) (fun hc => ?_)
          · have hr := ifT hc hr
            clear hc
            refine j_iconst (v := 1) (pc' := 43) C dX12_isSign_42 kI_1 rfl ?_
            refine j_goto (tgt := 47) C dX12_isSign_43 rfl ?_
            have hr := Option.some.inj hr
            subst hr
            exact j_zret C hq hret rfl dX12_isSign_47
          · have hr := ifF hc hr
            clear hc
            refine j_iload_n (q := 0) (pc' := 31) C dX12_isSign_30 rfl rfl rfl ?_
            refine j_bipush (v := 124) (pc' := 33) C dX12_isSign_31 kB_124 rfl ?_
            refine j_ic_eq (tgt := 42) (pc' := 36) C dX12_isSign_33 rfl rfl (fun hc => ?_) (fun hc => ?_)
            · have hr := ifT hc hr
              clear hc
              refine j_iconst (v := 1) (pc' := 43) C dX12_isSign_42 kI_1 rfl ?_
              refine j_goto (tgt := 47) C dX12_isSign_43 rfl ?_
              have hr := Option.some.inj hr
              subst hr
              exact j_zret C hq hret rfl dX12_isSign_47
            · have hr := ifF hc hr
              clear hc
              refine j_iload_n (q := 0) (pc' := 37) C dX12_isSign_36 rfl rfl rfl ?_
              refine j_bipush (v := 59) (pc' := 39) C dX12_isSign_37 kB_59 rfl ?_
              refine j_ic_ne (tgt := 46) (pc' := 42) C dX12_isSign_39 rfl rfl (fun hc => ?_) (fun hc => ?_)
              · have hr := ifF hc hr
                clear hc
                refine j_iconst (v := 0) (pc' := 47) C dX12_isSign_46 kI_0 rfl ?_
                have hr := Option.some.inj hr
                subst hr
                exact j_zret C hq hret rfl dX12_isSign_47
              · have hr := ifT hc hr
                clear hc
                refine j_iconst (v := 1) (pc' := 43) C dX12_isSign_42 kI_1 rfl ?_
                refine j_goto (tgt := 47) C dX12_isSign_43 rfl ?_
                have hr := Option.some.inj hr
                subst hr
                exact j_zret C hq hret rfl dX12_isSign_47
def m_X12_isFour (ce : Ce) (this : Nat) (p1 : Int32) (p2 : Int32) (p3 : Int32) (p4 : Int32) (p5 : Int32) : Option (Int32) :=
  if p1 = 4 then
    (gI ce 9 11 this).bind fun x1 =>
    (rcv ce 9 this).bind fun z2 =>
    (m_X12_byteAt ce this x1).bind fun x3 =>
    if x3 = p2 then
      (gI ce 9 11 this).bind fun x4 =>
      (rcv ce 9 this).bind fun z5 =>
      (m_X12_byteAt ce this (x4 + 1)).bind fun x6 =>
      if x6 = p3 then
        (gI ce 9 11 this).bind fun x7 =>
        (rcv ce 9 this).bind fun z8 =>
        (m_X12_byteAt ce this (x7 + 2)).bind fun x9 =>
        if x9 = p4 then
          (gI ce 9 11 this).bind fun x10 =>
          (rcv ce 9 this).bind fun z11 =>
          (m_X12_byteAt ce this (x10 + 3)).bind fun x12 =>
          if x12 = p5 then
            some 1
          else
            some 0
        else
          some 0
      else
        some 0
    else
      some 0
  else
    some 0
set_option maxRecDepth 100000 in
set_option maxHeartbeats 4000000 in
theorem c_X12_isFour {nx : Nat} {ce : Ce} {this : Nat} {p1 : Int32} {p2 : Int32} {p3 : Int32} {p4 : Int32} {p5 : Int32} {q : Int32} (hr : m_X12_isFour ce this p1 p2 p3 p4 p5 = some q) : Ct yX12_isFour cX12_isFour 6 (some .boolean) 1 21 0 0 [.ref this, .int p1, .int p2, .int p3, .int p4, .int p5] nx ce (some (.int q)) ce := by
  unfold m_X12_isFour at hr
  refine ct_of (by decide) (by decide) ?_
  intro G C hq hret hin
  show Jd G 0 0 nx ce 0 [(0, .ref this), (1, .int p1), (2, .int p2), (3, .int p3), (4, .int p4), (5, .int p5)] []
  refine j_iload_n (q := 1) (pc' := 1) C dX12_isFour_0 rfl rfl rfl ?_
  refine j_iconst (v := 4) (pc' := 2) C dX12_isFour_1 kI_4 rfl ?_
  refine j_ic_ne (tgt := 65) (pc' := 5) C dX12_isFour_2 rfl rfl (fun hc => ?_) (fun hc => ?_)
  · have hr := ifF hc hr
    clear hc
    refine j_iconst (v := 0) (pc' := 66) C dX12_isFour_65 kI_0 rfl ?_
    have hr := Option.some.inj hr
    subst hr
    exact j_zret C hq hret rfl dX12_isFour_66
  · have hr := ifT hc hr
    clear hc
    refine j_aload_n (q := 0) (pc' := 6) C dX12_isFour_5 rfl rfl rfl ?_
    refine j_aload_n (q := 0) (pc' := 7) C dX12_isFour_6 rfl rfl rfl ?_
    obtain ⟨x1, hx1, hr⟩ := ob hr
    refine j_getI (pc' := 10) C dX12_isFour_7 fl_X12_131 hx1 rfl ?_
    obtain ⟨z2, hz2, hr⟩ := ob hr
    obtain ⟨x3, hx3, hr⟩ := ob hr
    obtain ⟨fhz2, hz2⟩ := rcv_sp hz2
    refine j_callV (ci := 9) (As := [.int x1]) (rest := []) (st1 := [.int x3]) (pc' := 13) C ⟨wm_1541, wm_41⟩ rfl hz2 (c_X12_byteAt (nx := nx) hx3) yw_X12_byteAt wm_1539 rfl rfl (by decide) ⟨by decide, by decide⟩ dX12_isFour_10 rfl rfl ?_
    refine j_iload_n (q := 2) (pc' := 14) C dX12_isFour_13 rfl rfl rfl ?_
    refine j_ic_ne (tgt := 65) (pc' := 17) C dX12_isFour_14 rfl rfl (fun hc => ?_) (fun hc => ?_)
    · have hr := ifF hc hr
      clear hc
      refine j_iconst (v := 0) (pc' := 66) C dX12_isFour_65 kI_0 rfl ?_
      have hr := Option.some.inj hr
      subst hr
      exact j_zret C hq hret rfl dX12_isFour_66
    · have hr := ifT hc hr
      clear hc
      refine j_aload_n (q := 0) (pc' := 18) C dX12_isFour_17 rfl rfl rfl ?_
      refine j_aload_n (q := 0) (pc' := 19) C dX12_isFour_18 rfl rfl rfl ?_
      obtain ⟨x4, hx4, hr⟩ := ob hr
      refine j_getI (pc' := 22) C dX12_isFour_19 fl_X12_131 hx4 rfl ?_
      refine j_iconst (v := 1) (pc' := 23) C dX12_isFour_22 kI_1 rfl ?_
      refine j_iadd (pc' := 24) C dX12_isFour_23 rfl ?_
      obtain ⟨z5, hz5, hr⟩ := ob hr
      obtain ⟨x6, hx6, hr⟩ := ob hr
      obtain ⟨fhz5, hz5⟩ := rcv_sp hz5
      refine j_callV (ci := 9) (As := [.int (x4 + 1)]) (rest := []) (st1 := [.int x6]) (pc' := 27) C ⟨wm_1541, wm_41⟩ rfl hz5 (c_X12_byteAt (nx := nx) hx6) yw_X12_byteAt wm_1539 rfl rfl (by decide) ⟨by decide, by decide⟩ dX12_isFour_24 rfl rfl ?_
      refine j_iload_n (q := 3) (pc' := 28) C dX12_isFour_27 rfl rfl rfl ?_
      refine j_ic_ne (tgt := 65) (pc' := 31) C dX12_isFour_28 rfl rfl (fun hc => ?_) (fun hc => ?_)
      · have hr := ifF hc hr
        clear hc
        refine j_iconst (v := 0) (pc' := 66) C dX12_isFour_65 kI_0 rfl ?_
        have hr := Option.some.inj hr
        subst hr
        exact j_zret C hq hret rfl dX12_isFour_66
      · have hr := ifT hc hr
        clear hc
        refine j_aload_n (q := 0) (pc' := 32) C dX12_isFour_31 rfl rfl rfl ?_
        refine j_aload_n (q := 0) (pc' := 33) C dX12_isFour_32 rfl rfl rfl ?_
        obtain ⟨x7, hx7, hr⟩ := ob hr
        refine j_getI (pc' := 36) C dX12_isFour_33 fl_X12_131 hx7 rfl ?_
        refine j_iconst (v := 2) (pc' := 37) C dX12_isFour_36 kI_2 rfl ?_
        refine j_iadd (pc' := 38) C dX12_isFour_37 rfl ?_
        obtain ⟨z8, hz8, hr⟩ := ob hr
        obtain ⟨x9, hx9, hr⟩ := ob hr
        obtain ⟨fhz8, hz8⟩ := rcv_sp hz8
        refine j_callV (ci := 9) (As := [.int (x7 + 2)]) (rest := []) (st1 := [.int x9]) (pc' := 41) C ⟨wm_1541, wm_41⟩ rfl hz8 (c_X12_byteAt (nx := nx) hx9) yw_X12_byteAt wm_1539 rfl rfl (by decide) ⟨by decide, by decide⟩ dX12_isFour_38 rfl rfl ?_
        refine j_iload (q := 4) (pc' := 43) C dX12_isFour_41 rfl rfl ?_
        refine j_ic_ne (tgt := 65) (pc' := 46) C dX12_isFour_43 rfl rfl (fun hc => ?_) (fun hc => ?_)
        · have hr := ifF hc hr
          clear hc
          refine j_iconst (v := 0) (pc' := 66) C dX12_isFour_65 kI_0 rfl ?_
          have hr := Option.some.inj hr
          subst hr
          exact j_zret C hq hret rfl dX12_isFour_66
        · have hr := ifT hc hr
          clear hc
          refine j_aload_n (q := 0) (pc' := 47) C dX12_isFour_46 rfl rfl rfl ?_
          refine j_aload_n (q := 0) (pc' := 48) C dX12_isFour_47 rfl rfl rfl ?_
          obtain ⟨x10, hx10, hr⟩ := ob hr
          refine j_getI (pc' := 51) C dX12_isFour_48 fl_X12_131 hx10 rfl ?_
          refine j_iconst (v := 3) (pc' := 52) C dX12_isFour_51 kI_3 rfl ?_
          refine j_iadd (pc' := 53) C dX12_isFour_52 rfl ?_
          obtain ⟨z11, hz11, hr⟩ := ob hr
          obtain ⟨x12, hx12, hr⟩ := ob hr
          obtain ⟨fhz11, hz11⟩ := rcv_sp hz11
          refine j_callV (ci := 9) (As := [.int (x10 + 3)]) (rest := []) (st1 := [.int x12]) (pc' := 56) C ⟨wm_1541, wm_41⟩ rfl hz11 (c_X12_byteAt (nx := nx) hx12) yw_X12_byteAt wm_1539 rfl rfl (by decide) ⟨by decide, by decide⟩ dX12_isFour_53 rfl rfl ?_
          refine j_iload (q := 5) (pc' := 58) C dX12_isFour_56 rfl rfl ?_
          refine j_ic_ne (tgt := 65) (pc' := 61) C dX12_isFour_58 rfl rfl (fun hc => ?_) (fun hc => ?_)
          · have hr := ifF hc hr
            clear hc
            refine j_iconst (v := 0) (pc' := 66) C dX12_isFour_65 kI_0 rfl ?_
            have hr := Option.some.inj hr
            subst hr
            exact j_zret C hq hret rfl dX12_isFour_66
          · have hr := ifT hc hr
            clear hc
            refine j_iconst (v := 1) (pc' := 62) C dX12_isFour_61 kI_1 rfl ?_
            refine j_goto (tgt := 66) C dX12_isFour_62 rfl ?_
            have hr := Option.some.inj hr
            subst hr
            exact j_zret C hq hret rfl dX12_isFour_66
def m_X12_wordOf (ce : Ce) (this : Nat) (p1 : Int32) : Option (Int32 × Ce) :=
  (gI ce 9 11 this).bind fun x1 =>
  (rcv ce 9 this).bind fun z2 =>
  (m_X12_byteAt ce this x1).bind fun x3 =>
  (pV ce 9 13 this (.int (x3 - 97))).bind fun c4 =>
  (
    if p1 = 1 then
      if 102 < x3 then
        some (Sum.inr ())
      else
        some (Sum.inl 204)
    else
      some (Sum.inr ())
  ).bind fun j5 => Sum.elim (fun wj5 => some (wj5, c6)) (fun vj5 =>
    (pV c4 9 13 this (.int (x3 - 120))).bind fun c6 =>
    (
      if p1 = 1 then
        if x3 = 120 then
          some (Sum.inl 205)
        else
          if x3 = 121 then
            some (Sum.inl 205)
          else
            some (Sum.inr ())
      else
        some (Sum.inr ())
    ).bind fun j7 => Sum.elim (fun wj7 => some (wj7, c6)) (fun vj7 =>
      (rcv c6 9 this).bind fun z8 =>
      (m_X12_isFour c6 this p1 105 110 105 116).bind fun x9 =>
      if x9 = 0 then
        (rcv c6 9 this).bind fun z10 =>
        (m_X12_isFour c6 this p1 110 101 120 116).bind fun x11 =>
        if x11 = 0 then
          (
            if p1 = 3 then
              if x3 = 98 then
                (gI c6 9 11 this).bind fun x27 =>
                (rcv c6 9 this).bind fun z28 =>
                (m_X12_byteAt c6 this (x27 + 1)).bind fun x29 =>
                if x29 = 97 then
                  (gI c6 9 11 this).bind fun x30 =>
                  (rcv c6 9 this).bind fun z31 =>
                  (m_X12_byteAt c6 this (x30 + 2)).bind fun x32 =>
                  if x32 = 100 then
                    some (Sum.inl 202)
                  else
                    some (Sum.inr ())
                else
                  some (Sum.inr ())
              else
                some (Sum.inr ())
            else
              some (Sum.inr ())
          ).bind fun j12 => Sum.elim (fun wj12 => some (wj12, c6)) (fun vj12 =>
            (
              if p1 = 7 then
                (gI c6 9 11 this).bind fun x16 =>
                (rcv c6 9 this).bind fun z17 =>
                (m_X12_byteAt c6 this (x16 + 4)).bind fun x18 =>
                if x18 = 101 then
                  (gI c6 9 11 this).bind fun x19 =>
                  (rcv c6 9 this).bind fun z20 =>
                  (m_X12_byteAt c6 this (x19 + 5)).bind fun x21 =>
                  if x21 = 114 then
                    (gI c6 9 11 this).bind fun x22 =>
                    (rcv c6 9 this).bind fun z23 =>
                    (m_X12_byteAt c6 this (x22 + 6)).bind fun x24 =>
                    if x24 = 115 then
                      if 1 = 0 then
                        some (Sum.inl 2)
                      else
                        (rcv c6 9 this).bind fun z25 =>
                        (m_X12_isFour c6 this 4 108 101 116 116).bind fun x26 =>
                        if x26 = 0 then
                          some (Sum.inl 2)
                        else
                          some (Sum.inl 200)
                    else
                      some (Sum.inr ())
                  else
                    some (Sum.inr ())
                else
                  some (Sum.inr ())
              else
                some (Sum.inr ())
            ).bind fun j13 => Sum.elim (fun wj13 => some (wj13, c6)) (fun vj13 =>
              if 0 = 0 then
                some (2, c6)
              else
                (rcv c6 9 this).bind fun z14 =>
                (m_X12_isFour c6 this 4 108 101 116 116).bind fun x15 =>
                if x15 = 0 then
                  some (2, c6)
                else
                  some (200, c6)
            ) j13
          ) j12
        else
          some (203, c6)
      else
        some (201, c6)
    ) j7
  ) j5
set_option maxRecDepth 100000 in
set_option maxHeartbeats 4000000 in
theorem c_X12_wordOf {nx : Nat} {ce : Ce} {this : Nat} {p1 : Int32} {q : Int32 × Ce} (hr : m_X12_wordOf ce this p1 = some q) : Ct yX12_wordOf cX12_wordOf 4 (some .int) 2 46 0 0 [.ref this, .int p1] nx ce (some (.int q.1)) q.2 := by
  unfold m_X12_wordOf at hr
  refine ct_of (by decide) (by decide) ?_
  intro G C hq hret hin
  show Jd G 0 0 nx ce 0 [(0, .ref this), (1, .int p1)] []
  refine j_aload_n (q := 0) (pc' := 1) C dX12_wordOf_0 rfl rfl rfl ?_
  refine j_aload_n (q := 0) (pc' := 2) C dX12_wordOf_1 rfl rfl rfl ?_
  obtain ⟨x1, hx1, hr⟩ := ob hr
  refine j_getI (pc' := 5) C dX12_wordOf_2 fl_X12_131 hx1 rfl ?_
  obtain ⟨z2, hz2, hr⟩ := ob hr
  obtain ⟨x3, hx3, hr⟩ := ob hr
  obtain ⟨fhz2, hz2⟩ := rcv_sp hz2
  refine j_callV (ci := 9) (As := [.int x1]) (rest := []) (st1 := [.int x3]) (pc' := 8) C ⟨wm_1541, wm_41⟩ rfl hz2 (c_X12_byteAt (nx := nx) hx3) yw_X12_byteAt wm_1539 rfl rfl (by decide) ⟨by decide, by decide⟩ dX12_wordOf_5 rfl rfl ?_
  refine j_istore_n (lv' := [(2, .int x3), (0, .ref this), (1, .int p1)]) (pc' := 9) C dX12_wordOf_8 rfl (by decide) rfl rfl ?_
  refine j_aload_n (q := 1) (pc' := 10) C dX12_wordOf_9 rfl rfl rfl ?_
  refine j_iload_n (q := 0) (pc' := 11) C dX12_wordOf_10 rfl rfl rfl ?_
  refine j_bipush (v := 97) (pc' := 13) C dX12_wordOf_11 kB_97 rfl ?_
  refine j_isub (pc' := 14) C dX12_wordOf_13 rfl ?_
  obtain ⟨c4, hc4, hr⟩ := ob hr
  refine j_put (pc' := 17) C dX12_wordOf_14 fw_X12_138 rfl rfl hc4 rfl ?_
  refine j_iload_n (q := 2) (pc' := 18) C dX12_wordOf_17 rfl rfl rfl ?_
  refine j_iconst (v := 1) (pc' := 19) C dX12_wordOf_18 kI_1 rfl ?_
  obtain ⟨j5, hj5, rj5⟩ := ob hr
  have kj5 : ∀ vj5, j5 = Sum.inr vj5 → Jd G 0 0 nx c4 32 [(0, .ref this), (1, .int p1), (2, .int x3)] [] := by
    intro vj5 ej5
    rw [ej5] at rj5
    have hr := elR rj5
    refine j_aload_n (q := 0) (pc' := 33) C dX12_wordOf_32 rfl rfl rfl ?_
    refine j_iload_n (q := 2) (pc' := 34) C dX12_wordOf_33 rfl rfl rfl ?_
    refine j_bipush (v := 120) (pc' := 36) C dX12_wordOf_34 kB_120 rfl ?_
    refine j_isub (pc' := 37) C dX12_wordOf_36 rfl ?_
    obtain ⟨c6, hc6, hr⟩ := ob hr
    refine j_put (pc' := 40) C dX12_wordOf_37 fw_X12_138 rfl rfl hc6 rfl ?_
    refine j_iload_n (q := 1) (pc' := 41) C dX12_wordOf_40 rfl rfl rfl ?_
    refine j_iconst (v := 1) (pc' := 42) C dX12_wordOf_41 kI_1 rfl ?_
    obtain ⟨j7, hj7, rj7⟩ := ob hr
    have kj7 : ∀ vj7, j7 = Sum.inr vj7 → Jd G 0 0 nx c6 61 [(0, .ref this), (1, .int p1), (2, .int x3)] [] := by
      intro vj7 ej7
      rw [ej7] at rj7
      have hr := elR rj7
      refine j_aload_n (q := 0) (pc' := 62) C dX12_wordOf_61 rfl rfl rfl ?_
      refine j_iload_n (q := 1) (pc' := 63) C dX12_wordOf_62 rfl rfl rfl ?_
      refine j_bipush (v := 105) (pc' := 65) C dX12_wordOf_63 kB_105 rfl ?_
      refine j_bipush (v := 110) (pc' := 67) C dX12_wordOf_65 kB_110 rfl ?_
      refine j_bipush (v := 105) (pc' := 69) C dX12_wordOf_67 kB_105 rfl ?_
      refine j_bipush (v := 116) (pc' := 71) C dX12_wordOf_69 kB_116 rfl ?_
      obtain ⟨z8, hz8, hr⟩ := ob hr
      obtain ⟨x9, hx9, hr⟩ := ob hr
      obtain ⟨fhz8, hz8⟩ := rcv_sp hz8
      refine j_callV (ci := 9) (As := [.int p1, .int 105, .int 110, .int 105, .int 116]) (rest := []) (st1 := [.int x9]) (pc' := 74) C ⟨wm_1555, wm_43⟩ rfl hz8 (c_X12_isFour (nx := nx) hx9) yw_X12_isFour wm_1553 rfl rfl (by decide) ⟨by decide, by decide⟩ dX12_wordOf_71 rfl rfl ?_
      refine j_if_eq (tgt := 81) (pc' := 77) C dX12_wordOf_74 rfl rfl (fun hc => ?_) (fun hc => ?_)
      · have hr := ifT hc hr
        clear hc
        refine j_aload_n (q := 0) (pc' := 82) C dX12_wordOf_81 rfl rfl rfl ?_
        refine j_iload_n (q := 1) (pc' := 83) C dX12_wordOf_82 rfl rfl rfl ?_
        refine j_bipush (v := 110) (pc' := 85) C dX12_wordOf_83 kB_110 rfl ?_
        refine j_bipush (v := 101) (pc' := 87) C dX12_wordOf_85 kB_101 rfl ?_
        refine j_bipush (v := 120) (pc' := 89) C dX12_wordOf_87 kB_120 rfl ?_
        refine j_bipush (v := 116) (pc' := 91) C dX12_wordOf_89 kB_116 rfl ?_
        obtain ⟨z10, hz10, hr⟩ := ob hr
        obtain ⟨x11, hx11, hr⟩ := ob hr
        obtain ⟨fhz10, hz10⟩ := rcv_sp hz10
        refine j_callV (ci := 9) (As := [.int p1, .int 110, .int 101, .int 120, .int 116]) (rest := []) (st1 := [.int x11]) (pc' := 94) C ⟨wm_1555, wm_43⟩ rfl hz10 (c_X12_isFour (nx := nx) hx11) yw_X12_isFour wm_1553 rfl rfl (by decide) ⟨by decide, by decide⟩ dX12_wordOf_91 rfl rfl ?_
        refine j_if_eq (tgt := 101) (pc' := 97) C dX12_wordOf_94 rfl rfl (fun hc => ?_) (fun hc => ?_)
        · have hr := ifT hc hr
          clear hc
          refine j_iload_n (q := 1) (pc' := 102) C dX12_wordOf_101 rfl rfl rfl ?_
          refine j_iconst (v := 3) (pc' := 103) C dX12_wordOf_102 kI_3 rfl ?_
          obtain ⟨j12, hj12, rj12⟩ := ob hr
          have kj12 : ∀ vj12, j12 = Sum.inr vj12 → Jd G 0 0 nx c6 146 [(0, .ref this), (1, .int p1)] [] := by
            intro vj12 ej12
            rw [ej12] at rj12
            have hr := elR rj12
            refine j_iload_n (q := 1) (pc' := 147) C dX12_wordOf_146 rfl rfl rfl ?_
            refine j_bipush (v := 7) (pc' := 149) C dX12_wordOf_147 kB_7 rfl ?_
            obtain ⟨j13, hj13, rj13⟩ := ob hr
            have kj13 : ∀ vj13, j13 = Sum.inr vj13 → Jd G 0 0 nx c6 202 [(0, .ref this)] [] := by
              intro vj13 ej13
              rw [ej13] at rj13
              have hr := elR rj13
              refine j_iconst (v := 0) (pc' := 203) C dX12_wordOf_202 kI_0 rfl ?_
              refine j_istore_n (lv' := [(3, .int 0), (0, .ref this)]) (pc' := 204) C dX12_wordOf_203 rfl (by decide) rfl rfl ?_
              refine j_iload_n (q := 0) (pc' := 205) C dX12_wordOf_204 rfl rfl rfl ?_
              refine j_if_eq (tgt := 230) (pc' := 208) C dX12_wordOf_205 rfl rfl (fun hc => ?_) (fun hc => ?_)
              · have hr := ifT hc hr
                clear hc
                refine j_iconst (v := 2) (pc' := 231) C dX12_wordOf_230 kI_2 rfl ?_
                have hr := Option.some.inj hr
                subst hr
                exact j_iret C hq hret dX12_wordOf_231
              · have hr := ifF hc hr
                clear hc
                refine j_aload_n (q := 1) (pc' := 209) C dX12_wordOf_208 rfl rfl rfl ?_
                refine j_iconst (v := 4) (pc' := 210) C dX12_wordOf_209 kI_4 rfl ?_
                refine j_bipush (v := 108) (pc' := 212) C dX12_wordOf_210 kB_108 rfl ?_
                refine j_bipush (v := 101) (pc' := 214) C dX12_wordOf_212 kB_101 rfl ?_
                refine j_bipush (v := 116) (pc' := 216) C dX12_wordOf_214 kB_116 rfl ?_
                refine j_bipush (v := 116) (pc' := 218) C dX12_wordOf_216 kB_116 rfl ?_
                obtain ⟨z14, hz14, hr⟩ := ob hr
                obtain ⟨x15, hx15, hr⟩ := ob hr
                obtain ⟨fhz14, hz14⟩ := rcv_sp hz14
                refine j_callV (ci := 9) (As := [.int 4, .int 108, .int 101, .int 116, .int 116]) (rest := []) (st1 := [.int x15]) (pc' := 221) C ⟨wm_1555, wm_43⟩ rfl hz14 (c_X12_isFour (nx := nx) hx15) yw_X12_isFour wm_1553 rfl rfl (by decide) ⟨by decide, by decide⟩ dX12_wordOf_218 rfl rfl ?_
                refine j_if_eq (tgt := 230) (pc' := 224) C dX12_wordOf_221 rfl rfl (fun hc => ?_) (fun hc => ?_)
                · have hr := ifT hc hr
                  clear hc
                  refine j_iconst (v := 2) (pc' := 231) C dX12_wordOf_230 kI_2 rfl ?_
                  have hr := Option.some.inj hr
                  subst hr
                  exact j_iret C hq hret dX12_wordOf_231
                · have hr := ifF hc hr
                  clear hc
                  refine j_sipush (v := 200) (pc' := 227) C dX12_wordOf_224 kS_200 rfl ?_
                  refine j_goto (tgt := 231) C dX12_wordOf_227 rfl ?_
                  have hr := Option.some.inj hr
                  subst hr
                  exact j_iret C hq hret dX12_wordOf_231
            have hr := hj13
            clear hj13
            refine j_ic_ne (tgt := 202) (pc' := 152) C dX12_wordOf_149 rfl rfl (fun hc => ?_) (fun hc => ?_)
            · have hr := ifF hc hr
              clear hc
              have hr := Option.some.inj hr
              subst hr
              exact j_lv [0] rfl (kj13 _ rfl)
            · have hr := ifT hc hr
              clear hc
              refine j_aload_n (q := 0) (pc' := 153) C dX12_wordOf_152 rfl rfl rfl ?_
              refine j_aload_n (q := 0) (pc' := 154) C dX12_wordOf_153 rfl rfl rfl ?_
              obtain ⟨x16, hx16, hr⟩ := ob hr
              refine j_getI (pc' := 157) C dX12_wordOf_154 fl_X12_131 hx16 rfl ?_
              refine j_iconst (v := 4) (pc' := 158) C dX12_wordOf_157 kI_4 rfl ?_
              refine j_iadd (pc' := 159) C dX12_wordOf_158 rfl ?_
              obtain ⟨z17, hz17, hr⟩ := ob hr
              obtain ⟨x18, hx18, hr⟩ := ob hr
              obtain ⟨fhz17, hz17⟩ := rcv_sp hz17
              refine j_callV (ci := 9) (As := [.int (x16 + 4)]) (rest := []) (st1 := [.int x18]) (pc' := 162) C ⟨wm_1541, wm_41⟩ rfl hz17 (c_X12_byteAt (nx := nx) hx18) yw_X12_byteAt wm_1539 rfl rfl (by decide) ⟨by decide, by decide⟩ dX12_wordOf_159 rfl rfl ?_
              refine j_bipush (v := 101) (pc' := 164) C dX12_wordOf_162 kB_101 rfl ?_
              refine j_ic_ne (tgt := 202) (pc' := 167) C dX12_wordOf_164 rfl rfl (fun hc => ?_) (fun hc => ?_)
              · have hr := ifF hc hr
                clear hc
                have hr := Option.some.inj hr
                subst hr
                exact j_lv [0] rfl (kj13 _ rfl)
              · have hr := ifT hc hr
                clear hc
                refine j_aload_n (q := 0) (pc' := 168) C dX12_wordOf_167 rfl rfl rfl ?_
                refine j_aload_n (q := 0) (pc' := 169) C dX12_wordOf_168 rfl rfl rfl ?_
                obtain ⟨x19, hx19, hr⟩ := ob hr
                refine j_getI (pc' := 172) C dX12_wordOf_169 fl_X12_131 hx19 rfl ?_
                refine j_iconst (v := 5) (pc' := 173) C dX12_wordOf_172 kI_5 rfl ?_
                refine j_iadd (pc' := 174) C dX12_wordOf_173 rfl ?_
                obtain ⟨z20, hz20, hr⟩ := ob hr
                obtain ⟨x21, hx21, hr⟩ := ob hr
                obtain ⟨fhz20, hz20⟩ := rcv_sp hz20
                refine j_callV (ci := 9) (As := [.int (x19 + 5)]) (rest := []) (st1 := [.int x21]) (pc' := 177) C ⟨wm_1541, wm_41⟩ rfl hz20 (c_X12_byteAt (nx := nx) hx21) yw_X12_byteAt wm_1539 rfl rfl (by decide) ⟨by decide, by decide⟩ dX12_wordOf_174 rfl rfl ?_
                refine j_bipush (v := 114) (pc' := 179) C dX12_wordOf_177 kB_114 rfl ?_
                refine j_ic_ne (tgt := 202) (pc' := 182) C dX12_wordOf_179 rfl rfl (fun hc => ?_) (fun hc => ?_)
                · have hr := ifF hc hr
                  clear hc
                  have hr := Option.some.inj hr
                  subst hr
                  exact j_lv [0] rfl (kj13 _ rfl)
                · have hr := ifT hc hr
                  clear hc
                  refine j_aload_n (q := 0) (pc' := 183) C dX12_wordOf_182 rfl rfl rfl ?_
                  refine j_aload_n (q := 0) (pc' := 184) C dX12_wordOf_183 rfl rfl rfl ?_
                  obtain ⟨x22, hx22, hr⟩ := ob hr
                  refine j_getI (pc' := 187) C dX12_wordOf_184 fl_X12_131 hx22 rfl ?_
                  refine j_bipush (v := 6) (pc' := 189) C dX12_wordOf_187 kB_6 rfl ?_
                  refine j_iadd (pc' := 190) C dX12_wordOf_189 rfl ?_
                  obtain ⟨z23, hz23, hr⟩ := ob hr
                  obtain ⟨x24, hx24, hr⟩ := ob hr
                  obtain ⟨fhz23, hz23⟩ := rcv_sp hz23
                  refine j_callV (ci := 9) (As := [.int (x22 + 6)]) (rest := []) (st1 := [.int x24]) (pc' := 193) C ⟨wm_1541, wm_41⟩ rfl hz23 (c_X12_byteAt (nx := nx) hx24) yw_X12_byteAt wm_1539 rfl rfl (by decide) ⟨by decide, by decide⟩ dX12_wordOf_190 rfl rfl ?_
                  refine j_bipush (v := 115) (pc' := 195) C dX12_wordOf_193 kB_115 rfl ?_
                  refine j_ic_ne (tgt := 202) (pc' := 198) C dX12_wordOf_195 rfl rfl (fun hc => ?_) (fun hc => ?_)
                  · have hr := ifF hc hr
                    clear hc
                    have hr := Option.some.inj hr
                    subst hr
                    exact j_lv [0] rfl (kj13 _ rfl)
                  · have hr := ifT hc hr
                    clear hc
                    refine j_iconst (v := 1) (pc' := 199) C dX12_wordOf_198 kI_1 rfl ?_
                    refine j_goto (tgt := 203) C dX12_wordOf_199 rfl ?_
                    refine j_istore_n (lv' := [(3, .int 1), (0, .ref this), (1, .int p1)]) (pc' := 204) C dX12_wordOf_203 rfl (by decide) rfl rfl ?_
                    refine j_iload_n (q := 0) (pc' := 205) C dX12_wordOf_204 rfl rfl rfl ?_
                    refine j_if_eq (tgt := 230) (pc' := 208) C dX12_wordOf_205 rfl rfl (fun hc => ?_) (fun hc => ?_)
                    · have hr := ifT hc hr
                      clear hc
                      refine j_iconst (v := 2) (pc' := 231) C dX12_wordOf_230 kI_2 rfl ?_
                      have hr := Option.some.inj hr
                      subst hr
                      have hr := elL rj13
                      have hr := Option.some.inj hr
                      subst hr
                      exact j_iret C hq hret dX12_wordOf_231
                    · have hr := ifF hc hr
                      clear hc
                      refine j_aload_n (q := 1) (pc' := 209) C dX12_wordOf_208 rfl rfl rfl ?_
                      refine j_iconst (v := 4) (pc' := 210) C dX12_wordOf_209 kI_4 rfl ?_
                      refine j_bipush (v := 108) (pc' := 212) C dX12_wordOf_210 kB_108 rfl ?_
                      refine j_bipush (v := 101) (pc' := 214) C dX12_wordOf_212 kB_101 rfl ?_
                      refine j_bipush (v := 116) (pc' := 216) C dX12_wordOf_214 kB_116 rfl ?_
                      refine j_bipush (v := 116) (pc' := 218) C dX12_wordOf_216 kB_116 rfl ?_
                      obtain ⟨z25, hz25, hr⟩ := ob hr
                      obtain ⟨x26, hx26, hr⟩ := ob hr
                      obtain ⟨fhz25, hz25⟩ := rcv_sp hz25
                      refine j_callV (ci := 9) (As := [.int 4, .int 108, .int 101, .int 116, .int 116]) (rest := []) (st1 := [.int x26]) (pc' := 221) C ⟨wm_1555, wm_43⟩ rfl hz25 (c_X12_isFour (nx := nx) hx26) yw_X12_isFour wm_1553 rfl rfl (by decide) ⟨by decide, by decide⟩ dX12_wordOf_218 rfl rfl ?_
                      refine j_if_eq (tgt := 230) (pc' := 224) C dX12_wordOf_221 rfl rfl (fun hc => ?_) (fun hc => ?_)
                      · have hr := ifT hc hr
                        clear hc
                        refine j_iconst (v := 2) (pc' := 231) C dX12_wordOf_230 kI_2 rfl ?_
                        have hr := Option.some.inj hr
                        subst hr
                        have hr := elL rj13
                        have hr := Option.some.inj hr
                        subst hr
                        exact j_iret C hq hret dX12_wordOf_231
                      · have hr := ifF hc hr
                        clear hc
                        refine j_sipush (v := 200) (pc' := 227) C dX12_wordOf_224 kS_200 rfl ?_
                        refine j_goto (tgt := 231) C dX12_wordOf_227 rfl ?_
                        have hr := Option.some.inj hr
                        subst hr
                        have hr := elL rj13
                        have hr := Option.some.inj hr
                        subst hr
                        exact j_iret C hq hret dX12_wordOf_231
          have hr := hj12
          clear hj12
          refine j_ic_ne (tgt := 146) (pc' := 106) C dX12_wordOf_103 rfl rfl (fun hc => ?_) (fun hc => ?_)
          · have hr := ifF hc hr
            clear hc
            have hr := Option.some.inj hr
            subst hr
            exact j_lv [0, 1] rfl (kj12 _ rfl)
          · have hr := ifT hc hr
            clear hc
            refine j_iload_n (q := 2) (pc' := 107) C dX12_wordOf_106 rfl rfl rfl ?_
            refine j_bipush (v := 98) (pc' := 109) C dX12_wordOf_107 kB_98 rfl ?_
            refine j_ic_ne (tgt := 146) (pc' := 112) C dX12_wordOf_109 rfl rfl (fun hc => ?_) (fun hc => ?_)
            · have hr := ifF hc hr
              clear hc
              have hr := Option.some.inj hr
              subst hr
              exact j_lv [0, 1] rfl (kj12 _ rfl)
            · have hr := ifT hc hr
              clear hc
              refine j_aload_n (q := 0) (pc' := 113) C dX12_wordOf_112 rfl rfl rfl ?_
              refine j_aload_n (q := 0) (pc' := 114) C dX12_wordOf_113 rfl rfl rfl ?_
              obtain ⟨x27, hx27, hr⟩ := ob hr
              refine j_getI (pc' := 117) C dX12_wordOf_114 fl_X12_131 hx27 rfl ?_
              refine j_iconst (v := 1) (pc' := 118) C dX12_wordOf_117 kI_1 rfl ?_
              refine j_iadd (pc' := 119) C dX12_wordOf_118 rfl ?_
              obtain ⟨z28, hz28, hr⟩ := ob hr
              obtain ⟨x29, hx29, hr⟩ := ob hr
              obtain ⟨fhz28, hz28⟩ := rcv_sp hz28
              refine j_callV (ci := 9) (As := [.int (x27 + 1)]) (rest := []) (st1 := [.int x29]) (pc' := 122) C ⟨wm_1541, wm_41⟩ rfl hz28 (c_X12_byteAt (nx := nx) hx29) yw_X12_byteAt wm_1539 rfl rfl (by decide) ⟨by decide, by decide⟩ dX12_wordOf_119 rfl rfl ?_
              refine j_bipush (v := 97) (pc' := 124) C dX12_wordOf_122 kB_97 rfl ?_
              refine j_ic_ne (tgt := 146) (pc' := 127) C dX12_wordOf_124 rfl rfl (fun hc => ?_) (fun hc => ?_)
              · have hr := ifF hc hr
                clear hc
                have hr := Option.some.inj hr
                subst hr
                exact j_lv [0, 1] rfl (kj12 _ rfl)
              · have hr := ifT hc hr
                clear hc
                refine j_aload_n (q := 0) (pc' := 128) C dX12_wordOf_127 rfl rfl rfl ?_
                refine j_aload_n (q := 0) (pc' := 129) C dX12_wordOf_128 rfl rfl rfl ?_
                obtain ⟨x30, hx30, hr⟩ := ob hr
                refine j_getI (pc' := 132) C dX12_wordOf_129 fl_X12_131 hx30 rfl ?_
                refine j_iconst (v := 2) (pc' := 133) C dX12_wordOf_132 kI_2 rfl ?_
                refine j_iadd (pc' := 134) C dX12_wordOf_133 rfl ?_
                obtain ⟨z31, hz31, hr⟩ := ob hr
                obtain ⟨x32, hx32, hr⟩ := ob hr
                obtain ⟨fhz31, hz31⟩ := rcv_sp hz31
                refine j_callV (ci := 9) (As := [.int (x30 + 2)]) (rest := []) (st1 := [.int x32]) (pc' := 137) C ⟨wm_1541, wm_41⟩ rfl hz31 (c_X12_byteAt (nx := nx) hx32) yw_X12_byteAt wm_1539 rfl rfl (by decide) ⟨by decide, by decide⟩ dX12_wordOf_134 rfl rfl ?_
                refine j_bipush (v := 100) (pc' := 139) C dX12_wordOf_137 kB_100 rfl ?_
                refine j_ic_ne (tgt := 146) (pc' := 142) C dX12_wordOf_139 rfl rfl (fun hc => ?_) (fun hc => ?_)
                · have hr := ifF hc hr
                  clear hc
                  have hr := Option.some.inj hr
                  subst hr
                  exact j_lv [0, 1] rfl (kj12 _ rfl)
                · have hr := ifT hc hr
                  clear hc
                  refine j_sipush (v := 202) (pc' := 145) C dX12_wordOf_142 kS_202 rfl ?_
                  have hr := Option.some.inj hr
                  subst hr
                  have hr := elL rj12
                  have hr := Option.some.inj hr
                  subst hr
                  exact j_iret C hq hret dX12_wordOf_145
        · have hr := ifF hc hr
          clear hc
          refine j_sipush (v := 203) (pc' := 100) C dX12_wordOf_97 kS_203 rfl ?_
          have hr := Option.some.inj hr
          subst hr
          exact j_iret C hq hret dX12_wordOf_100
      · have hr := ifF hc hr
        clear hc
        refine j_sipush (v := 201) (pc' := 80) C dX12_wordOf_77 kS_201 rfl ?_
        have hr := Option.some.inj hr
        subst hr
        exact j_iret C hq hret dX12_wordOf_80
    have hr := hj7
    clear hj7
    refine j_ic_ne (tgt := 61) (pc' := 45) C dX12_wordOf_42 rfl rfl (fun hc => ?_) (fun hc => ?_)
    · have hr := ifF hc hr
      clear hc
      have hr := Option.some.inj hr
      subst hr
      exact j_lv [0, 1, 2] rfl (kj7 _ rfl)
    · have hr := ifT hc hr
      clear hc
      refine j_iload_n (q := 2) (pc' := 46) C dX12_wordOf_45 rfl rfl rfl ?_
      refine j_bipush (v := 120) (pc' := 48) C dX12_wordOf_46 kB_120 rfl ?_
      refine j_ic_eq (tgt := 57) (pc' := 51) C dX12_wordOf_48 rfl rfl (fun hc => ?_) (fun hc => ?_)
      · have hr := ifT hc hr
        clear hc
        refine j_sipush (v := 205) (pc' := 60) C dX12_wordOf_57 kS_205 rfl ?_
        have hr := Option.some.inj hr
        subst hr
        have hr := elL rj7
        have hr := Option.some.inj hr
        subst hr
        exact j_iret C hq hret dX12_wordOf_60
      · have hr := ifF hc hr
        clear hc
        refine j_iload_n (q := 2) (pc' := 52) C dX12_wordOf_51 rfl rfl rfl ?_
        refine j_bipush (v := 121) (pc' := 54) C dX12_wordOf_52 kB_121 rfl ?_
        refine j_ic_ne (tgt := 61) (pc' := 57) C dX12_wordOf_54 rfl rfl (fun hc => ?_) (fun hc => ?_)
        · have hr := ifF hc hr
          clear hc
          have hr := Option.some.inj hr
          subst hr
          exact j_lv [0, 1, 2] rfl (kj7 _ rfl)
        · have hr := ifT hc hr
          clear hc
          refine j_sipush (v := 205) (pc' := 60) C dX12_wordOf_57 kS_205 rfl ?_
          have hr := Option.some.inj hr
          subst hr
          have hr := elL rj7
          have hr := Option.some.inj hr
          subst hr
          exact j_iret C hq hret dX12_wordOf_60
  have hr := hj5
  clear hj5
  refine j_ic_ne (tgt := 32) (pc' := 22) C dX12_wordOf_19 rfl rfl (fun hc => ?_) (fun hc => ?_)
  · have hr := ifF hc hr
    clear hc
    have hr := Option.some.inj hr
    subst hr
    exact j_lv [1, 2, 0] rfl (kj5 _ rfl)
  · have hr := ifT hc hr
    clear hc
    refine j_iload_n (q := 0) (pc' := 23) C dX12_wordOf_22 rfl rfl rfl ?_
    refine j_bipush (v := 102) (pc' := 25) C dX12_wordOf_23 kB_102 rfl ?_
    refine j_ic_gt (tgt := 32) (pc' := 28) C dX12_wordOf_25 rfl rfl (fun hc => ?_) (fun hc => ?_)
    · have hr := ifT hc hr
      clear hc
      have hr := Option.some.inj hr
      subst hr
      exact j_lv [1, 2, 0] rfl (kj5 _ rfl)
    · have hr := ifF hc hr
      clear hc
      refine j_sipush (v := 204) (pc' := 31) C dX12_wordOf_28 kS_204 rfl ?_
      have hr := Option.some.inj hr
      subst hr
      have hr := elL rj5
      have hr := Option.some.inj hr
      subst hr
      exact j_iret C hq hret dX12_wordOf_31
def m_X12_nextToken (ce : Ce) (this : Nat) : Option (Unit × Ce) :=
  (it (fun s1 =>
    (gI s1.2 9 10 this).bind fun x50 =>
    (rcv s1.2 9 this).bind fun z51 =>
    (m_X12_byteAt s1.2 this x50).bind fun x52 =>
    (
      if x52 = 32 then
        some (Sum.inr ())
      else
        (gI s1.2 9 10 this).bind fun x56 =>
        (rcv s1.2 9 this).bind fun z57 =>
        (m_X12_byteAt s1.2 this x56).bind fun x58 =>
        if x58 = 10 then
          some (Sum.inr ())
        else
          some (Sum.inl (Sum.inr ((), s1.2)))
    ).bind fun j53 => Sum.elim (fun wj53 => some wj53) (fun vj53 =>
      (gI s1.2 9 10 this).bind fun x54 =>
      (pV s1.2 9 10 this (.int (x54 + 1))).bind fun c55 =>
      some (Sum.inl ((), c55))
    ) j53
  ) FU ((), ce)).bind fun o2 =>
  (gI o2.2 9 10 this).bind fun x4 =>
  (pV o2.2 9 11 this (.int x4)).bind fun c5 =>
  (gI c5 9 10 this).bind fun x6 =>
  (rcv c5 9 this).bind fun z7 =>
  (m_X12_byteAt c5 this x6).bind fun x8 =>
  if 0 ≤ x8 then
    (m_X12_isFigure x8).bind fun x9 =>
    if x9 = 0 then
      (m_X12_isLetterByte x8).bind fun x10 =>
      if x10 = 0 then
        (m_X12_isSign x8).bind fun x11 =>
        (
          if x11 = 0 then
            some 2
          else
            some x8
        ).bind fun j12 =>
        (pV c5 9 12 this (.int j12)).bind fun c13 =>
        (gI c13 9 10 this).bind fun x14 =>
        (pV c13 9 10 this (.int (x14 + 1))).bind fun c15 =>
        some ((), c15)
      else
        (it (fun s16 =>
          (gI s16.2 9 10 this).bind fun x24 =>
          (rcv s16.2 9 this).bind fun z25 =>
          (m_X12_byteAt s16.2 this x24).bind fun x26 =>
          (m_X12_isLetterByte x26).bind fun x27 =>
          if x27 = 0 then
            some (Sum.inr ((), s16.2))
          else
            (gI s16.2 9 10 this).bind fun x28 =>
            (pV s16.2 9 10 this (.int (x28 + 1))).bind fun c29 =>
            some (Sum.inl ((), c29))
        ) FU ((), c5)).bind fun o17 =>
        (gI o17.2 9 10 this).bind fun x19 =>
        (gI o17.2 9 11 this).bind fun x20 =>
        (rcv o17.2 9 this).bind fun z21 =>
        (m_X12_wordOf o17.2 this (x19 - x20)).bind fun q22 =>
        (pV q22.2 9 12 this (.int q22.1)).bind fun c23 =>
        some ((), c23)
    else
      (pV c5 9 12 this (.int 1)).bind fun c30 =>
      (pV c30 9 13 this (.int 0)).bind fun c31 =>
      (it (fun s32 =>
        (gI s32.2 9 10 this).bind fun x35 =>
        (rcv s32.2 9 this).bind fun z36 =>
        (m_X12_byteAt s32.2 this x35).bind fun x37 =>
        (m_X12_isFigure x37).bind fun x38 =>
        if x38 = 0 then
          some (Sum.inr ((), s32.2))
        else
          (gI s32.2 9 13 this).bind fun x39 =>
          (
            if x39 ≤ 9999 then
              (gI s32.2 9 13 this).bind fun x44 =>
              (gI s32.2 9 10 this).bind fun x45 =>
              (rcv s32.2 9 this).bind fun z46 =>
              (m_X12_byteAt s32.2 this x45).bind fun x47 =>
              some (((10 * x44) + x47) - 48)
            else
              (gI s32.2 9 13 this).bind fun x48 =>
              some x48
          ).bind fun j40 =>
          (pV s32.2 9 13 this (.int j40)).bind fun c41 =>
          (gI c41 9 10 this).bind fun x42 =>
          (pV c41 9 10 this (.int (x42 + 1))).bind fun c43 =>
          some (Sum.inl ((), c43))
      ) FU ((), c31)).bind fun o33 =>
      some ((), o33.2)
  else
    (pV c5 9 12 this (.int 0)).bind fun c49 =>
    some ((), c49)
set_option maxRecDepth 100000 in
set_option maxHeartbeats 4000000 in
theorem c_X12_nextToken {nx : Nat} {ce : Ce} {this : Nat} {q : Unit × Ce} (hr : m_X12_nextToken ce this = some q) : Ct yX12_nextToken cX12_nextToken 2 none 3 69 0 0 [.ref this] nx ce none q.2 := by
  unfold m_X12_nextToken at hr
  refine ct_of (by decide) (by decide) ?_
  intro G C hq hret hin
  show Jd G 0 0 nx ce 0 [(0, .ref this)] []
  obtain ⟨o2, ho2, ro2⟩ := ob hr
  have ko2 : Jd G 0 0 nx o2.2 39 [(0, .ref this)] [] := by
    have hr := ro2
    refine j_aload_n (q := 0) (pc' := 40) C dX12_nextToken_39 rfl rfl rfl ?_
    refine j_aload_n (q := 0) (pc' := 41) C dX12_nextToken_40 rfl rfl rfl ?_
    obtain ⟨x4, hx4, hr⟩ := ob hr
    refine j_getI (pc' := 44) C dX12_nextToken_41 fl_X12_145 hx4 rfl ?_
    obtain ⟨c5, hc5, hr⟩ := ob hr
    refine j_put (pc' := 47) C dX12_nextToken_44 fw_X12_131 rfl rfl hc5 rfl ?_
    refine j_aload_n (q := 0) (pc' := 48) C dX12_nextToken_47 rfl rfl rfl ?_
    refine j_aload_n (q := 0) (pc' := 49) C dX12_nextToken_48 rfl rfl rfl ?_
    obtain ⟨x6, hx6, hr⟩ := ob hr
    refine j_getI (pc' := 52) C dX12_nextToken_49 fl_X12_145 hx6 rfl ?_
    obtain ⟨z7, hz7, hr⟩ := ob hr
    obtain ⟨x8, hx8, hr⟩ := ob hr
    obtain ⟨fhz7, hz7⟩ := rcv_sp hz7
    refine j_callV (ci := 9) (As := [.int x6]) (rest := []) (st1 := [.int x8]) (pc' := 55) C ⟨wm_1541, wm_41⟩ rfl hz7 (c_X12_byteAt (nx := nx) hx8) yw_X12_byteAt wm_1539 rfl rfl (by decide) ⟨by decide, by decide⟩ dX12_nextToken_52 rfl rfl ?_
    refine j_istore_n (lv' := [(1, .int x8), (0, .ref this)]) (pc' := 56) C dX12_nextToken_55 rfl (by decide) rfl rfl ?_
    refine j_iload_n (q := 0) (pc' := 57) C dX12_nextToken_56 rfl rfl rfl ?_
    refine j_if_ge (tgt := 68) (pc' := 60) C dX12_nextToken_57 rfl rfl (fun hc => ?_) (fun hc => ?_)
    · have hr := ifT hc hr
      clear hc
      refine j_iload_n (q := 0) (pc' := 69) C dX12_nextToken_68 rfl rfl rfl ?_
      obtain ⟨x9, hx9, hr⟩ := ob hr
      refine j_callS (As := [.int x8]) (rest := []) (st1 := [.int x9]) (pc' := 72) C wm_1544 (c_X12_isFigure (nx := nx) (ce := c5) hx9) yw_X12_isFigure wm_1543 rfl rfl (by decide) ⟨by decide, by decide⟩ dX12_nextToken_69 rfl rfl ?_
      refine j_if_eq (tgt := 152) (pc' := 75) C dX12_nextToken_72 rfl rfl (fun hc => ?_) (fun hc => ?_)
      · have hr := ifT hc hr
        clear hc
        refine j_iload_n (q := 0) (pc' := 153) C dX12_nextToken_152 rfl rfl rfl ?_
        obtain ⟨x10, hx10, hr⟩ := ob hr
        refine j_callS (As := [.int x8]) (rest := []) (st1 := [.int x10]) (pc' := 156) C wm_1547 (c_X12_isLetterByte (nx := nx) (ce := c5) hx10) yw_X12_isLetterByte wm_1546 rfl rfl (by decide) ⟨by decide, by decide⟩ dX12_nextToken_153 rfl rfl ?_
        refine j_if_eq (tgt := 206) (pc' := 159) C dX12_nextToken_156 rfl rfl (fun hc => ?_) (fun hc => ?_)
        · have hr := ifT hc hr
          clear hc
          refine j_aload_n (q := 1) (pc' := 207) C dX12_nextToken_206 rfl rfl rfl ?_
          refine j_iload_n (q := 0) (pc' := 208) C dX12_nextToken_207 rfl rfl rfl ?_
          obtain ⟨x11, hx11, hr⟩ := ob hr
          refine j_callS (As := [.int x8]) (rest := [.ref this]) (st1 := [.int x11, .ref this]) (pc' := 211) C wm_1558 (c_X12_isSign (nx := nx) (ce := c5) hx11) yw_X12_isSign wm_1557 rfl rfl (by decide) ⟨by decide, by decide⟩ dX12_nextToken_208 rfl rfl ?_
          obtain ⟨j12, hj12, rj12⟩ := ob hr
          have kj12 : Jd G 0 0 nx c5 219 [(0, .ref this)] [.int j12, .ref this] := by
            have hr := rj12
            obtain ⟨c13, hc13, hr⟩ := ob hr
            refine j_put (pc' := 222) C dX12_nextToken_219 fw_X12_148 rfl rfl hc13 rfl ?_
            refine j_aload_n (q := 0) (pc' := 223) C dX12_nextToken_222 rfl rfl rfl ?_
            refine j_dup (pc' := 224) C dX12_nextToken_223 rfl rfl ?_
            obtain ⟨x14, hx14, hr⟩ := ob hr
            refine j_getI (pc' := 227) C dX12_nextToken_224 fl_X12_145 hx14 rfl ?_
            refine j_iconst (v := 1) (pc' := 228) C dX12_nextToken_227 kI_1 rfl ?_
            refine j_iadd (pc' := 229) C dX12_nextToken_228 rfl ?_
            obtain ⟨c15, hc15, hr⟩ := ob hr
            refine j_put (pc' := 232) C dX12_nextToken_229 fw_X12_145 rfl rfl hc15 rfl ?_
            have hr := Option.some.inj hr
            subst hr
            exact j_vret C hq hret dX12_nextToken_232
          clear rj12
          have hr := hj12
          clear hj12
          refine j_if_eq (tgt := 218) (pc' := 214) C dX12_nextToken_211 rfl rfl (fun hc => ?_) (fun hc => ?_)
          · have hr := ifT hc hr
            clear hc
            refine j_iconst (v := 2) (pc' := 219) C dX12_nextToken_218 kI_2 rfl ?_
            have hr := Option.some.inj hr
            subst hr
            exact j_lv [1] rfl kj12
          · have hr := ifF hc hr
            clear hc
            refine j_iload_n (q := 0) (pc' := 215) C dX12_nextToken_214 rfl rfl rfl ?_
            refine j_goto (tgt := 219) C dX12_nextToken_215 rfl ?_
            have hr := Option.some.inj hr
            subst hr
            exact j_lv [1] rfl kj12
        · have hr := ifF hc hr
          clear hc
          obtain ⟨o17, ho17, ro17⟩ := ob hr
          have ko17 : Jd G 0 0 nx o17.2 186 [(0, .ref this)] [] := by
            have hr := ro17
            refine j_aload_n (q := 0) (pc' := 187) C dX12_nextToken_186 rfl rfl rfl ?_
            refine j_aload_n (q := 0) (pc' := 188) C dX12_nextToken_187 rfl rfl rfl ?_
            refine j_aload_n (q := 0) (pc' := 189) C dX12_nextToken_188 rfl rfl rfl ?_
            obtain ⟨x19, hx19, hr⟩ := ob hr
            refine j_getI (pc' := 192) C dX12_nextToken_189 fl_X12_145 hx19 rfl ?_
            refine j_aload_n (q := 0) (pc' := 193) C dX12_nextToken_192 rfl rfl rfl ?_
            obtain ⟨x20, hx20, hr⟩ := ob hr
            refine j_getI (pc' := 196) C dX12_nextToken_193 fl_X12_131 hx20 rfl ?_
            refine j_isub (pc' := 197) C dX12_nextToken_196 rfl ?_
            obtain ⟨z21, hz21, hr⟩ := ob hr
            obtain ⟨q22, hq22, hr⟩ := ob hr
            obtain ⟨fhz21, hz21⟩ := rcv_sp hz21
            refine j_callV (ci := 9) (As := [.int (x19 - x20)]) (rest := [.ref this]) (st1 := [.int q22.1, .ref this]) (pc' := 200) C ⟨wm_1551, wm_42⟩ rfl hz21 (c_X12_wordOf (nx := nx) hq22) yw_X12_wordOf wm_1549 rfl rfl (by decide) ⟨by decide, by decide⟩ dX12_nextToken_197 rfl rfl ?_
            obtain ⟨c23, hc23, hr⟩ := ob hr
            refine j_put (pc' := 203) C dX12_nextToken_200 fw_X12_148 rfl rfl hc23 rfl ?_
            refine j_goto (tgt := 232) C dX12_nextToken_203 rfl ?_
            have hr := Option.some.inj hr
            subst hr
            exact j_vret C hq hret dX12_nextToken_232
          refine j_lv [1] rfl (it_J (J := (fun s16 => Jd G 0 0 nx s16.2 159 [(0, .ref this)] [])) ?_ ho17)
          clear ho17
          intro s16 r18 hr is16 es16
          refine j_aload_n (q := 0) (pc' := 160) C dX12_nextToken_159 rfl rfl rfl ?_
          refine j_aload_n (q := 0) (pc' := 161) C dX12_nextToken_160 rfl rfl rfl ?_
          obtain ⟨x24, hx24, hr⟩ := ob hr
          refine j_getI (pc' := 164) C dX12_nextToken_161 fl_X12_145 hx24 rfl ?_
          obtain ⟨z25, hz25, hr⟩ := ob hr
          obtain ⟨x26, hx26, hr⟩ := ob hr
          obtain ⟨fhz25, hz25⟩ := rcv_sp hz25
          refine j_callV (ci := 9) (As := [.int x24]) (rest := []) (st1 := [.int x26]) (pc' := 167) C ⟨wm_1541, wm_41⟩ rfl hz25 (c_X12_byteAt (nx := nx) hx26) yw_X12_byteAt wm_1539 rfl rfl (by decide) ⟨by decide, by decide⟩ dX12_nextToken_164 rfl rfl ?_
          obtain ⟨x27, hx27, hr⟩ := ob hr
          refine j_callS (As := [.int x26]) (rest := []) (st1 := [.int x27]) (pc' := 170) C wm_1547 (c_X12_isLetterByte (nx := nx) (ce := s16.2) hx27) yw_X12_isLetterByte wm_1546 rfl rfl (by decide) ⟨by decide, by decide⟩ dX12_nextToken_167 rfl rfl ?_
          refine j_if_eq (tgt := 186) (pc' := 173) C dX12_nextToken_170 rfl rfl (fun hc => ?_) (fun hc => ?_)
          · have hr := ifT hc hr
            clear hc
            have hr := es16 _ (Option.some.inj hr).symm
            subst hr
            exact j_lv [0] rfl ko17
          · have hr := ifF hc hr
            clear hc
            refine j_aload_n (q := 0) (pc' := 174) C dX12_nextToken_173 rfl rfl rfl ?_
            refine j_dup (pc' := 175) C dX12_nextToken_174 rfl rfl ?_
            obtain ⟨x28, hx28, hr⟩ := ob hr
            refine j_getI (pc' := 178) C dX12_nextToken_175 fl_X12_145 hx28 rfl ?_
            refine j_iconst (v := 1) (pc' := 179) C dX12_nextToken_178 kI_1 rfl ?_
            refine j_iadd (pc' := 180) C dX12_nextToken_179 rfl ?_
            obtain ⟨c29, hc29, hr⟩ := ob hr
            refine j_put (pc' := 183) C dX12_nextToken_180 fw_X12_145 rfl rfl hc29 rfl ?_
            refine j_goto (tgt := 159) C dX12_nextToken_183 rfl ?_
            exact j_lv [0] rfl (is16 _ (Option.some.inj hr).symm)
      · have hr := ifF hc hr
        clear hc
        refine j_aload_n (q := 1) (pc' := 76) C dX12_nextToken_75 rfl rfl rfl ?_
        refine j_iconst (v := 1) (pc' := 77) C dX12_nextToken_76 kI_1 rfl ?_
        obtain ⟨c30, hc30, hr⟩ := ob hr
        refine j_put (pc' := 80) C dX12_nextToken_77 fw_X12_148 rfl rfl hc30 rfl ?_
        refine j_aload_n (q := 1) (pc' := 81) C dX12_nextToken_80 rfl rfl rfl ?_
        refine j_iconst (v := 0) (pc' := 82) C dX12_nextToken_81 kI_0 rfl ?_
        obtain ⟨c31, hc31, hr⟩ := ob hr
        refine j_put (pc' := 85) C dX12_nextToken_82 fw_X12_138 rfl rfl hc31 rfl ?_
        obtain ⟨o33, ho33, ro33⟩ := ob hr
        have ko33 : Jd G 0 0 nx o33.2 232 [] [] := by
          have hr := ro33
          have hr := Option.some.inj hr
          subst hr
          exact j_vret C hq hret dX12_nextToken_232
        refine j_lv [1] rfl (it_J (J := (fun s32 => Jd G 0 0 nx s32.2 85 [(0, .ref this)] [])) ?_ ho33)
        clear ho33
        intro s32 r34 hr is32 es32
        refine j_aload_n (q := 0) (pc' := 86) C dX12_nextToken_85 rfl rfl rfl ?_
        refine j_aload_n (q := 0) (pc' := 87) C dX12_nextToken_86 rfl rfl rfl ?_
        obtain ⟨x35, hx35, hr⟩ := ob hr
        refine j_getI (pc' := 90) C dX12_nextToken_87 fl_X12_145 hx35 rfl ?_
        obtain ⟨z36, hz36, hr⟩ := ob hr
        obtain ⟨x37, hx37, hr⟩ := ob hr
        obtain ⟨fhz36, hz36⟩ := rcv_sp hz36
        refine j_callV (ci := 9) (As := [.int x35]) (rest := []) (st1 := [.int x37]) (pc' := 93) C ⟨wm_1541, wm_41⟩ rfl hz36 (c_X12_byteAt (nx := nx) hx37) yw_X12_byteAt wm_1539 rfl rfl (by decide) ⟨by decide, by decide⟩ dX12_nextToken_90 rfl rfl ?_
        obtain ⟨x38, hx38, hr⟩ := ob hr
        refine j_callS (As := [.int x37]) (rest := []) (st1 := [.int x38]) (pc' := 96) C wm_1544 (c_X12_isFigure (nx := nx) (ce := s32.2) hx38) yw_X12_isFigure wm_1543 rfl rfl (by decide) ⟨by decide, by decide⟩ dX12_nextToken_93 rfl rfl ?_
        refine j_if_eq (tgt := 232) (pc' := 99) C dX12_nextToken_96 rfl rfl (fun hc => ?_) (fun hc => ?_)
        · have hr := ifT hc hr
          clear hc
          have hr := es32 _ (Option.some.inj hr).symm
          subst hr
          exact j_lv [] rfl ko33
        · have hr := ifF hc hr
          clear hc
          refine j_aload_n (q := 0) (pc' := 100) C dX12_nextToken_99 rfl rfl rfl ?_
          refine j_aload_n (q := 0) (pc' := 101) C dX12_nextToken_100 rfl rfl rfl ?_
          obtain ⟨x39, hx39, hr⟩ := ob hr
          refine j_getI (pc' := 104) C dX12_nextToken_101 fl_X12_138 hx39 rfl ?_
          refine j_sipush (v := 9999) (pc' := 107) C dX12_nextToken_104 kS_9999 rfl ?_
          obtain ⟨j40, hj40, rj40⟩ := ob hr
          have kj40 : Jd G 0 0 nx s32.2 136 [(0, .ref this)] [.int j40, .ref this] := by
            have hr := rj40
            obtain ⟨c41, hc41, hr⟩ := ob hr
            refine j_put (pc' := 139) C dX12_nextToken_136 fw_X12_138 rfl rfl hc41 rfl ?_
            refine j_aload_n (q := 0) (pc' := 140) C dX12_nextToken_139 rfl rfl rfl ?_
            refine j_dup (pc' := 141) C dX12_nextToken_140 rfl rfl ?_
            obtain ⟨x42, hx42, hr⟩ := ob hr
            refine j_getI (pc' := 144) C dX12_nextToken_141 fl_X12_145 hx42 rfl ?_
            refine j_iconst (v := 1) (pc' := 145) C dX12_nextToken_144 kI_1 rfl ?_
            refine j_iadd (pc' := 146) C dX12_nextToken_145 rfl ?_
            obtain ⟨c43, hc43, hr⟩ := ob hr
            refine j_put (pc' := 149) C dX12_nextToken_146 fw_X12_145 rfl rfl hc43 rfl ?_
            refine j_goto (tgt := 85) C dX12_nextToken_149 rfl ?_
            exact j_lv [0] rfl (is32 _ (Option.some.inj hr).symm)
          clear rj40
          have hr := hj40
          clear hj40
          refine j_ic_le (tgt := 117) (pc' := 110) C dX12_nextToken_107 rfl rfl (fun hc => ?_) (fun hc => ?_)
          · have hr := ifT hc hr
            clear hc
            refine j_bipush (v := 10) (pc' := 119) C dX12_nextToken_117 kB_10 rfl ?_
            refine j_aload_n (q := 0) (pc' := 120) C dX12_nextToken_119 rfl rfl rfl ?_
            obtain ⟨x44, hx44, hr⟩ := ob hr
            refine j_getI (pc' := 123) C dX12_nextToken_120 fl_X12_138 hx44 rfl ?_
            refine j_imul (pc' := 124) C dX12_nextToken_123 rfl ?_
            refine j_aload_n (q := 0) (pc' := 125) C dX12_nextToken_124 rfl rfl rfl ?_
            refine j_aload_n (q := 0) (pc' := 126) C dX12_nextToken_125 rfl rfl rfl ?_
            obtain ⟨x45, hx45, hr⟩ := ob hr
            refine j_getI (pc' := 129) C dX12_nextToken_126 fl_X12_145 hx45 rfl ?_
            obtain ⟨z46, hz46, hr⟩ := ob hr
            obtain ⟨x47, hx47, hr⟩ := ob hr
            obtain ⟨fhz46, hz46⟩ := rcv_sp hz46
            refine j_callV (ci := 9) (As := [.int x45]) (rest := [.int (10 * x44), .ref this]) (st1 := [.int x47, .int (10 * x44), .ref this]) (pc' := 132) C ⟨wm_1541, wm_41⟩ rfl hz46 (c_X12_byteAt (nx := nx) hx47) yw_X12_byteAt wm_1539 rfl rfl (by decide) ⟨by decide, by decide⟩ dX12_nextToken_129 rfl rfl ?_
            refine j_iadd (pc' := 133) C dX12_nextToken_132 rfl ?_
            refine j_bipush (v := 48) (pc' := 135) C dX12_nextToken_133 kB_48 rfl ?_
            refine j_isub (pc' := 136) C dX12_nextToken_135 rfl ?_
            have hr := Option.some.inj hr
            subst hr
            exact j_lv [0] rfl kj40
          · have hr := ifF hc hr
            clear hc
            refine j_aload_n (q := 0) (pc' := 111) C dX12_nextToken_110 rfl rfl rfl ?_
            obtain ⟨x48, hx48, hr⟩ := ob hr
            refine j_getI (pc' := 114) C dX12_nextToken_111 fl_X12_138 hx48 rfl ?_
            refine j_goto (tgt := 136) C dX12_nextToken_114 rfl ?_
            have hr := Option.some.inj hr
            subst hr
            exact j_lv [0] rfl kj40
    · have hr := ifF hc hr
      clear hc
      refine j_aload_n (q := 1) (pc' := 61) C dX12_nextToken_60 rfl rfl rfl ?_
      refine j_iconst (v := 0) (pc' := 62) C dX12_nextToken_61 kI_0 rfl ?_
      obtain ⟨c49, hc49, hr⟩ := ob hr
      refine j_put (pc' := 65) C dX12_nextToken_62 fw_X12_148 rfl rfl hc49 rfl ?_
      refine j_goto (tgt := 232) C dX12_nextToken_65 rfl ?_
      have hr := Option.some.inj hr
      subst hr
      exact j_vret C hq hret dX12_nextToken_232
  refine j_lv [0] rfl (it_J (J := (fun s1 => Jd G 0 0 nx s1.2 0 [(0, .ref this)] [])) ?_ ho2)
  clear ho2
  intro s1 r3 hr is1 es1
  refine j_aload_n (q := 0) (pc' := 1) C dX12_nextToken_0 rfl rfl rfl ?_
  refine j_aload_n (q := 0) (pc' := 2) C dX12_nextToken_1 rfl rfl rfl ?_
  obtain ⟨x50, hx50, hr⟩ := ob hr
  refine j_getI (pc' := 5) C dX12_nextToken_2 fl_X12_145 hx50 rfl ?_
  obtain ⟨z51, hz51, hr⟩ := ob hr
  obtain ⟨x52, hx52, hr⟩ := ob hr
  obtain ⟨fhz51, hz51⟩ := rcv_sp hz51
  refine j_callV (ci := 9) (As := [.int x50]) (rest := []) (st1 := [.int x52]) (pc' := 8) C ⟨wm_1541, wm_41⟩ rfl hz51 (c_X12_byteAt (nx := nx) hx52) yw_X12_byteAt wm_1539 rfl rfl (by decide) ⟨by decide, by decide⟩ dX12_nextToken_5 rfl rfl ?_
  refine j_bipush (v := 32) (pc' := 10) C dX12_nextToken_8 kB_32 rfl ?_
  obtain ⟨j53, hj53, rj53⟩ := ob hr
  have kj53 : ∀ vj53, j53 = Sum.inr vj53 → Jd G 0 0 nx s1.2 26 [(0, .ref this)] [] := by
    intro vj53 ej53
    rw [ej53] at rj53
    have hr := elR rj53
    refine j_aload_n (q := 0) (pc' := 27) C dX12_nextToken_26 rfl rfl rfl ?_
    refine j_dup (pc' := 28) C dX12_nextToken_27 rfl rfl ?_
    obtain ⟨x54, hx54, hr⟩ := ob hr
    refine j_getI (pc' := 31) C dX12_nextToken_28 fl_X12_145 hx54 rfl ?_
    refine j_iconst (v := 1) (pc' := 32) C dX12_nextToken_31 kI_1 rfl ?_
    refine j_iadd (pc' := 33) C dX12_nextToken_32 rfl ?_
    obtain ⟨c55, hc55, hr⟩ := ob hr
    refine j_put (pc' := 36) C dX12_nextToken_33 fw_X12_145 rfl rfl hc55 rfl ?_
    refine j_goto (tgt := 0) C dX12_nextToken_36 rfl ?_
    exact j_lv [0] rfl (is1 _ (Option.some.inj hr).symm)
  have hr := hj53
  clear hj53
  refine j_ic_eq (tgt := 26) (pc' := 13) C dX12_nextToken_10 rfl rfl (fun hc => ?_) (fun hc => ?_)
  · have hr := ifT hc hr
    clear hc
    have hr := Option.some.inj hr
    subst hr
    exact j_lv [0] rfl (kj53 _ rfl)
  · have hr := ifF hc hr
    clear hc
    refine j_aload_n (q := 0) (pc' := 14) C dX12_nextToken_13 rfl rfl rfl ?_
    refine j_aload_n (q := 0) (pc' := 15) C dX12_nextToken_14 rfl rfl rfl ?_
    obtain ⟨x56, hx56, hr⟩ := ob hr
    refine j_getI (pc' := 18) C dX12_nextToken_15 fl_X12_145 hx56 rfl ?_
    obtain ⟨z57, hz57, hr⟩ := ob hr
    obtain ⟨x58, hx58, hr⟩ := ob hr
    obtain ⟨fhz57, hz57⟩ := rcv_sp hz57
    refine j_callV (ci := 9) (As := [.int x56]) (rest := []) (st1 := [.int x58]) (pc' := 21) C ⟨wm_1541, wm_41⟩ rfl hz57 (c_X12_byteAt (nx := nx) hx58) yw_X12_byteAt wm_1539 rfl rfl (by decide) ⟨by decide, by decide⟩ dX12_nextToken_18 rfl rfl ?_
    refine j_bipush (v := 10) (pc' := 23) C dX12_nextToken_21 kB_10 rfl ?_
    refine j_ic_ne (tgt := 39) (pc' := 26) C dX12_nextToken_23 rfl rfl (fun hc => ?_) (fun hc => ?_)
    · have hr := ifF hc hr
      clear hc
      have hr := Option.some.inj hr
      subst hr
      have hr := elL rj53
      have hr := es1 _ (Option.some.inj hr).symm
      subst hr
      exact j_lv [0] rfl ko2
    · have hr := ifT hc hr
      clear hc
      have hr := Option.some.inj hr
      subst hr
      exact j_lv [0] rfl (kj53 _ rfl)
def m_X12_push (ce : Ce) (this : Nat) (p1 : Int64) (p2 : Int64) (p3 : Int64) (p4 : Int64) : Option (Unit × Ce) :=
  (gA ce 9 14 this).bind fun x1 =>
  (gI ce 9 16 this).bind fun x2 =>
  (sL ce x1 (4 * x2) p1).bind fun c3 =>
  (gA c3 9 14 this).bind fun x4 =>
  (gI c3 9 16 this).bind fun x5 =>
  (sL c3 x4 ((4 * x5) + 1) p2).bind fun c6 =>
  (gA c6 9 14 this).bind fun x7 =>
  (gI c6 9 16 this).bind fun x8 =>
  (sL c6 x7 ((4 * x8) + 2) p3).bind fun c9 =>
  (gA c9 9 14 this).bind fun x10 =>
  (gI c9 9 16 this).bind fun x11 =>
  (sL c9 x10 ((4 * x11) + 3) p4).bind fun c12 =>
  (gI c12 9 16 this).bind fun x13 =>
  (pV c12 9 16 this (.int (x13 + 1))).bind fun c14 =>
  some ((), c14)
set_option maxRecDepth 100000 in
set_option maxHeartbeats 4000000 in
theorem c_X12_push {nx : Nat} {ce : Ce} {this : Nat} {p1 : Int64} {p2 : Int64} {p3 : Int64} {p4 : Int64} {q : Unit × Ce} (hr : m_X12_push ce this p1 p2 p3 p4 = some q) : Ct yX12_push cX12_push 9 none 0 0 0 0 [.ref this, .long p1, .long p2, .long p3, .long p4] nx ce none q.2 := by
  unfold m_X12_push at hr
  refine ct_of (by decide) (by decide) ?_
  intro G C hq hret hin
  show Jd G 0 0 nx ce 0 [(0, .ref this), (1, .long p1), (3, .long p2), (5, .long p3), (7, .long p4)] []
  refine j_aload_n (q := 0) (pc' := 1) C dX12_push_0 rfl rfl rfl ?_
  obtain ⟨x1, hx1, hr⟩ := ob hr
  refine j_getA (pc' := 4) C dX12_push_1 fl_X12_41 hx1 rfl ?_
  refine j_iconst (v := 4) (pc' := 5) C dX12_push_4 kI_4 rfl ?_
  refine j_aload_n (q := 0) (pc' := 6) C dX12_push_5 rfl rfl rfl ?_
  obtain ⟨x2, hx2, hr⟩ := ob hr
  refine j_getI (pc' := 9) C dX12_push_6 fl_X12_164 hx2 rfl ?_
  refine j_imul (pc' := 10) C dX12_push_9 rfl ?_
  refine j_lload_n (q := 1) (pc' := 11) C dX12_push_10 rfl rfl rfl ?_
  obtain ⟨c3, hc3, hr⟩ := ob hr
  refine j_last (pc' := 12) C dX12_push_11 hc3 rfl ?_
  refine j_aload_n (q := 0) (pc' := 13) C dX12_push_12 rfl rfl rfl ?_
  obtain ⟨x4, hx4, hr⟩ := ob hr
  refine j_getA (pc' := 16) C dX12_push_13 fl_X12_41 hx4 rfl ?_
  refine j_iconst (v := 4) (pc' := 17) C dX12_push_16 kI_4 rfl ?_
  refine j_aload_n (q := 0) (pc' := 18) C dX12_push_17 rfl rfl rfl ?_
  obtain ⟨x5, hx5, hr⟩ := ob hr
  refine j_getI (pc' := 21) C dX12_push_18 fl_X12_164 hx5 rfl ?_
  refine j_imul (pc' := 22) C dX12_push_21 rfl ?_
  refine j_iconst (v := 1) (pc' := 23) C dX12_push_22 kI_1 rfl ?_
  refine j_iadd (pc' := 24) C dX12_push_23 rfl ?_
  refine j_lload_n (q := 2) (pc' := 25) C dX12_push_24 rfl rfl rfl ?_
  obtain ⟨c6, hc6, hr⟩ := ob hr
  refine j_last (pc' := 26) C dX12_push_25 hc6 rfl ?_
  refine j_aload_n (q := 0) (pc' := 27) C dX12_push_26 rfl rfl rfl ?_
  obtain ⟨x7, hx7, hr⟩ := ob hr
  refine j_getA (pc' := 30) C dX12_push_27 fl_X12_41 hx7 rfl ?_
  refine j_iconst (v := 4) (pc' := 31) C dX12_push_30 kI_4 rfl ?_
  refine j_aload_n (q := 0) (pc' := 32) C dX12_push_31 rfl rfl rfl ?_
  obtain ⟨x8, hx8, hr⟩ := ob hr
  refine j_getI (pc' := 35) C dX12_push_32 fl_X12_164 hx8 rfl ?_
  refine j_imul (pc' := 36) C dX12_push_35 rfl ?_
  refine j_iconst (v := 2) (pc' := 37) C dX12_push_36 kI_2 rfl ?_
  refine j_iadd (pc' := 38) C dX12_push_37 rfl ?_
  refine j_lload (q := 3) (pc' := 40) C dX12_push_38 rfl rfl ?_
  obtain ⟨c9, hc9, hr⟩ := ob hr
  refine j_last (pc' := 41) C dX12_push_40 hc9 rfl ?_
  refine j_aload_n (q := 0) (pc' := 42) C dX12_push_41 rfl rfl rfl ?_
  obtain ⟨x10, hx10, hr⟩ := ob hr
  refine j_getA (pc' := 45) C dX12_push_42 fl_X12_41 hx10 rfl ?_
  refine j_iconst (v := 4) (pc' := 46) C dX12_push_45 kI_4 rfl ?_
  refine j_aload_n (q := 0) (pc' := 47) C dX12_push_46 rfl rfl rfl ?_
  obtain ⟨x11, hx11, hr⟩ := ob hr
  refine j_getI (pc' := 50) C dX12_push_47 fl_X12_164 hx11 rfl ?_
  refine j_imul (pc' := 51) C dX12_push_50 rfl ?_
  refine j_iconst (v := 3) (pc' := 52) C dX12_push_51 kI_3 rfl ?_
  refine j_iadd (pc' := 53) C dX12_push_52 rfl ?_
  refine j_lload (q := 4) (pc' := 55) C dX12_push_53 rfl rfl ?_
  obtain ⟨c12, hc12, hr⟩ := ob hr
  refine j_last (pc' := 56) C dX12_push_55 hc12 rfl ?_
  refine j_aload_n (q := 0) (pc' := 57) C dX12_push_56 rfl rfl rfl ?_
  refine j_dup (pc' := 58) C dX12_push_57 rfl rfl ?_
  obtain ⟨x13, hx13, hr⟩ := ob hr
  refine j_getI (pc' := 61) C dX12_push_58 fl_X12_164 hx13 rfl ?_
  refine j_iconst (v := 1) (pc' := 62) C dX12_push_61 kI_1 rfl ?_
  refine j_iadd (pc' := 63) C dX12_push_62 rfl ?_
  obtain ⟨c14, hc14, hr⟩ := ob hr
  refine j_put (pc' := 66) C dX12_push_63 fw_X12_164 rfl rfl hc14 rfl ?_
  have hr := Option.some.inj hr
  subst hr
  exact j_vret C hq hret dX12_push_66
def m_X12_rank (p0 : Int32) : Option (Int32) :=
  if p0 = 33 then
    some 4
  else
    if p0 = 38 then
      some 3
    else
      if p0 = 94 then
        some 2
      else
        if p0 = 124 then
          some 1
        else
          some 0
set_option maxRecDepth 100000 in
set_option maxHeartbeats 4000000 in
theorem c_X12_rank {nx : Nat} {ce : Ce} {p0 : Int32} {q : Int32} (hr : m_X12_rank p0 = some q) : Ct yX12_rank cX12_rank 1 (some .int) 0 0 0 0 [.int p0] nx ce (some (.int q)) ce := by
  unfold m_X12_rank at hr
  refine ct_of (by decide) (by decide) ?_
  intro G C hq hret hin
  show Jd G 0 0 nx ce 0 [(0, .int p0)] []
  refine j_iload_n (q := 0) (pc' := 1) C dX12_rank_0 rfl rfl rfl ?_
  refine j_bipush (v := 33) (pc' := 3) C dX12_rank_1 kB_33 rfl ?_
  refine j_ic_ne (tgt := 10) (pc' := 6) C dX12_rank_3 rfl rfl (fun hc => ?_) (fun hc => ?_)
  · have hr := ifF hc hr
    clear hc
    refine j_iload_n (q := 0) (pc' := 11) C dX12_rank_10 rfl rfl rfl ?_
    refine j_bipush (v := 38) (pc' := 13) C dX12_rank_11 kB_38 rfl ?_
    refine j_ic_ne (tgt := 20) (pc' := 16) C dX12_rank_13 rfl rfl (fun hc => ?_) (fun hc => ?_)
    · have hr := ifF hc hr
      clear hc
      refine j_iload_n (q := 0) (pc' := 21) C dX12_rank_20 rfl rfl rfl ?_
      refine j_bipush (v := 94) (pc' := 23) C dX12_rank_21 kB_94 rfl ?_
      refine j_ic_ne (tgt := 30) (pc' := 26) C dX12_rank_23 rfl rfl (fun hc => ?_) (fun hc => ?_)
      · have hr := ifF hc hr
        clear hc
        refine j_iload_n (q := 0) (pc' := 31) C dX12_rank_30 rfl rfl rfl ?_
        refine j_bipush (v := 124) (pc' := 33) C dX12_rank_31 kB_124 rfl ?_
        refine j_ic_ne (tgt := 40) (pc' := 36) C dX12_rank_33 rfl rfl (fun hc => ?_) (fun hc => ?_)
        · have hr := ifF hc hr
          clear hc
          refine j_iconst (v := 0) (pc' := 41) C dX12_rank_40 kI_0 rfl ?_
          have hr := Option.some.inj hr
          subst hr
          exact j_iret C hq hret dX12_rank_41
        · have hr := ifT hc hr
          clear hc
          refine j_iconst (v := 1) (pc' := 37) C dX12_rank_36 kI_1 rfl ?_
          refine j_goto (tgt := 41) C dX12_rank_37 rfl ?_
          have hr := Option.some.inj hr
          subst hr
          exact j_iret C hq hret dX12_rank_41
      · have hr := ifT hc hr
        clear hc
        refine j_iconst (v := 2) (pc' := 27) C dX12_rank_26 kI_2 rfl ?_
        refine j_goto (tgt := 41) C dX12_rank_27 rfl ?_
        have hr := Option.some.inj hr
        subst hr
        exact j_iret C hq hret dX12_rank_41
    · have hr := ifT hc hr
      clear hc
      refine j_iconst (v := 3) (pc' := 17) C dX12_rank_16 kI_3 rfl ?_
      refine j_goto (tgt := 41) C dX12_rank_17 rfl ?_
      have hr := Option.some.inj hr
      subst hr
      exact j_iret C hq hret dX12_rank_41
  · have hr := ifT hc hr
    clear hc
    refine j_iconst (v := 4) (pc' := 7) C dX12_rank_6 kI_4 rfl ?_
    refine j_goto (tgt := 41) C dX12_rank_7 rfl ?_
    have hr := Option.some.inj hr
    subst hr
    exact j_iret C hq hret dX12_rank_41
def m_X12_apply (ce : Ce) (this : Nat) (p1 : Int32) : Option (Unit × Ce) :=
  (gI ce 9 16 this).bind fun x1 =>
  if p1 = 33 then
    (it (fun s23 =>
      if 4 ≤ s23.1 then
        some (Sum.inr ((), s23.2))
      else
        (gA s23.2 9 14 this).bind fun x28 =>
        (gA s23.2 9 14 this).bind fun x29 =>
        (aL s23.2 x29 (((4 * x1) - 4) + s23.1)).bind fun x30 =>
        (sL s23.2 x28 (((4 * x1) - 4) + s23.1) (x30 ^^^ (-1))).bind fun c31 =>
        some (Sum.inl ((s23.1 + 1), c31))
    ) FU (0, ce)).bind fun o24 =>
    (gI o24.2 9 18 this).bind fun x26 =>
    (pV o24.2 9 18 this (.int (x26 - 1))).bind fun c27 =>
    some ((), c27)
  else
    (it (fun s2 =>
      if (((4 * x1) - 4) + 4) ≤ s2.1 then
        some (Sum.inr ((), s2.2))
      else
        (gA s2.2 9 14 this).bind fun x7 =>
        if p1 = 38 then
          (gA s2.2 9 14 this).bind fun x18 =>
          (aL s2.2 x18 (s2.1 - 4)).bind fun x19 =>
          (gA s2.2 9 14 this).bind fun x20 =>
          (aL s2.2 x20 s2.1).bind fun x21 =>
          (sL s2.2 x7 (s2.1 - 4) (x19 &&& x21)).bind fun c22 =>
          some (Sum.inl ((s2.1 + 1), c22))
        else
          if p1 = 94 then
            (gA s2.2 9 14 this).bind fun x13 =>
            (aL s2.2 x13 (s2.1 - 4)).bind fun x14 =>
            (gA s2.2 9 14 this).bind fun x15 =>
            (aL s2.2 x15 s2.1).bind fun x16 =>
            (sL s2.2 x7 (s2.1 - 4) (x14 ^^^ x16)).bind fun c17 =>
            some (Sum.inl ((s2.1 + 1), c17))
          else
            (gA s2.2 9 14 this).bind fun x8 =>
            (aL s2.2 x8 (s2.1 - 4)).bind fun x9 =>
            (gA s2.2 9 14 this).bind fun x10 =>
            (aL s2.2 x10 s2.1).bind fun x11 =>
            (sL s2.2 x7 (s2.1 - 4) (x9 ||| x11)).bind fun c12 =>
            some (Sum.inl ((s2.1 + 1), c12))
    ) FU (((4 * x1) - 4), ce)).bind fun o3 =>
    (gI o3.2 9 16 this).bind fun x5 =>
    (pV o3.2 9 16 this (.int (x5 - 1))).bind fun c6 =>
    some ((), c6)
set_option maxRecDepth 100000 in
set_option maxHeartbeats 4000000 in
theorem c_X12_apply {nx : Nat} {ce : Ce} {this : Nat} {p1 : Int32} {q : Unit × Ce} (hr : m_X12_apply ce this p1 = some q) : Ct yX12_apply cX12_apply 4 none 0 0 0 0 [.ref this, .int p1] nx ce none q.2 := by
  unfold m_X12_apply at hr
  refine ct_of (by decide) (by decide) ?_
  intro G C hq hret hin
  show Jd G 0 0 nx ce 0 [(0, .ref this), (1, .int p1)] []
  refine j_iconst (v := 4) (pc' := 1) C dX12_apply_0 kI_4 rfl ?_
  refine j_aload_n (q := 0) (pc' := 2) C dX12_apply_1 rfl rfl rfl ?_
  obtain ⟨x1, hx1, hr⟩ := ob hr
  refine j_getI (pc' := 5) C dX12_apply_2 fl_X12_164 hx1 rfl ?_
  refine j_imul (pc' := 6) C dX12_apply_5 rfl ?_
  refine j_iconst (v := 4) (pc' := 7) C dX12_apply_6 kI_4 rfl ?_
  refine j_isub (pc' := 8) C dX12_apply_7 rfl ?_
  refine j_istore_n (lv' := [(2, .int ((4 * x1) - 4)), (0, .ref this), (1, .int p1)]) (pc' := 9) C dX12_apply_8 rfl (by decide) rfl rfl ?_
  refine j_iload_n (q := 2) (pc' := 10) C dX12_apply_9 rfl rfl rfl ?_
  refine j_bipush (v := 33) (pc' := 12) C dX12_apply_10 kB_33 rfl ?_
  refine j_ic_ne (tgt := 59) (pc' := 15) C dX12_apply_12 rfl rfl (fun hc => ?_) (fun hc => ?_)
  · have hr := ifF hc hr
    clear hc
    refine j_iload_n (q := 0) (pc' := 60) C dX12_apply_59 rfl rfl rfl ?_
    refine j_istore_n (lv' := [(3, .int ((4 * x1) - 4)), (2, .int ((4 * x1) - 4)), (0, .ref this), (1, .int p1)]) (pc' := 61) C dX12_apply_60 rfl (by decide) rfl rfl ?_
    obtain ⟨o3, ho3, ro3⟩ := ob hr
    have ko3 : Jd G 0 0 nx o3.2 145 [(0, .ref this)] [] := by
      have hr := ro3
      refine j_aload_n (q := 0) (pc' := 146) C dX12_apply_145 rfl rfl rfl ?_
      refine j_dup (pc' := 147) C dX12_apply_146 rfl rfl ?_
      obtain ⟨x5, hx5, hr⟩ := ob hr
      refine j_getI (pc' := 150) C dX12_apply_147 fl_X12_164 hx5 rfl ?_
      refine j_iconst (v := 1) (pc' := 151) C dX12_apply_150 kI_1 rfl ?_
      refine j_isub (pc' := 152) C dX12_apply_151 rfl ?_
      obtain ⟨c6, hc6, hr⟩ := ob hr
      refine j_put (pc' := 155) C dX12_apply_152 fw_X12_164 rfl rfl hc6 rfl ?_
      have hr := Option.some.inj hr
      subst hr
      exact j_vret C hq hret dX12_apply_155
    refine j_lv [2, 3, 1, 0] rfl (it_J (J := (fun s2 => Jd G 0 0 nx s2.2 61 [(0, .ref this), (1, .int p1), (2, .int ((4 * x1) - 4)), (3, .int s2.1)] [])) ?_ ho3)
    clear ho3
    intro s2 r4 hr is2 es2
    refine j_iload_n (q := 3) (pc' := 62) C dX12_apply_61 rfl rfl rfl ?_
    refine j_iload_n (q := 2) (pc' := 63) C dX12_apply_62 rfl rfl rfl ?_
    refine j_iconst (v := 4) (pc' := 64) C dX12_apply_63 kI_4 rfl ?_
    refine j_iadd (pc' := 65) C dX12_apply_64 rfl ?_
    refine j_ic_ge (tgt := 145) (pc' := 68) C dX12_apply_65 rfl rfl (fun hc => ?_) (fun hc => ?_)
    · have hr := ifT hc hr
      clear hc
      have hr := es2 _ (Option.some.inj hr).symm
      subst hr
      exact j_lv [0] rfl ko3
    · have hr := ifF hc hr
      clear hc
      refine j_aload_n (q := 0) (pc' := 69) C dX12_apply_68 rfl rfl rfl ?_
      obtain ⟨x7, hx7, hr⟩ := ob hr
      refine j_getA (pc' := 72) C dX12_apply_69 fl_X12_41 hx7 rfl ?_
      refine j_iload_n (q := 3) (pc' := 73) C dX12_apply_72 rfl rfl rfl ?_
      refine j_iconst (v := 4) (pc' := 74) C dX12_apply_73 kI_4 rfl ?_
      refine j_isub (pc' := 75) C dX12_apply_74 rfl ?_
      refine j_iload_n (q := 1) (pc' := 76) C dX12_apply_75 rfl rfl rfl ?_
      refine j_bipush (v := 38) (pc' := 78) C dX12_apply_76 kB_38 rfl ?_
      refine j_ic_ne (tgt := 99) (pc' := 81) C dX12_apply_78 rfl rfl (fun hc => ?_) (fun hc => ?_)
      · have hr := ifF hc hr
        clear hc
        refine j_iload_n (q := 1) (pc' := 100) C dX12_apply_99 rfl rfl rfl ?_
        refine j_bipush (v := 94) (pc' := 102) C dX12_apply_100 kB_94 rfl ?_
        refine j_ic_ne (tgt := 123) (pc' := 105) C dX12_apply_102 rfl rfl (fun hc => ?_) (fun hc => ?_)
        · have hr := ifF hc hr
          clear hc
          refine j_aload_n (q := 0) (pc' := 124) C dX12_apply_123 rfl rfl rfl ?_
          obtain ⟨x8, hx8, hr⟩ := ob hr
          refine j_getA (pc' := 127) C dX12_apply_124 fl_X12_41 hx8 rfl ?_
          refine j_iload_n (q := 3) (pc' := 128) C dX12_apply_127 rfl rfl rfl ?_
          refine j_iconst (v := 4) (pc' := 129) C dX12_apply_128 kI_4 rfl ?_
          refine j_isub (pc' := 130) C dX12_apply_129 rfl ?_
          obtain ⟨x9, hx9, hr⟩ := ob hr
          refine j_lald (pc' := 131) C dX12_apply_130 hx9 rfl ?_
          refine j_aload_n (q := 0) (pc' := 132) C dX12_apply_131 rfl rfl rfl ?_
          obtain ⟨x10, hx10, hr⟩ := ob hr
          refine j_getA (pc' := 135) C dX12_apply_132 fl_X12_41 hx10 rfl ?_
          refine j_iload_n (q := 3) (pc' := 136) C dX12_apply_135 rfl rfl rfl ?_
          obtain ⟨x11, hx11, hr⟩ := ob hr
          refine j_lald (pc' := 137) C dX12_apply_136 hx11 rfl ?_
          refine j_lor (pc' := 138) C dX12_apply_137 rfl ?_
          obtain ⟨c12, hc12, hr⟩ := ob hr
          refine j_last (pc' := 139) C dX12_apply_138 hc12 rfl ?_
          refine j_iinc (q := 3) (v := 1) (lv' := [(3, .int (s2.1 + 1)), (0, .ref this), (1, .int p1), (2, .int ((4 * x1) - 4))]) (pc' := 142) C dX12_apply_139 rfl kI_1 (by decide) rfl rfl ?_
          refine j_goto (tgt := 61) C dX12_apply_142 rfl ?_
          exact j_lv [1, 2, 3, 0] rfl (is2 _ (Option.some.inj hr).symm)
        · have hr := ifT hc hr
          clear hc
          refine j_aload_n (q := 0) (pc' := 106) C dX12_apply_105 rfl rfl rfl ?_
          obtain ⟨x13, hx13, hr⟩ := ob hr
          refine j_getA (pc' := 109) C dX12_apply_106 fl_X12_41 hx13 rfl ?_
          refine j_iload_n (q := 3) (pc' := 110) C dX12_apply_109 rfl rfl rfl ?_
          refine j_iconst (v := 4) (pc' := 111) C dX12_apply_110 kI_4 rfl ?_
          refine j_isub (pc' := 112) C dX12_apply_111 rfl ?_
          obtain ⟨x14, hx14, hr⟩ := ob hr
          refine j_lald (pc' := 113) C dX12_apply_112 hx14 rfl ?_
          refine j_aload_n (q := 0) (pc' := 114) C dX12_apply_113 rfl rfl rfl ?_
          obtain ⟨x15, hx15, hr⟩ := ob hr
          refine j_getA (pc' := 117) C dX12_apply_114 fl_X12_41 hx15 rfl ?_
          refine j_iload_n (q := 3) (pc' := 118) C dX12_apply_117 rfl rfl rfl ?_
          obtain ⟨x16, hx16, hr⟩ := ob hr
          refine j_lald (pc' := 119) C dX12_apply_118 hx16 rfl ?_
          refine j_lxor (pc' := 120) C dX12_apply_119 rfl ?_
          refine j_goto (tgt := 138) C dX12_apply_120 rfl ?_
          obtain ⟨c17, hc17, hr⟩ := ob hr
          refine j_last (pc' := 139) C dX12_apply_138 hc17 rfl ?_
          refine j_iinc (q := 3) (v := 1) (lv' := [(3, .int (s2.1 + 1)), (0, .ref this), (1, .int p1), (2, .int ((4 * x1) - 4))]) (pc' := 142) C dX12_apply_139 rfl kI_1 (by decide) rfl rfl ?_
          refine j_goto (tgt := 61) C dX12_apply_142 rfl ?_
          exact j_lv [1, 2, 3, 0] rfl (is2 _ (Option.some.inj hr).symm)
      · have hr := ifT hc hr
        clear hc
        refine j_aload_n (q := 0) (pc' := 82) C dX12_apply_81 rfl rfl rfl ?_
        obtain ⟨x18, hx18, hr⟩ := ob hr
        refine j_getA (pc' := 85) C dX12_apply_82 fl_X12_41 hx18 rfl ?_
        refine j_iload_n (q := 3) (pc' := 86) C dX12_apply_85 rfl rfl rfl ?_
        refine j_iconst (v := 4) (pc' := 87) C dX12_apply_86 kI_4 rfl ?_
        refine j_isub (pc' := 88) C dX12_apply_87 rfl ?_
        obtain ⟨x19, hx19, hr⟩ := ob hr
        refine j_lald (pc' := 89) C dX12_apply_88 hx19 rfl ?_
        refine j_aload_n (q := 0) (pc' := 90) C dX12_apply_89 rfl rfl rfl ?_
        obtain ⟨x20, hx20, hr⟩ := ob hr
        refine j_getA (pc' := 93) C dX12_apply_90 fl_X12_41 hx20 rfl ?_
        refine j_iload_n (q := 3) (pc' := 94) C dX12_apply_93 rfl rfl rfl ?_
        obtain ⟨x21, hx21, hr⟩ := ob hr
        refine j_lald (pc' := 95) C dX12_apply_94 hx21 rfl ?_
        refine j_land (pc' := 96) C dX12_apply_95 rfl ?_
        refine j_goto (tgt := 138) C dX12_apply_96 rfl ?_
        obtain ⟨c22, hc22, hr⟩ := ob hr
        refine j_last (pc' := 139) C dX12_apply_138 hc22 rfl ?_
        refine j_iinc (q := 3) (v := 1) (lv' := [(3, .int (s2.1 + 1)), (0, .ref this), (1, .int p1), (2, .int ((4 * x1) - 4))]) (pc' := 142) C dX12_apply_139 rfl kI_1 (by decide) rfl rfl ?_
        refine j_goto (tgt := 61) C dX12_apply_142 rfl ?_
        exact j_lv [1, 2, 3, 0] rfl (is2 _ (Option.some.inj hr).symm)
  · have hr := ifT hc hr
    clear hc
    refine j_iconst (v := 0) (pc' := 16) C dX12_apply_15 kI_0 rfl ?_
    refine j_istore_n (lv' := [(3, .int 0), (2, .int ((4 * x1) - 4)), (0, .ref this), (1, .int p1)]) (pc' := 17) C dX12_apply_16 rfl (by decide) rfl rfl ?_
    obtain ⟨o24, ho24, ro24⟩ := ob hr
    have ko24 : Jd G 0 0 nx o24.2 48 [(0, .ref this)] [] := by
      have hr := ro24
      refine j_aload_n (q := 0) (pc' := 49) C dX12_apply_48 rfl rfl rfl ?_
      refine j_dup (pc' := 50) C dX12_apply_49 rfl rfl ?_
      obtain ⟨x26, hx26, hr⟩ := ob hr
      refine j_getI (pc' := 53) C dX12_apply_50 fl_X12_167 hx26 rfl ?_
      refine j_iconst (v := 1) (pc' := 54) C dX12_apply_53 kI_1 rfl ?_
      refine j_isub (pc' := 55) C dX12_apply_54 rfl ?_
      obtain ⟨c27, hc27, hr⟩ := ob hr
      refine j_put (pc' := 58) C dX12_apply_55 fw_X12_167 rfl rfl hc27 rfl ?_
      have hr := Option.some.inj hr
      subst hr
      exact j_vret C hq hret dX12_apply_58
    refine j_lv [2, 1, 0] rfl (it_J (J := (fun s23 => Jd G 0 0 nx s23.2 17 [(0, .ref this), (2, .int ((4 * x1) - 4)), (3, .int s23.1)] [])) ?_ ho24)
    clear ho24
    intro s23 r25 hr is23 es23
    refine j_iload_n (q := 2) (pc' := 18) C dX12_apply_17 rfl rfl rfl ?_
    refine j_iconst (v := 4) (pc' := 19) C dX12_apply_18 kI_4 rfl ?_
    refine j_ic_ge (tgt := 48) (pc' := 22) C dX12_apply_19 rfl rfl (fun hc => ?_) (fun hc => ?_)
    · have hr := ifT hc hr
      clear hc
      have hr := es23 _ (Option.some.inj hr).symm
      subst hr
      exact j_lv [0] rfl ko24
    · have hr := ifF hc hr
      clear hc
      refine j_aload_n (q := 0) (pc' := 23) C dX12_apply_22 rfl rfl rfl ?_
      obtain ⟨x28, hx28, hr⟩ := ob hr
      refine j_getA (pc' := 26) C dX12_apply_23 fl_X12_41 hx28 rfl ?_
      refine j_iload_n (q := 1) (pc' := 27) C dX12_apply_26 rfl rfl rfl ?_
      refine j_iload_n (q := 2) (pc' := 28) C dX12_apply_27 rfl rfl rfl ?_
      refine j_iadd (pc' := 29) C dX12_apply_28 rfl ?_
      refine j_aload_n (q := 0) (pc' := 30) C dX12_apply_29 rfl rfl rfl ?_
      obtain ⟨x29, hx29, hr⟩ := ob hr
      refine j_getA (pc' := 33) C dX12_apply_30 fl_X12_41 hx29 rfl ?_
      refine j_iload_n (q := 1) (pc' := 34) C dX12_apply_33 rfl rfl rfl ?_
      refine j_iload_n (q := 2) (pc' := 35) C dX12_apply_34 rfl rfl rfl ?_
      refine j_iadd (pc' := 36) C dX12_apply_35 rfl ?_
      obtain ⟨x30, hx30, hr⟩ := ob hr
      refine j_lald (pc' := 37) C dX12_apply_36 hx30 rfl ?_
      refine j_ldc2 (pc' := 40) C dX12_apply_37 wm_1588 rfl ?_
      refine j_lxor (pc' := 41) C dX12_apply_40 rfl ?_
      obtain ⟨c31, hc31, hr⟩ := ob hr
      refine j_last (pc' := 42) C dX12_apply_41 hc31 rfl ?_
      refine j_iinc (q := 2) (v := 1) (lv' := [(3, .int (s23.1 + 1)), (0, .ref this), (2, .int ((4 * x1) - 4))]) (pc' := 45) C dX12_apply_42 rfl kI_1 (by decide) rfl rfl ?_
      refine j_goto (tgt := 17) C dX12_apply_45 rfl ?_
      exact j_lv [1, 2, 0] rfl (is23 _ (Option.some.inj hr).symm)
def m_X12_settle (ce : Ce) (this : Nat) (p1 : Int32) : Option (Unit × Ce) :=
  (it (fun s1 =>
    (gI s1.2 9 17 this).bind fun x4 =>
    if x4 ≤ 0 then
      some (Sum.inr ((), s1.2))
    else
      (gA s1.2 9 15 this).bind fun x5 =>
      (gI s1.2 9 17 this).bind fun x6 =>
      (aI s1.2 x5 (x6 - 1)).bind fun x7 =>
      (m_X12_rank x7).bind fun x8 =>
      if x8 < p1 then
        some (Sum.inr ((), s1.2))
      else
        (gI s1.2 9 17 this).bind fun x9 =>
        (pV s1.2 9 17 this (.int (x9 - 1))).bind fun c10 =>
        (gA c10 9 15 this).bind fun x11 =>
        (gI c10 9 17 this).bind fun x12 =>
        (aI c10 x11 x12).bind fun x13 =>
        (rcv c10 9 this).bind fun z14 =>
        (m_X12_apply c10 this x13).bind fun q15 =>
        some (Sum.inl ((), q15.2))
  ) FU ((), ce)).bind fun o2 =>
  some ((), o2.2)
set_option maxRecDepth 100000 in
set_option maxHeartbeats 4000000 in
theorem c_X12_settle {nx : Nat} {ce : Ce} {this : Nat} {p1 : Int32} {q : Unit × Ce} (hr : m_X12_settle ce this p1 = some q) : Ct yX12_settle cX12_settle 2 none 1 23 0 0 [.ref this, .int p1] nx ce none q.2 := by
  unfold m_X12_settle at hr
  refine ct_of (by decide) (by decide) ?_
  intro G C hq hret hin
  show Jd G 0 0 nx ce 0 [(0, .ref this), (1, .int p1)] []
  obtain ⟨o2, ho2, ro2⟩ := ob hr
  have ko2 : Jd G 0 0 nx o2.2 51 [] [] := by
    have hr := ro2
    have hr := Option.some.inj hr
    subst hr
    exact j_vret C hq hret dX12_settle_51
  refine j_lv [0, 1] rfl (it_J (J := (fun s1 => Jd G 0 0 nx s1.2 0 [(0, .ref this), (1, .int p1)] [])) ?_ ho2)
  clear ho2
  intro s1 r3 hr is1 es1
  refine j_aload_n (q := 0) (pc' := 1) C dX12_settle_0 rfl rfl rfl ?_
  obtain ⟨x4, hx4, hr⟩ := ob hr
  refine j_getI (pc' := 4) C dX12_settle_1 fl_X12_170 hx4 rfl ?_
  refine j_if_le (tgt := 51) (pc' := 7) C dX12_settle_4 rfl rfl (fun hc => ?_) (fun hc => ?_)
  · have hr := ifT hc hr
    clear hc
    have hr := es1 _ (Option.some.inj hr).symm
    subst hr
    exact j_lv [] rfl ko2
  · have hr := ifF hc hr
    clear hc
    refine j_aload_n (q := 0) (pc' := 8) C dX12_settle_7 rfl rfl rfl ?_
    obtain ⟨x5, hx5, hr⟩ := ob hr
    refine j_getA (pc' := 11) C dX12_settle_8 fl_X12_44 hx5 rfl ?_
    refine j_aload_n (q := 0) (pc' := 12) C dX12_settle_11 rfl rfl rfl ?_
    obtain ⟨x6, hx6, hr⟩ := ob hr
    refine j_getI (pc' := 15) C dX12_settle_12 fl_X12_170 hx6 rfl ?_
    refine j_iconst (v := 1) (pc' := 16) C dX12_settle_15 kI_1 rfl ?_
    refine j_isub (pc' := 17) C dX12_settle_16 rfl ?_
    obtain ⟨x7, hx7, hr⟩ := ob hr
    refine j_iald (pc' := 18) C dX12_settle_17 hx7 rfl ?_
    obtain ⟨x8, hx8, hr⟩ := ob hr
    refine j_callS (As := [.int x7]) (rest := []) (st1 := [.int x8]) (pc' := 21) C wm_1594 (c_X12_rank (nx := nx) (ce := s1.2) hx8) yw_X12_rank wm_1593 rfl rfl (by decide) ⟨by decide, by decide⟩ dX12_settle_18 rfl rfl ?_
    refine j_iload_n (q := 1) (pc' := 22) C dX12_settle_21 rfl rfl rfl ?_
    refine j_ic_lt (tgt := 51) (pc' := 25) C dX12_settle_22 rfl rfl (fun hc => ?_) (fun hc => ?_)
    · have hr := ifT hc hr
      clear hc
      have hr := es1 _ (Option.some.inj hr).symm
      subst hr
      exact j_lv [] rfl ko2
    · have hr := ifF hc hr
      clear hc
      refine j_aload_n (q := 0) (pc' := 26) C dX12_settle_25 rfl rfl rfl ?_
      refine j_dup (pc' := 27) C dX12_settle_26 rfl rfl ?_
      obtain ⟨x9, hx9, hr⟩ := ob hr
      refine j_getI (pc' := 30) C dX12_settle_27 fl_X12_170 hx9 rfl ?_
      refine j_iconst (v := 1) (pc' := 31) C dX12_settle_30 kI_1 rfl ?_
      refine j_isub (pc' := 32) C dX12_settle_31 rfl ?_
      obtain ⟨c10, hc10, hr⟩ := ob hr
      refine j_put (pc' := 35) C dX12_settle_32 fw_X12_170 rfl rfl hc10 rfl ?_
      refine j_aload_n (q := 0) (pc' := 36) C dX12_settle_35 rfl rfl rfl ?_
      refine j_aload_n (q := 0) (pc' := 37) C dX12_settle_36 rfl rfl rfl ?_
      obtain ⟨x11, hx11, hr⟩ := ob hr
      refine j_getA (pc' := 40) C dX12_settle_37 fl_X12_44 hx11 rfl ?_
      refine j_aload_n (q := 0) (pc' := 41) C dX12_settle_40 rfl rfl rfl ?_
      obtain ⟨x12, hx12, hr⟩ := ob hr
      refine j_getI (pc' := 44) C dX12_settle_41 fl_X12_170 hx12 rfl ?_
      obtain ⟨x13, hx13, hr⟩ := ob hr
      refine j_iald (pc' := 45) C dX12_settle_44 hx13 rfl ?_
      obtain ⟨z14, hz14, hr⟩ := ob hr
      obtain ⟨q15, hq15, hr⟩ := ob hr
      obtain ⟨fhz14, hz14⟩ := rcv_sp hz14
      refine j_callV (ci := 9) (As := [.int x13]) (rest := []) (st1 := []) (pc' := 48) C ⟨wm_1598, wm_52⟩ rfl hz14 (c_X12_apply (nx := nx) hq15) yw_X12_apply wm_1596 rfl rfl (by decide) ⟨by decide, by decide⟩ dX12_settle_45 rfl rfl ?_
      refine j_goto (tgt := 0) C dX12_settle_48 rfl ?_
      exact j_lv [0, 1] rfl (is1 _ (Option.some.inj hr).symm)
def m_X12_opened (ce : Ce) (this : Nat) : Option (Int32 × Ce) :=
  (gI ce 9 18 this).bind fun x1 =>
  if x1 = 10 then
    some (6, ce)
  else
    (gI ce 9 18 this).bind fun x2 =>
    (pV ce 9 18 this (.int (x2 + 1))).bind fun c3 =>
    (gA c3 9 15 this).bind fun x4 =>
    (gI c3 9 17 this).bind fun x5 =>
    (gI c3 9 12 this).bind fun x6 =>
    (sI c3 x4 x5 x6).bind fun c7 =>
    (gI c7 9 17 this).bind fun x8 =>
    (pV c7 9 17 this (.int (x8 + 1))).bind fun c9 =>
    (rcv c9 9 this).bind fun z10 =>
    (m_X12_nextToken c9 this).bind fun q11 =>
    some (0, q11.2)
set_option maxRecDepth 100000 in
set_option maxHeartbeats 4000000 in
theorem c_X12_opened {nx : Nat} {ce : Ce} {this : Nat} {q : Int32 × Ce} (hr : m_X12_opened ce this = some q) : Ct yX12_opened cX12_opened 1 (some .int) 4 90 0 0 [.ref this] nx ce (some (.int q.1)) q.2 := by
  unfold m_X12_opened at hr
  refine ct_of (by decide) (by decide) ?_
  intro G C hq hret hin
  show Jd G 0 0 nx ce 0 [(0, .ref this)] []
  refine j_aload_n (q := 0) (pc' := 1) C dX12_opened_0 rfl rfl rfl ?_
  obtain ⟨x1, hx1, hr⟩ := ob hr
  refine j_getI (pc' := 4) C dX12_opened_1 fl_X12_167 hx1 rfl ?_
  refine j_bipush (v := 10) (pc' := 6) C dX12_opened_4 kB_10 rfl ?_
  refine j_ic_ne (tgt := 12) (pc' := 9) C dX12_opened_6 rfl rfl (fun hc => ?_) (fun hc => ?_)
  · have hr := ifF hc hr
    clear hc
    refine j_aload_n (q := 0) (pc' := 13) C dX12_opened_12 rfl rfl rfl ?_
    refine j_dup (pc' := 14) C dX12_opened_13 rfl rfl ?_
    obtain ⟨x2, hx2, hr⟩ := ob hr
    refine j_getI (pc' := 17) C dX12_opened_14 fl_X12_167 hx2 rfl ?_
    refine j_iconst (v := 1) (pc' := 18) C dX12_opened_17 kI_1 rfl ?_
    refine j_iadd (pc' := 19) C dX12_opened_18 rfl ?_
    obtain ⟨c3, hc3, hr⟩ := ob hr
    refine j_put (pc' := 22) C dX12_opened_19 fw_X12_167 rfl rfl hc3 rfl ?_
    refine j_aload_n (q := 0) (pc' := 23) C dX12_opened_22 rfl rfl rfl ?_
    obtain ⟨x4, hx4, hr⟩ := ob hr
    refine j_getA (pc' := 26) C dX12_opened_23 fl_X12_44 hx4 rfl ?_
    refine j_aload_n (q := 0) (pc' := 27) C dX12_opened_26 rfl rfl rfl ?_
    obtain ⟨x5, hx5, hr⟩ := ob hr
    refine j_getI (pc' := 30) C dX12_opened_27 fl_X12_170 hx5 rfl ?_
    refine j_aload_n (q := 0) (pc' := 31) C dX12_opened_30 rfl rfl rfl ?_
    obtain ⟨x6, hx6, hr⟩ := ob hr
    refine j_getI (pc' := 34) C dX12_opened_31 fl_X12_148 hx6 rfl ?_
    obtain ⟨c7, hc7, hr⟩ := ob hr
    refine j_iast (pc' := 35) C dX12_opened_34 hc7 rfl ?_
    refine j_aload_n (q := 0) (pc' := 36) C dX12_opened_35 rfl rfl rfl ?_
    refine j_dup (pc' := 37) C dX12_opened_36 rfl rfl ?_
    obtain ⟨x8, hx8, hr⟩ := ob hr
    refine j_getI (pc' := 40) C dX12_opened_37 fl_X12_170 hx8 rfl ?_
    refine j_iconst (v := 1) (pc' := 41) C dX12_opened_40 kI_1 rfl ?_
    refine j_iadd (pc' := 42) C dX12_opened_41 rfl ?_
    obtain ⟨c9, hc9, hr⟩ := ob hr
    refine j_put (pc' := 45) C dX12_opened_42 fw_X12_170 rfl rfl hc9 rfl ?_
    refine j_aload_n (q := 0) (pc' := 46) C dX12_opened_45 rfl rfl rfl ?_
    obtain ⟨z10, hz10, hr⟩ := ob hr
    obtain ⟨q11, hq11, hr⟩ := ob hr
    obtain ⟨fhz10, hz10⟩ := rcv_sp hz10
    refine j_callV (ci := 9) (As := []) (rest := []) (st1 := []) (pc' := 49) C ⟨wm_1537, wm_40⟩ rfl hz10 (c_X12_nextToken (nx := nx) hq11) yw_X12_nextToken wm_1535 rfl rfl (by decide) ⟨by decide, by decide⟩ dX12_opened_46 rfl rfl ?_
    refine j_iconst (v := 0) (pc' := 50) C dX12_opened_49 kI_0 rfl ?_
    have hr := Option.some.inj hr
    subst hr
    exact j_iret C hq hret dX12_opened_50
  · have hr := ifT hc hr
    clear hc
    refine j_bipush (v := 6) (pc' := 11) C dX12_opened_9 kB_6 rfl ?_
    have hr := Option.some.inj hr
    subst hr
    exact j_iret C hq hret dX12_opened_11
def m_X12_atom (ce : Ce) (this : Nat) : Option (Int32 × Ce) :=
  (gI ce 9 12 this).bind fun x1 =>
  (
    if x1 = 204 then
      (gI ce 9 13 this).bind fun x21 =>
      (gI ce 9 19 this).bind fun x22 =>
      if x21 < x22 then
        (gI ce 9 13 this).bind fun x23 =>
        (m_X12_letterSet x23).bind fun x24 =>
        (rcv ce 9 this).bind fun z25 =>
        (m_X12_push ce this x24 x24 x24 x24).bind fun q26 =>
        some ((Sum.inr (), q26.2))
      else
        some ((Sum.inl 3, ce))
    else
      (gI ce 9 12 this).bind fun x7 =>
      if x7 = 205 then
        (gI ce 9 20 this).bind fun x14 =>
        if x14 = 0 then
          some ((Sum.inl 5, ce))
        else
          (gI ce 9 13 this).bind fun x15 =>
          (
            if x15 = 0 then
              some (-1)
            else
              some 0
          ).bind fun j16 =>
          (gI ce 9 13 this).bind fun x17 =>
          (
            if x17 = 1 then
              some (-1)
            else
              some 0
          ).bind fun j18 =>
          (rcv ce 9 this).bind fun z19 =>
          (m_X12_push ce this 0 j16 j18 (-1)).bind fun q20 =>
          some ((Sum.inr (), q20.2))
      else
        (gI ce 9 12 this).bind fun x8 =>
        if x8 = 1 then
          (gI ce 9 13 this).bind fun x9 =>
          if x9 ≤ 1 then
            (gI ce 9 13 this).bind fun x10 =>
            (
              if x10 = 1 then
                some (-1)
              else
                some 0
            ).bind fun j11 =>
            (rcv ce 9 this).bind fun z12 =>
            (m_X12_push ce this j11 j11 j11 j11).bind fun q13 =>
            some ((Sum.inr (), q13.2))
          else
            some ((Sum.inl 2, ce))
        else
          some ((Sum.inl 1, ce))
  ).bind fun j2 => Sum.elim (fun wj2 => some (wj2, q6.2)) (fun vj2 =>
    (rcv j2.2 9 this).bind fun z3 =>
    (m_X12_nextToken j2.2 this).bind fun q4 =>
    (rcv q4.2 9 this).bind fun z5 =>
    (m_X12_settle q4.2 this 4).bind fun q6 =>
    some (0, q6.2)
  ) j2.1
set_option maxRecDepth 100000 in
set_option maxHeartbeats 4000000 in
theorem c_X12_atom {nx : Nat} {ce : Ce} {this : Nat} {q : Int32 × Ce} (hr : m_X12_atom ce this = some q) : Ct yX12_atom cX12_atom 3 (some .int) 4 90 0 0 [.ref this] nx ce (some (.int q.1)) q.2 := by
  unfold m_X12_atom at hr
  refine ct_of (by decide) (by decide) ?_
  intro G C hq hret hin
  show Jd G 0 0 nx ce 0 [(0, .ref this)] []
  refine j_aload_n (q := 0) (pc' := 1) C dX12_atom_0 rfl rfl rfl ?_
  obtain ⟨x1, hx1, hr⟩ := ob hr
  refine j_getI (pc' := 4) C dX12_atom_1 fl_X12_148 hx1 rfl ?_
  refine j_sipush (v := 204) (pc' := 7) C dX12_atom_4 kS_204 rfl ?_
  obtain ⟨j2, hj2, rj2⟩ := ob hr
  have kj2 : ∀ vj2, j2.1 = Sum.inr vj2 → Jd G 0 0 nx j2.2 148 [(0, .ref this)] [] := by
    intro vj2 ej2
    rw [ej2] at rj2
    have hr := elR rj2
    refine j_aload_n (q := 0) (pc' := 149) C dX12_atom_148 rfl rfl rfl ?_
    obtain ⟨z3, hz3, hr⟩ := ob hr
    obtain ⟨q4, hq4, hr⟩ := ob hr
    obtain ⟨fhz3, hz3⟩ := rcv_sp hz3
    refine j_callV (ci := 9) (As := []) (rest := []) (st1 := []) (pc' := 152) C ⟨wm_1537, wm_40⟩ rfl hz3 (c_X12_nextToken (nx := nx) hq4) yw_X12_nextToken wm_1535 rfl rfl (by decide) ⟨by decide, by decide⟩ dX12_atom_149 rfl rfl ?_
    refine j_aload_n (q := 0) (pc' := 153) C dX12_atom_152 rfl rfl rfl ?_
    refine j_iconst (v := 4) (pc' := 154) C dX12_atom_153 kI_4 rfl ?_
    obtain ⟨z5, hz5, hr⟩ := ob hr
    obtain ⟨q6, hq6, hr⟩ := ob hr
    obtain ⟨fhz5, hz5⟩ := rcv_sp hz5
    refine j_callV (ci := 9) (As := [.int 4]) (rest := []) (st1 := []) (pc' := 157) C ⟨wm_1591, wm_51⟩ rfl hz5 (c_X12_settle (nx := nx) hq6) yw_X12_settle wm_1589 rfl rfl (by decide) ⟨by decide, by decide⟩ dX12_atom_154 rfl rfl ?_
    refine j_iconst (v := 0) (pc' := 158) C dX12_atom_157 kI_0 rfl ?_
    have hr := Option.some.inj hr
    subst hr
    exact j_iret C hq hret dX12_atom_158
  have hr := hj2
  clear hj2
  refine j_ic_ne (tgt := 42) (pc' := 10) C dX12_atom_7 rfl rfl (fun hc => ?_) (fun hc => ?_)
  · have hr := ifF hc hr
    clear hc
    refine j_aload_n (q := 0) (pc' := 43) C dX12_atom_42 rfl rfl rfl ?_
    obtain ⟨x7, hx7, hr⟩ := ob hr
    refine j_getI (pc' := 46) C dX12_atom_43 fl_X12_148 hx7 rfl ?_
    refine j_sipush (v := 205) (pc' := 49) C dX12_atom_46 kS_205 rfl ?_
    refine j_ic_ne (tgt := 101) (pc' := 52) C dX12_atom_49 rfl rfl (fun hc => ?_) (fun hc => ?_)
    · have hr := ifF hc hr
      clear hc
      refine j_aload_n (q := 0) (pc' := 102) C dX12_atom_101 rfl rfl rfl ?_
      obtain ⟨x8, hx8, hr⟩ := ob hr
      refine j_getI (pc' := 105) C dX12_atom_102 fl_X12_148 hx8 rfl ?_
      refine j_iconst (v := 1) (pc' := 106) C dX12_atom_105 kI_1 rfl ?_
      refine j_ic_ne (tgt := 146) (pc' := 109) C dX12_atom_106 rfl rfl (fun hc => ?_) (fun hc => ?_)
      · have hr := ifF hc hr
        clear hc
        refine j_iconst (v := 1) (pc' := 147) C dX12_atom_146 kI_1 rfl ?_
        have hr := Option.some.inj hr
        subst hr
        have hr := elL rj2
        have hr := Option.some.inj hr
        subst hr
        exact j_iret C hq hret dX12_atom_147
      · have hr := ifT hc hr
        clear hc
        refine j_aload_n (q := 0) (pc' := 110) C dX12_atom_109 rfl rfl rfl ?_
        obtain ⟨x9, hx9, hr⟩ := ob hr
        refine j_getI (pc' := 113) C dX12_atom_110 fl_X12_138 hx9 rfl ?_
        refine j_iconst (v := 1) (pc' := 114) C dX12_atom_113 kI_1 rfl ?_
        refine j_ic_le (tgt := 119) (pc' := 117) C dX12_atom_114 rfl rfl (fun hc => ?_) (fun hc => ?_)
        · have hr := ifT hc hr
          clear hc
          refine j_aload_n (q := 0) (pc' := 120) C dX12_atom_119 rfl rfl rfl ?_
          obtain ⟨x10, hx10, hr⟩ := ob hr
          refine j_getI (pc' := 123) C dX12_atom_120 fl_X12_138 hx10 rfl ?_
          refine j_iconst (v := 1) (pc' := 124) C dX12_atom_123 kI_1 rfl ?_
          obtain ⟨j11, hj11, rj11⟩ := ob hr
          have kj11 : Jd G 0 0 nx ce 134 [(0, .ref this)] [.long j11] := by
            have hr := rj11
            refine j_lstore_n (lv' := [(1, .long j11), (0, .ref this)]) (pc' := 135) C dX12_atom_134 rfl (by decide) rfl rfl ?_
            refine j_aload_n (q := 1) (pc' := 136) C dX12_atom_135 rfl rfl rfl ?_
            refine j_lload_n (q := 0) (pc' := 137) C dX12_atom_136 rfl rfl rfl ?_
            refine j_lload_n (q := 0) (pc' := 138) C dX12_atom_137 rfl rfl rfl ?_
            refine j_lload_n (q := 0) (pc' := 139) C dX12_atom_138 rfl rfl rfl ?_
            refine j_lload_n (q := 0) (pc' := 140) C dX12_atom_139 rfl rfl rfl ?_
            obtain ⟨z12, hz12, hr⟩ := ob hr
            obtain ⟨q13, hq13, hr⟩ := ob hr
            obtain ⟨fhz12, hz12⟩ := rcv_sp hz12
            refine j_callV (ci := 9) (As := [.long j11, .long j11, .long j11, .long j11]) (rest := []) (st1 := []) (pc' := 143) C ⟨wm_1586, wm_50⟩ rfl hz12 (c_X12_push (nx := nx) hq13) yw_X12_push wm_1584 rfl rfl (by decide) ⟨by decide, by decide⟩ dX12_atom_140 rfl rfl ?_
            refine j_goto (tgt := 148) C dX12_atom_143 rfl ?_
            have hr := Option.some.inj hr
            subst hr
            exact j_lv [1] rfl (kj2 _ rfl)
          clear rj11
          have hr := hj11
          clear hj11
          refine j_ic_ne (tgt := 133) (pc' := 127) C dX12_atom_124 rfl rfl (fun hc => ?_) (fun hc => ?_)
          · have hr := ifF hc hr
            clear hc
            refine j_lconst (v := 0) (pc' := 134) C dX12_atom_133 kL_0 rfl ?_
            have hr := Option.some.inj hr
            subst hr
            exact j_lv [0] rfl kj11
          · have hr := ifT hc hr
            clear hc
            refine j_ldc2 (pc' := 130) C dX12_atom_127 wm_1588 rfl ?_
            refine j_goto (tgt := 134) C dX12_atom_130 rfl ?_
            have hr := Option.some.inj hr
            subst hr
            exact j_lv [0] rfl kj11
        · have hr := ifF hc hr
          clear hc
          refine j_iconst (v := 2) (pc' := 118) C dX12_atom_117 kI_2 rfl ?_
          have hr := Option.some.inj hr
          subst hr
          have hr := elL rj2
          have hr := Option.some.inj hr
          subst hr
          exact j_iret C hq hret dX12_atom_118
    · have hr := ifT hc hr
      clear hc
      refine j_aload_n (q := 0) (pc' := 53) C dX12_atom_52 rfl rfl rfl ?_
      obtain ⟨x14, hx14, hr⟩ := ob hr
      refine j_getI (pc' := 56) C dX12_atom_53 fl_X12_189 hx14 rfl ?_
      refine j_if_ne (tgt := 61) (pc' := 59) C dX12_atom_56 rfl rfl (fun hc => ?_) (fun hc => ?_)
      · have hr := ifF hc hr
        clear hc
        refine j_aload_n (q := 0) (pc' := 62) C dX12_atom_61 rfl rfl rfl ?_
        refine j_lconst (v := 0) (pc' := 63) C dX12_atom_62 kL_0 rfl ?_
        refine j_aload_n (q := 0) (pc' := 64) C dX12_atom_63 rfl rfl rfl ?_
        obtain ⟨x15, hx15, hr⟩ := ob hr
        refine j_getI (pc' := 67) C dX12_atom_64 fl_X12_138 hx15 rfl ?_
        obtain ⟨j16, hj16, rj16⟩ := ob hr
        have kj16 : Jd G 0 0 nx ce 77 [(0, .ref this)] [.long j16, .long 0, .ref this] := by
          have hr := rj16
          refine j_aload_n (q := 0) (pc' := 78) C dX12_atom_77 rfl rfl rfl ?_
          obtain ⟨x17, hx17, hr⟩ := ob hr
          refine j_getI (pc' := 81) C dX12_atom_78 fl_X12_138 hx17 rfl ?_
          refine j_iconst (v := 1) (pc' := 82) C dX12_atom_81 kI_1 rfl ?_
          obtain ⟨j18, hj18, rj18⟩ := ob hr
          have kj18 : Jd G 0 0 nx ce 92 [(0, .ref this)] [.long j18, .long j16, .long 0, .ref this] := by
            have hr := rj18
            refine j_ldc2 (pc' := 95) C dX12_atom_92 wm_1588 rfl ?_
            obtain ⟨z19, hz19, hr⟩ := ob hr
            obtain ⟨q20, hq20, hr⟩ := ob hr
            obtain ⟨fhz19, hz19⟩ := rcv_sp hz19
            refine j_callV (ci := 9) (As := [.long 0, .long j16, .long j18, .long (-1)]) (rest := []) (st1 := []) (pc' := 98) C ⟨wm_1586, wm_50⟩ rfl hz19 (c_X12_push (nx := nx) hq20) yw_X12_push wm_1584 rfl rfl (by decide) ⟨by decide, by decide⟩ dX12_atom_95 rfl rfl ?_
            refine j_goto (tgt := 148) C dX12_atom_98 rfl ?_
            have hr := Option.some.inj hr
            subst hr
            exact j_lv [0] rfl (kj2 _ rfl)
          clear rj18
          have hr := hj18
          clear hj18
          refine j_ic_ne (tgt := 91) (pc' := 85) C dX12_atom_82 rfl rfl (fun hc => ?_) (fun hc => ?_)
          · have hr := ifF hc hr
            clear hc
            refine j_lconst (v := 0) (pc' := 92) C dX12_atom_91 kL_0 rfl ?_
            have hr := Option.some.inj hr
            subst hr
            exact j_lv [0] rfl kj18
          · have hr := ifT hc hr
            clear hc
            refine j_ldc2 (pc' := 88) C dX12_atom_85 wm_1588 rfl ?_
            refine j_goto (tgt := 92) C dX12_atom_88 rfl ?_
            have hr := Option.some.inj hr
            subst hr
            exact j_lv [0] rfl kj18
        clear rj16
        have hr := hj16
        clear hj16
        refine j_if_ne (tgt := 76) (pc' := 70) C dX12_atom_67 rfl rfl (fun hc => ?_) (fun hc => ?_)
        · have hr := ifF hc hr
          clear hc
          refine j_lconst (v := 0) (pc' := 77) C dX12_atom_76 kL_0 rfl ?_
          have hr := Option.some.inj hr
          subst hr
          exact j_lv [0] rfl kj16
        · have hr := ifT hc hr
          clear hc
          refine j_ldc2 (pc' := 73) C dX12_atom_70 wm_1588 rfl ?_
          refine j_goto (tgt := 77) C dX12_atom_73 rfl ?_
          have hr := Option.some.inj hr
          subst hr
          exact j_lv [0] rfl kj16
      · have hr := ifT hc hr
        clear hc
        refine j_iconst (v := 5) (pc' := 60) C dX12_atom_59 kI_5 rfl ?_
        have hr := Option.some.inj hr
        subst hr
        have hr := elL rj2
        have hr := Option.some.inj hr
        subst hr
        exact j_iret C hq hret dX12_atom_60
  · have hr := ifT hc hr
    clear hc
    refine j_aload_n (q := 0) (pc' := 11) C dX12_atom_10 rfl rfl rfl ?_
    obtain ⟨x21, hx21, hr⟩ := ob hr
    refine j_getI (pc' := 14) C dX12_atom_11 fl_X12_138 hx21 rfl ?_
    refine j_aload_n (q := 0) (pc' := 15) C dX12_atom_14 rfl rfl rfl ?_
    obtain ⟨x22, hx22, hr⟩ := ob hr
    refine j_getI (pc' := 18) C dX12_atom_15 fl_X12_182 hx22 rfl ?_
    refine j_ic_lt (tgt := 23) (pc' := 21) C dX12_atom_18 rfl rfl (fun hc => ?_) (fun hc => ?_)
    · have hr := ifT hc hr
      clear hc
      refine j_aload_n (q := 0) (pc' := 24) C dX12_atom_23 rfl rfl rfl ?_
      obtain ⟨x23, hx23, hr⟩ := ob hr
      refine j_getI (pc' := 27) C dX12_atom_24 fl_X12_138 hx23 rfl ?_
      obtain ⟨x24, hx24, hr⟩ := ob hr
      refine j_callS (As := [.int x23]) (rest := []) (st1 := [.long x24]) (pc' := 30) C wm_1533 (c_X12_letterSet (nx := nx) (ce := ce) hx24) yw_X12_letterSet wm_1532 rfl rfl (by decide) ⟨by decide, by decide⟩ dX12_atom_27 rfl rfl ?_
      refine j_lstore_n (lv' := [(1, .long x24), (0, .ref this)]) (pc' := 31) C dX12_atom_30 rfl (by decide) rfl rfl ?_
      refine j_aload_n (q := 1) (pc' := 32) C dX12_atom_31 rfl rfl rfl ?_
      refine j_lload_n (q := 0) (pc' := 33) C dX12_atom_32 rfl rfl rfl ?_
      refine j_lload_n (q := 0) (pc' := 34) C dX12_atom_33 rfl rfl rfl ?_
      refine j_lload_n (q := 0) (pc' := 35) C dX12_atom_34 rfl rfl rfl ?_
      refine j_lload_n (q := 0) (pc' := 36) C dX12_atom_35 rfl rfl rfl ?_
      obtain ⟨z25, hz25, hr⟩ := ob hr
      obtain ⟨q26, hq26, hr⟩ := ob hr
      obtain ⟨fhz25, hz25⟩ := rcv_sp hz25
      refine j_callV (ci := 9) (As := [.long x24, .long x24, .long x24, .long x24]) (rest := []) (st1 := []) (pc' := 39) C ⟨wm_1586, wm_50⟩ rfl hz25 (c_X12_push (nx := nx) hq26) yw_X12_push wm_1584 rfl rfl (by decide) ⟨by decide, by decide⟩ dX12_atom_36 rfl rfl ?_
      refine j_goto (tgt := 148) C dX12_atom_39 rfl ?_
      have hr := Option.some.inj hr
      subst hr
      exact j_lv [1] rfl (kj2 _ rfl)
    · have hr := ifF hc hr
      clear hc
      refine j_iconst (v := 3) (pc' := 22) C dX12_atom_21 kI_3 rfl ?_
      have hr := Option.some.inj hr
      subst hr
      have hr := elL rj2
      have hr := Option.some.inj hr
      subst hr
      exact j_iret C hq hret dX12_atom_22
def m_X12_isBetween (ce : Ce) (this : Nat) : Option (Int32) :=
  (gI ce 9 12 this).bind fun x1 =>
  if x1 = 38 then
    some 1
  else
    (gI ce 9 12 this).bind fun x2 =>
    if x2 = 94 then
      some 1
    else
      (gI ce 9 12 this).bind fun x3 =>
      if x3 = 124 then
        some 1
      else
        some 0
set_option maxRecDepth 100000 in
set_option maxHeartbeats 4000000 in
theorem c_X12_isBetween {nx : Nat} {ce : Ce} {this : Nat} {q : Int32} (hr : m_X12_isBetween ce this = some q) : Ct yX12_isBetween cX12_isBetween 1 (some .boolean) 0 0 0 0 [.ref this] nx ce (some (.int q)) ce := by
  unfold m_X12_isBetween at hr
  refine ct_of (by decide) (by decide) ?_
  intro G C hq hret hin
  show Jd G 0 0 nx ce 0 [(0, .ref this)] []
  refine j_aload_n (q := 0) (pc' := 1) C dX12_isBetween_0 rfl rfl rfl ?_
  obtain ⟨x1, hx1, hr⟩ := ob hr
  refine j_getI (pc' := 4) C dX12_isBetween_1 fl_X12_148 hx1 rfl ?_
  refine j_bipush (v := 38) (pc' := 6) C dX12_isBetween_4 kB_38 rfl ?_
  refine j_ic_eq (tgt := 27) (pc' := 9) C dX12_isBetween_6 rfl rfl (fun hc => ?_) (fun hc => ?_)
  · have hr := ifT hc hr
    clear hc
    refine j_iconst (v := 1) (pc' := 28) C dX12_isBetween_27 kI_1 rfl ?_
    refine j_goto (tgt := 32) C dX12_isBetween_28 rfl ?_
    have hr := Option.some.inj hr
    subst hr
    exact j_zret C hq hret rfl dX12_isBetween_32
  · have hr := ifF hc hr
    clear hc
    refine j_aload_n (q := 0) (pc' := 10) C dX12_isBetween_9 rfl rfl rfl ?_
    obtain ⟨x2, hx2, hr⟩ := ob hr
    refine j_getI (pc' := 13) C dX12_isBetween_10 fl_X12_148 hx2 rfl ?_
    refine j_bipush (v := 94) (pc' := 15) C dX12_isBetween_13 kB_94 rfl ?_
    refine j_ic_eq (tgt := 27) (pc' := 18) C dX12_isBetween_15 rfl rfl (fun hc => ?_) (fun hc => ?_)
    · have hr := ifT hc hr
      clear hc
      refine j_iconst (v := 1) (pc' := 28) C dX12_isBetween_27 kI_1 rfl ?_
      refine j_goto (tgt := 32) C dX12_isBetween_28 rfl ?_
      have hr := Option.some.inj hr
      subst hr
      exact j_zret C hq hret rfl dX12_isBetween_32
    · have hr := ifF hc hr
      clear hc
      refine j_aload_n (q := 0) (pc' := 19) C dX12_isBetween_18 rfl rfl rfl ?_
      obtain ⟨x3, hx3, hr⟩ := ob hr
      refine j_getI (pc' := 22) C dX12_isBetween_19 fl_X12_148 hx3 rfl ?_
      refine j_bipush (v := 124) (pc' := 24) C dX12_isBetween_22 kB_124 rfl ?_
      refine j_ic_ne (tgt := 31) (pc' := 27) C dX12_isBetween_24 rfl rfl (fun hc => ?_) (fun hc => ?_)
      · have hr := ifF hc hr
        clear hc
        refine j_iconst (v := 0) (pc' := 32) C dX12_isBetween_31 kI_0 rfl ?_
        have hr := Option.some.inj hr
        subst hr
        exact j_zret C hq hret rfl dX12_isBetween_32
      · have hr := ifT hc hr
        clear hc
        refine j_iconst (v := 1) (pc' := 28) C dX12_isBetween_27 kI_1 rfl ?_
        refine j_goto (tgt := 32) C dX12_isBetween_28 rfl ?_
        have hr := Option.some.inj hr
        subst hr
        exact j_zret C hq hret rfl dX12_isBetween_32
def m_X12_form (ce : Ce) (this : Nat) : Option (Int32 × Ce) :=
  (pV ce 9 16 this (.int 0)).bind fun c1 =>
  (pV c1 9 17 this (.int 0)).bind fun c2 =>
  (pV c2 9 18 this (.int 0)).bind fun c3 =>
  (it (fun s4 =>
    if s4.1 = 0 then
      (gI s4.2 9 12 this).bind fun x33 =>
      (
        if x33 = 40 then
          some ((Sum.inr (), s4.2))
        else
          (gI s4.2 9 12 this).bind fun x40 =>
          if x40 = 33 then
            some ((Sum.inr (), s4.2))
          else
            (
              if 0 = 0 then
                (rcv s4.2 9 this).bind fun z42 =>
                (m_X12_atom s4.2 this).bind fun q43 =>
                some (q43.1, q43.2)
              else
                (rcv s4.2 9 this).bind fun z44 =>
                (m_X12_opened s4.2 this).bind fun q45 =>
                some (q45.1, q45.2)
            ).bind fun j41 =>
            if j41.1 = 0 then
              if 0 = 0 then
                some ((Sum.inl (Sum.inl (1, j41.2)), j41.2))
              else
                some ((Sum.inl (Sum.inl (0, j41.2)), j41.2))
            else
              some ((Sum.inl (Sum.inr (Sum.inl j41.1, j41.2)), j41.2))
      ).bind fun j34 => Sum.elim (fun wj34 => some wj34) (fun vj34 =>
        (
          if 1 = 0 then
            (rcv j34.2 9 this).bind fun z36 =>
            (m_X12_atom j34.2 this).bind fun q37 =>
            some (q37.1, q37.2)
          else
            (rcv j34.2 9 this).bind fun z38 =>
            (m_X12_opened j34.2 this).bind fun q39 =>
            some (q39.1, q39.2)
        ).bind fun j35 =>
        if j35.1 = 0 then
          if 1 = 0 then
            some (Sum.inl (1, j35.2))
          else
            some (Sum.inl (0, j35.2))
        else
          some (Sum.inr (Sum.inl j35.1, j35.2))
      ) j34.1
    else
      (rcv s4.2 9 this).bind fun z7 =>
      (m_X12_isBetween s4.2 this).bind fun x8 =>
      if x8 = 0 then
        (rcv s4.2 9 this).bind fun z9 =>
        (m_X12_settle s4.2 this 1).bind fun q10 =>
        (gI q10.2 9 17 this).bind fun x11 =>
        if x11 = 0 then
          some (Sum.inr (Sum.inl 0, q10.2))
        else
          (gI q10.2 9 12 this).bind fun x12 =>
          if x12 = 41 then
            (gI q10.2 9 17 this).bind fun x13 =>
            (pV q10.2 9 17 this (.int (x13 - 1))).bind fun c14 =>
            (gI c14 9 18 this).bind fun x15 =>
            (pV c14 9 18 this (.int (x15 - 1))).bind fun c16 =>
            (rcv c16 9 this).bind fun z17 =>
            (m_X12_nextToken c16 this).bind fun q18 =>
            (rcv q18.2 9 this).bind fun z19 =>
            (m_X12_settle q18.2 this 4).bind fun q20 =>
            some (Sum.inl (s4.1, q20.2))
          else
            some (Sum.inr (Sum.inl 1, q10.2))
      else
        (gI s4.2 9 12 this).bind fun x21 =>
        (m_X12_rank x21).bind fun x22 =>
        (rcv s4.2 9 this).bind fun z23 =>
        (m_X12_settle s4.2 this x22).bind fun q24 =>
        (gA q24.2 9 15 this).bind fun x25 =>
        (gI q24.2 9 17 this).bind fun x26 =>
        (gI q24.2 9 12 this).bind fun x27 =>
        (sI q24.2 x25 x26 x27).bind fun c28 =>
        (gI c28 9 17 this).bind fun x29 =>
        (pV c28 9 17 this (.int (x29 + 1))).bind fun c30 =>
        (rcv c30 9 this).bind fun z31 =>
        (m_X12_nextToken c30 this).bind fun q32 =>
        some (Sum.inl (0, q32.2))
  ) FU (0, c3)).bind fun o5 =>
  Sum.elim (fun wo5 => some (wo5, o5.2)) (fun (_ : Unit) => none) o5.1
set_option maxRecDepth 100000 in
set_option maxHeartbeats 4000000 in
theorem c_X12_form {nx : Nat} {ce : Ce} {this : Nat} {q : Int32 × Ce} (hr : m_X12_form ce this = some q) : Ct yX12_form cX12_form 4 (some .int) 5 112 0 0 [.ref this] nx ce (some (.int q.1)) q.2 := by
  unfold m_X12_form at hr
  refine ct_of (by decide) (by decide) ?_
  intro G C hq hret hin
  show Jd G 0 0 nx ce 0 [(0, .ref this)] []
  refine j_aload_n (q := 0) (pc' := 1) C dX12_form_0 rfl rfl rfl ?_
  refine j_iconst (v := 0) (pc' := 2) C dX12_form_1 kI_0 rfl ?_
  obtain ⟨c1, hc1, hr⟩ := ob hr
  refine j_put (pc' := 5) C dX12_form_2 fw_X12_164 rfl rfl hc1 rfl ?_
  refine j_aload_n (q := 0) (pc' := 6) C dX12_form_5 rfl rfl rfl ?_
  refine j_iconst (v := 0) (pc' := 7) C dX12_form_6 kI_0 rfl ?_
  obtain ⟨c2, hc2, hr⟩ := ob hr
  refine j_put (pc' := 10) C dX12_form_7 fw_X12_170 rfl rfl hc2 rfl ?_
  refine j_aload_n (q := 0) (pc' := 11) C dX12_form_10 rfl rfl rfl ?_
  refine j_iconst (v := 0) (pc' := 12) C dX12_form_11 kI_0 rfl ?_
  obtain ⟨c3, hc3, hr⟩ := ob hr
  refine j_put (pc' := 15) C dX12_form_12 fw_X12_167 rfl rfl hc3 rfl ?_
  refine j_iconst (v := 0) (pc' := 16) C dX12_form_15 kI_0 rfl ?_
  refine j_istore_n (lv' := [(1, .int 0), (0, .ref this)]) (pc' := 17) C dX12_form_16 rfl (by decide) rfl rfl ?_
  obtain ⟨o5, ho5, ro5⟩ := ob hr
  refine j_lv [1, 0] rfl (it_J (J := (fun s4 => Jd G 0 0 nx s4.2 17 [(0, .ref this), (1, .int s4.1)] [])) ?_ ho5)
  clear ho5
  intro s4 r6 hr is4 es4
  refine j_iload_n (q := 1) (pc' := 18) C dX12_form_17 rfl rfl rfl ?_
  refine j_if_ne (tgt := 80) (pc' := 21) C dX12_form_18 rfl rfl (fun hc => ?_) (fun hc => ?_)
  · have hr := ifF hc hr
    clear hc
    refine j_aload_n (q := 0) (pc' := 81) C dX12_form_80 rfl rfl rfl ?_
    obtain ⟨z7, hz7, hr⟩ := ob hr
    obtain ⟨x8, hx8, hr⟩ := ob hr
    obtain ⟨fhz7, hz7⟩ := rcv_sp hz7
    refine j_callV (ci := 9) (As := []) (rest := []) (st1 := [.int x8]) (pc' := 84) C ⟨wm_1602, wm_53⟩ rfl hz7 (c_X12_isBetween (nx := nx) hx8) yw_X12_isBetween wm_1600 rfl rfl (by decide) ⟨by decide, by decide⟩ dX12_form_81 rfl rfl ?_
    refine j_if_eq (tgt := 130) (pc' := 87) C dX12_form_84 rfl rfl (fun hc => ?_) (fun hc => ?_)
    · have hr := ifT hc hr
      clear hc
      refine j_aload_n (q := 0) (pc' := 131) C dX12_form_130 rfl rfl rfl ?_
      refine j_iconst (v := 1) (pc' := 132) C dX12_form_131 kI_1 rfl ?_
      obtain ⟨z9, hz9, hr⟩ := ob hr
      obtain ⟨q10, hq10, hr⟩ := ob hr
      obtain ⟨fhz9, hz9⟩ := rcv_sp hz9
      refine j_callV (ci := 9) (As := [.int 1]) (rest := []) (st1 := []) (pc' := 135) C ⟨wm_1591, wm_51⟩ rfl hz9 (c_X12_settle (nx := nx) hq10) yw_X12_settle wm_1589 rfl rfl (by decide) ⟨by decide, by decide⟩ dX12_form_132 rfl rfl ?_
      refine j_aload_n (q := 0) (pc' := 136) C dX12_form_135 rfl rfl rfl ?_
      obtain ⟨x11, hx11, hr⟩ := ob hr
      refine j_getI (pc' := 139) C dX12_form_136 fl_X12_170 hx11 rfl ?_
      refine j_if_ne (tgt := 144) (pc' := 142) C dX12_form_139 rfl rfl (fun hc => ?_) (fun hc => ?_)
      · have hr := ifF hc hr
        clear hc
        refine j_aload_n (q := 0) (pc' := 145) C dX12_form_144 rfl rfl rfl ?_
        obtain ⟨x12, hx12, hr⟩ := ob hr
        refine j_getI (pc' := 148) C dX12_form_145 fl_X12_148 hx12 rfl ?_
        refine j_bipush (v := 41) (pc' := 150) C dX12_form_148 kB_41 rfl ?_
        refine j_ic_eq (tgt := 155) (pc' := 153) C dX12_form_150 rfl rfl (fun hc => ?_) (fun hc => ?_)
        · have hr := ifT hc hr
          clear hc
          refine j_aload_n (q := 0) (pc' := 156) C dX12_form_155 rfl rfl rfl ?_
          refine j_dup (pc' := 157) C dX12_form_156 rfl rfl ?_
          obtain ⟨x13, hx13, hr⟩ := ob hr
          refine j_getI (pc' := 160) C dX12_form_157 fl_X12_170 hx13 rfl ?_
          refine j_iconst (v := 1) (pc' := 161) C dX12_form_160 kI_1 rfl ?_
          refine j_isub (pc' := 162) C dX12_form_161 rfl ?_
          obtain ⟨c14, hc14, hr⟩ := ob hr
          refine j_put (pc' := 165) C dX12_form_162 fw_X12_170 rfl rfl hc14 rfl ?_
          refine j_aload_n (q := 0) (pc' := 166) C dX12_form_165 rfl rfl rfl ?_
          refine j_dup (pc' := 167) C dX12_form_166 rfl rfl ?_
          obtain ⟨x15, hx15, hr⟩ := ob hr
          refine j_getI (pc' := 170) C dX12_form_167 fl_X12_167 hx15 rfl ?_
          refine j_iconst (v := 1) (pc' := 171) C dX12_form_170 kI_1 rfl ?_
          refine j_isub (pc' := 172) C dX12_form_171 rfl ?_
          obtain ⟨c16, hc16, hr⟩ := ob hr
          refine j_put (pc' := 175) C dX12_form_172 fw_X12_167 rfl rfl hc16 rfl ?_
          refine j_aload_n (q := 0) (pc' := 176) C dX12_form_175 rfl rfl rfl ?_
          obtain ⟨z17, hz17, hr⟩ := ob hr
          obtain ⟨q18, hq18, hr⟩ := ob hr
          obtain ⟨fhz17, hz17⟩ := rcv_sp hz17
          refine j_callV (ci := 9) (As := []) (rest := []) (st1 := []) (pc' := 179) C ⟨wm_1537, wm_40⟩ rfl hz17 (c_X12_nextToken (nx := nx) hq18) yw_X12_nextToken wm_1535 rfl rfl (by decide) ⟨by decide, by decide⟩ dX12_form_176 rfl rfl ?_
          refine j_aload_n (q := 0) (pc' := 180) C dX12_form_179 rfl rfl rfl ?_
          refine j_iconst (v := 4) (pc' := 181) C dX12_form_180 kI_4 rfl ?_
          obtain ⟨z19, hz19, hr⟩ := ob hr
          obtain ⟨q20, hq20, hr⟩ := ob hr
          obtain ⟨fhz19, hz19⟩ := rcv_sp hz19
          refine j_callV (ci := 9) (As := [.int 4]) (rest := []) (st1 := []) (pc' := 184) C ⟨wm_1591, wm_51⟩ rfl hz19 (c_X12_settle (nx := nx) hq20) yw_X12_settle wm_1589 rfl rfl (by decide) ⟨by decide, by decide⟩ dX12_form_181 rfl rfl ?_
          refine j_goto (tgt := 17) C dX12_form_184 rfl ?_
          exact j_lv [0, 1] rfl (is4 _ (Option.some.inj hr).symm)
        · have hr := ifF hc hr
          clear hc
          refine j_iconst (v := 1) (pc' := 154) C dX12_form_153 kI_1 rfl ?_
          have hr := es4 _ (Option.some.inj hr).symm
          subst hr
          have hr := elL ro5
          have hr := Option.some.inj hr
          subst hr
          exact j_iret C hq hret dX12_form_154
      · have hr := ifT hc hr
        clear hc
        refine j_iconst (v := 0) (pc' := 143) C dX12_form_142 kI_0 rfl ?_
        have hr := es4 _ (Option.some.inj hr).symm
        subst hr
        have hr := elL ro5
        have hr := Option.some.inj hr
        subst hr
        exact j_iret C hq hret dX12_form_143
    · have hr := ifF hc hr
      clear hc
      refine j_aload_n (q := 0) (pc' := 88) C dX12_form_87 rfl rfl rfl ?_
      refine j_aload_n (q := 0) (pc' := 89) C dX12_form_88 rfl rfl rfl ?_
      obtain ⟨x21, hx21, hr⟩ := ob hr
      refine j_getI (pc' := 92) C dX12_form_89 fl_X12_148 hx21 rfl ?_
      obtain ⟨x22, hx22, hr⟩ := ob hr
      refine j_callS (As := [.int x21]) (rest := [.ref this]) (st1 := [.int x22, .ref this]) (pc' := 95) C wm_1594 (c_X12_rank (nx := nx) (ce := s4.2) hx22) yw_X12_rank wm_1593 rfl rfl (by decide) ⟨by decide, by decide⟩ dX12_form_92 rfl rfl ?_
      obtain ⟨z23, hz23, hr⟩ := ob hr
      obtain ⟨q24, hq24, hr⟩ := ob hr
      obtain ⟨fhz23, hz23⟩ := rcv_sp hz23
      refine j_callV (ci := 9) (As := [.int x22]) (rest := []) (st1 := []) (pc' := 98) C ⟨wm_1591, wm_51⟩ rfl hz23 (c_X12_settle (nx := nx) hq24) yw_X12_settle wm_1589 rfl rfl (by decide) ⟨by decide, by decide⟩ dX12_form_95 rfl rfl ?_
      refine j_aload_n (q := 0) (pc' := 99) C dX12_form_98 rfl rfl rfl ?_
      obtain ⟨x25, hx25, hr⟩ := ob hr
      refine j_getA (pc' := 102) C dX12_form_99 fl_X12_44 hx25 rfl ?_
      refine j_aload_n (q := 0) (pc' := 103) C dX12_form_102 rfl rfl rfl ?_
      obtain ⟨x26, hx26, hr⟩ := ob hr
      refine j_getI (pc' := 106) C dX12_form_103 fl_X12_170 hx26 rfl ?_
      refine j_aload_n (q := 0) (pc' := 107) C dX12_form_106 rfl rfl rfl ?_
      obtain ⟨x27, hx27, hr⟩ := ob hr
      refine j_getI (pc' := 110) C dX12_form_107 fl_X12_148 hx27 rfl ?_
      obtain ⟨c28, hc28, hr⟩ := ob hr
      refine j_iast (pc' := 111) C dX12_form_110 hc28 rfl ?_
      refine j_aload_n (q := 0) (pc' := 112) C dX12_form_111 rfl rfl rfl ?_
      refine j_dup (pc' := 113) C dX12_form_112 rfl rfl ?_
      obtain ⟨x29, hx29, hr⟩ := ob hr
      refine j_getI (pc' := 116) C dX12_form_113 fl_X12_170 hx29 rfl ?_
      refine j_iconst (v := 1) (pc' := 117) C dX12_form_116 kI_1 rfl ?_
      refine j_iadd (pc' := 118) C dX12_form_117 rfl ?_
      obtain ⟨c30, hc30, hr⟩ := ob hr
      refine j_put (pc' := 121) C dX12_form_118 fw_X12_170 rfl rfl hc30 rfl ?_
      refine j_aload_n (q := 0) (pc' := 122) C dX12_form_121 rfl rfl rfl ?_
      obtain ⟨z31, hz31, hr⟩ := ob hr
      obtain ⟨q32, hq32, hr⟩ := ob hr
      obtain ⟨fhz31, hz31⟩ := rcv_sp hz31
      refine j_callV (ci := 9) (As := []) (rest := []) (st1 := []) (pc' := 125) C ⟨wm_1537, wm_40⟩ rfl hz31 (c_X12_nextToken (nx := nx) hq32) yw_X12_nextToken wm_1535 rfl rfl (by decide) ⟨by decide, by decide⟩ dX12_form_122 rfl rfl ?_
      refine j_iconst (v := 0) (pc' := 126) C dX12_form_125 kI_0 rfl ?_
      refine j_istore_n (lv' := [(1, .int 0), (0, .ref this)]) (pc' := 127) C dX12_form_126 rfl (by decide) rfl rfl ?_
      refine j_goto (tgt := 17) C dX12_form_127 rfl ?_
      exact j_lv [1, 0] rfl (is4 _ (Option.some.inj hr).symm)
  · have hr := ifT hc hr
    clear hc
    refine j_aload_n (q := 0) (pc' := 22) C dX12_form_21 rfl rfl rfl ?_
    obtain ⟨x33, hx33, hr⟩ := ob hr
    refine j_getI (pc' := 25) C dX12_form_22 fl_X12_148 hx33 rfl ?_
    refine j_bipush (v := 40) (pc' := 27) C dX12_form_25 kB_40 rfl ?_
    obtain ⟨j34, hj34, rj34⟩ := ob hr
    have kj34 : ∀ vj34, j34.1 = Sum.inr vj34 → Jd G 0 0 nx j34.2 39 [(0, .ref this)] [] := by
      intro vj34 ej34
      rw [ej34] at rj34
      have hr := elR rj34
      refine j_iconst (v := 1) (pc' := 40) C dX12_form_39 kI_1 rfl ?_
      refine j_goto (tgt := 44) C dX12_form_40 rfl ?_
      refine j_istore_n (lv' := [(2, .int 1), (0, .ref this)]) (pc' := 45) C dX12_form_44 rfl (by decide) rfl rfl ?_
      refine j_iload_n (q := 0) (pc' := 46) C dX12_form_45 rfl rfl rfl ?_
      obtain ⟨j35, hj35, rj35⟩ := ob hr
      have kj35 : Jd G 0 0 nx j35.2 60 [(0, .ref this), (2, .int 1)] [.int j35.1] := by
        have hr := rj35
        refine j_istore_n (lv' := [(3, .int j35.1), (0, .ref this), (2, .int 1)]) (pc' := 61) C dX12_form_60 rfl (by decide) rfl rfl ?_
        refine j_iload_n (q := 0) (pc' := 62) C dX12_form_61 rfl rfl rfl ?_
        refine j_if_eq (tgt := 67) (pc' := 65) C dX12_form_62 rfl rfl (fun hc => ?_) (fun hc => ?_)
        · have hr := ifT hc hr
          clear hc
          refine j_iload_n (q := 2) (pc' := 68) C dX12_form_67 rfl rfl rfl ?_
          refine j_if_ne (tgt := 75) (pc' := 71) C dX12_form_68 rfl rfl (fun hc => ?_) (fun hc => ?_)
          · have hr := ifF hc hr
            clear hc
            refine j_iconst (v := 0) (pc' := 76) C dX12_form_75 kI_0 rfl ?_
            refine j_istore_n (lv' := [(1, .int 0), (3, .int j35.1), (0, .ref this), (2, .int 1)]) (pc' := 77) C dX12_form_76 rfl (by decide) rfl rfl ?_
            refine j_goto (tgt := 17) C dX12_form_77 rfl ?_
            exact j_lv [2, 0] rfl (is4 _ (Option.some.inj hr).symm)
          · have hr := ifT hc hr
            clear hc
            refine j_iconst (v := 1) (pc' := 72) C dX12_form_71 kI_1 rfl ?_
            refine j_goto (tgt := 76) C dX12_form_72 rfl ?_
            refine j_istore_n (lv' := [(1, .int 1), (3, .int j35.1), (0, .ref this), (2, .int 1)]) (pc' := 77) C dX12_form_76 rfl (by decide) rfl rfl ?_
            refine j_goto (tgt := 17) C dX12_form_77 rfl ?_
            exact j_lv [2, 0] rfl (is4 _ (Option.some.inj hr).symm)
        · have hr := ifF hc hr
          clear hc
          refine j_iload_n (q := 0) (pc' := 66) C dX12_form_65 rfl rfl rfl ?_
          have hr := es4 _ (Option.some.inj hr).symm
          subst hr
          have hr := elL ro5
          have hr := Option.some.inj hr
          subst hr
          exact j_iret C hq hret dX12_form_66
      clear rj35
      have hr := hj35
      clear hj35
      refine j_if_eq (tgt := 56) (pc' := 49) C dX12_form_46 rfl rfl (fun hc => ?_) (fun hc => ?_)
      · have hr := ifT hc hr
        clear hc
        refine j_aload_n (q := 1) (pc' := 57) C dX12_form_56 rfl rfl rfl ?_
        obtain ⟨z36, hz36, hr⟩ := ob hr
        obtain ⟨q37, hq37, hr⟩ := ob hr
        obtain ⟨fhz36, hz36⟩ := rcv_sp hz36
        refine j_callV (ci := 9) (As := []) (rest := []) (st1 := [.int q37.1]) (pc' := 60) C ⟨wm_1582, wm_49⟩ rfl hz36 (c_X12_atom (nx := nx) hq37) yw_X12_atom wm_1580 rfl rfl (by decide) ⟨by decide, by decide⟩ dX12_form_57 rfl rfl ?_
        have hr := Option.some.inj hr
        subst hr
        exact j_lv [1, 0] rfl kj35
      · have hr := ifF hc hr
        clear hc
        refine j_aload_n (q := 1) (pc' := 50) C dX12_form_49 rfl rfl rfl ?_
        obtain ⟨z38, hz38, hr⟩ := ob hr
        obtain ⟨q39, hq39, hr⟩ := ob hr
        obtain ⟨fhz38, hz38⟩ := rcv_sp hz38
        refine j_callV (ci := 9) (As := []) (rest := []) (st1 := [.int q39.1]) (pc' := 53) C ⟨wm_1578, wm_48⟩ rfl hz38 (c_X12_opened (nx := nx) hq39) yw_X12_opened wm_1576 rfl rfl (by decide) ⟨by decide, by decide⟩ dX12_form_50 rfl rfl ?_
        refine j_goto (tgt := 60) C dX12_form_53 rfl ?_
        have hr := Option.some.inj hr
        subst hr
        exact j_lv [1, 0] rfl kj35
    have hr := hj34
    clear hj34
    refine j_ic_eq (tgt := 39) (pc' := 30) C dX12_form_27 rfl rfl (fun hc => ?_) (fun hc => ?_)
    · have hr := ifT hc hr
      clear hc
      have hr := Option.some.inj hr
      subst hr
      exact j_lv [0] rfl (kj34 _ rfl)
    · have hr := ifF hc hr
      clear hc
      refine j_aload_n (q := 0) (pc' := 31) C dX12_form_30 rfl rfl rfl ?_
      obtain ⟨x40, hx40, hr⟩ := ob hr
      refine j_getI (pc' := 34) C dX12_form_31 fl_X12_148 hx40 rfl ?_
      refine j_bipush (v := 33) (pc' := 36) C dX12_form_34 kB_33 rfl ?_
      refine j_ic_ne (tgt := 43) (pc' := 39) C dX12_form_36 rfl rfl (fun hc => ?_) (fun hc => ?_)
      · have hr := ifF hc hr
        clear hc
        refine j_iconst (v := 0) (pc' := 44) C dX12_form_43 kI_0 rfl ?_
        refine j_istore_n (lv' := [(2, .int 0), (0, .ref this), (1, .int s4.1)]) (pc' := 45) C dX12_form_44 rfl (by decide) rfl rfl ?_
        refine j_iload_n (q := 0) (pc' := 46) C dX12_form_45 rfl rfl rfl ?_
        obtain ⟨j41, hj41, rj41⟩ := ob hr
        have kj41 : Jd G 0 0 nx j41.2 60 [(0, .ref this), (2, .int 0)] [.int j41.1] := by
          have hr := rj41
          refine j_istore_n (lv' := [(3, .int j41.1), (0, .ref this), (2, .int 0)]) (pc' := 61) C dX12_form_60 rfl (by decide) rfl rfl ?_
          refine j_iload_n (q := 0) (pc' := 62) C dX12_form_61 rfl rfl rfl ?_
          refine j_if_eq (tgt := 67) (pc' := 65) C dX12_form_62 rfl rfl (fun hc => ?_) (fun hc => ?_)
          · have hr := ifT hc hr
            clear hc
            refine j_iload_n (q := 2) (pc' := 68) C dX12_form_67 rfl rfl rfl ?_
            refine j_if_ne (tgt := 75) (pc' := 71) C dX12_form_68 rfl rfl (fun hc => ?_) (fun hc => ?_)
            · have hr := ifF hc hr
              clear hc
              refine j_iconst (v := 0) (pc' := 76) C dX12_form_75 kI_0 rfl ?_
              refine j_istore_n (lv' := [(1, .int 0), (3, .int j41.1), (0, .ref this), (2, .int 0)]) (pc' := 77) C dX12_form_76 rfl (by decide) rfl rfl ?_
              refine j_goto (tgt := 17) C dX12_form_77 rfl ?_
              have hr := Option.some.inj hr
              subst hr
              have hr := elL rj34
              exact j_lv [2, 0] rfl (is4 _ (Option.some.inj hr).symm)
            · have hr := ifT hc hr
              clear hc
              refine j_iconst (v := 1) (pc' := 72) C dX12_form_71 kI_1 rfl ?_
              refine j_goto (tgt := 76) C dX12_form_72 rfl ?_
              refine j_istore_n (lv' := [(1, .int 1), (3, .int j41.1), (0, .ref this), (2, .int 0)]) (pc' := 77) C dX12_form_76 rfl (by decide) rfl rfl ?_
              refine j_goto (tgt := 17) C dX12_form_77 rfl ?_
              have hr := Option.some.inj hr
              subst hr
              have hr := elL rj34
              exact j_lv [2, 0] rfl (is4 _ (Option.some.inj hr).symm)
          · have hr := ifF hc hr
            clear hc
            refine j_iload_n (q := 0) (pc' := 66) C dX12_form_65 rfl rfl rfl ?_
            have hr := Option.some.inj hr
            subst hr
            have hr := elL rj34
            have hr := es4 _ (Option.some.inj hr).symm
            subst hr
            have hr := elL ro5
            have hr := Option.some.inj hr
            subst hr
            exact j_iret C hq hret dX12_form_66
        clear rj41
        have hr := hj41
        clear hj41
        refine j_if_eq (tgt := 56) (pc' := 49) C dX12_form_46 rfl rfl (fun hc => ?_) (fun hc => ?_)
        · have hr := ifT hc hr
          clear hc
          refine j_aload_n (q := 1) (pc' := 57) C dX12_form_56 rfl rfl rfl ?_
          obtain ⟨z42, hz42, hr⟩ := ob hr
          obtain ⟨q43, hq43, hr⟩ := ob hr
          obtain ⟨fhz42, hz42⟩ := rcv_sp hz42
          refine j_callV (ci := 9) (As := []) (rest := []) (st1 := [.int q43.1]) (pc' := 60) C ⟨wm_1582, wm_49⟩ rfl hz42 (c_X12_atom (nx := nx) hq43) yw_X12_atom wm_1580 rfl rfl (by decide) ⟨by decide, by decide⟩ dX12_form_57 rfl rfl ?_
          have hr := Option.some.inj hr
          subst hr
          exact j_lv [1, 0] rfl kj41
        · have hr := ifF hc hr
          clear hc
          refine j_aload_n (q := 1) (pc' := 50) C dX12_form_49 rfl rfl rfl ?_
          obtain ⟨z44, hz44, hr⟩ := ob hr
          obtain ⟨q45, hq45, hr⟩ := ob hr
          obtain ⟨fhz44, hz44⟩ := rcv_sp hz44
          refine j_callV (ci := 9) (As := []) (rest := []) (st1 := [.int q45.1]) (pc' := 53) C ⟨wm_1578, wm_48⟩ rfl hz44 (c_X12_opened (nx := nx) hq45) yw_X12_opened wm_1576 rfl rfl (by decide) ⟨by decide, by decide⟩ dX12_form_50 rfl rfl ?_
          refine j_goto (tgt := 60) C dX12_form_53 rfl ?_
          have hr := Option.some.inj hr
          subst hr
          exact j_lv [1, 0] rfl kj41
      · have hr := ifT hc hr
        clear hc
        have hr := Option.some.inj hr
        subst hr
        exact j_lv [0] rfl (kj34 _ rfl)
def m_X12_formAt (ce : Ce) (this : Nat) (p1 : Int32) (p2 : Int32) : Option (Int32 × Ce) :=
  (pZ ce 9 20 this p2).bind fun c1 =>
  (rcv c1 9 this).bind fun z2 =>
  (m_X12_form c1 this).bind fun q3 =>
  if q3.1 = 0 then
    (it (fun s4 =>
      (
        if p2 = 0 then
          some 1
        else
          some 4
      ).bind fun j7 =>
      if j7 ≤ s4.1 then
        some (Sum.inr ((), s4.2))
      else
        (gA s4.2 9 5 this).bind fun x8 =>
        (gA s4.2 9 14 this).bind fun x9 =>
        (aL s4.2 x9 s4.1).bind fun x10 =>
        (sL s4.2 x8 (p1 + s4.1) x10).bind fun c11 =>
        some (Sum.inl ((s4.1 + 1), c11))
    ) FU (0, q3.2)).bind fun o5 =>
    some (0, o5.2)
  else
    some (q3.1, q3.2)
set_option maxRecDepth 100000 in
set_option maxHeartbeats 4000000 in
theorem c_X12_formAt {nx : Nat} {ce : Ce} {this : Nat} {p1 : Int32} {p2 : Int32} {q : Int32 × Ce} (hr : m_X12_formAt ce this p1 p2 = some q) : Ct yX12_formAt cX12_formAt 5 (some .int) 6 135 0 0 [.ref this, .int p1, .int p2] nx ce (some (.int q.1)) q.2 := by
  unfold m_X12_formAt at hr
  refine ct_of (by decide) (by decide) ?_
  intro G C hq hret hin
  show Jd G 0 0 nx ce 0 [(0, .ref this), (1, .int p1), (2, .int p2)] []
  refine j_aload_n (q := 0) (pc' := 1) C dX12_formAt_0 rfl rfl rfl ?_
  refine j_iload_n (q := 2) (pc' := 2) C dX12_formAt_1 rfl rfl rfl ?_
  obtain ⟨c1, hc1, hr⟩ := ob hr
  obtain ⟨hc1n, hc1f, hc1⟩ := pZ_sp hc1
  refine j_put (pc' := 5) C dX12_formAt_2 fw_X12_189 hc1n hc1f hc1 rfl ?_
  refine j_aload_n (q := 0) (pc' := 6) C dX12_formAt_5 rfl rfl rfl ?_
  obtain ⟨z2, hz2, hr⟩ := ob hr
  obtain ⟨q3, hq3, hr⟩ := ob hr
  obtain ⟨fhz2, hz2⟩ := rcv_sp hz2
  refine j_callV (ci := 9) (As := []) (rest := []) (st1 := [.int q3.1]) (pc' := 9) C ⟨wm_1574, wm_47⟩ rfl hz2 (c_X12_form (nx := nx) hq3) yw_X12_form wm_1572 rfl rfl (by decide) ⟨by decide, by decide⟩ dX12_formAt_6 rfl rfl ?_
  refine j_istore_n (lv' := [(3, .int q3.1), (0, .ref this), (1, .int p1), (2, .int p2)]) (pc' := 10) C dX12_formAt_9 rfl (by decide) rfl rfl ?_
  refine j_iload_n (q := 0) (pc' := 11) C dX12_formAt_10 rfl rfl rfl ?_
  refine j_if_eq (tgt := 16) (pc' := 14) C dX12_formAt_11 rfl rfl (fun hc => ?_) (fun hc => ?_)
  · have hr := ifT hc hr
    clear hc
    refine j_iconst (v := 0) (pc' := 17) C dX12_formAt_16 kI_0 rfl ?_
    refine j_istore (lv' := [(4, .int 0), (3, .int q3.1), (0, .ref this), (1, .int p1), (2, .int p2)]) (pc' := 19) C dX12_formAt_17 (by decide) rfl rfl ?_
    obtain ⟨o5, ho5, ro5⟩ := ob hr
    have ko5 : Jd G 0 0 nx o5.2 55 [] [] := by
      have hr := ro5
      refine j_iconst (v := 0) (pc' := 56) C dX12_formAt_55 kI_0 rfl ?_
      have hr := Option.some.inj hr
      subst hr
      exact j_iret C hq hret dX12_formAt_56
    refine j_lv [2, 3, 4, 0] rfl (it_J (J := (fun s4 => Jd G 0 0 nx s4.2 19 [(0, .ref this), (1, .int p1), (2, .int p2), (4, .int s4.1)] [])) ?_ ho5)
    clear ho5
    intro s4 r6 hr is4 es4
    refine j_iload (q := 3) (pc' := 21) C dX12_formAt_19 rfl rfl ?_
    refine j_iload_n (q := 2) (pc' := 22) C dX12_formAt_21 rfl rfl rfl ?_
    obtain ⟨j7, hj7, rj7⟩ := ob hr
    have kj7 : Jd G 0 0 nx s4.2 30 [(0, .ref this), (1, .int p1), (2, .int p2), (4, .int s4.1)] [.int j7, .int s4.1] := by
      have hr := rj7
      refine j_ic_ge (tgt := 55) (pc' := 33) C dX12_formAt_30 rfl rfl (fun hc => ?_) (fun hc => ?_)
      · have hr := ifT hc hr
        clear hc
        have hr := es4 _ (Option.some.inj hr).symm
        subst hr
        exact j_lv [] rfl ko5
      · have hr := ifF hc hr
        clear hc
        refine j_aload_n (q := 0) (pc' := 34) C dX12_formAt_33 rfl rfl rfl ?_
        obtain ⟨x8, hx8, hr⟩ := ob hr
        refine j_getA (pc' := 37) C dX12_formAt_34 fl_X12_27 hx8 rfl ?_
        refine j_iload_n (q := 1) (pc' := 38) C dX12_formAt_37 rfl rfl rfl ?_
        refine j_iload (q := 3) (pc' := 40) C dX12_formAt_38 rfl rfl ?_
        refine j_iadd (pc' := 41) C dX12_formAt_40 rfl ?_
        refine j_aload_n (q := 0) (pc' := 42) C dX12_formAt_41 rfl rfl rfl ?_
        obtain ⟨x9, hx9, hr⟩ := ob hr
        refine j_getA (pc' := 45) C dX12_formAt_42 fl_X12_41 hx9 rfl ?_
        refine j_iload (q := 3) (pc' := 47) C dX12_formAt_45 rfl rfl ?_
        obtain ⟨x10, hx10, hr⟩ := ob hr
        refine j_lald (pc' := 48) C dX12_formAt_47 hx10 rfl ?_
        obtain ⟨c11, hc11, hr⟩ := ob hr
        refine j_last (pc' := 49) C dX12_formAt_48 hc11 rfl ?_
        refine j_iinc (q := 3) (v := 1) (lv' := [(4, .int (s4.1 + 1)), (0, .ref this), (1, .int p1), (2, .int p2)]) (pc' := 52) C dX12_formAt_49 rfl kI_1 (by decide) rfl rfl ?_
        refine j_goto (tgt := 19) C dX12_formAt_52 rfl ?_
        exact j_lv [1, 2, 3, 0] rfl (is4 _ (Option.some.inj hr).symm)
    clear rj7
    have hr := hj7
    clear hj7
    refine j_if_eq (tgt := 29) (pc' := 25) C dX12_formAt_22 rfl rfl (fun hc => ?_) (fun hc => ?_)
    · have hr := ifT hc hr
      clear hc
      refine j_iconst (v := 1) (pc' := 30) C dX12_formAt_29 kI_1 rfl ?_
      have hr := Option.some.inj hr
      subst hr
      exact j_lv [0, 1, 2, 3] rfl kj7
    · have hr := ifF hc hr
      clear hc
      refine j_iconst (v := 4) (pc' := 26) C dX12_formAt_25 kI_4 rfl ?_
      refine j_goto (tgt := 30) C dX12_formAt_26 rfl ?_
      have hr := Option.some.inj hr
      subst hr
      exact j_lv [0, 1, 2, 3] rfl kj7
  · have hr := ifF hc hr
    clear hc
    refine j_iload_n (q := 0) (pc' := 15) C dX12_formAt_14 rfl rfl rfl ?_
    have hr := Option.some.inj hr
    subst hr
    exact j_iret C hq hret dX12_formAt_15
def m_X12_formsOf (p0 : Int32) : Option (Int32) :=
  some (29 * p0)
set_option maxRecDepth 100000 in
set_option maxHeartbeats 4000000 in
theorem c_X12_formsOf {nx : Nat} {ce : Ce} {p0 : Int32} {q : Int32} (hr : m_X12_formsOf p0 = some q) : Ct yX12_formsOf cX12_formsOf 1 (some .int) 0 0 0 0 [.int p0] nx ce (some (.int q)) ce := by
  unfold m_X12_formsOf at hr
  refine ct_of (by decide) (by decide) ?_
  intro G C hq hret hin
  show Jd G 0 0 nx ce 0 [(0, .int p0)] []
  refine j_bipush (v := 29) (pc' := 2) C dX12_formsOf_0 kB_29 rfl ?_
  refine j_iload_n (q := 0) (pc' := 3) C dX12_formsOf_2 rfl rfl rfl ?_
  refine j_imul (pc' := 4) C dX12_formsOf_3 rfl ?_
  have hr := Option.some.inj hr
  subst hr
  exact j_iret C hq hret dX12_formsOf_4
def m_X12_lettersClause (ce : Ce) (this : Nat) (p1 : Int32) (p2 : Int32) : Option (Int32 × Ce) :=
  if p2 ≤ 0 then
    (rcv ce 9 this).bind fun z1 =>
    (m_X12_nextToken ce this).bind fun q2 =>
    (gI q2.2 9 12 this).bind fun x3 =>
    if x3 = 1 then
      (gI q2.2 9 13 this).bind fun x4 =>
      (m_X12_isIn x4 1 6).bind fun x5 =>
      if x5 = 0 then
        some (2, q2.2)
      else
        (gI q2.2 9 13 this).bind fun x6 =>
        (pV q2.2 9 19 this (.int x6)).bind fun c7 =>
        (gA c7 9 4 this).bind fun x8 =>
        (gI c7 9 13 this).bind fun x9 =>
        (sI c7 x8 (2 * p1) x9).bind fun c10 =>
        (rcv c10 9 this).bind fun z11 =>
        (m_X12_nextToken c10 this).bind fun q12 =>
        some (0, q12.2)
    else
      some (1, q2.2)
  else
    some (1, ce)
set_option maxRecDepth 100000 in
set_option maxHeartbeats 4000000 in
theorem c_X12_lettersClause {nx : Nat} {ce : Ce} {this : Nat} {p1 : Int32} {p2 : Int32} {q : Int32 × Ce} (hr : m_X12_lettersClause ce this p1 p2 = some q) : Ct yX12_lettersClause cX12_lettersClause 3 (some .int) 4 90 0 0 [.ref this, .int p1, .int p2] nx ce (some (.int q.1)) q.2 := by
  unfold m_X12_lettersClause at hr
  refine ct_of (by decide) (by decide) ?_
  intro G C hq hret hin
  show Jd G 0 0 nx ce 0 [(0, .ref this), (1, .int p1), (2, .int p2)] []
  refine j_iload_n (q := 2) (pc' := 1) C dX12_lettersClause_0 rfl rfl rfl ?_
  refine j_if_le (tgt := 6) (pc' := 4) C dX12_lettersClause_1 rfl rfl (fun hc => ?_) (fun hc => ?_)
  · have hr := ifT hc hr
    clear hc
    refine j_aload_n (q := 0) (pc' := 7) C dX12_lettersClause_6 rfl rfl rfl ?_
    obtain ⟨z1, hz1, hr⟩ := ob hr
    obtain ⟨q2, hq2, hr⟩ := ob hr
    obtain ⟨fhz1, hz1⟩ := rcv_sp hz1
    refine j_callV (ci := 9) (As := []) (rest := []) (st1 := []) (pc' := 10) C ⟨wm_1537, wm_40⟩ rfl hz1 (c_X12_nextToken (nx := nx) hq2) yw_X12_nextToken wm_1535 rfl rfl (by decide) ⟨by decide, by decide⟩ dX12_lettersClause_7 rfl rfl ?_
    refine j_aload_n (q := 0) (pc' := 11) C dX12_lettersClause_10 rfl rfl rfl ?_
    obtain ⟨x3, hx3, hr⟩ := ob hr
    refine j_getI (pc' := 14) C dX12_lettersClause_11 fl_X12_148 hx3 rfl ?_
    refine j_iconst (v := 1) (pc' := 15) C dX12_lettersClause_14 kI_1 rfl ?_
    refine j_ic_eq (tgt := 20) (pc' := 18) C dX12_lettersClause_15 rfl rfl (fun hc => ?_) (fun hc => ?_)
    · have hr := ifT hc hr
      clear hc
      refine j_aload_n (q := 0) (pc' := 21) C dX12_lettersClause_20 rfl rfl rfl ?_
      obtain ⟨x4, hx4, hr⟩ := ob hr
      refine j_getI (pc' := 24) C dX12_lettersClause_21 fl_X12_138 hx4 rfl ?_
      refine j_iconst (v := 1) (pc' := 25) C dX12_lettersClause_24 kI_1 rfl ?_
      refine j_bipush (v := 6) (pc' := 27) C dX12_lettersClause_25 kB_6 rfl ?_
      obtain ⟨x5, hx5, hr⟩ := ob hr
      refine j_callS (As := [.int x4, .int 1, .int 6]) (rest := []) (st1 := [.int x5]) (pc' := 30) C wm_1519 (c_X12_isIn (nx := nx) (ce := q2.2) hx5) yw_X12_isIn wm_1518 rfl rfl (by decide) ⟨by decide, by decide⟩ dX12_lettersClause_27 rfl rfl ?_
      refine j_if_ne (tgt := 35) (pc' := 33) C dX12_lettersClause_30 rfl rfl (fun hc => ?_) (fun hc => ?_)
      · have hr := ifF hc hr
        clear hc
        refine j_aload_n (q := 0) (pc' := 36) C dX12_lettersClause_35 rfl rfl rfl ?_
        refine j_aload_n (q := 0) (pc' := 37) C dX12_lettersClause_36 rfl rfl rfl ?_
        obtain ⟨x6, hx6, hr⟩ := ob hr
        refine j_getI (pc' := 40) C dX12_lettersClause_37 fl_X12_138 hx6 rfl ?_
        obtain ⟨c7, hc7, hr⟩ := ob hr
        refine j_put (pc' := 43) C dX12_lettersClause_40 fw_X12_182 rfl rfl hc7 rfl ?_
        refine j_aload_n (q := 0) (pc' := 44) C dX12_lettersClause_43 rfl rfl rfl ?_
        obtain ⟨x8, hx8, hr⟩ := ob hr
        refine j_getA (pc' := 47) C dX12_lettersClause_44 fl_X12_24 hx8 rfl ?_
        refine j_iconst (v := 2) (pc' := 48) C dX12_lettersClause_47 kI_2 rfl ?_
        refine j_iload_n (q := 1) (pc' := 49) C dX12_lettersClause_48 rfl rfl rfl ?_
        refine j_imul (pc' := 50) C dX12_lettersClause_49 rfl ?_
        refine j_aload_n (q := 0) (pc' := 51) C dX12_lettersClause_50 rfl rfl rfl ?_
        obtain ⟨x9, hx9, hr⟩ := ob hr
        refine j_getI (pc' := 54) C dX12_lettersClause_51 fl_X12_138 hx9 rfl ?_
        obtain ⟨c10, hc10, hr⟩ := ob hr
        refine j_iast (pc' := 55) C dX12_lettersClause_54 hc10 rfl ?_
        refine j_aload_n (q := 0) (pc' := 56) C dX12_lettersClause_55 rfl rfl rfl ?_
        obtain ⟨z11, hz11, hr⟩ := ob hr
        obtain ⟨q12, hq12, hr⟩ := ob hr
        obtain ⟨fhz11, hz11⟩ := rcv_sp hz11
        refine j_callV (ci := 9) (As := []) (rest := []) (st1 := []) (pc' := 59) C ⟨wm_1537, wm_40⟩ rfl hz11 (c_X12_nextToken (nx := nx) hq12) yw_X12_nextToken wm_1535 rfl rfl (by decide) ⟨by decide, by decide⟩ dX12_lettersClause_56 rfl rfl ?_
        refine j_iconst (v := 0) (pc' := 60) C dX12_lettersClause_59 kI_0 rfl ?_
        have hr := Option.some.inj hr
        subst hr
        exact j_iret C hq hret dX12_lettersClause_60
      · have hr := ifT hc hr
        clear hc
        refine j_iconst (v := 2) (pc' := 34) C dX12_lettersClause_33 kI_2 rfl ?_
        have hr := Option.some.inj hr
        subst hr
        exact j_iret C hq hret dX12_lettersClause_34
    · have hr := ifF hc hr
      clear hc
      refine j_iconst (v := 1) (pc' := 19) C dX12_lettersClause_18 kI_1 rfl ?_
      have hr := Option.some.inj hr
      subst hr
      exact j_iret C hq hret dX12_lettersClause_19
  · have hr := ifF hc hr
    clear hc
    refine j_iconst (v := 1) (pc' := 5) C dX12_lettersClause_4 kI_1 rfl ?_
    have hr := Option.some.inj hr
    subst hr
    exact j_iret C hq hret dX12_lettersClause_5
def m_X12_nextClause (ce : Ce) (this : Nat) (p1 : Int32) : Option (Int32 × Ce) :=
  (rcv ce 9 this).bind fun z1 =>
  (m_X12_nextToken ce this).bind fun q2 =>
  (gI q2.2 9 12 this).bind fun x3 =>
  if x3 = 204 then
    (gI q2.2 9 13 this).bind fun x4 =>
    (gI q2.2 9 19 this).bind fun x5 =>
    if x4 < x5 then
      (gI q2.2 9 22 this).bind fun x6 =>
      (gI q2.2 9 13 this).bind fun x7 =>
      if ((x6 >>> (x7 &&& 31)) &&& 1) = 1 then
        some (4, q2.2)
      else
        (gI q2.2 9 13 this).bind fun x8 =>
        (gI q2.2 9 22 this).bind fun x9 =>
        (pV q2.2 9 22 this (.int (x9 ||| (1 <<< (x8 &&& 31))))).bind fun c10 =>
        (rcv c10 9 this).bind fun z11 =>
        (m_X12_nextToken c10 this).bind fun q12 =>
        (m_X12_formsOf p1).bind fun x13 =>
        (rcv q12.2 9 this).bind fun z14 =>
        (m_X12_formAt q12.2 this ((x13 + 5) + (4 * x8)) 1).bind fun q15 =>
        some (q15.1, q15.2)
    else
      some (3, q2.2)
  else
    some (1, q2.2)
set_option maxRecDepth 100000 in
set_option maxHeartbeats 4000000 in
theorem c_X12_nextClause {nx : Nat} {ce : Ce} {this : Nat} {p1 : Int32} {q : Int32 × Ce} (hr : m_X12_nextClause ce this p1 = some q) : Ct yX12_nextClause cX12_nextClause 3 (some .int) 7 159 0 0 [.ref this, .int p1] nx ce (some (.int q.1)) q.2 := by
  unfold m_X12_nextClause at hr
  refine ct_of (by decide) (by decide) ?_
  intro G C hq hret hin
  show Jd G 0 0 nx ce 0 [(0, .ref this), (1, .int p1)] []
  refine j_aload_n (q := 0) (pc' := 1) C dX12_nextClause_0 rfl rfl rfl ?_
  obtain ⟨z1, hz1, hr⟩ := ob hr
  obtain ⟨q2, hq2, hr⟩ := ob hr
  obtain ⟨fhz1, hz1⟩ := rcv_sp hz1
  refine j_callV (ci := 9) (As := []) (rest := []) (st1 := []) (pc' := 4) C ⟨wm_1537, wm_40⟩ rfl hz1 (c_X12_nextToken (nx := nx) hq2) yw_X12_nextToken wm_1535 rfl rfl (by decide) ⟨by decide, by decide⟩ dX12_nextClause_1 rfl rfl ?_
  refine j_aload_n (q := 0) (pc' := 5) C dX12_nextClause_4 rfl rfl rfl ?_
  obtain ⟨x3, hx3, hr⟩ := ob hr
  refine j_getI (pc' := 8) C dX12_nextClause_5 fl_X12_148 hx3 rfl ?_
  refine j_sipush (v := 204) (pc' := 11) C dX12_nextClause_8 kS_204 rfl ?_
  refine j_ic_eq (tgt := 16) (pc' := 14) C dX12_nextClause_11 rfl rfl (fun hc => ?_) (fun hc => ?_)
  · have hr := ifT hc hr
    clear hc
    refine j_aload_n (q := 0) (pc' := 17) C dX12_nextClause_16 rfl rfl rfl ?_
    obtain ⟨x4, hx4, hr⟩ := ob hr
    refine j_getI (pc' := 20) C dX12_nextClause_17 fl_X12_138 hx4 rfl ?_
    refine j_aload_n (q := 0) (pc' := 21) C dX12_nextClause_20 rfl rfl rfl ?_
    obtain ⟨x5, hx5, hr⟩ := ob hr
    refine j_getI (pc' := 24) C dX12_nextClause_21 fl_X12_182 hx5 rfl ?_
    refine j_ic_lt (tgt := 29) (pc' := 27) C dX12_nextClause_24 rfl rfl (fun hc => ?_) (fun hc => ?_)
    · have hr := ifT hc hr
      clear hc
      refine j_aload_n (q := 0) (pc' := 30) C dX12_nextClause_29 rfl rfl rfl ?_
      obtain ⟨x6, hx6, hr⟩ := ob hr
      refine j_getI (pc' := 33) C dX12_nextClause_30 fl_X12_209 hx6 rfl ?_
      refine j_aload_n (q := 0) (pc' := 34) C dX12_nextClause_33 rfl rfl rfl ?_
      obtain ⟨x7, hx7, hr⟩ := ob hr
      refine j_getI (pc' := 37) C dX12_nextClause_34 fl_X12_138 hx7 rfl ?_
      refine j_ishr (pc' := 38) C dX12_nextClause_37 rfl ?_
      refine j_iconst (v := 1) (pc' := 39) C dX12_nextClause_38 kI_1 rfl ?_
      refine j_iand (pc' := 40) C dX12_nextClause_39 rfl ?_
      refine j_iconst (v := 1) (pc' := 41) C dX12_nextClause_40 kI_1 rfl ?_
      refine j_ic_ne (tgt := 46) (pc' := 44) C dX12_nextClause_41 rfl rfl (fun hc => ?_) (fun hc => ?_)
      · have hr := ifF hc hr
        clear hc
        refine j_aload_n (q := 0) (pc' := 47) C dX12_nextClause_46 rfl rfl rfl ?_
        obtain ⟨x8, hx8, hr⟩ := ob hr
        refine j_getI (pc' := 50) C dX12_nextClause_47 fl_X12_138 hx8 rfl ?_
        refine j_istore_n (lv' := [(2, .int x8), (0, .ref this), (1, .int p1)]) (pc' := 51) C dX12_nextClause_50 rfl (by decide) rfl rfl ?_
        refine j_aload_n (q := 1) (pc' := 52) C dX12_nextClause_51 rfl rfl rfl ?_
        refine j_dup (pc' := 53) C dX12_nextClause_52 rfl rfl ?_
        obtain ⟨x9, hx9, hr⟩ := ob hr
        refine j_getI (pc' := 56) C dX12_nextClause_53 fl_X12_209 hx9 rfl ?_
        refine j_iconst (v := 1) (pc' := 57) C dX12_nextClause_56 kI_1 rfl ?_
        refine j_iload_n (q := 0) (pc' := 58) C dX12_nextClause_57 rfl rfl rfl ?_
        refine j_ishl (pc' := 59) C dX12_nextClause_58 rfl ?_
        refine j_ior (pc' := 60) C dX12_nextClause_59 rfl ?_
        obtain ⟨c10, hc10, hr⟩ := ob hr
        refine j_put (pc' := 63) C dX12_nextClause_60 fw_X12_209 rfl rfl hc10 rfl ?_
        refine j_aload_n (q := 1) (pc' := 64) C dX12_nextClause_63 rfl rfl rfl ?_
        obtain ⟨z11, hz11, hr⟩ := ob hr
        obtain ⟨q12, hq12, hr⟩ := ob hr
        obtain ⟨fhz11, hz11⟩ := rcv_sp hz11
        refine j_callV (ci := 9) (As := []) (rest := []) (st1 := []) (pc' := 67) C ⟨wm_1537, wm_40⟩ rfl hz11 (c_X12_nextToken (nx := nx) hq12) yw_X12_nextToken wm_1535 rfl rfl (by decide) ⟨by decide, by decide⟩ dX12_nextClause_64 rfl rfl ?_
        refine j_aload_n (q := 1) (pc' := 68) C dX12_nextClause_67 rfl rfl rfl ?_
        refine j_iload_n (q := 2) (pc' := 69) C dX12_nextClause_68 rfl rfl rfl ?_
        obtain ⟨x13, hx13, hr⟩ := ob hr
        refine j_callS (As := [.int p1]) (rest := [.ref this]) (st1 := [.int x13, .ref this]) (pc' := 72) C wm_1530 (c_X12_formsOf (nx := nx) (ce := q12.2) hx13) yw_X12_formsOf wm_1529 rfl rfl (by decide) ⟨by decide, by decide⟩ dX12_nextClause_69 rfl rfl ?_
        refine j_iconst (v := 5) (pc' := 73) C dX12_nextClause_72 kI_5 rfl ?_
        refine j_iadd (pc' := 74) C dX12_nextClause_73 rfl ?_
        refine j_iconst (v := 4) (pc' := 75) C dX12_nextClause_74 kI_4 rfl ?_
        refine j_iload_n (q := 0) (pc' := 76) C dX12_nextClause_75 rfl rfl rfl ?_
        refine j_imul (pc' := 77) C dX12_nextClause_76 rfl ?_
        refine j_iadd (pc' := 78) C dX12_nextClause_77 rfl ?_
        refine j_iconst (v := 1) (pc' := 79) C dX12_nextClause_78 kI_1 rfl ?_
        obtain ⟨z14, hz14, hr⟩ := ob hr
        obtain ⟨q15, hq15, hr⟩ := ob hr
        obtain ⟨fhz14, hz14⟩ := rcv_sp hz14
        refine j_callV (ci := 9) (As := [.int ((x13 + 5) + (4 * x8)), .int 1]) (rest := []) (st1 := [.int q15.1]) (pc' := 82) C ⟨wm_1570, wm_46⟩ rfl hz14 (c_X12_formAt (nx := nx) hq15) yw_X12_formAt wm_1568 rfl rfl (by decide) ⟨by decide, by decide⟩ dX12_nextClause_79 rfl rfl ?_
        have hr := Option.some.inj hr
        subst hr
        exact j_iret C hq hret dX12_nextClause_82
      · have hr := ifT hc hr
        clear hc
        refine j_iconst (v := 4) (pc' := 45) C dX12_nextClause_44 kI_4 rfl ?_
        have hr := Option.some.inj hr
        subst hr
        exact j_iret C hq hret dX12_nextClause_45
    · have hr := ifF hc hr
      clear hc
      refine j_iconst (v := 3) (pc' := 28) C dX12_nextClause_27 kI_3 rfl ?_
      have hr := Option.some.inj hr
      subst hr
      exact j_iret C hq hret dX12_nextClause_28
  · have hr := ifF hc hr
    clear hc
    refine j_iconst (v := 1) (pc' := 15) C dX12_nextClause_14 kI_1 rfl ?_
    have hr := Option.some.inj hr
    subst hr
    exact j_iret C hq hret dX12_nextClause_15
def m_X12_clause (ce : Ce) (this : Nat) (p1 : Int32) (p2 : Int32) : Option (Int32 × Ce) :=
  (gI ce 9 12 this).bind fun x1 =>
  (
    if x1 = 200 then
      (rcv ce 9 this).bind fun z6 =>
      (m_X12_lettersClause ce this p1 p2).bind fun q7 =>
      some ((Sum.inr q7.1, q7.2))
    else
    if x1 = 201 then
      (gI ce 9 21 this).bind fun x8 =>
      if x8 = 0 then
        (pZ ce 9 21 this 1).bind fun c9 =>
        (rcv c9 9 this).bind fun z10 =>
        (m_X12_nextToken c9 this).bind fun q11 =>
        (m_X12_formsOf p1).bind fun x12 =>
        (rcv q11.2 9 this).bind fun z13 =>
        (m_X12_formAt q11.2 this x12 0).bind fun q14 =>
        some ((Sum.inr q14.1, q14.2))
      else
        some ((Sum.inl 4, ce))
    else
    if x1 = 202 then
      (gA ce 9 4 this).bind fun x15 =>
      (aI ce x15 ((2 * p1) + 1)).bind fun x16 =>
      if x16 = 4 then
        some ((Sum.inl 4, ce))
      else
        (rcv ce 9 this).bind fun z17 =>
        (m_X12_nextToken ce this).bind fun q18 =>
        (m_X12_formsOf p1).bind fun x19 =>
        (gA q18.2 9 4 this).bind fun x20 =>
        (aI q18.2 x20 ((2 * p1) + 1)).bind fun x21 =>
        (rcv q18.2 9 this).bind fun z22 =>
        (m_X12_formAt q18.2 this ((x19 + 1) + x21) 0).bind fun q23 =>
        (gA q23.2 9 4 this).bind fun x24 =>
        (aI q23.2 x24 ((2 * p1) + 1)).bind fun x25 =>
        (sI q23.2 x24 ((2 * p1) + 1) (x25 + 1)).bind fun c26 =>
        some ((Sum.inr q23.1, c26))
    else
    if x1 = 203 then
      (rcv ce 9 this).bind fun z27 =>
      (m_X12_nextClause ce this p1).bind fun q28 =>
      some ((Sum.inr q28.1, q28.2))
    else
    some ((Sum.inr 1, ce))
  ).bind fun j2 => Sum.elim (fun wj2 => some (wj2, j2.2)) (fun vj2 =>
    if vj2 = 0 then
      (gI j2.2 9 12 this).bind fun x3 =>
      if x3 = 59 then
        (rcv j2.2 9 this).bind fun z4 =>
        (m_X12_nextToken j2.2 this).bind fun q5 =>
        some (0, q5.2)
      else
        some (1, j2.2)
    else
      some (vj2, j2.2)
  ) j2.1
set_option maxRecDepth 100000 in
set_option maxHeartbeats 4000000 in
theorem c_X12_clause {nx : Nat} {ce : Ce} {this : Nat} {p1 : Int32} {p2 : Int32} {q : Int32 × Ce} (hr : m_X12_clause ce this p1 p2 = some q) : Ct yX12_clause cX12_clause 4 (some .int) 8 181 0 0 [.ref this, .int p1, .int p2] nx ce (some (.int q.1)) q.2 := by
  unfold m_X12_clause at hr
  refine ct_of (by decide) (by decide) ?_
  intro G C hq hret hin
  show Jd G 0 0 nx ce 0 [(0, .ref this), (1, .int p1), (2, .int p2)] []
  refine j_iconst (v := 1) (pc' := 1) C dX12_clause_0 kI_1 rfl ?_
  refine j_istore_n (lv' := [(3, .int 1), (0, .ref this), (1, .int p1), (2, .int p2)]) (pc' := 2) C dX12_clause_1 rfl (by decide) rfl rfl ?_
  refine j_aload_n (q := 1) (pc' := 3) C dX12_clause_2 rfl rfl rfl ?_
  obtain ⟨x1, hx1, hr⟩ := ob hr
  refine j_getI (pc' := 6) C dX12_clause_3 fl_X12_148 hx1 rfl ?_
  obtain ⟨j2, hj2, rj2⟩ := ob hr
  have kj2 : ∀ vj2, j2.1 = Sum.inr vj2 → Jd G 0 0 nx j2.2 146 [(0, .ref this), (3, .int vj2)] [] := by
    intro vj2 ej2
    rw [ej2] at rj2
    have hr := elR rj2
    refine j_iload_n (q := 1) (pc' := 147) C dX12_clause_146 rfl rfl rfl ?_
    refine j_if_eq (tgt := 152) (pc' := 150) C dX12_clause_147 rfl rfl (fun hc => ?_) (fun hc => ?_)
    · have hr := ifT hc hr
      clear hc
      refine j_aload_n (q := 0) (pc' := 153) C dX12_clause_152 rfl rfl rfl ?_
      obtain ⟨x3, hx3, hr⟩ := ob hr
      refine j_getI (pc' := 156) C dX12_clause_153 fl_X12_148 hx3 rfl ?_
      refine j_bipush (v := 59) (pc' := 158) C dX12_clause_156 kB_59 rfl ?_
      refine j_ic_eq (tgt := 163) (pc' := 161) C dX12_clause_158 rfl rfl (fun hc => ?_) (fun hc => ?_)
      · have hr := ifT hc hr
        clear hc
        refine j_aload_n (q := 0) (pc' := 164) C dX12_clause_163 rfl rfl rfl ?_
        obtain ⟨z4, hz4, hr⟩ := ob hr
        obtain ⟨q5, hq5, hr⟩ := ob hr
        obtain ⟨fhz4, hz4⟩ := rcv_sp hz4
        refine j_callV (ci := 9) (As := []) (rest := []) (st1 := []) (pc' := 167) C ⟨wm_1537, wm_40⟩ rfl hz4 (c_X12_nextToken (nx := nx) hq5) yw_X12_nextToken wm_1535 rfl rfl (by decide) ⟨by decide, by decide⟩ dX12_clause_164 rfl rfl ?_
        refine j_iconst (v := 0) (pc' := 168) C dX12_clause_167 kI_0 rfl ?_
        have hr := Option.some.inj hr
        subst hr
        exact j_iret C hq hret dX12_clause_168
      · have hr := ifF hc hr
        clear hc
        refine j_iconst (v := 1) (pc' := 162) C dX12_clause_161 kI_1 rfl ?_
        have hr := Option.some.inj hr
        subst hr
        exact j_iret C hq hret dX12_clause_162
    · have hr := ifF hc hr
      clear hc
      refine j_iload_n (q := 1) (pc' := 151) C dX12_clause_150 rfl rfl rfl ?_
      have hr := Option.some.inj hr
      subst hr
      exact j_iret C hq hret dX12_clause_151
  have hr := hj2
  clear hj2
  by_cases hc0 : x1 = 200
  · have hr := ifT hc0 hr
    refine j_tabIn (v := 200) (off := 30) (tgt := 36) C dX12_clause_6 hc0 (by decide) rfl ?_
    refine j_aload_n (q := 1) (pc' := 37) C dX12_clause_36 rfl rfl rfl ?_
    refine j_iload_n (q := 2) (pc' := 38) C dX12_clause_37 rfl rfl rfl ?_
    refine j_iload_n (q := 3) (pc' := 39) C dX12_clause_38 rfl rfl rfl ?_
    obtain ⟨z6, hz6, hr⟩ := ob hr
    obtain ⟨q7, hq7, hr⟩ := ob hr
    obtain ⟨fhz6, hz6⟩ := rcv_sp hz6
    refine j_callV (ci := 9) (As := [.int p1, .int p2]) (rest := []) (st1 := [.int q7.1]) (pc' := 42) C ⟨wm_1566, wm_45⟩ rfl hz6 (c_X12_lettersClause (nx := nx) hq7) yw_X12_lettersClause wm_1564 rfl rfl (by decide) ⟨by decide, by decide⟩ dX12_clause_39 rfl rfl ?_
    refine j_istore_n (lv' := [(3, .int q7.1), (0, .ref this), (1, .int p1), (2, .int p2)]) (pc' := 43) C dX12_clause_42 rfl (by decide) rfl rfl ?_
    refine j_goto (tgt := 146) C dX12_clause_43 rfl ?_
    have hr := Option.some.inj hr
    subst hr
    exact j_lv [1, 0] rfl (kj2 _ rfl)
  have hr := ifF hc0 hr
  by_cases hc1 : x1 = 201
  · have hr := ifT hc1 hr
    refine j_tabIn (v := 201) (off := 40) (tgt := 46) C dX12_clause_6 hc1 (by decide) rfl ?_
    refine j_aload_n (q := 1) (pc' := 47) C dX12_clause_46 rfl rfl rfl ?_
    obtain ⟨x8, hx8, hr⟩ := ob hr
    refine j_getI (pc' := 50) C dX12_clause_47 fl_X12_222 hx8 rfl ?_
    refine j_if_eq (tgt := 55) (pc' := 53) C dX12_clause_50 rfl rfl (fun hc => ?_) (fun hc => ?_)
    · have hr := ifT hc hr
      clear hc
      refine j_aload_n (q := 1) (pc' := 56) C dX12_clause_55 rfl rfl rfl ?_
      refine j_iconst (v := 1) (pc' := 57) C dX12_clause_56 kI_1 rfl ?_
      obtain ⟨c9, hc9, hr⟩ := ob hr
      obtain ⟨hc9n, hc9f, hc9⟩ := pZ_sp hc9
      refine j_put (pc' := 60) C dX12_clause_57 fw_X12_222 hc9n hc9f hc9 rfl ?_
      refine j_aload_n (q := 1) (pc' := 61) C dX12_clause_60 rfl rfl rfl ?_
      obtain ⟨z10, hz10, hr⟩ := ob hr
      obtain ⟨q11, hq11, hr⟩ := ob hr
      obtain ⟨fhz10, hz10⟩ := rcv_sp hz10
      refine j_callV (ci := 9) (As := []) (rest := []) (st1 := []) (pc' := 64) C ⟨wm_1537, wm_40⟩ rfl hz10 (c_X12_nextToken (nx := nx) hq11) yw_X12_nextToken wm_1535 rfl rfl (by decide) ⟨by decide, by decide⟩ dX12_clause_61 rfl rfl ?_
      refine j_aload_n (q := 1) (pc' := 65) C dX12_clause_64 rfl rfl rfl ?_
      refine j_iload_n (q := 2) (pc' := 66) C dX12_clause_65 rfl rfl rfl ?_
      obtain ⟨x12, hx12, hr⟩ := ob hr
      refine j_callS (As := [.int p1]) (rest := [.ref this]) (st1 := [.int x12, .ref this]) (pc' := 69) C wm_1530 (c_X12_formsOf (nx := nx) (ce := q11.2) hx12) yw_X12_formsOf wm_1529 rfl rfl (by decide) ⟨by decide, by decide⟩ dX12_clause_66 rfl rfl ?_
      refine j_iconst (v := 0) (pc' := 70) C dX12_clause_69 kI_0 rfl ?_
      obtain ⟨z13, hz13, hr⟩ := ob hr
      obtain ⟨q14, hq14, hr⟩ := ob hr
      obtain ⟨fhz13, hz13⟩ := rcv_sp hz13
      refine j_callV (ci := 9) (As := [.int x12, .int 0]) (rest := []) (st1 := [.int q14.1]) (pc' := 73) C ⟨wm_1570, wm_46⟩ rfl hz13 (c_X12_formAt (nx := nx) hq14) yw_X12_formAt wm_1568 rfl rfl (by decide) ⟨by decide, by decide⟩ dX12_clause_70 rfl rfl ?_
      refine j_istore_n (lv' := [(3, .int q14.1), (0, .ref this), (1, .int p1), (2, .int p2)]) (pc' := 74) C dX12_clause_73 rfl (by decide) rfl rfl ?_
      refine j_goto (tgt := 146) C dX12_clause_74 rfl ?_
      have hr := Option.some.inj hr
      subst hr
      exact j_lv [1, 0] rfl (kj2 _ rfl)
    · have hr := ifF hc hr
      clear hc
      refine j_iconst (v := 4) (pc' := 54) C dX12_clause_53 kI_4 rfl ?_
      have hr := Option.some.inj hr
      subst hr
      have hr := elL rj2
      have hr := Option.some.inj hr
      subst hr
      exact j_iret C hq hret dX12_clause_54
  have hr := ifF hc1 hr
  by_cases hc2 : x1 = 202
  · have hr := ifT hc2 hr
    refine j_tabIn (v := 202) (off := 71) (tgt := 77) C dX12_clause_6 hc2 (by decide) rfl ?_
    refine j_aload_n (q := 1) (pc' := 78) C dX12_clause_77 rfl rfl rfl ?_
    obtain ⟨x15, hx15, hr⟩ := ob hr
    refine j_getA (pc' := 81) C dX12_clause_78 fl_X12_24 hx15 rfl ?_
    refine j_iconst (v := 2) (pc' := 82) C dX12_clause_81 kI_2 rfl ?_
    refine j_iload_n (q := 2) (pc' := 83) C dX12_clause_82 rfl rfl rfl ?_
    refine j_imul (pc' := 84) C dX12_clause_83 rfl ?_
    refine j_iconst (v := 1) (pc' := 85) C dX12_clause_84 kI_1 rfl ?_
    refine j_iadd (pc' := 86) C dX12_clause_85 rfl ?_
    obtain ⟨x16, hx16, hr⟩ := ob hr
    refine j_iald (pc' := 87) C dX12_clause_86 hx16 rfl ?_
    refine j_iconst (v := 4) (pc' := 88) C dX12_clause_87 kI_4 rfl ?_
    refine j_ic_ne (tgt := 93) (pc' := 91) C dX12_clause_88 rfl rfl (fun hc => ?_) (fun hc => ?_)
    · have hr := ifF hc hr
      clear hc
      refine j_aload_n (q := 1) (pc' := 94) C dX12_clause_93 rfl rfl rfl ?_
      obtain ⟨z17, hz17, hr⟩ := ob hr
      obtain ⟨q18, hq18, hr⟩ := ob hr
      obtain ⟨fhz17, hz17⟩ := rcv_sp hz17
      refine j_callV (ci := 9) (As := []) (rest := []) (st1 := []) (pc' := 97) C ⟨wm_1537, wm_40⟩ rfl hz17 (c_X12_nextToken (nx := nx) hq18) yw_X12_nextToken wm_1535 rfl rfl (by decide) ⟨by decide, by decide⟩ dX12_clause_94 rfl rfl ?_
      refine j_aload_n (q := 1) (pc' := 98) C dX12_clause_97 rfl rfl rfl ?_
      refine j_iload_n (q := 2) (pc' := 99) C dX12_clause_98 rfl rfl rfl ?_
      obtain ⟨x19, hx19, hr⟩ := ob hr
      refine j_callS (As := [.int p1]) (rest := [.ref this]) (st1 := [.int x19, .ref this]) (pc' := 102) C wm_1530 (c_X12_formsOf (nx := nx) (ce := q18.2) hx19) yw_X12_formsOf wm_1529 rfl rfl (by decide) ⟨by decide, by decide⟩ dX12_clause_99 rfl rfl ?_
      refine j_iconst (v := 1) (pc' := 103) C dX12_clause_102 kI_1 rfl ?_
      refine j_iadd (pc' := 104) C dX12_clause_103 rfl ?_
      refine j_aload_n (q := 1) (pc' := 105) C dX12_clause_104 rfl rfl rfl ?_
      obtain ⟨x20, hx20, hr⟩ := ob hr
      refine j_getA (pc' := 108) C dX12_clause_105 fl_X12_24 hx20 rfl ?_
      refine j_iconst (v := 2) (pc' := 109) C dX12_clause_108 kI_2 rfl ?_
      refine j_iload_n (q := 2) (pc' := 110) C dX12_clause_109 rfl rfl rfl ?_
      refine j_imul (pc' := 111) C dX12_clause_110 rfl ?_
      refine j_iconst (v := 1) (pc' := 112) C dX12_clause_111 kI_1 rfl ?_
      refine j_iadd (pc' := 113) C dX12_clause_112 rfl ?_
      obtain ⟨x21, hx21, hr⟩ := ob hr
      refine j_iald (pc' := 114) C dX12_clause_113 hx21 rfl ?_
      refine j_iadd (pc' := 115) C dX12_clause_114 rfl ?_
      refine j_iconst (v := 0) (pc' := 116) C dX12_clause_115 kI_0 rfl ?_
      obtain ⟨z22, hz22, hr⟩ := ob hr
      obtain ⟨q23, hq23, hr⟩ := ob hr
      obtain ⟨fhz22, hz22⟩ := rcv_sp hz22
      refine j_callV (ci := 9) (As := [.int ((x19 + 1) + x21), .int 0]) (rest := []) (st1 := [.int q23.1]) (pc' := 119) C ⟨wm_1570, wm_46⟩ rfl hz22 (c_X12_formAt (nx := nx) hq23) yw_X12_formAt wm_1568 rfl rfl (by decide) ⟨by decide, by decide⟩ dX12_clause_116 rfl rfl ?_
      refine j_istore_n (lv' := [(3, .int q23.1), (0, .ref this), (1, .int p1), (2, .int p2)]) (pc' := 120) C dX12_clause_119 rfl (by decide) rfl rfl ?_
      refine j_aload_n (q := 1) (pc' := 121) C dX12_clause_120 rfl rfl rfl ?_
      obtain ⟨x24, hx24, hr⟩ := ob hr
      refine j_getA (pc' := 124) C dX12_clause_121 fl_X12_24 hx24 rfl ?_
      refine j_iconst (v := 2) (pc' := 125) C dX12_clause_124 kI_2 rfl ?_
      refine j_iload_n (q := 2) (pc' := 126) C dX12_clause_125 rfl rfl rfl ?_
      refine j_imul (pc' := 127) C dX12_clause_126 rfl ?_
      refine j_iconst (v := 1) (pc' := 128) C dX12_clause_127 kI_1 rfl ?_
      refine j_iadd (pc' := 129) C dX12_clause_128 rfl ?_
      refine j_dup2 (pc' := 130) C dX12_clause_129 rfl rfl rfl ?_
      obtain ⟨x25, hx25, hr⟩ := ob hr
      refine j_iald (pc' := 131) C dX12_clause_130 hx25 rfl ?_
      refine j_iconst (v := 1) (pc' := 132) C dX12_clause_131 kI_1 rfl ?_
      refine j_iadd (pc' := 133) C dX12_clause_132 rfl ?_
      obtain ⟨c26, hc26, hr⟩ := ob hr
      refine j_iast (pc' := 134) C dX12_clause_133 hc26 rfl ?_
      refine j_goto (tgt := 146) C dX12_clause_134 rfl ?_
      have hr := Option.some.inj hr
      subst hr
      exact j_lv [1, 0] rfl (kj2 _ rfl)
    · have hr := ifT hc hr
      clear hc
      refine j_iconst (v := 4) (pc' := 92) C dX12_clause_91 kI_4 rfl ?_
      have hr := Option.some.inj hr
      subst hr
      have hr := elL rj2
      have hr := Option.some.inj hr
      subst hr
      exact j_iret C hq hret dX12_clause_92
  have hr := ifF hc2 hr
  by_cases hc3 : x1 = 203
  · have hr := ifT hc3 hr
    refine j_tabIn (v := 203) (off := 131) (tgt := 137) C dX12_clause_6 hc3 (by decide) rfl ?_
    refine j_aload_n (q := 1) (pc' := 138) C dX12_clause_137 rfl rfl rfl ?_
    refine j_iload_n (q := 2) (pc' := 139) C dX12_clause_138 rfl rfl rfl ?_
    obtain ⟨z27, hz27, hr⟩ := ob hr
    obtain ⟨q28, hq28, hr⟩ := ob hr
    obtain ⟨fhz27, hz27⟩ := rcv_sp hz27
    refine j_callV (ci := 9) (As := [.int p1]) (rest := []) (st1 := [.int q28.1]) (pc' := 142) C ⟨wm_1606, wm_54⟩ rfl hz27 (c_X12_nextClause (nx := nx) hq28) yw_X12_nextClause wm_1604 rfl rfl (by decide) ⟨by decide, by decide⟩ dX12_clause_139 rfl rfl ?_
    refine j_istore_n (lv' := [(3, .int q28.1), (0, .ref this), (1, .int p1), (2, .int p2)]) (pc' := 143) C dX12_clause_142 rfl (by decide) rfl rfl ?_
    refine j_goto (tgt := 146) C dX12_clause_143 rfl ?_
    have hr := Option.some.inj hr
    subst hr
    exact j_lv [1, 0] rfl (kj2 _ rfl)
  have hr := ifF hc3 hr
  refine j_tabOut (tgt := 146) C dX12_clause_6 (tab_out 4 (by decide) (by decide) (by decide) (fun i hi => by
    match i, hi with
    | 0, _ => exact hc0
    | 1, _ => exact hc1
    | 2, _ => exact hc2
    | 3, _ => exact hc3
    | i + 4, hi => omega)) rfl ?_
  have hr := Option.some.inj hr
  subst hr
  exact j_lv [1, 0] rfl (kj2 _ rfl)
def m_X12_readText (ce : Ce) (this : Nat) : Option (Int32 × Ce) :=
  (gA ce 9 0 this).bind fun x1 =>
  (aI ce x1 0).bind fun x2 =>
  (m_X12_formsOf x2).bind fun x3 =>
  (gA ce 9 4 this).bind fun x4 =>
  (sI ce x4 (2 * x2) 3).bind fun c5 =>
  (gA c5 9 4 this).bind fun x6 =>
  (sI c5 x6 ((2 * x2) + 1) 0).bind fun c7 =>
  (pV c7 9 19 this (.int 3)).bind fun c8 =>
  (pZ c8 9 21 this 0).bind fun c9 =>
  (pV c9 9 22 this (.int 0)).bind fun c10 =>
  (gA c10 9 5 this).bind fun x11 =>
  (sL c10 x11 x3 1).bind fun c12 =>
  (gA c12 9 5 this).bind fun x13 =>
  (sL c12 x13 (x3 + 1) 0).bind fun c14 =>
  (it (fun s15 =>
    if 6 ≤ s15.1 then
      some (Sum.inr ((), s15.2))
    else
      (it (fun s31 =>
        if 4 ≤ s31.1 then
          some (Sum.inr ((), s31.2))
        else
          (gA s31.2 9 5 this).bind fun x34 =>
          (m_X12_letterSet s15.1).bind fun x35 =>
          (sL s31.2 x34 (((x3 + 5) + (4 * s15.1)) + s31.1) x35).bind fun c36 =>
          some (Sum.inl ((s31.1 + 1), c36))
      ) FU (0, s15.2)).bind fun o32 =>
      some (Sum.inl ((s15.1 + 1), o32.2))
  ) FU (0, c14)).bind fun o16 =>
  (pV o16.2 9 10 this (.int 0)).bind fun c18 =>
  (rcv c18 9 this).bind fun z19 =>
  (m_X12_nextToken c18 this).bind fun q20 =>
  (it (fun s21 =>
    (gI s21.2 9 12 this).bind fun x28 =>
    if x28 = 0 then
      some (Sum.inr (Sum.inr (), s21.2))
    else
      (rcv s21.2 9 this).bind fun z29 =>
      (m_X12_clause s21.2 this x2 s21.1).bind fun q30 =>
      if q30.1 = 0 then
        some (Sum.inl ((s21.1 + 1), q30.2))
      else
        some (Sum.inr (Sum.inl q30.1, q30.2))
  ) FU (0, q20.2)).bind fun o22 =>
  Sum.elim (fun wo22 => some (wo22, o22.2)) (fun vo22 =>
    (gA o22.2 9 4 this).bind fun x24 =>
    (aI o22.2 x24 ((2 * x2) + 1)).bind fun x25 =>
    if x25 = 0 then
      (gA o22.2 9 4 this).bind fun x26 =>
      (sI o22.2 x26 ((2 * x2) + 1) 1).bind fun c27 =>
      some (0, c27)
    else
      some (0, o22.2)
  ) o22.1
set_option maxRecDepth 100000 in
set_option maxHeartbeats 4000000 in
theorem c_X12_readText {nx : Nat} {ce : Ce} {this : Nat} {q : Int32 × Ce} (hr : m_X12_readText ce this = some q) : Ct yX12_readText cX12_readText 5 (some .int) 9 204 0 0 [.ref this] nx ce (some (.int q.1)) q.2 := by
  unfold m_X12_readText at hr
  refine ct_of (by decide) (by decide) ?_
  intro G C hq hret hin
  show Jd G 0 0 nx ce 0 [(0, .ref this)] []
  refine j_aload_n (q := 0) (pc' := 1) C dX12_readText_0 rfl rfl rfl ?_
  obtain ⟨x1, hx1, hr⟩ := ob hr
  refine j_getA (pc' := 4) C dX12_readText_1 fl_X12_8 hx1 rfl ?_
  refine j_iconst (v := 0) (pc' := 5) C dX12_readText_4 kI_0 rfl ?_
  obtain ⟨x2, hx2, hr⟩ := ob hr
  refine j_iald (pc' := 6) C dX12_readText_5 hx2 rfl ?_
  refine j_istore_n (lv' := [(1, .int x2), (0, .ref this)]) (pc' := 7) C dX12_readText_6 rfl (by decide) rfl rfl ?_
  refine j_iload_n (q := 0) (pc' := 8) C dX12_readText_7 rfl rfl rfl ?_
  obtain ⟨x3, hx3, hr⟩ := ob hr
  refine j_callS (As := [.int x2]) (rest := []) (st1 := [.int x3]) (pc' := 11) C wm_1530 (c_X12_formsOf (nx := nx) (ce := ce) hx3) yw_X12_formsOf wm_1529 rfl rfl (by decide) ⟨by decide, by decide⟩ dX12_readText_8 rfl rfl ?_
  refine j_istore_n (lv' := [(2, .int x3), (1, .int x2), (0, .ref this)]) (pc' := 12) C dX12_readText_11 rfl (by decide) rfl rfl ?_
  refine j_aload_n (q := 2) (pc' := 13) C dX12_readText_12 rfl rfl rfl ?_
  obtain ⟨x4, hx4, hr⟩ := ob hr
  refine j_getA (pc' := 16) C dX12_readText_13 fl_X12_24 hx4 rfl ?_
  refine j_iconst (v := 2) (pc' := 17) C dX12_readText_16 kI_2 rfl ?_
  refine j_iload_n (q := 1) (pc' := 18) C dX12_readText_17 rfl rfl rfl ?_
  refine j_imul (pc' := 19) C dX12_readText_18 rfl ?_
  refine j_iconst (v := 3) (pc' := 20) C dX12_readText_19 kI_3 rfl ?_
  obtain ⟨c5, hc5, hr⟩ := ob hr
  refine j_iast (pc' := 21) C dX12_readText_20 hc5 rfl ?_
  refine j_aload_n (q := 2) (pc' := 22) C dX12_readText_21 rfl rfl rfl ?_
  obtain ⟨x6, hx6, hr⟩ := ob hr
  refine j_getA (pc' := 25) C dX12_readText_22 fl_X12_24 hx6 rfl ?_
  refine j_iconst (v := 2) (pc' := 26) C dX12_readText_25 kI_2 rfl ?_
  refine j_iload_n (q := 1) (pc' := 27) C dX12_readText_26 rfl rfl rfl ?_
  refine j_imul (pc' := 28) C dX12_readText_27 rfl ?_
  refine j_iconst (v := 1) (pc' := 29) C dX12_readText_28 kI_1 rfl ?_
  refine j_iadd (pc' := 30) C dX12_readText_29 rfl ?_
  refine j_iconst (v := 0) (pc' := 31) C dX12_readText_30 kI_0 rfl ?_
  obtain ⟨c7, hc7, hr⟩ := ob hr
  refine j_iast (pc' := 32) C dX12_readText_31 hc7 rfl ?_
  refine j_aload_n (q := 2) (pc' := 33) C dX12_readText_32 rfl rfl rfl ?_
  refine j_iconst (v := 3) (pc' := 34) C dX12_readText_33 kI_3 rfl ?_
  obtain ⟨c8, hc8, hr⟩ := ob hr
  refine j_put (pc' := 37) C dX12_readText_34 fw_X12_182 rfl rfl hc8 rfl ?_
  refine j_aload_n (q := 2) (pc' := 38) C dX12_readText_37 rfl rfl rfl ?_
  refine j_iconst (v := 0) (pc' := 39) C dX12_readText_38 kI_0 rfl ?_
  obtain ⟨c9, hc9, hr⟩ := ob hr
  obtain ⟨hc9n, hc9f, hc9⟩ := pZ_sp hc9
  refine j_put (pc' := 42) C dX12_readText_39 fw_X12_222 hc9n hc9f hc9 rfl ?_
  refine j_aload_n (q := 2) (pc' := 43) C dX12_readText_42 rfl rfl rfl ?_
  refine j_iconst (v := 0) (pc' := 44) C dX12_readText_43 kI_0 rfl ?_
  obtain ⟨c10, hc10, hr⟩ := ob hr
  refine j_put (pc' := 47) C dX12_readText_44 fw_X12_209 rfl rfl hc10 rfl ?_
  refine j_aload_n (q := 2) (pc' := 48) C dX12_readText_47 rfl rfl rfl ?_
  obtain ⟨x11, hx11, hr⟩ := ob hr
  refine j_getA (pc' := 51) C dX12_readText_48 fl_X12_27 hx11 rfl ?_
  refine j_iload_n (q := 0) (pc' := 52) C dX12_readText_51 rfl rfl rfl ?_
  refine j_lconst (v := 1) (pc' := 53) C dX12_readText_52 kL_1 rfl ?_
  obtain ⟨c12, hc12, hr⟩ := ob hr
  refine j_last (pc' := 54) C dX12_readText_53 hc12 rfl ?_
  refine j_aload_n (q := 2) (pc' := 55) C dX12_readText_54 rfl rfl rfl ?_
  obtain ⟨x13, hx13, hr⟩ := ob hr
  refine j_getA (pc' := 58) C dX12_readText_55 fl_X12_27 hx13 rfl ?_
  refine j_iload_n (q := 0) (pc' := 59) C dX12_readText_58 rfl rfl rfl ?_
  refine j_iconst (v := 1) (pc' := 60) C dX12_readText_59 kI_1 rfl ?_
  refine j_iadd (pc' := 61) C dX12_readText_60 rfl ?_
  refine j_lconst (v := 0) (pc' := 62) C dX12_readText_61 kL_0 rfl ?_
  obtain ⟨c14, hc14, hr⟩ := ob hr
  refine j_last (pc' := 63) C dX12_readText_62 hc14 rfl ?_
  refine j_iconst (v := 0) (pc' := 64) C dX12_readText_63 kI_0 rfl ?_
  refine j_istore_n (lv' := [(3, .int 0), (2, .int x3), (1, .int x2), (0, .ref this)]) (pc' := 65) C dX12_readText_64 rfl (by decide) rfl rfl ?_
  obtain ⟨o16, ho16, ro16⟩ := ob hr
  have ko16 : Jd G 0 0 nx o16.2 111 [(0, .ref this), (1, .int x2)] [] := by
    have hr := ro16
    refine j_aload_n (q := 0) (pc' := 112) C dX12_readText_111 rfl rfl rfl ?_
    refine j_iconst (v := 0) (pc' := 113) C dX12_readText_112 kI_0 rfl ?_
    obtain ⟨c18, hc18, hr⟩ := ob hr
    refine j_put (pc' := 116) C dX12_readText_113 fw_X12_145 rfl rfl hc18 rfl ?_
    refine j_aload_n (q := 0) (pc' := 117) C dX12_readText_116 rfl rfl rfl ?_
    obtain ⟨z19, hz19, hr⟩ := ob hr
    obtain ⟨q20, hq20, hr⟩ := ob hr
    obtain ⟨fhz19, hz19⟩ := rcv_sp hz19
    refine j_callV (ci := 9) (As := []) (rest := []) (st1 := []) (pc' := 120) C ⟨wm_1537, wm_40⟩ rfl hz19 (c_X12_nextToken (nx := nx) hq20) yw_X12_nextToken wm_1535 rfl rfl (by decide) ⟨by decide, by decide⟩ dX12_readText_117 rfl rfl ?_
    refine j_iconst (v := 0) (pc' := 121) C dX12_readText_120 kI_0 rfl ?_
    refine j_istore_n (lv' := [(3, .int 0), (0, .ref this), (1, .int x2)]) (pc' := 122) C dX12_readText_121 rfl (by decide) rfl rfl ?_
    obtain ⟨o22, ho22, ro22⟩ := ob hr
    have ko22 : ∀ vo22, o22.1 = Sum.inr vo22 → Jd G 0 0 nx o22.2 151 [(0, .ref this), (1, .int x2)] [] := by
      intro vo22 eo22
      rw [eo22] at ro22
      have hr := elR ro22
      refine j_aload_n (q := 0) (pc' := 152) C dX12_readText_151 rfl rfl rfl ?_
      obtain ⟨x24, hx24, hr⟩ := ob hr
      refine j_getA (pc' := 155) C dX12_readText_152 fl_X12_24 hx24 rfl ?_
      refine j_iconst (v := 2) (pc' := 156) C dX12_readText_155 kI_2 rfl ?_
      refine j_iload_n (q := 1) (pc' := 157) C dX12_readText_156 rfl rfl rfl ?_
      refine j_imul (pc' := 158) C dX12_readText_157 rfl ?_
      refine j_iconst (v := 1) (pc' := 159) C dX12_readText_158 kI_1 rfl ?_
      refine j_iadd (pc' := 160) C dX12_readText_159 rfl ?_
      obtain ⟨x25, hx25, hr⟩ := ob hr
      refine j_iald (pc' := 161) C dX12_readText_160 hx25 rfl ?_
      refine j_if_ne (tgt := 175) (pc' := 164) C dX12_readText_161 rfl rfl (fun hc => ?_) (fun hc => ?_)
      · have hr := ifF hc hr
        clear hc
        refine j_iconst (v := 0) (pc' := 176) C dX12_readText_175 kI_0 rfl ?_
        have hr := Option.some.inj hr
        subst hr
        exact j_iret C hq hret dX12_readText_176
      · have hr := ifT hc hr
        clear hc
        refine j_aload_n (q := 0) (pc' := 165) C dX12_readText_164 rfl rfl rfl ?_
        obtain ⟨x26, hx26, hr⟩ := ob hr
        refine j_getA (pc' := 168) C dX12_readText_165 fl_X12_24 hx26 rfl ?_
        refine j_iconst (v := 2) (pc' := 169) C dX12_readText_168 kI_2 rfl ?_
        refine j_iload_n (q := 1) (pc' := 170) C dX12_readText_169 rfl rfl rfl ?_
        refine j_imul (pc' := 171) C dX12_readText_170 rfl ?_
        refine j_iconst (v := 1) (pc' := 172) C dX12_readText_171 kI_1 rfl ?_
        refine j_iadd (pc' := 173) C dX12_readText_172 rfl ?_
        refine j_iconst (v := 1) (pc' := 174) C dX12_readText_173 kI_1 rfl ?_
        obtain ⟨c27, hc27, hr⟩ := ob hr
        refine j_iast (pc' := 175) C dX12_readText_174 hc27 rfl ?_
        refine j_iconst (v := 0) (pc' := 176) C dX12_readText_175 kI_0 rfl ?_
        have hr := Option.some.inj hr
        subst hr
        exact j_iret C hq hret dX12_readText_176
    refine j_lv [1, 2, 0] rfl (it_J (J := (fun s21 => Jd G 0 0 nx s21.2 122 [(0, .ref this), (1, .int x2), (3, .int s21.1)] [])) ?_ ho22)
    clear ho22
    intro s21 r23 hr is21 es21
    refine j_aload_n (q := 0) (pc' := 123) C dX12_readText_122 rfl rfl rfl ?_
    obtain ⟨x28, hx28, hr⟩ := ob hr
    refine j_getI (pc' := 126) C dX12_readText_123 fl_X12_148 hx28 rfl ?_
    refine j_if_eq (tgt := 151) (pc' := 129) C dX12_readText_126 rfl rfl (fun hc => ?_) (fun hc => ?_)
    · have hr := ifT hc hr
      clear hc
      have hr := es21 _ (Option.some.inj hr).symm
      subst hr
      exact j_lv [0, 1] rfl (ko22 _ rfl)
    · have hr := ifF hc hr
      clear hc
      refine j_aload_n (q := 0) (pc' := 130) C dX12_readText_129 rfl rfl rfl ?_
      refine j_iload_n (q := 1) (pc' := 131) C dX12_readText_130 rfl rfl rfl ?_
      refine j_iload_n (q := 2) (pc' := 132) C dX12_readText_131 rfl rfl rfl ?_
      obtain ⟨z29, hz29, hr⟩ := ob hr
      obtain ⟨q30, hq30, hr⟩ := ob hr
      obtain ⟨fhz29, hz29⟩ := rcv_sp hz29
      refine j_callV (ci := 9) (As := [.int x2, .int s21.1]) (rest := []) (st1 := [.int q30.1]) (pc' := 135) C ⟨wm_1562, wm_44⟩ rfl hz29 (c_X12_clause (nx := nx) hq30) yw_X12_clause wm_1560 rfl rfl (by decide) ⟨by decide, by decide⟩ dX12_readText_132 rfl rfl ?_
      refine j_istore (lv' := [(4, .int q30.1), (0, .ref this), (1, .int x2), (3, .int s21.1)]) (pc' := 137) C dX12_readText_135 (by decide) rfl rfl ?_
      refine j_iload (q := 0) (pc' := 139) C dX12_readText_137 rfl rfl ?_
      refine j_if_eq (tgt := 145) (pc' := 142) C dX12_readText_139 rfl rfl (fun hc => ?_) (fun hc => ?_)
      · have hr := ifT hc hr
        clear hc
        refine j_iinc (q := 3) (v := 1) (lv' := [(3, .int (s21.1 + 1)), (4, .int q30.1), (0, .ref this), (1, .int x2)]) (pc' := 148) C dX12_readText_145 rfl kI_1 (by decide) rfl rfl ?_
        refine j_goto (tgt := 122) C dX12_readText_148 rfl ?_
        exact j_lv [2, 3, 0] rfl (is21 _ (Option.some.inj hr).symm)
      · have hr := ifF hc hr
        clear hc
        refine j_iload (q := 0) (pc' := 144) C dX12_readText_142 rfl rfl ?_
        have hr := es21 _ (Option.some.inj hr).symm
        subst hr
        have hr := elL ro22
        have hr := Option.some.inj hr
        subst hr
        exact j_iret C hq hret dX12_readText_144
  refine j_lv [3, 2, 1, 0] rfl (it_J (J := (fun s15 => Jd G 0 0 nx s15.2 65 [(0, .ref this), (1, .int x2), (2, .int x3), (3, .int s15.1)] [])) ?_ ho16)
  clear ho16
  intro s15 r17 hr is15 es15
  refine j_iload_n (q := 3) (pc' := 66) C dX12_readText_65 rfl rfl rfl ?_
  refine j_bipush (v := 6) (pc' := 68) C dX12_readText_66 kB_6 rfl ?_
  refine j_ic_ge (tgt := 111) (pc' := 71) C dX12_readText_68 rfl rfl (fun hc => ?_) (fun hc => ?_)
  · have hr := ifT hc hr
    clear hc
    have hr := es15 _ (Option.some.inj hr).symm
    subst hr
    exact j_lv [0, 1] rfl ko16
  · have hr := ifF hc hr
    clear hc
    refine j_iconst (v := 0) (pc' := 72) C dX12_readText_71 kI_0 rfl ?_
    refine j_istore (lv' := [(4, .int 0), (0, .ref this), (1, .int x2), (2, .int x3), (3, .int s15.1)]) (pc' := 74) C dX12_readText_72 (by decide) rfl rfl ?_
    obtain ⟨o32, ho32, ro32⟩ := ob hr
    have ko32 : Jd G 0 0 nx o32.2 105 [(0, .ref this), (1, .int x2), (2, .int x3), (3, .int s15.1)] [] := by
      have hr := ro32
      refine j_iinc (q := 3) (v := 1) (lv' := [(3, .int (s15.1 + 1)), (0, .ref this), (1, .int x2), (2, .int x3)]) (pc' := 108) C dX12_readText_105 rfl kI_1 (by decide) rfl rfl ?_
      refine j_goto (tgt := 65) C dX12_readText_108 rfl ?_
      exact j_lv [1, 2, 3, 0] rfl (is15 _ (Option.some.inj hr).symm)
    refine j_lv [1, 2, 3, 4, 0] rfl (it_J (J := (fun s31 => Jd G 0 0 nx s31.2 74 [(0, .ref this), (1, .int x2), (2, .int x3), (3, .int s15.1), (4, .int s31.1)] [])) ?_ ho32)
    clear ho32
    intro s31 r33 hr is31 es31
    refine j_iload (q := 4) (pc' := 76) C dX12_readText_74 rfl rfl ?_
    refine j_iconst (v := 4) (pc' := 77) C dX12_readText_76 kI_4 rfl ?_
    refine j_ic_ge (tgt := 105) (pc' := 80) C dX12_readText_77 rfl rfl (fun hc => ?_) (fun hc => ?_)
    · have hr := ifT hc hr
      clear hc
      have hr := es31 _ (Option.some.inj hr).symm
      subst hr
      exact j_lv [0, 1, 2, 3] rfl ko32
    · have hr := ifF hc hr
      clear hc
      refine j_aload_n (q := 0) (pc' := 81) C dX12_readText_80 rfl rfl rfl ?_
      obtain ⟨x34, hx34, hr⟩ := ob hr
      refine j_getA (pc' := 84) C dX12_readText_81 fl_X12_27 hx34 rfl ?_
      refine j_iload_n (q := 2) (pc' := 85) C dX12_readText_84 rfl rfl rfl ?_
      refine j_iconst (v := 5) (pc' := 86) C dX12_readText_85 kI_5 rfl ?_
      refine j_iadd (pc' := 87) C dX12_readText_86 rfl ?_
      refine j_iconst (v := 4) (pc' := 88) C dX12_readText_87 kI_4 rfl ?_
      refine j_iload_n (q := 3) (pc' := 89) C dX12_readText_88 rfl rfl rfl ?_
      refine j_imul (pc' := 90) C dX12_readText_89 rfl ?_
      refine j_iadd (pc' := 91) C dX12_readText_90 rfl ?_
      refine j_iload (q := 4) (pc' := 93) C dX12_readText_91 rfl rfl ?_
      refine j_iadd (pc' := 94) C dX12_readText_93 rfl ?_
      refine j_iload_n (q := 3) (pc' := 95) C dX12_readText_94 rfl rfl rfl ?_
      obtain ⟨x35, hx35, hr⟩ := ob hr
      refine j_callS (As := [.int s15.1]) (rest := [.int (((x3 + 5) + (4 * s15.1)) + s31.1), .ref x34]) (st1 := [.long x35, .int (((x3 + 5) + (4 * s15.1)) + s31.1), .ref x34]) (pc' := 98) C wm_1533 (c_X12_letterSet (nx := nx) (ce := s31.2) hx35) yw_X12_letterSet wm_1532 rfl rfl (by decide) ⟨by decide, by decide⟩ dX12_readText_95 rfl rfl ?_
      obtain ⟨c36, hc36, hr⟩ := ob hr
      refine j_last (pc' := 99) C dX12_readText_98 hc36 rfl ?_
      refine j_iinc (q := 4) (v := 1) (lv' := [(4, .int (s31.1 + 1)), (0, .ref this), (1, .int x2), (2, .int x3), (3, .int s15.1)]) (pc' := 102) C dX12_readText_99 rfl kI_1 (by decide) rfl rfl ?_
      refine j_goto (tgt := 74) C dX12_readText_102 rfl ?_
      exact j_lv [1, 2, 3, 4, 0] rfl (is31 _ (Option.some.inj hr).symm)
def m_X12_text (ce : Ce) (this : Nat) : Option (Int32 × Ce) :=
  (gA ce 9 0 this).bind fun x1 =>
  (aI ce x1 0).bind fun x2 =>
  if x2 = 4 then
    some ((-1), ce)
  else
    (rcv ce 9 this).bind fun z3 =>
    (m_X12_readText ce this).bind fun q4 =>
    (pV q4.2 9 8 this (.int q4.1)).bind fun c5 =>
    (gI c5 9 8 this).bind fun x6 =>
    (
      if x6 = 0 then
        some (-1)
      else
        (gI c5 9 11 this).bind fun x16 =>
        some x16
    ).bind fun j7 =>
    (pV c5 9 9 this (.int j7)).bind fun c8 =>
    (pV c8 9 7 this (.int 0)).bind fun c9 =>
    (gI c9 9 8 this).bind fun x10 =>
    if x10 = 0 then
      (gA c9 9 0 this).bind fun x11 =>
      (aI c9 x11 0).bind fun x12 =>
      (sI c9 x11 0 (x12 + 1)).bind fun c13 =>
      (gA c13 9 0 this).bind fun x14 =>
      (aI c13 x14 0).bind fun x15 =>
      some ((x15 - 1), c13)
    else
      some ((-1), c9)
set_option maxRecDepth 100000 in
set_option maxHeartbeats 4000000 in
theorem c_X12_text {nx : Nat} {ce : Ce} {this : Nat} {q : Int32 × Ce} (hr : m_X12_text ce this = some q) : Ct yX12_text cX12_text 1 (some .int) 10 228 0 0 [.ref this] nx ce (some (.int q.1)) q.2 := by
  unfold m_X12_text at hr
  refine ct_of (by decide) (by decide) ?_
  intro G C hq hret hin
  show Jd G 0 0 nx ce 0 [(0, .ref this)] []
  refine j_aload_n (q := 0) (pc' := 1) C dX12_text_0 rfl rfl rfl ?_
  obtain ⟨x1, hx1, hr⟩ := ob hr
  refine j_getA (pc' := 4) C dX12_text_1 fl_X12_8 hx1 rfl ?_
  refine j_iconst (v := 0) (pc' := 5) C dX12_text_4 kI_0 rfl ?_
  obtain ⟨x2, hx2, hr⟩ := ob hr
  refine j_iald (pc' := 6) C dX12_text_5 hx2 rfl ?_
  refine j_iconst (v := 4) (pc' := 7) C dX12_text_6 kI_4 rfl ?_
  refine j_ic_ne (tgt := 12) (pc' := 10) C dX12_text_7 rfl rfl (fun hc => ?_) (fun hc => ?_)
  · have hr := ifF hc hr
    clear hc
    refine j_aload_n (q := 0) (pc' := 13) C dX12_text_12 rfl rfl rfl ?_
    refine j_aload_n (q := 0) (pc' := 14) C dX12_text_13 rfl rfl rfl ?_
    obtain ⟨z3, hz3, hr⟩ := ob hr
    obtain ⟨q4, hq4, hr⟩ := ob hr
    obtain ⟨fhz3, hz3⟩ := rcv_sp hz3
    refine j_callV (ci := 9) (As := []) (rest := [.ref this]) (st1 := [.int q4.1, .ref this]) (pc' := 17) C ⟨wm_1527, wm_39⟩ rfl hz3 (c_X12_readText (nx := nx) hq4) yw_X12_readText wm_1525 rfl rfl (by decide) ⟨by decide, by decide⟩ dX12_text_14 rfl rfl ?_
    obtain ⟨c5, hc5, hr⟩ := ob hr
    refine j_put (pc' := 20) C dX12_text_17 fw_X12_34 rfl rfl hc5 rfl ?_
    refine j_aload_n (q := 0) (pc' := 21) C dX12_text_20 rfl rfl rfl ?_
    refine j_aload_n (q := 0) (pc' := 22) C dX12_text_21 rfl rfl rfl ?_
    obtain ⟨x6, hx6, hr⟩ := ob hr
    refine j_getI (pc' := 25) C dX12_text_22 fl_X12_34 hx6 rfl ?_
    obtain ⟨j7, hj7, rj7⟩ := ob hr
    have kj7 : Jd G 0 0 nx c5 36 [(0, .ref this)] [.int j7, .ref this] := by
      have hr := rj7
      obtain ⟨c8, hc8, hr⟩ := ob hr
      refine j_put (pc' := 39) C dX12_text_36 fw_X12_38 rfl rfl hc8 rfl ?_
      refine j_aload_n (q := 0) (pc' := 40) C dX12_text_39 rfl rfl rfl ?_
      refine j_iconst (v := 0) (pc' := 41) C dX12_text_40 kI_0 rfl ?_
      obtain ⟨c9, hc9, hr⟩ := ob hr
      refine j_put (pc' := 44) C dX12_text_41 fw_X12_124 rfl rfl hc9 rfl ?_
      refine j_aload_n (q := 0) (pc' := 45) C dX12_text_44 rfl rfl rfl ?_
      obtain ⟨x10, hx10, hr⟩ := ob hr
      refine j_getI (pc' := 48) C dX12_text_45 fl_X12_34 hx10 rfl ?_
      refine j_if_eq (tgt := 53) (pc' := 51) C dX12_text_48 rfl rfl (fun hc => ?_) (fun hc => ?_)
      · have hr := ifT hc hr
        clear hc
        refine j_aload_n (q := 0) (pc' := 54) C dX12_text_53 rfl rfl rfl ?_
        obtain ⟨x11, hx11, hr⟩ := ob hr
        refine j_getA (pc' := 57) C dX12_text_54 fl_X12_8 hx11 rfl ?_
        refine j_iconst (v := 0) (pc' := 58) C dX12_text_57 kI_0 rfl ?_
        refine j_dup2 (pc' := 59) C dX12_text_58 rfl rfl rfl ?_
        obtain ⟨x12, hx12, hr⟩ := ob hr
        refine j_iald (pc' := 60) C dX12_text_59 hx12 rfl ?_
        refine j_iconst (v := 1) (pc' := 61) C dX12_text_60 kI_1 rfl ?_
        refine j_iadd (pc' := 62) C dX12_text_61 rfl ?_
        obtain ⟨c13, hc13, hr⟩ := ob hr
        refine j_iast (pc' := 63) C dX12_text_62 hc13 rfl ?_
        refine j_aload_n (q := 0) (pc' := 64) C dX12_text_63 rfl rfl rfl ?_
        obtain ⟨x14, hx14, hr⟩ := ob hr
        refine j_getA (pc' := 67) C dX12_text_64 fl_X12_8 hx14 rfl ?_
        refine j_iconst (v := 0) (pc' := 68) C dX12_text_67 kI_0 rfl ?_
        obtain ⟨x15, hx15, hr⟩ := ob hr
        refine j_iald (pc' := 69) C dX12_text_68 hx15 rfl ?_
        refine j_iconst (v := 1) (pc' := 70) C dX12_text_69 kI_1 rfl ?_
        refine j_isub (pc' := 71) C dX12_text_70 rfl ?_
        have hr := Option.some.inj hr
        subst hr
        exact j_iret C hq hret dX12_text_71
      · have hr := ifF hc hr
        clear hc
        refine j_iconst (v := -1) (pc' := 52) C dX12_text_51 kI_m1 rfl ?_
        have hr := Option.some.inj hr
        subst hr
        exact j_iret C hq hret dX12_text_52
    clear rj7
    have hr := hj7
    clear hj7
    refine j_if_ne (tgt := 32) (pc' := 28) C dX12_text_25 rfl rfl (fun hc => ?_) (fun hc => ?_)
    · have hr := ifF hc hr
      clear hc
      refine j_aload_n (q := 0) (pc' := 33) C dX12_text_32 rfl rfl rfl ?_
      obtain ⟨x16, hx16, hr⟩ := ob hr
      refine j_getI (pc' := 36) C dX12_text_33 fl_X12_131 hx16 rfl ?_
      have hr := Option.some.inj hr
      subst hr
      exact j_lv [0] rfl kj7
    · have hr := ifT hc hr
      clear hc
      refine j_iconst (v := -1) (pc' := 29) C dX12_text_28 kI_m1 rfl ?_
      refine j_goto (tgt := 36) C dX12_text_29 rfl ?_
      have hr := Option.some.inj hr
      subst hr
      exact j_lv [0] rfl kj7
  · have hr := ifT hc hr
    clear hc
    refine j_iconst (v := -1) (pc' := 11) C dX12_text_10 kI_m1 rfl ?_
    have hr := Option.some.inj hr
    subst hr
    exact j_iret C hq hret dX12_text_11
def m_X12_fault (ce : Ce) (this : Nat) (p1 : Int32) : Option (Int32) :=
  if p1 = 0 then
    (gI ce 9 8 this).bind fun x2 =>
    some x2
  else
    if p1 = 1 then
      (gI ce 9 9 this).bind fun x1 =>
      some x1
    else
      some (-1)
set_option maxRecDepth 100000 in
set_option maxHeartbeats 4000000 in
theorem c_X12_fault {nx : Nat} {ce : Ce} {this : Nat} {p1 : Int32} {q : Int32} (hr : m_X12_fault ce this p1 = some q) : Ct yX12_fault cX12_fault 2 (some .int) 0 0 0 0 [.ref this, .int p1] nx ce (some (.int q)) ce := by
  unfold m_X12_fault at hr
  refine ct_of (by decide) (by decide) ?_
  intro G C hq hret hin
  show Jd G 0 0 nx ce 0 [(0, .ref this), (1, .int p1)] []
  refine j_iload_n (q := 1) (pc' := 1) C dX12_fault_0 rfl rfl rfl ?_
  refine j_if_ne (tgt := 11) (pc' := 4) C dX12_fault_1 rfl rfl (fun hc => ?_) (fun hc => ?_)
  · have hr := ifF hc hr
    clear hc
    refine j_iload_n (q := 1) (pc' := 12) C dX12_fault_11 rfl rfl rfl ?_
    refine j_iconst (v := 1) (pc' := 13) C dX12_fault_12 kI_1 rfl ?_
    refine j_ic_ne (tgt := 23) (pc' := 16) C dX12_fault_13 rfl rfl (fun hc => ?_) (fun hc => ?_)
    · have hr := ifF hc hr
      clear hc
      refine j_iconst (v := -1) (pc' := 24) C dX12_fault_23 kI_m1 rfl ?_
      have hr := Option.some.inj hr
      subst hr
      exact j_iret C hq hret dX12_fault_24
    · have hr := ifT hc hr
      clear hc
      refine j_aload_n (q := 0) (pc' := 17) C dX12_fault_16 rfl rfl rfl ?_
      obtain ⟨x1, hx1, hr⟩ := ob hr
      refine j_getI (pc' := 20) C dX12_fault_17 fl_X12_38 hx1 rfl ?_
      refine j_goto (tgt := 24) C dX12_fault_20 rfl ?_
      have hr := Option.some.inj hr
      subst hr
      exact j_iret C hq hret dX12_fault_24
  · have hr := ifT hc hr
    clear hc
    refine j_aload_n (q := 0) (pc' := 5) C dX12_fault_4 rfl rfl rfl ?_
    obtain ⟨x2, hx2, hr⟩ := ob hr
    refine j_getI (pc' := 8) C dX12_fault_5 fl_X12_34 hx2 rfl ?_
    refine j_goto (tgt := 24) C dX12_fault_8 rfl ?_
    have hr := Option.some.inj hr
    subst hr
    exact j_iret C hq hret dX12_fault_24
def m_X12_stepAt (p0 : Int32) (p1 : Int32) : Option (Int32) :=
  (nz 20).bind fun z1 =>
  some (rm32 (p0 + p1) 20)
set_option maxRecDepth 100000 in
set_option maxHeartbeats 4000000 in
theorem c_X12_stepAt {nx : Nat} {ce : Ce} {p0 : Int32} {p1 : Int32} {q : Int32} (hr : m_X12_stepAt p0 p1 = some q) : Ct yX12_stepAt cX12_stepAt 2 (some .int) 0 0 0 0 [.int p0, .int p1] nx ce (some (.int q)) ce := by
  unfold m_X12_stepAt at hr
  refine ct_of (by decide) (by decide) ?_
  intro G C hq hret hin
  show Jd G 0 0 nx ce 0 [(0, .int p0), (1, .int p1)] []
  refine j_iload_n (q := 0) (pc' := 1) C dX12_stepAt_0 rfl rfl rfl ?_
  refine j_iload_n (q := 1) (pc' := 2) C dX12_stepAt_1 rfl rfl rfl ?_
  refine j_iadd (pc' := 3) C dX12_stepAt_2 rfl ?_
  refine j_bipush (v := 20) (pc' := 5) C dX12_stepAt_3 kB_20 rfl ?_
  obtain ⟨z1, hz1, hr⟩ := ob hr
  refine j_irem (pc' := 6) C dX12_stepAt_5 hz1 rfl ?_
  have hr := Option.some.inj hr
  subst hr
  exact j_iret C hq hret dX12_stepAt_6
def m_X12_keep (ce : Ce) (this : Nat) : Option (Unit × Ce) :=
  (gA ce 9 0 this).bind fun x1 =>
  (aI ce x1 1).bind fun x2 =>
  (
    if x2 = 20 then
      (gA ce 9 0 this).bind fun x26 =>
      (gA ce 9 0 this).bind fun x27 =>
      (aI ce x27 2).bind fun x28 =>
      (nz 20).bind fun z29 =>
      (sI ce x26 2 (rm32 (x28 + 1) 20)).bind fun c30 =>
      (gA c30 9 0 this).bind fun x31 =>
      (aI c30 x31 1).bind fun x32 =>
      (sI c30 x31 1 (x32 - 1)).bind fun c33 =>
      some ((), c33)
    else
      some ((), ce)
  ).bind fun j3 =>
  (gA j3.2 9 0 this).bind fun x4 =>
  (aI j3.2 x4 2).bind fun x5 =>
  (gA j3.2 9 0 this).bind fun x6 =>
  (aI j3.2 x6 1).bind fun x7 =>
  (m_X12_stepAt x5 x7).bind fun x8 =>
  (it (fun s9 =>
    if 5421 ≤ s9.1 then
      some (Sum.inr ((), s9.2))
    else
      (gA s9.2 9 0 this).bind fun x22 =>
      (gA s9.2 9 0 this).bind fun x23 =>
      (aI s9.2 x23 (3 + s9.1)).bind fun x24 =>
      (sI s9.2 x22 ((5424 + (5421 * x8)) + s9.1) x24).bind fun c25 =>
      some (Sum.inl ((s9.1 + 1), c25))
  ) FU (0, j3.2)).bind fun o10 =>
  (it (fun s12 =>
    if 7 ≤ s12.1 then
      some (Sum.inr ((), s12.2))
    else
      (gA s12.2 9 2 this).bind fun x18 =>
      (gA s12.2 9 2 this).bind fun x19 =>
      (aG s12.2 x19 s12.1).bind fun x20 =>
      (sG s12.2 x18 ((7 + (7 * x8)) + s12.1) x20).bind fun c21 =>
      some (Sum.inl ((s12.1 + 1), c21))
  ) FU (0, o10.2)).bind fun o13 =>
  (gA o13.2 9 0 this).bind fun x15 =>
  (aI o13.2 x15 1).bind fun x16 =>
  (sI o13.2 x15 1 (x16 + 1)).bind fun c17 =>
  some ((), c17)
set_option maxRecDepth 100000 in
set_option maxHeartbeats 4000000 in
theorem c_X12_keep {nx : Nat} {ce : Ce} {this : Nat} {q : Unit × Ce} (hr : m_X12_keep ce this = some q) : Ct yX12_keep cX12_keep 3 none 1 21 0 0 [.ref this] nx ce none q.2 := by
  unfold m_X12_keep at hr
  refine ct_of (by decide) (by decide) ?_
  intro G C hq hret hin
  show Jd G 0 0 nx ce 0 [(0, .ref this)] []
  refine j_aload_n (q := 0) (pc' := 1) C dX12_keep_0 rfl rfl rfl ?_
  obtain ⟨x1, hx1, hr⟩ := ob hr
  refine j_getA (pc' := 4) C dX12_keep_1 fl_X12_8 hx1 rfl ?_
  refine j_iconst (v := 1) (pc' := 5) C dX12_keep_4 kI_1 rfl ?_
  obtain ⟨x2, hx2, hr⟩ := ob hr
  refine j_iald (pc' := 6) C dX12_keep_5 hx2 rfl ?_
  refine j_bipush (v := 20) (pc' := 8) C dX12_keep_6 kB_20 rfl ?_
  obtain ⟨j3, hj3, rj3⟩ := ob hr
  have kj3 : Jd G 0 0 nx j3.2 38 [(0, .ref this)] [] := by
    have hr := rj3
    refine j_aload_n (q := 0) (pc' := 39) C dX12_keep_38 rfl rfl rfl ?_
    obtain ⟨x4, hx4, hr⟩ := ob hr
    refine j_getA (pc' := 42) C dX12_keep_39 fl_X12_8 hx4 rfl ?_
    refine j_iconst (v := 2) (pc' := 43) C dX12_keep_42 kI_2 rfl ?_
    obtain ⟨x5, hx5, hr⟩ := ob hr
    refine j_iald (pc' := 44) C dX12_keep_43 hx5 rfl ?_
    refine j_aload_n (q := 0) (pc' := 45) C dX12_keep_44 rfl rfl rfl ?_
    obtain ⟨x6, hx6, hr⟩ := ob hr
    refine j_getA (pc' := 48) C dX12_keep_45 fl_X12_8 hx6 rfl ?_
    refine j_iconst (v := 1) (pc' := 49) C dX12_keep_48 kI_1 rfl ?_
    obtain ⟨x7, hx7, hr⟩ := ob hr
    refine j_iald (pc' := 50) C dX12_keep_49 hx7 rfl ?_
    obtain ⟨x8, hx8, hr⟩ := ob hr
    refine j_callS (As := [.int x5, .int x7]) (rest := []) (st1 := [.int x8]) (pc' := 53) C wm_1621 (c_X12_stepAt (nx := nx) (ce := j3.2) hx8) yw_X12_stepAt wm_1620 rfl rfl (by decide) ⟨by decide, by decide⟩ dX12_keep_50 rfl rfl ?_
    refine j_istore_n (lv' := [(1, .int x8), (0, .ref this)]) (pc' := 54) C dX12_keep_53 rfl (by decide) rfl rfl ?_
    refine j_iconst (v := 0) (pc' := 55) C dX12_keep_54 kI_0 rfl ?_
    refine j_istore_n (lv' := [(2, .int 0), (1, .int x8), (0, .ref this)]) (pc' := 56) C dX12_keep_55 rfl (by decide) rfl rfl ?_
    obtain ⟨o10, ho10, ro10⟩ := ob hr
    have ko10 : Jd G 0 0 nx o10.2 93 [(0, .ref this), (1, .int x8)] [] := by
      have hr := ro10
      refine j_iconst (v := 0) (pc' := 94) C dX12_keep_93 kI_0 rfl ?_
      refine j_istore_n (lv' := [(2, .int 0), (0, .ref this), (1, .int x8)]) (pc' := 95) C dX12_keep_94 rfl (by decide) rfl rfl ?_
      obtain ⟨o13, ho13, ro13⟩ := ob hr
      have ko13 : Jd G 0 0 nx o13.2 127 [(0, .ref this)] [] := by
        have hr := ro13
        refine j_aload_n (q := 0) (pc' := 128) C dX12_keep_127 rfl rfl rfl ?_
        obtain ⟨x15, hx15, hr⟩ := ob hr
        refine j_getA (pc' := 131) C dX12_keep_128 fl_X12_8 hx15 rfl ?_
        refine j_iconst (v := 1) (pc' := 132) C dX12_keep_131 kI_1 rfl ?_
        refine j_dup2 (pc' := 133) C dX12_keep_132 rfl rfl rfl ?_
        obtain ⟨x16, hx16, hr⟩ := ob hr
        refine j_iald (pc' := 134) C dX12_keep_133 hx16 rfl ?_
        refine j_iconst (v := 1) (pc' := 135) C dX12_keep_134 kI_1 rfl ?_
        refine j_iadd (pc' := 136) C dX12_keep_135 rfl ?_
        obtain ⟨c17, hc17, hr⟩ := ob hr
        refine j_iast (pc' := 137) C dX12_keep_136 hc17 rfl ?_
        have hr := Option.some.inj hr
        subst hr
        exact j_vret C hq hret dX12_keep_137
      refine j_lv [1, 2, 0] rfl (it_J (J := (fun s12 => Jd G 0 0 nx s12.2 95 [(0, .ref this), (1, .int x8), (2, .int s12.1)] [])) ?_ ho13)
      clear ho13
      intro s12 r14 hr is12 es12
      refine j_iload_n (q := 2) (pc' := 96) C dX12_keep_95 rfl rfl rfl ?_
      refine j_bipush (v := 7) (pc' := 98) C dX12_keep_96 kB_7 rfl ?_
      refine j_ic_ge (tgt := 127) (pc' := 101) C dX12_keep_98 rfl rfl (fun hc => ?_) (fun hc => ?_)
      · have hr := ifT hc hr
        clear hc
        have hr := es12 _ (Option.some.inj hr).symm
        subst hr
        exact j_lv [0] rfl ko13
      · have hr := ifF hc hr
        clear hc
        refine j_aload_n (q := 0) (pc' := 102) C dX12_keep_101 rfl rfl rfl ?_
        obtain ⟨x18, hx18, hr⟩ := ob hr
        refine j_getA (pc' := 105) C dX12_keep_102 fl_X12_17 hx18 rfl ?_
        refine j_bipush (v := 7) (pc' := 107) C dX12_keep_105 kB_7 rfl ?_
        refine j_bipush (v := 7) (pc' := 109) C dX12_keep_107 kB_7 rfl ?_
        refine j_iload_n (q := 1) (pc' := 110) C dX12_keep_109 rfl rfl rfl ?_
        refine j_imul (pc' := 111) C dX12_keep_110 rfl ?_
        refine j_iadd (pc' := 112) C dX12_keep_111 rfl ?_
        refine j_iload_n (q := 2) (pc' := 113) C dX12_keep_112 rfl rfl rfl ?_
        refine j_iadd (pc' := 114) C dX12_keep_113 rfl ?_
        refine j_aload_n (q := 0) (pc' := 115) C dX12_keep_114 rfl rfl rfl ?_
        obtain ⟨x19, hx19, hr⟩ := ob hr
        refine j_getA (pc' := 118) C dX12_keep_115 fl_X12_17 hx19 rfl ?_
        refine j_iload_n (q := 2) (pc' := 119) C dX12_keep_118 rfl rfl rfl ?_
        obtain ⟨x20, hx20, hr⟩ := ob hr
        refine j_fald (pc' := 120) C dX12_keep_119 hx20 rfl ?_
        obtain ⟨c21, hc21, hr⟩ := ob hr
        refine j_fast (pc' := 121) C dX12_keep_120 hc21 rfl ?_
        refine j_iinc (q := 2) (v := 1) (lv' := [(2, .int (s12.1 + 1)), (0, .ref this), (1, .int x8)]) (pc' := 124) C dX12_keep_121 rfl kI_1 (by decide) rfl rfl ?_
        refine j_goto (tgt := 95) C dX12_keep_124 rfl ?_
        exact j_lv [1, 2, 0] rfl (is12 _ (Option.some.inj hr).symm)
    refine j_lv [2, 1, 0] rfl (it_J (J := (fun s9 => Jd G 0 0 nx s9.2 56 [(0, .ref this), (1, .int x8), (2, .int s9.1)] [])) ?_ ho10)
    clear ho10
    intro s9 r11 hr is9 es9
    refine j_iload_n (q := 2) (pc' := 57) C dX12_keep_56 rfl rfl rfl ?_
    refine j_sipush (v := 5421) (pc' := 60) C dX12_keep_57 kS_5421 rfl ?_
    refine j_ic_ge (tgt := 93) (pc' := 63) C dX12_keep_60 rfl rfl (fun hc => ?_) (fun hc => ?_)
    · have hr := ifT hc hr
      clear hc
      have hr := es9 _ (Option.some.inj hr).symm
      subst hr
      exact j_lv [0, 1] rfl ko10
    · have hr := ifF hc hr
      clear hc
      refine j_aload_n (q := 0) (pc' := 64) C dX12_keep_63 rfl rfl rfl ?_
      obtain ⟨x22, hx22, hr⟩ := ob hr
      refine j_getA (pc' := 67) C dX12_keep_64 fl_X12_8 hx22 rfl ?_
      refine j_sipush (v := 5424) (pc' := 70) C dX12_keep_67 kS_5424 rfl ?_
      refine j_sipush (v := 5421) (pc' := 73) C dX12_keep_70 kS_5421 rfl ?_
      refine j_iload_n (q := 1) (pc' := 74) C dX12_keep_73 rfl rfl rfl ?_
      refine j_imul (pc' := 75) C dX12_keep_74 rfl ?_
      refine j_iadd (pc' := 76) C dX12_keep_75 rfl ?_
      refine j_iload_n (q := 2) (pc' := 77) C dX12_keep_76 rfl rfl rfl ?_
      refine j_iadd (pc' := 78) C dX12_keep_77 rfl ?_
      refine j_aload_n (q := 0) (pc' := 79) C dX12_keep_78 rfl rfl rfl ?_
      obtain ⟨x23, hx23, hr⟩ := ob hr
      refine j_getA (pc' := 82) C dX12_keep_79 fl_X12_8 hx23 rfl ?_
      refine j_iconst (v := 3) (pc' := 83) C dX12_keep_82 kI_3 rfl ?_
      refine j_iload_n (q := 2) (pc' := 84) C dX12_keep_83 rfl rfl rfl ?_
      refine j_iadd (pc' := 85) C dX12_keep_84 rfl ?_
      obtain ⟨x24, hx24, hr⟩ := ob hr
      refine j_iald (pc' := 86) C dX12_keep_85 hx24 rfl ?_
      obtain ⟨c25, hc25, hr⟩ := ob hr
      refine j_iast (pc' := 87) C dX12_keep_86 hc25 rfl ?_
      refine j_iinc (q := 2) (v := 1) (lv' := [(2, .int (s9.1 + 1)), (0, .ref this), (1, .int x8)]) (pc' := 90) C dX12_keep_87 rfl kI_1 (by decide) rfl rfl ?_
      refine j_goto (tgt := 56) C dX12_keep_90 rfl ?_
      exact j_lv [1, 2, 0] rfl (is9 _ (Option.some.inj hr).symm)
  clear rj3
  have hr := hj3
  clear hj3
  refine j_ic_ne (tgt := 38) (pc' := 11) C dX12_keep_8 rfl rfl (fun hc => ?_) (fun hc => ?_)
  · have hr := ifF hc hr
    clear hc
    have hr := Option.some.inj hr
    subst hr
    exact j_lv [0] rfl kj3
  · have hr := ifT hc hr
    clear hc
    refine j_aload_n (q := 0) (pc' := 12) C dX12_keep_11 rfl rfl rfl ?_
    obtain ⟨x26, hx26, hr⟩ := ob hr
    refine j_getA (pc' := 15) C dX12_keep_12 fl_X12_8 hx26 rfl ?_
    refine j_iconst (v := 2) (pc' := 16) C dX12_keep_15 kI_2 rfl ?_
    refine j_aload_n (q := 0) (pc' := 17) C dX12_keep_16 rfl rfl rfl ?_
    obtain ⟨x27, hx27, hr⟩ := ob hr
    refine j_getA (pc' := 20) C dX12_keep_17 fl_X12_8 hx27 rfl ?_
    refine j_iconst (v := 2) (pc' := 21) C dX12_keep_20 kI_2 rfl ?_
    obtain ⟨x28, hx28, hr⟩ := ob hr
    refine j_iald (pc' := 22) C dX12_keep_21 hx28 rfl ?_
    refine j_iconst (v := 1) (pc' := 23) C dX12_keep_22 kI_1 rfl ?_
    refine j_iadd (pc' := 24) C dX12_keep_23 rfl ?_
    refine j_bipush (v := 20) (pc' := 26) C dX12_keep_24 kB_20 rfl ?_
    obtain ⟨z29, hz29, hr⟩ := ob hr
    refine j_irem (pc' := 27) C dX12_keep_26 hz29 rfl ?_
    obtain ⟨c30, hc30, hr⟩ := ob hr
    refine j_iast (pc' := 28) C dX12_keep_27 hc30 rfl ?_
    refine j_aload_n (q := 0) (pc' := 29) C dX12_keep_28 rfl rfl rfl ?_
    obtain ⟨x31, hx31, hr⟩ := ob hr
    refine j_getA (pc' := 32) C dX12_keep_29 fl_X12_8 hx31 rfl ?_
    refine j_iconst (v := 1) (pc' := 33) C dX12_keep_32 kI_1 rfl ?_
    refine j_dup2 (pc' := 34) C dX12_keep_33 rfl rfl rfl ?_
    obtain ⟨x32, hx32, hr⟩ := ob hr
    refine j_iald (pc' := 35) C dX12_keep_34 hx32 rfl ?_
    refine j_iconst (v := 1) (pc' := 36) C dX12_keep_35 kI_1 rfl ?_
    refine j_isub (pc' := 37) C dX12_keep_36 rfl ?_
    obtain ⟨c33, hc33, hr⟩ := ob hr
    refine j_iast (pc' := 38) C dX12_keep_37 hc33 rfl ?_
    have hr := Option.some.inj hr
    subst hr
    exact j_lv [0] rfl kj3
def m_X12_load (ce : Ce) (this : Nat) (p1 : Int32) : Option (Int32 × Ce) :=
  (gA ce 9 0 this).bind fun x1 =>
  (aI ce x1 0).bind fun x2 =>
  (m_X12_isIn p1 0 (x2 - 1)).bind fun x3 =>
  if x3 = 0 then
    some ((-1), ce)
  else
    (rcv ce 9 this).bind fun z4 =>
    (m_X12_keep ce this).bind fun q5 =>
    (m_X12_formsOf p1).bind fun x6 =>
    (gA q5.2 9 0 this).bind fun x7 =>
    (gA q5.2 9 4 this).bind fun x8 =>
    (aI q5.2 x8 (2 * p1)).bind fun x9 =>
    (sI q5.2 x7 3 x9).bind fun c10 =>
    (gA c10 9 0 this).bind fun x11 =>
    (gA c10 9 4 this).bind fun x12 =>
    (aI c10 x12 ((2 * p1) + 1)).bind fun x13 =>
    (sI c10 x11 7 x13).bind fun c14 =>
    (it (fun s15 =>
      if 4 < s15.1 then
        some (Sum.inr ((), s15.2))
      else
        (gA s15.2 9 0 this).bind fun x43 =>
        (aI s15.2 x43 7).bind fun x44 =>
        (
          if x44 < s15.1 then
            some 0
          else
            (gA s15.2 9 5 this).bind fun x48 =>
            (aL s15.2 x48 (x6 + s15.1)).bind fun x49 =>
            (rcv s15.2 9 this).bind fun z50 =>
            (m_X12_all s15.2 this).bind fun x51 =>
            some (x49 &&& x51)
        ).bind fun j45 =>
        (rcv s15.2 9 this).bind fun z46 =>
        (m_X12_putSet s15.2 this s15.1 j45).bind fun q47 =>
        some (Sum.inl ((s15.1 + 1), q47.2))
    ) FU (0, c14)).bind fun o16 =>
    (it (fun s18 =>
      (rcv s18.2 9 this).bind fun z25 =>
      (m_X12_states s18.2 this).bind fun x26 =>
      if x26 ≤ s18.1 then
        some (Sum.inr ((), s18.2))
      else
        (gA s18.2 9 0 this).bind fun x27 =>
        (sI s18.2 x27 (28 + s18.1) 0).bind fun c28 =>
        (it (fun s29 =>
          (gA s29.2 9 0 this).bind fun x32 =>
          (aI s29.2 x32 3).bind fun x33 =>
          if x33 ≤ s29.1 then
            some (Sum.inr ((), s29.2))
          else
            (it (fun s34 =>
              if 4 ≤ s34.1 then
                some (Sum.inr ((), s34.2))
              else
                (gA s34.2 9 5 this).bind fun x37 =>
                (aL s34.2 x37 (((x6 + 5) + (4 * s29.1)) + s34.1)).bind fun x38 =>
                (m_X12_has x38 s18.1).bind fun x39 =>
                if x39 = 0 then
                  some (Sum.inl ((s34.1 + 1), s34.2))
                else
                  (gA s34.2 9 0 this).bind fun x40 =>
                  (aI s34.2 x40 (28 + s18.1)).bind fun x41 =>
                  (sI s34.2 x40 (28 + s18.1) (x41 ||| (1 <<< (((6 * s34.1) + s29.1) &&& 31)))).bind fun c42 =>
                  some (Sum.inl ((s34.1 + 1), c42))
            ) FU (0, s29.2)).bind fun o35 =>
            some (Sum.inl ((s29.1 + 1), o35.2))
        ) FU (0, c28)).bind fun o30 =>
        some (Sum.inl ((s18.1 + 1), o30.2))
    ) FU (0, o16.2)).bind fun o19 =>
    (rcv o19.2 9 this).bind fun z21 =>
    (m_X12_anew o19.2 this).bind fun q22 =>
    (gA q22.2 9 0 this).bind fun x23 =>
    (aI q22.2 x23 3).bind fun x24 =>
    some (x24, q22.2)
set_option maxRecDepth 100000 in
set_option maxHeartbeats 4000000 in
theorem c_X12_load {nx : Nat} {ce : Ce} {this : Nat} {p1 : Int32} {q : Int32 × Ce} (hr : m_X12_load ce this p1 = some q) : Ct yX12_load cX12_load 6 (some .int) 2 43 0 0 [.ref this, .int p1] nx ce (some (.int q.1)) q.2 := by
  unfold m_X12_load at hr
  refine ct_of (by decide) (by decide) ?_
  intro G C hq hret hin
  show Jd G 0 0 nx ce 0 [(0, .ref this), (1, .int p1)] []
  refine j_iload_n (q := 1) (pc' := 1) C dX12_load_0 rfl rfl rfl ?_
  refine j_iconst (v := 0) (pc' := 2) C dX12_load_1 kI_0 rfl ?_
  refine j_aload_n (q := 0) (pc' := 3) C dX12_load_2 rfl rfl rfl ?_
  obtain ⟨x1, hx1, hr⟩ := ob hr
  refine j_getA (pc' := 6) C dX12_load_3 fl_X12_8 hx1 rfl ?_
  refine j_iconst (v := 0) (pc' := 7) C dX12_load_6 kI_0 rfl ?_
  obtain ⟨x2, hx2, hr⟩ := ob hr
  refine j_iald (pc' := 8) C dX12_load_7 hx2 rfl ?_
  refine j_iconst (v := 1) (pc' := 9) C dX12_load_8 kI_1 rfl ?_
  refine j_isub (pc' := 10) C dX12_load_9 rfl ?_
  obtain ⟨x3, hx3, hr⟩ := ob hr
  refine j_callS (As := [.int p1, .int 0, .int (x2 - 1)]) (rest := []) (st1 := [.int x3]) (pc' := 13) C wm_1519 (c_X12_isIn (nx := nx) (ce := ce) hx3) yw_X12_isIn wm_1518 rfl rfl (by decide) ⟨by decide, by decide⟩ dX12_load_10 rfl rfl ?_
  refine j_if_ne (tgt := 18) (pc' := 16) C dX12_load_13 rfl rfl (fun hc => ?_) (fun hc => ?_)
  · have hr := ifF hc hr
    clear hc
    refine j_aload_n (q := 0) (pc' := 19) C dX12_load_18 rfl rfl rfl ?_
    obtain ⟨z4, hz4, hr⟩ := ob hr
    obtain ⟨q5, hq5, hr⟩ := ob hr
    obtain ⟨fhz4, hz4⟩ := rcv_sp hz4
    refine j_callV (ci := 9) (As := []) (rest := []) (st1 := []) (pc' := 22) C ⟨wm_1618, wm_55⟩ rfl hz4 (c_X12_keep (nx := nx) hq5) yw_X12_keep wm_1616 rfl rfl (by decide) ⟨by decide, by decide⟩ dX12_load_19 rfl rfl ?_
    refine j_iload_n (q := 1) (pc' := 23) C dX12_load_22 rfl rfl rfl ?_
    obtain ⟨x6, hx6, hr⟩ := ob hr
    refine j_callS (As := [.int p1]) (rest := []) (st1 := [.int x6]) (pc' := 26) C wm_1530 (c_X12_formsOf (nx := nx) (ce := q5.2) hx6) yw_X12_formsOf wm_1529 rfl rfl (by decide) ⟨by decide, by decide⟩ dX12_load_23 rfl rfl ?_
    refine j_istore_n (lv' := [(2, .int x6), (0, .ref this), (1, .int p1)]) (pc' := 27) C dX12_load_26 rfl (by decide) rfl rfl ?_
    refine j_aload_n (q := 1) (pc' := 28) C dX12_load_27 rfl rfl rfl ?_
    obtain ⟨x7, hx7, hr⟩ := ob hr
    refine j_getA (pc' := 31) C dX12_load_28 fl_X12_8 hx7 rfl ?_
    refine j_iconst (v := 3) (pc' := 32) C dX12_load_31 kI_3 rfl ?_
    refine j_aload_n (q := 1) (pc' := 33) C dX12_load_32 rfl rfl rfl ?_
    obtain ⟨x8, hx8, hr⟩ := ob hr
    refine j_getA (pc' := 36) C dX12_load_33 fl_X12_24 hx8 rfl ?_
    refine j_iconst (v := 2) (pc' := 37) C dX12_load_36 kI_2 rfl ?_
    refine j_iload_n (q := 2) (pc' := 38) C dX12_load_37 rfl rfl rfl ?_
    refine j_imul (pc' := 39) C dX12_load_38 rfl ?_
    obtain ⟨x9, hx9, hr⟩ := ob hr
    refine j_iald (pc' := 40) C dX12_load_39 hx9 rfl ?_
    obtain ⟨c10, hc10, hr⟩ := ob hr
    refine j_iast (pc' := 41) C dX12_load_40 hc10 rfl ?_
    refine j_aload_n (q := 1) (pc' := 42) C dX12_load_41 rfl rfl rfl ?_
    obtain ⟨x11, hx11, hr⟩ := ob hr
    refine j_getA (pc' := 45) C dX12_load_42 fl_X12_8 hx11 rfl ?_
    refine j_bipush (v := 7) (pc' := 47) C dX12_load_45 kB_7 rfl ?_
    refine j_aload_n (q := 1) (pc' := 48) C dX12_load_47 rfl rfl rfl ?_
    obtain ⟨x12, hx12, hr⟩ := ob hr
    refine j_getA (pc' := 51) C dX12_load_48 fl_X12_24 hx12 rfl ?_
    refine j_iconst (v := 2) (pc' := 52) C dX12_load_51 kI_2 rfl ?_
    refine j_iload_n (q := 2) (pc' := 53) C dX12_load_52 rfl rfl rfl ?_
    refine j_imul (pc' := 54) C dX12_load_53 rfl ?_
    refine j_iconst (v := 1) (pc' := 55) C dX12_load_54 kI_1 rfl ?_
    refine j_iadd (pc' := 56) C dX12_load_55 rfl ?_
    obtain ⟨x13, hx13, hr⟩ := ob hr
    refine j_iald (pc' := 57) C dX12_load_56 hx13 rfl ?_
    obtain ⟨c14, hc14, hr⟩ := ob hr
    refine j_iast (pc' := 58) C dX12_load_57 hc14 rfl ?_
    refine j_iconst (v := 0) (pc' := 59) C dX12_load_58 kI_0 rfl ?_
    refine j_istore_n (lv' := [(3, .int 0), (2, .int x6), (0, .ref this), (1, .int p1)]) (pc' := 60) C dX12_load_59 rfl (by decide) rfl rfl ?_
    obtain ⟨o16, ho16, ro16⟩ := ob hr
    have ko16 : Jd G 0 0 nx o16.2 104 [(0, .ref this), (2, .int x6)] [] := by
      have hr := ro16
      refine j_iconst (v := 0) (pc' := 105) C dX12_load_104 kI_0 rfl ?_
      refine j_istore_n (lv' := [(3, .int 0), (0, .ref this), (2, .int x6)]) (pc' := 106) C dX12_load_105 rfl (by decide) rfl rfl ?_
      obtain ⟨o19, ho19, ro19⟩ := ob hr
      have ko19 : Jd G 0 0 nx o19.2 210 [(0, .ref this)] [] := by
        have hr := ro19
        refine j_aload_n (q := 0) (pc' := 211) C dX12_load_210 rfl rfl rfl ?_
        obtain ⟨z21, hz21, hr⟩ := ob hr
        obtain ⟨q22, hq22, hr⟩ := ob hr
        obtain ⟨fhz21, hz21⟩ := rcv_sp hz21
        refine j_callV (ci := 9) (As := []) (rest := []) (st1 := []) (pc' := 214) C ⟨wm_1398, wm_37⟩ rfl hz21 (c_X12_anew (nx := nx) hq22) yw_X12_anew wm_1396 rfl rfl (by decide) ⟨by decide, by decide⟩ dX12_load_211 rfl rfl ?_
        refine j_aload_n (q := 0) (pc' := 215) C dX12_load_214 rfl rfl rfl ?_
        obtain ⟨x23, hx23, hr⟩ := ob hr
        refine j_getA (pc' := 218) C dX12_load_215 fl_X12_8 hx23 rfl ?_
        refine j_iconst (v := 3) (pc' := 219) C dX12_load_218 kI_3 rfl ?_
        obtain ⟨x24, hx24, hr⟩ := ob hr
        refine j_iald (pc' := 220) C dX12_load_219 hx24 rfl ?_
        have hr := Option.some.inj hr
        subst hr
        exact j_iret C hq hret dX12_load_220
      refine j_lv [1, 2, 0] rfl (it_J (J := (fun s18 => Jd G 0 0 nx s18.2 106 [(0, .ref this), (2, .int x6), (3, .int s18.1)] [])) ?_ ho19)
      clear ho19
      intro s18 r20 hr is18 es18
      refine j_iload_n (q := 2) (pc' := 107) C dX12_load_106 rfl rfl rfl ?_
      refine j_aload_n (q := 0) (pc' := 108) C dX12_load_107 rfl rfl rfl ?_
      obtain ⟨z25, hz25, hr⟩ := ob hr
      obtain ⟨x26, hx26, hr⟩ := ob hr
      obtain ⟨fhz25, hz25⟩ := rcv_sp hz25
      refine j_callV (ci := 9) (As := []) (rest := [.int s18.1]) (st1 := [.int x26, .int s18.1]) (pc' := 111) C ⟨wm_1632, wm_57⟩ rfl hz25 (c_X12_states (nx := nx) hx26) yw_X12_states wm_1630 rfl rfl (by decide) ⟨by decide, by decide⟩ dX12_load_108 rfl rfl ?_
      refine j_ic_ge (tgt := 210) (pc' := 114) C dX12_load_111 rfl rfl (fun hc => ?_) (fun hc => ?_)
      · have hr := ifT hc hr
        clear hc
        have hr := es18 _ (Option.some.inj hr).symm
        subst hr
        exact j_lv [0] rfl ko19
      · have hr := ifF hc hr
        clear hc
        refine j_aload_n (q := 0) (pc' := 115) C dX12_load_114 rfl rfl rfl ?_
        obtain ⟨x27, hx27, hr⟩ := ob hr
        refine j_getA (pc' := 118) C dX12_load_115 fl_X12_8 hx27 rfl ?_
        refine j_bipush (v := 28) (pc' := 120) C dX12_load_118 kB_28 rfl ?_
        refine j_iload_n (q := 2) (pc' := 121) C dX12_load_120 rfl rfl rfl ?_
        refine j_iadd (pc' := 122) C dX12_load_121 rfl ?_
        refine j_iconst (v := 0) (pc' := 123) C dX12_load_122 kI_0 rfl ?_
        obtain ⟨c28, hc28, hr⟩ := ob hr
        refine j_iast (pc' := 124) C dX12_load_123 hc28 rfl ?_
        refine j_iconst (v := 0) (pc' := 125) C dX12_load_124 kI_0 rfl ?_
        refine j_istore (lv' := [(4, .int 0), (0, .ref this), (2, .int x6), (3, .int s18.1)]) (pc' := 127) C dX12_load_125 (by decide) rfl rfl ?_
        obtain ⟨o30, ho30, ro30⟩ := ob hr
        have ko30 : Jd G 0 0 nx o30.2 204 [(0, .ref this), (2, .int x6), (3, .int s18.1)] [] := by
          have hr := ro30
          refine j_iinc (q := 2) (v := 1) (lv' := [(3, .int (s18.1 + 1)), (0, .ref this), (2, .int x6)]) (pc' := 207) C dX12_load_204 rfl kI_1 (by decide) rfl rfl ?_
          refine j_goto (tgt := 106) C dX12_load_207 rfl ?_
          exact j_lv [1, 2, 0] rfl (is18 _ (Option.some.inj hr).symm)
        refine j_lv [1, 2, 3, 0] rfl (it_J (J := (fun s29 => Jd G 0 0 nx s29.2 127 [(0, .ref this), (2, .int x6), (3, .int s18.1), (4, .int s29.1)] [])) ?_ ho30)
        clear ho30
        intro s29 r31 hr is29 es29
        refine j_iload (q := 3) (pc' := 129) C dX12_load_127 rfl rfl ?_
        refine j_aload_n (q := 0) (pc' := 130) C dX12_load_129 rfl rfl rfl ?_
        obtain ⟨x32, hx32, hr⟩ := ob hr
        refine j_getA (pc' := 133) C dX12_load_130 fl_X12_8 hx32 rfl ?_
        refine j_iconst (v := 3) (pc' := 134) C dX12_load_133 kI_3 rfl ?_
        obtain ⟨x33, hx33, hr⟩ := ob hr
        refine j_iald (pc' := 135) C dX12_load_134 hx33 rfl ?_
        refine j_ic_ge (tgt := 204) (pc' := 138) C dX12_load_135 rfl rfl (fun hc => ?_) (fun hc => ?_)
        · have hr := ifT hc hr
          clear hc
          have hr := es29 _ (Option.some.inj hr).symm
          subst hr
          exact j_lv [0, 1, 2] rfl ko30
        · have hr := ifF hc hr
          clear hc
          refine j_iconst (v := 0) (pc' := 139) C dX12_load_138 kI_0 rfl ?_
          refine j_istore (lv' := [(5, .int 0), (0, .ref this), (2, .int x6), (3, .int s18.1), (4, .int s29.1)]) (pc' := 141) C dX12_load_139 (by decide) rfl rfl ?_
          obtain ⟨o35, ho35, ro35⟩ := ob hr
          have ko35 : Jd G 0 0 nx o35.2 198 [(0, .ref this), (2, .int x6), (3, .int s18.1), (4, .int s29.1)] [] := by
            have hr := ro35
            refine j_iinc (q := 3) (v := 1) (lv' := [(4, .int (s29.1 + 1)), (0, .ref this), (2, .int x6), (3, .int s18.1)]) (pc' := 201) C dX12_load_198 rfl kI_1 (by decide) rfl rfl ?_
            refine j_goto (tgt := 127) C dX12_load_201 rfl ?_
            exact j_lv [1, 2, 3, 0] rfl (is29 _ (Option.some.inj hr).symm)
          refine j_lv [1, 2, 3, 4, 0] rfl (it_J (J := (fun s34 => Jd G 0 0 nx s34.2 141 [(0, .ref this), (2, .int x6), (3, .int s18.1), (4, .int s29.1), (5, .int s34.1)] [])) ?_ ho35)
          clear ho35
          intro s34 r36 hr is34 es34
          refine j_iload (q := 4) (pc' := 143) C dX12_load_141 rfl rfl ?_
          refine j_iconst (v := 4) (pc' := 144) C dX12_load_143 kI_4 rfl ?_
          refine j_ic_ge (tgt := 198) (pc' := 147) C dX12_load_144 rfl rfl (fun hc => ?_) (fun hc => ?_)
          · have hr := ifT hc hr
            clear hc
            have hr := es34 _ (Option.some.inj hr).symm
            subst hr
            exact j_lv [0, 1, 2, 3] rfl ko35
          · have hr := ifF hc hr
            clear hc
            refine j_aload_n (q := 0) (pc' := 148) C dX12_load_147 rfl rfl rfl ?_
            obtain ⟨x37, hx37, hr⟩ := ob hr
            refine j_getA (pc' := 151) C dX12_load_148 fl_X12_27 hx37 rfl ?_
            refine j_iload_n (q := 1) (pc' := 152) C dX12_load_151 rfl rfl rfl ?_
            refine j_iconst (v := 5) (pc' := 153) C dX12_load_152 kI_5 rfl ?_
            refine j_iadd (pc' := 154) C dX12_load_153 rfl ?_
            refine j_iconst (v := 4) (pc' := 155) C dX12_load_154 kI_4 rfl ?_
            refine j_iload (q := 3) (pc' := 157) C dX12_load_155 rfl rfl ?_
            refine j_imul (pc' := 158) C dX12_load_157 rfl ?_
            refine j_iadd (pc' := 159) C dX12_load_158 rfl ?_
            refine j_iload (q := 4) (pc' := 161) C dX12_load_159 rfl rfl ?_
            refine j_iadd (pc' := 162) C dX12_load_161 rfl ?_
            obtain ⟨x38, hx38, hr⟩ := ob hr
            refine j_lald (pc' := 163) C dX12_load_162 hx38 rfl ?_
            refine j_iload_n (q := 2) (pc' := 164) C dX12_load_163 rfl rfl rfl ?_
            obtain ⟨x39, hx39, hr⟩ := ob hr
            refine j_callS (As := [.long x38, .int s18.1]) (rest := []) (st1 := [.int x39]) (pc' := 167) C wm_1635 (c_X12_has (nx := nx) (ce := s34.2) hx39) yw_X12_has wm_1634 rfl rfl (by decide) ⟨by decide, by decide⟩ dX12_load_164 rfl rfl ?_
            refine j_if_eq (tgt := 192) (pc' := 170) C dX12_load_167 rfl rfl (fun hc => ?_) (fun hc => ?_)
            · have hr := ifT hc hr
              clear hc
              refine j_iinc (q := 4) (v := 1) (lv' := [(5, .int (s34.1 + 1)), (0, .ref this), (2, .int x6), (3, .int s18.1), (4, .int s29.1)]) (pc' := 195) C dX12_load_192 rfl kI_1 (by decide) rfl rfl ?_
              refine j_goto (tgt := 141) C dX12_load_195 rfl ?_
              exact j_lv [1, 2, 3, 4, 0] rfl (is34 _ (Option.some.inj hr).symm)
            · have hr := ifF hc hr
              clear hc
              refine j_aload_n (q := 0) (pc' := 171) C dX12_load_170 rfl rfl rfl ?_
              obtain ⟨x40, hx40, hr⟩ := ob hr
              refine j_getA (pc' := 174) C dX12_load_171 fl_X12_8 hx40 rfl ?_
              refine j_bipush (v := 28) (pc' := 176) C dX12_load_174 kB_28 rfl ?_
              refine j_iload_n (q := 2) (pc' := 177) C dX12_load_176 rfl rfl rfl ?_
              refine j_iadd (pc' := 178) C dX12_load_177 rfl ?_
              refine j_dup2 (pc' := 179) C dX12_load_178 rfl rfl rfl ?_
              obtain ⟨x41, hx41, hr⟩ := ob hr
              refine j_iald (pc' := 180) C dX12_load_179 hx41 rfl ?_
              refine j_iconst (v := 1) (pc' := 181) C dX12_load_180 kI_1 rfl ?_
              refine j_bipush (v := 6) (pc' := 183) C dX12_load_181 kB_6 rfl ?_
              refine j_iload (q := 4) (pc' := 185) C dX12_load_183 rfl rfl ?_
              refine j_imul (pc' := 186) C dX12_load_185 rfl ?_
              refine j_iload (q := 3) (pc' := 188) C dX12_load_186 rfl rfl ?_
              refine j_iadd (pc' := 189) C dX12_load_188 rfl ?_
              refine j_ishl (pc' := 190) C dX12_load_189 rfl ?_
              refine j_ior (pc' := 191) C dX12_load_190 rfl ?_
              obtain ⟨c42, hc42, hr⟩ := ob hr
              refine j_iast (pc' := 192) C dX12_load_191 hc42 rfl ?_
              refine j_iinc (q := 4) (v := 1) (lv' := [(5, .int (s34.1 + 1)), (0, .ref this), (2, .int x6), (3, .int s18.1), (4, .int s29.1)]) (pc' := 195) C dX12_load_192 rfl kI_1 (by decide) rfl rfl ?_
              refine j_goto (tgt := 141) C dX12_load_195 rfl ?_
              exact j_lv [1, 2, 3, 4, 0] rfl (is34 _ (Option.some.inj hr).symm)
    refine j_lv [2, 1, 0] rfl (it_J (J := (fun s15 => Jd G 0 0 nx s15.2 60 [(0, .ref this), (2, .int x6), (3, .int s15.1)] [])) ?_ ho16)
    clear ho16
    intro s15 r17 hr is15 es15
    refine j_iload_n (q := 2) (pc' := 61) C dX12_load_60 rfl rfl rfl ?_
    refine j_iconst (v := 4) (pc' := 62) C dX12_load_61 kI_4 rfl ?_
    refine j_ic_gt (tgt := 104) (pc' := 65) C dX12_load_62 rfl rfl (fun hc => ?_) (fun hc => ?_)
    · have hr := ifT hc hr
      clear hc
      have hr := es15 _ (Option.some.inj hr).symm
      subst hr
      exact j_lv [0, 1] rfl ko16
    · have hr := ifF hc hr
      clear hc
      refine j_aload_n (q := 0) (pc' := 66) C dX12_load_65 rfl rfl rfl ?_
      refine j_iload_n (q := 2) (pc' := 67) C dX12_load_66 rfl rfl rfl ?_
      refine j_iload_n (q := 2) (pc' := 68) C dX12_load_67 rfl rfl rfl ?_
      refine j_aload_n (q := 0) (pc' := 69) C dX12_load_68 rfl rfl rfl ?_
      obtain ⟨x43, hx43, hr⟩ := ob hr
      refine j_getA (pc' := 72) C dX12_load_69 fl_X12_8 hx43 rfl ?_
      refine j_bipush (v := 7) (pc' := 74) C dX12_load_72 kB_7 rfl ?_
      obtain ⟨x44, hx44, hr⟩ := ob hr
      refine j_iald (pc' := 75) C dX12_load_74 hx44 rfl ?_
      obtain ⟨j45, hj45, rj45⟩ := ob hr
      have kj45 : Jd G 0 0 nx s15.2 95 [(0, .ref this), (2, .int x6), (3, .int s15.1)] [.long j45, .int s15.1, .ref this] := by
        have hr := rj45
        obtain ⟨z46, hz46, hr⟩ := ob hr
        obtain ⟨q47, hq47, hr⟩ := ob hr
        obtain ⟨fhz46, hz46⟩ := rcv_sp hz46
        refine j_callV (ci := 9) (As := [.int s15.1, .long j45]) (rest := []) (st1 := []) (pc' := 98) C ⟨wm_1394, wm_36⟩ rfl hz46 (c_X12_putSet (nx := nx) hq47) yw_X12_putSet wm_1392 rfl rfl (by decide) ⟨by decide, by decide⟩ dX12_load_95 rfl rfl ?_
        refine j_iinc (q := 2) (v := 1) (lv' := [(3, .int (s15.1 + 1)), (0, .ref this), (2, .int x6)]) (pc' := 101) C dX12_load_98 rfl kI_1 (by decide) rfl rfl ?_
        refine j_goto (tgt := 60) C dX12_load_101 rfl ?_
        exact j_lv [1, 2, 0] rfl (is15 _ (Option.some.inj hr).symm)
      clear rj45
      have hr := hj45
      clear hj45
      refine j_ic_gt (tgt := 94) (pc' := 78) C dX12_load_75 rfl rfl (fun hc => ?_) (fun hc => ?_)
      · have hr := ifT hc hr
        clear hc
        refine j_lconst (v := 0) (pc' := 95) C dX12_load_94 kL_0 rfl ?_
        have hr := Option.some.inj hr
        subst hr
        exact j_lv [0, 1, 2] rfl kj45
      · have hr := ifF hc hr
        clear hc
        refine j_aload_n (q := 0) (pc' := 79) C dX12_load_78 rfl rfl rfl ?_
        obtain ⟨x48, hx48, hr⟩ := ob hr
        refine j_getA (pc' := 82) C dX12_load_79 fl_X12_27 hx48 rfl ?_
        refine j_iload_n (q := 1) (pc' := 83) C dX12_load_82 rfl rfl rfl ?_
        refine j_iload_n (q := 2) (pc' := 84) C dX12_load_83 rfl rfl rfl ?_
        refine j_iadd (pc' := 85) C dX12_load_84 rfl ?_
        obtain ⟨x49, hx49, hr⟩ := ob hr
        refine j_lald (pc' := 86) C dX12_load_85 hx49 rfl ?_
        refine j_aload_n (q := 0) (pc' := 87) C dX12_load_86 rfl rfl rfl ?_
        obtain ⟨z50, hz50, hr⟩ := ob hr
        obtain ⟨x51, hx51, hr⟩ := ob hr
        obtain ⟨fhz50, hz50⟩ := rcv_sp hz50
        refine j_callV (ci := 9) (As := []) (rest := [.long x49, .int s15.1, .ref this]) (st1 := [.long x51, .long x49, .int s15.1, .ref this]) (pc' := 90) C ⟨wm_1625, wm_56⟩ rfl hz50 (c_X12_all (nx := nx) hx51) yw_X12_all wm_1623 rfl rfl (by decide) ⟨by decide, by decide⟩ dX12_load_87 rfl rfl ?_
        refine j_land (pc' := 91) C dX12_load_90 rfl ?_
        refine j_goto (tgt := 95) C dX12_load_91 rfl ?_
        have hr := Option.some.inj hr
        subst hr
        exact j_lv [0, 1, 2] rfl kj45
  · have hr := ifT hc hr
    clear hc
    refine j_iconst (v := -1) (pc' := 17) C dX12_load_16 kI_m1 rfl ?_
    have hr := Option.some.inj hr
    subst hr
    exact j_iret C hq hret dX12_load_17
def m_X12_drawn (ce : Ce) (this : Nat) (p1 : Int32) (p2 : Int32) : Option (Int32 × Ce) :=
  (m_X12_isIn p1 0 9999).bind fun x1 =>
  if x1 = 0 then
    some (0, ce)
  else
    (m_X12_isIn p2 1 6).bind fun x2 =>
    if x2 = 0 then
      some (0, ce)
    else
      (rcv ce 9 this).bind fun z3 =>
      (m_X12_keep ce this).bind fun q4 =>
      (gA q4.2 9 0 this).bind fun x5 =>
      (sI q4.2 x5 3 p2).bind fun c6 =>
      (gA c6 9 0 this).bind fun x7 =>
      (sI c6 x7 7 1).bind fun c8 =>
      (it (fun s9 =>
        (rcv s9.2 9 this).bind fun z20 =>
        (m_X12_states s9.2 this).bind fun x21 =>
        if x21 ≤ s9.1.2 then
          some (Sum.inr ((), s9.2))
        else
          (gA s9.2 9 0 this).bind fun x22 =>
          (sI s9.2 x22 (28 + s9.1.2) 0).bind fun c23 =>
          (it (fun s24 =>
            if 4 ≤ s24.1.2 then
              some (Sum.inr (s24.1.1, s24.2))
            else
              (nz 31139).bind fun z27 =>
              (gA s24.2 9 0 this).bind fun x28 =>
              (aI s24.2 x28 (28 + s9.1.2)).bind fun x29 =>
              (nz 7).bind fun z30 =>
              (rcv s24.2 9 this).bind fun z31 =>
              (m_X12_states s24.2 this).bind fun x32 =>
              (nz x32).bind fun z33 =>
              (sI s24.2 x28 (28 + s9.1.2) (x29 ||| ((rm32 ((rm32 ((s24.1.1 * 773) + 641) 31139) / 7) x32) <<< ((6 * s24.1.2) &&& 31)))).bind fun c34 =>
              some (Sum.inl (((rm32 ((s24.1.1 * 773) + 641) 31139), (s24.1.2 + 1)), c34))
          ) FU ((s9.1.1, 0), c23)).bind fun o25 =>
          some (Sum.inl ((o25.1, (s9.1.2 + 1)), o25.2))
      ) FU ((p1, 0), c8)).bind fun o10 =>
      (rcv o10.2 9 this).bind fun z12 =>
      (m_X12_putSet o10.2 this 0 1).bind fun q13 =>
      (rcv q13.2 9 this).bind fun z14 =>
      (m_X12_states q13.2 this).bind fun x15 =>
      (rcv q13.2 9 this).bind fun z16 =>
      (m_X12_putSet q13.2 this 1 (1 <<< (Int32.toInt64 (x15 - 1) &&& 63))).bind fun q17 =>
      (rcv q17.2 9 this).bind fun z18 =>
      (m_X12_anew q17.2 this).bind fun q19 =>
      some (1, q19.2)
set_option maxRecDepth 100000 in
set_option maxHeartbeats 4000000 in
theorem c_X12_drawn {nx : Nat} {ce : Ce} {this : Nat} {p1 : Int32} {p2 : Int32} {q : Int32 × Ce} (hr : m_X12_drawn ce this p1 p2 = some q) : Ct yX12_drawn cX12_drawn 6 (some .boolean) 2 43 0 0 [.ref this, .int p1, .int p2] nx ce (some (.int q.1)) q.2 := by
  unfold m_X12_drawn at hr
  refine ct_of (by decide) (by decide) ?_
  intro G C hq hret hin
  show Jd G 0 0 nx ce 0 [(0, .ref this), (1, .int p1), (2, .int p2)] []
  refine j_iload_n (q := 1) (pc' := 1) C dX12_drawn_0 rfl rfl rfl ?_
  refine j_iconst (v := 0) (pc' := 2) C dX12_drawn_1 kI_0 rfl ?_
  refine j_sipush (v := 9999) (pc' := 5) C dX12_drawn_2 kS_9999 rfl ?_
  obtain ⟨x1, hx1, hr⟩ := ob hr
  refine j_callS (As := [.int p1, .int 0, .int 9999]) (rest := []) (st1 := [.int x1]) (pc' := 8) C wm_1519 (c_X12_isIn (nx := nx) (ce := ce) hx1) yw_X12_isIn wm_1518 rfl rfl (by decide) ⟨by decide, by decide⟩ dX12_drawn_5 rfl rfl ?_
  refine j_if_eq (tgt := 21) (pc' := 11) C dX12_drawn_8 rfl rfl (fun hc => ?_) (fun hc => ?_)
  · have hr := ifT hc hr
    clear hc
    refine j_iconst (v := 0) (pc' := 22) C dX12_drawn_21 kI_0 rfl ?_
    have hr := Option.some.inj hr
    subst hr
    exact j_zret C hq hret rfl dX12_drawn_22
  · have hr := ifF hc hr
    clear hc
    refine j_iload_n (q := 2) (pc' := 12) C dX12_drawn_11 rfl rfl rfl ?_
    refine j_iconst (v := 1) (pc' := 13) C dX12_drawn_12 kI_1 rfl ?_
    refine j_bipush (v := 6) (pc' := 15) C dX12_drawn_13 kB_6 rfl ?_
    obtain ⟨x2, hx2, hr⟩ := ob hr
    refine j_callS (As := [.int p2, .int 1, .int 6]) (rest := []) (st1 := [.int x2]) (pc' := 18) C wm_1519 (c_X12_isIn (nx := nx) (ce := ce) hx2) yw_X12_isIn wm_1518 rfl rfl (by decide) ⟨by decide, by decide⟩ dX12_drawn_15 rfl rfl ?_
    refine j_if_ne (tgt := 23) (pc' := 21) C dX12_drawn_18 rfl rfl (fun hc => ?_) (fun hc => ?_)
    · have hr := ifF hc hr
      clear hc
      refine j_aload_n (q := 0) (pc' := 24) C dX12_drawn_23 rfl rfl rfl ?_
      obtain ⟨z3, hz3, hr⟩ := ob hr
      obtain ⟨q4, hq4, hr⟩ := ob hr
      obtain ⟨fhz3, hz3⟩ := rcv_sp hz3
      refine j_callV (ci := 9) (As := []) (rest := []) (st1 := []) (pc' := 27) C ⟨wm_1618, wm_55⟩ rfl hz3 (c_X12_keep (nx := nx) hq4) yw_X12_keep wm_1616 rfl rfl (by decide) ⟨by decide, by decide⟩ dX12_drawn_24 rfl rfl ?_
      refine j_aload_n (q := 0) (pc' := 28) C dX12_drawn_27 rfl rfl rfl ?_
      obtain ⟨x5, hx5, hr⟩ := ob hr
      refine j_getA (pc' := 31) C dX12_drawn_28 fl_X12_8 hx5 rfl ?_
      refine j_iconst (v := 3) (pc' := 32) C dX12_drawn_31 kI_3 rfl ?_
      refine j_iload_n (q := 2) (pc' := 33) C dX12_drawn_32 rfl rfl rfl ?_
      obtain ⟨c6, hc6, hr⟩ := ob hr
      refine j_iast (pc' := 34) C dX12_drawn_33 hc6 rfl ?_
      refine j_aload_n (q := 0) (pc' := 35) C dX12_drawn_34 rfl rfl rfl ?_
      obtain ⟨x7, hx7, hr⟩ := ob hr
      refine j_getA (pc' := 38) C dX12_drawn_35 fl_X12_8 hx7 rfl ?_
      refine j_bipush (v := 7) (pc' := 40) C dX12_drawn_38 kB_7 rfl ?_
      refine j_iconst (v := 1) (pc' := 41) C dX12_drawn_40 kI_1 rfl ?_
      obtain ⟨c8, hc8, hr⟩ := ob hr
      refine j_iast (pc' := 42) C dX12_drawn_41 hc8 rfl ?_
      refine j_iload_n (q := 1) (pc' := 43) C dX12_drawn_42 rfl rfl rfl ?_
      refine j_istore_n (lv' := [(3, .int p1), (0, .ref this), (1, .int p1), (2, .int p2)]) (pc' := 44) C dX12_drawn_43 rfl (by decide) rfl rfl ?_
      refine j_iconst (v := 0) (pc' := 45) C dX12_drawn_44 kI_0 rfl ?_
      refine j_istore (lv' := [(4, .int 0), (3, .int p1), (0, .ref this), (1, .int p1), (2, .int p2)]) (pc' := 47) C dX12_drawn_45 (by decide) rfl rfl ?_
      obtain ⟨o10, ho10, ro10⟩ := ob hr
      have ko10 : Jd G 0 0 nx o10.2 130 [(0, .ref this)] [] := by
        have hr := ro10
        refine j_aload_n (q := 0) (pc' := 131) C dX12_drawn_130 rfl rfl rfl ?_
        refine j_iconst (v := 0) (pc' := 132) C dX12_drawn_131 kI_0 rfl ?_
        refine j_lconst (v := 1) (pc' := 133) C dX12_drawn_132 kL_1 rfl ?_
        obtain ⟨z12, hz12, hr⟩ := ob hr
        obtain ⟨q13, hq13, hr⟩ := ob hr
        obtain ⟨fhz12, hz12⟩ := rcv_sp hz12
        refine j_callV (ci := 9) (As := [.int 0, .long 1]) (rest := []) (st1 := []) (pc' := 136) C ⟨wm_1394, wm_36⟩ rfl hz12 (c_X12_putSet (nx := nx) hq13) yw_X12_putSet wm_1392 rfl rfl (by decide) ⟨by decide, by decide⟩ dX12_drawn_133 rfl rfl ?_
        refine j_aload_n (q := 0) (pc' := 137) C dX12_drawn_136 rfl rfl rfl ?_
        refine j_iconst (v := 1) (pc' := 138) C dX12_drawn_137 kI_1 rfl ?_
        refine j_lconst (v := 1) (pc' := 139) C dX12_drawn_138 kL_1 rfl ?_
        refine j_aload_n (q := 0) (pc' := 140) C dX12_drawn_139 rfl rfl rfl ?_
        obtain ⟨z14, hz14, hr⟩ := ob hr
        obtain ⟨x15, hx15, hr⟩ := ob hr
        obtain ⟨fhz14, hz14⟩ := rcv_sp hz14
        refine j_callV (ci := 9) (As := []) (rest := [.long 1, .int 1, .ref this]) (st1 := [.int x15, .long 1, .int 1, .ref this]) (pc' := 143) C ⟨wm_1632, wm_57⟩ rfl hz14 (c_X12_states (nx := nx) hx15) yw_X12_states wm_1630 rfl rfl (by decide) ⟨by decide, by decide⟩ dX12_drawn_140 rfl rfl ?_
        refine j_iconst (v := 1) (pc' := 144) C dX12_drawn_143 kI_1 rfl ?_
        refine j_isub (pc' := 145) C dX12_drawn_144 rfl ?_
        refine j_lshl (pc' := 146) C dX12_drawn_145 rfl ?_
        obtain ⟨z16, hz16, hr⟩ := ob hr
        obtain ⟨q17, hq17, hr⟩ := ob hr
        obtain ⟨fhz16, hz16⟩ := rcv_sp hz16
        refine j_callV (ci := 9) (As := [.int 1, .long (1 <<< (Int32.toInt64 (x15 - 1) &&& 63))]) (rest := []) (st1 := []) (pc' := 149) C ⟨wm_1394, wm_36⟩ rfl hz16 (c_X12_putSet (nx := nx) hq17) yw_X12_putSet wm_1392 rfl rfl (by decide) ⟨by decide, by decide⟩ dX12_drawn_146 rfl rfl ?_
        refine j_aload_n (q := 0) (pc' := 150) C dX12_drawn_149 rfl rfl rfl ?_
        obtain ⟨z18, hz18, hr⟩ := ob hr
        obtain ⟨q19, hq19, hr⟩ := ob hr
        obtain ⟨fhz18, hz18⟩ := rcv_sp hz18
        refine j_callV (ci := 9) (As := []) (rest := []) (st1 := []) (pc' := 153) C ⟨wm_1398, wm_37⟩ rfl hz18 (c_X12_anew (nx := nx) hq19) yw_X12_anew wm_1396 rfl rfl (by decide) ⟨by decide, by decide⟩ dX12_drawn_150 rfl rfl ?_
        refine j_iconst (v := 1) (pc' := 154) C dX12_drawn_153 kI_1 rfl ?_
        have hr := Option.some.inj hr
        subst hr
        exact j_zret C hq hret rfl dX12_drawn_154
      refine j_lv [2, 1, 0] rfl (it_J (J := (fun s9 => Jd G 0 0 nx s9.2 47 [(0, .ref this), (3, .int s9.1.1), (4, .int s9.1.2)] [])) ?_ ho10)
      clear ho10
      intro s9 r11 hr is9 es9
      refine j_iload (q := 2) (pc' := 49) C dX12_drawn_47 rfl rfl ?_
      refine j_aload_n (q := 0) (pc' := 50) C dX12_drawn_49 rfl rfl rfl ?_
      obtain ⟨z20, hz20, hr⟩ := ob hr
      obtain ⟨x21, hx21, hr⟩ := ob hr
      obtain ⟨fhz20, hz20⟩ := rcv_sp hz20
      refine j_callV (ci := 9) (As := []) (rest := [.int s9.1.2]) (st1 := [.int x21, .int s9.1.2]) (pc' := 53) C ⟨wm_1632, wm_57⟩ rfl hz20 (c_X12_states (nx := nx) hx21) yw_X12_states wm_1630 rfl rfl (by decide) ⟨by decide, by decide⟩ dX12_drawn_50 rfl rfl ?_
      refine j_ic_ge (tgt := 130) (pc' := 56) C dX12_drawn_53 rfl rfl (fun hc => ?_) (fun hc => ?_)
      · have hr := ifT hc hr
        clear hc
        have hr := es9 _ (Option.some.inj hr).symm
        subst hr
        exact j_lv [0] rfl ko10
      · have hr := ifF hc hr
        clear hc
        refine j_aload_n (q := 0) (pc' := 57) C dX12_drawn_56 rfl rfl rfl ?_
        obtain ⟨x22, hx22, hr⟩ := ob hr
        refine j_getA (pc' := 60) C dX12_drawn_57 fl_X12_8 hx22 rfl ?_
        refine j_bipush (v := 28) (pc' := 62) C dX12_drawn_60 kB_28 rfl ?_
        refine j_iload (q := 2) (pc' := 64) C dX12_drawn_62 rfl rfl ?_
        refine j_iadd (pc' := 65) C dX12_drawn_64 rfl ?_
        refine j_iconst (v := 0) (pc' := 66) C dX12_drawn_65 kI_0 rfl ?_
        obtain ⟨c23, hc23, hr⟩ := ob hr
        refine j_iast (pc' := 67) C dX12_drawn_66 hc23 rfl ?_
        refine j_iconst (v := 0) (pc' := 68) C dX12_drawn_67 kI_0 rfl ?_
        refine j_istore (lv' := [(5, .int 0), (0, .ref this), (3, .int s9.1.1), (4, .int s9.1.2)]) (pc' := 70) C dX12_drawn_68 (by decide) rfl rfl ?_
        obtain ⟨o25, ho25, ro25⟩ := ob hr
        have ko25 : Jd G 0 0 nx o25.2 124 [(0, .ref this), (3, .int o25.1), (4, .int s9.1.2)] [] := by
          have hr := ro25
          refine j_iinc (q := 2) (v := 1) (lv' := [(4, .int (s9.1.2 + 1)), (0, .ref this), (3, .int o25.1)]) (pc' := 127) C dX12_drawn_124 rfl kI_1 (by decide) rfl rfl ?_
          refine j_goto (tgt := 47) C dX12_drawn_127 rfl ?_
          exact j_lv [1, 2, 0] rfl (is9 _ (Option.some.inj hr).symm)
        refine j_lv [1, 2, 3, 0] rfl (it_J (J := (fun s24 => Jd G 0 0 nx s24.2 70 [(0, .ref this), (3, .int s24.1.1), (4, .int s9.1.2), (5, .int s24.1.2)] [])) ?_ ho25)
        clear ho25
        intro s24 r26 hr is24 es24
        refine j_iload (q := 3) (pc' := 72) C dX12_drawn_70 rfl rfl ?_
        refine j_iconst (v := 4) (pc' := 73) C dX12_drawn_72 kI_4 rfl ?_
        refine j_ic_ge (tgt := 124) (pc' := 76) C dX12_drawn_73 rfl rfl (fun hc => ?_) (fun hc => ?_)
        · have hr := ifT hc hr
          clear hc
          have hr := es24 _ (Option.some.inj hr).symm
          subst hr
          exact j_lv [0, 1, 2] rfl ko25
        · have hr := ifF hc hr
          clear hc
          refine j_iload_n (q := 1) (pc' := 77) C dX12_drawn_76 rfl rfl rfl ?_
          refine j_sipush (v := 773) (pc' := 80) C dX12_drawn_77 kS_773 rfl ?_
          refine j_imul (pc' := 81) C dX12_drawn_80 rfl ?_
          refine j_sipush (v := 641) (pc' := 84) C dX12_drawn_81 kS_641 rfl ?_
          refine j_iadd (pc' := 85) C dX12_drawn_84 rfl ?_
          refine j_sipush (v := 31139) (pc' := 88) C dX12_drawn_85 kS_31139 rfl ?_
          obtain ⟨z27, hz27, hr⟩ := ob hr
          refine j_irem (pc' := 89) C dX12_drawn_88 hz27 rfl ?_
          refine j_istore_n (lv' := [(3, .int (rm32 ((s24.1.1 * 773) + 641) 31139)), (0, .ref this), (4, .int s9.1.2), (5, .int s24.1.2)]) (pc' := 90) C dX12_drawn_89 rfl (by decide) rfl rfl ?_
          refine j_aload_n (q := 1) (pc' := 91) C dX12_drawn_90 rfl rfl rfl ?_
          obtain ⟨x28, hx28, hr⟩ := ob hr
          refine j_getA (pc' := 94) C dX12_drawn_91 fl_X12_8 hx28 rfl ?_
          refine j_bipush (v := 28) (pc' := 96) C dX12_drawn_94 kB_28 rfl ?_
          refine j_iload (q := 2) (pc' := 98) C dX12_drawn_96 rfl rfl ?_
          refine j_iadd (pc' := 99) C dX12_drawn_98 rfl ?_
          refine j_dup2 (pc' := 100) C dX12_drawn_99 rfl rfl rfl ?_
          obtain ⟨x29, hx29, hr⟩ := ob hr
          refine j_iald (pc' := 101) C dX12_drawn_100 hx29 rfl ?_
          refine j_iload_n (q := 0) (pc' := 102) C dX12_drawn_101 rfl rfl rfl ?_
          refine j_bipush (v := 7) (pc' := 104) C dX12_drawn_102 kB_7 rfl ?_
          obtain ⟨z30, hz30, hr⟩ := ob hr
          refine j_idiv (pc' := 105) C dX12_drawn_104 hz30 rfl ?_
          refine j_aload_n (q := 1) (pc' := 106) C dX12_drawn_105 rfl rfl rfl ?_
          obtain ⟨z31, hz31, hr⟩ := ob hr
          obtain ⟨x32, hx32, hr⟩ := ob hr
          obtain ⟨fhz31, hz31⟩ := rcv_sp hz31
          refine j_callV (ci := 9) (As := []) (rest := [.int ((rm32 ((s24.1.1 * 773) + 641) 31139) / 7), .int x29, .int (28 + s9.1.2), .ref x28]) (st1 := [.int x32, .int ((rm32 ((s24.1.1 * 773) + 641) 31139) / 7), .int x29, .int (28 + s9.1.2), .ref x28]) (pc' := 109) C ⟨wm_1632, wm_57⟩ rfl hz31 (c_X12_states (nx := nx) hx32) yw_X12_states wm_1630 rfl rfl (by decide) ⟨by decide, by decide⟩ dX12_drawn_106 rfl rfl ?_
          obtain ⟨z33, hz33, hr⟩ := ob hr
          refine j_irem (pc' := 110) C dX12_drawn_109 hz33 rfl ?_
          refine j_bipush (v := 6) (pc' := 112) C dX12_drawn_110 kB_6 rfl ?_
          refine j_iload (q := 3) (pc' := 114) C dX12_drawn_112 rfl rfl ?_
          refine j_imul (pc' := 115) C dX12_drawn_114 rfl ?_
          refine j_ishl (pc' := 116) C dX12_drawn_115 rfl ?_
          refine j_ior (pc' := 117) C dX12_drawn_116 rfl ?_
          obtain ⟨c34, hc34, hr⟩ := ob hr
          refine j_iast (pc' := 118) C dX12_drawn_117 hc34 rfl ?_
          refine j_iinc (q := 3) (v := 1) (lv' := [(5, .int (s24.1.2 + 1)), (3, .int (rm32 ((s24.1.1 * 773) + 641) 31139)), (0, .ref this), (4, .int s9.1.2)]) (pc' := 121) C dX12_drawn_118 rfl kI_1 (by decide) rfl rfl ?_
          refine j_goto (tgt := 70) C dX12_drawn_121 rfl ?_
          exact j_lv [2, 1, 3, 0] rfl (is24 _ (Option.some.inj hr).symm)
    · have hr := ifT hc hr
      clear hc
      refine j_iconst (v := 0) (pc' := 22) C dX12_drawn_21 kI_0 rfl ?_
      have hr := Option.some.inj hr
      subst hr
      exact j_zret C hq hret rfl dX12_drawn_22
def m_X12_frameOf (ce : Ce) (this : Nat) (p1 : Int32) : Option (Int32) :=
  (gA ce 9 0 this).bind fun x1 =>
  (aI ce x1 (104 + p1)).bind fun x2 =>
  some (x2 >>> (12 &&& 31))
set_option maxRecDepth 100000 in
set_option maxHeartbeats 4000000 in
theorem c_X12_frameOf {nx : Nat} {ce : Ce} {this : Nat} {p1 : Int32} {q : Int32} (hr : m_X12_frameOf ce this p1 = some q) : Ct yX12_frameOf cX12_frameOf 2 (some .int) 0 0 0 0 [.ref this, .int p1] nx ce (some (.int q)) ce := by
  unfold m_X12_frameOf at hr
  refine ct_of (by decide) (by decide) ?_
  intro G C hq hret hin
  show Jd G 0 0 nx ce 0 [(0, .ref this), (1, .int p1)] []
  refine j_aload_n (q := 0) (pc' := 1) C dX12_frameOf_0 rfl rfl rfl ?_
  obtain ⟨x1, hx1, hr⟩ := ob hr
  refine j_getA (pc' := 4) C dX12_frameOf_1 fl_X12_8 hx1 rfl ?_
  refine j_bipush (v := 104) (pc' := 6) C dX12_frameOf_4 kB_104 rfl ?_
  refine j_iload_n (q := 1) (pc' := 7) C dX12_frameOf_6 rfl rfl rfl ?_
  refine j_iadd (pc' := 8) C dX12_frameOf_7 rfl ?_
  obtain ⟨x2, hx2, hr⟩ := ob hr
  refine j_iald (pc' := 9) C dX12_frameOf_8 hx2 rfl ?_
  refine j_bipush (v := 12) (pc' := 11) C dX12_frameOf_9 kB_12 rfl ?_
  refine j_ishr (pc' := 12) C dX12_frameOf_11 rfl ?_
  have hr := Option.some.inj hr
  subst hr
  exact j_iret C hq hret dX12_frameOf_12
def m_X12_highest (ce : Ce) (this : Nat) : Option (Int32) :=
  (it (fun s1 =>
    (gA ce 9 0 this).bind fun x4 =>
    (aI ce x4 17).bind fun x5 =>
    if x5 ≤ s1.2 then
      some (Sum.inr s1.1)
    else
      (rcv ce 9 this).bind fun z6 =>
      (m_X12_frameOf ce this s1.2).bind fun x7 =>
      if x7 ≤ s1.1 then
        some (Sum.inl (s1.1, (s1.2 + 1)))
      else
        (rcv ce 9 this).bind fun z8 =>
        (m_X12_frameOf ce this s1.2).bind fun x9 =>
        some (Sum.inl (x9, (s1.2 + 1)))
  ) FU (1, 0)).bind fun o2 =>
  some o2
set_option maxRecDepth 100000 in
set_option maxHeartbeats 4000000 in
theorem c_X12_highest {nx : Nat} {ce : Ce} {this : Nat} {q : Int32} (hr : m_X12_highest ce this = some q) : Ct yX12_highest cX12_highest 3 (some .int) 1 21 0 0 [.ref this] nx ce (some (.int q)) ce := by
  unfold m_X12_highest at hr
  refine ct_of (by decide) (by decide) ?_
  intro G C hq hret hin
  show Jd G 0 0 nx ce 0 [(0, .ref this)] []
  refine j_iconst (v := 1) (pc' := 1) C dX12_highest_0 kI_1 rfl ?_
  refine j_istore_n (lv' := [(1, .int 1), (0, .ref this)]) (pc' := 2) C dX12_highest_1 rfl (by decide) rfl rfl ?_
  refine j_iconst (v := 0) (pc' := 3) C dX12_highest_2 kI_0 rfl ?_
  refine j_istore_n (lv' := [(2, .int 0), (1, .int 1), (0, .ref this)]) (pc' := 4) C dX12_highest_3 rfl (by decide) rfl rfl ?_
  obtain ⟨o2, ho2, ro2⟩ := ob hr
  have ko2 : Jd G 0 0 nx ce 40 [(1, .int o2)] [] := by
    have hr := ro2
    refine j_iload_n (q := 0) (pc' := 41) C dX12_highest_40 rfl rfl rfl ?_
    have hr := Option.some.inj hr
    subst hr
    exact j_iret C hq hret dX12_highest_41
  refine j_lv [2, 1, 0] rfl (it_J (J := (fun s1 => Jd G 0 0 nx ce 4 [(0, .ref this), (1, .int s1.1), (2, .int s1.2)] [])) ?_ ho2)
  clear ho2
  intro s1 r3 hr is1 es1
  refine j_iload_n (q := 2) (pc' := 5) C dX12_highest_4 rfl rfl rfl ?_
  refine j_aload_n (q := 0) (pc' := 6) C dX12_highest_5 rfl rfl rfl ?_
  obtain ⟨x4, hx4, hr⟩ := ob hr
  refine j_getA (pc' := 9) C dX12_highest_6 fl_X12_8 hx4 rfl ?_
  refine j_bipush (v := 17) (pc' := 11) C dX12_highest_9 kB_17 rfl ?_
  obtain ⟨x5, hx5, hr⟩ := ob hr
  refine j_iald (pc' := 12) C dX12_highest_11 hx5 rfl ?_
  refine j_ic_ge (tgt := 40) (pc' := 15) C dX12_highest_12 rfl rfl (fun hc => ?_) (fun hc => ?_)
  · have hr := ifT hc hr
    clear hc
    have hr := es1 _ (Option.some.inj hr).symm
    subst hr
    exact j_lv [1] rfl ko2
  · have hr := ifF hc hr
    clear hc
    refine j_aload_n (q := 0) (pc' := 16) C dX12_highest_15 rfl rfl rfl ?_
    refine j_iload_n (q := 2) (pc' := 17) C dX12_highest_16 rfl rfl rfl ?_
    obtain ⟨z6, hz6, hr⟩ := ob hr
    obtain ⟨x7, hx7, hr⟩ := ob hr
    obtain ⟨fhz6, hz6⟩ := rcv_sp hz6
    refine j_callV (ci := 9) (As := [.int s1.2]) (rest := []) (st1 := [.int x7]) (pc' := 20) C ⟨wm_1655, wm_60⟩ rfl hz6 (c_X12_frameOf (nx := nx) hx7) yw_X12_frameOf wm_1653 rfl rfl (by decide) ⟨by decide, by decide⟩ dX12_highest_17 rfl rfl ?_
    refine j_iload_n (q := 1) (pc' := 21) C dX12_highest_20 rfl rfl rfl ?_
    refine j_ic_le (tgt := 32) (pc' := 24) C dX12_highest_21 rfl rfl (fun hc => ?_) (fun hc => ?_)
    · have hr := ifT hc hr
      clear hc
      refine j_iload_n (q := 1) (pc' := 33) C dX12_highest_32 rfl rfl rfl ?_
      refine j_istore_n (lv' := [(1, .int s1.1), (0, .ref this), (2, .int s1.2)]) (pc' := 34) C dX12_highest_33 rfl (by decide) rfl rfl ?_
      refine j_iinc (q := 2) (v := 1) (lv' := [(2, .int (s1.2 + 1)), (1, .int s1.1), (0, .ref this)]) (pc' := 37) C dX12_highest_34 rfl kI_1 (by decide) rfl rfl ?_
      refine j_goto (tgt := 4) C dX12_highest_37 rfl ?_
      exact j_lv [2, 1, 0] rfl (is1 _ (Option.some.inj hr).symm)
    · have hr := ifF hc hr
      clear hc
      refine j_aload_n (q := 0) (pc' := 25) C dX12_highest_24 rfl rfl rfl ?_
      refine j_iload_n (q := 2) (pc' := 26) C dX12_highest_25 rfl rfl rfl ?_
      obtain ⟨z8, hz8, hr⟩ := ob hr
      obtain ⟨x9, hx9, hr⟩ := ob hr
      obtain ⟨fhz8, hz8⟩ := rcv_sp hz8
      refine j_callV (ci := 9) (As := [.int s1.2]) (rest := []) (st1 := [.int x9]) (pc' := 29) C ⟨wm_1655, wm_60⟩ rfl hz8 (c_X12_frameOf (nx := nx) hx9) yw_X12_frameOf wm_1653 rfl rfl (by decide) ⟨by decide, by decide⟩ dX12_highest_26 rfl rfl ?_
      refine j_goto (tgt := 33) C dX12_highest_29 rfl ?_
      refine j_istore_n (lv' := [(1, .int x9), (0, .ref this), (2, .int s1.2)]) (pc' := 34) C dX12_highest_33 rfl (by decide) rfl rfl ?_
      refine j_iinc (q := 2) (v := 1) (lv' := [(2, .int (s1.2 + 1)), (1, .int x9), (0, .ref this)]) (pc' := 37) C dX12_highest_34 rfl kI_1 (by decide) rfl rfl ?_
      refine j_goto (tgt := 4) C dX12_highest_37 rfl ?_
      exact j_lv [2, 1, 0] rfl (is1 _ (Option.some.inj hr).symm)
def m_X12_aimAt (ce : Ce) (this : Nat) (p1 : Int32) : Option (Unit × Ce) :=
  (gA ce 9 0 this).bind fun x1 =>
  (sI ce x1 8 p1).bind fun c2 =>
  (gA c2 9 0 this).bind fun x3 =>
  (sI c2 x3 9 0).bind fun c4 =>
  (gA c4 9 0 this).bind fun x5 =>
  (sI c4 x5 5 0).bind fun c6 =>
  (gA c6 9 0 this).bind fun x7 =>
  (rcv c6 9 this).bind fun z8 =>
  (m_X12_highest c6 this).bind fun x9 =>
  (sI c6 x7 4 x9).bind fun c10 =>
  some ((), c10)
set_option maxRecDepth 100000 in
set_option maxHeartbeats 4000000 in
theorem c_X12_aimAt {nx : Nat} {ce : Ce} {this : Nat} {p1 : Int32} {q : Unit × Ce} (hr : m_X12_aimAt ce this p1 = some q) : Ct yX12_aimAt cX12_aimAt 2 none 2 43 0 0 [.ref this, .int p1] nx ce none q.2 := by
  unfold m_X12_aimAt at hr
  refine ct_of (by decide) (by decide) ?_
  intro G C hq hret hin
  show Jd G 0 0 nx ce 0 [(0, .ref this), (1, .int p1)] []
  refine j_aload_n (q := 0) (pc' := 1) C dX12_aimAt_0 rfl rfl rfl ?_
  obtain ⟨x1, hx1, hr⟩ := ob hr
  refine j_getA (pc' := 4) C dX12_aimAt_1 fl_X12_8 hx1 rfl ?_
  refine j_bipush (v := 8) (pc' := 6) C dX12_aimAt_4 kB_8 rfl ?_
  refine j_iload_n (q := 1) (pc' := 7) C dX12_aimAt_6 rfl rfl rfl ?_
  obtain ⟨c2, hc2, hr⟩ := ob hr
  refine j_iast (pc' := 8) C dX12_aimAt_7 hc2 rfl ?_
  refine j_aload_n (q := 0) (pc' := 9) C dX12_aimAt_8 rfl rfl rfl ?_
  obtain ⟨x3, hx3, hr⟩ := ob hr
  refine j_getA (pc' := 12) C dX12_aimAt_9 fl_X12_8 hx3 rfl ?_
  refine j_bipush (v := 9) (pc' := 14) C dX12_aimAt_12 kB_9 rfl ?_
  refine j_iconst (v := 0) (pc' := 15) C dX12_aimAt_14 kI_0 rfl ?_
  obtain ⟨c4, hc4, hr⟩ := ob hr
  refine j_iast (pc' := 16) C dX12_aimAt_15 hc4 rfl ?_
  refine j_aload_n (q := 0) (pc' := 17) C dX12_aimAt_16 rfl rfl rfl ?_
  obtain ⟨x5, hx5, hr⟩ := ob hr
  refine j_getA (pc' := 20) C dX12_aimAt_17 fl_X12_8 hx5 rfl ?_
  refine j_iconst (v := 5) (pc' := 21) C dX12_aimAt_20 kI_5 rfl ?_
  refine j_iconst (v := 0) (pc' := 22) C dX12_aimAt_21 kI_0 rfl ?_
  obtain ⟨c6, hc6, hr⟩ := ob hr
  refine j_iast (pc' := 23) C dX12_aimAt_22 hc6 rfl ?_
  refine j_aload_n (q := 0) (pc' := 24) C dX12_aimAt_23 rfl rfl rfl ?_
  obtain ⟨x7, hx7, hr⟩ := ob hr
  refine j_getA (pc' := 27) C dX12_aimAt_24 fl_X12_8 hx7 rfl ?_
  refine j_iconst (v := 4) (pc' := 28) C dX12_aimAt_27 kI_4 rfl ?_
  refine j_aload_n (q := 0) (pc' := 29) C dX12_aimAt_28 rfl rfl rfl ?_
  obtain ⟨z8, hz8, hr⟩ := ob hr
  obtain ⟨x9, hx9, hr⟩ := ob hr
  obtain ⟨fhz8, hz8⟩ := rcv_sp hz8
  refine j_callV (ci := 9) (As := []) (rest := [.int 4, .ref x7]) (st1 := [.int x9, .int 4, .ref x7]) (pc' := 32) C ⟨wm_1651, wm_59⟩ rfl hz8 (c_X12_highest (nx := nx) hx9) yw_X12_highest wm_1649 rfl rfl (by decide) ⟨by decide, by decide⟩ dX12_aimAt_29 rfl rfl ?_
  obtain ⟨c10, hc10, hr⟩ := ob hr
  refine j_iast (pc' := 33) C dX12_aimAt_32 hc10 rfl ?_
  have hr := Option.some.inj hr
  subst hr
  exact j_vret C hq hret dX12_aimAt_33
def m_X12_aim (ce : Ce) (this : Nat) (p1 : Int32) : Option (Int32 × Ce) :=
  (gA ce 9 0 this).bind fun x1 =>
  (aI ce x1 7).bind fun x2 =>
  (m_X12_isIn p1 0 (x2 - 1)).bind fun x3 =>
  if x3 = 0 then
    some (0, ce)
  else
    (rcv ce 9 this).bind fun z4 =>
    (m_X12_keep ce this).bind fun q5 =>
    (rcv q5.2 9 this).bind fun z6 =>
    (m_X12_aimAt q5.2 this p1).bind fun q7 =>
    some (1, q7.2)
set_option maxRecDepth 100000 in
set_option maxHeartbeats 4000000 in
theorem c_X12_aim {nx : Nat} {ce : Ce} {this : Nat} {p1 : Int32} {q : Int32 × Ce} (hr : m_X12_aim ce this p1 = some q) : Ct yX12_aim cX12_aim 2 (some .boolean) 3 64 0 0 [.ref this, .int p1] nx ce (some (.int q.1)) q.2 := by
  unfold m_X12_aim at hr
  refine ct_of (by decide) (by decide) ?_
  intro G C hq hret hin
  show Jd G 0 0 nx ce 0 [(0, .ref this), (1, .int p1)] []
  refine j_iload_n (q := 1) (pc' := 1) C dX12_aim_0 rfl rfl rfl ?_
  refine j_iconst (v := 0) (pc' := 2) C dX12_aim_1 kI_0 rfl ?_
  refine j_aload_n (q := 0) (pc' := 3) C dX12_aim_2 rfl rfl rfl ?_
  obtain ⟨x1, hx1, hr⟩ := ob hr
  refine j_getA (pc' := 6) C dX12_aim_3 fl_X12_8 hx1 rfl ?_
  refine j_bipush (v := 7) (pc' := 8) C dX12_aim_6 kB_7 rfl ?_
  obtain ⟨x2, hx2, hr⟩ := ob hr
  refine j_iald (pc' := 9) C dX12_aim_8 hx2 rfl ?_
  refine j_iconst (v := 1) (pc' := 10) C dX12_aim_9 kI_1 rfl ?_
  refine j_isub (pc' := 11) C dX12_aim_10 rfl ?_
  obtain ⟨x3, hx3, hr⟩ := ob hr
  refine j_callS (As := [.int p1, .int 0, .int (x2 - 1)]) (rest := []) (st1 := [.int x3]) (pc' := 14) C wm_1519 (c_X12_isIn (nx := nx) (ce := ce) hx3) yw_X12_isIn wm_1518 rfl rfl (by decide) ⟨by decide, by decide⟩ dX12_aim_11 rfl rfl ?_
  refine j_if_ne (tgt := 19) (pc' := 17) C dX12_aim_14 rfl rfl (fun hc => ?_) (fun hc => ?_)
  · have hr := ifF hc hr
    clear hc
    refine j_aload_n (q := 0) (pc' := 20) C dX12_aim_19 rfl rfl rfl ?_
    obtain ⟨z4, hz4, hr⟩ := ob hr
    obtain ⟨q5, hq5, hr⟩ := ob hr
    obtain ⟨fhz4, hz4⟩ := rcv_sp hz4
    refine j_callV (ci := 9) (As := []) (rest := []) (st1 := []) (pc' := 23) C ⟨wm_1618, wm_55⟩ rfl hz4 (c_X12_keep (nx := nx) hq5) yw_X12_keep wm_1616 rfl rfl (by decide) ⟨by decide, by decide⟩ dX12_aim_20 rfl rfl ?_
    refine j_aload_n (q := 0) (pc' := 24) C dX12_aim_23 rfl rfl rfl ?_
    refine j_iload_n (q := 1) (pc' := 25) C dX12_aim_24 rfl rfl rfl ?_
    obtain ⟨z6, hz6, hr⟩ := ob hr
    obtain ⟨q7, hq7, hr⟩ := ob hr
    obtain ⟨fhz6, hz6⟩ := rcv_sp hz6
    refine j_callV (ci := 9) (As := [.int p1]) (rest := []) (st1 := []) (pc' := 28) C ⟨wm_1647, wm_58⟩ rfl hz6 (c_X12_aimAt (nx := nx) hq7) yw_X12_aimAt wm_1645 rfl rfl (by decide) ⟨by decide, by decide⟩ dX12_aim_25 rfl rfl ?_
    refine j_iconst (v := 1) (pc' := 29) C dX12_aim_28 kI_1 rfl ?_
    have hr := Option.some.inj hr
    subst hr
    exact j_zret C hq hret rfl dX12_aim_29
  · have hr := ifT hc hr
    clear hc
    refine j_iconst (v := 0) (pc' := 18) C dX12_aim_17 kI_0 rfl ?_
    have hr := Option.some.inj hr
    subst hr
    exact j_zret C hq hret rfl dX12_aim_18
def m_X12_mode (ce : Ce) (this : Nat) (p1 : Int32) : Option (Int32 × Ce) :=
  (m_X12_isIn p1 0 2).bind fun x1 =>
  if x1 = 0 then
    some (0, ce)
  else
    (rcv ce 9 this).bind fun z2 =>
    (m_X12_keep ce this).bind fun q3 =>
    (gA q3.2 9 0 this).bind fun x4 =>
    (sI q3.2 x4 15 p1).bind fun c5 =>
    some (1, c5)
set_option maxRecDepth 100000 in
set_option maxHeartbeats 4000000 in
theorem c_X12_mode {nx : Nat} {ce : Ce} {this : Nat} {p1 : Int32} {q : Int32 × Ce} (hr : m_X12_mode ce this p1 = some q) : Ct yX12_mode cX12_mode 2 (some .boolean) 2 43 0 0 [.ref this, .int p1] nx ce (some (.int q.1)) q.2 := by
  unfold m_X12_mode at hr
  refine ct_of (by decide) (by decide) ?_
  intro G C hq hret hin
  show Jd G 0 0 nx ce 0 [(0, .ref this), (1, .int p1)] []
  refine j_iload_n (q := 1) (pc' := 1) C dX12_mode_0 rfl rfl rfl ?_
  refine j_iconst (v := 0) (pc' := 2) C dX12_mode_1 kI_0 rfl ?_
  refine j_iconst (v := 2) (pc' := 3) C dX12_mode_2 kI_2 rfl ?_
  obtain ⟨x1, hx1, hr⟩ := ob hr
  refine j_callS (As := [.int p1, .int 0, .int 2]) (rest := []) (st1 := [.int x1]) (pc' := 6) C wm_1519 (c_X12_isIn (nx := nx) (ce := ce) hx1) yw_X12_isIn wm_1518 rfl rfl (by decide) ⟨by decide, by decide⟩ dX12_mode_3 rfl rfl ?_
  refine j_if_ne (tgt := 11) (pc' := 9) C dX12_mode_6 rfl rfl (fun hc => ?_) (fun hc => ?_)
  · have hr := ifF hc hr
    clear hc
    refine j_aload_n (q := 0) (pc' := 12) C dX12_mode_11 rfl rfl rfl ?_
    obtain ⟨z2, hz2, hr⟩ := ob hr
    obtain ⟨q3, hq3, hr⟩ := ob hr
    obtain ⟨fhz2, hz2⟩ := rcv_sp hz2
    refine j_callV (ci := 9) (As := []) (rest := []) (st1 := []) (pc' := 15) C ⟨wm_1618, wm_55⟩ rfl hz2 (c_X12_keep (nx := nx) hq3) yw_X12_keep wm_1616 rfl rfl (by decide) ⟨by decide, by decide⟩ dX12_mode_12 rfl rfl ?_
    refine j_aload_n (q := 0) (pc' := 16) C dX12_mode_15 rfl rfl rfl ?_
    obtain ⟨x4, hx4, hr⟩ := ob hr
    refine j_getA (pc' := 19) C dX12_mode_16 fl_X12_8 hx4 rfl ?_
    refine j_bipush (v := 15) (pc' := 21) C dX12_mode_19 kB_15 rfl ?_
    refine j_iload_n (q := 1) (pc' := 22) C dX12_mode_21 rfl rfl rfl ?_
    obtain ⟨c5, hc5, hr⟩ := ob hr
    refine j_iast (pc' := 23) C dX12_mode_22 hc5 rfl ?_
    refine j_iconst (v := 1) (pc' := 24) C dX12_mode_23 kI_1 rfl ?_
    have hr := Option.some.inj hr
    subst hr
    exact j_zret C hq hret rfl dX12_mode_24
  · have hr := ifT hc hr
    clear hc
    refine j_iconst (v := 0) (pc' := 10) C dX12_mode_9 kI_0 rfl ?_
    have hr := Option.some.inj hr
    subst hr
    exact j_zret C hq hret rfl dX12_mode_10
def m_X12_maskOf (ce : Ce) (this : Nat) (p1 : Int32) : Option (Int32) :=
  (gA ce 9 0 this).bind fun x1 =>
  (aI ce x1 (104 + p1)).bind fun x2 =>
  some ((x2 >>> (6 &&& 31)) &&& 63)
set_option maxRecDepth 100000 in
set_option maxHeartbeats 4000000 in
theorem c_X12_maskOf {nx : Nat} {ce : Ce} {this : Nat} {p1 : Int32} {q : Int32} (hr : m_X12_maskOf ce this p1 = some q) : Ct yX12_maskOf cX12_maskOf 2 (some .int) 0 0 0 0 [.ref this, .int p1] nx ce (some (.int q)) ce := by
  unfold m_X12_maskOf at hr
  refine ct_of (by decide) (by decide) ?_
  intro G C hq hret hin
  show Jd G 0 0 nx ce 0 [(0, .ref this), (1, .int p1)] []
  refine j_aload_n (q := 0) (pc' := 1) C dX12_maskOf_0 rfl rfl rfl ?_
  obtain ⟨x1, hx1, hr⟩ := ob hr
  refine j_getA (pc' := 4) C dX12_maskOf_1 fl_X12_8 hx1 rfl ?_
  refine j_bipush (v := 104) (pc' := 6) C dX12_maskOf_4 kB_104 rfl ?_
  refine j_iload_n (q := 1) (pc' := 7) C dX12_maskOf_6 rfl rfl rfl ?_
  refine j_iadd (pc' := 8) C dX12_maskOf_7 rfl ?_
  obtain ⟨x2, hx2, hr⟩ := ob hr
  refine j_iald (pc' := 9) C dX12_maskOf_8 hx2 rfl ?_
  refine j_bipush (v := 6) (pc' := 11) C dX12_maskOf_9 kB_6 rfl ?_
  refine j_ishr (pc' := 12) C dX12_maskOf_11 rfl ?_
  refine j_bipush (v := 63) (pc' := 14) C dX12_maskOf_12 kB_63 rfl ?_
  refine j_iand (pc' := 15) C dX12_maskOf_14 rfl ?_
  have hr := Option.some.inj hr
  subst hr
  exact j_iret C hq hret dX12_maskOf_15
def m_X12_bitsOf (ce : Ce) (this : Nat) (p1 : Int32) : Option (Int32) :=
  (gA ce 9 0 this).bind fun x1 =>
  (aI ce x1 (104 + p1)).bind fun x2 =>
  some (x2 &&& 63)
set_option maxRecDepth 100000 in
set_option maxHeartbeats 4000000 in
theorem c_X12_bitsOf {nx : Nat} {ce : Ce} {this : Nat} {p1 : Int32} {q : Int32} (hr : m_X12_bitsOf ce this p1 = some q) : Ct yX12_bitsOf cX12_bitsOf 2 (some .int) 0 0 0 0 [.ref this, .int p1] nx ce (some (.int q)) ce := by
  unfold m_X12_bitsOf at hr
  refine ct_of (by decide) (by decide) ?_
  intro G C hq hret hin
  show Jd G 0 0 nx ce 0 [(0, .ref this), (1, .int p1)] []
  refine j_aload_n (q := 0) (pc' := 1) C dX12_bitsOf_0 rfl rfl rfl ?_
  obtain ⟨x1, hx1, hr⟩ := ob hr
  refine j_getA (pc' := 4) C dX12_bitsOf_1 fl_X12_8 hx1 rfl ?_
  refine j_bipush (v := 104) (pc' := 6) C dX12_bitsOf_4 kB_104 rfl ?_
  refine j_iload_n (q := 1) (pc' := 7) C dX12_bitsOf_6 rfl rfl rfl ?_
  refine j_iadd (pc' := 8) C dX12_bitsOf_7 rfl ?_
  obtain ⟨x2, hx2, hr⟩ := ob hr
  refine j_iald (pc' := 9) C dX12_bitsOf_8 hx2 rfl ?_
  refine j_bipush (v := 63) (pc' := 11) C dX12_bitsOf_9 kB_63 rfl ?_
  refine j_iand (pc' := 12) C dX12_bitsOf_11 rfl ?_
  have hr := Option.some.inj hr
  subst hr
  exact j_iret C hq hret dX12_bitsOf_12
def m_X12_setOfCube (ce : Ce) (this : Nat) (p1 : Int32) : Option (Int64) :=
  (rcv ce 9 this).bind fun z1 =>
  (m_X12_maskOf ce this p1).bind fun x2 =>
  (rcv ce 9 this).bind fun z3 =>
  (m_X12_bitsOf ce this p1).bind fun x4 =>
  (rcv ce 9 this).bind fun z5 =>
  (m_X12_cubeSet ce this x2 x4).bind fun x6 =>
  some x6
set_option maxRecDepth 100000 in
set_option maxHeartbeats 4000000 in
theorem c_X12_setOfCube {nx : Nat} {ce : Ce} {this : Nat} {p1 : Int32} {q : Int64} (hr : m_X12_setOfCube ce this p1 = some q) : Ct yX12_setOfCube cX12_setOfCube 2 (some .long) 3 65 0 0 [.ref this, .int p1] nx ce (some (.long q)) ce := by
  unfold m_X12_setOfCube at hr
  refine ct_of (by decide) (by decide) ?_
  intro G C hq hret hin
  show Jd G 0 0 nx ce 0 [(0, .ref this), (1, .int p1)] []
  refine j_aload_n (q := 0) (pc' := 1) C dX12_setOfCube_0 rfl rfl rfl ?_
  refine j_aload_n (q := 0) (pc' := 2) C dX12_setOfCube_1 rfl rfl rfl ?_
  refine j_iload_n (q := 1) (pc' := 3) C dX12_setOfCube_2 rfl rfl rfl ?_
  obtain ⟨z1, hz1, hr⟩ := ob hr
  obtain ⟨x2, hx2, hr⟩ := ob hr
  obtain ⟨fhz1, hz1⟩ := rcv_sp hz1
  refine j_callV (ci := 9) (As := [.int p1]) (rest := [.ref this]) (st1 := [.int x2, .ref this]) (pc' := 6) C ⟨wm_1708, wm_70⟩ rfl hz1 (c_X12_maskOf (nx := nx) hx2) yw_X12_maskOf wm_1706 rfl rfl (by decide) ⟨by decide, by decide⟩ dX12_setOfCube_3 rfl rfl ?_
  refine j_aload_n (q := 0) (pc' := 7) C dX12_setOfCube_6 rfl rfl rfl ?_
  refine j_iload_n (q := 1) (pc' := 8) C dX12_setOfCube_7 rfl rfl rfl ?_
  obtain ⟨z3, hz3, hr⟩ := ob hr
  obtain ⟨x4, hx4, hr⟩ := ob hr
  obtain ⟨fhz3, hz3⟩ := rcv_sp hz3
  refine j_callV (ci := 9) (As := [.int p1]) (rest := [.int x2, .ref this]) (st1 := [.int x4, .int x2, .ref this]) (pc' := 11) C ⟨wm_1712, wm_71⟩ rfl hz3 (c_X12_bitsOf (nx := nx) hx4) yw_X12_bitsOf wm_1710 rfl rfl (by decide) ⟨by decide, by decide⟩ dX12_setOfCube_8 rfl rfl ?_
  obtain ⟨z5, hz5, hr⟩ := ob hr
  obtain ⟨x6, hx6, hr⟩ := ob hr
  obtain ⟨fhz5, hz5⟩ := rcv_sp hz5
  refine j_callV (ci := 9) (As := [.int x2, .int x4]) (rest := []) (st1 := [.long x6]) (pc' := 14) C ⟨wm_1716, wm_72⟩ rfl hz5 (c_X12_cubeSet (nx := nx) hx6) yw_X12_cubeSet wm_1714 rfl rfl (by decide) ⟨by decide, by decide⟩ dX12_setOfCube_11 rfl rfl ?_
  have hr := Option.some.inj hr
  subst hr
  exact j_lret C hq hret dX12_setOfCube_14
def m_X12_openAt (ce : Ce) (this : Nat) (p1 : Int32) : Option (Int64) :=
  if p1 = 0 then
    (rcv ce 9 this).bind fun z12 =>
    (m_X12_starts ce this).bind fun x13 =>
    some x13
  else
    (rcv ce 9 this).bind fun z1 =>
    (m_X12_all ce this).bind fun x2 =>
    (it (fun s3 =>
      (gA ce 9 0 this).bind fun x6 =>
      (aI ce x6 17).bind fun x7 =>
      if x7 ≤ s3.2 then
        some (Sum.inr s3.1)
      else
        (rcv ce 9 this).bind fun z8 =>
        (m_X12_frameOf ce this s3.2).bind fun x9 =>
        if x9 < p1 then
          some (Sum.inl (s3.1, (s3.2 + 1)))
        else
          (rcv ce 9 this).bind fun z10 =>
          (m_X12_setOfCube ce this s3.2).bind fun x11 =>
          some (Sum.inl ((s3.1 &&& (x11 ^^^ (-1))), (s3.2 + 1)))
    ) FU (x2, 0)).bind fun o4 =>
    some o4
set_option maxRecDepth 100000 in
set_option maxHeartbeats 4000000 in
theorem c_X12_openAt {nx : Nat} {ce : Ce} {this : Nat} {p1 : Int32} {q : Int64} (hr : m_X12_openAt ce this p1 = some q) : Ct yX12_openAt cX12_openAt 5 (some .long) 4 86 0 0 [.ref this, .int p1] nx ce (some (.long q)) ce := by
  unfold m_X12_openAt at hr
  refine ct_of (by decide) (by decide) ?_
  intro G C hq hret hin
  show Jd G 0 0 nx ce 0 [(0, .ref this), (1, .int p1)] []
  refine j_iload_n (q := 1) (pc' := 1) C dX12_openAt_0 rfl rfl rfl ?_
  refine j_if_ne (tgt := 9) (pc' := 4) C dX12_openAt_1 rfl rfl (fun hc => ?_) (fun hc => ?_)
  · have hr := ifF hc hr
    clear hc
    refine j_aload_n (q := 0) (pc' := 10) C dX12_openAt_9 rfl rfl rfl ?_
    obtain ⟨z1, hz1, hr⟩ := ob hr
    obtain ⟨x2, hx2, hr⟩ := ob hr
    obtain ⟨fhz1, hz1⟩ := rcv_sp hz1
    refine j_callV (ci := 9) (As := []) (rest := []) (st1 := [.long x2]) (pc' := 13) C ⟨wm_1625, wm_56⟩ rfl hz1 (c_X12_all (nx := nx) hx2) yw_X12_all wm_1623 rfl rfl (by decide) ⟨by decide, by decide⟩ dX12_openAt_10 rfl rfl ?_
    refine j_lstore_n (lv' := [(2, .long x2), (0, .ref this), (1, .int p1)]) (pc' := 14) C dX12_openAt_13 rfl (by decide) rfl rfl ?_
    refine j_iconst (v := 0) (pc' := 15) C dX12_openAt_14 kI_0 rfl ?_
    refine j_istore (lv' := [(4, .int 0), (2, .long x2), (0, .ref this), (1, .int p1)]) (pc' := 17) C dX12_openAt_15 (by decide) rfl rfl ?_
    obtain ⟨o4, ho4, ro4⟩ := ob hr
    have ko4 : Jd G 0 0 nx ce 58 [(2, .long o4)] [] := by
      have hr := ro4
      refine j_lload_n (q := 0) (pc' := 59) C dX12_openAt_58 rfl rfl rfl ?_
      have hr := Option.some.inj hr
      subst hr
      exact j_lret C hq hret dX12_openAt_59
    refine j_lv [2, 3, 1, 0] rfl (it_J (J := (fun s3 => Jd G 0 0 nx ce 17 [(0, .ref this), (1, .int p1), (2, .long s3.1), (4, .int s3.2)] [])) ?_ ho4)
    clear ho4
    intro s3 r5 hr is3 es3
    refine j_iload (q := 3) (pc' := 19) C dX12_openAt_17 rfl rfl ?_
    refine j_aload_n (q := 0) (pc' := 20) C dX12_openAt_19 rfl rfl rfl ?_
    obtain ⟨x6, hx6, hr⟩ := ob hr
    refine j_getA (pc' := 23) C dX12_openAt_20 fl_X12_8 hx6 rfl ?_
    refine j_bipush (v := 17) (pc' := 25) C dX12_openAt_23 kB_17 rfl ?_
    obtain ⟨x7, hx7, hr⟩ := ob hr
    refine j_iald (pc' := 26) C dX12_openAt_25 hx7 rfl ?_
    refine j_ic_ge (tgt := 58) (pc' := 29) C dX12_openAt_26 rfl rfl (fun hc => ?_) (fun hc => ?_)
    · have hr := ifT hc hr
      clear hc
      have hr := es3 _ (Option.some.inj hr).symm
      subst hr
      exact j_lv [2] rfl ko4
    · have hr := ifF hc hr
      clear hc
      refine j_aload_n (q := 0) (pc' := 30) C dX12_openAt_29 rfl rfl rfl ?_
      refine j_iload (q := 3) (pc' := 32) C dX12_openAt_30 rfl rfl ?_
      obtain ⟨z8, hz8, hr⟩ := ob hr
      obtain ⟨x9, hx9, hr⟩ := ob hr
      obtain ⟨fhz8, hz8⟩ := rcv_sp hz8
      refine j_callV (ci := 9) (As := [.int s3.2]) (rest := []) (st1 := [.int x9]) (pc' := 35) C ⟨wm_1655, wm_60⟩ rfl hz8 (c_X12_frameOf (nx := nx) hx9) yw_X12_frameOf wm_1653 rfl rfl (by decide) ⟨by decide, by decide⟩ dX12_openAt_32 rfl rfl ?_
      refine j_iload_n (q := 1) (pc' := 36) C dX12_openAt_35 rfl rfl rfl ?_
      refine j_ic_lt (tgt := 52) (pc' := 39) C dX12_openAt_36 rfl rfl (fun hc => ?_) (fun hc => ?_)
      · have hr := ifT hc hr
        clear hc
        refine j_iinc (q := 3) (v := 1) (lv' := [(4, .int (s3.2 + 1)), (0, .ref this), (1, .int p1), (2, .long s3.1)]) (pc' := 55) C dX12_openAt_52 rfl kI_1 (by decide) rfl rfl ?_
        refine j_goto (tgt := 17) C dX12_openAt_55 rfl ?_
        exact j_lv [1, 2, 3, 0] rfl (is3 _ (Option.some.inj hr).symm)
      · have hr := ifF hc hr
        clear hc
        refine j_lload_n (q := 2) (pc' := 40) C dX12_openAt_39 rfl rfl rfl ?_
        refine j_aload_n (q := 0) (pc' := 41) C dX12_openAt_40 rfl rfl rfl ?_
        refine j_iload (q := 3) (pc' := 43) C dX12_openAt_41 rfl rfl ?_
        obtain ⟨z10, hz10, hr⟩ := ob hr
        obtain ⟨x11, hx11, hr⟩ := ob hr
        obtain ⟨fhz10, hz10⟩ := rcv_sp hz10
        refine j_callV (ci := 9) (As := [.int s3.2]) (rest := [.long s3.1]) (st1 := [.long x11, .long s3.1]) (pc' := 46) C ⟨wm_1704, wm_69⟩ rfl hz10 (c_X12_setOfCube (nx := nx) hx11) yw_X12_setOfCube wm_1702 rfl rfl (by decide) ⟨by decide, by decide⟩ dX12_openAt_43 rfl rfl ?_
        refine j_ldc2 (pc' := 49) C dX12_openAt_46 wm_1588 rfl ?_
        refine j_lxor (pc' := 50) C dX12_openAt_49 rfl ?_
        refine j_land (pc' := 51) C dX12_openAt_50 rfl ?_
        refine j_lstore_n (lv' := [(2, .long (s3.1 &&& (x11 ^^^ (-1)))), (0, .ref this), (1, .int p1), (4, .int s3.2)]) (pc' := 52) C dX12_openAt_51 rfl (by decide) rfl rfl ?_
        refine j_iinc (q := 3) (v := 1) (lv' := [(4, .int (s3.2 + 1)), (2, .long (s3.1 &&& (x11 ^^^ (-1)))), (0, .ref this), (1, .int p1)]) (pc' := 55) C dX12_openAt_52 rfl kI_1 (by decide) rfl rfl ?_
        refine j_goto (tgt := 17) C dX12_openAt_55 rfl ?_
        exact j_lv [2, 3, 1, 0] rfl (is3 _ (Option.some.inj hr).symm)
  · have hr := ifT hc hr
    clear hc
    refine j_aload_n (q := 0) (pc' := 5) C dX12_openAt_4 rfl rfl rfl ?_
    obtain ⟨z12, hz12, hr⟩ := ob hr
    obtain ⟨x13, hx13, hr⟩ := ob hr
    obtain ⟨fhz12, hz12⟩ := rcv_sp hz12
    refine j_callV (ci := 9) (As := []) (rest := []) (st1 := [.long x13]) (pc' := 8) C ⟨wm_1700, wm_68⟩ rfl hz12 (c_X12_starts (nx := nx) hx13) yw_X12_starts wm_1698 rfl rfl (by decide) ⟨by decide, by decide⟩ dX12_openAt_5 rfl rfl ?_
    have hr := Option.some.inj hr
    subst hr
    exact j_lret C hq hret dX12_openAt_8
def m_X12_isClosed (ce : Ce) (this : Nat) (p1 : Int64) (p2 : Int64) : Option (Int32) :=
  (it (fun s1 =>
    (rcv ce 9 this).bind fun z4 =>
    (m_X12_states ce this).bind fun x5 =>
    if x5 ≤ s1 then
      some (Sum.inr (Sum.inr ()))
    else
      (m_X12_has (p1 &&& (p2 ^^^ (-1))) s1).bind fun x6 =>
      if x6 = 0 then
        some (Sum.inl (s1 + 1))
      else
        (rcv ce 9 this).bind fun z7 =>
        (m_X12_after ce this s1).bind fun x8 =>
        if (lg_cmp (x8 &&& p2) 0) = 0 then
          some (Sum.inl (s1 + 1))
        else
          some (Sum.inr (Sum.inl 0))
  ) FU 0).bind fun o2 =>
  Sum.elim (fun wo2 => some wo2) (fun vo2 =>
    some 1
  ) o2
set_option maxRecDepth 100000 in
set_option maxHeartbeats 4000000 in
theorem c_X12_isClosed {nx : Nat} {ce : Ce} {this : Nat} {p1 : Int64} {p2 : Int64} {q : Int32} (hr : m_X12_isClosed ce this p1 p2 = some q) : Ct yX12_isClosed cX12_isClosed 6 (some .boolean) 3 68 0 0 [.ref this, .long p1, .long p2] nx ce (some (.int q)) ce := by
  unfold m_X12_isClosed at hr
  refine ct_of (by decide) (by decide) ?_
  intro G C hq hret hin
  show Jd G 0 0 nx ce 0 [(0, .ref this), (1, .long p1), (3, .long p2)] []
  refine j_iconst (v := 0) (pc' := 1) C dX12_isClosed_0 kI_0 rfl ?_
  refine j_istore (lv' := [(5, .int 0), (0, .ref this), (1, .long p1), (3, .long p2)]) (pc' := 3) C dX12_isClosed_1 (by decide) rfl rfl ?_
  obtain ⟨o2, ho2, ro2⟩ := ob hr
  have ko2 : ∀ vo2, o2 = Sum.inr vo2 → Jd G 0 0 nx ce 48 [] [] := by
    intro vo2 eo2
    rw [eo2] at ro2
    have hr := elR ro2
    refine j_iconst (v := 1) (pc' := 49) C dX12_isClosed_48 kI_1 rfl ?_
    have hr := Option.some.inj hr
    subst hr
    exact j_zret C hq hret rfl dX12_isClosed_49
  refine j_lv [1, 2, 3, 0] rfl (it_J (J := (fun s1 => Jd G 0 0 nx ce 3 [(0, .ref this), (1, .long p1), (3, .long p2), (5, .int s1)] [])) ?_ ho2)
  clear ho2
  intro s1 r3 hr is1 es1
  refine j_iload (q := 3) (pc' := 5) C dX12_isClosed_3 rfl rfl ?_
  refine j_aload_n (q := 0) (pc' := 6) C dX12_isClosed_5 rfl rfl rfl ?_
  obtain ⟨z4, hz4, hr⟩ := ob hr
  obtain ⟨x5, hx5, hr⟩ := ob hr
  obtain ⟨fhz4, hz4⟩ := rcv_sp hz4
  refine j_callV (ci := 9) (As := []) (rest := [.int s1]) (st1 := [.int x5, .int s1]) (pc' := 9) C ⟨wm_1632, wm_57⟩ rfl hz4 (c_X12_states (nx := nx) hx5) yw_X12_states wm_1630 rfl rfl (by decide) ⟨by decide, by decide⟩ dX12_isClosed_6 rfl rfl ?_
  refine j_ic_ge (tgt := 48) (pc' := 12) C dX12_isClosed_9 rfl rfl (fun hc => ?_) (fun hc => ?_)
  · have hr := ifT hc hr
    clear hc
    have hr := es1 _ (Option.some.inj hr).symm
    subst hr
    exact j_lv [] rfl (ko2 _ rfl)
  · have hr := ifF hc hr
    clear hc
    refine j_lload_n (q := 1) (pc' := 13) C dX12_isClosed_12 rfl rfl rfl ?_
    refine j_lload_n (q := 2) (pc' := 14) C dX12_isClosed_13 rfl rfl rfl ?_
    refine j_ldc2 (pc' := 17) C dX12_isClosed_14 wm_1588 rfl ?_
    refine j_lxor (pc' := 18) C dX12_isClosed_17 rfl ?_
    refine j_land (pc' := 19) C dX12_isClosed_18 rfl ?_
    refine j_iload (q := 3) (pc' := 21) C dX12_isClosed_19 rfl rfl ?_
    obtain ⟨x6, hx6, hr⟩ := ob hr
    refine j_callS (As := [.long (p1 &&& (p2 ^^^ (-1))), .int s1]) (rest := []) (st1 := [.int x6]) (pc' := 24) C wm_1635 (c_X12_has (nx := nx) (ce := ce) hx6) yw_X12_has wm_1634 rfl rfl (by decide) ⟨by decide, by decide⟩ dX12_isClosed_21 rfl rfl ?_
    refine j_if_eq (tgt := 42) (pc' := 27) C dX12_isClosed_24 rfl rfl (fun hc => ?_) (fun hc => ?_)
    · have hr := ifT hc hr
      clear hc
      refine j_iinc (q := 3) (v := 1) (lv' := [(5, .int (s1 + 1)), (0, .ref this), (1, .long p1), (3, .long p2)]) (pc' := 45) C dX12_isClosed_42 rfl kI_1 (by decide) rfl rfl ?_
      refine j_goto (tgt := 3) C dX12_isClosed_45 rfl ?_
      exact j_lv [1, 2, 3, 0] rfl (is1 _ (Option.some.inj hr).symm)
    · have hr := ifF hc hr
      clear hc
      refine j_aload_n (q := 0) (pc' := 28) C dX12_isClosed_27 rfl rfl rfl ?_
      refine j_iload (q := 3) (pc' := 30) C dX12_isClosed_28 rfl rfl ?_
      obtain ⟨z7, hz7, hr⟩ := ob hr
      obtain ⟨x8, hx8, hr⟩ := ob hr
      obtain ⟨fhz7, hz7⟩ := rcv_sp hz7
      refine j_callV (ci := 9) (As := [.int s1]) (rest := []) (st1 := [.long x8]) (pc' := 33) C ⟨wm_1751, wm_80⟩ rfl hz7 (c_X12_after (nx := nx) hx8) yw_X12_after wm_1749 rfl rfl (by decide) ⟨by decide, by decide⟩ dX12_isClosed_30 rfl rfl ?_
      refine j_lload_n (q := 2) (pc' := 34) C dX12_isClosed_33 rfl rfl rfl ?_
      refine j_land (pc' := 35) C dX12_isClosed_34 rfl ?_
      refine j_lconst (v := 0) (pc' := 36) C dX12_isClosed_35 kL_0 rfl ?_
      refine j_lcmp (pc' := 37) C dX12_isClosed_36 rfl ?_
      refine j_if_eq (tgt := 42) (pc' := 40) C dX12_isClosed_37 rfl rfl (fun hc => ?_) (fun hc => ?_)
      · have hr := ifT hc hr
        clear hc
        refine j_iinc (q := 3) (v := 1) (lv' := [(5, .int (s1 + 1)), (0, .ref this), (1, .long p1), (3, .long p2)]) (pc' := 45) C dX12_isClosed_42 rfl kI_1 (by decide) rfl rfl ?_
        refine j_goto (tgt := 3) C dX12_isClosed_45 rfl ?_
        exact j_lv [1, 2, 3, 0] rfl (is1 _ (Option.some.inj hr).symm)
      · have hr := ifF hc hr
        clear hc
        refine j_iconst (v := 0) (pc' := 41) C dX12_isClosed_40 kI_0 rfl ?_
        have hr := es1 _ (Option.some.inj hr).symm
        subst hr
        have hr := elL ro2
        have hr := Option.some.inj hr
        subst hr
        exact j_zret C hq hret rfl dX12_isClosed_41
def m_X12_doesHold (ce : Ce) (this : Nat) (p1 : Int32) (p2 : Int32) (p3 : Int32) : Option (Int32) :=
  (rcv ce 9 this).bind fun z1 =>
  (m_X12_openAt ce this p3).bind fun x2 =>
  (rcv ce 9 this).bind fun z3 =>
  (m_X12_cubeSet ce this p1 p2).bind fun x4 =>
  (rcv ce 9 this).bind fun z5 =>
  (m_X12_isClosed ce this x2 x4).bind fun x6 =>
  (bz x6).bind fun x7 =>
  some x6
set_option maxRecDepth 100000 in
set_option maxHeartbeats 4000000 in
theorem c_X12_doesHold {nx : Nat} {ce : Ce} {this : Nat} {p1 : Int32} {p2 : Int32} {p3 : Int32} {q : Int32} (hr : m_X12_doesHold ce this p1 p2 p3 = some q) : Ct yX12_doesHold cX12_doesHold 4 (some .boolean) 5 110 0 0 [.ref this, .int p1, .int p2, .int p3] nx ce (some (.int q)) ce := by
  unfold m_X12_doesHold at hr
  refine ct_of (by decide) (by decide) ?_
  intro G C hq hret hin
  show Jd G 0 0 nx ce 0 [(0, .ref this), (1, .int p1), (2, .int p2), (3, .int p3)] []
  refine j_aload_n (q := 0) (pc' := 1) C dX12_doesHold_0 rfl rfl rfl ?_
  refine j_aload_n (q := 0) (pc' := 2) C dX12_doesHold_1 rfl rfl rfl ?_
  refine j_iload_n (q := 3) (pc' := 3) C dX12_doesHold_2 rfl rfl rfl ?_
  obtain ⟨z1, hz1, hr⟩ := ob hr
  obtain ⟨x2, hx2, hr⟩ := ob hr
  obtain ⟨fhz1, hz1⟩ := rcv_sp hz1
  refine j_callV (ci := 9) (As := [.int p3]) (rest := [.ref this]) (st1 := [.long x2, .ref this]) (pc' := 6) C ⟨wm_1696, wm_67⟩ rfl hz1 (c_X12_openAt (nx := nx) hx2) yw_X12_openAt wm_1694 rfl rfl (by decide) ⟨by decide, by decide⟩ dX12_doesHold_3 rfl rfl ?_
  refine j_aload_n (q := 0) (pc' := 7) C dX12_doesHold_6 rfl rfl rfl ?_
  refine j_iload_n (q := 1) (pc' := 8) C dX12_doesHold_7 rfl rfl rfl ?_
  refine j_iload_n (q := 2) (pc' := 9) C dX12_doesHold_8 rfl rfl rfl ?_
  obtain ⟨z3, hz3, hr⟩ := ob hr
  obtain ⟨x4, hx4, hr⟩ := ob hr
  obtain ⟨fhz3, hz3⟩ := rcv_sp hz3
  refine j_callV (ci := 9) (As := [.int p1, .int p2]) (rest := [.long x2, .ref this]) (st1 := [.long x4, .long x2, .ref this]) (pc' := 12) C ⟨wm_1716, wm_72⟩ rfl hz3 (c_X12_cubeSet (nx := nx) hx4) yw_X12_cubeSet wm_1714 rfl rfl (by decide) ⟨by decide, by decide⟩ dX12_doesHold_9 rfl rfl ?_
  obtain ⟨z5, hz5, hr⟩ := ob hr
  obtain ⟨x6, hx6, hr⟩ := ob hr
  obtain ⟨fhz5, hz5⟩ := rcv_sp hz5
  refine j_callV (ci := 9) (As := [.long x2, .long x4]) (rest := []) (st1 := [.int x6]) (pc' := 15) C ⟨wm_1787, wm_89⟩ rfl hz5 (c_X12_isClosed (nx := nx) hx6) yw_X12_isClosed wm_1785 rfl rfl (by decide) ⟨by decide, by decide⟩ dX12_doesHold_12 rfl rfl ?_
  obtain ⟨x7, hx7, hr⟩ := ob hr
  obtain ⟨rfl, hx7⟩ := bz_sp hx7
  have hr := Option.some.inj hr
  subst hr
  exact j_zret C hq hret hx7 dX12_doesHold_15
def m_X12_isAsked (ce : Ce) (this : Nat) (p1 : Int32) (p2 : Int32) (p3 : Int32) : Option (Int32 × Ce) :=
  (gA ce 9 0 this).bind fun x1 =>
  (aI ce x1 12).bind fun x2 =>
  (sI ce x1 12 (x2 + 1)).bind fun c3 =>
  (rcv c3 9 this).bind fun z4 =>
  (m_X12_doesHold c3 this p1 p2 p3).bind fun x5 =>
  (bz x5).bind fun x6 =>
  some (x5, c3)
set_option maxRecDepth 100000 in
set_option maxHeartbeats 4000000 in
theorem c_X12_isAsked {nx : Nat} {ce : Ce} {this : Nat} {p1 : Int32} {p2 : Int32} {p3 : Int32} {q : Int32 × Ce} (hr : m_X12_isAsked ce this p1 p2 p3 = some q) : Ct yX12_isAsked cX12_isAsked 4 (some .boolean) 6 133 0 0 [.ref this, .int p1, .int p2, .int p3] nx ce (some (.int q.1)) q.2 := by
  unfold m_X12_isAsked at hr
  refine ct_of (by decide) (by decide) ?_
  intro G C hq hret hin
  show Jd G 0 0 nx ce 0 [(0, .ref this), (1, .int p1), (2, .int p2), (3, .int p3)] []
  refine j_aload_n (q := 0) (pc' := 1) C dX12_isAsked_0 rfl rfl rfl ?_
  obtain ⟨x1, hx1, hr⟩ := ob hr
  refine j_getA (pc' := 4) C dX12_isAsked_1 fl_X12_8 hx1 rfl ?_
  refine j_bipush (v := 12) (pc' := 6) C dX12_isAsked_4 kB_12 rfl ?_
  refine j_dup2 (pc' := 7) C dX12_isAsked_6 rfl rfl rfl ?_
  obtain ⟨x2, hx2, hr⟩ := ob hr
  refine j_iald (pc' := 8) C dX12_isAsked_7 hx2 rfl ?_
  refine j_iconst (v := 1) (pc' := 9) C dX12_isAsked_8 kI_1 rfl ?_
  refine j_iadd (pc' := 10) C dX12_isAsked_9 rfl ?_
  obtain ⟨c3, hc3, hr⟩ := ob hr
  refine j_iast (pc' := 11) C dX12_isAsked_10 hc3 rfl ?_
  refine j_aload_n (q := 0) (pc' := 12) C dX12_isAsked_11 rfl rfl rfl ?_
  refine j_iload_n (q := 1) (pc' := 13) C dX12_isAsked_12 rfl rfl rfl ?_
  refine j_iload_n (q := 2) (pc' := 14) C dX12_isAsked_13 rfl rfl rfl ?_
  refine j_iload_n (q := 3) (pc' := 15) C dX12_isAsked_14 rfl rfl rfl ?_
  obtain ⟨z4, hz4, hr⟩ := ob hr
  obtain ⟨x5, hx5, hr⟩ := ob hr
  obtain ⟨fhz4, hz4⟩ := rcv_sp hz4
  refine j_callV (ci := 9) (As := [.int p1, .int p2, .int p3]) (rest := []) (st1 := [.int x5]) (pc' := 18) C ⟨wm_1783, wm_88⟩ rfl hz4 (c_X12_doesHold (nx := nx) hx5) yw_X12_doesHold wm_1781 rfl rfl (by decide) ⟨by decide, by decide⟩ dX12_isAsked_15 rfl rfl ?_
  obtain ⟨x6, hx6, hr⟩ := ob hr
  obtain ⟨rfl, hx6⟩ := bz_sp hx6
  have hr := Option.some.inj hr
  subst hr
  exact j_zret C hq hret hx6 dX12_isAsked_18
def m_X12_outCube (ce : Ce) (this : Nat) (p1 : Int32) : Option (Unit × Ce) :=
  (it (fun s1 =>
    (gA s1.2 9 0 this).bind fun x7 =>
    (aI s1.2 x7 17).bind fun x8 =>
    if (x8 - 1) ≤ s1.1 then
      some (Sum.inr ((), s1.2))
    else
      (gA s1.2 9 0 this).bind fun x9 =>
      (gA s1.2 9 0 this).bind fun x10 =>
      (aI s1.2 x10 ((104 + s1.1) + 1)).bind fun x11 =>
      (sI s1.2 x9 (104 + s1.1) x11).bind fun c12 =>
      some (Sum.inl ((s1.1 + 1), c12))
  ) FU (p1, ce)).bind fun o2 =>
  (gA o2.2 9 0 this).bind fun x4 =>
  (aI o2.2 x4 17).bind fun x5 =>
  (sI o2.2 x4 17 (x5 - 1)).bind fun c6 =>
  some ((), c6)
set_option maxRecDepth 100000 in
set_option maxHeartbeats 4000000 in
theorem c_X12_outCube {nx : Nat} {ce : Ce} {this : Nat} {p1 : Int32} {q : Unit × Ce} (hr : m_X12_outCube ce this p1 = some q) : Ct yX12_outCube cX12_outCube 3 none 0 0 0 0 [.ref this, .int p1] nx ce none q.2 := by
  unfold m_X12_outCube at hr
  refine ct_of (by decide) (by decide) ?_
  intro G C hq hret hin
  show Jd G 0 0 nx ce 0 [(0, .ref this), (1, .int p1)] []
  refine j_iload_n (q := 1) (pc' := 1) C dX12_outCube_0 rfl rfl rfl ?_
  refine j_istore_n (lv' := [(2, .int p1), (0, .ref this), (1, .int p1)]) (pc' := 2) C dX12_outCube_1 rfl (by decide) rfl rfl ?_
  obtain ⟨o2, ho2, ro2⟩ := ob hr
  have ko2 : Jd G 0 0 nx o2.2 41 [(0, .ref this)] [] := by
    have hr := ro2
    refine j_aload_n (q := 0) (pc' := 42) C dX12_outCube_41 rfl rfl rfl ?_
    obtain ⟨x4, hx4, hr⟩ := ob hr
    refine j_getA (pc' := 45) C dX12_outCube_42 fl_X12_8 hx4 rfl ?_
    refine j_bipush (v := 17) (pc' := 47) C dX12_outCube_45 kB_17 rfl ?_
    refine j_dup2 (pc' := 48) C dX12_outCube_47 rfl rfl rfl ?_
    obtain ⟨x5, hx5, hr⟩ := ob hr
    refine j_iald (pc' := 49) C dX12_outCube_48 hx5 rfl ?_
    refine j_iconst (v := 1) (pc' := 50) C dX12_outCube_49 kI_1 rfl ?_
    refine j_isub (pc' := 51) C dX12_outCube_50 rfl ?_
    obtain ⟨c6, hc6, hr⟩ := ob hr
    refine j_iast (pc' := 52) C dX12_outCube_51 hc6 rfl ?_
    have hr := Option.some.inj hr
    subst hr
    exact j_vret C hq hret dX12_outCube_52
  refine j_lv [1, 0] rfl (it_J (J := (fun s1 => Jd G 0 0 nx s1.2 2 [(0, .ref this), (2, .int s1.1)] [])) ?_ ho2)
  clear ho2
  intro s1 r3 hr is1 es1
  refine j_iload_n (q := 1) (pc' := 3) C dX12_outCube_2 rfl rfl rfl ?_
  refine j_aload_n (q := 0) (pc' := 4) C dX12_outCube_3 rfl rfl rfl ?_
  obtain ⟨x7, hx7, hr⟩ := ob hr
  refine j_getA (pc' := 7) C dX12_outCube_4 fl_X12_8 hx7 rfl ?_
  refine j_bipush (v := 17) (pc' := 9) C dX12_outCube_7 kB_17 rfl ?_
  obtain ⟨x8, hx8, hr⟩ := ob hr
  refine j_iald (pc' := 10) C dX12_outCube_9 hx8 rfl ?_
  refine j_iconst (v := 1) (pc' := 11) C dX12_outCube_10 kI_1 rfl ?_
  refine j_isub (pc' := 12) C dX12_outCube_11 rfl ?_
  refine j_ic_ge (tgt := 41) (pc' := 15) C dX12_outCube_12 rfl rfl (fun hc => ?_) (fun hc => ?_)
  · have hr := ifT hc hr
    clear hc
    have hr := es1 _ (Option.some.inj hr).symm
    subst hr
    exact j_lv [0] rfl ko2
  · have hr := ifF hc hr
    clear hc
    refine j_aload_n (q := 0) (pc' := 16) C dX12_outCube_15 rfl rfl rfl ?_
    obtain ⟨x9, hx9, hr⟩ := ob hr
    refine j_getA (pc' := 19) C dX12_outCube_16 fl_X12_8 hx9 rfl ?_
    refine j_bipush (v := 104) (pc' := 21) C dX12_outCube_19 kB_104 rfl ?_
    refine j_iload_n (q := 1) (pc' := 22) C dX12_outCube_21 rfl rfl rfl ?_
    refine j_iadd (pc' := 23) C dX12_outCube_22 rfl ?_
    refine j_aload_n (q := 0) (pc' := 24) C dX12_outCube_23 rfl rfl rfl ?_
    obtain ⟨x10, hx10, hr⟩ := ob hr
    refine j_getA (pc' := 27) C dX12_outCube_24 fl_X12_8 hx10 rfl ?_
    refine j_bipush (v := 104) (pc' := 29) C dX12_outCube_27 kB_104 rfl ?_
    refine j_iload_n (q := 1) (pc' := 30) C dX12_outCube_29 rfl rfl rfl ?_
    refine j_iadd (pc' := 31) C dX12_outCube_30 rfl ?_
    refine j_iconst (v := 1) (pc' := 32) C dX12_outCube_31 kI_1 rfl ?_
    refine j_iadd (pc' := 33) C dX12_outCube_32 rfl ?_
    obtain ⟨x11, hx11, hr⟩ := ob hr
    refine j_iald (pc' := 34) C dX12_outCube_33 hx11 rfl ?_
    obtain ⟨c12, hc12, hr⟩ := ob hr
    refine j_iast (pc' := 35) C dX12_outCube_34 hc12 rfl ?_
    refine j_iinc (q := 1) (v := 1) (lv' := [(2, .int (s1.1 + 1)), (0, .ref this)]) (pc' := 38) C dX12_outCube_35 rfl kI_1 (by decide) rfl rfl ?_
    refine j_goto (tgt := 2) C dX12_outCube_38 rfl ?_
    exact j_lv [1, 0] rfl (is1 _ (Option.some.inj hr).symm)
def m_X12_liesIn (p0 : Int32) (p1 : Int32) (p2 : Int32) (p3 : Int32) : Option (Int32) :=
  if (p2 &&& (p0 ^^^ (-1))) = 0 then
    if (p1 &&& p2) = p3 then
      some 1
    else
      some 0
  else
    some 0
set_option maxRecDepth 100000 in
set_option maxHeartbeats 4000000 in
theorem c_X12_liesIn {nx : Nat} {ce : Ce} {p0 : Int32} {p1 : Int32} {p2 : Int32} {p3 : Int32} {q : Int32} (hr : m_X12_liesIn p0 p1 p2 p3 = some q) : Ct yX12_liesIn cX12_liesIn 4 (some .boolean) 0 0 0 0 [.int p0, .int p1, .int p2, .int p3] nx ce (some (.int q)) ce := by
  unfold m_X12_liesIn at hr
  refine ct_of (by decide) (by decide) ?_
  intro G C hq hret hin
  show Jd G 0 0 nx ce 0 [(0, .int p0), (1, .int p1), (2, .int p2), (3, .int p3)] []
  refine j_iload_n (q := 2) (pc' := 1) C dX12_liesIn_0 rfl rfl rfl ?_
  refine j_iload_n (q := 0) (pc' := 2) C dX12_liesIn_1 rfl rfl rfl ?_
  refine j_iconst (v := -1) (pc' := 3) C dX12_liesIn_2 kI_m1 rfl ?_
  refine j_ixor (pc' := 4) C dX12_liesIn_3 rfl ?_
  refine j_iand (pc' := 5) C dX12_liesIn_4 rfl ?_
  refine j_if_ne (tgt := 19) (pc' := 8) C dX12_liesIn_5 rfl rfl (fun hc => ?_) (fun hc => ?_)
  · have hr := ifF hc hr
    clear hc
    refine j_iconst (v := 0) (pc' := 20) C dX12_liesIn_19 kI_0 rfl ?_
    have hr := Option.some.inj hr
    subst hr
    exact j_zret C hq hret rfl dX12_liesIn_20
  · have hr := ifT hc hr
    clear hc
    refine j_iload_n (q := 1) (pc' := 9) C dX12_liesIn_8 rfl rfl rfl ?_
    refine j_iload_n (q := 2) (pc' := 10) C dX12_liesIn_9 rfl rfl rfl ?_
    refine j_iand (pc' := 11) C dX12_liesIn_10 rfl ?_
    refine j_iload_n (q := 3) (pc' := 12) C dX12_liesIn_11 rfl rfl rfl ?_
    refine j_ic_ne (tgt := 19) (pc' := 15) C dX12_liesIn_12 rfl rfl (fun hc => ?_) (fun hc => ?_)
    · have hr := ifF hc hr
      clear hc
      refine j_iconst (v := 0) (pc' := 20) C dX12_liesIn_19 kI_0 rfl ?_
      have hr := Option.some.inj hr
      subst hr
      exact j_zret C hq hret rfl dX12_liesIn_20
    · have hr := ifT hc hr
      clear hc
      refine j_iconst (v := 1) (pc' := 16) C dX12_liesIn_15 kI_1 rfl ?_
      refine j_goto (tgt := 20) C dX12_liesIn_16 rfl ?_
      have hr := Option.some.inj hr
      subst hr
      exact j_zret C hq hret rfl dX12_liesIn_20
def m_X12_addCube (ce : Ce) (this : Nat) (p1 : Int32) (p2 : Int32) (p3 : Int32) : Option (Unit × Ce) :=
  (it (fun s1 =>
    (gA s1.2 9 0 this).bind fun x11 =>
    (aI s1.2 x11 17).bind fun x12 =>
    if x12 ≤ s1.1 then
      some (Sum.inr ((), s1.2))
    else
      (rcv s1.2 9 this).bind fun z13 =>
      (m_X12_frameOf s1.2 this s1.1).bind fun x14 =>
      if p3 < x14 then
        some (Sum.inl ((s1.1 + 1), s1.2))
      else
        (rcv s1.2 9 this).bind fun z15 =>
        (m_X12_maskOf s1.2 this s1.1).bind fun x16 =>
        (rcv s1.2 9 this).bind fun z17 =>
        (m_X12_bitsOf s1.2 this s1.1).bind fun x18 =>
        (m_X12_liesIn x16 x18 p1 p2).bind fun x19 =>
        if x19 = 0 then
          some (Sum.inl ((s1.1 + 1), s1.2))
        else
          (rcv s1.2 9 this).bind fun z20 =>
          (m_X12_outCube s1.2 this s1.1).bind fun q21 =>
          some (Sum.inl (s1.1, q21.2))
  ) FU (0, ce)).bind fun o2 =>
  (gA o2.2 9 0 this).bind fun x4 =>
  (gA o2.2 9 0 this).bind fun x5 =>
  (aI o2.2 x5 17).bind fun x6 =>
  (sI o2.2 x4 (104 + x6) (((p3 <<< (12 &&& 31)) ||| (p1 <<< (6 &&& 31))) ||| p2)).bind fun c7 =>
  (gA c7 9 0 this).bind fun x8 =>
  (aI c7 x8 17).bind fun x9 =>
  (sI c7 x8 17 (x9 + 1)).bind fun c10 =>
  some ((), c10)
set_option maxRecDepth 100000 in
set_option maxHeartbeats 4000000 in
theorem c_X12_addCube {nx : Nat} {ce : Ce} {this : Nat} {p1 : Int32} {p2 : Int32} {p3 : Int32} {q : Unit × Ce} (hr : m_X12_addCube ce this p1 p2 p3 = some q) : Ct yX12_addCube cX12_addCube 5 none 1 23 0 0 [.ref this, .int p1, .int p2, .int p3] nx ce none q.2 := by
  unfold m_X12_addCube at hr
  refine ct_of (by decide) (by decide) ?_
  intro G C hq hret hin
  show Jd G 0 0 nx ce 0 [(0, .ref this), (1, .int p1), (2, .int p2), (3, .int p3)] []
  refine j_iconst (v := 0) (pc' := 1) C dX12_addCube_0 kI_0 rfl ?_
  refine j_istore (lv' := [(4, .int 0), (0, .ref this), (1, .int p1), (2, .int p2), (3, .int p3)]) (pc' := 3) C dX12_addCube_1 (by decide) rfl rfl ?_
  obtain ⟨o2, ho2, ro2⟩ := ob hr
  have ko2 : Jd G 0 0 nx o2.2 60 [(0, .ref this), (1, .int p1), (2, .int p2), (3, .int p3)] [] := by
    have hr := ro2
    refine j_aload_n (q := 0) (pc' := 61) C dX12_addCube_60 rfl rfl rfl ?_
    obtain ⟨x4, hx4, hr⟩ := ob hr
    refine j_getA (pc' := 64) C dX12_addCube_61 fl_X12_8 hx4 rfl ?_
    refine j_bipush (v := 104) (pc' := 66) C dX12_addCube_64 kB_104 rfl ?_
    refine j_aload_n (q := 0) (pc' := 67) C dX12_addCube_66 rfl rfl rfl ?_
    obtain ⟨x5, hx5, hr⟩ := ob hr
    refine j_getA (pc' := 70) C dX12_addCube_67 fl_X12_8 hx5 rfl ?_
    refine j_bipush (v := 17) (pc' := 72) C dX12_addCube_70 kB_17 rfl ?_
    obtain ⟨x6, hx6, hr⟩ := ob hr
    refine j_iald (pc' := 73) C dX12_addCube_72 hx6 rfl ?_
    refine j_iadd (pc' := 74) C dX12_addCube_73 rfl ?_
    refine j_iload_n (q := 3) (pc' := 75) C dX12_addCube_74 rfl rfl rfl ?_
    refine j_bipush (v := 12) (pc' := 77) C dX12_addCube_75 kB_12 rfl ?_
    refine j_ishl (pc' := 78) C dX12_addCube_77 rfl ?_
    refine j_iload_n (q := 1) (pc' := 79) C dX12_addCube_78 rfl rfl rfl ?_
    refine j_bipush (v := 6) (pc' := 81) C dX12_addCube_79 kB_6 rfl ?_
    refine j_ishl (pc' := 82) C dX12_addCube_81 rfl ?_
    refine j_ior (pc' := 83) C dX12_addCube_82 rfl ?_
    refine j_iload_n (q := 2) (pc' := 84) C dX12_addCube_83 rfl rfl rfl ?_
    refine j_ior (pc' := 85) C dX12_addCube_84 rfl ?_
    obtain ⟨c7, hc7, hr⟩ := ob hr
    refine j_iast (pc' := 86) C dX12_addCube_85 hc7 rfl ?_
    refine j_aload_n (q := 0) (pc' := 87) C dX12_addCube_86 rfl rfl rfl ?_
    obtain ⟨x8, hx8, hr⟩ := ob hr
    refine j_getA (pc' := 90) C dX12_addCube_87 fl_X12_8 hx8 rfl ?_
    refine j_bipush (v := 17) (pc' := 92) C dX12_addCube_90 kB_17 rfl ?_
    refine j_dup2 (pc' := 93) C dX12_addCube_92 rfl rfl rfl ?_
    obtain ⟨x9, hx9, hr⟩ := ob hr
    refine j_iald (pc' := 94) C dX12_addCube_93 hx9 rfl ?_
    refine j_iconst (v := 1) (pc' := 95) C dX12_addCube_94 kI_1 rfl ?_
    refine j_iadd (pc' := 96) C dX12_addCube_95 rfl ?_
    obtain ⟨c10, hc10, hr⟩ := ob hr
    refine j_iast (pc' := 97) C dX12_addCube_96 hc10 rfl ?_
    have hr := Option.some.inj hr
    subst hr
    exact j_vret C hq hret dX12_addCube_97
  refine j_lv [1, 2, 3, 4, 0] rfl (it_J (J := (fun s1 => Jd G 0 0 nx s1.2 3 [(0, .ref this), (1, .int p1), (2, .int p2), (3, .int p3), (4, .int s1.1)] [])) ?_ ho2)
  clear ho2
  intro s1 r3 hr is1 es1
  refine j_iload (q := 4) (pc' := 5) C dX12_addCube_3 rfl rfl ?_
  refine j_aload_n (q := 0) (pc' := 6) C dX12_addCube_5 rfl rfl rfl ?_
  obtain ⟨x11, hx11, hr⟩ := ob hr
  refine j_getA (pc' := 9) C dX12_addCube_6 fl_X12_8 hx11 rfl ?_
  refine j_bipush (v := 17) (pc' := 11) C dX12_addCube_9 kB_17 rfl ?_
  obtain ⟨x12, hx12, hr⟩ := ob hr
  refine j_iald (pc' := 12) C dX12_addCube_11 hx12 rfl ?_
  refine j_ic_ge (tgt := 60) (pc' := 15) C dX12_addCube_12 rfl rfl (fun hc => ?_) (fun hc => ?_)
  · have hr := ifT hc hr
    clear hc
    have hr := es1 _ (Option.some.inj hr).symm
    subst hr
    exact j_lv [0, 1, 2, 3] rfl ko2
  · have hr := ifF hc hr
    clear hc
    refine j_aload_n (q := 0) (pc' := 16) C dX12_addCube_15 rfl rfl rfl ?_
    refine j_iload (q := 4) (pc' := 18) C dX12_addCube_16 rfl rfl ?_
    obtain ⟨z13, hz13, hr⟩ := ob hr
    obtain ⟨x14, hx14, hr⟩ := ob hr
    obtain ⟨fhz13, hz13⟩ := rcv_sp hz13
    refine j_callV (ci := 9) (As := [.int s1.1]) (rest := []) (st1 := [.int x14]) (pc' := 21) C ⟨wm_1655, wm_60⟩ rfl hz13 (c_X12_frameOf (nx := nx) hx14) yw_X12_frameOf wm_1653 rfl rfl (by decide) ⟨by decide, by decide⟩ dX12_addCube_18 rfl rfl ?_
    refine j_iload_n (q := 3) (pc' := 22) C dX12_addCube_21 rfl rfl rfl ?_
    refine j_ic_gt (tgt := 54) (pc' := 25) C dX12_addCube_22 rfl rfl (fun hc => ?_) (fun hc => ?_)
    · have hr := ifT hc hr
      clear hc
      refine j_iinc (q := 4) (v := 1) (lv' := [(4, .int (s1.1 + 1)), (0, .ref this), (1, .int p1), (2, .int p2), (3, .int p3)]) (pc' := 57) C dX12_addCube_54 rfl kI_1 (by decide) rfl rfl ?_
      refine j_goto (tgt := 3) C dX12_addCube_57 rfl ?_
      exact j_lv [1, 2, 3, 4, 0] rfl (is1 _ (Option.some.inj hr).symm)
    · have hr := ifF hc hr
      clear hc
      refine j_aload_n (q := 0) (pc' := 26) C dX12_addCube_25 rfl rfl rfl ?_
      refine j_iload (q := 4) (pc' := 28) C dX12_addCube_26 rfl rfl ?_
      obtain ⟨z15, hz15, hr⟩ := ob hr
      obtain ⟨x16, hx16, hr⟩ := ob hr
      obtain ⟨fhz15, hz15⟩ := rcv_sp hz15
      refine j_callV (ci := 9) (As := [.int s1.1]) (rest := []) (st1 := [.int x16]) (pc' := 31) C ⟨wm_1708, wm_70⟩ rfl hz15 (c_X12_maskOf (nx := nx) hx16) yw_X12_maskOf wm_1706 rfl rfl (by decide) ⟨by decide, by decide⟩ dX12_addCube_28 rfl rfl ?_
      refine j_aload_n (q := 0) (pc' := 32) C dX12_addCube_31 rfl rfl rfl ?_
      refine j_iload (q := 4) (pc' := 34) C dX12_addCube_32 rfl rfl ?_
      obtain ⟨z17, hz17, hr⟩ := ob hr
      obtain ⟨x18, hx18, hr⟩ := ob hr
      obtain ⟨fhz17, hz17⟩ := rcv_sp hz17
      refine j_callV (ci := 9) (As := [.int s1.1]) (rest := [.int x16]) (st1 := [.int x18, .int x16]) (pc' := 37) C ⟨wm_1712, wm_71⟩ rfl hz17 (c_X12_bitsOf (nx := nx) hx18) yw_X12_bitsOf wm_1710 rfl rfl (by decide) ⟨by decide, by decide⟩ dX12_addCube_34 rfl rfl ?_
      refine j_iload_n (q := 1) (pc' := 38) C dX12_addCube_37 rfl rfl rfl ?_
      refine j_iload_n (q := 2) (pc' := 39) C dX12_addCube_38 rfl rfl rfl ?_
      obtain ⟨x19, hx19, hr⟩ := ob hr
      refine j_callS (As := [.int x16, .int x18, .int p1, .int p2]) (rest := []) (st1 := [.int x19]) (pc' := 42) C wm_1794 (c_X12_liesIn (nx := nx) (ce := s1.2) hx19) yw_X12_liesIn wm_1793 rfl rfl (by decide) ⟨by decide, by decide⟩ dX12_addCube_39 rfl rfl ?_
      refine j_if_eq (tgt := 54) (pc' := 45) C dX12_addCube_42 rfl rfl (fun hc => ?_) (fun hc => ?_)
      · have hr := ifT hc hr
        clear hc
        refine j_iinc (q := 4) (v := 1) (lv' := [(4, .int (s1.1 + 1)), (0, .ref this), (1, .int p1), (2, .int p2), (3, .int p3)]) (pc' := 57) C dX12_addCube_54 rfl kI_1 (by decide) rfl rfl ?_
        refine j_goto (tgt := 3) C dX12_addCube_57 rfl ?_
        exact j_lv [1, 2, 3, 4, 0] rfl (is1 _ (Option.some.inj hr).symm)
      · have hr := ifF hc hr
        clear hc
        refine j_aload_n (q := 0) (pc' := 46) C dX12_addCube_45 rfl rfl rfl ?_
        refine j_iload (q := 4) (pc' := 48) C dX12_addCube_46 rfl rfl ?_
        obtain ⟨z20, hz20, hr⟩ := ob hr
        obtain ⟨q21, hq21, hr⟩ := ob hr
        obtain ⟨fhz20, hz20⟩ := rcv_sp hz20
        refine j_callV (ci := 9) (As := [.int s1.1]) (rest := []) (st1 := []) (pc' := 51) C ⟨wm_1798, wm_91⟩ rfl hz20 (c_X12_outCube (nx := nx) hq21) yw_X12_outCube wm_1796 rfl rfl (by decide) ⟨by decide, by decide⟩ dX12_addCube_48 rfl rfl ?_
        refine j_goto (tgt := 3) C dX12_addCube_51 rfl ?_
        exact j_lv [0, 1, 2, 3, 4] rfl (is1 _ (Option.some.inj hr).symm)
def m_X12_manyOf (ce : Ce) (this : Nat) (p1 : Int32) : Option (Int32) :=
  (it (fun s1 =>
    (gA ce 9 0 this).bind fun x4 =>
    (aI ce x4 17).bind fun x5 =>
    if x5 ≤ s1.2 then
      some (Sum.inr s1.1)
    else
      (rcv ce 9 this).bind fun z6 =>
      (m_X12_frameOf ce this s1.2).bind fun x7 =>
      if x7 = p1 then
        some (Sum.inl ((s1.1 + 1), (s1.2 + 1)))
      else
        some (Sum.inl ((s1.1 + 0), (s1.2 + 1)))
  ) FU (0, 0)).bind fun o2 =>
  some o2
set_option maxRecDepth 100000 in
set_option maxHeartbeats 4000000 in
theorem c_X12_manyOf {nx : Nat} {ce : Ce} {this : Nat} {p1 : Int32} {q : Int32} (hr : m_X12_manyOf ce this p1 = some q) : Ct yX12_manyOf cX12_manyOf 4 (some .int) 1 21 0 0 [.ref this, .int p1] nx ce (some (.int q)) ce := by
  unfold m_X12_manyOf at hr
  refine ct_of (by decide) (by decide) ?_
  intro G C hq hret hin
  show Jd G 0 0 nx ce 0 [(0, .ref this), (1, .int p1)] []
  refine j_iconst (v := 0) (pc' := 1) C dX12_manyOf_0 kI_0 rfl ?_
  refine j_istore_n (lv' := [(2, .int 0), (0, .ref this), (1, .int p1)]) (pc' := 2) C dX12_manyOf_1 rfl (by decide) rfl rfl ?_
  refine j_iconst (v := 0) (pc' := 3) C dX12_manyOf_2 kI_0 rfl ?_
  refine j_istore_n (lv' := [(3, .int 0), (2, .int 0), (0, .ref this), (1, .int p1)]) (pc' := 4) C dX12_manyOf_3 rfl (by decide) rfl rfl ?_
  obtain ⟨o2, ho2, ro2⟩ := ob hr
  have ko2 : Jd G 0 0 nx ce 38 [(2, .int o2)] [] := by
    have hr := ro2
    refine j_iload_n (q := 0) (pc' := 39) C dX12_manyOf_38 rfl rfl rfl ?_
    have hr := Option.some.inj hr
    subst hr
    exact j_iret C hq hret dX12_manyOf_39
  refine j_lv [2, 3, 1, 0] rfl (it_J (J := (fun s1 => Jd G 0 0 nx ce 4 [(0, .ref this), (1, .int p1), (2, .int s1.1), (3, .int s1.2)] [])) ?_ ho2)
  clear ho2
  intro s1 r3 hr is1 es1
  refine j_iload_n (q := 3) (pc' := 5) C dX12_manyOf_4 rfl rfl rfl ?_
  refine j_aload_n (q := 0) (pc' := 6) C dX12_manyOf_5 rfl rfl rfl ?_
  obtain ⟨x4, hx4, hr⟩ := ob hr
  refine j_getA (pc' := 9) C dX12_manyOf_6 fl_X12_8 hx4 rfl ?_
  refine j_bipush (v := 17) (pc' := 11) C dX12_manyOf_9 kB_17 rfl ?_
  obtain ⟨x5, hx5, hr⟩ := ob hr
  refine j_iald (pc' := 12) C dX12_manyOf_11 hx5 rfl ?_
  refine j_ic_ge (tgt := 38) (pc' := 15) C dX12_manyOf_12 rfl rfl (fun hc => ?_) (fun hc => ?_)
  · have hr := ifT hc hr
    clear hc
    have hr := es1 _ (Option.some.inj hr).symm
    subst hr
    exact j_lv [2] rfl ko2
  · have hr := ifF hc hr
    clear hc
    refine j_iload_n (q := 2) (pc' := 16) C dX12_manyOf_15 rfl rfl rfl ?_
    refine j_aload_n (q := 0) (pc' := 17) C dX12_manyOf_16 rfl rfl rfl ?_
    refine j_iload_n (q := 3) (pc' := 18) C dX12_manyOf_17 rfl rfl rfl ?_
    obtain ⟨z6, hz6, hr⟩ := ob hr
    obtain ⟨x7, hx7, hr⟩ := ob hr
    obtain ⟨fhz6, hz6⟩ := rcv_sp hz6
    refine j_callV (ci := 9) (As := [.int s1.2]) (rest := [.int s1.1]) (st1 := [.int x7, .int s1.1]) (pc' := 21) C ⟨wm_1655, wm_60⟩ rfl hz6 (c_X12_frameOf (nx := nx) hx7) yw_X12_frameOf wm_1653 rfl rfl (by decide) ⟨by decide, by decide⟩ dX12_manyOf_18 rfl rfl ?_
    refine j_iload_n (q := 1) (pc' := 22) C dX12_manyOf_21 rfl rfl rfl ?_
    refine j_ic_ne (tgt := 29) (pc' := 25) C dX12_manyOf_22 rfl rfl (fun hc => ?_) (fun hc => ?_)
    · have hr := ifF hc hr
      clear hc
      refine j_iconst (v := 0) (pc' := 30) C dX12_manyOf_29 kI_0 rfl ?_
      refine j_iadd (pc' := 31) C dX12_manyOf_30 rfl ?_
      refine j_istore_n (lv' := [(2, .int (s1.1 + 0)), (0, .ref this), (1, .int p1), (3, .int s1.2)]) (pc' := 32) C dX12_manyOf_31 rfl (by decide) rfl rfl ?_
      refine j_iinc (q := 3) (v := 1) (lv' := [(3, .int (s1.2 + 1)), (2, .int (s1.1 + 0)), (0, .ref this), (1, .int p1)]) (pc' := 35) C dX12_manyOf_32 rfl kI_1 (by decide) rfl rfl ?_
      refine j_goto (tgt := 4) C dX12_manyOf_35 rfl ?_
      exact j_lv [2, 3, 1, 0] rfl (is1 _ (Option.some.inj hr).symm)
    · have hr := ifT hc hr
      clear hc
      refine j_iconst (v := 1) (pc' := 26) C dX12_manyOf_25 kI_1 rfl ?_
      refine j_goto (tgt := 30) C dX12_manyOf_26 rfl ?_
      refine j_iadd (pc' := 31) C dX12_manyOf_30 rfl ?_
      refine j_istore_n (lv' := [(2, .int (s1.1 + 1)), (0, .ref this), (1, .int p1), (3, .int s1.2)]) (pc' := 32) C dX12_manyOf_31 rfl (by decide) rfl rfl ?_
      refine j_iinc (q := 3) (v := 1) (lv' := [(3, .int (s1.2 + 1)), (2, .int (s1.1 + 1)), (0, .ref this), (1, .int p1)]) (pc' := 35) C dX12_manyOf_32 rfl kI_1 (by decide) rfl rfl ?_
      refine j_goto (tgt := 4) C dX12_manyOf_35 rfl ?_
      exact j_lv [2, 3, 1, 0] rfl (is1 _ (Option.some.inj hr).symm)
def m_X12_cubeBy (ce : Ce) (this : Nat) (p1 : Int32) (p2 : Int32) : Option (Int32) :=
  (it (fun s1 =>
    (gA ce 9 0 this).bind fun x4 =>
    (aI ce x4 17).bind fun x5 =>
    if x5 ≤ s1.2 then
      some (Sum.inr (Sum.inr ()))
    else
      (rcv ce 9 this).bind fun z6 =>
      (m_X12_frameOf ce this s1.2).bind fun x7 =>
      if x7 = p1 then
        if s1.1 = p2 then
          some (Sum.inr (Sum.inl s1.2))
        else
          some (Sum.inl ((s1.1 + 1), (s1.2 + 1)))
      else
        some (Sum.inl (s1.1, (s1.2 + 1)))
  ) FU (0, 0)).bind fun o2 =>
  Sum.elim (fun wo2 => some wo2) (fun vo2 =>
    some (-1)
  ) o2
set_option maxRecDepth 100000 in
set_option maxHeartbeats 4000000 in
theorem c_X12_cubeBy {nx : Nat} {ce : Ce} {this : Nat} {p1 : Int32} {p2 : Int32} {q : Int32} (hr : m_X12_cubeBy ce this p1 p2 = some q) : Ct yX12_cubeBy cX12_cubeBy 5 (some .int) 1 21 0 0 [.ref this, .int p1, .int p2] nx ce (some (.int q)) ce := by
  unfold m_X12_cubeBy at hr
  refine ct_of (by decide) (by decide) ?_
  intro G C hq hret hin
  show Jd G 0 0 nx ce 0 [(0, .ref this), (1, .int p1), (2, .int p2)] []
  refine j_iconst (v := 0) (pc' := 1) C dX12_cubeBy_0 kI_0 rfl ?_
  refine j_istore_n (lv' := [(3, .int 0), (0, .ref this), (1, .int p1), (2, .int p2)]) (pc' := 2) C dX12_cubeBy_1 rfl (by decide) rfl rfl ?_
  refine j_iconst (v := 0) (pc' := 3) C dX12_cubeBy_2 kI_0 rfl ?_
  refine j_istore (lv' := [(4, .int 0), (3, .int 0), (0, .ref this), (1, .int p1), (2, .int p2)]) (pc' := 5) C dX12_cubeBy_3 (by decide) rfl rfl ?_
  obtain ⟨o2, ho2, ro2⟩ := ob hr
  have ko2 : ∀ vo2, o2 = Sum.inr vo2 → Jd G 0 0 nx ce 47 [] [] := by
    intro vo2 eo2
    rw [eo2] at ro2
    have hr := elR ro2
    refine j_iconst (v := -1) (pc' := 48) C dX12_cubeBy_47 kI_m1 rfl ?_
    have hr := Option.some.inj hr
    subst hr
    exact j_iret C hq hret dX12_cubeBy_48
  refine j_lv [2, 3, 4, 1, 0] rfl (it_J (J := (fun s1 => Jd G 0 0 nx ce 5 [(0, .ref this), (1, .int p1), (2, .int p2), (3, .int s1.1), (4, .int s1.2)] [])) ?_ ho2)
  clear ho2
  intro s1 r3 hr is1 es1
  refine j_iload (q := 4) (pc' := 7) C dX12_cubeBy_5 rfl rfl ?_
  refine j_aload_n (q := 0) (pc' := 8) C dX12_cubeBy_7 rfl rfl rfl ?_
  obtain ⟨x4, hx4, hr⟩ := ob hr
  refine j_getA (pc' := 11) C dX12_cubeBy_8 fl_X12_8 hx4 rfl ?_
  refine j_bipush (v := 17) (pc' := 13) C dX12_cubeBy_11 kB_17 rfl ?_
  obtain ⟨x5, hx5, hr⟩ := ob hr
  refine j_iald (pc' := 14) C dX12_cubeBy_13 hx5 rfl ?_
  refine j_ic_ge (tgt := 47) (pc' := 17) C dX12_cubeBy_14 rfl rfl (fun hc => ?_) (fun hc => ?_)
  · have hr := ifT hc hr
    clear hc
    have hr := es1 _ (Option.some.inj hr).symm
    subst hr
    exact j_lv [] rfl (ko2 _ rfl)
  · have hr := ifF hc hr
    clear hc
    refine j_aload_n (q := 0) (pc' := 18) C dX12_cubeBy_17 rfl rfl rfl ?_
    refine j_iload (q := 4) (pc' := 20) C dX12_cubeBy_18 rfl rfl ?_
    obtain ⟨z6, hz6, hr⟩ := ob hr
    obtain ⟨x7, hx7, hr⟩ := ob hr
    obtain ⟨fhz6, hz6⟩ := rcv_sp hz6
    refine j_callV (ci := 9) (As := [.int s1.2]) (rest := []) (st1 := [.int x7]) (pc' := 23) C ⟨wm_1655, wm_60⟩ rfl hz6 (c_X12_frameOf (nx := nx) hx7) yw_X12_frameOf wm_1653 rfl rfl (by decide) ⟨by decide, by decide⟩ dX12_cubeBy_20 rfl rfl ?_
    refine j_iload_n (q := 1) (pc' := 24) C dX12_cubeBy_23 rfl rfl rfl ?_
    refine j_ic_eq (tgt := 30) (pc' := 27) C dX12_cubeBy_24 rfl rfl (fun hc => ?_) (fun hc => ?_)
    · have hr := ifT hc hr
      clear hc
      refine j_iload_n (q := 3) (pc' := 31) C dX12_cubeBy_30 rfl rfl rfl ?_
      refine j_iload_n (q := 2) (pc' := 32) C dX12_cubeBy_31 rfl rfl rfl ?_
      refine j_ic_ne (tgt := 38) (pc' := 35) C dX12_cubeBy_32 rfl rfl (fun hc => ?_) (fun hc => ?_)
      · have hr := ifF hc hr
        clear hc
        refine j_iinc (q := 3) (v := 1) (lv' := [(3, .int (s1.1 + 1)), (0, .ref this), (1, .int p1), (2, .int p2), (4, .int s1.2)]) (pc' := 41) C dX12_cubeBy_38 rfl kI_1 (by decide) rfl rfl ?_
        refine j_iinc (q := 4) (v := 1) (lv' := [(4, .int (s1.2 + 1)), (3, .int (s1.1 + 1)), (0, .ref this), (1, .int p1), (2, .int p2)]) (pc' := 44) C dX12_cubeBy_41 rfl kI_1 (by decide) rfl rfl ?_
        refine j_goto (tgt := 5) C dX12_cubeBy_44 rfl ?_
        exact j_lv [2, 3, 4, 1, 0] rfl (is1 _ (Option.some.inj hr).symm)
      · have hr := ifT hc hr
        clear hc
        refine j_iload (q := 4) (pc' := 37) C dX12_cubeBy_35 rfl rfl ?_
        have hr := es1 _ (Option.some.inj hr).symm
        subst hr
        have hr := elL ro2
        have hr := Option.some.inj hr
        subst hr
        exact j_iret C hq hret dX12_cubeBy_37
    · have hr := ifF hc hr
      clear hc
      refine j_goto (tgt := 41) C dX12_cubeBy_27 rfl ?_
      refine j_iinc (q := 4) (v := 1) (lv' := [(4, .int (s1.2 + 1)), (0, .ref this), (1, .int p1), (2, .int p2), (3, .int s1.1)]) (pc' := 44) C dX12_cubeBy_41 rfl kI_1 (by decide) rfl rfl ?_
      refine j_goto (tgt := 5) C dX12_cubeBy_44 rfl ?_
      exact j_lv [1, 2, 3, 4, 0] rfl (is1 _ (Option.some.inj hr).symm)
def m_X12_isAhead (ce : Ce) (this : Nat) (p1 : Int32) (p2 : Int32) : Option (Int32) :=
  (gA ce 9 0 this).bind fun x1 =>
  (aI ce x1 15).bind fun x2 =>
  if x2 = 0 then
    (gA ce 9 2 this).bind fun x9 =>
    (aG ce x9 p1).bind fun x10 =>
    (gA ce 9 2 this).bind fun x11 =>
    (aG ce x11 p2).bind fun x12 =>
    if 0 ≤ (Op.cmpValue (FP.fcmp x10 x12) .g) then
      some 0
    else
      some 1
  else
    (gA ce 9 0 this).bind fun x3 =>
    (aI ce x3 15).bind fun x4 =>
    if x4 = 2 then
      (gA ce 9 2 this).bind fun x5 =>
      (aG ce x5 p1).bind fun x6 =>
      (gA ce 9 2 this).bind fun x7 =>
      (aG ce x7 p2).bind fun x8 =>
      if (Op.cmpValue (FP.fcmp x6 x8) .l) ≤ 0 then
        some 0
      else
        some 1
    else
      some 0
set_option maxRecDepth 100000 in
set_option maxHeartbeats 4000000 in
theorem c_X12_isAhead {nx : Nat} {ce : Ce} {this : Nat} {p1 : Int32} {p2 : Int32} {q : Int32} (hr : m_X12_isAhead ce this p1 p2 = some q) : Ct yX12_isAhead cX12_isAhead 3 (some .boolean) 0 0 0 0 [.ref this, .int p1, .int p2] nx ce (some (.int q)) ce := by
  unfold m_X12_isAhead at hr
  refine ct_of (by decide) (by decide) ?_
  intro G C hq hret hin
  show Jd G 0 0 nx ce 0 [(0, .ref this), (1, .int p1), (2, .int p2)] []
  refine j_aload_n (q := 0) (pc' := 1) C dX12_isAhead_0 rfl rfl rfl ?_
  obtain ⟨x1, hx1, hr⟩ := ob hr
  refine j_getA (pc' := 4) C dX12_isAhead_1 fl_X12_8 hx1 rfl ?_
  refine j_bipush (v := 15) (pc' := 6) C dX12_isAhead_4 kB_15 rfl ?_
  obtain ⟨x2, hx2, hr⟩ := ob hr
  refine j_iald (pc' := 7) C dX12_isAhead_6 hx2 rfl ?_
  refine j_if_ne (tgt := 34) (pc' := 10) C dX12_isAhead_7 rfl rfl (fun hc => ?_) (fun hc => ?_)
  · have hr := ifF hc hr
    clear hc
    refine j_aload_n (q := 0) (pc' := 35) C dX12_isAhead_34 rfl rfl rfl ?_
    obtain ⟨x3, hx3, hr⟩ := ob hr
    refine j_getA (pc' := 38) C dX12_isAhead_35 fl_X12_8 hx3 rfl ?_
    refine j_bipush (v := 15) (pc' := 40) C dX12_isAhead_38 kB_15 rfl ?_
    obtain ⟨x4, hx4, hr⟩ := ob hr
    refine j_iald (pc' := 41) C dX12_isAhead_40 hx4 rfl ?_
    refine j_iconst (v := 2) (pc' := 42) C dX12_isAhead_41 kI_2 rfl ?_
    refine j_ic_ne (tgt := 65) (pc' := 45) C dX12_isAhead_42 rfl rfl (fun hc => ?_) (fun hc => ?_)
    · have hr := ifF hc hr
      clear hc
      refine j_iconst (v := 0) (pc' := 66) C dX12_isAhead_65 kI_0 rfl ?_
      have hr := Option.some.inj hr
      subst hr
      exact j_zret C hq hret rfl dX12_isAhead_66
    · have hr := ifT hc hr
      clear hc
      refine j_aload_n (q := 0) (pc' := 46) C dX12_isAhead_45 rfl rfl rfl ?_
      obtain ⟨x5, hx5, hr⟩ := ob hr
      refine j_getA (pc' := 49) C dX12_isAhead_46 fl_X12_17 hx5 rfl ?_
      refine j_iload_n (q := 1) (pc' := 50) C dX12_isAhead_49 rfl rfl rfl ?_
      obtain ⟨x6, hx6, hr⟩ := ob hr
      refine j_fald (pc' := 51) C dX12_isAhead_50 hx6 rfl ?_
      refine j_aload_n (q := 0) (pc' := 52) C dX12_isAhead_51 rfl rfl rfl ?_
      obtain ⟨x7, hx7, hr⟩ := ob hr
      refine j_getA (pc' := 55) C dX12_isAhead_52 fl_X12_17 hx7 rfl ?_
      refine j_iload_n (q := 2) (pc' := 56) C dX12_isAhead_55 rfl rfl rfl ?_
      obtain ⟨x8, hx8, hr⟩ := ob hr
      refine j_fald (pc' := 57) C dX12_isAhead_56 hx8 rfl ?_
      refine j_fcmp (pc' := 58) C dX12_isAhead_57 rfl ?_
      refine j_if_le (tgt := 65) (pc' := 61) C dX12_isAhead_58 rfl rfl (fun hc => ?_) (fun hc => ?_)
      · have hr := ifT hc hr
        clear hc
        refine j_iconst (v := 0) (pc' := 66) C dX12_isAhead_65 kI_0 rfl ?_
        have hr := Option.some.inj hr
        subst hr
        exact j_zret C hq hret rfl dX12_isAhead_66
      · have hr := ifF hc hr
        clear hc
        refine j_iconst (v := 1) (pc' := 62) C dX12_isAhead_61 kI_1 rfl ?_
        refine j_goto (tgt := 66) C dX12_isAhead_62 rfl ?_
        have hr := Option.some.inj hr
        subst hr
        exact j_zret C hq hret rfl dX12_isAhead_66
  · have hr := ifT hc hr
    clear hc
    refine j_aload_n (q := 0) (pc' := 11) C dX12_isAhead_10 rfl rfl rfl ?_
    obtain ⟨x9, hx9, hr⟩ := ob hr
    refine j_getA (pc' := 14) C dX12_isAhead_11 fl_X12_17 hx9 rfl ?_
    refine j_iload_n (q := 1) (pc' := 15) C dX12_isAhead_14 rfl rfl rfl ?_
    obtain ⟨x10, hx10, hr⟩ := ob hr
    refine j_fald (pc' := 16) C dX12_isAhead_15 hx10 rfl ?_
    refine j_aload_n (q := 0) (pc' := 17) C dX12_isAhead_16 rfl rfl rfl ?_
    obtain ⟨x11, hx11, hr⟩ := ob hr
    refine j_getA (pc' := 20) C dX12_isAhead_17 fl_X12_17 hx11 rfl ?_
    refine j_iload_n (q := 2) (pc' := 21) C dX12_isAhead_20 rfl rfl rfl ?_
    obtain ⟨x12, hx12, hr⟩ := ob hr
    refine j_fald (pc' := 22) C dX12_isAhead_21 hx12 rfl ?_
    refine j_fcmp (pc' := 23) C dX12_isAhead_22 rfl ?_
    refine j_if_ge (tgt := 30) (pc' := 26) C dX12_isAhead_23 rfl rfl (fun hc => ?_) (fun hc => ?_)
    · have hr := ifT hc hr
      clear hc
      refine j_iconst (v := 0) (pc' := 31) C dX12_isAhead_30 kI_0 rfl ?_
      refine j_goto (tgt := 66) C dX12_isAhead_31 rfl ?_
      have hr := Option.some.inj hr
      subst hr
      exact j_zret C hq hret rfl dX12_isAhead_66
    · have hr := ifF hc hr
      clear hc
      refine j_iconst (v := 1) (pc' := 27) C dX12_isAhead_26 kI_1 rfl ?_
      refine j_goto (tgt := 66) C dX12_isAhead_27 rfl ?_
      have hr := Option.some.inj hr
      subst hr
      exact j_zret C hq hret rfl dX12_isAhead_66
def m_X12_layOrder (ce : Ce) (this : Nat) : Option (Unit × Ce) :=
  (it (fun s1 =>
    (gA s1.2 9 0 this).bind fun x4 =>
    (aI s1.2 x4 3).bind fun x5 =>
    if x5 ≤ s1.1 then
      some (Sum.inr ((), s1.2))
    else
      (it (fun s6 =>
        if s6.1 ≤ 0 then
          some (Sum.inr (s6.1, s6.2))
        else
          (gA s6.2 9 23 this).bind fun x11 =>
          (aI s6.2 x11 (s6.1 - 1)).bind fun x12 =>
          (rcv s6.2 9 this).bind fun z13 =>
          (m_X12_isAhead s6.2 this s1.1 x12).bind fun x14 =>
          if x14 = 0 then
            some (Sum.inr (s6.1, s6.2))
          else
            (gA s6.2 9 23 this).bind fun x15 =>
            (gA s6.2 9 23 this).bind fun x16 =>
            (aI s6.2 x16 (s6.1 - 1)).bind fun x17 =>
            (sI s6.2 x15 s6.1 x17).bind fun c18 =>
            some (Sum.inl ((s6.1 + (-1)), c18))
      ) FU (s1.1, s1.2)).bind fun o7 =>
      (gA o7.2 9 23 this).bind fun x9 =>
      (sI o7.2 x9 o7.1 s1.1).bind fun c10 =>
      some (Sum.inl ((s1.1 + 1), c10))
  ) FU (0, ce)).bind fun o2 =>
  some ((), o2.2)
set_option maxRecDepth 100000 in
set_option maxHeartbeats 4000000 in
theorem c_X12_layOrder {nx : Nat} {ce : Ce} {this : Nat} {q : Unit × Ce} (hr : m_X12_layOrder ce this = some q) : Ct yX12_layOrder cX12_layOrder 3 none 1 22 0 0 [.ref this] nx ce none q.2 := by
  unfold m_X12_layOrder at hr
  refine ct_of (by decide) (by decide) ?_
  intro G C hq hret hin
  show Jd G 0 0 nx ce 0 [(0, .ref this)] []
  refine j_iconst (v := 0) (pc' := 1) C dX12_layOrder_0 kI_0 rfl ?_
  refine j_istore_n (lv' := [(1, .int 0), (0, .ref this)]) (pc' := 2) C dX12_layOrder_1 rfl (by decide) rfl rfl ?_
  obtain ⟨o2, ho2, ro2⟩ := ob hr
  have ko2 : Jd G 0 0 nx o2.2 67 [] [] := by
    have hr := ro2
    have hr := Option.some.inj hr
    subst hr
    exact j_vret C hq hret dX12_layOrder_67
  refine j_lv [1, 0] rfl (it_J (J := (fun s1 => Jd G 0 0 nx s1.2 2 [(0, .ref this), (1, .int s1.1)] [])) ?_ ho2)
  clear ho2
  intro s1 r3 hr is1 es1
  refine j_iload_n (q := 1) (pc' := 3) C dX12_layOrder_2 rfl rfl rfl ?_
  refine j_aload_n (q := 0) (pc' := 4) C dX12_layOrder_3 rfl rfl rfl ?_
  obtain ⟨x4, hx4, hr⟩ := ob hr
  refine j_getA (pc' := 7) C dX12_layOrder_4 fl_X12_8 hx4 rfl ?_
  refine j_iconst (v := 3) (pc' := 8) C dX12_layOrder_7 kI_3 rfl ?_
  obtain ⟨x5, hx5, hr⟩ := ob hr
  refine j_iald (pc' := 9) C dX12_layOrder_8 hx5 rfl ?_
  refine j_ic_ge (tgt := 67) (pc' := 12) C dX12_layOrder_9 rfl rfl (fun hc => ?_) (fun hc => ?_)
  · have hr := ifT hc hr
    clear hc
    have hr := es1 _ (Option.some.inj hr).symm
    subst hr
    exact j_lv [] rfl ko2
  · have hr := ifF hc hr
    clear hc
    refine j_iload_n (q := 1) (pc' := 13) C dX12_layOrder_12 rfl rfl rfl ?_
    refine j_istore_n (lv' := [(2, .int s1.1), (0, .ref this), (1, .int s1.1)]) (pc' := 14) C dX12_layOrder_13 rfl (by decide) rfl rfl ?_
    obtain ⟨o7, ho7, ro7⟩ := ob hr
    have ko7 : Jd G 0 0 nx o7.2 54 [(0, .ref this), (1, .int s1.1), (2, .int o7.1)] [] := by
      have hr := ro7
      refine j_aload_n (q := 0) (pc' := 55) C dX12_layOrder_54 rfl rfl rfl ?_
      obtain ⟨x9, hx9, hr⟩ := ob hr
      refine j_getA (pc' := 58) C dX12_layOrder_55 fl_X12_47 hx9 rfl ?_
      refine j_iload_n (q := 2) (pc' := 59) C dX12_layOrder_58 rfl rfl rfl ?_
      refine j_iload_n (q := 1) (pc' := 60) C dX12_layOrder_59 rfl rfl rfl ?_
      obtain ⟨c10, hc10, hr⟩ := ob hr
      refine j_iast (pc' := 61) C dX12_layOrder_60 hc10 rfl ?_
      refine j_iinc (q := 1) (v := 1) (lv' := [(1, .int (s1.1 + 1)), (0, .ref this), (2, .int o7.1)]) (pc' := 64) C dX12_layOrder_61 rfl kI_1 (by decide) rfl rfl ?_
      refine j_goto (tgt := 2) C dX12_layOrder_64 rfl ?_
      exact j_lv [1, 0] rfl (is1 _ (Option.some.inj hr).symm)
    refine j_lv [1, 2, 0] rfl (it_J (J := (fun s6 => Jd G 0 0 nx s6.2 14 [(0, .ref this), (1, .int s1.1), (2, .int s6.1)] [])) ?_ ho7)
    clear ho7
    intro s6 r8 hr is6 es6
    refine j_iload_n (q := 2) (pc' := 15) C dX12_layOrder_14 rfl rfl rfl ?_
    refine j_if_le (tgt := 54) (pc' := 18) C dX12_layOrder_15 rfl rfl (fun hc => ?_) (fun hc => ?_)
    · have hr := ifT hc hr
      clear hc
      have hr := es6 _ (Option.some.inj hr).symm
      subst hr
      exact j_lv [0, 1, 2] rfl ko7
    · have hr := ifF hc hr
      clear hc
      refine j_aload_n (q := 0) (pc' := 19) C dX12_layOrder_18 rfl rfl rfl ?_
      refine j_iload_n (q := 1) (pc' := 20) C dX12_layOrder_19 rfl rfl rfl ?_
      refine j_aload_n (q := 0) (pc' := 21) C dX12_layOrder_20 rfl rfl rfl ?_
      obtain ⟨x11, hx11, hr⟩ := ob hr
      refine j_getA (pc' := 24) C dX12_layOrder_21 fl_X12_47 hx11 rfl ?_
      refine j_iload_n (q := 2) (pc' := 25) C dX12_layOrder_24 rfl rfl rfl ?_
      refine j_iconst (v := 1) (pc' := 26) C dX12_layOrder_25 kI_1 rfl ?_
      refine j_isub (pc' := 27) C dX12_layOrder_26 rfl ?_
      obtain ⟨x12, hx12, hr⟩ := ob hr
      refine j_iald (pc' := 28) C dX12_layOrder_27 hx12 rfl ?_
      obtain ⟨z13, hz13, hr⟩ := ob hr
      obtain ⟨x14, hx14, hr⟩ := ob hr
      obtain ⟨fhz13, hz13⟩ := rcv_sp hz13
      refine j_callV (ci := 9) (As := [.int s1.1, .int x12]) (rest := []) (st1 := [.int x14]) (pc' := 31) C ⟨wm_1775, wm_86⟩ rfl hz13 (c_X12_isAhead (nx := nx) hx14) yw_X12_isAhead wm_1773 rfl rfl (by decide) ⟨by decide, by decide⟩ dX12_layOrder_28 rfl rfl ?_
      refine j_if_eq (tgt := 54) (pc' := 34) C dX12_layOrder_31 rfl rfl (fun hc => ?_) (fun hc => ?_)
      · have hr := ifT hc hr
        clear hc
        have hr := es6 _ (Option.some.inj hr).symm
        subst hr
        exact j_lv [0, 1, 2] rfl ko7
      · have hr := ifF hc hr
        clear hc
        refine j_aload_n (q := 0) (pc' := 35) C dX12_layOrder_34 rfl rfl rfl ?_
        obtain ⟨x15, hx15, hr⟩ := ob hr
        refine j_getA (pc' := 38) C dX12_layOrder_35 fl_X12_47 hx15 rfl ?_
        refine j_iload_n (q := 2) (pc' := 39) C dX12_layOrder_38 rfl rfl rfl ?_
        refine j_aload_n (q := 0) (pc' := 40) C dX12_layOrder_39 rfl rfl rfl ?_
        obtain ⟨x16, hx16, hr⟩ := ob hr
        refine j_getA (pc' := 43) C dX12_layOrder_40 fl_X12_47 hx16 rfl ?_
        refine j_iload_n (q := 2) (pc' := 44) C dX12_layOrder_43 rfl rfl rfl ?_
        refine j_iconst (v := 1) (pc' := 45) C dX12_layOrder_44 kI_1 rfl ?_
        refine j_isub (pc' := 46) C dX12_layOrder_45 rfl ?_
        obtain ⟨x17, hx17, hr⟩ := ob hr
        refine j_iald (pc' := 47) C dX12_layOrder_46 hx17 rfl ?_
        obtain ⟨c18, hc18, hr⟩ := ob hr
        refine j_iast (pc' := 48) C dX12_layOrder_47 hc18 rfl ?_
        refine j_iinc (q := 2) (v := -1) (lv' := [(2, .int (s6.1 + (-1))), (0, .ref this), (1, .int s1.1)]) (pc' := 51) C dX12_layOrder_48 rfl kI_m1 (by decide) rfl rfl ?_
        refine j_goto (tgt := 14) C dX12_layOrder_51 rfl ?_
        exact j_lv [1, 2, 0] rfl (is6 _ (Option.some.inj hr).symm)
def m_X12_widen (ce : Ce) (this : Nat) (p1 : Int32) (p2 : Int32) : Option (Int32 × Ce) :=
  (rcv ce 9 this).bind fun z1 =>
  (m_X12_states ce this).bind fun x2 =>
  (rcv ce 9 this).bind fun z3 =>
  (m_X12_layOrder ce this).bind fun q4 =>
  (it (fun s5 =>
    (gA s5.2 9 0 this).bind fun x8 =>
    (aI s5.2 x8 3).bind fun x9 =>
    if x9 ≤ s5.1.2 then
      some (Sum.inr (s5.1.1, s5.2))
    else
      (gA s5.2 9 23 this).bind fun x10 =>
      (aI s5.2 x10 s5.1.2).bind fun x11 =>
      (rcv s5.2 9 this).bind fun z12 =>
      (m_X12_cubeSet s5.2 this (s5.1.1 &&& ((1 <<< (x11 &&& 31)) ^^^ (-1))) (p1 &&& (s5.1.1 &&& ((1 <<< (x11 &&& 31)) ^^^ (-1))))).bind fun x13 =>
      (rcv s5.2 9 this).bind fun z14 =>
      (m_X12_starts s5.2 this).bind fun x15 =>
      if (lg_cmp (x13 &&& x15) 0) = 0 then
        (rcv s5.2 9 this).bind fun z16 =>
        (m_X12_isAsked s5.2 this (s5.1.1 &&& ((1 <<< (x11 &&& 31)) ^^^ (-1))) (p1 &&& (s5.1.1 &&& ((1 <<< (x11 &&& 31)) ^^^ (-1)))) (p2 - 1)).bind fun q17 =>
        if q17.1 = 0 then
          some (Sum.inl ((s5.1.1, (s5.1.2 + 1)), q17.2))
        else
          some (Sum.inl (((s5.1.1 &&& ((1 <<< (x11 &&& 31)) ^^^ (-1))), (s5.1.2 + 1)), q17.2))
      else
        some (Sum.inl ((s5.1.1, (s5.1.2 + 1)), s5.2))
  ) FU (((x2 - 1), 0), q4.2)).bind fun o6 =>
  some (o6.1, o6.2)
set_option maxRecDepth 100000 in
set_option maxHeartbeats 4000000 in
theorem c_X12_widen {nx : Nat} {ce : Ce} {this : Nat} {p1 : Int32} {p2 : Int32} {q : Int32 × Ce} (hr : m_X12_widen ce this p1 p2 = some q) : Ct yX12_widen cX12_widen 6 (some .int) 7 156 0 0 [.ref this, .int p1, .int p2] nx ce (some (.int q.1)) q.2 := by
  unfold m_X12_widen at hr
  refine ct_of (by decide) (by decide) ?_
  intro G C hq hret hin
  show Jd G 0 0 nx ce 0 [(0, .ref this), (1, .int p1), (2, .int p2)] []
  refine j_aload_n (q := 0) (pc' := 1) C dX12_widen_0 rfl rfl rfl ?_
  obtain ⟨z1, hz1, hr⟩ := ob hr
  obtain ⟨x2, hx2, hr⟩ := ob hr
  obtain ⟨fhz1, hz1⟩ := rcv_sp hz1
  refine j_callV (ci := 9) (As := []) (rest := []) (st1 := [.int x2]) (pc' := 4) C ⟨wm_1632, wm_57⟩ rfl hz1 (c_X12_states (nx := nx) hx2) yw_X12_states wm_1630 rfl rfl (by decide) ⟨by decide, by decide⟩ dX12_widen_1 rfl rfl ?_
  refine j_iconst (v := 1) (pc' := 5) C dX12_widen_4 kI_1 rfl ?_
  refine j_isub (pc' := 6) C dX12_widen_5 rfl ?_
  refine j_istore_n (lv' := [(3, .int (x2 - 1)), (0, .ref this), (1, .int p1), (2, .int p2)]) (pc' := 7) C dX12_widen_6 rfl (by decide) rfl rfl ?_
  refine j_aload_n (q := 1) (pc' := 8) C dX12_widen_7 rfl rfl rfl ?_
  obtain ⟨z3, hz3, hr⟩ := ob hr
  obtain ⟨q4, hq4, hr⟩ := ob hr
  obtain ⟨fhz3, hz3⟩ := rcv_sp hz3
  refine j_callV (ci := 9) (As := []) (rest := []) (st1 := []) (pc' := 11) C ⟨wm_1771, wm_85⟩ rfl hz3 (c_X12_layOrder (nx := nx) hq4) yw_X12_layOrder wm_1769 rfl rfl (by decide) ⟨by decide, by decide⟩ dX12_widen_8 rfl rfl ?_
  refine j_iconst (v := 0) (pc' := 12) C dX12_widen_11 kI_0 rfl ?_
  refine j_istore (lv' := [(4, .int 0), (3, .int (x2 - 1)), (0, .ref this), (1, .int p1), (2, .int p2)]) (pc' := 14) C dX12_widen_12 (by decide) rfl rfl ?_
  obtain ⟨o6, ho6, ro6⟩ := ob hr
  have ko6 : Jd G 0 0 nx o6.2 85 [(3, .int o6.1)] [] := by
    have hr := ro6
    refine j_iload_n (q := 0) (pc' := 86) C dX12_widen_85 rfl rfl rfl ?_
    have hr := Option.some.inj hr
    subst hr
    exact j_iret C hq hret dX12_widen_86
  refine j_lv [2, 3, 4, 1, 0] rfl (it_J (J := (fun s5 => Jd G 0 0 nx s5.2 14 [(0, .ref this), (1, .int p1), (2, .int p2), (3, .int s5.1.1), (4, .int s5.1.2)] [])) ?_ ho6)
  clear ho6
  intro s5 r7 hr is5 es5
  refine j_iload (q := 4) (pc' := 16) C dX12_widen_14 rfl rfl ?_
  refine j_aload_n (q := 0) (pc' := 17) C dX12_widen_16 rfl rfl rfl ?_
  obtain ⟨x8, hx8, hr⟩ := ob hr
  refine j_getA (pc' := 20) C dX12_widen_17 fl_X12_8 hx8 rfl ?_
  refine j_iconst (v := 3) (pc' := 21) C dX12_widen_20 kI_3 rfl ?_
  obtain ⟨x9, hx9, hr⟩ := ob hr
  refine j_iald (pc' := 22) C dX12_widen_21 hx9 rfl ?_
  refine j_ic_ge (tgt := 85) (pc' := 25) C dX12_widen_22 rfl rfl (fun hc => ?_) (fun hc => ?_)
  · have hr := ifT hc hr
    clear hc
    have hr := es5 _ (Option.some.inj hr).symm
    subst hr
    exact j_lv [3] rfl ko6
  · have hr := ifF hc hr
    clear hc
    refine j_iload_n (q := 3) (pc' := 26) C dX12_widen_25 rfl rfl rfl ?_
    refine j_iconst (v := 1) (pc' := 27) C dX12_widen_26 kI_1 rfl ?_
    refine j_aload_n (q := 0) (pc' := 28) C dX12_widen_27 rfl rfl rfl ?_
    obtain ⟨x10, hx10, hr⟩ := ob hr
    refine j_getA (pc' := 31) C dX12_widen_28 fl_X12_47 hx10 rfl ?_
    refine j_iload (q := 4) (pc' := 33) C dX12_widen_31 rfl rfl ?_
    obtain ⟨x11, hx11, hr⟩ := ob hr
    refine j_iald (pc' := 34) C dX12_widen_33 hx11 rfl ?_
    refine j_ishl (pc' := 35) C dX12_widen_34 rfl ?_
    refine j_iconst (v := -1) (pc' := 36) C dX12_widen_35 kI_m1 rfl ?_
    refine j_ixor (pc' := 37) C dX12_widen_36 rfl ?_
    refine j_iand (pc' := 38) C dX12_widen_37 rfl ?_
    refine j_istore (lv' := [(5, .int (s5.1.1 &&& ((1 <<< (x11 &&& 31)) ^^^ (-1)))), (0, .ref this), (1, .int p1), (2, .int p2), (3, .int s5.1.1), (4, .int s5.1.2)]) (pc' := 40) C dX12_widen_38 (by decide) rfl rfl ?_
    refine j_aload_n (q := 1) (pc' := 41) C dX12_widen_40 rfl rfl rfl ?_
    refine j_iload (q := 0) (pc' := 43) C dX12_widen_41 rfl rfl ?_
    refine j_iload_n (q := 2) (pc' := 44) C dX12_widen_43 rfl rfl rfl ?_
    refine j_iload (q := 0) (pc' := 46) C dX12_widen_44 rfl rfl ?_
    refine j_iand (pc' := 47) C dX12_widen_46 rfl ?_
    obtain ⟨z12, hz12, hr⟩ := ob hr
    obtain ⟨x13, hx13, hr⟩ := ob hr
    obtain ⟨fhz12, hz12⟩ := rcv_sp hz12
    refine j_callV (ci := 9) (As := [.int (s5.1.1 &&& ((1 <<< (x11 &&& 31)) ^^^ (-1))), .int (p1 &&& (s5.1.1 &&& ((1 <<< (x11 &&& 31)) ^^^ (-1))))]) (rest := []) (st1 := [.long x13]) (pc' := 50) C ⟨wm_1716, wm_72⟩ rfl hz12 (c_X12_cubeSet (nx := nx) hx13) yw_X12_cubeSet wm_1714 rfl rfl (by decide) ⟨by decide, by decide⟩ dX12_widen_47 rfl rfl ?_
    refine j_aload_n (q := 1) (pc' := 51) C dX12_widen_50 rfl rfl rfl ?_
    obtain ⟨z14, hz14, hr⟩ := ob hr
    obtain ⟨x15, hx15, hr⟩ := ob hr
    obtain ⟨fhz14, hz14⟩ := rcv_sp hz14
    refine j_callV (ci := 9) (As := []) (rest := [.long x13]) (st1 := [.long x15, .long x13]) (pc' := 54) C ⟨wm_1700, wm_68⟩ rfl hz14 (c_X12_starts (nx := nx) hx15) yw_X12_starts wm_1698 rfl rfl (by decide) ⟨by decide, by decide⟩ dX12_widen_51 rfl rfl ?_
    refine j_land (pc' := 55) C dX12_widen_54 rfl ?_
    refine j_lconst (v := 0) (pc' := 56) C dX12_widen_55 kL_0 rfl ?_
    refine j_lcmp (pc' := 57) C dX12_widen_56 rfl ?_
    refine j_if_ne (tgt := 79) (pc' := 60) C dX12_widen_57 rfl rfl (fun hc => ?_) (fun hc => ?_)
    · have hr := ifF hc hr
      clear hc
      refine j_iinc (q := 5) (v := 1) (lv' := [(4, .int (s5.1.2 + 1)), (5, .int (s5.1.1 &&& ((1 <<< (x11 &&& 31)) ^^^ (-1)))), (0, .ref this), (1, .int p1), (2, .int p2), (3, .int s5.1.1)]) (pc' := 82) C dX12_widen_79 rfl kI_1 (by decide) rfl rfl ?_
      refine j_goto (tgt := 14) C dX12_widen_82 rfl ?_
      exact j_lv [2, 3, 4, 5, 0] rfl (is5 _ (Option.some.inj hr).symm)
    · have hr := ifT hc hr
      clear hc
      refine j_aload_n (q := 1) (pc' := 61) C dX12_widen_60 rfl rfl rfl ?_
      refine j_iload (q := 0) (pc' := 63) C dX12_widen_61 rfl rfl ?_
      refine j_iload_n (q := 2) (pc' := 64) C dX12_widen_63 rfl rfl rfl ?_
      refine j_iload (q := 0) (pc' := 66) C dX12_widen_64 rfl rfl ?_
      refine j_iand (pc' := 67) C dX12_widen_66 rfl ?_
      refine j_iload_n (q := 3) (pc' := 68) C dX12_widen_67 rfl rfl rfl ?_
      refine j_iconst (v := 1) (pc' := 69) C dX12_widen_68 kI_1 rfl ?_
      refine j_isub (pc' := 70) C dX12_widen_69 rfl ?_
      obtain ⟨z16, hz16, hr⟩ := ob hr
      obtain ⟨q17, hq17, hr⟩ := ob hr
      obtain ⟨fhz16, hz16⟩ := rcv_sp hz16
      refine j_callV (ci := 9) (As := [.int (s5.1.1 &&& ((1 <<< (x11 &&& 31)) ^^^ (-1))), .int (p1 &&& (s5.1.1 &&& ((1 <<< (x11 &&& 31)) ^^^ (-1)))), .int (p2 - 1)]) (rest := []) (st1 := [.int q17.1]) (pc' := 73) C ⟨wm_1779, wm_87⟩ rfl hz16 (c_X12_isAsked (nx := nx) hq17) yw_X12_isAsked wm_1777 rfl rfl (by decide) ⟨by decide, by decide⟩ dX12_widen_70 rfl rfl ?_
      refine j_if_eq (tgt := 79) (pc' := 76) C dX12_widen_73 rfl rfl (fun hc => ?_) (fun hc => ?_)
      · have hr := ifT hc hr
        clear hc
        refine j_iinc (q := 5) (v := 1) (lv' := [(4, .int (s5.1.2 + 1)), (5, .int (s5.1.1 &&& ((1 <<< (x11 &&& 31)) ^^^ (-1)))), (0, .ref this), (1, .int p1), (2, .int p2), (3, .int s5.1.1)]) (pc' := 82) C dX12_widen_79 rfl kI_1 (by decide) rfl rfl ?_
        refine j_goto (tgt := 14) C dX12_widen_82 rfl ?_
        exact j_lv [2, 3, 4, 5, 0] rfl (is5 _ (Option.some.inj hr).symm)
      · have hr := ifF hc hr
        clear hc
        refine j_iload (q := 0) (pc' := 78) C dX12_widen_76 rfl rfl ?_
        refine j_istore_n (lv' := [(3, .int (s5.1.1 &&& ((1 <<< (x11 &&& 31)) ^^^ (-1)))), (5, .int (s5.1.1 &&& ((1 <<< (x11 &&& 31)) ^^^ (-1)))), (0, .ref this), (1, .int p1), (2, .int p2), (4, .int s5.1.2)]) (pc' := 79) C dX12_widen_78 rfl (by decide) rfl rfl ?_
        refine j_iinc (q := 5) (v := 1) (lv' := [(4, .int (s5.1.2 + 1)), (3, .int (s5.1.1 &&& ((1 <<< (x11 &&& 31)) ^^^ (-1)))), (5, .int (s5.1.1 &&& ((1 <<< (x11 &&& 31)) ^^^ (-1)))), (0, .ref this), (1, .int p1), (2, .int p2)]) (pc' := 82) C dX12_widen_79 rfl kI_1 (by decide) rfl rfl ?_
        refine j_goto (tgt := 14) C dX12_widen_82 rfl ?_
        exact j_lv [3, 4, 5, 1, 0] rfl (is5 _ (Option.some.inj hr).symm)
def m_X12_ofLine (ce : Ce) (this : Nat) (p1 : Int32) (p2 : Int32) : Option (Int32) :=
  (gA ce 9 0 this).bind fun x1 =>
  (aI ce x1 ((5104 + (4 * p1)) + p2)).bind fun x2 =>
  some x2
set_option maxRecDepth 100000 in
set_option maxHeartbeats 4000000 in
theorem c_X12_ofLine {nx : Nat} {ce : Ce} {this : Nat} {p1 : Int32} {p2 : Int32} {q : Int32} (hr : m_X12_ofLine ce this p1 p2 = some q) : Ct yX12_ofLine cX12_ofLine 3 (some .int) 0 0 0 0 [.ref this, .int p1, .int p2] nx ce (some (.int q)) ce := by
  unfold m_X12_ofLine at hr
  refine ct_of (by decide) (by decide) ?_
  intro G C hq hret hin
  show Jd G 0 0 nx ce 0 [(0, .ref this), (1, .int p1), (2, .int p2)] []
  refine j_aload_n (q := 0) (pc' := 1) C dX12_ofLine_0 rfl rfl rfl ?_
  obtain ⟨x1, hx1, hr⟩ := ob hr
  refine j_getA (pc' := 4) C dX12_ofLine_1 fl_X12_8 hx1 rfl ?_
  refine j_sipush (v := 5104) (pc' := 7) C dX12_ofLine_4 kS_5104 rfl ?_
  refine j_iconst (v := 4) (pc' := 8) C dX12_ofLine_7 kI_4 rfl ?_
  refine j_iload_n (q := 1) (pc' := 9) C dX12_ofLine_8 rfl rfl rfl ?_
  refine j_imul (pc' := 10) C dX12_ofLine_9 rfl ?_
  refine j_iadd (pc' := 11) C dX12_ofLine_10 rfl ?_
  refine j_iload_n (q := 2) (pc' := 12) C dX12_ofLine_11 rfl rfl rfl ?_
  refine j_iadd (pc' := 13) C dX12_ofLine_12 rfl ?_
  obtain ⟨x2, hx2, hr⟩ := ob hr
  refine j_iald (pc' := 14) C dX12_ofLine_13 hx2 rfl ?_
  have hr := Option.some.inj hr
  subst hr
  exact j_iret C hq hret dX12_ofLine_14
def m_X12_oblige (ce : Ce) (this : Nat) (p1 : Int32) (p2 : Int32) (p3 : Int32) : Option (Unit × Ce) :=
  (gA ce 9 0 this).bind fun x1 =>
  (aI ce x1 9).bind fun x2 =>
  (gA ce 9 0 this).bind fun x3 =>
  (aI ce x3 10).bind fun x4 =>
  (sI ce x3 10 (x4 + 1)).bind fun c5 =>
  (gA c5 9 0 this).bind fun x6 =>
  (sI c5 x6 (5104 + (4 * x2)) p1).bind fun c7 =>
  (gA c7 9 0 this).bind fun x8 =>
  (sI c7 x8 ((5104 + (4 * x2)) + 1) p2).bind fun c9 =>
  (gA c9 9 0 this).bind fun x10 =>
  (gA c9 9 0 this).bind fun x11 =>
  (aI c9 x11 10).bind fun x12 =>
  (sI c9 x10 ((5104 + (4 * x2)) + 2) x12).bind fun c13 =>
  (gA c13 9 0 this).bind fun x14 =>
  (sI c13 x14 ((5104 + (4 * x2)) + 3) p3).bind fun c15 =>
  (gA c15 9 0 this).bind fun x16 =>
  (aI c15 x16 9).bind fun x17 =>
  (sI c15 x16 9 (x17 + 1)).bind fun c18 =>
  some ((), c18)
set_option maxRecDepth 100000 in
set_option maxHeartbeats 4000000 in
theorem c_X12_oblige {nx : Nat} {ce : Ce} {this : Nat} {p1 : Int32} {p2 : Int32} {p3 : Int32} {q : Unit × Ce} (hr : m_X12_oblige ce this p1 p2 p3 = some q) : Ct yX12_oblige cX12_oblige 5 none 0 0 0 0 [.ref this, .int p1, .int p2, .int p3] nx ce none q.2 := by
  unfold m_X12_oblige at hr
  refine ct_of (by decide) (by decide) ?_
  intro G C hq hret hin
  show Jd G 0 0 nx ce 0 [(0, .ref this), (1, .int p1), (2, .int p2), (3, .int p3)] []
  refine j_sipush (v := 5104) (pc' := 3) C dX12_oblige_0 kS_5104 rfl ?_
  refine j_iconst (v := 4) (pc' := 4) C dX12_oblige_3 kI_4 rfl ?_
  refine j_aload_n (q := 0) (pc' := 5) C dX12_oblige_4 rfl rfl rfl ?_
  obtain ⟨x1, hx1, hr⟩ := ob hr
  refine j_getA (pc' := 8) C dX12_oblige_5 fl_X12_8 hx1 rfl ?_
  refine j_bipush (v := 9) (pc' := 10) C dX12_oblige_8 kB_9 rfl ?_
  obtain ⟨x2, hx2, hr⟩ := ob hr
  refine j_iald (pc' := 11) C dX12_oblige_10 hx2 rfl ?_
  refine j_imul (pc' := 12) C dX12_oblige_11 rfl ?_
  refine j_iadd (pc' := 13) C dX12_oblige_12 rfl ?_
  refine j_istore (lv' := [(4, .int (5104 + (4 * x2))), (0, .ref this), (1, .int p1), (2, .int p2), (3, .int p3)]) (pc' := 15) C dX12_oblige_13 (by decide) rfl rfl ?_
  refine j_aload_n (q := 1) (pc' := 16) C dX12_oblige_15 rfl rfl rfl ?_
  obtain ⟨x3, hx3, hr⟩ := ob hr
  refine j_getA (pc' := 19) C dX12_oblige_16 fl_X12_8 hx3 rfl ?_
  refine j_bipush (v := 10) (pc' := 21) C dX12_oblige_19 kB_10 rfl ?_
  refine j_dup2 (pc' := 22) C dX12_oblige_21 rfl rfl rfl ?_
  obtain ⟨x4, hx4, hr⟩ := ob hr
  refine j_iald (pc' := 23) C dX12_oblige_22 hx4 rfl ?_
  refine j_iconst (v := 1) (pc' := 24) C dX12_oblige_23 kI_1 rfl ?_
  refine j_iadd (pc' := 25) C dX12_oblige_24 rfl ?_
  obtain ⟨c5, hc5, hr⟩ := ob hr
  refine j_iast (pc' := 26) C dX12_oblige_25 hc5 rfl ?_
  refine j_aload_n (q := 1) (pc' := 27) C dX12_oblige_26 rfl rfl rfl ?_
  obtain ⟨x6, hx6, hr⟩ := ob hr
  refine j_getA (pc' := 30) C dX12_oblige_27 fl_X12_8 hx6 rfl ?_
  refine j_iload (q := 0) (pc' := 32) C dX12_oblige_30 rfl rfl ?_
  refine j_iload_n (q := 2) (pc' := 33) C dX12_oblige_32 rfl rfl rfl ?_
  obtain ⟨c7, hc7, hr⟩ := ob hr
  refine j_iast (pc' := 34) C dX12_oblige_33 hc7 rfl ?_
  refine j_aload_n (q := 1) (pc' := 35) C dX12_oblige_34 rfl rfl rfl ?_
  obtain ⟨x8, hx8, hr⟩ := ob hr
  refine j_getA (pc' := 38) C dX12_oblige_35 fl_X12_8 hx8 rfl ?_
  refine j_iload (q := 0) (pc' := 40) C dX12_oblige_38 rfl rfl ?_
  refine j_iconst (v := 1) (pc' := 41) C dX12_oblige_40 kI_1 rfl ?_
  refine j_iadd (pc' := 42) C dX12_oblige_41 rfl ?_
  refine j_iload_n (q := 3) (pc' := 43) C dX12_oblige_42 rfl rfl rfl ?_
  obtain ⟨c9, hc9, hr⟩ := ob hr
  refine j_iast (pc' := 44) C dX12_oblige_43 hc9 rfl ?_
  refine j_aload_n (q := 1) (pc' := 45) C dX12_oblige_44 rfl rfl rfl ?_
  obtain ⟨x10, hx10, hr⟩ := ob hr
  refine j_getA (pc' := 48) C dX12_oblige_45 fl_X12_8 hx10 rfl ?_
  refine j_iload (q := 0) (pc' := 50) C dX12_oblige_48 rfl rfl ?_
  refine j_iconst (v := 2) (pc' := 51) C dX12_oblige_50 kI_2 rfl ?_
  refine j_iadd (pc' := 52) C dX12_oblige_51 rfl ?_
  refine j_aload_n (q := 1) (pc' := 53) C dX12_oblige_52 rfl rfl rfl ?_
  obtain ⟨x11, hx11, hr⟩ := ob hr
  refine j_getA (pc' := 56) C dX12_oblige_53 fl_X12_8 hx11 rfl ?_
  refine j_bipush (v := 10) (pc' := 58) C dX12_oblige_56 kB_10 rfl ?_
  obtain ⟨x12, hx12, hr⟩ := ob hr
  refine j_iald (pc' := 59) C dX12_oblige_58 hx12 rfl ?_
  obtain ⟨c13, hc13, hr⟩ := ob hr
  refine j_iast (pc' := 60) C dX12_oblige_59 hc13 rfl ?_
  refine j_aload_n (q := 1) (pc' := 61) C dX12_oblige_60 rfl rfl rfl ?_
  obtain ⟨x14, hx14, hr⟩ := ob hr
  refine j_getA (pc' := 64) C dX12_oblige_61 fl_X12_8 hx14 rfl ?_
  refine j_iload (q := 0) (pc' := 66) C dX12_oblige_64 rfl rfl ?_
  refine j_iconst (v := 3) (pc' := 67) C dX12_oblige_66 kI_3 rfl ?_
  refine j_iadd (pc' := 68) C dX12_oblige_67 rfl ?_
  refine j_iload_n (q := 4) (pc' := 69) C dX12_oblige_68 rfl rfl rfl ?_
  obtain ⟨c15, hc15, hr⟩ := ob hr
  refine j_iast (pc' := 70) C dX12_oblige_69 hc15 rfl ?_
  refine j_aload_n (q := 1) (pc' := 71) C dX12_oblige_70 rfl rfl rfl ?_
  obtain ⟨x16, hx16, hr⟩ := ob hr
  refine j_getA (pc' := 74) C dX12_oblige_71 fl_X12_8 hx16 rfl ?_
  refine j_bipush (v := 9) (pc' := 76) C dX12_oblige_74 kB_9 rfl ?_
  refine j_dup2 (pc' := 77) C dX12_oblige_76 rfl rfl rfl ?_
  obtain ⟨x17, hx17, hr⟩ := ob hr
  refine j_iald (pc' := 78) C dX12_oblige_77 hx17 rfl ?_
  refine j_iconst (v := 1) (pc' := 79) C dX12_oblige_78 kI_1 rfl ?_
  refine j_iadd (pc' := 80) C dX12_oblige_79 rfl ?_
  obtain ⟨c18, hc18, hr⟩ := ob hr
  refine j_iast (pc' := 81) C dX12_oblige_80 hc18 rfl ?_
  have hr := Option.some.inj hr
  subst hr
  exact j_vret C hq hret dX12_oblige_81
def m_X12_outLine (ce : Ce) (this : Nat) (p1 : Int32) : Option (Unit × Ce) :=
  (it (fun s1 =>
    (gA s1.2 9 0 this).bind fun x14 =>
    (aI s1.2 x14 9).bind fun x15 =>
    if ((5104 + (4 * x15)) - 4) ≤ s1.1 then
      some (Sum.inr ((), s1.2))
    else
      (gA s1.2 9 0 this).bind fun x16 =>
      (gA s1.2 9 0 this).bind fun x17 =>
      (aI s1.2 x17 (s1.1 + 4)).bind fun x18 =>
      (sI s1.2 x16 s1.1 x18).bind fun c19 =>
      some (Sum.inl ((s1.1 + 1), c19))
  ) FU ((5104 + (4 * p1)), ce)).bind fun o2 =>
  (gA o2.2 9 0 this).bind fun x4 =>
  (aI o2.2 x4 9).bind fun x5 =>
  (sI o2.2 x4 9 (x5 - 1)).bind fun c6 =>
  (it (fun s7 =>
    if 4 ≤ s7.1 then
      some (Sum.inr ((), s7.2))
    else
      (gA s7.2 9 0 this).bind fun x10 =>
      (gA s7.2 9 0 this).bind fun x11 =>
      (aI s7.2 x11 9).bind fun x12 =>
      (sI s7.2 x10 ((5104 + (4 * x12)) + s7.1) 0).bind fun c13 =>
      some (Sum.inl ((s7.1 + 1), c13))
  ) FU (0, c6)).bind fun o8 =>
  some ((), o8.2)
set_option maxRecDepth 100000 in
set_option maxHeartbeats 4000000 in
theorem c_X12_outLine {nx : Nat} {ce : Ce} {this : Nat} {p1 : Int32} {q : Unit × Ce} (hr : m_X12_outLine ce this p1 = some q) : Ct yX12_outLine cX12_outLine 3 none 0 0 0 0 [.ref this, .int p1] nx ce none q.2 := by
  unfold m_X12_outLine at hr
  refine ct_of (by decide) (by decide) ?_
  intro G C hq hret hin
  show Jd G 0 0 nx ce 0 [(0, .ref this), (1, .int p1)] []
  refine j_sipush (v := 5104) (pc' := 3) C dX12_outLine_0 kS_5104 rfl ?_
  refine j_iconst (v := 4) (pc' := 4) C dX12_outLine_3 kI_4 rfl ?_
  refine j_iload_n (q := 1) (pc' := 5) C dX12_outLine_4 rfl rfl rfl ?_
  refine j_imul (pc' := 6) C dX12_outLine_5 rfl ?_
  refine j_iadd (pc' := 7) C dX12_outLine_6 rfl ?_
  refine j_istore_n (lv' := [(2, .int (5104 + (4 * p1))), (0, .ref this), (1, .int p1)]) (pc' := 8) C dX12_outLine_7 rfl (by decide) rfl rfl ?_
  obtain ⟨o2, ho2, ro2⟩ := ob hr
  have ko2 : Jd G 0 0 nx o2.2 47 [(0, .ref this)] [] := by
    have hr := ro2
    refine j_aload_n (q := 0) (pc' := 48) C dX12_outLine_47 rfl rfl rfl ?_
    obtain ⟨x4, hx4, hr⟩ := ob hr
    refine j_getA (pc' := 51) C dX12_outLine_48 fl_X12_8 hx4 rfl ?_
    refine j_bipush (v := 9) (pc' := 53) C dX12_outLine_51 kB_9 rfl ?_
    refine j_dup2 (pc' := 54) C dX12_outLine_53 rfl rfl rfl ?_
    obtain ⟨x5, hx5, hr⟩ := ob hr
    refine j_iald (pc' := 55) C dX12_outLine_54 hx5 rfl ?_
    refine j_iconst (v := 1) (pc' := 56) C dX12_outLine_55 kI_1 rfl ?_
    refine j_isub (pc' := 57) C dX12_outLine_56 rfl ?_
    obtain ⟨c6, hc6, hr⟩ := ob hr
    refine j_iast (pc' := 58) C dX12_outLine_57 hc6 rfl ?_
    refine j_iconst (v := 0) (pc' := 59) C dX12_outLine_58 kI_0 rfl ?_
    refine j_istore_n (lv' := [(2, .int 0), (0, .ref this)]) (pc' := 60) C dX12_outLine_59 rfl (by decide) rfl rfl ?_
    obtain ⟨o8, ho8, ro8⟩ := ob hr
    have ko8 : Jd G 0 0 nx o8.2 92 [] [] := by
      have hr := ro8
      have hr := Option.some.inj hr
      subst hr
      exact j_vret C hq hret dX12_outLine_92
    refine j_lv [1, 0] rfl (it_J (J := (fun s7 => Jd G 0 0 nx s7.2 60 [(0, .ref this), (2, .int s7.1)] [])) ?_ ho8)
    clear ho8
    intro s7 r9 hr is7 es7
    refine j_iload_n (q := 1) (pc' := 61) C dX12_outLine_60 rfl rfl rfl ?_
    refine j_iconst (v := 4) (pc' := 62) C dX12_outLine_61 kI_4 rfl ?_
    refine j_ic_ge (tgt := 92) (pc' := 65) C dX12_outLine_62 rfl rfl (fun hc => ?_) (fun hc => ?_)
    · have hr := ifT hc hr
      clear hc
      have hr := es7 _ (Option.some.inj hr).symm
      subst hr
      exact j_lv [] rfl ko8
    · have hr := ifF hc hr
      clear hc
      refine j_aload_n (q := 0) (pc' := 66) C dX12_outLine_65 rfl rfl rfl ?_
      obtain ⟨x10, hx10, hr⟩ := ob hr
      refine j_getA (pc' := 69) C dX12_outLine_66 fl_X12_8 hx10 rfl ?_
      refine j_sipush (v := 5104) (pc' := 72) C dX12_outLine_69 kS_5104 rfl ?_
      refine j_iconst (v := 4) (pc' := 73) C dX12_outLine_72 kI_4 rfl ?_
      refine j_aload_n (q := 0) (pc' := 74) C dX12_outLine_73 rfl rfl rfl ?_
      obtain ⟨x11, hx11, hr⟩ := ob hr
      refine j_getA (pc' := 77) C dX12_outLine_74 fl_X12_8 hx11 rfl ?_
      refine j_bipush (v := 9) (pc' := 79) C dX12_outLine_77 kB_9 rfl ?_
      obtain ⟨x12, hx12, hr⟩ := ob hr
      refine j_iald (pc' := 80) C dX12_outLine_79 hx12 rfl ?_
      refine j_imul (pc' := 81) C dX12_outLine_80 rfl ?_
      refine j_iadd (pc' := 82) C dX12_outLine_81 rfl ?_
      refine j_iload_n (q := 1) (pc' := 83) C dX12_outLine_82 rfl rfl rfl ?_
      refine j_iadd (pc' := 84) C dX12_outLine_83 rfl ?_
      refine j_iconst (v := 0) (pc' := 85) C dX12_outLine_84 kI_0 rfl ?_
      obtain ⟨c13, hc13, hr⟩ := ob hr
      refine j_iast (pc' := 86) C dX12_outLine_85 hc13 rfl ?_
      refine j_iinc (q := 1) (v := 1) (lv' := [(2, .int (s7.1 + 1)), (0, .ref this)]) (pc' := 89) C dX12_outLine_86 rfl kI_1 (by decide) rfl rfl ?_
      refine j_goto (tgt := 60) C dX12_outLine_89 rfl ?_
      exact j_lv [1, 0] rfl (is7 _ (Option.some.inj hr).symm)
  refine j_lv [1, 0] rfl (it_J (J := (fun s1 => Jd G 0 0 nx s1.2 8 [(0, .ref this), (2, .int s1.1)] [])) ?_ ho2)
  clear ho2
  intro s1 r3 hr is1 es1
  refine j_iload_n (q := 1) (pc' := 9) C dX12_outLine_8 rfl rfl rfl ?_
  refine j_sipush (v := 5104) (pc' := 12) C dX12_outLine_9 kS_5104 rfl ?_
  refine j_iconst (v := 4) (pc' := 13) C dX12_outLine_12 kI_4 rfl ?_
  refine j_aload_n (q := 0) (pc' := 14) C dX12_outLine_13 rfl rfl rfl ?_
  obtain ⟨x14, hx14, hr⟩ := ob hr
  refine j_getA (pc' := 17) C dX12_outLine_14 fl_X12_8 hx14 rfl ?_
  refine j_bipush (v := 9) (pc' := 19) C dX12_outLine_17 kB_9 rfl ?_
  obtain ⟨x15, hx15, hr⟩ := ob hr
  refine j_iald (pc' := 20) C dX12_outLine_19 hx15 rfl ?_
  refine j_imul (pc' := 21) C dX12_outLine_20 rfl ?_
  refine j_iadd (pc' := 22) C dX12_outLine_21 rfl ?_
  refine j_iconst (v := 4) (pc' := 23) C dX12_outLine_22 kI_4 rfl ?_
  refine j_isub (pc' := 24) C dX12_outLine_23 rfl ?_
  refine j_ic_ge (tgt := 47) (pc' := 27) C dX12_outLine_24 rfl rfl (fun hc => ?_) (fun hc => ?_)
  · have hr := ifT hc hr
    clear hc
    have hr := es1 _ (Option.some.inj hr).symm
    subst hr
    exact j_lv [0] rfl ko2
  · have hr := ifF hc hr
    clear hc
    refine j_aload_n (q := 0) (pc' := 28) C dX12_outLine_27 rfl rfl rfl ?_
    obtain ⟨x16, hx16, hr⟩ := ob hr
    refine j_getA (pc' := 31) C dX12_outLine_28 fl_X12_8 hx16 rfl ?_
    refine j_iload_n (q := 1) (pc' := 32) C dX12_outLine_31 rfl rfl rfl ?_
    refine j_aload_n (q := 0) (pc' := 33) C dX12_outLine_32 rfl rfl rfl ?_
    obtain ⟨x17, hx17, hr⟩ := ob hr
    refine j_getA (pc' := 36) C dX12_outLine_33 fl_X12_8 hx17 rfl ?_
    refine j_iload_n (q := 1) (pc' := 37) C dX12_outLine_36 rfl rfl rfl ?_
    refine j_iconst (v := 4) (pc' := 38) C dX12_outLine_37 kI_4 rfl ?_
    refine j_iadd (pc' := 39) C dX12_outLine_38 rfl ?_
    obtain ⟨x18, hx18, hr⟩ := ob hr
    refine j_iald (pc' := 40) C dX12_outLine_39 hx18 rfl ?_
    obtain ⟨c19, hc19, hr⟩ := ob hr
    refine j_iast (pc' := 41) C dX12_outLine_40 hc19 rfl ?_
    refine j_iinc (q := 1) (v := 1) (lv' := [(2, .int (s1.1 + 1)), (0, .ref this)]) (pc' := 44) C dX12_outLine_41 rfl kI_1 (by decide) rfl rfl ?_
    refine j_goto (tgt := 8) C dX12_outLine_44 rfl ?_
    exact j_lv [1, 0] rfl (is1 _ (Option.some.inj hr).symm)
def m_X12_isEarlier (ce : Ce) (this : Nat) (p1 : Int32) (p2 : Int32) : Option (Int32) :=
  (rcv ce 9 this).bind fun z1 =>
  (m_X12_ofLine ce this p1 1).bind fun x2 =>
  (rcv ce 9 this).bind fun z3 =>
  (m_X12_ofLine ce this p2 1).bind fun x4 =>
  (
    if x2 = x4 then
      (rcv ce 9 this).bind fun z10 =>
      (m_X12_ofLine ce this p1 0).bind fun x11 =>
      (rcv ce 9 this).bind fun z12 =>
      (m_X12_ofLine ce this p2 0).bind fun x13 =>
      if x11 = x13 then
        some 2
      else
        some 0
    else
      some 1
  ).bind fun j5 =>
  (rcv ce 9 this).bind fun z6 =>
  (m_X12_ofLine ce this p1 j5).bind fun x7 =>
  (rcv ce 9 this).bind fun z8 =>
  (m_X12_ofLine ce this p2 j5).bind fun x9 =>
  if x9 ≤ x7 then
    some 0
  else
    some 1
set_option maxRecDepth 100000 in
set_option maxHeartbeats 4000000 in
theorem c_X12_isEarlier {nx : Nat} {ce : Ce} {this : Nat} {p1 : Int32} {p2 : Int32} {q : Int32} (hr : m_X12_isEarlier ce this p1 p2 = some q) : Ct yX12_isEarlier cX12_isEarlier 4 (some .boolean) 1 22 0 0 [.ref this, .int p1, .int p2] nx ce (some (.int q)) ce := by
  unfold m_X12_isEarlier at hr
  refine ct_of (by decide) (by decide) ?_
  intro G C hq hret hin
  show Jd G 0 0 nx ce 0 [(0, .ref this), (1, .int p1), (2, .int p2)] []
  refine j_aload_n (q := 0) (pc' := 1) C dX12_isEarlier_0 rfl rfl rfl ?_
  refine j_iload_n (q := 1) (pc' := 2) C dX12_isEarlier_1 rfl rfl rfl ?_
  refine j_iconst (v := 1) (pc' := 3) C dX12_isEarlier_2 kI_1 rfl ?_
  obtain ⟨z1, hz1, hr⟩ := ob hr
  obtain ⟨x2, hx2, hr⟩ := ob hr
  obtain ⟨fhz1, hz1⟩ := rcv_sp hz1
  refine j_callV (ci := 9) (As := [.int p1, .int 1]) (rest := []) (st1 := [.int x2]) (pc' := 6) C ⟨wm_1739, wm_77⟩ rfl hz1 (c_X12_ofLine (nx := nx) hx2) yw_X12_ofLine wm_1737 rfl rfl (by decide) ⟨by decide, by decide⟩ dX12_isEarlier_3 rfl rfl ?_
  refine j_aload_n (q := 0) (pc' := 7) C dX12_isEarlier_6 rfl rfl rfl ?_
  refine j_iload_n (q := 2) (pc' := 8) C dX12_isEarlier_7 rfl rfl rfl ?_
  refine j_iconst (v := 1) (pc' := 9) C dX12_isEarlier_8 kI_1 rfl ?_
  obtain ⟨z3, hz3, hr⟩ := ob hr
  obtain ⟨x4, hx4, hr⟩ := ob hr
  obtain ⟨fhz3, hz3⟩ := rcv_sp hz3
  refine j_callV (ci := 9) (As := [.int p2, .int 1]) (rest := [.int x2]) (st1 := [.int x4, .int x2]) (pc' := 12) C ⟨wm_1739, wm_77⟩ rfl hz3 (c_X12_ofLine (nx := nx) hx4) yw_X12_ofLine wm_1737 rfl rfl (by decide) ⟨by decide, by decide⟩ dX12_isEarlier_9 rfl rfl ?_
  obtain ⟨j5, hj5, rj5⟩ := ob hr
  have kj5 : Jd G 0 0 nx ce 39 [(0, .ref this), (1, .int p1), (2, .int p2)] [.int j5] := by
    have hr := rj5
    refine j_istore_n (lv' := [(3, .int j5), (0, .ref this), (1, .int p1), (2, .int p2)]) (pc' := 40) C dX12_isEarlier_39 rfl (by decide) rfl rfl ?_
    refine j_aload_n (q := 1) (pc' := 41) C dX12_isEarlier_40 rfl rfl rfl ?_
    refine j_iload_n (q := 2) (pc' := 42) C dX12_isEarlier_41 rfl rfl rfl ?_
    refine j_iload_n (q := 0) (pc' := 43) C dX12_isEarlier_42 rfl rfl rfl ?_
    obtain ⟨z6, hz6, hr⟩ := ob hr
    obtain ⟨x7, hx7, hr⟩ := ob hr
    obtain ⟨fhz6, hz6⟩ := rcv_sp hz6
    refine j_callV (ci := 9) (As := [.int p1, .int j5]) (rest := []) (st1 := [.int x7]) (pc' := 46) C ⟨wm_1739, wm_77⟩ rfl hz6 (c_X12_ofLine (nx := nx) hx7) yw_X12_ofLine wm_1737 rfl rfl (by decide) ⟨by decide, by decide⟩ dX12_isEarlier_43 rfl rfl ?_
    refine j_aload_n (q := 1) (pc' := 47) C dX12_isEarlier_46 rfl rfl rfl ?_
    refine j_iload_n (q := 3) (pc' := 48) C dX12_isEarlier_47 rfl rfl rfl ?_
    refine j_iload_n (q := 0) (pc' := 49) C dX12_isEarlier_48 rfl rfl rfl ?_
    obtain ⟨z8, hz8, hr⟩ := ob hr
    obtain ⟨x9, hx9, hr⟩ := ob hr
    obtain ⟨fhz8, hz8⟩ := rcv_sp hz8
    refine j_callV (ci := 9) (As := [.int p2, .int j5]) (rest := [.int x7]) (st1 := [.int x9, .int x7]) (pc' := 52) C ⟨wm_1739, wm_77⟩ rfl hz8 (c_X12_ofLine (nx := nx) hx9) yw_X12_ofLine wm_1737 rfl rfl (by decide) ⟨by decide, by decide⟩ dX12_isEarlier_49 rfl rfl ?_
    refine j_ic_ge (tgt := 59) (pc' := 55) C dX12_isEarlier_52 rfl rfl (fun hc => ?_) (fun hc => ?_)
    · have hr := ifT hc hr
      clear hc
      refine j_iconst (v := 0) (pc' := 60) C dX12_isEarlier_59 kI_0 rfl ?_
      have hr := Option.some.inj hr
      subst hr
      exact j_zret C hq hret rfl dX12_isEarlier_60
    · have hr := ifF hc hr
      clear hc
      refine j_iconst (v := 1) (pc' := 56) C dX12_isEarlier_55 kI_1 rfl ?_
      refine j_goto (tgt := 60) C dX12_isEarlier_56 rfl ?_
      have hr := Option.some.inj hr
      subst hr
      exact j_zret C hq hret rfl dX12_isEarlier_60
  clear rj5
  have hr := hj5
  clear hj5
  refine j_ic_eq (tgt := 19) (pc' := 15) C dX12_isEarlier_12 rfl rfl (fun hc => ?_) (fun hc => ?_)
  · have hr := ifT hc hr
    clear hc
    refine j_aload_n (q := 0) (pc' := 20) C dX12_isEarlier_19 rfl rfl rfl ?_
    refine j_iload_n (q := 1) (pc' := 21) C dX12_isEarlier_20 rfl rfl rfl ?_
    refine j_iconst (v := 0) (pc' := 22) C dX12_isEarlier_21 kI_0 rfl ?_
    obtain ⟨z10, hz10, hr⟩ := ob hr
    obtain ⟨x11, hx11, hr⟩ := ob hr
    obtain ⟨fhz10, hz10⟩ := rcv_sp hz10
    refine j_callV (ci := 9) (As := [.int p1, .int 0]) (rest := []) (st1 := [.int x11]) (pc' := 25) C ⟨wm_1739, wm_77⟩ rfl hz10 (c_X12_ofLine (nx := nx) hx11) yw_X12_ofLine wm_1737 rfl rfl (by decide) ⟨by decide, by decide⟩ dX12_isEarlier_22 rfl rfl ?_
    refine j_aload_n (q := 0) (pc' := 26) C dX12_isEarlier_25 rfl rfl rfl ?_
    refine j_iload_n (q := 2) (pc' := 27) C dX12_isEarlier_26 rfl rfl rfl ?_
    refine j_iconst (v := 0) (pc' := 28) C dX12_isEarlier_27 kI_0 rfl ?_
    obtain ⟨z12, hz12, hr⟩ := ob hr
    obtain ⟨x13, hx13, hr⟩ := ob hr
    obtain ⟨fhz12, hz12⟩ := rcv_sp hz12
    refine j_callV (ci := 9) (As := [.int p2, .int 0]) (rest := [.int x11]) (st1 := [.int x13, .int x11]) (pc' := 31) C ⟨wm_1739, wm_77⟩ rfl hz12 (c_X12_ofLine (nx := nx) hx13) yw_X12_ofLine wm_1737 rfl rfl (by decide) ⟨by decide, by decide⟩ dX12_isEarlier_28 rfl rfl ?_
    refine j_ic_eq (tgt := 38) (pc' := 34) C dX12_isEarlier_31 rfl rfl (fun hc => ?_) (fun hc => ?_)
    · have hr := ifT hc hr
      clear hc
      refine j_iconst (v := 2) (pc' := 39) C dX12_isEarlier_38 kI_2 rfl ?_
      have hr := Option.some.inj hr
      subst hr
      exact j_lv [0, 1, 2] rfl kj5
    · have hr := ifF hc hr
      clear hc
      refine j_iconst (v := 0) (pc' := 35) C dX12_isEarlier_34 kI_0 rfl ?_
      refine j_goto (tgt := 39) C dX12_isEarlier_35 rfl ?_
      have hr := Option.some.inj hr
      subst hr
      exact j_lv [0, 1, 2] rfl kj5
  · have hr := ifF hc hr
    clear hc
    refine j_iconst (v := 1) (pc' := 16) C dX12_isEarlier_15 kI_1 rfl ?_
    refine j_goto (tgt := 39) C dX12_isEarlier_16 rfl ?_
    have hr := Option.some.inj hr
    subst hr
    exact j_lv [0, 1, 2] rfl kj5
def m_X12_nextLine (ce : Ce) (this : Nat) (p1 : Int32) : Option (Int32) :=
  (it (fun s1 =>
    (gA ce 9 0 this).bind fun x4 =>
    (aI ce x4 9).bind fun x5 =>
    if x5 ≤ s1.2 then
      some (Sum.inr s1.1)
    else
      (
        if p1 = (-1) then
          some (Sum.inr s1.2)
        else
          (rcv ce 9 this).bind fun z9 =>
          (m_X12_isEarlier ce this p1 s1.2).bind fun x10 =>
          if x10 = 0 then
            some (Sum.inl (Sum.inl (s1.1, (s1.2 + 1))))
          else
            some (Sum.inr s1.2)
      ).bind fun j6 => Sum.elim (fun wj6 => some wj6) (fun vj6 =>
        if s1.1 = (-1) then
          some (Sum.inl (vj6, (vj6 + 1)))
        else
          (rcv ce 9 this).bind fun z7 =>
          (m_X12_isEarlier ce this vj6 s1.1).bind fun x8 =>
          if x8 = 0 then
            some (Sum.inl (s1.1, (vj6 + 1)))
          else
            some (Sum.inl (vj6, (vj6 + 1)))
      ) j6
  ) FU ((-1), 0)).bind fun o2 =>
  some o2
set_option maxRecDepth 100000 in
set_option maxHeartbeats 4000000 in
theorem c_X12_nextLine {nx : Nat} {ce : Ce} {this : Nat} {p1 : Int32} {q : Int32} (hr : m_X12_nextLine ce this p1 = some q) : Ct yX12_nextLine cX12_nextLine 4 (some .int) 2 45 0 0 [.ref this, .int p1] nx ce (some (.int q)) ce := by
  unfold m_X12_nextLine at hr
  refine ct_of (by decide) (by decide) ?_
  intro G C hq hret hin
  show Jd G 0 0 nx ce 0 [(0, .ref this), (1, .int p1)] []
  refine j_iconst (v := -1) (pc' := 1) C dX12_nextLine_0 kI_m1 rfl ?_
  refine j_istore_n (lv' := [(2, .int (-1)), (0, .ref this), (1, .int p1)]) (pc' := 2) C dX12_nextLine_1 rfl (by decide) rfl rfl ?_
  refine j_iconst (v := 0) (pc' := 3) C dX12_nextLine_2 kI_0 rfl ?_
  refine j_istore_n (lv' := [(3, .int 0), (2, .int (-1)), (0, .ref this), (1, .int p1)]) (pc' := 4) C dX12_nextLine_3 rfl (by decide) rfl rfl ?_
  obtain ⟨o2, ho2, ro2⟩ := ob hr
  have ko2 : Jd G 0 0 nx ce 51 [(2, .int o2)] [] := by
    have hr := ro2
    refine j_iload_n (q := 0) (pc' := 52) C dX12_nextLine_51 rfl rfl rfl ?_
    have hr := Option.some.inj hr
    subst hr
    exact j_iret C hq hret dX12_nextLine_52
  refine j_lv [2, 3, 1, 0] rfl (it_J (J := (fun s1 => Jd G 0 0 nx ce 4 [(0, .ref this), (1, .int p1), (2, .int s1.1), (3, .int s1.2)] [])) ?_ ho2)
  clear ho2
  intro s1 r3 hr is1 es1
  refine j_iload_n (q := 3) (pc' := 5) C dX12_nextLine_4 rfl rfl rfl ?_
  refine j_aload_n (q := 0) (pc' := 6) C dX12_nextLine_5 rfl rfl rfl ?_
  obtain ⟨x4, hx4, hr⟩ := ob hr
  refine j_getA (pc' := 9) C dX12_nextLine_6 fl_X12_8 hx4 rfl ?_
  refine j_bipush (v := 9) (pc' := 11) C dX12_nextLine_9 kB_9 rfl ?_
  obtain ⟨x5, hx5, hr⟩ := ob hr
  refine j_iald (pc' := 12) C dX12_nextLine_11 hx5 rfl ?_
  refine j_ic_ge (tgt := 51) (pc' := 15) C dX12_nextLine_12 rfl rfl (fun hc => ?_) (fun hc => ?_)
  · have hr := ifT hc hr
    clear hc
    have hr := es1 _ (Option.some.inj hr).symm
    subst hr
    exact j_lv [2] rfl ko2
  · have hr := ifF hc hr
    clear hc
    refine j_iload_n (q := 1) (pc' := 16) C dX12_nextLine_15 rfl rfl rfl ?_
    refine j_iconst (v := -1) (pc' := 17) C dX12_nextLine_16 kI_m1 rfl ?_
    obtain ⟨j6, hj6, rj6⟩ := ob hr
    have kj6 : ∀ vj6, j6 = Sum.inr vj6 → Jd G 0 0 nx ce 29 [(0, .ref this), (1, .int p1), (2, .int s1.1), (3, .int vj6)] [] := by
      intro vj6 ej6
      rw [ej6] at rj6
      have hr := elR rj6
      refine j_iload_n (q := 2) (pc' := 30) C dX12_nextLine_29 rfl rfl rfl ?_
      refine j_iconst (v := -1) (pc' := 31) C dX12_nextLine_30 kI_m1 rfl ?_
      refine j_ic_eq (tgt := 43) (pc' := 34) C dX12_nextLine_31 rfl rfl (fun hc => ?_) (fun hc => ?_)
      · have hr := ifT hc hr
        clear hc
        refine j_iload_n (q := 3) (pc' := 44) C dX12_nextLine_43 rfl rfl rfl ?_
        refine j_istore_n (lv' := [(2, .int vj6), (0, .ref this), (1, .int p1), (3, .int vj6)]) (pc' := 45) C dX12_nextLine_44 rfl (by decide) rfl rfl ?_
        refine j_iinc (q := 3) (v := 1) (lv' := [(3, .int (vj6 + 1)), (2, .int vj6), (0, .ref this), (1, .int p1)]) (pc' := 48) C dX12_nextLine_45 rfl kI_1 (by decide) rfl rfl ?_
        refine j_goto (tgt := 4) C dX12_nextLine_48 rfl ?_
        exact j_lv [2, 3, 1, 0] rfl (is1 _ (Option.some.inj hr).symm)
      · have hr := ifF hc hr
        clear hc
        refine j_aload_n (q := 0) (pc' := 35) C dX12_nextLine_34 rfl rfl rfl ?_
        refine j_iload_n (q := 3) (pc' := 36) C dX12_nextLine_35 rfl rfl rfl ?_
        refine j_iload_n (q := 2) (pc' := 37) C dX12_nextLine_36 rfl rfl rfl ?_
        obtain ⟨z7, hz7, hr⟩ := ob hr
        obtain ⟨x8, hx8, hr⟩ := ob hr
        obtain ⟨fhz7, hz7⟩ := rcv_sp hz7
        refine j_callV (ci := 9) (As := [.int vj6, .int s1.1]) (rest := []) (st1 := [.int x8]) (pc' := 40) C ⟨wm_1735, wm_76⟩ rfl hz7 (c_X12_isEarlier (nx := nx) hx8) yw_X12_isEarlier wm_1733 rfl rfl (by decide) ⟨by decide, by decide⟩ dX12_nextLine_37 rfl rfl ?_
        refine j_if_eq (tgt := 45) (pc' := 43) C dX12_nextLine_40 rfl rfl (fun hc => ?_) (fun hc => ?_)
        · have hr := ifT hc hr
          clear hc
          refine j_iinc (q := 3) (v := 1) (lv' := [(3, .int (vj6 + 1)), (0, .ref this), (1, .int p1), (2, .int s1.1)]) (pc' := 48) C dX12_nextLine_45 rfl kI_1 (by decide) rfl rfl ?_
          refine j_goto (tgt := 4) C dX12_nextLine_48 rfl ?_
          exact j_lv [1, 2, 3, 0] rfl (is1 _ (Option.some.inj hr).symm)
        · have hr := ifF hc hr
          clear hc
          refine j_iload_n (q := 3) (pc' := 44) C dX12_nextLine_43 rfl rfl rfl ?_
          refine j_istore_n (lv' := [(2, .int vj6), (0, .ref this), (1, .int p1), (3, .int vj6)]) (pc' := 45) C dX12_nextLine_44 rfl (by decide) rfl rfl ?_
          refine j_iinc (q := 3) (v := 1) (lv' := [(3, .int (vj6 + 1)), (2, .int vj6), (0, .ref this), (1, .int p1)]) (pc' := 48) C dX12_nextLine_45 rfl kI_1 (by decide) rfl rfl ?_
          refine j_goto (tgt := 4) C dX12_nextLine_48 rfl ?_
          exact j_lv [2, 3, 1, 0] rfl (is1 _ (Option.some.inj hr).symm)
    have hr := hj6
    clear hj6
    refine j_ic_eq (tgt := 29) (pc' := 20) C dX12_nextLine_17 rfl rfl (fun hc => ?_) (fun hc => ?_)
    · have hr := ifT hc hr
      clear hc
      have hr := Option.some.inj hr
      subst hr
      exact j_lv [0, 1, 2, 3] rfl (kj6 _ rfl)
    · have hr := ifF hc hr
      clear hc
      refine j_aload_n (q := 0) (pc' := 21) C dX12_nextLine_20 rfl rfl rfl ?_
      refine j_iload_n (q := 1) (pc' := 22) C dX12_nextLine_21 rfl rfl rfl ?_
      refine j_iload_n (q := 3) (pc' := 23) C dX12_nextLine_22 rfl rfl rfl ?_
      obtain ⟨z9, hz9, hr⟩ := ob hr
      obtain ⟨x10, hx10, hr⟩ := ob hr
      obtain ⟨fhz9, hz9⟩ := rcv_sp hz9
      refine j_callV (ci := 9) (As := [.int p1, .int s1.2]) (rest := []) (st1 := [.int x10]) (pc' := 26) C ⟨wm_1735, wm_76⟩ rfl hz9 (c_X12_isEarlier (nx := nx) hx10) yw_X12_isEarlier wm_1733 rfl rfl (by decide) ⟨by decide, by decide⟩ dX12_nextLine_23 rfl rfl ?_
      refine j_if_eq (tgt := 45) (pc' := 29) C dX12_nextLine_26 rfl rfl (fun hc => ?_) (fun hc => ?_)
      · have hr := ifT hc hr
        clear hc
        refine j_iinc (q := 3) (v := 1) (lv' := [(3, .int (s1.2 + 1)), (0, .ref this), (1, .int p1), (2, .int s1.1)]) (pc' := 48) C dX12_nextLine_45 rfl kI_1 (by decide) rfl rfl ?_
        refine j_goto (tgt := 4) C dX12_nextLine_48 rfl ?_
        have hr := Option.some.inj hr
        subst hr
        have hr := elL rj6
        exact j_lv [1, 2, 3, 0] rfl (is1 _ (Option.some.inj hr).symm)
      · have hr := ifF hc hr
        clear hc
        have hr := Option.some.inj hr
        subst hr
        exact j_lv [0, 1, 2, 3] rfl (kj6 _ rfl)
def m_X12_lineOf (ce : Ce) (this : Nat) (p1 : Int32) : Option (Int32) :=
  (it (fun s1 =>
    (gA ce 9 0 this).bind fun x4 =>
    (aI ce x4 9).bind fun x5 =>
    if x5 ≤ s1 then
      some (Sum.inr (Sum.inr ()))
    else
      (rcv ce 9 this).bind fun z6 =>
      (m_X12_ofLine ce this s1 2).bind fun x7 =>
      if x7 = p1 then
        some (Sum.inr (Sum.inl s1))
      else
        some (Sum.inl (s1 + 1))
  ) FU 0).bind fun o2 =>
  Sum.elim (fun wo2 => some wo2) (fun vo2 =>
    some (-1)
  ) o2
set_option maxRecDepth 100000 in
set_option maxHeartbeats 4000000 in
theorem c_X12_lineOf {nx : Nat} {ce : Ce} {this : Nat} {p1 : Int32} {q : Int32} (hr : m_X12_lineOf ce this p1 = some q) : Ct yX12_lineOf cX12_lineOf 3 (some .int) 1 22 0 0 [.ref this, .int p1] nx ce (some (.int q)) ce := by
  unfold m_X12_lineOf at hr
  refine ct_of (by decide) (by decide) ?_
  intro G C hq hret hin
  show Jd G 0 0 nx ce 0 [(0, .ref this), (1, .int p1)] []
  refine j_iconst (v := 0) (pc' := 1) C dX12_lineOf_0 kI_0 rfl ?_
  refine j_istore_n (lv' := [(2, .int 0), (0, .ref this), (1, .int p1)]) (pc' := 2) C dX12_lineOf_1 rfl (by decide) rfl rfl ?_
  obtain ⟨o2, ho2, ro2⟩ := ob hr
  have ko2 : ∀ vo2, o2 = Sum.inr vo2 → Jd G 0 0 nx ce 31 [] [] := by
    intro vo2 eo2
    rw [eo2] at ro2
    have hr := elR ro2
    refine j_iconst (v := -1) (pc' := 32) C dX12_lineOf_31 kI_m1 rfl ?_
    have hr := Option.some.inj hr
    subst hr
    exact j_iret C hq hret dX12_lineOf_32
  refine j_lv [1, 2, 0] rfl (it_J (J := (fun s1 => Jd G 0 0 nx ce 2 [(0, .ref this), (1, .int p1), (2, .int s1)] [])) ?_ ho2)
  clear ho2
  intro s1 r3 hr is1 es1
  refine j_iload_n (q := 2) (pc' := 3) C dX12_lineOf_2 rfl rfl rfl ?_
  refine j_aload_n (q := 0) (pc' := 4) C dX12_lineOf_3 rfl rfl rfl ?_
  obtain ⟨x4, hx4, hr⟩ := ob hr
  refine j_getA (pc' := 7) C dX12_lineOf_4 fl_X12_8 hx4 rfl ?_
  refine j_bipush (v := 9) (pc' := 9) C dX12_lineOf_7 kB_9 rfl ?_
  obtain ⟨x5, hx5, hr⟩ := ob hr
  refine j_iald (pc' := 10) C dX12_lineOf_9 hx5 rfl ?_
  refine j_ic_ge (tgt := 31) (pc' := 13) C dX12_lineOf_10 rfl rfl (fun hc => ?_) (fun hc => ?_)
  · have hr := ifT hc hr
    clear hc
    have hr := es1 _ (Option.some.inj hr).symm
    subst hr
    exact j_lv [] rfl (ko2 _ rfl)
  · have hr := ifF hc hr
    clear hc
    refine j_aload_n (q := 0) (pc' := 14) C dX12_lineOf_13 rfl rfl rfl ?_
    refine j_iload_n (q := 2) (pc' := 15) C dX12_lineOf_14 rfl rfl rfl ?_
    refine j_iconst (v := 2) (pc' := 16) C dX12_lineOf_15 kI_2 rfl ?_
    obtain ⟨z6, hz6, hr⟩ := ob hr
    obtain ⟨x7, hx7, hr⟩ := ob hr
    obtain ⟨fhz6, hz6⟩ := rcv_sp hz6
    refine j_callV (ci := 9) (As := [.int s1, .int 2]) (rest := []) (st1 := [.int x7]) (pc' := 19) C ⟨wm_1739, wm_77⟩ rfl hz6 (c_X12_ofLine (nx := nx) hx7) yw_X12_ofLine wm_1737 rfl rfl (by decide) ⟨by decide, by decide⟩ dX12_lineOf_16 rfl rfl ?_
    refine j_iload_n (q := 1) (pc' := 20) C dX12_lineOf_19 rfl rfl rfl ?_
    refine j_ic_ne (tgt := 25) (pc' := 23) C dX12_lineOf_20 rfl rfl (fun hc => ?_) (fun hc => ?_)
    · have hr := ifF hc hr
      clear hc
      refine j_iinc (q := 2) (v := 1) (lv' := [(2, .int (s1 + 1)), (0, .ref this), (1, .int p1)]) (pc' := 28) C dX12_lineOf_25 rfl kI_1 (by decide) rfl rfl ?_
      refine j_goto (tgt := 2) C dX12_lineOf_28 rfl ?_
      exact j_lv [1, 2, 0] rfl (is1 _ (Option.some.inj hr).symm)
    · have hr := ifT hc hr
      clear hc
      refine j_iload_n (q := 2) (pc' := 24) C dX12_lineOf_23 rfl rfl rfl ?_
      have hr := es1 _ (Option.some.inj hr).symm
      subst hr
      have hr := elL ro2
      have hr := Option.some.inj hr
      subst hr
      exact j_iret C hq hret dX12_lineOf_24
def m_X12_aheadOf (ce : Ce) (this : Nat) (p1 : Int32) (p2 : Int64) : Option (Int32) :=
  (it (fun s1 =>
    (rcv ce 9 this).bind fun z4 =>
    (m_X12_states ce this).bind fun x5 =>
    if x5 ≤ s1 then
      some (Sum.inr (Sum.inr ()))
    else
      if s1 = p1 then
        some (Sum.inl (s1 + 1))
      else
        (m_X12_has p2 s1).bind fun x6 =>
        if x6 = 0 then
          some (Sum.inl (s1 + 1))
        else
          (rcv ce 9 this).bind fun z7 =>
          (m_X12_after ce this s1).bind fun x8 =>
          (m_X12_has x8 p1).bind fun x9 =>
          if x9 = 0 then
            some (Sum.inl (s1 + 1))
          else
            some (Sum.inr (Sum.inl s1))
  ) FU 0).bind fun o2 =>
  Sum.elim (fun wo2 => some wo2) (fun vo2 =>
    some (-1)
  ) o2
set_option maxRecDepth 100000 in
set_option maxHeartbeats 4000000 in
theorem c_X12_aheadOf {nx : Nat} {ce : Ce} {this : Nat} {p1 : Int32} {p2 : Int64} {q : Int32} (hr : m_X12_aheadOf ce this p1 p2 = some q) : Ct yX12_aheadOf cX12_aheadOf 5 (some .int) 3 68 0 0 [.ref this, .int p1, .long p2] nx ce (some (.int q)) ce := by
  unfold m_X12_aheadOf at hr
  refine ct_of (by decide) (by decide) ?_
  intro G C hq hret hin
  show Jd G 0 0 nx ce 0 [(0, .ref this), (1, .int p1), (2, .long p2)] []
  refine j_iconst (v := 0) (pc' := 1) C dX12_aheadOf_0 kI_0 rfl ?_
  refine j_istore (lv' := [(4, .int 0), (0, .ref this), (1, .int p1), (2, .long p2)]) (pc' := 3) C dX12_aheadOf_1 (by decide) rfl rfl ?_
  obtain ⟨o2, ho2, ro2⟩ := ob hr
  have ko2 : ∀ vo2, o2 = Sum.inr vo2 → Jd G 0 0 nx ce 49 [] [] := by
    intro vo2 eo2
    rw [eo2] at ro2
    have hr := elR ro2
    refine j_iconst (v := -1) (pc' := 50) C dX12_aheadOf_49 kI_m1 rfl ?_
    have hr := Option.some.inj hr
    subst hr
    exact j_iret C hq hret dX12_aheadOf_50
  refine j_lv [1, 2, 3, 0] rfl (it_J (J := (fun s1 => Jd G 0 0 nx ce 3 [(0, .ref this), (1, .int p1), (2, .long p2), (4, .int s1)] [])) ?_ ho2)
  clear ho2
  intro s1 r3 hr is1 es1
  refine j_iload (q := 3) (pc' := 5) C dX12_aheadOf_3 rfl rfl ?_
  refine j_aload_n (q := 0) (pc' := 6) C dX12_aheadOf_5 rfl rfl rfl ?_
  obtain ⟨z4, hz4, hr⟩ := ob hr
  obtain ⟨x5, hx5, hr⟩ := ob hr
  obtain ⟨fhz4, hz4⟩ := rcv_sp hz4
  refine j_callV (ci := 9) (As := []) (rest := [.int s1]) (st1 := [.int x5, .int s1]) (pc' := 9) C ⟨wm_1632, wm_57⟩ rfl hz4 (c_X12_states (nx := nx) hx5) yw_X12_states wm_1630 rfl rfl (by decide) ⟨by decide, by decide⟩ dX12_aheadOf_6 rfl rfl ?_
  refine j_ic_ge (tgt := 49) (pc' := 12) C dX12_aheadOf_9 rfl rfl (fun hc => ?_) (fun hc => ?_)
  · have hr := ifT hc hr
    clear hc
    have hr := es1 _ (Option.some.inj hr).symm
    subst hr
    exact j_lv [] rfl (ko2 _ rfl)
  · have hr := ifF hc hr
    clear hc
    refine j_iload (q := 3) (pc' := 14) C dX12_aheadOf_12 rfl rfl ?_
    refine j_iload_n (q := 1) (pc' := 15) C dX12_aheadOf_14 rfl rfl rfl ?_
    refine j_ic_eq (tgt := 43) (pc' := 18) C dX12_aheadOf_15 rfl rfl (fun hc => ?_) (fun hc => ?_)
    · have hr := ifT hc hr
      clear hc
      refine j_iinc (q := 3) (v := 1) (lv' := [(4, .int (s1 + 1)), (0, .ref this), (1, .int p1), (2, .long p2)]) (pc' := 46) C dX12_aheadOf_43 rfl kI_1 (by decide) rfl rfl ?_
      refine j_goto (tgt := 3) C dX12_aheadOf_46 rfl ?_
      exact j_lv [1, 2, 3, 0] rfl (is1 _ (Option.some.inj hr).symm)
    · have hr := ifF hc hr
      clear hc
      refine j_lload_n (q := 2) (pc' := 19) C dX12_aheadOf_18 rfl rfl rfl ?_
      refine j_iload (q := 3) (pc' := 21) C dX12_aheadOf_19 rfl rfl ?_
      obtain ⟨x6, hx6, hr⟩ := ob hr
      refine j_callS (As := [.long p2, .int s1]) (rest := []) (st1 := [.int x6]) (pc' := 24) C wm_1635 (c_X12_has (nx := nx) (ce := ce) hx6) yw_X12_has wm_1634 rfl rfl (by decide) ⟨by decide, by decide⟩ dX12_aheadOf_21 rfl rfl ?_
      refine j_if_eq (tgt := 43) (pc' := 27) C dX12_aheadOf_24 rfl rfl (fun hc => ?_) (fun hc => ?_)
      · have hr := ifT hc hr
        clear hc
        refine j_iinc (q := 3) (v := 1) (lv' := [(4, .int (s1 + 1)), (0, .ref this), (1, .int p1), (2, .long p2)]) (pc' := 46) C dX12_aheadOf_43 rfl kI_1 (by decide) rfl rfl ?_
        refine j_goto (tgt := 3) C dX12_aheadOf_46 rfl ?_
        exact j_lv [1, 2, 3, 0] rfl (is1 _ (Option.some.inj hr).symm)
      · have hr := ifF hc hr
        clear hc
        refine j_aload_n (q := 0) (pc' := 28) C dX12_aheadOf_27 rfl rfl rfl ?_
        refine j_iload (q := 3) (pc' := 30) C dX12_aheadOf_28 rfl rfl ?_
        obtain ⟨z7, hz7, hr⟩ := ob hr
        obtain ⟨x8, hx8, hr⟩ := ob hr
        obtain ⟨fhz7, hz7⟩ := rcv_sp hz7
        refine j_callV (ci := 9) (As := [.int s1]) (rest := []) (st1 := [.long x8]) (pc' := 33) C ⟨wm_1751, wm_80⟩ rfl hz7 (c_X12_after (nx := nx) hx8) yw_X12_after wm_1749 rfl rfl (by decide) ⟨by decide, by decide⟩ dX12_aheadOf_30 rfl rfl ?_
        refine j_iload_n (q := 1) (pc' := 34) C dX12_aheadOf_33 rfl rfl rfl ?_
        obtain ⟨x9, hx9, hr⟩ := ob hr
        refine j_callS (As := [.long x8, .int p1]) (rest := []) (st1 := [.int x9]) (pc' := 37) C wm_1635 (c_X12_has (nx := nx) (ce := ce) hx9) yw_X12_has wm_1634 rfl rfl (by decide) ⟨by decide, by decide⟩ dX12_aheadOf_34 rfl rfl ?_
        refine j_if_eq (tgt := 43) (pc' := 40) C dX12_aheadOf_37 rfl rfl (fun hc => ?_) (fun hc => ?_)
        · have hr := ifT hc hr
          clear hc
          refine j_iinc (q := 3) (v := 1) (lv' := [(4, .int (s1 + 1)), (0, .ref this), (1, .int p1), (2, .long p2)]) (pc' := 46) C dX12_aheadOf_43 rfl kI_1 (by decide) rfl rfl ?_
          refine j_goto (tgt := 3) C dX12_aheadOf_46 rfl ?_
          exact j_lv [1, 2, 3, 0] rfl (is1 _ (Option.some.inj hr).symm)
        · have hr := ifF hc hr
          clear hc
          refine j_iload (q := 3) (pc' := 42) C dX12_aheadOf_40 rfl rfl ?_
          have hr := es1 _ (Option.some.inj hr).symm
          subst hr
          have hr := elL ro2
          have hr := Option.some.inj hr
          subst hr
          exact j_iret C hq hret dX12_aheadOf_42
def m_X12_seek (ce : Ce) (this : Nat) : Option (Unit × Ce) :=
  (rcv ce 9 this).bind fun z1 =>
  (m_X12_aims ce this).bind fun x2 =>
  (gA ce 9 0 this).bind fun x3 =>
  (aI ce x3 4).bind fun x4 =>
  (rcv ce 9 this).bind fun z5 =>
  (m_X12_openAt ce this x4).bind fun x6 =>
  if (lg_cmp (x2 &&& x6) 0) = 0 then
    (gA ce 9 0 this).bind fun x17 =>
    (aI ce x17 4).bind fun x18 =>
    (sI ce x17 4 (x18 + 1)).bind fun c19 =>
    (gA c19 9 0 this).bind fun x20 =>
    (sI c19 x20 5 2).bind fun c21 =>
    (gA c21 9 0 this).bind fun x22 =>
    (sI c21 x22 6 1).bind fun c23 =>
    some ((), c23)
  else
    (it (fun s7 =>
      if 8 ≤ s7.1.2 then
        some (Sum.inr ((), s7.2))
      else
        if (lg_cmp s7.1.1 0) = 0 then
          some (Sum.inr ((), s7.2))
        else
          (m_X12_lowest s7.1.1).bind fun x12 =>
          (gA s7.2 9 0 this).bind fun x13 =>
          (aI s7.2 x13 4).bind fun x14 =>
          (rcv s7.2 9 this).bind fun z15 =>
          (m_X12_oblige s7.2 this x12 x14 0).bind fun q16 =>
          some (Sum.inl (((s7.1.1 &&& (s7.1.1 - 1)), (s7.1.2 + 1)), q16.2))
    ) FU (((x2 &&& x6), 0), ce)).bind fun o8 =>
    (gA o8.2 9 0 this).bind fun x10 =>
    (sI o8.2 x10 5 1).bind fun c11 =>
    some ((), c11)
set_option maxRecDepth 100000 in
set_option maxHeartbeats 4000000 in
theorem c_X12_seek {nx : Nat} {ce : Ce} {this : Nat} {q : Unit × Ce} (hr : m_X12_seek ce this = some q) : Ct yX12_seek cX12_seek 4 none 5 110 0 0 [.ref this] nx ce none q.2 := by
  unfold m_X12_seek at hr
  refine ct_of (by decide) (by decide) ?_
  intro G C hq hret hin
  show Jd G 0 0 nx ce 0 [(0, .ref this)] []
  refine j_aload_n (q := 0) (pc' := 1) C dX12_seek_0 rfl rfl rfl ?_
  obtain ⟨z1, hz1, hr⟩ := ob hr
  obtain ⟨x2, hx2, hr⟩ := ob hr
  obtain ⟨fhz1, hz1⟩ := rcv_sp hz1
  refine j_callV (ci := 9) (As := []) (rest := []) (st1 := [.long x2]) (pc' := 4) C ⟨wm_1687, wm_65⟩ rfl hz1 (c_X12_aims (nx := nx) hx2) yw_X12_aims wm_1685 rfl rfl (by decide) ⟨by decide, by decide⟩ dX12_seek_1 rfl rfl ?_
  refine j_aload_n (q := 0) (pc' := 5) C dX12_seek_4 rfl rfl rfl ?_
  refine j_aload_n (q := 0) (pc' := 6) C dX12_seek_5 rfl rfl rfl ?_
  obtain ⟨x3, hx3, hr⟩ := ob hr
  refine j_getA (pc' := 9) C dX12_seek_6 fl_X12_8 hx3 rfl ?_
  refine j_iconst (v := 4) (pc' := 10) C dX12_seek_9 kI_4 rfl ?_
  obtain ⟨x4, hx4, hr⟩ := ob hr
  refine j_iald (pc' := 11) C dX12_seek_10 hx4 rfl ?_
  obtain ⟨z5, hz5, hr⟩ := ob hr
  obtain ⟨x6, hx6, hr⟩ := ob hr
  obtain ⟨fhz5, hz5⟩ := rcv_sp hz5
  refine j_callV (ci := 9) (As := [.int x4]) (rest := [.long x2]) (st1 := [.long x6, .long x2]) (pc' := 14) C ⟨wm_1696, wm_67⟩ rfl hz5 (c_X12_openAt (nx := nx) hx6) yw_X12_openAt wm_1694 rfl rfl (by decide) ⟨by decide, by decide⟩ dX12_seek_11 rfl rfl ?_
  refine j_land (pc' := 15) C dX12_seek_14 rfl ?_
  refine j_lstore_n (lv' := [(1, .long (x2 &&& x6)), (0, .ref this)]) (pc' := 16) C dX12_seek_15 rfl (by decide) rfl rfl ?_
  refine j_lload_n (q := 0) (pc' := 17) C dX12_seek_16 rfl rfl rfl ?_
  refine j_lconst (v := 0) (pc' := 18) C dX12_seek_17 kL_0 rfl ?_
  refine j_lcmp (pc' := 19) C dX12_seek_18 rfl ?_
  refine j_if_ne (tgt := 48) (pc' := 22) C dX12_seek_19 rfl rfl (fun hc => ?_) (fun hc => ?_)
  · have hr := ifF hc hr
    clear hc
    refine j_iconst (v := 0) (pc' := 49) C dX12_seek_48 kI_0 rfl ?_
    refine j_istore_n (lv' := [(3, .int 0), (1, .long (x2 &&& x6)), (0, .ref this)]) (pc' := 50) C dX12_seek_49 rfl (by decide) rfl rfl ?_
    obtain ⟨o8, ho8, ro8⟩ := ob hr
    have ko8 : Jd G 0 0 nx o8.2 89 [(0, .ref this)] [] := by
      have hr := ro8
      refine j_aload_n (q := 0) (pc' := 90) C dX12_seek_89 rfl rfl rfl ?_
      obtain ⟨x10, hx10, hr⟩ := ob hr
      refine j_getA (pc' := 93) C dX12_seek_90 fl_X12_8 hx10 rfl ?_
      refine j_iconst (v := 5) (pc' := 94) C dX12_seek_93 kI_5 rfl ?_
      refine j_iconst (v := 1) (pc' := 95) C dX12_seek_94 kI_1 rfl ?_
      obtain ⟨c11, hc11, hr⟩ := ob hr
      refine j_iast (pc' := 96) C dX12_seek_95 hc11 rfl ?_
      have hr := Option.some.inj hr
      subst hr
      exact j_vret C hq hret dX12_seek_96
    refine j_lv [2, 1, 0] rfl (it_J (J := (fun s7 => Jd G 0 0 nx s7.2 50 [(0, .ref this), (1, .long s7.1.1), (3, .int s7.1.2)] [])) ?_ ho8)
    clear ho8
    intro s7 r9 hr is7 es7
    refine j_iload_n (q := 2) (pc' := 51) C dX12_seek_50 rfl rfl rfl ?_
    refine j_bipush (v := 8) (pc' := 53) C dX12_seek_51 kB_8 rfl ?_
    refine j_ic_ge (tgt := 89) (pc' := 56) C dX12_seek_53 rfl rfl (fun hc => ?_) (fun hc => ?_)
    · have hr := ifT hc hr
      clear hc
      have hr := es7 _ (Option.some.inj hr).symm
      subst hr
      exact j_lv [0] rfl ko8
    · have hr := ifF hc hr
      clear hc
      refine j_lload_n (q := 1) (pc' := 57) C dX12_seek_56 rfl rfl rfl ?_
      refine j_lconst (v := 0) (pc' := 58) C dX12_seek_57 kL_0 rfl ?_
      refine j_lcmp (pc' := 59) C dX12_seek_58 rfl ?_
      refine j_if_eq (tgt := 89) (pc' := 62) C dX12_seek_59 rfl rfl (fun hc => ?_) (fun hc => ?_)
      · have hr := ifT hc hr
        clear hc
        have hr := es7 _ (Option.some.inj hr).symm
        subst hr
        exact j_lv [0] rfl ko8
      · have hr := ifF hc hr
        clear hc
        refine j_aload_n (q := 0) (pc' := 63) C dX12_seek_62 rfl rfl rfl ?_
        refine j_lload_n (q := 1) (pc' := 64) C dX12_seek_63 rfl rfl rfl ?_
        obtain ⟨x12, hx12, hr⟩ := ob hr
        refine j_callS (As := [.long s7.1.1]) (rest := [.ref this]) (st1 := [.int x12, .ref this]) (pc' := 67) C wm_1719 (c_X12_lowest (nx := nx) (ce := s7.2) hx12) yw_X12_lowest wm_1718 rfl rfl (by decide) ⟨by decide, by decide⟩ dX12_seek_64 rfl rfl ?_
        refine j_aload_n (q := 0) (pc' := 68) C dX12_seek_67 rfl rfl rfl ?_
        obtain ⟨x13, hx13, hr⟩ := ob hr
        refine j_getA (pc' := 71) C dX12_seek_68 fl_X12_8 hx13 rfl ?_
        refine j_iconst (v := 4) (pc' := 72) C dX12_seek_71 kI_4 rfl ?_
        obtain ⟨x14, hx14, hr⟩ := ob hr
        refine j_iald (pc' := 73) C dX12_seek_72 hx14 rfl ?_
        refine j_iconst (v := 0) (pc' := 74) C dX12_seek_73 kI_0 rfl ?_
        obtain ⟨z15, hz15, hr⟩ := ob hr
        obtain ⟨q16, hq16, hr⟩ := ob hr
        obtain ⟨fhz15, hz15⟩ := rcv_sp hz15
        refine j_callV (ci := 9) (As := [.int x12, .int x14, .int 0]) (rest := []) (st1 := []) (pc' := 77) C ⟨wm_1723, wm_73⟩ rfl hz15 (c_X12_oblige (nx := nx) hq16) yw_X12_oblige wm_1721 rfl rfl (by decide) ⟨by decide, by decide⟩ dX12_seek_74 rfl rfl ?_
        refine j_lload_n (q := 1) (pc' := 78) C dX12_seek_77 rfl rfl rfl ?_
        refine j_lload_n (q := 1) (pc' := 79) C dX12_seek_78 rfl rfl rfl ?_
        refine j_lconst (v := 1) (pc' := 80) C dX12_seek_79 kL_1 rfl ?_
        refine j_lsub (pc' := 81) C dX12_seek_80 rfl ?_
        refine j_land (pc' := 82) C dX12_seek_81 rfl ?_
        refine j_lstore_n (lv' := [(1, .long (s7.1.1 &&& (s7.1.1 - 1))), (0, .ref this), (3, .int s7.1.2)]) (pc' := 83) C dX12_seek_82 rfl (by decide) rfl rfl ?_
        refine j_iinc (q := 2) (v := 1) (lv' := [(3, .int (s7.1.2 + 1)), (1, .long (s7.1.1 &&& (s7.1.1 - 1))), (0, .ref this)]) (pc' := 86) C dX12_seek_83 rfl kI_1 (by decide) rfl rfl ?_
        refine j_goto (tgt := 50) C dX12_seek_86 rfl ?_
        exact j_lv [2, 1, 0] rfl (is7 _ (Option.some.inj hr).symm)
  · have hr := ifT hc hr
    clear hc
    refine j_aload_n (q := 1) (pc' := 23) C dX12_seek_22 rfl rfl rfl ?_
    obtain ⟨x17, hx17, hr⟩ := ob hr
    refine j_getA (pc' := 26) C dX12_seek_23 fl_X12_8 hx17 rfl ?_
    refine j_iconst (v := 4) (pc' := 27) C dX12_seek_26 kI_4 rfl ?_
    refine j_dup2 (pc' := 28) C dX12_seek_27 rfl rfl rfl ?_
    obtain ⟨x18, hx18, hr⟩ := ob hr
    refine j_iald (pc' := 29) C dX12_seek_28 hx18 rfl ?_
    refine j_iconst (v := 1) (pc' := 30) C dX12_seek_29 kI_1 rfl ?_
    refine j_iadd (pc' := 31) C dX12_seek_30 rfl ?_
    obtain ⟨c19, hc19, hr⟩ := ob hr
    refine j_iast (pc' := 32) C dX12_seek_31 hc19 rfl ?_
    refine j_aload_n (q := 1) (pc' := 33) C dX12_seek_32 rfl rfl rfl ?_
    obtain ⟨x20, hx20, hr⟩ := ob hr
    refine j_getA (pc' := 36) C dX12_seek_33 fl_X12_8 hx20 rfl ?_
    refine j_iconst (v := 5) (pc' := 37) C dX12_seek_36 kI_5 rfl ?_
    refine j_iconst (v := 2) (pc' := 38) C dX12_seek_37 kI_2 rfl ?_
    obtain ⟨c21, hc21, hr⟩ := ob hr
    refine j_iast (pc' := 39) C dX12_seek_38 hc21 rfl ?_
    refine j_aload_n (q := 1) (pc' := 40) C dX12_seek_39 rfl rfl rfl ?_
    obtain ⟨x22, hx22, hr⟩ := ob hr
    refine j_getA (pc' := 43) C dX12_seek_40 fl_X12_8 hx22 rfl ?_
    refine j_bipush (v := 6) (pc' := 45) C dX12_seek_43 kB_6 rfl ?_
    refine j_iconst (v := 1) (pc' := 46) C dX12_seek_45 kI_1 rfl ?_
    obtain ⟨c23, hc23, hr⟩ := ob hr
    refine j_iast (pc' := 47) C dX12_seek_46 hc23 rfl ?_
    have hr := Option.some.inj hr
    subst hr
    exact j_vret C hq hret dX12_seek_47
def m_X12_pushAll (ce : Ce) (this : Nat) : Option (Unit × Ce) :=
  (gA ce 9 0 this).bind fun x1 =>
  (aI ce x1 6).bind fun x2 =>
  (it (fun s3 =>
    (gA s3.2 9 0 this).bind fun x43 =>
    (aI s3.2 x43 17).bind fun x44 =>
    if x44 ≤ s3.1.2 then
      some (Sum.inr (s3.1.1, s3.2))
    else
      (rcv s3.2 9 this).bind fun z45 =>
      (m_X12_frameOf s3.2 this s3.1.2).bind fun x46 =>
      if x46 = x2 then
        (gA s3.2 9 24 this).bind fun x47 =>
        (gA s3.2 9 0 this).bind fun x48 =>
        (aI s3.2 x48 (104 + s3.1.2)).bind fun x49 =>
        (sI s3.2 x47 s3.1.1 x49).bind fun c50 =>
        some (Sum.inl (((s3.1.1 + 1), (s3.1.2 + 1)), c50))
      else
        some (Sum.inl ((s3.1.1, (s3.1.2 + 1)), s3.2))
  ) FU ((0, 0), ce)).bind fun o4 =>
  (it (fun s6 =>
    if o4.1 ≤ s6.1 then
      some (Sum.inr ((), s6.2))
    else
      (it (fun s22 =>
        (gA s6.2 9 0 this).bind fun x36 =>
        (aI s6.2 x36 17).bind fun x37 =>
        if x37 ≤ s22.2 then
          some (Sum.inr s22.1)
        else
          (
            if s22.1 = 0 then
              (gA s6.2 9 0 this).bind fun x39 =>
              (aI s6.2 x39 (104 + s22.2)).bind fun x40 =>
              (gA s6.2 9 24 this).bind fun x41 =>
              (aI s6.2 x41 s6.1).bind fun x42 =>
              if x40 = x42 then
                some (Sum.inr s22.2)
              else
                some (Sum.inl (Sum.inl (0, (s22.2 + 1))))
            else
              some (Sum.inr s22.2)
          ).bind fun j38 => Sum.elim (fun wj38 => some wj38) (fun vj38 =>
            some (Sum.inl (1, (vj38 + 1)))
          ) j38
      ) FU (0, 0)).bind fun o23 =>
      (gA s6.2 9 24 this).bind fun x25 =>
      (aI s6.2 x25 s6.1).bind fun x26 =>
      (gA s6.2 9 24 this).bind fun x27 =>
      (aI s6.2 x27 s6.1).bind fun x28 =>
      if o23 = 0 then
        some (Sum.inl ((s6.1 + 1), s6.2))
      else
        (rcv s6.2 9 this).bind fun z29 =>
        (m_X12_isAsked s6.2 this ((x26 >>> (6 &&& 31)) &&& 63) (x28 &&& 63) x2).bind fun q30 =>
        if q30.1 = 0 then
          some (Sum.inl ((s6.1 + 1), q30.2))
        else
          (rcv q30.2 9 this).bind fun z31 =>
          (m_X12_addCube q30.2 this ((x26 >>> (6 &&& 31)) &&& 63) (x28 &&& 63) (x2 + 1)).bind fun q32 =>
          (gA q32.2 9 0 this).bind fun x33 =>
          (aI q32.2 x33 14).bind fun x34 =>
          (sI q32.2 x33 14 (x34 + 1)).bind fun c35 =>
          some (Sum.inl ((s6.1 + 1), c35))
  ) FU (0, o4.2)).bind fun o7 =>
  (rcv o7.2 9 this).bind fun z9 =>
  (m_X12_manyOf o7.2 this x2).bind fun x10 =>
  if x10 = 0 then
    (gA o7.2 9 0 this).bind fun x20 =>
    (sI o7.2 x20 5 3).bind fun c21 =>
    some ((), c21)
  else
    (gA o7.2 9 0 this).bind fun x11 =>
    (aI o7.2 x11 6).bind fun x12 =>
    (sI o7.2 x11 6 (x12 + 1)).bind fun c13 =>
    (gA c13 9 0 this).bind fun x14 =>
    (aI c13 x14 6).bind fun x15 =>
    (gA c13 9 0 this).bind fun x16 =>
    (aI c13 x16 4).bind fun x17 =>
    if x15 = x17 then
      (gA c13 9 0 this).bind fun x18 =>
      (sI c13 x18 5 0).bind fun c19 =>
      some ((), c19)
    else
      some ((), c13)
set_option maxRecDepth 100000 in
set_option maxHeartbeats 4000000 in
theorem c_X12_pushAll {nx : Nat} {ce : Ce} {this : Nat} {q : Unit × Ce} (hr : m_X12_pushAll ce this = some q) : Ct yX12_pushAll cX12_pushAll 7 none 7 156 0 0 [.ref this] nx ce none q.2 := by
  unfold m_X12_pushAll at hr
  refine ct_of (by decide) (by decide) ?_
  intro G C hq hret hin
  show Jd G 0 0 nx ce 0 [(0, .ref this)] []
  refine j_aload_n (q := 0) (pc' := 1) C dX12_pushAll_0 rfl rfl rfl ?_
  obtain ⟨x1, hx1, hr⟩ := ob hr
  refine j_getA (pc' := 4) C dX12_pushAll_1 fl_X12_8 hx1 rfl ?_
  refine j_bipush (v := 6) (pc' := 6) C dX12_pushAll_4 kB_6 rfl ?_
  obtain ⟨x2, hx2, hr⟩ := ob hr
  refine j_iald (pc' := 7) C dX12_pushAll_6 hx2 rfl ?_
  refine j_istore_n (lv' := [(1, .int x2), (0, .ref this)]) (pc' := 8) C dX12_pushAll_7 rfl (by decide) rfl rfl ?_
  refine j_iconst (v := 0) (pc' := 9) C dX12_pushAll_8 kI_0 rfl ?_
  refine j_istore_n (lv' := [(2, .int 0), (1, .int x2), (0, .ref this)]) (pc' := 10) C dX12_pushAll_9 rfl (by decide) rfl rfl ?_
  refine j_iconst (v := 0) (pc' := 11) C dX12_pushAll_10 kI_0 rfl ?_
  refine j_istore_n (lv' := [(3, .int 0), (2, .int 0), (1, .int x2), (0, .ref this)]) (pc' := 12) C dX12_pushAll_11 rfl (by decide) rfl rfl ?_
  obtain ⟨o4, ho4, ro4⟩ := ob hr
  have ko4 : Jd G 0 0 nx o4.2 59 [(0, .ref this), (1, .int x2), (2, .int o4.1)] [] := by
    have hr := ro4
    refine j_iconst (v := 0) (pc' := 60) C dX12_pushAll_59 kI_0 rfl ?_
    refine j_istore_n (lv' := [(3, .int 0), (0, .ref this), (1, .int x2), (2, .int o4.1)]) (pc' := 61) C dX12_pushAll_60 rfl (by decide) rfl rfl ?_
    obtain ⟨o7, ho7, ro7⟩ := ob hr
    have ko7 : Jd G 0 0 nx o7.2 194 [(0, .ref this), (1, .int x2)] [] := by
      have hr := ro7
      refine j_aload_n (q := 0) (pc' := 195) C dX12_pushAll_194 rfl rfl rfl ?_
      refine j_iload_n (q := 1) (pc' := 196) C dX12_pushAll_195 rfl rfl rfl ?_
      obtain ⟨z9, hz9, hr⟩ := ob hr
      obtain ⟨x10, hx10, hr⟩ := ob hr
      obtain ⟨fhz9, hz9⟩ := rcv_sp hz9
      refine j_callV (ci := 9) (As := [.int x2]) (rest := []) (st1 := [.int x10]) (pc' := 199) C ⟨wm_1813, wm_94⟩ rfl hz9 (c_X12_manyOf (nx := nx) hx10) yw_X12_manyOf wm_1811 rfl rfl (by decide) ⟨by decide, by decide⟩ dX12_pushAll_196 rfl rfl ?_
      refine j_if_ne (tgt := 210) (pc' := 202) C dX12_pushAll_199 rfl rfl (fun hc => ?_) (fun hc => ?_)
      · have hr := ifF hc hr
        clear hc
        refine j_aload_n (q := 0) (pc' := 211) C dX12_pushAll_210 rfl rfl rfl ?_
        obtain ⟨x11, hx11, hr⟩ := ob hr
        refine j_getA (pc' := 214) C dX12_pushAll_211 fl_X12_8 hx11 rfl ?_
        refine j_bipush (v := 6) (pc' := 216) C dX12_pushAll_214 kB_6 rfl ?_
        refine j_dup2 (pc' := 217) C dX12_pushAll_216 rfl rfl rfl ?_
        obtain ⟨x12, hx12, hr⟩ := ob hr
        refine j_iald (pc' := 218) C dX12_pushAll_217 hx12 rfl ?_
        refine j_iconst (v := 1) (pc' := 219) C dX12_pushAll_218 kI_1 rfl ?_
        refine j_iadd (pc' := 220) C dX12_pushAll_219 rfl ?_
        obtain ⟨c13, hc13, hr⟩ := ob hr
        refine j_iast (pc' := 221) C dX12_pushAll_220 hc13 rfl ?_
        refine j_aload_n (q := 0) (pc' := 222) C dX12_pushAll_221 rfl rfl rfl ?_
        obtain ⟨x14, hx14, hr⟩ := ob hr
        refine j_getA (pc' := 225) C dX12_pushAll_222 fl_X12_8 hx14 rfl ?_
        refine j_bipush (v := 6) (pc' := 227) C dX12_pushAll_225 kB_6 rfl ?_
        obtain ⟨x15, hx15, hr⟩ := ob hr
        refine j_iald (pc' := 228) C dX12_pushAll_227 hx15 rfl ?_
        refine j_aload_n (q := 0) (pc' := 229) C dX12_pushAll_228 rfl rfl rfl ?_
        obtain ⟨x16, hx16, hr⟩ := ob hr
        refine j_getA (pc' := 232) C dX12_pushAll_229 fl_X12_8 hx16 rfl ?_
        refine j_iconst (v := 4) (pc' := 233) C dX12_pushAll_232 kI_4 rfl ?_
        obtain ⟨x17, hx17, hr⟩ := ob hr
        refine j_iald (pc' := 234) C dX12_pushAll_233 hx17 rfl ?_
        refine j_ic_ne (tgt := 244) (pc' := 237) C dX12_pushAll_234 rfl rfl (fun hc => ?_) (fun hc => ?_)
        · have hr := ifF hc hr
          clear hc
          have hr := Option.some.inj hr
          subst hr
          exact j_vret C hq hret dX12_pushAll_244
        · have hr := ifT hc hr
          clear hc
          refine j_aload_n (q := 0) (pc' := 238) C dX12_pushAll_237 rfl rfl rfl ?_
          obtain ⟨x18, hx18, hr⟩ := ob hr
          refine j_getA (pc' := 241) C dX12_pushAll_238 fl_X12_8 hx18 rfl ?_
          refine j_iconst (v := 5) (pc' := 242) C dX12_pushAll_241 kI_5 rfl ?_
          refine j_iconst (v := 0) (pc' := 243) C dX12_pushAll_242 kI_0 rfl ?_
          obtain ⟨c19, hc19, hr⟩ := ob hr
          refine j_iast (pc' := 244) C dX12_pushAll_243 hc19 rfl ?_
          have hr := Option.some.inj hr
          subst hr
          exact j_vret C hq hret dX12_pushAll_244
      · have hr := ifT hc hr
        clear hc
        refine j_aload_n (q := 0) (pc' := 203) C dX12_pushAll_202 rfl rfl rfl ?_
        obtain ⟨x20, hx20, hr⟩ := ob hr
        refine j_getA (pc' := 206) C dX12_pushAll_203 fl_X12_8 hx20 rfl ?_
        refine j_iconst (v := 5) (pc' := 207) C dX12_pushAll_206 kI_5 rfl ?_
        refine j_iconst (v := 3) (pc' := 208) C dX12_pushAll_207 kI_3 rfl ?_
        obtain ⟨c21, hc21, hr⟩ := ob hr
        refine j_iast (pc' := 209) C dX12_pushAll_208 hc21 rfl ?_
        have hr := Option.some.inj hr
        subst hr
        exact j_vret C hq hret dX12_pushAll_209
    refine j_lv [1, 2, 3, 0] rfl (it_J (J := (fun s6 => Jd G 0 0 nx s6.2 61 [(0, .ref this), (1, .int x2), (2, .int o4.1), (3, .int s6.1)] [])) ?_ ho7)
    clear ho7
    intro s6 r8 hr is6 es6
    refine j_iload_n (q := 3) (pc' := 62) C dX12_pushAll_61 rfl rfl rfl ?_
    refine j_iload_n (q := 2) (pc' := 63) C dX12_pushAll_62 rfl rfl rfl ?_
    refine j_ic_ge (tgt := 194) (pc' := 66) C dX12_pushAll_63 rfl rfl (fun hc => ?_) (fun hc => ?_)
    · have hr := ifT hc hr
      clear hc
      have hr := es6 _ (Option.some.inj hr).symm
      subst hr
      exact j_lv [0, 1] rfl ko7
    · have hr := ifF hc hr
      clear hc
      refine j_iconst (v := 0) (pc' := 67) C dX12_pushAll_66 kI_0 rfl ?_
      refine j_istore (lv' := [(4, .int 0), (0, .ref this), (1, .int x2), (2, .int o4.1), (3, .int s6.1)]) (pc' := 69) C dX12_pushAll_67 (by decide) rfl rfl ?_
      refine j_iconst (v := 0) (pc' := 70) C dX12_pushAll_69 kI_0 rfl ?_
      refine j_istore (lv' := [(5, .int 0), (4, .int 0), (0, .ref this), (1, .int x2), (2, .int o4.1), (3, .int s6.1)]) (pc' := 72) C dX12_pushAll_70 (by decide) rfl rfl ?_
      obtain ⟨o23, ho23, ro23⟩ := ob hr
      have ko23 : Jd G 0 0 nx s6.2 121 [(0, .ref this), (1, .int x2), (2, .int o4.1), (3, .int s6.1), (4, .int o23)] [] := by
        have hr := ro23
        refine j_aload_n (q := 0) (pc' := 122) C dX12_pushAll_121 rfl rfl rfl ?_
        obtain ⟨x25, hx25, hr⟩ := ob hr
        refine j_getA (pc' := 125) C dX12_pushAll_122 fl_X12_50 hx25 rfl ?_
        refine j_iload_n (q := 3) (pc' := 126) C dX12_pushAll_125 rfl rfl rfl ?_
        obtain ⟨x26, hx26, hr⟩ := ob hr
        refine j_iald (pc' := 127) C dX12_pushAll_126 hx26 rfl ?_
        refine j_bipush (v := 6) (pc' := 129) C dX12_pushAll_127 kB_6 rfl ?_
        refine j_ishr (pc' := 130) C dX12_pushAll_129 rfl ?_
        refine j_bipush (v := 63) (pc' := 132) C dX12_pushAll_130 kB_63 rfl ?_
        refine j_iand (pc' := 133) C dX12_pushAll_132 rfl ?_
        refine j_istore (lv' := [(5, .int ((x26 >>> (6 &&& 31)) &&& 63)), (0, .ref this), (1, .int x2), (2, .int o4.1), (3, .int s6.1), (4, .int o23)]) (pc' := 135) C dX12_pushAll_133 (by decide) rfl rfl ?_
        refine j_aload_n (q := 1) (pc' := 136) C dX12_pushAll_135 rfl rfl rfl ?_
        obtain ⟨x27, hx27, hr⟩ := ob hr
        refine j_getA (pc' := 139) C dX12_pushAll_136 fl_X12_50 hx27 rfl ?_
        refine j_iload_n (q := 4) (pc' := 140) C dX12_pushAll_139 rfl rfl rfl ?_
        obtain ⟨x28, hx28, hr⟩ := ob hr
        refine j_iald (pc' := 141) C dX12_pushAll_140 hx28 rfl ?_
        refine j_bipush (v := 63) (pc' := 143) C dX12_pushAll_141 kB_63 rfl ?_
        refine j_iand (pc' := 144) C dX12_pushAll_143 rfl ?_
        refine j_istore (lv' := [(6, .int (x28 &&& 63)), (5, .int ((x26 >>> (6 &&& 31)) &&& 63)), (0, .ref this), (1, .int x2), (2, .int o4.1), (3, .int s6.1), (4, .int o23)]) (pc' := 146) C dX12_pushAll_144 (by decide) rfl rfl ?_
        refine j_iload (q := 6) (pc' := 148) C dX12_pushAll_146 rfl rfl ?_
        refine j_if_eq (tgt := 188) (pc' := 151) C dX12_pushAll_148 rfl rfl (fun hc => ?_) (fun hc => ?_)
        · have hr := ifT hc hr
          clear hc
          refine j_iinc (q := 5) (v := 1) (lv' := [(3, .int (s6.1 + 1)), (6, .int (x28 &&& 63)), (5, .int ((x26 >>> (6 &&& 31)) &&& 63)), (0, .ref this), (1, .int x2), (2, .int o4.1), (4, .int o23)]) (pc' := 191) C dX12_pushAll_188 rfl kI_1 (by decide) rfl rfl ?_
          refine j_goto (tgt := 61) C dX12_pushAll_191 rfl ?_
          exact j_lv [3, 4, 5, 0] rfl (is6 _ (Option.some.inj hr).symm)
        · have hr := ifF hc hr
          clear hc
          refine j_aload_n (q := 2) (pc' := 152) C dX12_pushAll_151 rfl rfl rfl ?_
          refine j_iload (q := 1) (pc' := 154) C dX12_pushAll_152 rfl rfl ?_
          refine j_iload (q := 0) (pc' := 156) C dX12_pushAll_154 rfl rfl ?_
          refine j_iload_n (q := 3) (pc' := 157) C dX12_pushAll_156 rfl rfl rfl ?_
          obtain ⟨z29, hz29, hr⟩ := ob hr
          obtain ⟨q30, hq30, hr⟩ := ob hr
          obtain ⟨fhz29, hz29⟩ := rcv_sp hz29
          refine j_callV (ci := 9) (As := [.int ((x26 >>> (6 &&& 31)) &&& 63), .int (x28 &&& 63), .int x2]) (rest := []) (st1 := [.int q30.1]) (pc' := 160) C ⟨wm_1779, wm_87⟩ rfl hz29 (c_X12_isAsked (nx := nx) hq30) yw_X12_isAsked wm_1777 rfl rfl (by decide) ⟨by decide, by decide⟩ dX12_pushAll_157 rfl rfl ?_
          refine j_if_ne (tgt := 166) (pc' := 163) C dX12_pushAll_160 rfl rfl (fun hc => ?_) (fun hc => ?_)
          · have hr := ifF hc hr
            clear hc
            refine j_aload_n (q := 2) (pc' := 167) C dX12_pushAll_166 rfl rfl rfl ?_
            refine j_iload (q := 1) (pc' := 169) C dX12_pushAll_167 rfl rfl ?_
            refine j_iload (q := 0) (pc' := 171) C dX12_pushAll_169 rfl rfl ?_
            refine j_iload_n (q := 3) (pc' := 172) C dX12_pushAll_171 rfl rfl rfl ?_
            refine j_iconst (v := 1) (pc' := 173) C dX12_pushAll_172 kI_1 rfl ?_
            refine j_iadd (pc' := 174) C dX12_pushAll_173 rfl ?_
            obtain ⟨z31, hz31, hr⟩ := ob hr
            obtain ⟨q32, hq32, hr⟩ := ob hr
            obtain ⟨fhz31, hz31⟩ := rcv_sp hz31
            refine j_callV (ci := 9) (As := [.int ((x26 >>> (6 &&& 31)) &&& 63), .int (x28 &&& 63), .int (x2 + 1)]) (rest := []) (st1 := []) (pc' := 177) C ⟨wm_1791, wm_90⟩ rfl hz31 (c_X12_addCube (nx := nx) hq32) yw_X12_addCube wm_1789 rfl rfl (by decide) ⟨by decide, by decide⟩ dX12_pushAll_174 rfl rfl ?_
            refine j_aload_n (q := 2) (pc' := 178) C dX12_pushAll_177 rfl rfl rfl ?_
            obtain ⟨x33, hx33, hr⟩ := ob hr
            refine j_getA (pc' := 181) C dX12_pushAll_178 fl_X12_8 hx33 rfl ?_
            refine j_bipush (v := 14) (pc' := 183) C dX12_pushAll_181 kB_14 rfl ?_
            refine j_dup2 (pc' := 184) C dX12_pushAll_183 rfl rfl rfl ?_
            obtain ⟨x34, hx34, hr⟩ := ob hr
            refine j_iald (pc' := 185) C dX12_pushAll_184 hx34 rfl ?_
            refine j_iconst (v := 1) (pc' := 186) C dX12_pushAll_185 kI_1 rfl ?_
            refine j_iadd (pc' := 187) C dX12_pushAll_186 rfl ?_
            obtain ⟨c35, hc35, hr⟩ := ob hr
            refine j_iast (pc' := 188) C dX12_pushAll_187 hc35 rfl ?_
            refine j_iinc (q := 5) (v := 1) (lv' := [(3, .int (s6.1 + 1)), (6, .int (x28 &&& 63)), (5, .int ((x26 >>> (6 &&& 31)) &&& 63)), (0, .ref this), (1, .int x2), (2, .int o4.1), (4, .int o23)]) (pc' := 191) C dX12_pushAll_188 rfl kI_1 (by decide) rfl rfl ?_
            refine j_goto (tgt := 61) C dX12_pushAll_191 rfl ?_
            exact j_lv [3, 4, 5, 0] rfl (is6 _ (Option.some.inj hr).symm)
          · have hr := ifT hc hr
            clear hc
            refine j_goto (tgt := 188) C dX12_pushAll_163 rfl ?_
            refine j_iinc (q := 5) (v := 1) (lv' := [(3, .int (s6.1 + 1)), (6, .int (x28 &&& 63)), (5, .int ((x26 >>> (6 &&& 31)) &&& 63)), (0, .ref this), (1, .int x2), (2, .int o4.1), (4, .int o23)]) (pc' := 191) C dX12_pushAll_188 rfl kI_1 (by decide) rfl rfl ?_
            refine j_goto (tgt := 61) C dX12_pushAll_191 rfl ?_
            exact j_lv [3, 4, 5, 0] rfl (is6 _ (Option.some.inj hr).symm)
      refine j_lv [2, 3, 4, 5, 1, 0] rfl (it_J (J := (fun s22 => Jd G 0 0 nx s6.2 72 [(0, .ref this), (1, .int x2), (2, .int o4.1), (3, .int s6.1), (4, .int s22.1), (5, .int s22.2)] [])) ?_ ho23)
      clear ho23
      intro s22 r24 hr is22 es22
      refine j_iload (q := 5) (pc' := 74) C dX12_pushAll_72 rfl rfl ?_
      refine j_aload_n (q := 0) (pc' := 75) C dX12_pushAll_74 rfl rfl rfl ?_
      obtain ⟨x36, hx36, hr⟩ := ob hr
      refine j_getA (pc' := 78) C dX12_pushAll_75 fl_X12_8 hx36 rfl ?_
      refine j_bipush (v := 17) (pc' := 80) C dX12_pushAll_78 kB_17 rfl ?_
      obtain ⟨x37, hx37, hr⟩ := ob hr
      refine j_iald (pc' := 81) C dX12_pushAll_80 hx37 rfl ?_
      refine j_ic_ge (tgt := 121) (pc' := 84) C dX12_pushAll_81 rfl rfl (fun hc => ?_) (fun hc => ?_)
      · have hr := ifT hc hr
        clear hc
        have hr := es22 _ (Option.some.inj hr).symm
        subst hr
        exact j_lv [0, 1, 2, 3, 4] rfl ko23
      · have hr := ifF hc hr
        clear hc
        refine j_iload (q := 4) (pc' := 86) C dX12_pushAll_84 rfl rfl ?_
        obtain ⟨j38, hj38, rj38⟩ := ob hr
        have kj38 : ∀ vj38, j38 = Sum.inr vj38 → Jd G 0 0 nx s6.2 108 [(0, .ref this), (1, .int x2), (2, .int o4.1), (3, .int s6.1), (5, .int vj38)] [] := by
          intro vj38 ej38
          rw [ej38] at rj38
          have hr := elR rj38
          refine j_iconst (v := 1) (pc' := 109) C dX12_pushAll_108 kI_1 rfl ?_
          refine j_goto (tgt := 113) C dX12_pushAll_109 rfl ?_
          refine j_istore (lv' := [(4, .int 1), (0, .ref this), (1, .int x2), (2, .int o4.1), (3, .int s6.1), (5, .int vj38)]) (pc' := 115) C dX12_pushAll_113 (by decide) rfl rfl ?_
          refine j_iinc (q := 5) (v := 1) (lv' := [(5, .int (vj38 + 1)), (4, .int 1), (0, .ref this), (1, .int x2), (2, .int o4.1), (3, .int s6.1)]) (pc' := 118) C dX12_pushAll_115 rfl kI_1 (by decide) rfl rfl ?_
          refine j_goto (tgt := 72) C dX12_pushAll_118 rfl ?_
          exact j_lv [2, 3, 4, 5, 1, 0] rfl (is22 _ (Option.some.inj hr).symm)
        have hr := hj38
        clear hj38
        refine j_if_ne (tgt := 108) (pc' := 89) C dX12_pushAll_86 rfl rfl (fun hc => ?_) (fun hc => ?_)
        · have hr := ifF hc hr
          clear hc
          have hr := Option.some.inj hr
          subst hr
          exact j_lv [0, 1, 2, 3, 5] rfl (kj38 _ rfl)
        · have hr := ifT hc hr
          clear hc
          refine j_aload_n (q := 0) (pc' := 90) C dX12_pushAll_89 rfl rfl rfl ?_
          obtain ⟨x39, hx39, hr⟩ := ob hr
          refine j_getA (pc' := 93) C dX12_pushAll_90 fl_X12_8 hx39 rfl ?_
          refine j_bipush (v := 104) (pc' := 95) C dX12_pushAll_93 kB_104 rfl ?_
          refine j_iload (q := 5) (pc' := 97) C dX12_pushAll_95 rfl rfl ?_
          refine j_iadd (pc' := 98) C dX12_pushAll_97 rfl ?_
          obtain ⟨x40, hx40, hr⟩ := ob hr
          refine j_iald (pc' := 99) C dX12_pushAll_98 hx40 rfl ?_
          refine j_aload_n (q := 0) (pc' := 100) C dX12_pushAll_99 rfl rfl rfl ?_
          obtain ⟨x41, hx41, hr⟩ := ob hr
          refine j_getA (pc' := 103) C dX12_pushAll_100 fl_X12_50 hx41 rfl ?_
          refine j_iload_n (q := 3) (pc' := 104) C dX12_pushAll_103 rfl rfl rfl ?_
          obtain ⟨x42, hx42, hr⟩ := ob hr
          refine j_iald (pc' := 105) C dX12_pushAll_104 hx42 rfl ?_
          refine j_ic_ne (tgt := 112) (pc' := 108) C dX12_pushAll_105 rfl rfl (fun hc => ?_) (fun hc => ?_)
          · have hr := ifF hc hr
            clear hc
            refine j_iconst (v := 0) (pc' := 113) C dX12_pushAll_112 kI_0 rfl ?_
            refine j_istore (lv' := [(4, .int 0), (0, .ref this), (1, .int x2), (2, .int o4.1), (3, .int s6.1), (5, .int s22.2)]) (pc' := 115) C dX12_pushAll_113 (by decide) rfl rfl ?_
            refine j_iinc (q := 5) (v := 1) (lv' := [(5, .int (s22.2 + 1)), (4, .int 0), (0, .ref this), (1, .int x2), (2, .int o4.1), (3, .int s6.1)]) (pc' := 118) C dX12_pushAll_115 rfl kI_1 (by decide) rfl rfl ?_
            refine j_goto (tgt := 72) C dX12_pushAll_118 rfl ?_
            have hr := Option.some.inj hr
            subst hr
            have hr := elL rj38
            exact j_lv [2, 3, 4, 5, 1, 0] rfl (is22 _ (Option.some.inj hr).symm)
          · have hr := ifT hc hr
            clear hc
            have hr := Option.some.inj hr
            subst hr
            exact j_lv [0, 1, 2, 3, 5] rfl (kj38 _ rfl)
  refine j_lv [3, 2, 1, 0] rfl (it_J (J := (fun s3 => Jd G 0 0 nx s3.2 12 [(0, .ref this), (1, .int x2), (2, .int s3.1.1), (3, .int s3.1.2)] [])) ?_ ho4)
  clear ho4
  intro s3 r5 hr is3 es3
  refine j_iload_n (q := 3) (pc' := 13) C dX12_pushAll_12 rfl rfl rfl ?_
  refine j_aload_n (q := 0) (pc' := 14) C dX12_pushAll_13 rfl rfl rfl ?_
  obtain ⟨x43, hx43, hr⟩ := ob hr
  refine j_getA (pc' := 17) C dX12_pushAll_14 fl_X12_8 hx43 rfl ?_
  refine j_bipush (v := 17) (pc' := 19) C dX12_pushAll_17 kB_17 rfl ?_
  obtain ⟨x44, hx44, hr⟩ := ob hr
  refine j_iald (pc' := 20) C dX12_pushAll_19 hx44 rfl ?_
  refine j_ic_ge (tgt := 59) (pc' := 23) C dX12_pushAll_20 rfl rfl (fun hc => ?_) (fun hc => ?_)
  · have hr := ifT hc hr
    clear hc
    have hr := es3 _ (Option.some.inj hr).symm
    subst hr
    exact j_lv [0, 1, 2] rfl ko4
  · have hr := ifF hc hr
    clear hc
    refine j_aload_n (q := 0) (pc' := 24) C dX12_pushAll_23 rfl rfl rfl ?_
    refine j_iload_n (q := 3) (pc' := 25) C dX12_pushAll_24 rfl rfl rfl ?_
    obtain ⟨z45, hz45, hr⟩ := ob hr
    obtain ⟨x46, hx46, hr⟩ := ob hr
    obtain ⟨fhz45, hz45⟩ := rcv_sp hz45
    refine j_callV (ci := 9) (As := [.int s3.1.2]) (rest := []) (st1 := [.int x46]) (pc' := 28) C ⟨wm_1655, wm_60⟩ rfl hz45 (c_X12_frameOf (nx := nx) hx46) yw_X12_frameOf wm_1653 rfl rfl (by decide) ⟨by decide, by decide⟩ dX12_pushAll_25 rfl rfl ?_
    refine j_iload_n (q := 1) (pc' := 29) C dX12_pushAll_28 rfl rfl rfl ?_
    refine j_ic_eq (tgt := 35) (pc' := 32) C dX12_pushAll_29 rfl rfl (fun hc => ?_) (fun hc => ?_)
    · have hr := ifT hc hr
      clear hc
      refine j_aload_n (q := 0) (pc' := 36) C dX12_pushAll_35 rfl rfl rfl ?_
      obtain ⟨x47, hx47, hr⟩ := ob hr
      refine j_getA (pc' := 39) C dX12_pushAll_36 fl_X12_50 hx47 rfl ?_
      refine j_iload_n (q := 2) (pc' := 40) C dX12_pushAll_39 rfl rfl rfl ?_
      refine j_aload_n (q := 0) (pc' := 41) C dX12_pushAll_40 rfl rfl rfl ?_
      obtain ⟨x48, hx48, hr⟩ := ob hr
      refine j_getA (pc' := 44) C dX12_pushAll_41 fl_X12_8 hx48 rfl ?_
      refine j_bipush (v := 104) (pc' := 46) C dX12_pushAll_44 kB_104 rfl ?_
      refine j_iload_n (q := 3) (pc' := 47) C dX12_pushAll_46 rfl rfl rfl ?_
      refine j_iadd (pc' := 48) C dX12_pushAll_47 rfl ?_
      obtain ⟨x49, hx49, hr⟩ := ob hr
      refine j_iald (pc' := 49) C dX12_pushAll_48 hx49 rfl ?_
      obtain ⟨c50, hc50, hr⟩ := ob hr
      refine j_iast (pc' := 50) C dX12_pushAll_49 hc50 rfl ?_
      refine j_iinc (q := 2) (v := 1) (lv' := [(2, .int (s3.1.1 + 1)), (0, .ref this), (1, .int x2), (3, .int s3.1.2)]) (pc' := 53) C dX12_pushAll_50 rfl kI_1 (by decide) rfl rfl ?_
      refine j_iinc (q := 3) (v := 1) (lv' := [(3, .int (s3.1.2 + 1)), (2, .int (s3.1.1 + 1)), (0, .ref this), (1, .int x2)]) (pc' := 56) C dX12_pushAll_53 rfl kI_1 (by decide) rfl rfl ?_
      refine j_goto (tgt := 12) C dX12_pushAll_56 rfl ?_
      exact j_lv [2, 3, 1, 0] rfl (is3 _ (Option.some.inj hr).symm)
    · have hr := ifF hc hr
      clear hc
      refine j_goto (tgt := 53) C dX12_pushAll_32 rfl ?_
      refine j_iinc (q := 3) (v := 1) (lv' := [(3, .int (s3.1.2 + 1)), (0, .ref this), (1, .int x2), (2, .int s3.1.1)]) (pc' := 56) C dX12_pushAll_53 rfl kI_1 (by decide) rfl rfl ?_
      refine j_goto (tgt := 12) C dX12_pushAll_56 rfl ?_
      exact j_lv [1, 2, 3, 0] rfl (is3 _ (Option.some.inj hr).symm)
def m_X12_isOver (ce : Ce) (this : Nat) : Option (Int32) :=
  (gA ce 9 0 this).bind fun x1 =>
  (aI ce x1 5).bind fun x2 =>
  if x2 < 3 then
    some 0
  else
    some 1
set_option maxRecDepth 100000 in
set_option maxHeartbeats 4000000 in
theorem c_X12_isOver {nx : Nat} {ce : Ce} {this : Nat} {q : Int32} (hr : m_X12_isOver ce this = some q) : Ct yX12_isOver cX12_isOver 1 (some .boolean) 0 0 0 0 [.ref this] nx ce (some (.int q)) ce := by
  unfold m_X12_isOver at hr
  refine ct_of (by decide) (by decide) ?_
  intro G C hq hret hin
  show Jd G 0 0 nx ce 0 [(0, .ref this)] []
  refine j_aload_n (q := 0) (pc' := 1) C dX12_isOver_0 rfl rfl rfl ?_
  obtain ⟨x1, hx1, hr⟩ := ob hr
  refine j_getA (pc' := 4) C dX12_isOver_1 fl_X12_8 hx1 rfl ?_
  refine j_iconst (v := 5) (pc' := 5) C dX12_isOver_4 kI_5 rfl ?_
  obtain ⟨x2, hx2, hr⟩ := ob hr
  refine j_iald (pc' := 6) C dX12_isOver_5 hx2 rfl ?_
  refine j_iconst (v := 3) (pc' := 7) C dX12_isOver_6 kI_3 rfl ?_
  refine j_ic_lt (tgt := 14) (pc' := 10) C dX12_isOver_7 rfl rfl (fun hc => ?_) (fun hc => ?_)
  · have hr := ifT hc hr
    clear hc
    refine j_iconst (v := 0) (pc' := 15) C dX12_isOver_14 kI_0 rfl ?_
    have hr := Option.some.inj hr
    subst hr
    exact j_zret C hq hret rfl dX12_isOver_15
  · have hr := ifF hc hr
    clear hc
    refine j_iconst (v := 1) (pc' := 11) C dX12_isOver_10 kI_1 rfl ?_
    refine j_goto (tgt := 15) C dX12_isOver_11 rfl ?_
    have hr := Option.some.inj hr
    subst hr
    exact j_zret C hq hret rfl dX12_isOver_15
def m_X12_putAside (ce : Ce) (this : Nat) : Option (Unit × Ce) :=
  (it (fun s1 =>
    if 5421 ≤ s1.1 then
      some (Sum.inr ((), s1.2))
    else
      (gA s1.2 9 25 this).bind fun x11 =>
      (gA s1.2 9 0 this).bind fun x12 =>
      (aI s1.2 x12 (3 + s1.1)).bind fun x13 =>
      (sI s1.2 x11 s1.1 x13).bind fun c14 =>
      some (Sum.inl ((s1.1 + 1), c14))
  ) FU (0, ce)).bind fun o2 =>
  (it (fun s4 =>
    if 7 ≤ s4.1 then
      some (Sum.inr ((), s4.2))
    else
      (gA s4.2 9 26 this).bind fun x7 =>
      (gA s4.2 9 2 this).bind fun x8 =>
      (aG s4.2 x8 s4.1).bind fun x9 =>
      (sG s4.2 x7 s4.1 x9).bind fun c10 =>
      some (Sum.inl ((s4.1 + 1), c10))
  ) FU (0, o2.2)).bind fun o5 =>
  some ((), o5.2)
set_option maxRecDepth 100000 in
set_option maxHeartbeats 4000000 in
theorem c_X12_putAside {nx : Nat} {ce : Ce} {this : Nat} {q : Unit × Ce} (hr : m_X12_putAside ce this = some q) : Ct yX12_putAside cX12_putAside 2 none 0 0 0 0 [.ref this] nx ce none q.2 := by
  unfold m_X12_putAside at hr
  refine ct_of (by decide) (by decide) ?_
  intro G C hq hret hin
  show Jd G 0 0 nx ce 0 [(0, .ref this)] []
  refine j_iconst (v := 0) (pc' := 1) C dX12_putAside_0 kI_0 rfl ?_
  refine j_istore_n (lv' := [(1, .int 0), (0, .ref this)]) (pc' := 2) C dX12_putAside_1 rfl (by decide) rfl rfl ?_
  obtain ⟨o2, ho2, ro2⟩ := ob hr
  have ko2 : Jd G 0 0 nx o2.2 29 [(0, .ref this)] [] := by
    have hr := ro2
    refine j_iconst (v := 0) (pc' := 30) C dX12_putAside_29 kI_0 rfl ?_
    refine j_istore_n (lv' := [(1, .int 0), (0, .ref this)]) (pc' := 31) C dX12_putAside_30 rfl (by decide) rfl rfl ?_
    obtain ⟨o5, ho5, ro5⟩ := ob hr
    have ko5 : Jd G 0 0 nx o5.2 55 [] [] := by
      have hr := ro5
      have hr := Option.some.inj hr
      subst hr
      exact j_vret C hq hret dX12_putAside_55
    refine j_lv [1, 0] rfl (it_J (J := (fun s4 => Jd G 0 0 nx s4.2 31 [(0, .ref this), (1, .int s4.1)] [])) ?_ ho5)
    clear ho5
    intro s4 r6 hr is4 es4
    refine j_iload_n (q := 1) (pc' := 32) C dX12_putAside_31 rfl rfl rfl ?_
    refine j_bipush (v := 7) (pc' := 34) C dX12_putAside_32 kB_7 rfl ?_
    refine j_ic_ge (tgt := 55) (pc' := 37) C dX12_putAside_34 rfl rfl (fun hc => ?_) (fun hc => ?_)
    · have hr := ifT hc hr
      clear hc
      have hr := es4 _ (Option.some.inj hr).symm
      subst hr
      exact j_lv [] rfl ko5
    · have hr := ifF hc hr
      clear hc
      refine j_aload_n (q := 0) (pc' := 38) C dX12_putAside_37 rfl rfl rfl ?_
      obtain ⟨x7, hx7, hr⟩ := ob hr
      refine j_getA (pc' := 41) C dX12_putAside_38 fl_X12_56 hx7 rfl ?_
      refine j_iload_n (q := 1) (pc' := 42) C dX12_putAside_41 rfl rfl rfl ?_
      refine j_aload_n (q := 0) (pc' := 43) C dX12_putAside_42 rfl rfl rfl ?_
      obtain ⟨x8, hx8, hr⟩ := ob hr
      refine j_getA (pc' := 46) C dX12_putAside_43 fl_X12_17 hx8 rfl ?_
      refine j_iload_n (q := 1) (pc' := 47) C dX12_putAside_46 rfl rfl rfl ?_
      obtain ⟨x9, hx9, hr⟩ := ob hr
      refine j_fald (pc' := 48) C dX12_putAside_47 hx9 rfl ?_
      obtain ⟨c10, hc10, hr⟩ := ob hr
      refine j_fast (pc' := 49) C dX12_putAside_48 hc10 rfl ?_
      refine j_iinc (q := 1) (v := 1) (lv' := [(1, .int (s4.1 + 1)), (0, .ref this)]) (pc' := 52) C dX12_putAside_49 rfl kI_1 (by decide) rfl rfl ?_
      refine j_goto (tgt := 31) C dX12_putAside_52 rfl ?_
      exact j_lv [1, 0] rfl (is4 _ (Option.some.inj hr).symm)
  refine j_lv [1, 0] rfl (it_J (J := (fun s1 => Jd G 0 0 nx s1.2 2 [(0, .ref this), (1, .int s1.1)] [])) ?_ ho2)
  clear ho2
  intro s1 r3 hr is1 es1
  refine j_iload_n (q := 1) (pc' := 3) C dX12_putAside_2 rfl rfl rfl ?_
  refine j_sipush (v := 5421) (pc' := 6) C dX12_putAside_3 kS_5421 rfl ?_
  refine j_ic_ge (tgt := 29) (pc' := 9) C dX12_putAside_6 rfl rfl (fun hc => ?_) (fun hc => ?_)
  · have hr := ifT hc hr
    clear hc
    have hr := es1 _ (Option.some.inj hr).symm
    subst hr
    exact j_lv [0] rfl ko2
  · have hr := ifF hc hr
    clear hc
    refine j_aload_n (q := 0) (pc' := 10) C dX12_putAside_9 rfl rfl rfl ?_
    obtain ⟨x11, hx11, hr⟩ := ob hr
    refine j_getA (pc' := 13) C dX12_putAside_10 fl_X12_53 hx11 rfl ?_
    refine j_iload_n (q := 1) (pc' := 14) C dX12_putAside_13 rfl rfl rfl ?_
    refine j_aload_n (q := 0) (pc' := 15) C dX12_putAside_14 rfl rfl rfl ?_
    obtain ⟨x12, hx12, hr⟩ := ob hr
    refine j_getA (pc' := 18) C dX12_putAside_15 fl_X12_8 hx12 rfl ?_
    refine j_iconst (v := 3) (pc' := 19) C dX12_putAside_18 kI_3 rfl ?_
    refine j_iload_n (q := 1) (pc' := 20) C dX12_putAside_19 rfl rfl rfl ?_
    refine j_iadd (pc' := 21) C dX12_putAside_20 rfl ?_
    obtain ⟨x13, hx13, hr⟩ := ob hr
    refine j_iald (pc' := 22) C dX12_putAside_21 hx13 rfl ?_
    obtain ⟨c14, hc14, hr⟩ := ob hr
    refine j_iast (pc' := 23) C dX12_putAside_22 hc14 rfl ?_
    refine j_iinc (q := 1) (v := 1) (lv' := [(1, .int (s1.1 + 1)), (0, .ref this)]) (pc' := 26) C dX12_putAside_23 rfl kI_1 (by decide) rfl rfl ?_
    refine j_goto (tgt := 2) C dX12_putAside_26 rfl ?_
    exact j_lv [1, 0] rfl (is1 _ (Option.some.inj hr).symm)
def m_X12_bringBack (ce : Ce) (this : Nat) : Option (Unit × Ce) :=
  (it (fun s1 =>
    if 5421 ≤ s1.1 then
      some (Sum.inr ((), s1.2))
    else
      (gA s1.2 9 0 this).bind fun x11 =>
      (gA s1.2 9 25 this).bind fun x12 =>
      (aI s1.2 x12 s1.1).bind fun x13 =>
      (sI s1.2 x11 (3 + s1.1) x13).bind fun c14 =>
      some (Sum.inl ((s1.1 + 1), c14))
  ) FU (0, ce)).bind fun o2 =>
  (it (fun s4 =>
    if 7 ≤ s4.1 then
      some (Sum.inr ((), s4.2))
    else
      (gA s4.2 9 2 this).bind fun x7 =>
      (gA s4.2 9 26 this).bind fun x8 =>
      (aG s4.2 x8 s4.1).bind fun x9 =>
      (sG s4.2 x7 s4.1 x9).bind fun c10 =>
      some (Sum.inl ((s4.1 + 1), c10))
  ) FU (0, o2.2)).bind fun o5 =>
  some ((), o5.2)
set_option maxRecDepth 100000 in
set_option maxHeartbeats 4000000 in
theorem c_X12_bringBack {nx : Nat} {ce : Ce} {this : Nat} {q : Unit × Ce} (hr : m_X12_bringBack ce this = some q) : Ct yX12_bringBack cX12_bringBack 2 none 0 0 0 0 [.ref this] nx ce none q.2 := by
  unfold m_X12_bringBack at hr
  refine ct_of (by decide) (by decide) ?_
  intro G C hq hret hin
  show Jd G 0 0 nx ce 0 [(0, .ref this)] []
  refine j_iconst (v := 0) (pc' := 1) C dX12_bringBack_0 kI_0 rfl ?_
  refine j_istore_n (lv' := [(1, .int 0), (0, .ref this)]) (pc' := 2) C dX12_bringBack_1 rfl (by decide) rfl rfl ?_
  obtain ⟨o2, ho2, ro2⟩ := ob hr
  have ko2 : Jd G 0 0 nx o2.2 29 [(0, .ref this)] [] := by
    have hr := ro2
    refine j_iconst (v := 0) (pc' := 30) C dX12_bringBack_29 kI_0 rfl ?_
    refine j_istore_n (lv' := [(1, .int 0), (0, .ref this)]) (pc' := 31) C dX12_bringBack_30 rfl (by decide) rfl rfl ?_
    obtain ⟨o5, ho5, ro5⟩ := ob hr
    have ko5 : Jd G 0 0 nx o5.2 55 [] [] := by
      have hr := ro5
      have hr := Option.some.inj hr
      subst hr
      exact j_vret C hq hret dX12_bringBack_55
    refine j_lv [1, 0] rfl (it_J (J := (fun s4 => Jd G 0 0 nx s4.2 31 [(0, .ref this), (1, .int s4.1)] [])) ?_ ho5)
    clear ho5
    intro s4 r6 hr is4 es4
    refine j_iload_n (q := 1) (pc' := 32) C dX12_bringBack_31 rfl rfl rfl ?_
    refine j_bipush (v := 7) (pc' := 34) C dX12_bringBack_32 kB_7 rfl ?_
    refine j_ic_ge (tgt := 55) (pc' := 37) C dX12_bringBack_34 rfl rfl (fun hc => ?_) (fun hc => ?_)
    · have hr := ifT hc hr
      clear hc
      have hr := es4 _ (Option.some.inj hr).symm
      subst hr
      exact j_lv [] rfl ko5
    · have hr := ifF hc hr
      clear hc
      refine j_aload_n (q := 0) (pc' := 38) C dX12_bringBack_37 rfl rfl rfl ?_
      obtain ⟨x7, hx7, hr⟩ := ob hr
      refine j_getA (pc' := 41) C dX12_bringBack_38 fl_X12_17 hx7 rfl ?_
      refine j_iload_n (q := 1) (pc' := 42) C dX12_bringBack_41 rfl rfl rfl ?_
      refine j_aload_n (q := 0) (pc' := 43) C dX12_bringBack_42 rfl rfl rfl ?_
      obtain ⟨x8, hx8, hr⟩ := ob hr
      refine j_getA (pc' := 46) C dX12_bringBack_43 fl_X12_56 hx8 rfl ?_
      refine j_iload_n (q := 1) (pc' := 47) C dX12_bringBack_46 rfl rfl rfl ?_
      obtain ⟨x9, hx9, hr⟩ := ob hr
      refine j_fald (pc' := 48) C dX12_bringBack_47 hx9 rfl ?_
      obtain ⟨c10, hc10, hr⟩ := ob hr
      refine j_fast (pc' := 49) C dX12_bringBack_48 hc10 rfl ?_
      refine j_iinc (q := 1) (v := 1) (lv' := [(1, .int (s4.1 + 1)), (0, .ref this)]) (pc' := 52) C dX12_bringBack_49 rfl kI_1 (by decide) rfl rfl ?_
      refine j_goto (tgt := 31) C dX12_bringBack_52 rfl ?_
      exact j_lv [1, 0] rfl (is4 _ (Option.some.inj hr).symm)
  refine j_lv [1, 0] rfl (it_J (J := (fun s1 => Jd G 0 0 nx s1.2 2 [(0, .ref this), (1, .int s1.1)] [])) ?_ ho2)
  clear ho2
  intro s1 r3 hr is1 es1
  refine j_iload_n (q := 1) (pc' := 3) C dX12_bringBack_2 rfl rfl rfl ?_
  refine j_sipush (v := 5421) (pc' := 6) C dX12_bringBack_3 kS_5421 rfl ?_
  refine j_ic_ge (tgt := 29) (pc' := 9) C dX12_bringBack_6 rfl rfl (fun hc => ?_) (fun hc => ?_)
  · have hr := ifT hc hr
    clear hc
    have hr := es1 _ (Option.some.inj hr).symm
    subst hr
    exact j_lv [0] rfl ko2
  · have hr := ifF hc hr
    clear hc
    refine j_aload_n (q := 0) (pc' := 10) C dX12_bringBack_9 rfl rfl rfl ?_
    obtain ⟨x11, hx11, hr⟩ := ob hr
    refine j_getA (pc' := 13) C dX12_bringBack_10 fl_X12_8 hx11 rfl ?_
    refine j_iconst (v := 3) (pc' := 14) C dX12_bringBack_13 kI_3 rfl ?_
    refine j_iload_n (q := 1) (pc' := 15) C dX12_bringBack_14 rfl rfl rfl ?_
    refine j_iadd (pc' := 16) C dX12_bringBack_15 rfl ?_
    refine j_aload_n (q := 0) (pc' := 17) C dX12_bringBack_16 rfl rfl rfl ?_
    obtain ⟨x12, hx12, hr⟩ := ob hr
    refine j_getA (pc' := 20) C dX12_bringBack_17 fl_X12_53 hx12 rfl ?_
    refine j_iload_n (q := 1) (pc' := 21) C dX12_bringBack_20 rfl rfl rfl ?_
    obtain ⟨x13, hx13, hr⟩ := ob hr
    refine j_iald (pc' := 22) C dX12_bringBack_21 hx13 rfl ?_
    obtain ⟨c14, hc14, hr⟩ := ob hr
    refine j_iast (pc' := 23) C dX12_bringBack_22 hc14 rfl ?_
    refine j_iinc (q := 1) (v := 1) (lv' := [(1, .int (s1.1 + 1)), (0, .ref this)]) (pc' := 26) C dX12_bringBack_23 rfl kI_1 (by decide) rfl rfl ?_
    refine j_goto (tgt := 2) C dX12_bringBack_26 rfl ?_
    exact j_lv [1, 0] rfl (is1 _ (Option.some.inj hr).symm)
def m_X12_undo (ce : Ce) (this : Nat) : Option (Int32 × Ce) :=
  (gA ce 9 0 this).bind fun x1 =>
  (aI ce x1 1).bind fun x2 =>
  if x2 = 0 then
    some ((-1), ce)
  else
    (gA ce 9 0 this).bind fun x3 =>
    (aI ce x3 1).bind fun x4 =>
    (sI ce x3 1 (x4 - 1)).bind fun c5 =>
    (gA c5 9 0 this).bind fun x6 =>
    (aI c5 x6 2).bind fun x7 =>
    (gA c5 9 0 this).bind fun x8 =>
    (aI c5 x8 1).bind fun x9 =>
    (m_X12_stepAt x7 x9).bind fun x10 =>
    (it (fun s11 =>
      if 5421 ≤ s11.1 then
        some (Sum.inr ((), s11.2))
      else
        (gA s11.2 9 0 this).bind fun x23 =>
        (gA s11.2 9 0 this).bind fun x24 =>
        (aI s11.2 x24 ((5424 + (5421 * x10)) + s11.1)).bind fun x25 =>
        (sI s11.2 x23 (3 + s11.1) x25).bind fun c26 =>
        some (Sum.inl ((s11.1 + 1), c26))
    ) FU (0, c5)).bind fun o12 =>
    (it (fun s14 =>
      if 7 ≤ s14.1 then
        some (Sum.inr ((), s14.2))
      else
        (gA s14.2 9 2 this).bind fun x19 =>
        (gA s14.2 9 2 this).bind fun x20 =>
        (aG s14.2 x20 ((7 + (7 * x10)) + s14.1)).bind fun x21 =>
        (sG s14.2 x19 s14.1 x21).bind fun c22 =>
        some (Sum.inl ((s14.1 + 1), c22))
    ) FU (0, o12.2)).bind fun o15 =>
    (gA o15.2 9 0 this).bind fun x17 =>
    (aI o15.2 x17 1).bind fun x18 =>
    some (x18, o15.2)
set_option maxRecDepth 100000 in
set_option maxHeartbeats 4000000 in
theorem c_X12_undo {nx : Nat} {ce : Ce} {this : Nat} {q : Int32 × Ce} (hr : m_X12_undo ce this = some q) : Ct yX12_undo cX12_undo 3 (some .int) 1 21 0 0 [.ref this] nx ce (some (.int q.1)) q.2 := by
  unfold m_X12_undo at hr
  refine ct_of (by decide) (by decide) ?_
  intro G C hq hret hin
  show Jd G 0 0 nx ce 0 [(0, .ref this)] []
  refine j_aload_n (q := 0) (pc' := 1) C dX12_undo_0 rfl rfl rfl ?_
  obtain ⟨x1, hx1, hr⟩ := ob hr
  refine j_getA (pc' := 4) C dX12_undo_1 fl_X12_8 hx1 rfl ?_
  refine j_iconst (v := 1) (pc' := 5) C dX12_undo_4 kI_1 rfl ?_
  obtain ⟨x2, hx2, hr⟩ := ob hr
  refine j_iald (pc' := 6) C dX12_undo_5 hx2 rfl ?_
  refine j_if_ne (tgt := 11) (pc' := 9) C dX12_undo_6 rfl rfl (fun hc => ?_) (fun hc => ?_)
  · have hr := ifF hc hr
    clear hc
    refine j_aload_n (q := 0) (pc' := 12) C dX12_undo_11 rfl rfl rfl ?_
    obtain ⟨x3, hx3, hr⟩ := ob hr
    refine j_getA (pc' := 15) C dX12_undo_12 fl_X12_8 hx3 rfl ?_
    refine j_iconst (v := 1) (pc' := 16) C dX12_undo_15 kI_1 rfl ?_
    refine j_dup2 (pc' := 17) C dX12_undo_16 rfl rfl rfl ?_
    obtain ⟨x4, hx4, hr⟩ := ob hr
    refine j_iald (pc' := 18) C dX12_undo_17 hx4 rfl ?_
    refine j_iconst (v := 1) (pc' := 19) C dX12_undo_18 kI_1 rfl ?_
    refine j_isub (pc' := 20) C dX12_undo_19 rfl ?_
    obtain ⟨c5, hc5, hr⟩ := ob hr
    refine j_iast (pc' := 21) C dX12_undo_20 hc5 rfl ?_
    refine j_aload_n (q := 0) (pc' := 22) C dX12_undo_21 rfl rfl rfl ?_
    obtain ⟨x6, hx6, hr⟩ := ob hr
    refine j_getA (pc' := 25) C dX12_undo_22 fl_X12_8 hx6 rfl ?_
    refine j_iconst (v := 2) (pc' := 26) C dX12_undo_25 kI_2 rfl ?_
    obtain ⟨x7, hx7, hr⟩ := ob hr
    refine j_iald (pc' := 27) C dX12_undo_26 hx7 rfl ?_
    refine j_aload_n (q := 0) (pc' := 28) C dX12_undo_27 rfl rfl rfl ?_
    obtain ⟨x8, hx8, hr⟩ := ob hr
    refine j_getA (pc' := 31) C dX12_undo_28 fl_X12_8 hx8 rfl ?_
    refine j_iconst (v := 1) (pc' := 32) C dX12_undo_31 kI_1 rfl ?_
    obtain ⟨x9, hx9, hr⟩ := ob hr
    refine j_iald (pc' := 33) C dX12_undo_32 hx9 rfl ?_
    obtain ⟨x10, hx10, hr⟩ := ob hr
    refine j_callS (As := [.int x7, .int x9]) (rest := []) (st1 := [.int x10]) (pc' := 36) C wm_1621 (c_X12_stepAt (nx := nx) (ce := c5) hx10) yw_X12_stepAt wm_1620 rfl rfl (by decide) ⟨by decide, by decide⟩ dX12_undo_33 rfl rfl ?_
    refine j_istore_n (lv' := [(1, .int x10), (0, .ref this)]) (pc' := 37) C dX12_undo_36 rfl (by decide) rfl rfl ?_
    refine j_iconst (v := 0) (pc' := 38) C dX12_undo_37 kI_0 rfl ?_
    refine j_istore_n (lv' := [(2, .int 0), (1, .int x10), (0, .ref this)]) (pc' := 39) C dX12_undo_38 rfl (by decide) rfl rfl ?_
    obtain ⟨o12, ho12, ro12⟩ := ob hr
    have ko12 : Jd G 0 0 nx o12.2 76 [(0, .ref this), (1, .int x10)] [] := by
      have hr := ro12
      refine j_iconst (v := 0) (pc' := 77) C dX12_undo_76 kI_0 rfl ?_
      refine j_istore_n (lv' := [(2, .int 0), (0, .ref this), (1, .int x10)]) (pc' := 78) C dX12_undo_77 rfl (by decide) rfl rfl ?_
      obtain ⟨o15, ho15, ro15⟩ := ob hr
      have ko15 : Jd G 0 0 nx o15.2 110 [(0, .ref this)] [] := by
        have hr := ro15
        refine j_aload_n (q := 0) (pc' := 111) C dX12_undo_110 rfl rfl rfl ?_
        obtain ⟨x17, hx17, hr⟩ := ob hr
        refine j_getA (pc' := 114) C dX12_undo_111 fl_X12_8 hx17 rfl ?_
        refine j_iconst (v := 1) (pc' := 115) C dX12_undo_114 kI_1 rfl ?_
        obtain ⟨x18, hx18, hr⟩ := ob hr
        refine j_iald (pc' := 116) C dX12_undo_115 hx18 rfl ?_
        have hr := Option.some.inj hr
        subst hr
        exact j_iret C hq hret dX12_undo_116
      refine j_lv [1, 2, 0] rfl (it_J (J := (fun s14 => Jd G 0 0 nx s14.2 78 [(0, .ref this), (1, .int x10), (2, .int s14.1)] [])) ?_ ho15)
      clear ho15
      intro s14 r16 hr is14 es14
      refine j_iload_n (q := 2) (pc' := 79) C dX12_undo_78 rfl rfl rfl ?_
      refine j_bipush (v := 7) (pc' := 81) C dX12_undo_79 kB_7 rfl ?_
      refine j_ic_ge (tgt := 110) (pc' := 84) C dX12_undo_81 rfl rfl (fun hc => ?_) (fun hc => ?_)
      · have hr := ifT hc hr
        clear hc
        have hr := es14 _ (Option.some.inj hr).symm
        subst hr
        exact j_lv [0] rfl ko15
      · have hr := ifF hc hr
        clear hc
        refine j_aload_n (q := 0) (pc' := 85) C dX12_undo_84 rfl rfl rfl ?_
        obtain ⟨x19, hx19, hr⟩ := ob hr
        refine j_getA (pc' := 88) C dX12_undo_85 fl_X12_17 hx19 rfl ?_
        refine j_iload_n (q := 2) (pc' := 89) C dX12_undo_88 rfl rfl rfl ?_
        refine j_aload_n (q := 0) (pc' := 90) C dX12_undo_89 rfl rfl rfl ?_
        obtain ⟨x20, hx20, hr⟩ := ob hr
        refine j_getA (pc' := 93) C dX12_undo_90 fl_X12_17 hx20 rfl ?_
        refine j_bipush (v := 7) (pc' := 95) C dX12_undo_93 kB_7 rfl ?_
        refine j_bipush (v := 7) (pc' := 97) C dX12_undo_95 kB_7 rfl ?_
        refine j_iload_n (q := 1) (pc' := 98) C dX12_undo_97 rfl rfl rfl ?_
        refine j_imul (pc' := 99) C dX12_undo_98 rfl ?_
        refine j_iadd (pc' := 100) C dX12_undo_99 rfl ?_
        refine j_iload_n (q := 2) (pc' := 101) C dX12_undo_100 rfl rfl rfl ?_
        refine j_iadd (pc' := 102) C dX12_undo_101 rfl ?_
        obtain ⟨x21, hx21, hr⟩ := ob hr
        refine j_fald (pc' := 103) C dX12_undo_102 hx21 rfl ?_
        obtain ⟨c22, hc22, hr⟩ := ob hr
        refine j_fast (pc' := 104) C dX12_undo_103 hc22 rfl ?_
        refine j_iinc (q := 2) (v := 1) (lv' := [(2, .int (s14.1 + 1)), (0, .ref this), (1, .int x10)]) (pc' := 107) C dX12_undo_104 rfl kI_1 (by decide) rfl rfl ?_
        refine j_goto (tgt := 78) C dX12_undo_107 rfl ?_
        exact j_lv [1, 2, 0] rfl (is14 _ (Option.some.inj hr).symm)
    refine j_lv [2, 1, 0] rfl (it_J (J := (fun s11 => Jd G 0 0 nx s11.2 39 [(0, .ref this), (1, .int x10), (2, .int s11.1)] [])) ?_ ho12)
    clear ho12
    intro s11 r13 hr is11 es11
    refine j_iload_n (q := 2) (pc' := 40) C dX12_undo_39 rfl rfl rfl ?_
    refine j_sipush (v := 5421) (pc' := 43) C dX12_undo_40 kS_5421 rfl ?_
    refine j_ic_ge (tgt := 76) (pc' := 46) C dX12_undo_43 rfl rfl (fun hc => ?_) (fun hc => ?_)
    · have hr := ifT hc hr
      clear hc
      have hr := es11 _ (Option.some.inj hr).symm
      subst hr
      exact j_lv [0, 1] rfl ko12
    · have hr := ifF hc hr
      clear hc
      refine j_aload_n (q := 0) (pc' := 47) C dX12_undo_46 rfl rfl rfl ?_
      obtain ⟨x23, hx23, hr⟩ := ob hr
      refine j_getA (pc' := 50) C dX12_undo_47 fl_X12_8 hx23 rfl ?_
      refine j_iconst (v := 3) (pc' := 51) C dX12_undo_50 kI_3 rfl ?_
      refine j_iload_n (q := 2) (pc' := 52) C dX12_undo_51 rfl rfl rfl ?_
      refine j_iadd (pc' := 53) C dX12_undo_52 rfl ?_
      refine j_aload_n (q := 0) (pc' := 54) C dX12_undo_53 rfl rfl rfl ?_
      obtain ⟨x24, hx24, hr⟩ := ob hr
      refine j_getA (pc' := 57) C dX12_undo_54 fl_X12_8 hx24 rfl ?_
      refine j_sipush (v := 5424) (pc' := 60) C dX12_undo_57 kS_5424 rfl ?_
      refine j_sipush (v := 5421) (pc' := 63) C dX12_undo_60 kS_5421 rfl ?_
      refine j_iload_n (q := 1) (pc' := 64) C dX12_undo_63 rfl rfl rfl ?_
      refine j_imul (pc' := 65) C dX12_undo_64 rfl ?_
      refine j_iadd (pc' := 66) C dX12_undo_65 rfl ?_
      refine j_iload_n (q := 2) (pc' := 67) C dX12_undo_66 rfl rfl rfl ?_
      refine j_iadd (pc' := 68) C dX12_undo_67 rfl ?_
      obtain ⟨x25, hx25, hr⟩ := ob hr
      refine j_iald (pc' := 69) C dX12_undo_68 hx25 rfl ?_
      obtain ⟨c26, hc26, hr⟩ := ob hr
      refine j_iast (pc' := 70) C dX12_undo_69 hc26 rfl ?_
      refine j_iinc (q := 2) (v := 1) (lv' := [(2, .int (s11.1 + 1)), (0, .ref this), (1, .int x10)]) (pc' := 73) C dX12_undo_70 rfl kI_1 (by decide) rfl rfl ?_
      refine j_goto (tgt := 39) C dX12_undo_73 rfl ?_
      exact j_lv [1, 2, 0] rfl (is11 _ (Option.some.inj hr).symm)
  · have hr := ifT hc hr
    clear hc
    refine j_iconst (v := -1) (pc' := 10) C dX12_undo_9 kI_m1 rfl ?_
    have hr := Option.some.inj hr
    subst hr
    exact j_iret C hq hret dX12_undo_10
def m_X12_bar (ce : Ce) (this : Nat) (p1 : Int32) (p2 : Int32) (p3 : Int32) : Option (Int32 × Ce) :=
  (gA ce 9 0 this).bind fun x1 =>
  (aI ce x1 5).bind fun x2 =>
  if 1 < x2 then
    some ((-1), ce)
  else
    (rcv ce 9 this).bind fun z3 =>
    (m_X12_isMask ce this p1 p2).bind fun x4 =>
    if x4 = 0 then
      some ((-1), ce)
    else
      (gA ce 9 0 this).bind fun x5 =>
      (aI ce x5 4).bind fun x6 =>
      (m_X12_isIn p3 1 x6).bind fun x7 =>
      if x7 = 0 then
        some ((-1), ce)
      else
        (rcv ce 9 this).bind fun z8 =>
        (m_X12_cubeSet ce this p1 p2).bind fun x9 =>
        (rcv ce 9 this).bind fun z10 =>
        (m_X12_starts ce this).bind fun x11 =>
        if (lg_cmp (x9 &&& x11) 0) = 0 then
          (rcv ce 9 this).bind fun z12 =>
          (m_X12_doesHold ce this p1 p2 (p3 - 1)).bind fun x13 =>
          if x13 = 0 then
            some ((-1), ce)
          else
            (rcv ce 9 this).bind fun z14 =>
            (m_X12_keep ce this).bind fun q15 =>
            (rcv q15.2 9 this).bind fun z16 =>
            (m_X12_addCube q15.2 this p1 p2 p3).bind fun q17 =>
            (rcv q17.2 9 this).bind fun z18 =>
            (m_X12_manyOf q17.2 this p3).bind fun x19 =>
            some (x19, q17.2)
        else
          some ((-1), ce)
set_option maxRecDepth 100000 in
set_option maxHeartbeats 4000000 in
theorem c_X12_bar {nx : Nat} {ce : Ce} {this : Nat} {p1 : Int32} {p2 : Int32} {p3 : Int32} {q : Int32 × Ce} (hr : m_X12_bar ce this p1 p2 p3 = some q) : Ct yX12_bar cX12_bar 4 (some .int) 6 133 0 0 [.ref this, .int p1, .int p2, .int p3] nx ce (some (.int q.1)) q.2 := by
  unfold m_X12_bar at hr
  refine ct_of (by decide) (by decide) ?_
  intro G C hq hret hin
  show Jd G 0 0 nx ce 0 [(0, .ref this), (1, .int p1), (2, .int p2), (3, .int p3)] []
  refine j_aload_n (q := 0) (pc' := 1) C dX12_bar_0 rfl rfl rfl ?_
  obtain ⟨x1, hx1, hr⟩ := ob hr
  refine j_getA (pc' := 4) C dX12_bar_1 fl_X12_8 hx1 rfl ?_
  refine j_iconst (v := 5) (pc' := 5) C dX12_bar_4 kI_5 rfl ?_
  obtain ⟨x2, hx2, hr⟩ := ob hr
  refine j_iald (pc' := 6) C dX12_bar_5 hx2 rfl ?_
  refine j_iconst (v := 1) (pc' := 7) C dX12_bar_6 kI_1 rfl ?_
  refine j_ic_gt (tgt := 33) (pc' := 10) C dX12_bar_7 rfl rfl (fun hc => ?_) (fun hc => ?_)
  · have hr := ifT hc hr
    clear hc
    refine j_iconst (v := -1) (pc' := 34) C dX12_bar_33 kI_m1 rfl ?_
    have hr := Option.some.inj hr
    subst hr
    exact j_iret C hq hret dX12_bar_34
  · have hr := ifF hc hr
    clear hc
    refine j_aload_n (q := 0) (pc' := 11) C dX12_bar_10 rfl rfl rfl ?_
    refine j_iload_n (q := 1) (pc' := 12) C dX12_bar_11 rfl rfl rfl ?_
    refine j_iload_n (q := 2) (pc' := 13) C dX12_bar_12 rfl rfl rfl ?_
    obtain ⟨z3, hz3, hr⟩ := ob hr
    obtain ⟨x4, hx4, hr⟩ := ob hr
    obtain ⟨fhz3, hz3⟩ := rcv_sp hz3
    refine j_callV (ci := 9) (As := [.int p1, .int p2]) (rest := []) (st1 := [.int x4]) (pc' := 16) C ⟨wm_1821, wm_95⟩ rfl hz3 (c_X12_isMask (nx := nx) hx4) yw_X12_isMask wm_1819 rfl rfl (by decide) ⟨by decide, by decide⟩ dX12_bar_13 rfl rfl ?_
    refine j_if_eq (tgt := 33) (pc' := 19) C dX12_bar_16 rfl rfl (fun hc => ?_) (fun hc => ?_)
    · have hr := ifT hc hr
      clear hc
      refine j_iconst (v := -1) (pc' := 34) C dX12_bar_33 kI_m1 rfl ?_
      have hr := Option.some.inj hr
      subst hr
      exact j_iret C hq hret dX12_bar_34
    · have hr := ifF hc hr
      clear hc
      refine j_iload_n (q := 3) (pc' := 20) C dX12_bar_19 rfl rfl rfl ?_
      refine j_iconst (v := 1) (pc' := 21) C dX12_bar_20 kI_1 rfl ?_
      refine j_aload_n (q := 0) (pc' := 22) C dX12_bar_21 rfl rfl rfl ?_
      obtain ⟨x5, hx5, hr⟩ := ob hr
      refine j_getA (pc' := 25) C dX12_bar_22 fl_X12_8 hx5 rfl ?_
      refine j_iconst (v := 4) (pc' := 26) C dX12_bar_25 kI_4 rfl ?_
      obtain ⟨x6, hx6, hr⟩ := ob hr
      refine j_iald (pc' := 27) C dX12_bar_26 hx6 rfl ?_
      obtain ⟨x7, hx7, hr⟩ := ob hr
      refine j_callS (As := [.int p3, .int 1, .int x6]) (rest := []) (st1 := [.int x7]) (pc' := 30) C wm_1519 (c_X12_isIn (nx := nx) (ce := ce) hx7) yw_X12_isIn wm_1518 rfl rfl (by decide) ⟨by decide, by decide⟩ dX12_bar_27 rfl rfl ?_
      refine j_if_ne (tgt := 35) (pc' := 33) C dX12_bar_30 rfl rfl (fun hc => ?_) (fun hc => ?_)
      · have hr := ifF hc hr
        clear hc
        refine j_aload_n (q := 0) (pc' := 36) C dX12_bar_35 rfl rfl rfl ?_
        refine j_iload_n (q := 1) (pc' := 37) C dX12_bar_36 rfl rfl rfl ?_
        refine j_iload_n (q := 2) (pc' := 38) C dX12_bar_37 rfl rfl rfl ?_
        obtain ⟨z8, hz8, hr⟩ := ob hr
        obtain ⟨x9, hx9, hr⟩ := ob hr
        obtain ⟨fhz8, hz8⟩ := rcv_sp hz8
        refine j_callV (ci := 9) (As := [.int p1, .int p2]) (rest := []) (st1 := [.long x9]) (pc' := 41) C ⟨wm_1716, wm_72⟩ rfl hz8 (c_X12_cubeSet (nx := nx) hx9) yw_X12_cubeSet wm_1714 rfl rfl (by decide) ⟨by decide, by decide⟩ dX12_bar_38 rfl rfl ?_
        refine j_aload_n (q := 0) (pc' := 42) C dX12_bar_41 rfl rfl rfl ?_
        obtain ⟨z10, hz10, hr⟩ := ob hr
        obtain ⟨x11, hx11, hr⟩ := ob hr
        obtain ⟨fhz10, hz10⟩ := rcv_sp hz10
        refine j_callV (ci := 9) (As := []) (rest := [.long x9]) (st1 := [.long x11, .long x9]) (pc' := 45) C ⟨wm_1700, wm_68⟩ rfl hz10 (c_X12_starts (nx := nx) hx11) yw_X12_starts wm_1698 rfl rfl (by decide) ⟨by decide, by decide⟩ dX12_bar_42 rfl rfl ?_
        refine j_land (pc' := 46) C dX12_bar_45 rfl ?_
        refine j_lconst (v := 0) (pc' := 47) C dX12_bar_46 kL_0 rfl ?_
        refine j_lcmp (pc' := 48) C dX12_bar_47 rfl ?_
        refine j_if_ne (tgt := 63) (pc' := 51) C dX12_bar_48 rfl rfl (fun hc => ?_) (fun hc => ?_)
        · have hr := ifF hc hr
          clear hc
          refine j_iconst (v := -1) (pc' := 64) C dX12_bar_63 kI_m1 rfl ?_
          have hr := Option.some.inj hr
          subst hr
          exact j_iret C hq hret dX12_bar_64
        · have hr := ifT hc hr
          clear hc
          refine j_aload_n (q := 0) (pc' := 52) C dX12_bar_51 rfl rfl rfl ?_
          refine j_iload_n (q := 1) (pc' := 53) C dX12_bar_52 rfl rfl rfl ?_
          refine j_iload_n (q := 2) (pc' := 54) C dX12_bar_53 rfl rfl rfl ?_
          refine j_iload_n (q := 3) (pc' := 55) C dX12_bar_54 rfl rfl rfl ?_
          refine j_iconst (v := 1) (pc' := 56) C dX12_bar_55 kI_1 rfl ?_
          refine j_isub (pc' := 57) C dX12_bar_56 rfl ?_
          obtain ⟨z12, hz12, hr⟩ := ob hr
          obtain ⟨x13, hx13, hr⟩ := ob hr
          obtain ⟨fhz12, hz12⟩ := rcv_sp hz12
          refine j_callV (ci := 9) (As := [.int p1, .int p2, .int (p3 - 1)]) (rest := []) (st1 := [.int x13]) (pc' := 60) C ⟨wm_1783, wm_88⟩ rfl hz12 (c_X12_doesHold (nx := nx) hx13) yw_X12_doesHold wm_1781 rfl rfl (by decide) ⟨by decide, by decide⟩ dX12_bar_57 rfl rfl ?_
          refine j_if_ne (tgt := 65) (pc' := 63) C dX12_bar_60 rfl rfl (fun hc => ?_) (fun hc => ?_)
          · have hr := ifF hc hr
            clear hc
            refine j_aload_n (q := 0) (pc' := 66) C dX12_bar_65 rfl rfl rfl ?_
            obtain ⟨z14, hz14, hr⟩ := ob hr
            obtain ⟨q15, hq15, hr⟩ := ob hr
            obtain ⟨fhz14, hz14⟩ := rcv_sp hz14
            refine j_callV (ci := 9) (As := []) (rest := []) (st1 := []) (pc' := 69) C ⟨wm_1618, wm_55⟩ rfl hz14 (c_X12_keep (nx := nx) hq15) yw_X12_keep wm_1616 rfl rfl (by decide) ⟨by decide, by decide⟩ dX12_bar_66 rfl rfl ?_
            refine j_aload_n (q := 0) (pc' := 70) C dX12_bar_69 rfl rfl rfl ?_
            refine j_iload_n (q := 1) (pc' := 71) C dX12_bar_70 rfl rfl rfl ?_
            refine j_iload_n (q := 2) (pc' := 72) C dX12_bar_71 rfl rfl rfl ?_
            refine j_iload_n (q := 3) (pc' := 73) C dX12_bar_72 rfl rfl rfl ?_
            obtain ⟨z16, hz16, hr⟩ := ob hr
            obtain ⟨q17, hq17, hr⟩ := ob hr
            obtain ⟨fhz16, hz16⟩ := rcv_sp hz16
            refine j_callV (ci := 9) (As := [.int p1, .int p2, .int p3]) (rest := []) (st1 := []) (pc' := 76) C ⟨wm_1791, wm_90⟩ rfl hz16 (c_X12_addCube (nx := nx) hq17) yw_X12_addCube wm_1789 rfl rfl (by decide) ⟨by decide, by decide⟩ dX12_bar_73 rfl rfl ?_
            refine j_aload_n (q := 0) (pc' := 77) C dX12_bar_76 rfl rfl rfl ?_
            refine j_iload_n (q := 3) (pc' := 78) C dX12_bar_77 rfl rfl rfl ?_
            obtain ⟨z18, hz18, hr⟩ := ob hr
            obtain ⟨x19, hx19, hr⟩ := ob hr
            obtain ⟨fhz18, hz18⟩ := rcv_sp hz18
            refine j_callV (ci := 9) (As := [.int p3]) (rest := []) (st1 := [.int x19]) (pc' := 81) C ⟨wm_1813, wm_94⟩ rfl hz18 (c_X12_manyOf (nx := nx) hx19) yw_X12_manyOf wm_1811 rfl rfl (by decide) ⟨by decide, by decide⟩ dX12_bar_78 rfl rfl ?_
            have hr := Option.some.inj hr
            subst hr
            exact j_iret C hq hret dX12_bar_81
          · have hr := ifT hc hr
            clear hc
            refine j_iconst (v := -1) (pc' := 64) C dX12_bar_63 kI_m1 rfl ?_
            have hr := Option.some.inj hr
            subst hr
            exact j_iret C hq hret dX12_bar_64
      · have hr := ifT hc hr
        clear hc
        refine j_iconst (v := -1) (pc' := 34) C dX12_bar_33 kI_m1 rfl ?_
        have hr := Option.some.inj hr
        subst hr
        exact j_iret C hq hret dX12_bar_34
def m_X12_is (ce : Ce) (this : Nat) (p1 : Int32) : Option (Int32) :=
  if p1 = 0 then
    (gA ce 9 0 this).bind fun x1 =>
    (aI ce x1 3).bind fun x2 =>
    some x2
  else
  if p1 = 1 then
    (gA ce 9 0 this).bind fun x3 =>
    (aI ce x3 4).bind fun x4 =>
    some x4
  else
  if p1 = 2 then
    (gA ce 9 0 this).bind fun x5 =>
    (aI ce x5 5).bind fun x6 =>
    some x6
  else
  if p1 = 3 then
    (gA ce 9 0 this).bind fun x7 =>
    (aI ce x7 5).bind fun x8 =>
    if x8 = 2 then
      (gA ce 9 0 this).bind fun x9 =>
      (aI ce x9 6).bind fun x10 =>
      some x10
    else
      some (-1)
  else
  if p1 = 4 then
    (gA ce 9 0 this).bind fun x11 =>
    (aI ce x11 7).bind fun x12 =>
    some x12
  else
  if p1 = 5 then
    (gA ce 9 0 this).bind fun x13 =>
    (aI ce x13 8).bind fun x14 =>
    some x14
  else
  if p1 = 6 then
    (gA ce 9 0 this).bind fun x15 =>
    (aI ce x15 9).bind fun x16 =>
    some x16
  else
  if p1 = 7 then
    (gA ce 9 0 this).bind fun x17 =>
    (aI ce x17 10).bind fun x18 =>
    some x18
  else
  if p1 = 8 then
    (gA ce 9 0 this).bind fun x19 =>
    (aI ce x19 11).bind fun x20 =>
    some x20
  else
  if p1 = 9 then
    (gA ce 9 0 this).bind fun x21 =>
    (aI ce x21 12).bind fun x22 =>
    some x22
  else
  if p1 = 10 then
    (gA ce 9 0 this).bind fun x23 =>
    (aI ce x23 13).bind fun x24 =>
    some x24
  else
  if p1 = 11 then
    (gA ce 9 0 this).bind fun x25 =>
    (aI ce x25 14).bind fun x26 =>
    some x26
  else
  some (-1)
set_option maxRecDepth 100000 in
set_option maxHeartbeats 4000000 in
theorem c_X12_is {nx : Nat} {ce : Ce} {this : Nat} {p1 : Int32} {q : Int32} (hr : m_X12_is ce this p1 = some q) : Ct yX12_is cX12_is 2 (some .int) 0 0 0 0 [.ref this, .int p1] nx ce (some (.int q)) ce := by
  unfold m_X12_is at hr
  refine ct_of (by decide) (by decide) ?_
  intro G C hq hret hin
  show Jd G 0 0 nx ce 0 [(0, .ref this), (1, .int p1)] []
  refine j_iload_n (q := 1) (pc' := 1) C dX12_is_0 rfl rfl rfl ?_
  by_cases hc0 : p1 = 0
  · have hr := ifT hc0 hr
    refine j_tabIn (v := 0) (off := 63) (tgt := 64) C dX12_is_1 hc0 (by decide) rfl ?_
    refine j_aload_n (q := 0) (pc' := 65) C dX12_is_64 rfl rfl rfl ?_
    obtain ⟨x1, hx1, hr⟩ := ob hr
    refine j_getA (pc' := 68) C dX12_is_65 fl_X12_8 hx1 rfl ?_
    refine j_iconst (v := 3) (pc' := 69) C dX12_is_68 kI_3 rfl ?_
    obtain ⟨x2, hx2, hr⟩ := ob hr
    refine j_iald (pc' := 70) C dX12_is_69 hx2 rfl ?_
    have hr := Option.some.inj hr
    subst hr
    exact j_iret C hq hret dX12_is_70
  have hr := ifF hc0 hr
  by_cases hc1 : p1 = 1
  · have hr := ifT hc1 hr
    refine j_tabIn (v := 1) (off := 70) (tgt := 71) C dX12_is_1 hc1 (by decide) rfl ?_
    refine j_aload_n (q := 0) (pc' := 72) C dX12_is_71 rfl rfl rfl ?_
    obtain ⟨x3, hx3, hr⟩ := ob hr
    refine j_getA (pc' := 75) C dX12_is_72 fl_X12_8 hx3 rfl ?_
    refine j_iconst (v := 4) (pc' := 76) C dX12_is_75 kI_4 rfl ?_
    obtain ⟨x4, hx4, hr⟩ := ob hr
    refine j_iald (pc' := 77) C dX12_is_76 hx4 rfl ?_
    have hr := Option.some.inj hr
    subst hr
    exact j_iret C hq hret dX12_is_77
  have hr := ifF hc1 hr
  by_cases hc2 : p1 = 2
  · have hr := ifT hc2 hr
    refine j_tabIn (v := 2) (off := 77) (tgt := 78) C dX12_is_1 hc2 (by decide) rfl ?_
    refine j_aload_n (q := 0) (pc' := 79) C dX12_is_78 rfl rfl rfl ?_
    obtain ⟨x5, hx5, hr⟩ := ob hr
    refine j_getA (pc' := 82) C dX12_is_79 fl_X12_8 hx5 rfl ?_
    refine j_iconst (v := 5) (pc' := 83) C dX12_is_82 kI_5 rfl ?_
    obtain ⟨x6, hx6, hr⟩ := ob hr
    refine j_iald (pc' := 84) C dX12_is_83 hx6 rfl ?_
    have hr := Option.some.inj hr
    subst hr
    exact j_iret C hq hret dX12_is_84
  have hr := ifF hc2 hr
  by_cases hc3 : p1 = 3
  · have hr := ifT hc3 hr
    refine j_tabIn (v := 3) (off := 84) (tgt := 85) C dX12_is_1 hc3 (by decide) rfl ?_
    refine j_aload_n (q := 0) (pc' := 86) C dX12_is_85 rfl rfl rfl ?_
    obtain ⟨x7, hx7, hr⟩ := ob hr
    refine j_getA (pc' := 89) C dX12_is_86 fl_X12_8 hx7 rfl ?_
    refine j_iconst (v := 5) (pc' := 90) C dX12_is_89 kI_5 rfl ?_
    obtain ⟨x8, hx8, hr⟩ := ob hr
    refine j_iald (pc' := 91) C dX12_is_90 hx8 rfl ?_
    refine j_iconst (v := 2) (pc' := 92) C dX12_is_91 kI_2 rfl ?_
    refine j_ic_ne (tgt := 105) (pc' := 95) C dX12_is_92 rfl rfl (fun hc => ?_) (fun hc => ?_)
    · have hr := ifF hc hr
      clear hc
      refine j_iconst (v := -1) (pc' := 106) C dX12_is_105 kI_m1 rfl ?_
      have hr := Option.some.inj hr
      subst hr
      exact j_iret C hq hret dX12_is_106
    · have hr := ifT hc hr
      clear hc
      refine j_aload_n (q := 0) (pc' := 96) C dX12_is_95 rfl rfl rfl ?_
      obtain ⟨x9, hx9, hr⟩ := ob hr
      refine j_getA (pc' := 99) C dX12_is_96 fl_X12_8 hx9 rfl ?_
      refine j_bipush (v := 6) (pc' := 101) C dX12_is_99 kB_6 rfl ?_
      obtain ⟨x10, hx10, hr⟩ := ob hr
      refine j_iald (pc' := 102) C dX12_is_101 hx10 rfl ?_
      refine j_goto (tgt := 106) C dX12_is_102 rfl ?_
      have hr := Option.some.inj hr
      subst hr
      exact j_iret C hq hret dX12_is_106
  have hr := ifF hc3 hr
  by_cases hc4 : p1 = 4
  · have hr := ifT hc4 hr
    refine j_tabIn (v := 4) (off := 106) (tgt := 107) C dX12_is_1 hc4 (by decide) rfl ?_
    refine j_aload_n (q := 0) (pc' := 108) C dX12_is_107 rfl rfl rfl ?_
    obtain ⟨x11, hx11, hr⟩ := ob hr
    refine j_getA (pc' := 111) C dX12_is_108 fl_X12_8 hx11 rfl ?_
    refine j_bipush (v := 7) (pc' := 113) C dX12_is_111 kB_7 rfl ?_
    obtain ⟨x12, hx12, hr⟩ := ob hr
    refine j_iald (pc' := 114) C dX12_is_113 hx12 rfl ?_
    have hr := Option.some.inj hr
    subst hr
    exact j_iret C hq hret dX12_is_114
  have hr := ifF hc4 hr
  by_cases hc5 : p1 = 5
  · have hr := ifT hc5 hr
    refine j_tabIn (v := 5) (off := 114) (tgt := 115) C dX12_is_1 hc5 (by decide) rfl ?_
    refine j_aload_n (q := 0) (pc' := 116) C dX12_is_115 rfl rfl rfl ?_
    obtain ⟨x13, hx13, hr⟩ := ob hr
    refine j_getA (pc' := 119) C dX12_is_116 fl_X12_8 hx13 rfl ?_
    refine j_bipush (v := 8) (pc' := 121) C dX12_is_119 kB_8 rfl ?_
    obtain ⟨x14, hx14, hr⟩ := ob hr
    refine j_iald (pc' := 122) C dX12_is_121 hx14 rfl ?_
    have hr := Option.some.inj hr
    subst hr
    exact j_iret C hq hret dX12_is_122
  have hr := ifF hc5 hr
  by_cases hc6 : p1 = 6
  · have hr := ifT hc6 hr
    refine j_tabIn (v := 6) (off := 122) (tgt := 123) C dX12_is_1 hc6 (by decide) rfl ?_
    refine j_aload_n (q := 0) (pc' := 124) C dX12_is_123 rfl rfl rfl ?_
    obtain ⟨x15, hx15, hr⟩ := ob hr
    refine j_getA (pc' := 127) C dX12_is_124 fl_X12_8 hx15 rfl ?_
    refine j_bipush (v := 9) (pc' := 129) C dX12_is_127 kB_9 rfl ?_
    obtain ⟨x16, hx16, hr⟩ := ob hr
    refine j_iald (pc' := 130) C dX12_is_129 hx16 rfl ?_
    have hr := Option.some.inj hr
    subst hr
    exact j_iret C hq hret dX12_is_130
  have hr := ifF hc6 hr
  by_cases hc7 : p1 = 7
  · have hr := ifT hc7 hr
    refine j_tabIn (v := 7) (off := 130) (tgt := 131) C dX12_is_1 hc7 (by decide) rfl ?_
    refine j_aload_n (q := 0) (pc' := 132) C dX12_is_131 rfl rfl rfl ?_
    obtain ⟨x17, hx17, hr⟩ := ob hr
    refine j_getA (pc' := 135) C dX12_is_132 fl_X12_8 hx17 rfl ?_
    refine j_bipush (v := 10) (pc' := 137) C dX12_is_135 kB_10 rfl ?_
    obtain ⟨x18, hx18, hr⟩ := ob hr
    refine j_iald (pc' := 138) C dX12_is_137 hx18 rfl ?_
    have hr := Option.some.inj hr
    subst hr
    exact j_iret C hq hret dX12_is_138
  have hr := ifF hc7 hr
  by_cases hc8 : p1 = 8
  · have hr := ifT hc8 hr
    refine j_tabIn (v := 8) (off := 138) (tgt := 139) C dX12_is_1 hc8 (by decide) rfl ?_
    refine j_aload_n (q := 0) (pc' := 140) C dX12_is_139 rfl rfl rfl ?_
    obtain ⟨x19, hx19, hr⟩ := ob hr
    refine j_getA (pc' := 143) C dX12_is_140 fl_X12_8 hx19 rfl ?_
    refine j_bipush (v := 11) (pc' := 145) C dX12_is_143 kB_11 rfl ?_
    obtain ⟨x20, hx20, hr⟩ := ob hr
    refine j_iald (pc' := 146) C dX12_is_145 hx20 rfl ?_
    have hr := Option.some.inj hr
    subst hr
    exact j_iret C hq hret dX12_is_146
  have hr := ifF hc8 hr
  by_cases hc9 : p1 = 9
  · have hr := ifT hc9 hr
    refine j_tabIn (v := 9) (off := 146) (tgt := 147) C dX12_is_1 hc9 (by decide) rfl ?_
    refine j_aload_n (q := 0) (pc' := 148) C dX12_is_147 rfl rfl rfl ?_
    obtain ⟨x21, hx21, hr⟩ := ob hr
    refine j_getA (pc' := 151) C dX12_is_148 fl_X12_8 hx21 rfl ?_
    refine j_bipush (v := 12) (pc' := 153) C dX12_is_151 kB_12 rfl ?_
    obtain ⟨x22, hx22, hr⟩ := ob hr
    refine j_iald (pc' := 154) C dX12_is_153 hx22 rfl ?_
    have hr := Option.some.inj hr
    subst hr
    exact j_iret C hq hret dX12_is_154
  have hr := ifF hc9 hr
  by_cases hc10 : p1 = 10
  · have hr := ifT hc10 hr
    refine j_tabIn (v := 10) (off := 154) (tgt := 155) C dX12_is_1 hc10 (by decide) rfl ?_
    refine j_aload_n (q := 0) (pc' := 156) C dX12_is_155 rfl rfl rfl ?_
    obtain ⟨x23, hx23, hr⟩ := ob hr
    refine j_getA (pc' := 159) C dX12_is_156 fl_X12_8 hx23 rfl ?_
    refine j_bipush (v := 13) (pc' := 161) C dX12_is_159 kB_13 rfl ?_
    obtain ⟨x24, hx24, hr⟩ := ob hr
    refine j_iald (pc' := 162) C dX12_is_161 hx24 rfl ?_
    have hr := Option.some.inj hr
    subst hr
    exact j_iret C hq hret dX12_is_162
  have hr := ifF hc10 hr
  by_cases hc11 : p1 = 11
  · have hr := ifT hc11 hr
    refine j_tabIn (v := 11) (off := 162) (tgt := 163) C dX12_is_1 hc11 (by decide) rfl ?_
    refine j_aload_n (q := 0) (pc' := 164) C dX12_is_163 rfl rfl rfl ?_
    obtain ⟨x25, hx25, hr⟩ := ob hr
    refine j_getA (pc' := 167) C dX12_is_164 fl_X12_8 hx25 rfl ?_
    refine j_bipush (v := 14) (pc' := 169) C dX12_is_167 kB_14 rfl ?_
    obtain ⟨x26, hx26, hr⟩ := ob hr
    refine j_iald (pc' := 170) C dX12_is_169 hx26 rfl ?_
    have hr := Option.some.inj hr
    subst hr
    exact j_iret C hq hret dX12_is_170
  have hr := ifF hc11 hr
  refine j_tabOut (tgt := 171) C dX12_is_1 (tab_out 12 (by decide) (by decide) (by decide) (fun i hi => by
    match i, hi with
    | 0, _ => exact hc0
    | 1, _ => exact hc1
    | 2, _ => exact hc2
    | 3, _ => exact hc3
    | 4, _ => exact hc4
    | 5, _ => exact hc5
    | 6, _ => exact hc6
    | 7, _ => exact hc7
    | 8, _ => exact hc8
    | 9, _ => exact hc9
    | 10, _ => exact hc10
    | 11, _ => exact hc11
    | i + 12, hi => omega)) rfl ?_
  refine j_iconst (v := -1) (pc' := 172) C dX12_is_171 kI_m1 rfl ?_
  have hr := Option.some.inj hr
  subst hr
  exact j_iret C hq hret dX12_is_172
def m_X12_successor (ce : Ce) (this : Nat) (p1 : Int32) (p2 : Int32) : Option (Int32) :=
  (rcv ce 9 this).bind fun z1 =>
  (m_X12_isState ce this p1).bind fun x2 =>
  if x2 = 0 then
    some (-1)
  else
    (m_X12_isIn p2 0 3).bind fun x3 =>
    if x3 = 0 then
      some (-1)
    else
      (rcv ce 9 this).bind fun z4 =>
      (m_X12_succOf ce this p1 p2).bind fun x5 =>
      some x5
set_option maxRecDepth 100000 in
set_option maxHeartbeats 4000000 in
theorem c_X12_successor {nx : Nat} {ce : Ce} {this : Nat} {p1 : Int32} {p2 : Int32} {q : Int32} (hr : m_X12_successor ce this p1 p2 = some q) : Ct yX12_successor cX12_successor 3 (some .int) 2 43 0 0 [.ref this, .int p1, .int p2] nx ce (some (.int q)) ce := by
  unfold m_X12_successor at hr
  refine ct_of (by decide) (by decide) ?_
  intro G C hq hret hin
  show Jd G 0 0 nx ce 0 [(0, .ref this), (1, .int p1), (2, .int p2)] []
  refine j_aload_n (q := 0) (pc' := 1) C dX12_successor_0 rfl rfl rfl ?_
  refine j_iload_n (q := 1) (pc' := 2) C dX12_successor_1 rfl rfl rfl ?_
  obtain ⟨z1, hz1, hr⟩ := ob hr
  obtain ⟨x2, hx2, hr⟩ := ob hr
  obtain ⟨fhz1, hz1⟩ := rcv_sp hz1
  refine j_callV (ci := 9) (As := [.int p1]) (rest := []) (st1 := [.int x2]) (pc' := 5) C ⟨wm_1833, wm_96⟩ rfl hz1 (c_X12_isState (nx := nx) hx2) yw_X12_isState wm_1831 rfl rfl (by decide) ⟨by decide, by decide⟩ dX12_successor_2 rfl rfl ?_
  refine j_if_eq (tgt := 26) (pc' := 8) C dX12_successor_5 rfl rfl (fun hc => ?_) (fun hc => ?_)
  · have hr := ifT hc hr
    clear hc
    refine j_iconst (v := -1) (pc' := 27) C dX12_successor_26 kI_m1 rfl ?_
    have hr := Option.some.inj hr
    subst hr
    exact j_iret C hq hret dX12_successor_27
  · have hr := ifF hc hr
    clear hc
    refine j_iload_n (q := 2) (pc' := 9) C dX12_successor_8 rfl rfl rfl ?_
    refine j_iconst (v := 0) (pc' := 10) C dX12_successor_9 kI_0 rfl ?_
    refine j_iconst (v := 3) (pc' := 11) C dX12_successor_10 kI_3 rfl ?_
    obtain ⟨x3, hx3, hr⟩ := ob hr
    refine j_callS (As := [.int p2, .int 0, .int 3]) (rest := []) (st1 := [.int x3]) (pc' := 14) C wm_1519 (c_X12_isIn (nx := nx) (ce := ce) hx3) yw_X12_isIn wm_1518 rfl rfl (by decide) ⟨by decide, by decide⟩ dX12_successor_11 rfl rfl ?_
    refine j_if_eq (tgt := 26) (pc' := 17) C dX12_successor_14 rfl rfl (fun hc => ?_) (fun hc => ?_)
    · have hr := ifT hc hr
      clear hc
      refine j_iconst (v := -1) (pc' := 27) C dX12_successor_26 kI_m1 rfl ?_
      have hr := Option.some.inj hr
      subst hr
      exact j_iret C hq hret dX12_successor_27
    · have hr := ifF hc hr
      clear hc
      refine j_aload_n (q := 0) (pc' := 18) C dX12_successor_17 rfl rfl rfl ?_
      refine j_iload_n (q := 1) (pc' := 19) C dX12_successor_18 rfl rfl rfl ?_
      refine j_iload_n (q := 2) (pc' := 20) C dX12_successor_19 rfl rfl rfl ?_
      obtain ⟨z4, hz4, hr⟩ := ob hr
      obtain ⟨x5, hx5, hr⟩ := ob hr
      obtain ⟨fhz4, hz4⟩ := rcv_sp hz4
      refine j_callV (ci := 9) (As := [.int p1, .int p2]) (rest := []) (st1 := [.int x5]) (pc' := 23) C ⟨wm_1759, wm_82⟩ rfl hz4 (c_X12_succOf (nx := nx) hx5) yw_X12_succOf wm_1757 rfl rfl (by decide) ⟨by decide, by decide⟩ dX12_successor_20 rfl rfl ?_
      refine j_goto (tgt := 27) C dX12_successor_23 rfl ?_
      have hr := Option.some.inj hr
      subst hr
      exact j_iret C hq hret dX12_successor_27
def m_X12_leads (ce : Ce) (this : Nat) (p1 : Int32) (p2 : Int32) : Option (Int32) :=
  (rcv ce 9 this).bind fun z1 =>
  (m_X12_isState ce this p1).bind fun x2 =>
  if x2 = 0 then
    some (-1)
  else
    if (-1) ≤ p2 then
      (it (fun s3 =>
        (rcv ce 9 this).bind fun z6 =>
        (m_X12_states ce this).bind fun x7 =>
        if x7 ≤ s3.2 then
          some (Sum.inr (Sum.inr s3.1))
        else
          (rcv ce 9 this).bind fun z8 =>
          (m_X12_after ce this s3.2).bind fun x9 =>
          (m_X12_has x9 p1).bind fun x10 =>
          if x10 = 0 then
            some (Sum.inl (s3.1, (s3.2 + 1)))
          else
            if s3.1 = p2 then
              some (Sum.inr (Sum.inl s3.2))
            else
              some (Sum.inl ((s3.1 + 1), (s3.2 + 1)))
      ) FU (0, 0)).bind fun o4 =>
      Sum.elim (fun wo4 => some wo4) (fun vo4 =>
        if p2 = (-1) then
          some vo4
        else
          some (-1)
      ) o4
    else
      some (-1)
set_option maxRecDepth 100000 in
set_option maxHeartbeats 4000000 in
theorem c_X12_leads {nx : Nat} {ce : Ce} {this : Nat} {p1 : Int32} {p2 : Int32} {q : Int32} (hr : m_X12_leads ce this p1 p2 = some q) : Ct yX12_leads cX12_leads 5 (some .int) 3 68 0 0 [.ref this, .int p1, .int p2] nx ce (some (.int q)) ce := by
  unfold m_X12_leads at hr
  refine ct_of (by decide) (by decide) ?_
  intro G C hq hret hin
  show Jd G 0 0 nx ce 0 [(0, .ref this), (1, .int p1), (2, .int p2)] []
  refine j_aload_n (q := 0) (pc' := 1) C dX12_leads_0 rfl rfl rfl ?_
  refine j_iload_n (q := 1) (pc' := 2) C dX12_leads_1 rfl rfl rfl ?_
  obtain ⟨z1, hz1, hr⟩ := ob hr
  obtain ⟨x2, hx2, hr⟩ := ob hr
  obtain ⟨fhz1, hz1⟩ := rcv_sp hz1
  refine j_callV (ci := 9) (As := [.int p1]) (rest := []) (st1 := [.int x2]) (pc' := 5) C ⟨wm_1833, wm_96⟩ rfl hz1 (c_X12_isState (nx := nx) hx2) yw_X12_isState wm_1831 rfl rfl (by decide) ⟨by decide, by decide⟩ dX12_leads_2 rfl rfl ?_
  refine j_if_eq (tgt := 13) (pc' := 8) C dX12_leads_5 rfl rfl (fun hc => ?_) (fun hc => ?_)
  · have hr := ifT hc hr
    clear hc
    refine j_iconst (v := -1) (pc' := 14) C dX12_leads_13 kI_m1 rfl ?_
    have hr := Option.some.inj hr
    subst hr
    exact j_iret C hq hret dX12_leads_14
  · have hr := ifF hc hr
    clear hc
    refine j_iload_n (q := 2) (pc' := 9) C dX12_leads_8 rfl rfl rfl ?_
    refine j_iconst (v := -1) (pc' := 10) C dX12_leads_9 kI_m1 rfl ?_
    refine j_ic_ge (tgt := 15) (pc' := 13) C dX12_leads_10 rfl rfl (fun hc => ?_) (fun hc => ?_)
    · have hr := ifT hc hr
      clear hc
      refine j_iconst (v := 0) (pc' := 16) C dX12_leads_15 kI_0 rfl ?_
      refine j_istore_n (lv' := [(3, .int 0), (0, .ref this), (1, .int p1), (2, .int p2)]) (pc' := 17) C dX12_leads_16 rfl (by decide) rfl rfl ?_
      refine j_iconst (v := 0) (pc' := 18) C dX12_leads_17 kI_0 rfl ?_
      refine j_istore (lv' := [(4, .int 0), (3, .int 0), (0, .ref this), (1, .int p1), (2, .int p2)]) (pc' := 20) C dX12_leads_18 (by decide) rfl rfl ?_
      obtain ⟨o4, ho4, ro4⟩ := ob hr
      have ko4 : ∀ vo4, o4 = Sum.inr vo4 → Jd G 0 0 nx ce 62 [(2, .int p2), (3, .int vo4)] [] := by
        intro vo4 eo4
        rw [eo4] at ro4
        have hr := elR ro4
        refine j_iload_n (q := 0) (pc' := 63) C dX12_leads_62 rfl rfl rfl ?_
        refine j_iconst (v := -1) (pc' := 64) C dX12_leads_63 kI_m1 rfl ?_
        refine j_ic_ne (tgt := 71) (pc' := 67) C dX12_leads_64 rfl rfl (fun hc => ?_) (fun hc => ?_)
        · have hr := ifF hc hr
          clear hc
          refine j_iconst (v := -1) (pc' := 72) C dX12_leads_71 kI_m1 rfl ?_
          have hr := Option.some.inj hr
          subst hr
          exact j_iret C hq hret dX12_leads_72
        · have hr := ifT hc hr
          clear hc
          refine j_iload_n (q := 1) (pc' := 68) C dX12_leads_67 rfl rfl rfl ?_
          refine j_goto (tgt := 72) C dX12_leads_68 rfl ?_
          have hr := Option.some.inj hr
          subst hr
          exact j_iret C hq hret dX12_leads_72
      refine j_lv [2, 3, 4, 1, 0] rfl (it_J (J := (fun s3 => Jd G 0 0 nx ce 20 [(0, .ref this), (1, .int p1), (2, .int p2), (3, .int s3.1), (4, .int s3.2)] [])) ?_ ho4)
      clear ho4
      intro s3 r5 hr is3 es3
      refine j_iload (q := 4) (pc' := 22) C dX12_leads_20 rfl rfl ?_
      refine j_aload_n (q := 0) (pc' := 23) C dX12_leads_22 rfl rfl rfl ?_
      obtain ⟨z6, hz6, hr⟩ := ob hr
      obtain ⟨x7, hx7, hr⟩ := ob hr
      obtain ⟨fhz6, hz6⟩ := rcv_sp hz6
      refine j_callV (ci := 9) (As := []) (rest := [.int s3.2]) (st1 := [.int x7, .int s3.2]) (pc' := 26) C ⟨wm_1632, wm_57⟩ rfl hz6 (c_X12_states (nx := nx) hx7) yw_X12_states wm_1630 rfl rfl (by decide) ⟨by decide, by decide⟩ dX12_leads_23 rfl rfl ?_
      refine j_ic_ge (tgt := 62) (pc' := 29) C dX12_leads_26 rfl rfl (fun hc => ?_) (fun hc => ?_)
      · have hr := ifT hc hr
        clear hc
        have hr := es3 _ (Option.some.inj hr).symm
        subst hr
        exact j_lv [2, 3] rfl (ko4 _ rfl)
      · have hr := ifF hc hr
        clear hc
        refine j_aload_n (q := 0) (pc' := 30) C dX12_leads_29 rfl rfl rfl ?_
        refine j_iload (q := 4) (pc' := 32) C dX12_leads_30 rfl rfl ?_
        obtain ⟨z8, hz8, hr⟩ := ob hr
        obtain ⟨x9, hx9, hr⟩ := ob hr
        obtain ⟨fhz8, hz8⟩ := rcv_sp hz8
        refine j_callV (ci := 9) (As := [.int s3.2]) (rest := []) (st1 := [.long x9]) (pc' := 35) C ⟨wm_1751, wm_80⟩ rfl hz8 (c_X12_after (nx := nx) hx9) yw_X12_after wm_1749 rfl rfl (by decide) ⟨by decide, by decide⟩ dX12_leads_32 rfl rfl ?_
        refine j_iload_n (q := 1) (pc' := 36) C dX12_leads_35 rfl rfl rfl ?_
        obtain ⟨x10, hx10, hr⟩ := ob hr
        refine j_callS (As := [.long x9, .int p1]) (rest := []) (st1 := [.int x10]) (pc' := 39) C wm_1635 (c_X12_has (nx := nx) (ce := ce) hx10) yw_X12_has wm_1634 rfl rfl (by decide) ⟨by decide, by decide⟩ dX12_leads_36 rfl rfl ?_
        refine j_if_ne (tgt := 45) (pc' := 42) C dX12_leads_39 rfl rfl (fun hc => ?_) (fun hc => ?_)
        · have hr := ifF hc hr
          clear hc
          refine j_iload_n (q := 3) (pc' := 46) C dX12_leads_45 rfl rfl rfl ?_
          refine j_iload_n (q := 2) (pc' := 47) C dX12_leads_46 rfl rfl rfl ?_
          refine j_ic_ne (tgt := 53) (pc' := 50) C dX12_leads_47 rfl rfl (fun hc => ?_) (fun hc => ?_)
          · have hr := ifF hc hr
            clear hc
            refine j_iinc (q := 3) (v := 1) (lv' := [(3, .int (s3.1 + 1)), (0, .ref this), (1, .int p1), (2, .int p2), (4, .int s3.2)]) (pc' := 56) C dX12_leads_53 rfl kI_1 (by decide) rfl rfl ?_
            refine j_iinc (q := 4) (v := 1) (lv' := [(4, .int (s3.2 + 1)), (3, .int (s3.1 + 1)), (0, .ref this), (1, .int p1), (2, .int p2)]) (pc' := 59) C dX12_leads_56 rfl kI_1 (by decide) rfl rfl ?_
            refine j_goto (tgt := 20) C dX12_leads_59 rfl ?_
            exact j_lv [2, 3, 4, 1, 0] rfl (is3 _ (Option.some.inj hr).symm)
          · have hr := ifT hc hr
            clear hc
            refine j_iload (q := 4) (pc' := 52) C dX12_leads_50 rfl rfl ?_
            have hr := es3 _ (Option.some.inj hr).symm
            subst hr
            have hr := elL ro4
            have hr := Option.some.inj hr
            subst hr
            exact j_iret C hq hret dX12_leads_52
        · have hr := ifT hc hr
          clear hc
          refine j_goto (tgt := 56) C dX12_leads_42 rfl ?_
          refine j_iinc (q := 4) (v := 1) (lv' := [(4, .int (s3.2 + 1)), (0, .ref this), (1, .int p1), (2, .int p2), (3, .int s3.1)]) (pc' := 59) C dX12_leads_56 rfl kI_1 (by decide) rfl rfl ?_
          refine j_goto (tgt := 20) C dX12_leads_59 rfl ?_
          exact j_lv [1, 2, 3, 4, 0] rfl (is3 _ (Option.some.inj hr).symm)
    · have hr := ifF hc hr
      clear hc
      refine j_iconst (v := -1) (pc' := 14) C dX12_leads_13 kI_m1 rfl ?_
      have hr := Option.some.inj hr
      subst hr
      exact j_iret C hq hret dX12_leads_14
def m_X12_of (ce : Ce) (this : Nat) (p1 : Int32) (p2 : Int32) : Option (Int32) :=
  (rcv ce 9 this).bind fun z1 =>
  (m_X12_isState ce this p1).bind fun x2 =>
  if x2 = 0 then
    some 0
  else
    (gA ce 9 0 this).bind fun x3 =>
    (aI ce x3 7).bind fun x4 =>
    (m_X12_isIn p2 (-1) (x4 - 1)).bind fun x5 =>
    if x5 = 0 then
      some 0
    else
      (rcv ce 9 this).bind fun z6 =>
      (m_X12_setOf ce this (1 + p2)).bind fun x7 =>
      (m_X12_has x7 p1).bind fun x8 =>
      if x8 = 0 then
        some 0
      else
        some 1
set_option maxRecDepth 100000 in
set_option maxHeartbeats 4000000 in
theorem c_X12_of {nx : Nat} {ce : Ce} {this : Nat} {p1 : Int32} {p2 : Int32} {q : Int32} (hr : m_X12_of ce this p1 p2 = some q) : Ct yX12_of cX12_of 3 (some .boolean) 2 43 0 0 [.ref this, .int p1, .int p2] nx ce (some (.int q)) ce := by
  unfold m_X12_of at hr
  refine ct_of (by decide) (by decide) ?_
  intro G C hq hret hin
  show Jd G 0 0 nx ce 0 [(0, .ref this), (1, .int p1), (2, .int p2)] []
  refine j_aload_n (q := 0) (pc' := 1) C dX12_of_0 rfl rfl rfl ?_
  refine j_iload_n (q := 1) (pc' := 2) C dX12_of_1 rfl rfl rfl ?_
  obtain ⟨z1, hz1, hr⟩ := ob hr
  obtain ⟨x2, hx2, hr⟩ := ob hr
  obtain ⟨fhz1, hz1⟩ := rcv_sp hz1
  refine j_callV (ci := 9) (As := [.int p1]) (rest := []) (st1 := [.int x2]) (pc' := 5) C ⟨wm_1833, wm_96⟩ rfl hz1 (c_X12_isState (nx := nx) hx2) yw_X12_isState wm_1831 rfl rfl (by decide) ⟨by decide, by decide⟩ dX12_of_2 rfl rfl ?_
  refine j_if_eq (tgt := 43) (pc' := 8) C dX12_of_5 rfl rfl (fun hc => ?_) (fun hc => ?_)
  · have hr := ifT hc hr
    clear hc
    refine j_iconst (v := 0) (pc' := 44) C dX12_of_43 kI_0 rfl ?_
    have hr := Option.some.inj hr
    subst hr
    exact j_zret C hq hret rfl dX12_of_44
  · have hr := ifF hc hr
    clear hc
    refine j_iload_n (q := 2) (pc' := 9) C dX12_of_8 rfl rfl rfl ?_
    refine j_iconst (v := -1) (pc' := 10) C dX12_of_9 kI_m1 rfl ?_
    refine j_aload_n (q := 0) (pc' := 11) C dX12_of_10 rfl rfl rfl ?_
    obtain ⟨x3, hx3, hr⟩ := ob hr
    refine j_getA (pc' := 14) C dX12_of_11 fl_X12_8 hx3 rfl ?_
    refine j_bipush (v := 7) (pc' := 16) C dX12_of_14 kB_7 rfl ?_
    obtain ⟨x4, hx4, hr⟩ := ob hr
    refine j_iald (pc' := 17) C dX12_of_16 hx4 rfl ?_
    refine j_iconst (v := 1) (pc' := 18) C dX12_of_17 kI_1 rfl ?_
    refine j_isub (pc' := 19) C dX12_of_18 rfl ?_
    obtain ⟨x5, hx5, hr⟩ := ob hr
    refine j_callS (As := [.int p2, .int (-1), .int (x4 - 1)]) (rest := []) (st1 := [.int x5]) (pc' := 22) C wm_1519 (c_X12_isIn (nx := nx) (ce := ce) hx5) yw_X12_isIn wm_1518 rfl rfl (by decide) ⟨by decide, by decide⟩ dX12_of_19 rfl rfl ?_
    refine j_if_eq (tgt := 43) (pc' := 25) C dX12_of_22 rfl rfl (fun hc => ?_) (fun hc => ?_)
    · have hr := ifT hc hr
      clear hc
      refine j_iconst (v := 0) (pc' := 44) C dX12_of_43 kI_0 rfl ?_
      have hr := Option.some.inj hr
      subst hr
      exact j_zret C hq hret rfl dX12_of_44
    · have hr := ifF hc hr
      clear hc
      refine j_aload_n (q := 0) (pc' := 26) C dX12_of_25 rfl rfl rfl ?_
      refine j_iconst (v := 1) (pc' := 27) C dX12_of_26 kI_1 rfl ?_
      refine j_iload_n (q := 2) (pc' := 28) C dX12_of_27 rfl rfl rfl ?_
      refine j_iadd (pc' := 29) C dX12_of_28 rfl ?_
      obtain ⟨z6, hz6, hr⟩ := ob hr
      obtain ⟨x7, hx7, hr⟩ := ob hr
      obtain ⟨fhz6, hz6⟩ := rcv_sp hz6
      refine j_callV (ci := 9) (As := [.int (1 + p2)]) (rest := []) (st1 := [.long x7]) (pc' := 32) C ⟨wm_1691, wm_66⟩ rfl hz6 (c_X12_setOf (nx := nx) hx7) yw_X12_setOf wm_1689 rfl rfl (by decide) ⟨by decide, by decide⟩ dX12_of_29 rfl rfl ?_
      refine j_iload_n (q := 1) (pc' := 33) C dX12_of_32 rfl rfl rfl ?_
      obtain ⟨x8, hx8, hr⟩ := ob hr
      refine j_callS (As := [.long x7, .int p1]) (rest := []) (st1 := [.int x8]) (pc' := 36) C wm_1635 (c_X12_has (nx := nx) (ce := ce) hx8) yw_X12_has wm_1634 rfl rfl (by decide) ⟨by decide, by decide⟩ dX12_of_33 rfl rfl ?_
      refine j_if_eq (tgt := 43) (pc' := 39) C dX12_of_36 rfl rfl (fun hc => ?_) (fun hc => ?_)
      · have hr := ifT hc hr
        clear hc
        refine j_iconst (v := 0) (pc' := 44) C dX12_of_43 kI_0 rfl ?_
        have hr := Option.some.inj hr
        subst hr
        exact j_zret C hq hret rfl dX12_of_44
      · have hr := ifF hc hr
        clear hc
        refine j_iconst (v := 1) (pc' := 40) C dX12_of_39 kI_1 rfl ?_
        refine j_goto (tgt := 44) C dX12_of_40 rfl ?_
        have hr := Option.some.inj hr
        subst hr
        exact j_zret C hq hret rfl dX12_of_44
def m_X12_isFrame (ce : Ce) (this : Nat) (p1 : Int32) : Option (Int32) :=
  (gA ce 9 0 this).bind fun x1 =>
  (aI ce x1 4).bind fun x2 =>
  (m_X12_isIn p1 0 x2).bind fun x3 =>
  (bz x3).bind fun x4 =>
  some x3
set_option maxRecDepth 100000 in
set_option maxHeartbeats 4000000 in
theorem c_X12_isFrame {nx : Nat} {ce : Ce} {this : Nat} {p1 : Int32} {q : Int32} (hr : m_X12_isFrame ce this p1 = some q) : Ct yX12_isFrame cX12_isFrame 2 (some .boolean) 1 22 0 0 [.ref this, .int p1] nx ce (some (.int q)) ce := by
  unfold m_X12_isFrame at hr
  refine ct_of (by decide) (by decide) ?_
  intro G C hq hret hin
  show Jd G 0 0 nx ce 0 [(0, .ref this), (1, .int p1)] []
  refine j_iload_n (q := 1) (pc' := 1) C dX12_isFrame_0 rfl rfl rfl ?_
  refine j_iconst (v := 0) (pc' := 2) C dX12_isFrame_1 kI_0 rfl ?_
  refine j_aload_n (q := 0) (pc' := 3) C dX12_isFrame_2 rfl rfl rfl ?_
  obtain ⟨x1, hx1, hr⟩ := ob hr
  refine j_getA (pc' := 6) C dX12_isFrame_3 fl_X12_8 hx1 rfl ?_
  refine j_iconst (v := 4) (pc' := 7) C dX12_isFrame_6 kI_4 rfl ?_
  obtain ⟨x2, hx2, hr⟩ := ob hr
  refine j_iald (pc' := 8) C dX12_isFrame_7 hx2 rfl ?_
  obtain ⟨x3, hx3, hr⟩ := ob hr
  refine j_callS (As := [.int p1, .int 0, .int x2]) (rest := []) (st1 := [.int x3]) (pc' := 11) C wm_1519 (c_X12_isIn (nx := nx) (ce := ce) hx3) yw_X12_isIn wm_1518 rfl rfl (by decide) ⟨by decide, by decide⟩ dX12_isFrame_8 rfl rfl ?_
  obtain ⟨x4, hx4, hr⟩ := ob hr
  obtain ⟨rfl, hx4⟩ := bz_sp hx4
  have hr := Option.some.inj hr
  subst hr
  exact j_zret C hq hret hx4 dX12_isFrame_11
def m_X12_within (ce : Ce) (this : Nat) (p1 : Int32) (p2 : Int32) : Option (Int32) :=
  (rcv ce 9 this).bind fun z1 =>
  (m_X12_isState ce this p1).bind fun x2 =>
  if x2 = 0 then
    some 0
  else
    (rcv ce 9 this).bind fun z3 =>
    (m_X12_isFrame ce this p2).bind fun x4 =>
    if x4 = 0 then
      some 0
    else
      (rcv ce 9 this).bind fun z5 =>
      (m_X12_openAt ce this p2).bind fun x6 =>
      (m_X12_has x6 p1).bind fun x7 =>
      if x7 = 0 then
        some 0
      else
        some 1
set_option maxRecDepth 100000 in
set_option maxHeartbeats 4000000 in
theorem c_X12_within {nx : Nat} {ce : Ce} {this : Nat} {p1 : Int32} {p2 : Int32} {q : Int32} (hr : m_X12_within ce this p1 p2 = some q) : Ct yX12_within cX12_within 3 (some .boolean) 5 110 0 0 [.ref this, .int p1, .int p2] nx ce (some (.int q)) ce := by
  unfold m_X12_within at hr
  refine ct_of (by decide) (by decide) ?_
  intro G C hq hret hin
  show Jd G 0 0 nx ce 0 [(0, .ref this), (1, .int p1), (2, .int p2)] []
  refine j_aload_n (q := 0) (pc' := 1) C dX12_within_0 rfl rfl rfl ?_
  refine j_iload_n (q := 1) (pc' := 2) C dX12_within_1 rfl rfl rfl ?_
  obtain ⟨z1, hz1, hr⟩ := ob hr
  obtain ⟨x2, hx2, hr⟩ := ob hr
  obtain ⟨fhz1, hz1⟩ := rcv_sp hz1
  refine j_callV (ci := 9) (As := [.int p1]) (rest := []) (st1 := [.int x2]) (pc' := 5) C ⟨wm_1833, wm_96⟩ rfl hz1 (c_X12_isState (nx := nx) hx2) yw_X12_isState wm_1831 rfl rfl (by decide) ⟨by decide, by decide⟩ dX12_within_2 rfl rfl ?_
  refine j_if_eq (tgt := 32) (pc' := 8) C dX12_within_5 rfl rfl (fun hc => ?_) (fun hc => ?_)
  · have hr := ifT hc hr
    clear hc
    refine j_iconst (v := 0) (pc' := 33) C dX12_within_32 kI_0 rfl ?_
    have hr := Option.some.inj hr
    subst hr
    exact j_zret C hq hret rfl dX12_within_33
  · have hr := ifF hc hr
    clear hc
    refine j_aload_n (q := 0) (pc' := 9) C dX12_within_8 rfl rfl rfl ?_
    refine j_iload_n (q := 2) (pc' := 10) C dX12_within_9 rfl rfl rfl ?_
    obtain ⟨z3, hz3, hr⟩ := ob hr
    obtain ⟨x4, hx4, hr⟩ := ob hr
    obtain ⟨fhz3, hz3⟩ := rcv_sp hz3
    refine j_callV (ci := 9) (As := [.int p2]) (rest := []) (st1 := [.int x4]) (pc' := 13) C ⟨wm_1849, wm_97⟩ rfl hz3 (c_X12_isFrame (nx := nx) hx4) yw_X12_isFrame wm_1847 rfl rfl (by decide) ⟨by decide, by decide⟩ dX12_within_10 rfl rfl ?_
    refine j_if_eq (tgt := 32) (pc' := 16) C dX12_within_13 rfl rfl (fun hc => ?_) (fun hc => ?_)
    · have hr := ifT hc hr
      clear hc
      refine j_iconst (v := 0) (pc' := 33) C dX12_within_32 kI_0 rfl ?_
      have hr := Option.some.inj hr
      subst hr
      exact j_zret C hq hret rfl dX12_within_33
    · have hr := ifF hc hr
      clear hc
      refine j_aload_n (q := 0) (pc' := 17) C dX12_within_16 rfl rfl rfl ?_
      refine j_iload_n (q := 2) (pc' := 18) C dX12_within_17 rfl rfl rfl ?_
      obtain ⟨z5, hz5, hr⟩ := ob hr
      obtain ⟨x6, hx6, hr⟩ := ob hr
      obtain ⟨fhz5, hz5⟩ := rcv_sp hz5
      refine j_callV (ci := 9) (As := [.int p2]) (rest := []) (st1 := [.long x6]) (pc' := 21) C ⟨wm_1696, wm_67⟩ rfl hz5 (c_X12_openAt (nx := nx) hx6) yw_X12_openAt wm_1694 rfl rfl (by decide) ⟨by decide, by decide⟩ dX12_within_18 rfl rfl ?_
      refine j_iload_n (q := 1) (pc' := 22) C dX12_within_21 rfl rfl rfl ?_
      obtain ⟨x7, hx7, hr⟩ := ob hr
      refine j_callS (As := [.long x6, .int p1]) (rest := []) (st1 := [.int x7]) (pc' := 25) C wm_1635 (c_X12_has (nx := nx) (ce := ce) hx7) yw_X12_has wm_1634 rfl rfl (by decide) ⟨by decide, by decide⟩ dX12_within_22 rfl rfl ?_
      refine j_if_eq (tgt := 32) (pc' := 28) C dX12_within_25 rfl rfl (fun hc => ?_) (fun hc => ?_)
      · have hr := ifT hc hr
        clear hc
        refine j_iconst (v := 0) (pc' := 33) C dX12_within_32 kI_0 rfl ?_
        have hr := Option.some.inj hr
        subst hr
        exact j_zret C hq hret rfl dX12_within_33
      · have hr := ifF hc hr
        clear hc
        refine j_iconst (v := 1) (pc' := 29) C dX12_within_28 kI_1 rfl ?_
        refine j_goto (tgt := 33) C dX12_within_29 rfl ?_
        have hr := Option.some.inj hr
        subst hr
        exact j_zret C hq hret rfl dX12_within_33
def m_X12_wide (ce : Ce) (this : Nat) (p1 : Int32) : Option (Int32) :=
  (rcv ce 9 this).bind fun z1 =>
  (m_X12_isFrame ce this p1).bind fun x2 =>
  if x2 = 0 then
    some (-1)
  else
    (rcv ce 9 this).bind fun z3 =>
    (m_X12_openAt ce this p1).bind fun x4 =>
    (m_X12_many x4).bind fun x5 =>
    some x5
set_option maxRecDepth 100000 in
set_option maxHeartbeats 4000000 in
theorem c_X12_wide {nx : Nat} {ce : Ce} {this : Nat} {p1 : Int32} {q : Int32} (hr : m_X12_wide ce this p1 = some q) : Ct yX12_wide cX12_wide 2 (some .int) 5 110 0 0 [.ref this, .int p1] nx ce (some (.int q)) ce := by
  unfold m_X12_wide at hr
  refine ct_of (by decide) (by decide) ?_
  intro G C hq hret hin
  show Jd G 0 0 nx ce 0 [(0, .ref this), (1, .int p1)] []
  refine j_aload_n (q := 0) (pc' := 1) C dX12_wide_0 rfl rfl rfl ?_
  refine j_iload_n (q := 1) (pc' := 2) C dX12_wide_1 rfl rfl rfl ?_
  obtain ⟨z1, hz1, hr⟩ := ob hr
  obtain ⟨x2, hx2, hr⟩ := ob hr
  obtain ⟨fhz1, hz1⟩ := rcv_sp hz1
  refine j_callV (ci := 9) (As := [.int p1]) (rest := []) (st1 := [.int x2]) (pc' := 5) C ⟨wm_1849, wm_97⟩ rfl hz1 (c_X12_isFrame (nx := nx) hx2) yw_X12_isFrame wm_1847 rfl rfl (by decide) ⟨by decide, by decide⟩ dX12_wide_2 rfl rfl ?_
  refine j_if_eq (tgt := 19) (pc' := 8) C dX12_wide_5 rfl rfl (fun hc => ?_) (fun hc => ?_)
  · have hr := ifT hc hr
    clear hc
    refine j_iconst (v := -1) (pc' := 20) C dX12_wide_19 kI_m1 rfl ?_
    have hr := Option.some.inj hr
    subst hr
    exact j_iret C hq hret dX12_wide_20
  · have hr := ifF hc hr
    clear hc
    refine j_aload_n (q := 0) (pc' := 9) C dX12_wide_8 rfl rfl rfl ?_
    refine j_iload_n (q := 1) (pc' := 10) C dX12_wide_9 rfl rfl rfl ?_
    obtain ⟨z3, hz3, hr⟩ := ob hr
    obtain ⟨x4, hx4, hr⟩ := ob hr
    obtain ⟨fhz3, hz3⟩ := rcv_sp hz3
    refine j_callV (ci := 9) (As := [.int p1]) (rest := []) (st1 := [.long x4]) (pc' := 13) C ⟨wm_1696, wm_67⟩ rfl hz3 (c_X12_openAt (nx := nx) hx4) yw_X12_openAt wm_1694 rfl rfl (by decide) ⟨by decide, by decide⟩ dX12_wide_10 rfl rfl ?_
    obtain ⟨x5, hx5, hr⟩ := ob hr
    refine j_callS (As := [.long x4]) (rest := []) (st1 := [.int x5]) (pc' := 16) C wm_1856 (c_X12_many (nx := nx) (ce := ce) hx5) yw_X12_many wm_1855 rfl rfl (by decide) ⟨by decide, by decide⟩ dX12_wide_13 rfl rfl ?_
    refine j_goto (tgt := 20) C dX12_wide_16 rfl ?_
    have hr := Option.some.inj hr
    subst hr
    exact j_iret C hq hret dX12_wide_20
def m_X12_bad (ce : Ce) (this : Nat) (p1 : Int32) : Option (Int32) :=
  (rcv ce 9 this).bind fun z1 =>
  (m_X12_isFrame ce this p1).bind fun x2 =>
  if x2 = 0 then
    some (-1)
  else
    (rcv ce 9 this).bind fun z3 =>
    (m_X12_openAt ce this p1).bind fun x4 =>
    (rcv ce 9 this).bind fun z5 =>
    (m_X12_aims ce this).bind fun x6 =>
    (m_X12_many (x4 &&& x6)).bind fun x7 =>
    some x7
set_option maxRecDepth 100000 in
set_option maxHeartbeats 4000000 in
theorem c_X12_bad {nx : Nat} {ce : Ce} {this : Nat} {p1 : Int32} {q : Int32} (hr : m_X12_bad ce this p1 = some q) : Ct yX12_bad cX12_bad 2 (some .int) 5 110 0 0 [.ref this, .int p1] nx ce (some (.int q)) ce := by
  unfold m_X12_bad at hr
  refine ct_of (by decide) (by decide) ?_
  intro G C hq hret hin
  show Jd G 0 0 nx ce 0 [(0, .ref this), (1, .int p1)] []
  refine j_aload_n (q := 0) (pc' := 1) C dX12_bad_0 rfl rfl rfl ?_
  refine j_iload_n (q := 1) (pc' := 2) C dX12_bad_1 rfl rfl rfl ?_
  obtain ⟨z1, hz1, hr⟩ := ob hr
  obtain ⟨x2, hx2, hr⟩ := ob hr
  obtain ⟨fhz1, hz1⟩ := rcv_sp hz1
  refine j_callV (ci := 9) (As := [.int p1]) (rest := []) (st1 := [.int x2]) (pc' := 5) C ⟨wm_1849, wm_97⟩ rfl hz1 (c_X12_isFrame (nx := nx) hx2) yw_X12_isFrame wm_1847 rfl rfl (by decide) ⟨by decide, by decide⟩ dX12_bad_2 rfl rfl ?_
  refine j_if_eq (tgt := 24) (pc' := 8) C dX12_bad_5 rfl rfl (fun hc => ?_) (fun hc => ?_)
  · have hr := ifT hc hr
    clear hc
    refine j_iconst (v := -1) (pc' := 25) C dX12_bad_24 kI_m1 rfl ?_
    have hr := Option.some.inj hr
    subst hr
    exact j_iret C hq hret dX12_bad_25
  · have hr := ifF hc hr
    clear hc
    refine j_aload_n (q := 0) (pc' := 9) C dX12_bad_8 rfl rfl rfl ?_
    refine j_iload_n (q := 1) (pc' := 10) C dX12_bad_9 rfl rfl rfl ?_
    obtain ⟨z3, hz3, hr⟩ := ob hr
    obtain ⟨x4, hx4, hr⟩ := ob hr
    obtain ⟨fhz3, hz3⟩ := rcv_sp hz3
    refine j_callV (ci := 9) (As := [.int p1]) (rest := []) (st1 := [.long x4]) (pc' := 13) C ⟨wm_1696, wm_67⟩ rfl hz3 (c_X12_openAt (nx := nx) hx4) yw_X12_openAt wm_1694 rfl rfl (by decide) ⟨by decide, by decide⟩ dX12_bad_10 rfl rfl ?_
    refine j_aload_n (q := 0) (pc' := 14) C dX12_bad_13 rfl rfl rfl ?_
    obtain ⟨z5, hz5, hr⟩ := ob hr
    obtain ⟨x6, hx6, hr⟩ := ob hr
    obtain ⟨fhz5, hz5⟩ := rcv_sp hz5
    refine j_callV (ci := 9) (As := []) (rest := [.long x4]) (st1 := [.long x6, .long x4]) (pc' := 17) C ⟨wm_1687, wm_65⟩ rfl hz5 (c_X12_aims (nx := nx) hx6) yw_X12_aims wm_1685 rfl rfl (by decide) ⟨by decide, by decide⟩ dX12_bad_14 rfl rfl ?_
    refine j_land (pc' := 18) C dX12_bad_17 rfl ?_
    obtain ⟨x7, hx7, hr⟩ := ob hr
    refine j_callS (As := [.long (x4 &&& x6)]) (rest := []) (st1 := [.int x7]) (pc' := 21) C wm_1856 (c_X12_many (nx := nx) (ce := ce) hx7) yw_X12_many wm_1855 rfl rfl (by decide) ⟨by decide, by decide⟩ dX12_bad_18 rfl rfl ?_
    refine j_goto (tgt := 25) C dX12_bad_21 rfl ?_
    have hr := Option.some.inj hr
    subst hr
    exact j_iret C hq hret dX12_bad_25
def m_X12_sought (ce : Ce) (this : Nat) (p1 : Int32) : Option (Int32) :=
  (rcv ce 9 this).bind fun z1 =>
  (m_X12_aims ce this).bind fun x2 =>
  (gA ce 9 0 this).bind fun x3 =>
  (aI ce x3 4).bind fun x4 =>
  (rcv ce 9 this).bind fun z5 =>
  (m_X12_openAt ce this x4).bind fun x6 =>
  (m_X12_many (x2 &&& x6)).bind fun x7 =>
  (
    if x7 ≤ 8 then
      (m_X12_many (x2 &&& x6)).bind fun x14 =>
      some x14
    else
      some 8
  ).bind fun j8 =>
  if p1 = (-1) then
    some j8
  else
    (m_X12_isIn p1 0 (j8 - 1)).bind fun x9 =>
    if x9 = 0 then
      some (-1)
    else
      (it (fun s10 =>
        if p1 ≤ s10.2 then
          some (Sum.inr s10.1)
        else
          some (Sum.inl ((s10.1 &&& (s10.1 - 1)), (s10.2 + 1)))
      ) FU ((x2 &&& x6), 0)).bind fun o11 =>
      (m_X12_lowest o11).bind fun x13 =>
      some x13
set_option maxRecDepth 100000 in
set_option maxHeartbeats 4000000 in
theorem c_X12_sought {nx : Nat} {ce : Ce} {this : Nat} {p1 : Int32} {q : Int32} (hr : m_X12_sought ce this p1 = some q) : Ct yX12_sought cX12_sought 6 (some .int) 5 110 0 0 [.ref this, .int p1] nx ce (some (.int q)) ce := by
  unfold m_X12_sought at hr
  refine ct_of (by decide) (by decide) ?_
  intro G C hq hret hin
  show Jd G 0 0 nx ce 0 [(0, .ref this), (1, .int p1)] []
  refine j_aload_n (q := 0) (pc' := 1) C dX12_sought_0 rfl rfl rfl ?_
  obtain ⟨z1, hz1, hr⟩ := ob hr
  obtain ⟨x2, hx2, hr⟩ := ob hr
  obtain ⟨fhz1, hz1⟩ := rcv_sp hz1
  refine j_callV (ci := 9) (As := []) (rest := []) (st1 := [.long x2]) (pc' := 4) C ⟨wm_1687, wm_65⟩ rfl hz1 (c_X12_aims (nx := nx) hx2) yw_X12_aims wm_1685 rfl rfl (by decide) ⟨by decide, by decide⟩ dX12_sought_1 rfl rfl ?_
  refine j_aload_n (q := 0) (pc' := 5) C dX12_sought_4 rfl rfl rfl ?_
  refine j_aload_n (q := 0) (pc' := 6) C dX12_sought_5 rfl rfl rfl ?_
  obtain ⟨x3, hx3, hr⟩ := ob hr
  refine j_getA (pc' := 9) C dX12_sought_6 fl_X12_8 hx3 rfl ?_
  refine j_iconst (v := 4) (pc' := 10) C dX12_sought_9 kI_4 rfl ?_
  obtain ⟨x4, hx4, hr⟩ := ob hr
  refine j_iald (pc' := 11) C dX12_sought_10 hx4 rfl ?_
  obtain ⟨z5, hz5, hr⟩ := ob hr
  obtain ⟨x6, hx6, hr⟩ := ob hr
  obtain ⟨fhz5, hz5⟩ := rcv_sp hz5
  refine j_callV (ci := 9) (As := [.int x4]) (rest := [.long x2]) (st1 := [.long x6, .long x2]) (pc' := 14) C ⟨wm_1696, wm_67⟩ rfl hz5 (c_X12_openAt (nx := nx) hx6) yw_X12_openAt wm_1694 rfl rfl (by decide) ⟨by decide, by decide⟩ dX12_sought_11 rfl rfl ?_
  refine j_land (pc' := 15) C dX12_sought_14 rfl ?_
  refine j_lstore_n (lv' := [(2, .long (x2 &&& x6)), (0, .ref this), (1, .int p1)]) (pc' := 16) C dX12_sought_15 rfl (by decide) rfl rfl ?_
  refine j_lload_n (q := 0) (pc' := 17) C dX12_sought_16 rfl rfl rfl ?_
  obtain ⟨x7, hx7, hr⟩ := ob hr
  refine j_callS (As := [.long (x2 &&& x6)]) (rest := []) (st1 := [.int x7]) (pc' := 20) C wm_1856 (c_X12_many (nx := nx) (ce := ce) hx7) yw_X12_many wm_1855 rfl rfl (by decide) ⟨by decide, by decide⟩ dX12_sought_17 rfl rfl ?_
  refine j_bipush (v := 8) (pc' := 22) C dX12_sought_20 kB_8 rfl ?_
  obtain ⟨j8, hj8, rj8⟩ := ob hr
  have kj8 : Jd G 0 0 nx ce 34 [(1, .int p1), (2, .long (x2 &&& x6))] [.int j8] := by
    have hr := rj8
    refine j_istore (lv' := [(4, .int j8), (1, .int p1), (2, .long (x2 &&& x6))]) (pc' := 36) C dX12_sought_34 (by decide) rfl rfl ?_
    refine j_iload_n (q := 1) (pc' := 37) C dX12_sought_36 rfl rfl rfl ?_
    refine j_iconst (v := -1) (pc' := 38) C dX12_sought_37 kI_m1 rfl ?_
    refine j_ic_ne (tgt := 44) (pc' := 41) C dX12_sought_38 rfl rfl (fun hc => ?_) (fun hc => ?_)
    · have hr := ifF hc hr
      clear hc
      refine j_iload_n (q := 1) (pc' := 45) C dX12_sought_44 rfl rfl rfl ?_
      refine j_iconst (v := 0) (pc' := 46) C dX12_sought_45 kI_0 rfl ?_
      refine j_iload (q := 0) (pc' := 48) C dX12_sought_46 rfl rfl ?_
      refine j_iconst (v := 1) (pc' := 49) C dX12_sought_48 kI_1 rfl ?_
      refine j_isub (pc' := 50) C dX12_sought_49 rfl ?_
      obtain ⟨x9, hx9, hr⟩ := ob hr
      refine j_callS (As := [.int p1, .int 0, .int (j8 - 1)]) (rest := []) (st1 := [.int x9]) (pc' := 53) C wm_1519 (c_X12_isIn (nx := nx) (ce := ce) hx9) yw_X12_isIn wm_1518 rfl rfl (by decide) ⟨by decide, by decide⟩ dX12_sought_50 rfl rfl ?_
      refine j_if_ne (tgt := 58) (pc' := 56) C dX12_sought_53 rfl rfl (fun hc => ?_) (fun hc => ?_)
      · have hr := ifF hc hr
        clear hc
        refine j_iconst (v := 0) (pc' := 59) C dX12_sought_58 kI_0 rfl ?_
        refine j_istore (lv' := [(5, .int 0), (4, .int j8), (1, .int p1), (2, .long (x2 &&& x6))]) (pc' := 61) C dX12_sought_59 (by decide) rfl rfl ?_
        obtain ⟨o11, ho11, ro11⟩ := ob hr
        have ko11 : Jd G 0 0 nx ce 79 [(2, .long o11)] [] := by
          have hr := ro11
          refine j_lload_n (q := 0) (pc' := 80) C dX12_sought_79 rfl rfl rfl ?_
          obtain ⟨x13, hx13, hr⟩ := ob hr
          refine j_callS (As := [.long o11]) (rest := []) (st1 := [.int x13]) (pc' := 83) C wm_1719 (c_X12_lowest (nx := nx) (ce := ce) hx13) yw_X12_lowest wm_1718 rfl rfl (by decide) ⟨by decide, by decide⟩ dX12_sought_80 rfl rfl ?_
          have hr := Option.some.inj hr
          subst hr
          exact j_iret C hq hret dX12_sought_83
        refine j_lv [2, 3, 0] rfl (it_J (J := (fun s10 => Jd G 0 0 nx ce 61 [(1, .int p1), (2, .long s10.1), (5, .int s10.2)] [])) ?_ ho11)
        clear ho11
        intro s10 r12 hr is10 es10
        refine j_iload (q := 2) (pc' := 63) C dX12_sought_61 rfl rfl ?_
        refine j_iload_n (q := 0) (pc' := 64) C dX12_sought_63 rfl rfl rfl ?_
        refine j_ic_ge (tgt := 79) (pc' := 67) C dX12_sought_64 rfl rfl (fun hc => ?_) (fun hc => ?_)
        · have hr := ifT hc hr
          clear hc
          have hr := es10 _ (Option.some.inj hr).symm
          subst hr
          exact j_lv [1] rfl ko11
        · have hr := ifF hc hr
          clear hc
          refine j_lload_n (q := 1) (pc' := 68) C dX12_sought_67 rfl rfl rfl ?_
          refine j_lload_n (q := 1) (pc' := 69) C dX12_sought_68 rfl rfl rfl ?_
          refine j_lconst (v := 1) (pc' := 70) C dX12_sought_69 kL_1 rfl ?_
          refine j_lsub (pc' := 71) C dX12_sought_70 rfl ?_
          refine j_land (pc' := 72) C dX12_sought_71 rfl ?_
          refine j_lstore_n (lv' := [(2, .long (s10.1 &&& (s10.1 - 1))), (1, .int p1), (5, .int s10.2)]) (pc' := 73) C dX12_sought_72 rfl (by decide) rfl rfl ?_
          refine j_iinc (q := 2) (v := 1) (lv' := [(5, .int (s10.2 + 1)), (2, .long (s10.1 &&& (s10.1 - 1))), (1, .int p1)]) (pc' := 76) C dX12_sought_73 rfl kI_1 (by decide) rfl rfl ?_
          refine j_goto (tgt := 61) C dX12_sought_76 rfl ?_
          exact j_lv [2, 1, 0] rfl (is10 _ (Option.some.inj hr).symm)
      · have hr := ifT hc hr
        clear hc
        refine j_iconst (v := -1) (pc' := 57) C dX12_sought_56 kI_m1 rfl ?_
        have hr := Option.some.inj hr
        subst hr
        exact j_iret C hq hret dX12_sought_57
    · have hr := ifT hc hr
      clear hc
      refine j_iload (q := 0) (pc' := 43) C dX12_sought_41 rfl rfl ?_
      have hr := Option.some.inj hr
      subst hr
      exact j_iret C hq hret dX12_sought_43
  clear rj8
  have hr := hj8
  clear hj8
  refine j_ic_le (tgt := 30) (pc' := 25) C dX12_sought_22 rfl rfl (fun hc => ?_) (fun hc => ?_)
  · have hr := ifT hc hr
    clear hc
    refine j_lload_n (q := 0) (pc' := 31) C dX12_sought_30 rfl rfl rfl ?_
    obtain ⟨x14, hx14, hr⟩ := ob hr
    refine j_callS (As := [.long (x2 &&& x6)]) (rest := []) (st1 := [.int x14]) (pc' := 34) C wm_1856 (c_X12_many (nx := nx) (ce := ce) hx14) yw_X12_many wm_1855 rfl rfl (by decide) ⟨by decide, by decide⟩ dX12_sought_31 rfl rfl ?_
    have hr := Option.some.inj hr
    subst hr
    exact j_lv [2, 0] rfl kj8
  · have hr := ifF hc hr
    clear hc
    refine j_bipush (v := 8) (pc' := 27) C dX12_sought_25 kB_8 rfl ?_
    refine j_goto (tgt := 34) C dX12_sought_27 rfl ?_
    have hr := Option.some.inj hr
    subst hr
    exact j_lv [2, 0] rfl kj8
def m_X12_weight (ce : Ce) (this : Nat) (p1 : Int32) : Option (Int32) :=
  (gA ce 9 0 this).bind fun x1 =>
  (aI ce x1 4).bind fun x2 =>
  (m_X12_isIn p1 1 x2).bind fun x3 =>
  if x3 = 0 then
    some (-1)
  else
    (it (fun s4 =>
      (gA ce 9 0 this).bind fun x7 =>
      (aI ce x7 17).bind fun x8 =>
      if x8 ≤ s4.2 then
        some (Sum.inr s4.1)
      else
        (rcv ce 9 this).bind fun z9 =>
        (m_X12_frameOf ce this s4.2).bind fun x10 =>
        if x10 = p1 then
          (rcv ce 9 this).bind fun z11 =>
          (m_X12_maskOf ce this s4.2).bind fun x12 =>
          (m_X12_many (Int32.toInt64 x12)).bind fun x13 =>
          some (Sum.inl ((s4.1 + x13), (s4.2 + 1)))
        else
          some (Sum.inl ((s4.1 + 0), (s4.2 + 1)))
    ) FU (0, 0)).bind fun o5 =>
    some o5
set_option maxRecDepth 100000 in
set_option maxHeartbeats 4000000 in
theorem c_X12_weight {nx : Nat} {ce : Ce} {this : Nat} {p1 : Int32} {q : Int32} (hr : m_X12_weight ce this p1 = some q) : Ct yX12_weight cX12_weight 4 (some .int) 1 24 0 0 [.ref this, .int p1] nx ce (some (.int q)) ce := by
  unfold m_X12_weight at hr
  refine ct_of (by decide) (by decide) ?_
  intro G C hq hret hin
  show Jd G 0 0 nx ce 0 [(0, .ref this), (1, .int p1)] []
  refine j_iload_n (q := 1) (pc' := 1) C dX12_weight_0 rfl rfl rfl ?_
  refine j_iconst (v := 1) (pc' := 2) C dX12_weight_1 kI_1 rfl ?_
  refine j_aload_n (q := 0) (pc' := 3) C dX12_weight_2 rfl rfl rfl ?_
  obtain ⟨x1, hx1, hr⟩ := ob hr
  refine j_getA (pc' := 6) C dX12_weight_3 fl_X12_8 hx1 rfl ?_
  refine j_iconst (v := 4) (pc' := 7) C dX12_weight_6 kI_4 rfl ?_
  obtain ⟨x2, hx2, hr⟩ := ob hr
  refine j_iald (pc' := 8) C dX12_weight_7 hx2 rfl ?_
  obtain ⟨x3, hx3, hr⟩ := ob hr
  refine j_callS (As := [.int p1, .int 1, .int x2]) (rest := []) (st1 := [.int x3]) (pc' := 11) C wm_1519 (c_X12_isIn (nx := nx) (ce := ce) hx3) yw_X12_isIn wm_1518 rfl rfl (by decide) ⟨by decide, by decide⟩ dX12_weight_8 rfl rfl ?_
  refine j_if_ne (tgt := 16) (pc' := 14) C dX12_weight_11 rfl rfl (fun hc => ?_) (fun hc => ?_)
  · have hr := ifF hc hr
    clear hc
    refine j_iconst (v := 0) (pc' := 17) C dX12_weight_16 kI_0 rfl ?_
    refine j_istore_n (lv' := [(2, .int 0), (0, .ref this), (1, .int p1)]) (pc' := 18) C dX12_weight_17 rfl (by decide) rfl rfl ?_
    refine j_iconst (v := 0) (pc' := 19) C dX12_weight_18 kI_0 rfl ?_
    refine j_istore_n (lv' := [(3, .int 0), (2, .int 0), (0, .ref this), (1, .int p1)]) (pc' := 20) C dX12_weight_19 rfl (by decide) rfl rfl ?_
    obtain ⟨o5, ho5, ro5⟩ := ob hr
    have ko5 : Jd G 0 0 nx ce 62 [(2, .int o5)] [] := by
      have hr := ro5
      refine j_iload_n (q := 0) (pc' := 63) C dX12_weight_62 rfl rfl rfl ?_
      have hr := Option.some.inj hr
      subst hr
      exact j_iret C hq hret dX12_weight_63
    refine j_lv [2, 3, 1, 0] rfl (it_J (J := (fun s4 => Jd G 0 0 nx ce 20 [(0, .ref this), (1, .int p1), (2, .int s4.1), (3, .int s4.2)] [])) ?_ ho5)
    clear ho5
    intro s4 r6 hr is4 es4
    refine j_iload_n (q := 3) (pc' := 21) C dX12_weight_20 rfl rfl rfl ?_
    refine j_aload_n (q := 0) (pc' := 22) C dX12_weight_21 rfl rfl rfl ?_
    obtain ⟨x7, hx7, hr⟩ := ob hr
    refine j_getA (pc' := 25) C dX12_weight_22 fl_X12_8 hx7 rfl ?_
    refine j_bipush (v := 17) (pc' := 27) C dX12_weight_25 kB_17 rfl ?_
    obtain ⟨x8, hx8, hr⟩ := ob hr
    refine j_iald (pc' := 28) C dX12_weight_27 hx8 rfl ?_
    refine j_ic_ge (tgt := 62) (pc' := 31) C dX12_weight_28 rfl rfl (fun hc => ?_) (fun hc => ?_)
    · have hr := ifT hc hr
      clear hc
      have hr := es4 _ (Option.some.inj hr).symm
      subst hr
      exact j_lv [2] rfl ko5
    · have hr := ifF hc hr
      clear hc
      refine j_iload_n (q := 2) (pc' := 32) C dX12_weight_31 rfl rfl rfl ?_
      refine j_aload_n (q := 0) (pc' := 33) C dX12_weight_32 rfl rfl rfl ?_
      refine j_iload_n (q := 3) (pc' := 34) C dX12_weight_33 rfl rfl rfl ?_
      obtain ⟨z9, hz9, hr⟩ := ob hr
      obtain ⟨x10, hx10, hr⟩ := ob hr
      obtain ⟨fhz9, hz9⟩ := rcv_sp hz9
      refine j_callV (ci := 9) (As := [.int s4.2]) (rest := [.int s4.1]) (st1 := [.int x10, .int s4.1]) (pc' := 37) C ⟨wm_1655, wm_60⟩ rfl hz9 (c_X12_frameOf (nx := nx) hx10) yw_X12_frameOf wm_1653 rfl rfl (by decide) ⟨by decide, by decide⟩ dX12_weight_34 rfl rfl ?_
      refine j_iload_n (q := 1) (pc' := 38) C dX12_weight_37 rfl rfl rfl ?_
      refine j_ic_ne (tgt := 53) (pc' := 41) C dX12_weight_38 rfl rfl (fun hc => ?_) (fun hc => ?_)
      · have hr := ifF hc hr
        clear hc
        refine j_iconst (v := 0) (pc' := 54) C dX12_weight_53 kI_0 rfl ?_
        refine j_iadd (pc' := 55) C dX12_weight_54 rfl ?_
        refine j_istore_n (lv' := [(2, .int (s4.1 + 0)), (0, .ref this), (1, .int p1), (3, .int s4.2)]) (pc' := 56) C dX12_weight_55 rfl (by decide) rfl rfl ?_
        refine j_iinc (q := 3) (v := 1) (lv' := [(3, .int (s4.2 + 1)), (2, .int (s4.1 + 0)), (0, .ref this), (1, .int p1)]) (pc' := 59) C dX12_weight_56 rfl kI_1 (by decide) rfl rfl ?_
        refine j_goto (tgt := 20) C dX12_weight_59 rfl ?_
        exact j_lv [2, 3, 1, 0] rfl (is4 _ (Option.some.inj hr).symm)
      · have hr := ifT hc hr
        clear hc
        refine j_aload_n (q := 0) (pc' := 42) C dX12_weight_41 rfl rfl rfl ?_
        refine j_iload_n (q := 3) (pc' := 43) C dX12_weight_42 rfl rfl rfl ?_
        obtain ⟨z11, hz11, hr⟩ := ob hr
        obtain ⟨x12, hx12, hr⟩ := ob hr
        obtain ⟨fhz11, hz11⟩ := rcv_sp hz11
        refine j_callV (ci := 9) (As := [.int s4.2]) (rest := [.int s4.1]) (st1 := [.int x12, .int s4.1]) (pc' := 46) C ⟨wm_1708, wm_70⟩ rfl hz11 (c_X12_maskOf (nx := nx) hx12) yw_X12_maskOf wm_1706 rfl rfl (by decide) ⟨by decide, by decide⟩ dX12_weight_43 rfl rfl ?_
        refine j_i2l (pc' := 47) C dX12_weight_46 rfl ?_
        obtain ⟨x13, hx13, hr⟩ := ob hr
        refine j_callS (As := [.long (Int32.toInt64 x12)]) (rest := [.int s4.1]) (st1 := [.int x13, .int s4.1]) (pc' := 50) C wm_1856 (c_X12_many (nx := nx) (ce := ce) hx13) yw_X12_many wm_1855 rfl rfl (by decide) ⟨by decide, by decide⟩ dX12_weight_47 rfl rfl ?_
        refine j_goto (tgt := 54) C dX12_weight_50 rfl ?_
        refine j_iadd (pc' := 55) C dX12_weight_54 rfl ?_
        refine j_istore_n (lv' := [(2, .int (s4.1 + x13)), (0, .ref this), (1, .int p1), (3, .int s4.2)]) (pc' := 56) C dX12_weight_55 rfl (by decide) rfl rfl ?_
        refine j_iinc (q := 3) (v := 1) (lv' := [(3, .int (s4.2 + 1)), (2, .int (s4.1 + x13)), (0, .ref this), (1, .int p1)]) (pc' := 59) C dX12_weight_56 rfl kI_1 (by decide) rfl rfl ?_
        refine j_goto (tgt := 20) C dX12_weight_59 rfl ?_
        exact j_lv [2, 3, 1, 0] rfl (is4 _ (Option.some.inj hr).symm)
  · have hr := ifT hc hr
    clear hc
    refine j_iconst (v := -1) (pc' := 15) C dX12_weight_14 kI_m1 rfl ?_
    have hr := Option.some.inj hr
    subst hr
    exact j_iret C hq hret dX12_weight_15
def m_X12_cubeAt (ce : Ce) (this : Nat) (p1 : Int32) (p2 : Int32) : Option (Int32) :=
  if p2 = 0 then
    (rcv ce 9 this).bind fun z3 =>
    (m_X12_maskOf ce this p1).bind fun x4 =>
    some x4
  else
    (rcv ce 9 this).bind fun z1 =>
    (m_X12_bitsOf ce this p1).bind fun x2 =>
    some x2
set_option maxRecDepth 100000 in
set_option maxHeartbeats 4000000 in
theorem c_X12_cubeAt {nx : Nat} {ce : Ce} {this : Nat} {p1 : Int32} {p2 : Int32} {q : Int32} (hr : m_X12_cubeAt ce this p1 p2 = some q) : Ct yX12_cubeAt cX12_cubeAt 3 (some .int) 1 21 0 0 [.ref this, .int p1, .int p2] nx ce (some (.int q)) ce := by
  unfold m_X12_cubeAt at hr
  refine ct_of (by decide) (by decide) ?_
  intro G C hq hret hin
  show Jd G 0 0 nx ce 0 [(0, .ref this), (1, .int p1), (2, .int p2)] []
  refine j_iload_n (q := 2) (pc' := 1) C dX12_cubeAt_0 rfl rfl rfl ?_
  refine j_if_ne (tgt := 12) (pc' := 4) C dX12_cubeAt_1 rfl rfl (fun hc => ?_) (fun hc => ?_)
  · have hr := ifF hc hr
    clear hc
    refine j_aload_n (q := 0) (pc' := 13) C dX12_cubeAt_12 rfl rfl rfl ?_
    refine j_iload_n (q := 1) (pc' := 14) C dX12_cubeAt_13 rfl rfl rfl ?_
    obtain ⟨z1, hz1, hr⟩ := ob hr
    obtain ⟨x2, hx2, hr⟩ := ob hr
    obtain ⟨fhz1, hz1⟩ := rcv_sp hz1
    refine j_callV (ci := 9) (As := [.int p1]) (rest := []) (st1 := [.int x2]) (pc' := 17) C ⟨wm_1712, wm_71⟩ rfl hz1 (c_X12_bitsOf (nx := nx) hx2) yw_X12_bitsOf wm_1710 rfl rfl (by decide) ⟨by decide, by decide⟩ dX12_cubeAt_14 rfl rfl ?_
    have hr := Option.some.inj hr
    subst hr
    exact j_iret C hq hret dX12_cubeAt_17
  · have hr := ifT hc hr
    clear hc
    refine j_aload_n (q := 0) (pc' := 5) C dX12_cubeAt_4 rfl rfl rfl ?_
    refine j_iload_n (q := 1) (pc' := 6) C dX12_cubeAt_5 rfl rfl rfl ?_
    obtain ⟨z3, hz3, hr⟩ := ob hr
    obtain ⟨x4, hx4, hr⟩ := ob hr
    obtain ⟨fhz3, hz3⟩ := rcv_sp hz3
    refine j_callV (ci := 9) (As := [.int p1]) (rest := []) (st1 := [.int x4]) (pc' := 9) C ⟨wm_1708, wm_70⟩ rfl hz3 (c_X12_maskOf (nx := nx) hx4) yw_X12_maskOf wm_1706 rfl rfl (by decide) ⟨by decide, by decide⟩ dX12_cubeAt_6 rfl rfl ?_
    refine j_goto (tgt := 17) C dX12_cubeAt_9 rfl ?_
    have hr := Option.some.inj hr
    subst hr
    exact j_iret C hq hret dX12_cubeAt_17
def m_X12_cube (ce : Ce) (this : Nat) (p1 : Int32) (p2 : Int32) (p3 : Int32) : Option (Int32) :=
  (gA ce 9 0 this).bind fun x1 =>
  (aI ce x1 4).bind fun x2 =>
  (m_X12_isIn p1 1 x2).bind fun x3 =>
  if x3 = 0 then
    some (-2)
  else
    if p2 = (-1) then
      (rcv ce 9 this).bind fun z10 =>
      (m_X12_manyOf ce this p1).bind fun x11 =>
      some x11
    else
      (
        if 0 ≤ p2 then
          (rcv ce 9 this).bind fun z8 =>
          (m_X12_cubeBy ce this p1 p2).bind fun x9 =>
          some x9
        else
          some (-1)
      ).bind fun j4 =>
      if j4 = (-1) then
        some (-2)
      else
        (m_X12_isIn p3 0 1).bind fun x5 =>
        if x5 = 0 then
          some (-2)
        else
          (rcv ce 9 this).bind fun z6 =>
          (m_X12_cubeAt ce this j4 p3).bind fun x7 =>
          some x7
set_option maxRecDepth 100000 in
set_option maxHeartbeats 4000000 in
theorem c_X12_cube {nx : Nat} {ce : Ce} {this : Nat} {p1 : Int32} {p2 : Int32} {p3 : Int32} {q : Int32} (hr : m_X12_cube ce this p1 p2 p3 = some q) : Ct yX12_cube cX12_cube 5 (some .int) 2 45 0 0 [.ref this, .int p1, .int p2, .int p3] nx ce (some (.int q)) ce := by
  unfold m_X12_cube at hr
  refine ct_of (by decide) (by decide) ?_
  intro G C hq hret hin
  show Jd G 0 0 nx ce 0 [(0, .ref this), (1, .int p1), (2, .int p2), (3, .int p3)] []
  refine j_iload_n (q := 1) (pc' := 1) C dX12_cube_0 rfl rfl rfl ?_
  refine j_iconst (v := 1) (pc' := 2) C dX12_cube_1 kI_1 rfl ?_
  refine j_aload_n (q := 0) (pc' := 3) C dX12_cube_2 rfl rfl rfl ?_
  obtain ⟨x1, hx1, hr⟩ := ob hr
  refine j_getA (pc' := 6) C dX12_cube_3 fl_X12_8 hx1 rfl ?_
  refine j_iconst (v := 4) (pc' := 7) C dX12_cube_6 kI_4 rfl ?_
  obtain ⟨x2, hx2, hr⟩ := ob hr
  refine j_iald (pc' := 8) C dX12_cube_7 hx2 rfl ?_
  obtain ⟨x3, hx3, hr⟩ := ob hr
  refine j_callS (As := [.int p1, .int 1, .int x2]) (rest := []) (st1 := [.int x3]) (pc' := 11) C wm_1519 (c_X12_isIn (nx := nx) (ce := ce) hx3) yw_X12_isIn wm_1518 rfl rfl (by decide) ⟨by decide, by decide⟩ dX12_cube_8 rfl rfl ?_
  refine j_if_ne (tgt := 17) (pc' := 14) C dX12_cube_11 rfl rfl (fun hc => ?_) (fun hc => ?_)
  · have hr := ifF hc hr
    clear hc
    refine j_iload_n (q := 2) (pc' := 18) C dX12_cube_17 rfl rfl rfl ?_
    refine j_iconst (v := -1) (pc' := 19) C dX12_cube_18 kI_m1 rfl ?_
    refine j_ic_ne (tgt := 28) (pc' := 22) C dX12_cube_19 rfl rfl (fun hc => ?_) (fun hc => ?_)
    · have hr := ifF hc hr
      clear hc
      refine j_iload_n (q := 2) (pc' := 29) C dX12_cube_28 rfl rfl rfl ?_
      obtain ⟨j4, hj4, rj4⟩ := ob hr
      have kj4 : Jd G 0 0 nx ce 42 [(0, .ref this), (3, .int p3)] [.int j4] := by
        have hr := rj4
        refine j_istore (lv' := [(4, .int j4), (0, .ref this), (3, .int p3)]) (pc' := 44) C dX12_cube_42 (by decide) rfl rfl ?_
        refine j_iload (q := 0) (pc' := 46) C dX12_cube_44 rfl rfl ?_
        refine j_iconst (v := -1) (pc' := 47) C dX12_cube_46 kI_m1 rfl ?_
        refine j_ic_eq (tgt := 59) (pc' := 50) C dX12_cube_47 rfl rfl (fun hc => ?_) (fun hc => ?_)
        · have hr := ifT hc hr
          clear hc
          refine j_bipush (v := -2) (pc' := 61) C dX12_cube_59 kB_m2 rfl ?_
          refine j_goto (tgt := 71) C dX12_cube_61 rfl ?_
          have hr := Option.some.inj hr
          subst hr
          exact j_iret C hq hret dX12_cube_71
        · have hr := ifF hc hr
          clear hc
          refine j_iload_n (q := 2) (pc' := 51) C dX12_cube_50 rfl rfl rfl ?_
          refine j_iconst (v := 0) (pc' := 52) C dX12_cube_51 kI_0 rfl ?_
          refine j_iconst (v := 1) (pc' := 53) C dX12_cube_52 kI_1 rfl ?_
          obtain ⟨x5, hx5, hr⟩ := ob hr
          refine j_callS (As := [.int p3, .int 0, .int 1]) (rest := []) (st1 := [.int x5]) (pc' := 56) C wm_1519 (c_X12_isIn (nx := nx) (ce := ce) hx5) yw_X12_isIn wm_1518 rfl rfl (by decide) ⟨by decide, by decide⟩ dX12_cube_53 rfl rfl ?_
          refine j_if_ne (tgt := 64) (pc' := 59) C dX12_cube_56 rfl rfl (fun hc => ?_) (fun hc => ?_)
          · have hr := ifF hc hr
            clear hc
            refine j_aload_n (q := 1) (pc' := 65) C dX12_cube_64 rfl rfl rfl ?_
            refine j_iload (q := 0) (pc' := 67) C dX12_cube_65 rfl rfl ?_
            refine j_iload_n (q := 2) (pc' := 68) C dX12_cube_67 rfl rfl rfl ?_
            obtain ⟨z6, hz6, hr⟩ := ob hr
            obtain ⟨x7, hx7, hr⟩ := ob hr
            obtain ⟨fhz6, hz6⟩ := rcv_sp hz6
            refine j_callV (ci := 9) (As := [.int j4, .int p3]) (rest := []) (st1 := [.int x7]) (pc' := 71) C ⟨wm_1880, wm_99⟩ rfl hz6 (c_X12_cubeAt (nx := nx) hx7) yw_X12_cubeAt wm_1878 rfl rfl (by decide) ⟨by decide, by decide⟩ dX12_cube_68 rfl rfl ?_
            have hr := Option.some.inj hr
            subst hr
            exact j_iret C hq hret dX12_cube_71
          · have hr := ifT hc hr
            clear hc
            refine j_bipush (v := -2) (pc' := 61) C dX12_cube_59 kB_m2 rfl ?_
            refine j_goto (tgt := 71) C dX12_cube_61 rfl ?_
            have hr := Option.some.inj hr
            subst hr
            exact j_iret C hq hret dX12_cube_71
      clear rj4
      have hr := hj4
      clear hj4
      refine j_if_ge (tgt := 36) (pc' := 32) C dX12_cube_29 rfl rfl (fun hc => ?_) (fun hc => ?_)
      · have hr := ifT hc hr
        clear hc
        refine j_aload_n (q := 0) (pc' := 37) C dX12_cube_36 rfl rfl rfl ?_
        refine j_iload_n (q := 1) (pc' := 38) C dX12_cube_37 rfl rfl rfl ?_
        refine j_iload_n (q := 2) (pc' := 39) C dX12_cube_38 rfl rfl rfl ?_
        obtain ⟨z8, hz8, hr⟩ := ob hr
        obtain ⟨x9, hx9, hr⟩ := ob hr
        obtain ⟨fhz8, hz8⟩ := rcv_sp hz8
        refine j_callV (ci := 9) (As := [.int p1, .int p2]) (rest := []) (st1 := [.int x9]) (pc' := 42) C ⟨wm_1876, wm_98⟩ rfl hz8 (c_X12_cubeBy (nx := nx) hx9) yw_X12_cubeBy wm_1874 rfl rfl (by decide) ⟨by decide, by decide⟩ dX12_cube_39 rfl rfl ?_
        have hr := Option.some.inj hr
        subst hr
        exact j_lv [0, 3] rfl kj4
      · have hr := ifF hc hr
        clear hc
        refine j_iconst (v := -1) (pc' := 33) C dX12_cube_32 kI_m1 rfl ?_
        refine j_goto (tgt := 42) C dX12_cube_33 rfl ?_
        have hr := Option.some.inj hr
        subst hr
        exact j_lv [0, 3] rfl kj4
    · have hr := ifT hc hr
      clear hc
      refine j_aload_n (q := 0) (pc' := 23) C dX12_cube_22 rfl rfl rfl ?_
      refine j_iload_n (q := 1) (pc' := 24) C dX12_cube_23 rfl rfl rfl ?_
      obtain ⟨z10, hz10, hr⟩ := ob hr
      obtain ⟨x11, hx11, hr⟩ := ob hr
      obtain ⟨fhz10, hz10⟩ := rcv_sp hz10
      refine j_callV (ci := 9) (As := [.int p1]) (rest := []) (st1 := [.int x11]) (pc' := 27) C ⟨wm_1813, wm_94⟩ rfl hz10 (c_X12_manyOf (nx := nx) hx11) yw_X12_manyOf wm_1811 rfl rfl (by decide) ⟨by decide, by decide⟩ dX12_cube_24 rfl rfl ?_
      have hr := Option.some.inj hr
      subst hr
      exact j_iret C hq hret dX12_cube_27
  · have hr := ifT hc hr
    clear hc
    refine j_bipush (v := -2) (pc' := 16) C dX12_cube_14 kB_m2 rfl ?_
    have hr := Option.some.inj hr
    subst hr
    exact j_iret C hq hret dX12_cube_16
def m_X12_lineBy (ce : Ce) (this : Nat) (p1 : Int32) : Option (Int32) :=
  (rcv ce 9 this).bind fun z1 =>
  (m_X12_nextLine ce this (-1)).bind fun x2 =>
  (it (fun s3 =>
    if p1 ≤ s3.2 then
      some (Sum.inr s3.1)
    else
      if s3.1 = (-1) then
        some (Sum.inr s3.1)
      else
        (rcv ce 9 this).bind fun z6 =>
        (m_X12_nextLine ce this s3.1).bind fun x7 =>
        some (Sum.inl (x7, (s3.2 + 1)))
  ) FU (x2, 0)).bind fun o4 =>
  some o4
set_option maxRecDepth 100000 in
set_option maxHeartbeats 4000000 in
theorem c_X12_lineBy {nx : Nat} {ce : Ce} {this : Nat} {p1 : Int32} {q : Int32} (hr : m_X12_lineBy ce this p1 = some q) : Ct yX12_lineBy cX12_lineBy 4 (some .int) 3 68 0 0 [.ref this, .int p1] nx ce (some (.int q)) ce := by
  unfold m_X12_lineBy at hr
  refine ct_of (by decide) (by decide) ?_
  intro G C hq hret hin
  show Jd G 0 0 nx ce 0 [(0, .ref this), (1, .int p1)] []
  refine j_aload_n (q := 0) (pc' := 1) C dX12_lineBy_0 rfl rfl rfl ?_
  refine j_iconst (v := -1) (pc' := 2) C dX12_lineBy_1 kI_m1 rfl ?_
  obtain ⟨z1, hz1, hr⟩ := ob hr
  obtain ⟨x2, hx2, hr⟩ := ob hr
  obtain ⟨fhz1, hz1⟩ := rcv_sp hz1
  refine j_callV (ci := 9) (As := [.int (-1)]) (rest := []) (st1 := [.int x2]) (pc' := 5) C ⟨wm_1731, wm_75⟩ rfl hz1 (c_X12_nextLine (nx := nx) hx2) yw_X12_nextLine wm_1729 rfl rfl (by decide) ⟨by decide, by decide⟩ dX12_lineBy_2 rfl rfl ?_
  refine j_istore_n (lv' := [(2, .int x2), (0, .ref this), (1, .int p1)]) (pc' := 6) C dX12_lineBy_5 rfl (by decide) rfl rfl ?_
  refine j_iconst (v := 0) (pc' := 7) C dX12_lineBy_6 kI_0 rfl ?_
  refine j_istore_n (lv' := [(3, .int 0), (2, .int x2), (0, .ref this), (1, .int p1)]) (pc' := 8) C dX12_lineBy_7 rfl (by decide) rfl rfl ?_
  obtain ⟨o4, ho4, ro4⟩ := ob hr
  have ko4 : Jd G 0 0 nx ce 30 [(2, .int o4)] [] := by
    have hr := ro4
    refine j_iload_n (q := 0) (pc' := 31) C dX12_lineBy_30 rfl rfl rfl ?_
    have hr := Option.some.inj hr
    subst hr
    exact j_iret C hq hret dX12_lineBy_31
  refine j_lv [2, 3, 1, 0] rfl (it_J (J := (fun s3 => Jd G 0 0 nx ce 8 [(0, .ref this), (1, .int p1), (2, .int s3.1), (3, .int s3.2)] [])) ?_ ho4)
  clear ho4
  intro s3 r5 hr is3 es3
  refine j_iload_n (q := 3) (pc' := 9) C dX12_lineBy_8 rfl rfl rfl ?_
  refine j_iload_n (q := 1) (pc' := 10) C dX12_lineBy_9 rfl rfl rfl ?_
  refine j_ic_ge (tgt := 30) (pc' := 13) C dX12_lineBy_10 rfl rfl (fun hc => ?_) (fun hc => ?_)
  · have hr := ifT hc hr
    clear hc
    have hr := es3 _ (Option.some.inj hr).symm
    subst hr
    exact j_lv [2] rfl ko4
  · have hr := ifF hc hr
    clear hc
    refine j_iload_n (q := 2) (pc' := 14) C dX12_lineBy_13 rfl rfl rfl ?_
    refine j_iconst (v := -1) (pc' := 15) C dX12_lineBy_14 kI_m1 rfl ?_
    refine j_ic_eq (tgt := 30) (pc' := 18) C dX12_lineBy_15 rfl rfl (fun hc => ?_) (fun hc => ?_)
    · have hr := ifT hc hr
      clear hc
      have hr := es3 _ (Option.some.inj hr).symm
      subst hr
      exact j_lv [2] rfl ko4
    · have hr := ifF hc hr
      clear hc
      refine j_aload_n (q := 0) (pc' := 19) C dX12_lineBy_18 rfl rfl rfl ?_
      refine j_iload_n (q := 2) (pc' := 20) C dX12_lineBy_19 rfl rfl rfl ?_
      obtain ⟨z6, hz6, hr⟩ := ob hr
      obtain ⟨x7, hx7, hr⟩ := ob hr
      obtain ⟨fhz6, hz6⟩ := rcv_sp hz6
      refine j_callV (ci := 9) (As := [.int s3.1]) (rest := []) (st1 := [.int x7]) (pc' := 23) C ⟨wm_1731, wm_75⟩ rfl hz6 (c_X12_nextLine (nx := nx) hx7) yw_X12_nextLine wm_1729 rfl rfl (by decide) ⟨by decide, by decide⟩ dX12_lineBy_20 rfl rfl ?_
      refine j_istore_n (lv' := [(2, .int x7), (0, .ref this), (1, .int p1), (3, .int s3.2)]) (pc' := 24) C dX12_lineBy_23 rfl (by decide) rfl rfl ?_
      refine j_iinc (q := 3) (v := 1) (lv' := [(3, .int (s3.2 + 1)), (2, .int x7), (0, .ref this), (1, .int p1)]) (pc' := 27) C dX12_lineBy_24 rfl kI_1 (by decide) rfl rfl ?_
      refine j_goto (tgt := 8) C dX12_lineBy_27 rfl ?_
      exact j_lv [2, 3, 1, 0] rfl (is3 _ (Option.some.inj hr).symm)
def m_X12_obligation (ce : Ce) (this : Nat) (p1 : Int32) (p2 : Int32) : Option (Int32) :=
  if p1 = (-1) then
    (gA ce 9 0 this).bind fun x9 =>
    (aI ce x9 9).bind fun x10 =>
    some x10
  else
    (gA ce 9 0 this).bind fun x1 =>
    (aI ce x1 9).bind fun x2 =>
    (m_X12_isIn p1 0 (x2 - 1)).bind fun x3 =>
    if x3 = 0 then
      some (-2)
    else
      (m_X12_isIn p2 0 3).bind fun x4 =>
      if x4 = 0 then
        some (-2)
      else
        (rcv ce 9 this).bind fun z5 =>
        (m_X12_lineBy ce this p1).bind fun x6 =>
        (rcv ce 9 this).bind fun z7 =>
        (m_X12_ofLine ce this x6 p2).bind fun x8 =>
        some x8
set_option maxRecDepth 100000 in
set_option maxHeartbeats 4000000 in
theorem c_X12_obligation {nx : Nat} {ce : Ce} {this : Nat} {p1 : Int32} {p2 : Int32} {q : Int32} (hr : m_X12_obligation ce this p1 p2 = some q) : Ct yX12_obligation cX12_obligation 3 (some .int) 4 91 0 0 [.ref this, .int p1, .int p2] nx ce (some (.int q)) ce := by
  unfold m_X12_obligation at hr
  refine ct_of (by decide) (by decide) ?_
  intro G C hq hret hin
  show Jd G 0 0 nx ce 0 [(0, .ref this), (1, .int p1), (2, .int p2)] []
  refine j_iload_n (q := 1) (pc' := 1) C dX12_obligation_0 rfl rfl rfl ?_
  refine j_iconst (v := -1) (pc' := 2) C dX12_obligation_1 kI_m1 rfl ?_
  refine j_ic_ne (tgt := 13) (pc' := 5) C dX12_obligation_2 rfl rfl (fun hc => ?_) (fun hc => ?_)
  · have hr := ifF hc hr
    clear hc
    refine j_iload_n (q := 1) (pc' := 14) C dX12_obligation_13 rfl rfl rfl ?_
    refine j_iconst (v := 0) (pc' := 15) C dX12_obligation_14 kI_0 rfl ?_
    refine j_aload_n (q := 0) (pc' := 16) C dX12_obligation_15 rfl rfl rfl ?_
    obtain ⟨x1, hx1, hr⟩ := ob hr
    refine j_getA (pc' := 19) C dX12_obligation_16 fl_X12_8 hx1 rfl ?_
    refine j_bipush (v := 9) (pc' := 21) C dX12_obligation_19 kB_9 rfl ?_
    obtain ⟨x2, hx2, hr⟩ := ob hr
    refine j_iald (pc' := 22) C dX12_obligation_21 hx2 rfl ?_
    refine j_iconst (v := 1) (pc' := 23) C dX12_obligation_22 kI_1 rfl ?_
    refine j_isub (pc' := 24) C dX12_obligation_23 rfl ?_
    obtain ⟨x3, hx3, hr⟩ := ob hr
    refine j_callS (As := [.int p1, .int 0, .int (x2 - 1)]) (rest := []) (st1 := [.int x3]) (pc' := 27) C wm_1519 (c_X12_isIn (nx := nx) (ce := ce) hx3) yw_X12_isIn wm_1518 rfl rfl (by decide) ⟨by decide, by decide⟩ dX12_obligation_24 rfl rfl ?_
    refine j_if_eq (tgt := 52) (pc' := 30) C dX12_obligation_27 rfl rfl (fun hc => ?_) (fun hc => ?_)
    · have hr := ifT hc hr
      clear hc
      refine j_bipush (v := -2) (pc' := 54) C dX12_obligation_52 kB_m2 rfl ?_
      have hr := Option.some.inj hr
      subst hr
      exact j_iret C hq hret dX12_obligation_54
    · have hr := ifF hc hr
      clear hc
      refine j_iload_n (q := 2) (pc' := 31) C dX12_obligation_30 rfl rfl rfl ?_
      refine j_iconst (v := 0) (pc' := 32) C dX12_obligation_31 kI_0 rfl ?_
      refine j_iconst (v := 3) (pc' := 33) C dX12_obligation_32 kI_3 rfl ?_
      obtain ⟨x4, hx4, hr⟩ := ob hr
      refine j_callS (As := [.int p2, .int 0, .int 3]) (rest := []) (st1 := [.int x4]) (pc' := 36) C wm_1519 (c_X12_isIn (nx := nx) (ce := ce) hx4) yw_X12_isIn wm_1518 rfl rfl (by decide) ⟨by decide, by decide⟩ dX12_obligation_33 rfl rfl ?_
      refine j_if_eq (tgt := 52) (pc' := 39) C dX12_obligation_36 rfl rfl (fun hc => ?_) (fun hc => ?_)
      · have hr := ifT hc hr
        clear hc
        refine j_bipush (v := -2) (pc' := 54) C dX12_obligation_52 kB_m2 rfl ?_
        have hr := Option.some.inj hr
        subst hr
        exact j_iret C hq hret dX12_obligation_54
      · have hr := ifF hc hr
        clear hc
        refine j_aload_n (q := 0) (pc' := 40) C dX12_obligation_39 rfl rfl rfl ?_
        refine j_aload_n (q := 0) (pc' := 41) C dX12_obligation_40 rfl rfl rfl ?_
        refine j_iload_n (q := 1) (pc' := 42) C dX12_obligation_41 rfl rfl rfl ?_
        obtain ⟨z5, hz5, hr⟩ := ob hr
        obtain ⟨x6, hx6, hr⟩ := ob hr
        obtain ⟨fhz5, hz5⟩ := rcv_sp hz5
        refine j_callV (ci := 9) (As := [.int p1]) (rest := [.ref this]) (st1 := [.int x6, .ref this]) (pc' := 45) C ⟨wm_1888, wm_100⟩ rfl hz5 (c_X12_lineBy (nx := nx) hx6) yw_X12_lineBy wm_1886 rfl rfl (by decide) ⟨by decide, by decide⟩ dX12_obligation_42 rfl rfl ?_
        refine j_iload_n (q := 2) (pc' := 46) C dX12_obligation_45 rfl rfl rfl ?_
        obtain ⟨z7, hz7, hr⟩ := ob hr
        obtain ⟨x8, hx8, hr⟩ := ob hr
        obtain ⟨fhz7, hz7⟩ := rcv_sp hz7
        refine j_callV (ci := 9) (As := [.int x6, .int p2]) (rest := []) (st1 := [.int x8]) (pc' := 49) C ⟨wm_1739, wm_77⟩ rfl hz7 (c_X12_ofLine (nx := nx) hx8) yw_X12_ofLine wm_1737 rfl rfl (by decide) ⟨by decide, by decide⟩ dX12_obligation_46 rfl rfl ?_
        refine j_goto (tgt := 54) C dX12_obligation_49 rfl ?_
        have hr := Option.some.inj hr
        subst hr
        exact j_iret C hq hret dX12_obligation_54
  · have hr := ifT hc hr
    clear hc
    refine j_aload_n (q := 0) (pc' := 6) C dX12_obligation_5 rfl rfl rfl ?_
    obtain ⟨x9, hx9, hr⟩ := ob hr
    refine j_getA (pc' := 9) C dX12_obligation_6 fl_X12_8 hx9 rfl ?_
    refine j_bipush (v := 9) (pc' := 11) C dX12_obligation_9 kB_9 rfl ?_
    obtain ⟨x10, hx10, hr⟩ := ob hr
    refine j_iald (pc' := 12) C dX12_obligation_11 hx10 rfl ?_
    have hr := Option.some.inj hr
    subst hr
    exact j_iret C hq hret dX12_obligation_12
def m_X12_layTrace (ce : Ce) (this : Nat) : Option (Unit × Ce) :=
  (pV ce 9 28 this (.int 0)).bind fun c1 =>
  (gA c1 9 0 this).bind fun x2 =>
  (aI c1 x2 5).bind fun x3 =>
  (
    if x3 = 4 then
      (rcv c1 9 this).bind fun z19 =>
      (m_X12_nextLine c1 this (-1)).bind fun x20 =>
      some x20
    else
      some (-1)
  ).bind fun j4 =>
  (it (fun s5 =>
    if s5.1 = (-1) then
      some (Sum.inr ((), s5.2))
    else
      (gA s5.2 9 27 this).bind fun x8 =>
      (gI s5.2 9 28 this).bind fun x9 =>
      (rcv s5.2 9 this).bind fun z10 =>
      (m_X12_ofLine s5.2 this s5.1 0).bind fun x11 =>
      (sI s5.2 x8 x9 x11).bind fun c12 =>
      (gI c12 9 28 this).bind fun x13 =>
      (pV c12 9 28 this (.int (x13 + 1))).bind fun c14 =>
      (rcv c14 9 this).bind fun z15 =>
      (m_X12_ofLine c14 this s5.1 3).bind fun x16 =>
      (rcv c14 9 this).bind fun z17 =>
      (m_X12_lineOf c14 this x16).bind fun x18 =>
      some (Sum.inl (x18, c14))
  ) FU (j4, c1)).bind fun o6 =>
  some ((), o6.2)
set_option maxRecDepth 100000 in
set_option maxHeartbeats 4000000 in
theorem c_X12_layTrace {nx : Nat} {ce : Ce} {this : Nat} {q : Unit × Ce} (hr : m_X12_layTrace ce this = some q) : Ct yX12_layTrace cX12_layTrace 2 none 3 68 0 0 [.ref this] nx ce none q.2 := by
  unfold m_X12_layTrace at hr
  refine ct_of (by decide) (by decide) ?_
  intro G C hq hret hin
  show Jd G 0 0 nx ce 0 [(0, .ref this)] []
  refine j_aload_n (q := 0) (pc' := 1) C dX12_layTrace_0 rfl rfl rfl ?_
  refine j_iconst (v := 0) (pc' := 2) C dX12_layTrace_1 kI_0 rfl ?_
  obtain ⟨c1, hc1, hr⟩ := ob hr
  refine j_put (pc' := 5) C dX12_layTrace_2 fw_X12_378 rfl rfl hc1 rfl ?_
  refine j_aload_n (q := 0) (pc' := 6) C dX12_layTrace_5 rfl rfl rfl ?_
  obtain ⟨x2, hx2, hr⟩ := ob hr
  refine j_getA (pc' := 9) C dX12_layTrace_6 fl_X12_8 hx2 rfl ?_
  refine j_iconst (v := 5) (pc' := 10) C dX12_layTrace_9 kI_5 rfl ?_
  obtain ⟨x3, hx3, hr⟩ := ob hr
  refine j_iald (pc' := 11) C dX12_layTrace_10 hx3 rfl ?_
  refine j_iconst (v := 4) (pc' := 12) C dX12_layTrace_11 kI_4 rfl ?_
  obtain ⟨j4, hj4, rj4⟩ := ob hr
  have kj4 : Jd G 0 0 nx c1 24 [(0, .ref this)] [.int j4] := by
    have hr := rj4
    refine j_istore_n (lv' := [(1, .int j4), (0, .ref this)]) (pc' := 25) C dX12_layTrace_24 rfl (by decide) rfl rfl ?_
    obtain ⟨o6, ho6, ro6⟩ := ob hr
    have ko6 : Jd G 0 0 nx o6.2 69 [] [] := by
      have hr := ro6
      have hr := Option.some.inj hr
      subst hr
      exact j_vret C hq hret dX12_layTrace_69
    refine j_lv [1, 0] rfl (it_J (J := (fun s5 => Jd G 0 0 nx s5.2 25 [(0, .ref this), (1, .int s5.1)] [])) ?_ ho6)
    clear ho6
    intro s5 r7 hr is5 es5
    refine j_iload_n (q := 1) (pc' := 26) C dX12_layTrace_25 rfl rfl rfl ?_
    refine j_iconst (v := -1) (pc' := 27) C dX12_layTrace_26 kI_m1 rfl ?_
    refine j_ic_eq (tgt := 69) (pc' := 30) C dX12_layTrace_27 rfl rfl (fun hc => ?_) (fun hc => ?_)
    · have hr := ifT hc hr
      clear hc
      have hr := es5 _ (Option.some.inj hr).symm
      subst hr
      exact j_lv [] rfl ko6
    · have hr := ifF hc hr
      clear hc
      refine j_aload_n (q := 0) (pc' := 31) C dX12_layTrace_30 rfl rfl rfl ?_
      obtain ⟨x8, hx8, hr⟩ := ob hr
      refine j_getA (pc' := 34) C dX12_layTrace_31 fl_X12_59 hx8 rfl ?_
      refine j_aload_n (q := 0) (pc' := 35) C dX12_layTrace_34 rfl rfl rfl ?_
      obtain ⟨x9, hx9, hr⟩ := ob hr
      refine j_getI (pc' := 38) C dX12_layTrace_35 fl_X12_378 hx9 rfl ?_
      refine j_aload_n (q := 0) (pc' := 39) C dX12_layTrace_38 rfl rfl rfl ?_
      refine j_iload_n (q := 1) (pc' := 40) C dX12_layTrace_39 rfl rfl rfl ?_
      refine j_iconst (v := 0) (pc' := 41) C dX12_layTrace_40 kI_0 rfl ?_
      obtain ⟨z10, hz10, hr⟩ := ob hr
      obtain ⟨x11, hx11, hr⟩ := ob hr
      obtain ⟨fhz10, hz10⟩ := rcv_sp hz10
      refine j_callV (ci := 9) (As := [.int s5.1, .int 0]) (rest := [.int x9, .ref x8]) (st1 := [.int x11, .int x9, .ref x8]) (pc' := 44) C ⟨wm_1739, wm_77⟩ rfl hz10 (c_X12_ofLine (nx := nx) hx11) yw_X12_ofLine wm_1737 rfl rfl (by decide) ⟨by decide, by decide⟩ dX12_layTrace_41 rfl rfl ?_
      obtain ⟨c12, hc12, hr⟩ := ob hr
      refine j_iast (pc' := 45) C dX12_layTrace_44 hc12 rfl ?_
      refine j_aload_n (q := 0) (pc' := 46) C dX12_layTrace_45 rfl rfl rfl ?_
      refine j_dup (pc' := 47) C dX12_layTrace_46 rfl rfl ?_
      obtain ⟨x13, hx13, hr⟩ := ob hr
      refine j_getI (pc' := 50) C dX12_layTrace_47 fl_X12_378 hx13 rfl ?_
      refine j_iconst (v := 1) (pc' := 51) C dX12_layTrace_50 kI_1 rfl ?_
      refine j_iadd (pc' := 52) C dX12_layTrace_51 rfl ?_
      obtain ⟨c14, hc14, hr⟩ := ob hr
      refine j_put (pc' := 55) C dX12_layTrace_52 fw_X12_378 rfl rfl hc14 rfl ?_
      refine j_aload_n (q := 0) (pc' := 56) C dX12_layTrace_55 rfl rfl rfl ?_
      refine j_aload_n (q := 0) (pc' := 57) C dX12_layTrace_56 rfl rfl rfl ?_
      refine j_iload_n (q := 1) (pc' := 58) C dX12_layTrace_57 rfl rfl rfl ?_
      refine j_iconst (v := 3) (pc' := 59) C dX12_layTrace_58 kI_3 rfl ?_
      obtain ⟨z15, hz15, hr⟩ := ob hr
      obtain ⟨x16, hx16, hr⟩ := ob hr
      obtain ⟨fhz15, hz15⟩ := rcv_sp hz15
      refine j_callV (ci := 9) (As := [.int s5.1, .int 3]) (rest := [.ref this]) (st1 := [.int x16, .ref this]) (pc' := 62) C ⟨wm_1739, wm_77⟩ rfl hz15 (c_X12_ofLine (nx := nx) hx16) yw_X12_ofLine wm_1737 rfl rfl (by decide) ⟨by decide, by decide⟩ dX12_layTrace_59 rfl rfl ?_
      obtain ⟨z17, hz17, hr⟩ := ob hr
      obtain ⟨x18, hx18, hr⟩ := ob hr
      obtain ⟨fhz17, hz17⟩ := rcv_sp hz17
      refine j_callV (ci := 9) (As := [.int x16]) (rest := []) (st1 := [.int x18]) (pc' := 65) C ⟨wm_1900, wm_102⟩ rfl hz17 (c_X12_lineOf (nx := nx) hx18) yw_X12_lineOf wm_1898 rfl rfl (by decide) ⟨by decide, by decide⟩ dX12_layTrace_62 rfl rfl ?_
      refine j_istore_n (lv' := [(1, .int x18), (0, .ref this)]) (pc' := 66) C dX12_layTrace_65 rfl (by decide) rfl rfl ?_
      refine j_goto (tgt := 25) C dX12_layTrace_66 rfl ?_
      exact j_lv [1, 0] rfl (is5 _ (Option.some.inj hr).symm)
  clear rj4
  have hr := hj4
  clear hj4
  refine j_ic_ne (tgt := 23) (pc' := 15) C dX12_layTrace_12 rfl rfl (fun hc => ?_) (fun hc => ?_)
  · have hr := ifF hc hr
    clear hc
    refine j_iconst (v := -1) (pc' := 24) C dX12_layTrace_23 kI_m1 rfl ?_
    have hr := Option.some.inj hr
    subst hr
    exact j_lv [0] rfl kj4
  · have hr := ifT hc hr
    clear hc
    refine j_aload_n (q := 0) (pc' := 16) C dX12_layTrace_15 rfl rfl rfl ?_
    refine j_iconst (v := -1) (pc' := 17) C dX12_layTrace_16 kI_m1 rfl ?_
    obtain ⟨z19, hz19, hr⟩ := ob hr
    obtain ⟨x20, hx20, hr⟩ := ob hr
    obtain ⟨fhz19, hz19⟩ := rcv_sp hz19
    refine j_callV (ci := 9) (As := [.int (-1)]) (rest := []) (st1 := [.int x20]) (pc' := 20) C ⟨wm_1731, wm_75⟩ rfl hz19 (c_X12_nextLine (nx := nx) hx20) yw_X12_nextLine wm_1729 rfl rfl (by decide) ⟨by decide, by decide⟩ dX12_layTrace_17 rfl rfl ?_
    refine j_goto (tgt := 24) C dX12_layTrace_20 rfl ?_
    have hr := Option.some.inj hr
    subst hr
    exact j_lv [0] rfl kj4
def m_X12_ofWay (ce : Ce) (this : Nat) (p1 : Int32) (p2 : Int32) : Option (Int32) :=
  if p1 = (-1) then
    (gI ce 9 28 this).bind fun x16 =>
    some x16
  else
    (gI ce 9 28 this).bind fun x1 =>
    (m_X12_isIn p1 0 (x1 - 1)).bind fun x2 =>
    if x2 = 0 then
      some (-2)
    else
      (m_X12_isIn p2 0 1).bind fun x3 =>
      if x3 = 0 then
        some (-2)
      else
        if p2 = 0 then
          (gA ce 9 27 this).bind fun x14 =>
          (aI ce x14 p1).bind fun x15 =>
          some x15
        else
          (it (fun s4 =>
            if 4 ≤ s4 then
              some (Sum.inr (Sum.inr ()))
            else
              (gI ce 9 28 this).bind fun x7 =>
              if x7 ≤ (p1 + 1) then
                some (Sum.inr (Sum.inr ()))
              else
                (gA ce 9 27 this).bind fun x8 =>
                (aI ce x8 p1).bind fun x9 =>
                (rcv ce 9 this).bind fun z10 =>
                (m_X12_succOf ce this x9 s4).bind fun x11 =>
                (gA ce 9 27 this).bind fun x12 =>
                (aI ce x12 (p1 + 1)).bind fun x13 =>
                if x11 = x13 then
                  some (Sum.inr (Sum.inl s4))
                else
                  some (Sum.inl (s4 + 1))
          ) FU 0).bind fun o5 =>
          Sum.elim (fun wo5 => some wo5) (fun vo5 =>
            some (-1)
          ) o5
set_option maxRecDepth 100000 in
set_option maxHeartbeats 4000000 in
theorem c_X12_ofWay {nx : Nat} {ce : Ce} {this : Nat} {p1 : Int32} {p2 : Int32} {q : Int32} (hr : m_X12_ofWay ce this p1 p2 = some q) : Ct yX12_ofWay cX12_ofWay 4 (some .int) 1 22 0 0 [.ref this, .int p1, .int p2] nx ce (some (.int q)) ce := by
  unfold m_X12_ofWay at hr
  refine ct_of (by decide) (by decide) ?_
  intro G C hq hret hin
  show Jd G 0 0 nx ce 0 [(0, .ref this), (1, .int p1), (2, .int p2)] []
  refine j_iload_n (q := 1) (pc' := 1) C dX12_ofWay_0 rfl rfl rfl ?_
  refine j_iconst (v := -1) (pc' := 2) C dX12_ofWay_1 kI_m1 rfl ?_
  refine j_ic_ne (tgt := 10) (pc' := 5) C dX12_ofWay_2 rfl rfl (fun hc => ?_) (fun hc => ?_)
  · have hr := ifF hc hr
    clear hc
    refine j_iload_n (q := 1) (pc' := 11) C dX12_ofWay_10 rfl rfl rfl ?_
    refine j_iconst (v := 0) (pc' := 12) C dX12_ofWay_11 kI_0 rfl ?_
    refine j_aload_n (q := 0) (pc' := 13) C dX12_ofWay_12 rfl rfl rfl ?_
    obtain ⟨x1, hx1, hr⟩ := ob hr
    refine j_getI (pc' := 16) C dX12_ofWay_13 fl_X12_378 hx1 rfl ?_
    refine j_iconst (v := 1) (pc' := 17) C dX12_ofWay_16 kI_1 rfl ?_
    refine j_isub (pc' := 18) C dX12_ofWay_17 rfl ?_
    obtain ⟨x2, hx2, hr⟩ := ob hr
    refine j_callS (As := [.int p1, .int 0, .int (x1 - 1)]) (rest := []) (st1 := [.int x2]) (pc' := 21) C wm_1519 (c_X12_isIn (nx := nx) (ce := ce) hx2) yw_X12_isIn wm_1518 rfl rfl (by decide) ⟨by decide, by decide⟩ dX12_ofWay_18 rfl rfl ?_
    refine j_if_eq (tgt := 33) (pc' := 24) C dX12_ofWay_21 rfl rfl (fun hc => ?_) (fun hc => ?_)
    · have hr := ifT hc hr
      clear hc
      refine j_bipush (v := -2) (pc' := 35) C dX12_ofWay_33 kB_m2 rfl ?_
      have hr := Option.some.inj hr
      subst hr
      exact j_iret C hq hret dX12_ofWay_35
    · have hr := ifF hc hr
      clear hc
      refine j_iload_n (q := 2) (pc' := 25) C dX12_ofWay_24 rfl rfl rfl ?_
      refine j_iconst (v := 0) (pc' := 26) C dX12_ofWay_25 kI_0 rfl ?_
      refine j_iconst (v := 1) (pc' := 27) C dX12_ofWay_26 kI_1 rfl ?_
      obtain ⟨x3, hx3, hr⟩ := ob hr
      refine j_callS (As := [.int p2, .int 0, .int 1]) (rest := []) (st1 := [.int x3]) (pc' := 30) C wm_1519 (c_X12_isIn (nx := nx) (ce := ce) hx3) yw_X12_isIn wm_1518 rfl rfl (by decide) ⟨by decide, by decide⟩ dX12_ofWay_27 rfl rfl ?_
      refine j_if_ne (tgt := 36) (pc' := 33) C dX12_ofWay_30 rfl rfl (fun hc => ?_) (fun hc => ?_)
      · have hr := ifF hc hr
        clear hc
        refine j_iload_n (q := 2) (pc' := 37) C dX12_ofWay_36 rfl rfl rfl ?_
        refine j_if_ne (tgt := 47) (pc' := 40) C dX12_ofWay_37 rfl rfl (fun hc => ?_) (fun hc => ?_)
        · have hr := ifF hc hr
          clear hc
          refine j_iconst (v := 0) (pc' := 48) C dX12_ofWay_47 kI_0 rfl ?_
          refine j_istore_n (lv' := [(3, .int 0), (0, .ref this), (1, .int p1), (2, .int p2)]) (pc' := 49) C dX12_ofWay_48 rfl (by decide) rfl rfl ?_
          obtain ⟨o5, ho5, ro5⟩ := ob hr
          have ko5 : ∀ vo5, o5 = Sum.inr vo5 → Jd G 0 0 nx ce 94 [] [] := by
            intro vo5 eo5
            rw [eo5] at ro5
            have hr := elR ro5
            refine j_iconst (v := -1) (pc' := 95) C dX12_ofWay_94 kI_m1 rfl ?_
            have hr := Option.some.inj hr
            subst hr
            exact j_iret C hq hret dX12_ofWay_95
          refine j_lv [1, 2, 0] rfl (it_J (J := (fun s4 => Jd G 0 0 nx ce 49 [(0, .ref this), (1, .int p1), (3, .int s4)] [])) ?_ ho5)
          clear ho5
          intro s4 r6 hr is4 es4
          refine j_iload_n (q := 2) (pc' := 50) C dX12_ofWay_49 rfl rfl rfl ?_
          refine j_iconst (v := 4) (pc' := 51) C dX12_ofWay_50 kI_4 rfl ?_
          refine j_ic_ge (tgt := 94) (pc' := 54) C dX12_ofWay_51 rfl rfl (fun hc => ?_) (fun hc => ?_)
          · have hr := ifT hc hr
            clear hc
            have hr := es4 _ (Option.some.inj hr).symm
            subst hr
            exact j_lv [] rfl (ko5 _ rfl)
          · have hr := ifF hc hr
            clear hc
            refine j_iload_n (q := 1) (pc' := 55) C dX12_ofWay_54 rfl rfl rfl ?_
            refine j_iconst (v := 1) (pc' := 56) C dX12_ofWay_55 kI_1 rfl ?_
            refine j_iadd (pc' := 57) C dX12_ofWay_56 rfl ?_
            refine j_aload_n (q := 0) (pc' := 58) C dX12_ofWay_57 rfl rfl rfl ?_
            obtain ⟨x7, hx7, hr⟩ := ob hr
            refine j_getI (pc' := 61) C dX12_ofWay_58 fl_X12_378 hx7 rfl ?_
            refine j_ic_ge (tgt := 94) (pc' := 64) C dX12_ofWay_61 rfl rfl (fun hc => ?_) (fun hc => ?_)
            · have hr := ifT hc hr
              clear hc
              have hr := es4 _ (Option.some.inj hr).symm
              subst hr
              exact j_lv [] rfl (ko5 _ rfl)
            · have hr := ifF hc hr
              clear hc
              refine j_aload_n (q := 0) (pc' := 65) C dX12_ofWay_64 rfl rfl rfl ?_
              refine j_aload_n (q := 0) (pc' := 66) C dX12_ofWay_65 rfl rfl rfl ?_
              obtain ⟨x8, hx8, hr⟩ := ob hr
              refine j_getA (pc' := 69) C dX12_ofWay_66 fl_X12_59 hx8 rfl ?_
              refine j_iload_n (q := 1) (pc' := 70) C dX12_ofWay_69 rfl rfl rfl ?_
              obtain ⟨x9, hx9, hr⟩ := ob hr
              refine j_iald (pc' := 71) C dX12_ofWay_70 hx9 rfl ?_
              refine j_iload_n (q := 2) (pc' := 72) C dX12_ofWay_71 rfl rfl rfl ?_
              obtain ⟨z10, hz10, hr⟩ := ob hr
              obtain ⟨x11, hx11, hr⟩ := ob hr
              obtain ⟨fhz10, hz10⟩ := rcv_sp hz10
              refine j_callV (ci := 9) (As := [.int x9, .int s4]) (rest := []) (st1 := [.int x11]) (pc' := 75) C ⟨wm_1759, wm_82⟩ rfl hz10 (c_X12_succOf (nx := nx) hx11) yw_X12_succOf wm_1757 rfl rfl (by decide) ⟨by decide, by decide⟩ dX12_ofWay_72 rfl rfl ?_
              refine j_aload_n (q := 0) (pc' := 76) C dX12_ofWay_75 rfl rfl rfl ?_
              obtain ⟨x12, hx12, hr⟩ := ob hr
              refine j_getA (pc' := 79) C dX12_ofWay_76 fl_X12_59 hx12 rfl ?_
              refine j_iload_n (q := 1) (pc' := 80) C dX12_ofWay_79 rfl rfl rfl ?_
              refine j_iconst (v := 1) (pc' := 81) C dX12_ofWay_80 kI_1 rfl ?_
              refine j_iadd (pc' := 82) C dX12_ofWay_81 rfl ?_
              obtain ⟨x13, hx13, hr⟩ := ob hr
              refine j_iald (pc' := 83) C dX12_ofWay_82 hx13 rfl ?_
              refine j_ic_ne (tgt := 88) (pc' := 86) C dX12_ofWay_83 rfl rfl (fun hc => ?_) (fun hc => ?_)
              · have hr := ifF hc hr
                clear hc
                refine j_iinc (q := 2) (v := 1) (lv' := [(3, .int (s4 + 1)), (0, .ref this), (1, .int p1)]) (pc' := 91) C dX12_ofWay_88 rfl kI_1 (by decide) rfl rfl ?_
                refine j_goto (tgt := 49) C dX12_ofWay_91 rfl ?_
                exact j_lv [1, 2, 0] rfl (is4 _ (Option.some.inj hr).symm)
              · have hr := ifT hc hr
                clear hc
                refine j_iload_n (q := 2) (pc' := 87) C dX12_ofWay_86 rfl rfl rfl ?_
                have hr := es4 _ (Option.some.inj hr).symm
                subst hr
                have hr := elL ro5
                have hr := Option.some.inj hr
                subst hr
                exact j_iret C hq hret dX12_ofWay_87
        · have hr := ifT hc hr
          clear hc
          refine j_aload_n (q := 0) (pc' := 41) C dX12_ofWay_40 rfl rfl rfl ?_
          obtain ⟨x14, hx14, hr⟩ := ob hr
          refine j_getA (pc' := 44) C dX12_ofWay_41 fl_X12_59 hx14 rfl ?_
          refine j_iload_n (q := 1) (pc' := 45) C dX12_ofWay_44 rfl rfl rfl ?_
          obtain ⟨x15, hx15, hr⟩ := ob hr
          refine j_iald (pc' := 46) C dX12_ofWay_45 hx15 rfl ?_
          have hr := Option.some.inj hr
          subst hr
          exact j_iret C hq hret dX12_ofWay_46
      · have hr := ifT hc hr
        clear hc
        refine j_bipush (v := -2) (pc' := 35) C dX12_ofWay_33 kB_m2 rfl ?_
        have hr := Option.some.inj hr
        subst hr
        exact j_iret C hq hret dX12_ofWay_35
  · have hr := ifT hc hr
    clear hc
    refine j_aload_n (q := 0) (pc' := 6) C dX12_ofWay_5 rfl rfl rfl ?_
    obtain ⟨x16, hx16, hr⟩ := ob hr
    refine j_getI (pc' := 9) C dX12_ofWay_6 fl_X12_378 hx16 rfl ?_
    have hr := Option.some.inj hr
    subst hr
    exact j_iret C hq hret dX12_ofWay_9
def m_X12_trace (ce : Ce) (this : Nat) (p1 : Int32) (p2 : Int32) : Option (Int32 × Ce) :=
  (rcv ce 9 this).bind fun z1 =>
  (m_X12_layTrace ce this).bind fun q2 =>
  (rcv q2.2 9 this).bind fun z3 =>
  (m_X12_ofWay q2.2 this p1 p2).bind fun x4 =>
  some (x4, q2.2)
set_option maxRecDepth 100000 in
set_option maxHeartbeats 4000000 in
theorem c_X12_trace {nx : Nat} {ce : Ce} {this : Nat} {p1 : Int32} {p2 : Int32} {q : Int32 × Ce} (hr : m_X12_trace ce this p1 p2 = some q) : Ct yX12_trace cX12_trace 3 (some .int) 4 89 0 0 [.ref this, .int p1, .int p2] nx ce (some (.int q.1)) q.2 := by
  unfold m_X12_trace at hr
  refine ct_of (by decide) (by decide) ?_
  intro G C hq hret hin
  show Jd G 0 0 nx ce 0 [(0, .ref this), (1, .int p1), (2, .int p2)] []
  refine j_aload_n (q := 0) (pc' := 1) C dX12_trace_0 rfl rfl rfl ?_
  obtain ⟨z1, hz1, hr⟩ := ob hr
  obtain ⟨q2, hq2, hr⟩ := ob hr
  obtain ⟨fhz1, hz1⟩ := rcv_sp hz1
  refine j_callV (ci := 9) (As := []) (rest := []) (st1 := []) (pc' := 4) C ⟨wm_1896, wm_101⟩ rfl hz1 (c_X12_layTrace (nx := nx) hq2) yw_X12_layTrace wm_1894 rfl rfl (by decide) ⟨by decide, by decide⟩ dX12_trace_1 rfl rfl ?_
  refine j_aload_n (q := 0) (pc' := 5) C dX12_trace_4 rfl rfl rfl ?_
  refine j_iload_n (q := 1) (pc' := 6) C dX12_trace_5 rfl rfl rfl ?_
  refine j_iload_n (q := 2) (pc' := 7) C dX12_trace_6 rfl rfl rfl ?_
  obtain ⟨z3, hz3, hr⟩ := ob hr
  obtain ⟨x4, hx4, hr⟩ := ob hr
  obtain ⟨fhz3, hz3⟩ := rcv_sp hz3
  refine j_callV (ci := 9) (As := [.int p1, .int p2]) (rest := []) (st1 := [.int x4]) (pc' := 10) C ⟨wm_1904, wm_103⟩ rfl hz3 (c_X12_ofWay (nx := nx) hx4) yw_X12_ofWay wm_1902 rfl rfl (by decide) ⟨by decide, by decide⟩ dX12_trace_7 rfl rfl ?_
  have hr := Option.some.inj hr
  subst hr
  exact j_iret C hq hret dX12_trace_10
def m_X12_addJudged (ce : Ce) (this : Nat) (p1 : Int32) (p2 : Int32) : Option (Unit × Ce) :=
  (gA ce 9 29 this).bind fun x1 =>
  (gI ce 9 31 this).bind fun x2 =>
  (sI ce x1 x2 p1).bind fun c3 =>
  (gA c3 9 30 this).bind fun x4 =>
  (gI c3 9 31 this).bind fun x5 =>
  (sI c3 x4 x5 p2).bind fun c6 =>
  (gI c6 9 31 this).bind fun x7 =>
  (pV c6 9 31 this (.int (x7 + 1))).bind fun c8 =>
  some ((), c8)
set_option maxRecDepth 100000 in
set_option maxHeartbeats 4000000 in
theorem c_X12_addJudged {nx : Nat} {ce : Ce} {this : Nat} {p1 : Int32} {p2 : Int32} {q : Unit × Ce} (hr : m_X12_addJudged ce this p1 p2 = some q) : Ct yX12_addJudged cX12_addJudged 3 none 0 0 0 0 [.ref this, .int p1, .int p2] nx ce none q.2 := by
  unfold m_X12_addJudged at hr
  refine ct_of (by decide) (by decide) ?_
  intro G C hq hret hin
  show Jd G 0 0 nx ce 0 [(0, .ref this), (1, .int p1), (2, .int p2)] []
  refine j_aload_n (q := 0) (pc' := 1) C dX12_addJudged_0 rfl rfl rfl ?_
  obtain ⟨x1, hx1, hr⟩ := ob hr
  refine j_getA (pc' := 4) C dX12_addJudged_1 fl_X12_62 hx1 rfl ?_
  refine j_aload_n (q := 0) (pc' := 5) C dX12_addJudged_4 rfl rfl rfl ?_
  obtain ⟨x2, hx2, hr⟩ := ob hr
  refine j_getI (pc' := 8) C dX12_addJudged_5 fl_X12_390 hx2 rfl ?_
  refine j_iload_n (q := 1) (pc' := 9) C dX12_addJudged_8 rfl rfl rfl ?_
  obtain ⟨c3, hc3, hr⟩ := ob hr
  refine j_iast (pc' := 10) C dX12_addJudged_9 hc3 rfl ?_
  refine j_aload_n (q := 0) (pc' := 11) C dX12_addJudged_10 rfl rfl rfl ?_
  obtain ⟨x4, hx4, hr⟩ := ob hr
  refine j_getA (pc' := 14) C dX12_addJudged_11 fl_X12_65 hx4 rfl ?_
  refine j_aload_n (q := 0) (pc' := 15) C dX12_addJudged_14 rfl rfl rfl ?_
  obtain ⟨x5, hx5, hr⟩ := ob hr
  refine j_getI (pc' := 18) C dX12_addJudged_15 fl_X12_390 hx5 rfl ?_
  refine j_iload_n (q := 2) (pc' := 19) C dX12_addJudged_18 rfl rfl rfl ?_
  obtain ⟨c6, hc6, hr⟩ := ob hr
  refine j_iast (pc' := 20) C dX12_addJudged_19 hc6 rfl ?_
  refine j_aload_n (q := 0) (pc' := 21) C dX12_addJudged_20 rfl rfl rfl ?_
  refine j_dup (pc' := 22) C dX12_addJudged_21 rfl rfl ?_
  obtain ⟨x7, hx7, hr⟩ := ob hr
  refine j_getI (pc' := 25) C dX12_addJudged_22 fl_X12_390 hx7 rfl ?_
  refine j_iconst (v := 1) (pc' := 26) C dX12_addJudged_25 kI_1 rfl ?_
  refine j_iadd (pc' := 27) C dX12_addJudged_26 rfl ?_
  obtain ⟨c8, hc8, hr⟩ := ob hr
  refine j_put (pc' := 30) C dX12_addJudged_27 fw_X12_390 rfl rfl hc8 rfl ?_
  have hr := Option.some.inj hr
  subst hr
  exact j_vret C hq hret dX12_addJudged_30
def m_X12_layFence (ce : Ce) (this : Nat) : Option (Unit × Ce) :=
  (pV ce 9 31 this (.int 0)).bind fun c1 =>
  (gA c1 9 0 this).bind fun x2 =>
  (aI c1 x2 6).bind fun x3 =>
  (it (fun s4 =>
    (gA s4.2 9 0 this).bind fun x7 =>
    (aI s4.2 x7 4).bind fun x8 =>
    if x8 < s4.1 then
      some (Sum.inr ((), s4.2))
    else
      (gA s4.2 9 0 this).bind fun x9 =>
      (aI s4.2 x9 5).bind fun x10 =>
      if x10 = 3 then
        (it (fun s11 =>
          (gA s11.2 9 0 this).bind fun x14 =>
          (aI s11.2 x14 17).bind fun x15 =>
          if x15 ≤ s11.1 then
            some (Sum.inr ((), s11.2))
          else
            (rcv s11.2 9 this).bind fun z16 =>
            (m_X12_frameOf s11.2 this s11.1).bind fun x17 =>
            if x17 = s4.1 then
              (rcv s11.2 9 this).bind fun z18 =>
              (m_X12_maskOf s11.2 this s11.1).bind fun x19 =>
              (rcv s11.2 9 this).bind fun z20 =>
              (m_X12_bitsOf s11.2 this s11.1).bind fun x21 =>
              (rcv s11.2 9 this).bind fun z22 =>
              (m_X12_addJudged s11.2 this x19 x21).bind fun q23 =>
              some (Sum.inl ((s11.1 + 1), q23.2))
            else
              some (Sum.inl ((s11.1 + 1), s11.2))
        ) FU (0, s4.2)).bind fun o12 =>
        some (Sum.inl ((s4.1 + 1), o12.2))
      else
        some (Sum.inr ((), s4.2))
  ) FU ((x3 + 1), c1)).bind fun o5 =>
  some ((), o5.2)
set_option maxRecDepth 100000 in
set_option maxHeartbeats 4000000 in
theorem c_X12_layFence {nx : Nat} {ce : Ce} {this : Nat} {q : Unit × Ce} (hr : m_X12_layFence ce this = some q) : Ct yX12_layFence cX12_layFence 3 none 1 22 0 0 [.ref this] nx ce none q.2 := by
  unfold m_X12_layFence at hr
  refine ct_of (by decide) (by decide) ?_
  intro G C hq hret hin
  show Jd G 0 0 nx ce 0 [(0, .ref this)] []
  refine j_aload_n (q := 0) (pc' := 1) C dX12_layFence_0 rfl rfl rfl ?_
  refine j_iconst (v := 0) (pc' := 2) C dX12_layFence_1 kI_0 rfl ?_
  obtain ⟨c1, hc1, hr⟩ := ob hr
  refine j_put (pc' := 5) C dX12_layFence_2 fw_X12_390 rfl rfl hc1 rfl ?_
  refine j_aload_n (q := 0) (pc' := 6) C dX12_layFence_5 rfl rfl rfl ?_
  obtain ⟨x2, hx2, hr⟩ := ob hr
  refine j_getA (pc' := 9) C dX12_layFence_6 fl_X12_8 hx2 rfl ?_
  refine j_bipush (v := 6) (pc' := 11) C dX12_layFence_9 kB_6 rfl ?_
  obtain ⟨x3, hx3, hr⟩ := ob hr
  refine j_iald (pc' := 12) C dX12_layFence_11 hx3 rfl ?_
  refine j_iconst (v := 1) (pc' := 13) C dX12_layFence_12 kI_1 rfl ?_
  refine j_iadd (pc' := 14) C dX12_layFence_13 rfl ?_
  refine j_istore_n (lv' := [(1, .int (x3 + 1)), (0, .ref this)]) (pc' := 15) C dX12_layFence_14 rfl (by decide) rfl rfl ?_
  obtain ⟨o5, ho5, ro5⟩ := ob hr
  have ko5 : Jd G 0 0 nx o5.2 83 [] [] := by
    have hr := ro5
    have hr := Option.some.inj hr
    subst hr
    exact j_vret C hq hret dX12_layFence_83
  refine j_lv [1, 0] rfl (it_J (J := (fun s4 => Jd G 0 0 nx s4.2 15 [(0, .ref this), (1, .int s4.1)] [])) ?_ ho5)
  clear ho5
  intro s4 r6 hr is4 es4
  refine j_iload_n (q := 1) (pc' := 16) C dX12_layFence_15 rfl rfl rfl ?_
  refine j_aload_n (q := 0) (pc' := 17) C dX12_layFence_16 rfl rfl rfl ?_
  obtain ⟨x7, hx7, hr⟩ := ob hr
  refine j_getA (pc' := 20) C dX12_layFence_17 fl_X12_8 hx7 rfl ?_
  refine j_iconst (v := 4) (pc' := 21) C dX12_layFence_20 kI_4 rfl ?_
  obtain ⟨x8, hx8, hr⟩ := ob hr
  refine j_iald (pc' := 22) C dX12_layFence_21 hx8 rfl ?_
  refine j_ic_gt (tgt := 83) (pc' := 25) C dX12_layFence_22 rfl rfl (fun hc => ?_) (fun hc => ?_)
  · have hr := ifT hc hr
    clear hc
    have hr := es4 _ (Option.some.inj hr).symm
    subst hr
    exact j_lv [] rfl ko5
  · have hr := ifF hc hr
    clear hc
    refine j_aload_n (q := 0) (pc' := 26) C dX12_layFence_25 rfl rfl rfl ?_
    obtain ⟨x9, hx9, hr⟩ := ob hr
    refine j_getA (pc' := 29) C dX12_layFence_26 fl_X12_8 hx9 rfl ?_
    refine j_iconst (v := 5) (pc' := 30) C dX12_layFence_29 kI_5 rfl ?_
    obtain ⟨x10, hx10, hr⟩ := ob hr
    refine j_iald (pc' := 31) C dX12_layFence_30 hx10 rfl ?_
    refine j_iconst (v := 3) (pc' := 32) C dX12_layFence_31 kI_3 rfl ?_
    refine j_ic_ne (tgt := 83) (pc' := 35) C dX12_layFence_32 rfl rfl (fun hc => ?_) (fun hc => ?_)
    · have hr := ifF hc hr
      clear hc
      have hr := es4 _ (Option.some.inj hr).symm
      subst hr
      exact j_lv [] rfl ko5
    · have hr := ifT hc hr
      clear hc
      refine j_iconst (v := 0) (pc' := 36) C dX12_layFence_35 kI_0 rfl ?_
      refine j_istore_n (lv' := [(2, .int 0), (0, .ref this), (1, .int s4.1)]) (pc' := 37) C dX12_layFence_36 rfl (by decide) rfl rfl ?_
      obtain ⟨o12, ho12, ro12⟩ := ob hr
      have ko12 : Jd G 0 0 nx o12.2 77 [(0, .ref this), (1, .int s4.1)] [] := by
        have hr := ro12
        refine j_iinc (q := 1) (v := 1) (lv' := [(1, .int (s4.1 + 1)), (0, .ref this)]) (pc' := 80) C dX12_layFence_77 rfl kI_1 (by decide) rfl rfl ?_
        refine j_goto (tgt := 15) C dX12_layFence_80 rfl ?_
        exact j_lv [1, 0] rfl (is4 _ (Option.some.inj hr).symm)
      refine j_lv [1, 2, 0] rfl (it_J (J := (fun s11 => Jd G 0 0 nx s11.2 37 [(0, .ref this), (1, .int s4.1), (2, .int s11.1)] [])) ?_ ho12)
      clear ho12
      intro s11 r13 hr is11 es11
      refine j_iload_n (q := 2) (pc' := 38) C dX12_layFence_37 rfl rfl rfl ?_
      refine j_aload_n (q := 0) (pc' := 39) C dX12_layFence_38 rfl rfl rfl ?_
      obtain ⟨x14, hx14, hr⟩ := ob hr
      refine j_getA (pc' := 42) C dX12_layFence_39 fl_X12_8 hx14 rfl ?_
      refine j_bipush (v := 17) (pc' := 44) C dX12_layFence_42 kB_17 rfl ?_
      obtain ⟨x15, hx15, hr⟩ := ob hr
      refine j_iald (pc' := 45) C dX12_layFence_44 hx15 rfl ?_
      refine j_ic_ge (tgt := 77) (pc' := 48) C dX12_layFence_45 rfl rfl (fun hc => ?_) (fun hc => ?_)
      · have hr := ifT hc hr
        clear hc
        have hr := es11 _ (Option.some.inj hr).symm
        subst hr
        exact j_lv [0, 1] rfl ko12
      · have hr := ifF hc hr
        clear hc
        refine j_aload_n (q := 0) (pc' := 49) C dX12_layFence_48 rfl rfl rfl ?_
        refine j_iload_n (q := 2) (pc' := 50) C dX12_layFence_49 rfl rfl rfl ?_
        obtain ⟨z16, hz16, hr⟩ := ob hr
        obtain ⟨x17, hx17, hr⟩ := ob hr
        obtain ⟨fhz16, hz16⟩ := rcv_sp hz16
        refine j_callV (ci := 9) (As := [.int s11.1]) (rest := []) (st1 := [.int x17]) (pc' := 53) C ⟨wm_1655, wm_60⟩ rfl hz16 (c_X12_frameOf (nx := nx) hx17) yw_X12_frameOf wm_1653 rfl rfl (by decide) ⟨by decide, by decide⟩ dX12_layFence_50 rfl rfl ?_
        refine j_iload_n (q := 1) (pc' := 54) C dX12_layFence_53 rfl rfl rfl ?_
        refine j_ic_ne (tgt := 71) (pc' := 57) C dX12_layFence_54 rfl rfl (fun hc => ?_) (fun hc => ?_)
        · have hr := ifF hc hr
          clear hc
          refine j_iinc (q := 2) (v := 1) (lv' := [(2, .int (s11.1 + 1)), (0, .ref this), (1, .int s4.1)]) (pc' := 74) C dX12_layFence_71 rfl kI_1 (by decide) rfl rfl ?_
          refine j_goto (tgt := 37) C dX12_layFence_74 rfl ?_
          exact j_lv [1, 2, 0] rfl (is11 _ (Option.some.inj hr).symm)
        · have hr := ifT hc hr
          clear hc
          refine j_aload_n (q := 0) (pc' := 58) C dX12_layFence_57 rfl rfl rfl ?_
          refine j_aload_n (q := 0) (pc' := 59) C dX12_layFence_58 rfl rfl rfl ?_
          refine j_iload_n (q := 2) (pc' := 60) C dX12_layFence_59 rfl rfl rfl ?_
          obtain ⟨z18, hz18, hr⟩ := ob hr
          obtain ⟨x19, hx19, hr⟩ := ob hr
          obtain ⟨fhz18, hz18⟩ := rcv_sp hz18
          refine j_callV (ci := 9) (As := [.int s11.1]) (rest := [.ref this]) (st1 := [.int x19, .ref this]) (pc' := 63) C ⟨wm_1708, wm_70⟩ rfl hz18 (c_X12_maskOf (nx := nx) hx19) yw_X12_maskOf wm_1706 rfl rfl (by decide) ⟨by decide, by decide⟩ dX12_layFence_60 rfl rfl ?_
          refine j_aload_n (q := 0) (pc' := 64) C dX12_layFence_63 rfl rfl rfl ?_
          refine j_iload_n (q := 2) (pc' := 65) C dX12_layFence_64 rfl rfl rfl ?_
          obtain ⟨z20, hz20, hr⟩ := ob hr
          obtain ⟨x21, hx21, hr⟩ := ob hr
          obtain ⟨fhz20, hz20⟩ := rcv_sp hz20
          refine j_callV (ci := 9) (As := [.int s11.1]) (rest := [.int x19, .ref this]) (st1 := [.int x21, .int x19, .ref this]) (pc' := 68) C ⟨wm_1712, wm_71⟩ rfl hz20 (c_X12_bitsOf (nx := nx) hx21) yw_X12_bitsOf wm_1710 rfl rfl (by decide) ⟨by decide, by decide⟩ dX12_layFence_65 rfl rfl ?_
          obtain ⟨z22, hz22, hr⟩ := ob hr
          obtain ⟨q23, hq23, hr⟩ := ob hr
          obtain ⟨fhz22, hz22⟩ := rcv_sp hz22
          refine j_callV (ci := 9) (As := [.int x19, .int x21]) (rest := []) (st1 := []) (pc' := 71) C ⟨wm_1916, wm_105⟩ rfl hz22 (c_X12_addJudged (nx := nx) hq23) yw_X12_addJudged wm_1914 rfl rfl (by decide) ⟨by decide, by decide⟩ dX12_layFence_68 rfl rfl ?_
          refine j_iinc (q := 2) (v := 1) (lv' := [(2, .int (s11.1 + 1)), (0, .ref this), (1, .int s4.1)]) (pc' := 74) C dX12_layFence_71 rfl kI_1 (by decide) rfl rfl ?_
          refine j_goto (tgt := 37) C dX12_layFence_74 rfl ?_
          exact j_lv [1, 2, 0] rfl (is11 _ (Option.some.inj hr).symm)
def m_X12_fence (ce : Ce) (this : Nat) (p1 : Int32) (p2 : Int32) : Option (Int32 × Ce) :=
  (rcv ce 9 this).bind fun z1 =>
  (m_X12_layFence ce this).bind fun q2 =>
  if p1 = (-1) then
    (gI q2.2 9 31 this).bind fun x10 =>
    some (x10, q2.2)
  else
    (gI q2.2 9 31 this).bind fun x3 =>
    (m_X12_isIn p1 0 (x3 - 1)).bind fun x4 =>
    if x4 = 0 then
      some ((-2), q2.2)
    else
      (m_X12_isIn p2 0 1).bind fun x5 =>
      if x5 = 0 then
        some ((-2), q2.2)
      else
        if p2 = 0 then
          (gA q2.2 9 29 this).bind fun x8 =>
          (aI q2.2 x8 p1).bind fun x9 =>
          some (x9, q2.2)
        else
          (gA q2.2 9 30 this).bind fun x6 =>
          (aI q2.2 x6 p1).bind fun x7 =>
          some (x7, q2.2)
set_option maxRecDepth 100000 in
set_option maxHeartbeats 4000000 in
theorem c_X12_fence {nx : Nat} {ce : Ce} {this : Nat} {p1 : Int32} {p2 : Int32} {q : Int32 × Ce} (hr : m_X12_fence ce this p1 p2 = some q) : Ct yX12_fence cX12_fence 3 (some .int) 2 44 0 0 [.ref this, .int p1, .int p2] nx ce (some (.int q.1)) q.2 := by
  unfold m_X12_fence at hr
  refine ct_of (by decide) (by decide) ?_
  intro G C hq hret hin
  show Jd G 0 0 nx ce 0 [(0, .ref this), (1, .int p1), (2, .int p2)] []
  refine j_aload_n (q := 0) (pc' := 1) C dX12_fence_0 rfl rfl rfl ?_
  obtain ⟨z1, hz1, hr⟩ := ob hr
  obtain ⟨q2, hq2, hr⟩ := ob hr
  obtain ⟨fhz1, hz1⟩ := rcv_sp hz1
  refine j_callV (ci := 9) (As := []) (rest := []) (st1 := []) (pc' := 4) C ⟨wm_1912, wm_104⟩ rfl hz1 (c_X12_layFence (nx := nx) hq2) yw_X12_layFence wm_1910 rfl rfl (by decide) ⟨by decide, by decide⟩ dX12_fence_1 rfl rfl ?_
  refine j_iload_n (q := 1) (pc' := 5) C dX12_fence_4 rfl rfl rfl ?_
  refine j_iconst (v := -1) (pc' := 6) C dX12_fence_5 kI_m1 rfl ?_
  refine j_ic_ne (tgt := 14) (pc' := 9) C dX12_fence_6 rfl rfl (fun hc => ?_) (fun hc => ?_)
  · have hr := ifF hc hr
    clear hc
    refine j_iload_n (q := 1) (pc' := 15) C dX12_fence_14 rfl rfl rfl ?_
    refine j_iconst (v := 0) (pc' := 16) C dX12_fence_15 kI_0 rfl ?_
    refine j_aload_n (q := 0) (pc' := 17) C dX12_fence_16 rfl rfl rfl ?_
    obtain ⟨x3, hx3, hr⟩ := ob hr
    refine j_getI (pc' := 20) C dX12_fence_17 fl_X12_390 hx3 rfl ?_
    refine j_iconst (v := 1) (pc' := 21) C dX12_fence_20 kI_1 rfl ?_
    refine j_isub (pc' := 22) C dX12_fence_21 rfl ?_
    obtain ⟨x4, hx4, hr⟩ := ob hr
    refine j_callS (As := [.int p1, .int 0, .int (x3 - 1)]) (rest := []) (st1 := [.int x4]) (pc' := 25) C wm_1519 (c_X12_isIn (nx := nx) (ce := q2.2) hx4) yw_X12_isIn wm_1518 rfl rfl (by decide) ⟨by decide, by decide⟩ dX12_fence_22 rfl rfl ?_
    refine j_if_eq (tgt := 59) (pc' := 28) C dX12_fence_25 rfl rfl (fun hc => ?_) (fun hc => ?_)
    · have hr := ifT hc hr
      clear hc
      refine j_bipush (v := -2) (pc' := 61) C dX12_fence_59 kB_m2 rfl ?_
      have hr := Option.some.inj hr
      subst hr
      exact j_iret C hq hret dX12_fence_61
    · have hr := ifF hc hr
      clear hc
      refine j_iload_n (q := 2) (pc' := 29) C dX12_fence_28 rfl rfl rfl ?_
      refine j_iconst (v := 0) (pc' := 30) C dX12_fence_29 kI_0 rfl ?_
      refine j_iconst (v := 1) (pc' := 31) C dX12_fence_30 kI_1 rfl ?_
      obtain ⟨x5, hx5, hr⟩ := ob hr
      refine j_callS (As := [.int p2, .int 0, .int 1]) (rest := []) (st1 := [.int x5]) (pc' := 34) C wm_1519 (c_X12_isIn (nx := nx) (ce := q2.2) hx5) yw_X12_isIn wm_1518 rfl rfl (by decide) ⟨by decide, by decide⟩ dX12_fence_31 rfl rfl ?_
      refine j_if_eq (tgt := 59) (pc' := 37) C dX12_fence_34 rfl rfl (fun hc => ?_) (fun hc => ?_)
      · have hr := ifT hc hr
        clear hc
        refine j_bipush (v := -2) (pc' := 61) C dX12_fence_59 kB_m2 rfl ?_
        have hr := Option.some.inj hr
        subst hr
        exact j_iret C hq hret dX12_fence_61
      · have hr := ifF hc hr
        clear hc
        refine j_iload_n (q := 2) (pc' := 38) C dX12_fence_37 rfl rfl rfl ?_
        refine j_if_ne (tgt := 50) (pc' := 41) C dX12_fence_38 rfl rfl (fun hc => ?_) (fun hc => ?_)
        · have hr := ifF hc hr
          clear hc
          refine j_aload_n (q := 0) (pc' := 51) C dX12_fence_50 rfl rfl rfl ?_
          obtain ⟨x6, hx6, hr⟩ := ob hr
          refine j_getA (pc' := 54) C dX12_fence_51 fl_X12_65 hx6 rfl ?_
          refine j_iload_n (q := 1) (pc' := 55) C dX12_fence_54 rfl rfl rfl ?_
          obtain ⟨x7, hx7, hr⟩ := ob hr
          refine j_iald (pc' := 56) C dX12_fence_55 hx7 rfl ?_
          refine j_goto (tgt := 61) C dX12_fence_56 rfl ?_
          have hr := Option.some.inj hr
          subst hr
          exact j_iret C hq hret dX12_fence_61
        · have hr := ifT hc hr
          clear hc
          refine j_aload_n (q := 0) (pc' := 42) C dX12_fence_41 rfl rfl rfl ?_
          obtain ⟨x8, hx8, hr⟩ := ob hr
          refine j_getA (pc' := 45) C dX12_fence_42 fl_X12_62 hx8 rfl ?_
          refine j_iload_n (q := 1) (pc' := 46) C dX12_fence_45 rfl rfl rfl ?_
          obtain ⟨x9, hx9, hr⟩ := ob hr
          refine j_iald (pc' := 47) C dX12_fence_46 hx9 rfl ?_
          refine j_goto (tgt := 61) C dX12_fence_47 rfl ?_
          have hr := Option.some.inj hr
          subst hr
          exact j_iret C hq hret dX12_fence_61
  · have hr := ifT hc hr
    clear hc
    refine j_aload_n (q := 0) (pc' := 10) C dX12_fence_9 rfl rfl rfl ?_
    obtain ⟨x10, hx10, hr⟩ := ob hr
    refine j_getI (pc' := 13) C dX12_fence_10 fl_X12_390 hx10 rfl ?_
    have hr := Option.some.inj hr
    subst hr
    exact j_iret C hq hret dX12_fence_13
def m_Jxf58ca_isNaN_12338 (p0 : UInt32) : Option (Int32) :=
  if (Op.cmpValue (FP.fcmp p0 p0) .l) = 0 then
    some 0
  else
    some 1
set_option maxRecDepth 100000 in
set_option maxHeartbeats 4000000 in
theorem c_Jxf58ca_isNaN_12338 {nx : Nat} {ce : Ce} {p0 : UInt32} {q : Int32} (hr : m_Jxf58ca_isNaN_12338 p0 = some q) : Ct yJxf58ca_isNaN_12338 cJxf58ca_isNaN_12338 1 (some .boolean) 0 0 0 0 [.float p0] nx ce (some (.int q)) ce := by
  unfold m_Jxf58ca_isNaN_12338 at hr
  refine ct_of (by decide) (by decide) ?_
  intro G C hq hret hin
  show Jd G 0 0 nx ce 0 [(0, .float p0)] []
  refine j_fload_n (q := 0) (pc' := 1) C dJxf58ca_isNaN_12338_0 rfl rfl rfl ?_
  refine j_fload_n (q := 0) (pc' := 2) C dJxf58ca_isNaN_12338_1 rfl rfl rfl ?_
  refine j_fcmp (pc' := 3) C dJxf58ca_isNaN_12338_2 rfl ?_
  refine j_if_eq (tgt := 10) (pc' := 6) C dJxf58ca_isNaN_12338_3 rfl rfl (fun hc => ?_) (fun hc => ?_)
  · have hr := ifT hc hr
    clear hc
    refine j_iconst (v := 0) (pc' := 11) C dJxf58ca_isNaN_12338_10 kI_0 rfl ?_
    have hr := Option.some.inj hr
    subst hr
    exact j_zret C hq hret rfl dJxf58ca_isNaN_12338_11
  · have hr := ifF hc hr
    clear hc
    refine j_iconst (v := 1) (pc' := 7) C dJxf58ca_isNaN_12338_6 kI_1 rfl ?_
    refine j_goto (tgt := 11) C dJxf58ca_isNaN_12338_7 rfl ?_
    have hr := Option.some.inj hr
    subst hr
    exact j_zret C hq hret rfl dJxf58ca_isNaN_12338_11
def m_X12_order (ce : Ce) (this : Nat) (p1 : Int32) : Option (Int32 × Ce) :=
  (rcv ce 9 this).bind fun z1 =>
  (m_X12_layOrder ce this).bind fun q2 =>
  (gA q2.2 9 0 this).bind fun x3 =>
  (aI q2.2 x3 3).bind fun x4 =>
  (m_X12_isIn p1 0 (x4 - 1)).bind fun x5 =>
  if x5 = 0 then
    some ((-1), q2.2)
  else
    (gA q2.2 9 23 this).bind fun x6 =>
    (aI q2.2 x6 p1).bind fun x7 =>
    some (x7, q2.2)
set_option maxRecDepth 100000 in
set_option maxHeartbeats 4000000 in
theorem c_X12_order {nx : Nat} {ce : Ce} {this : Nat} {p1 : Int32} {q : Int32 × Ce} (hr : m_X12_order ce this p1 = some q) : Ct yX12_order cX12_order 2 (some .int) 2 44 0 0 [.ref this, .int p1] nx ce (some (.int q.1)) q.2 := by
  unfold m_X12_order at hr
  refine ct_of (by decide) (by decide) ?_
  intro G C hq hret hin
  show Jd G 0 0 nx ce 0 [(0, .ref this), (1, .int p1)] []
  refine j_aload_n (q := 0) (pc' := 1) C dX12_order_0 rfl rfl rfl ?_
  obtain ⟨z1, hz1, hr⟩ := ob hr
  obtain ⟨q2, hq2, hr⟩ := ob hr
  obtain ⟨fhz1, hz1⟩ := rcv_sp hz1
  refine j_callV (ci := 9) (As := []) (rest := []) (st1 := []) (pc' := 4) C ⟨wm_1771, wm_85⟩ rfl hz1 (c_X12_layOrder (nx := nx) hq2) yw_X12_layOrder wm_1769 rfl rfl (by decide) ⟨by decide, by decide⟩ dX12_order_1 rfl rfl ?_
  refine j_iload_n (q := 1) (pc' := 5) C dX12_order_4 rfl rfl rfl ?_
  refine j_iconst (v := 0) (pc' := 6) C dX12_order_5 kI_0 rfl ?_
  refine j_aload_n (q := 0) (pc' := 7) C dX12_order_6 rfl rfl rfl ?_
  obtain ⟨x3, hx3, hr⟩ := ob hr
  refine j_getA (pc' := 10) C dX12_order_7 fl_X12_8 hx3 rfl ?_
  refine j_iconst (v := 3) (pc' := 11) C dX12_order_10 kI_3 rfl ?_
  obtain ⟨x4, hx4, hr⟩ := ob hr
  refine j_iald (pc' := 12) C dX12_order_11 hx4 rfl ?_
  refine j_iconst (v := 1) (pc' := 13) C dX12_order_12 kI_1 rfl ?_
  refine j_isub (pc' := 14) C dX12_order_13 rfl ?_
  obtain ⟨x5, hx5, hr⟩ := ob hr
  refine j_callS (As := [.int p1, .int 0, .int (x4 - 1)]) (rest := []) (st1 := [.int x5]) (pc' := 17) C wm_1519 (c_X12_isIn (nx := nx) (ce := q2.2) hx5) yw_X12_isIn wm_1518 rfl rfl (by decide) ⟨by decide, by decide⟩ dX12_order_14 rfl rfl ?_
  refine j_if_eq (tgt := 29) (pc' := 20) C dX12_order_17 rfl rfl (fun hc => ?_) (fun hc => ?_)
  · have hr := ifT hc hr
    clear hc
    refine j_iconst (v := -1) (pc' := 30) C dX12_order_29 kI_m1 rfl ?_
    have hr := Option.some.inj hr
    subst hr
    exact j_iret C hq hret dX12_order_30
  · have hr := ifF hc hr
    clear hc
    refine j_aload_n (q := 0) (pc' := 21) C dX12_order_20 rfl rfl rfl ?_
    obtain ⟨x6, hx6, hr⟩ := ob hr
    refine j_getA (pc' := 24) C dX12_order_21 fl_X12_47 hx6 rfl ?_
    refine j_iload_n (q := 1) (pc' := 25) C dX12_order_24 rfl rfl rfl ?_
    obtain ⟨x7, hx7, hr⟩ := ob hr
    refine j_iald (pc' := 26) C dX12_order_25 hx7 rfl ?_
    refine j_goto (tgt := 30) C dX12_order_26 rfl ?_
    have hr := Option.some.inj hr
    subst hr
    exact j_iret C hq hret dX12_order_30
def m_X12_holds (ce : Ce) (this : Nat) (p1 : Int32) (p2 : Int32) (p3 : Int32) : Option (Int32) :=
  (rcv ce 9 this).bind fun z1 =>
  (m_X12_isMask ce this p1 p2).bind fun x2 =>
  if x2 = 0 then
    some 0
  else
    (rcv ce 9 this).bind fun z3 =>
    (m_X12_isFrame ce this p3).bind fun x4 =>
    if x4 = 0 then
      some 0
    else
      (rcv ce 9 this).bind fun z5 =>
      (m_X12_doesHold ce this p1 p2 p3).bind fun x6 =>
      if x6 = 0 then
        some 0
      else
        some 1
set_option maxRecDepth 100000 in
set_option maxHeartbeats 4000000 in
theorem c_X12_holds {nx : Nat} {ce : Ce} {this : Nat} {p1 : Int32} {p2 : Int32} {p3 : Int32} {q : Int32} (hr : m_X12_holds ce this p1 p2 p3 = some q) : Ct yX12_holds cX12_holds 4 (some .boolean) 6 133 0 0 [.ref this, .int p1, .int p2, .int p3] nx ce (some (.int q)) ce := by
  unfold m_X12_holds at hr
  refine ct_of (by decide) (by decide) ?_
  intro G C hq hret hin
  show Jd G 0 0 nx ce 0 [(0, .ref this), (1, .int p1), (2, .int p2), (3, .int p3)] []
  refine j_aload_n (q := 0) (pc' := 1) C dX12_holds_0 rfl rfl rfl ?_
  refine j_iload_n (q := 1) (pc' := 2) C dX12_holds_1 rfl rfl rfl ?_
  refine j_iload_n (q := 2) (pc' := 3) C dX12_holds_2 rfl rfl rfl ?_
  obtain ⟨z1, hz1, hr⟩ := ob hr
  obtain ⟨x2, hx2, hr⟩ := ob hr
  obtain ⟨fhz1, hz1⟩ := rcv_sp hz1
  refine j_callV (ci := 9) (As := [.int p1, .int p2]) (rest := []) (st1 := [.int x2]) (pc' := 6) C ⟨wm_1821, wm_95⟩ rfl hz1 (c_X12_isMask (nx := nx) hx2) yw_X12_isMask wm_1819 rfl rfl (by decide) ⟨by decide, by decide⟩ dX12_holds_3 rfl rfl ?_
  refine j_if_eq (tgt := 31) (pc' := 9) C dX12_holds_6 rfl rfl (fun hc => ?_) (fun hc => ?_)
  · have hr := ifT hc hr
    clear hc
    refine j_iconst (v := 0) (pc' := 32) C dX12_holds_31 kI_0 rfl ?_
    have hr := Option.some.inj hr
    subst hr
    exact j_zret C hq hret rfl dX12_holds_32
  · have hr := ifF hc hr
    clear hc
    refine j_aload_n (q := 0) (pc' := 10) C dX12_holds_9 rfl rfl rfl ?_
    refine j_iload_n (q := 3) (pc' := 11) C dX12_holds_10 rfl rfl rfl ?_
    obtain ⟨z3, hz3, hr⟩ := ob hr
    obtain ⟨x4, hx4, hr⟩ := ob hr
    obtain ⟨fhz3, hz3⟩ := rcv_sp hz3
    refine j_callV (ci := 9) (As := [.int p3]) (rest := []) (st1 := [.int x4]) (pc' := 14) C ⟨wm_1849, wm_97⟩ rfl hz3 (c_X12_isFrame (nx := nx) hx4) yw_X12_isFrame wm_1847 rfl rfl (by decide) ⟨by decide, by decide⟩ dX12_holds_11 rfl rfl ?_
    refine j_if_eq (tgt := 31) (pc' := 17) C dX12_holds_14 rfl rfl (fun hc => ?_) (fun hc => ?_)
    · have hr := ifT hc hr
      clear hc
      refine j_iconst (v := 0) (pc' := 32) C dX12_holds_31 kI_0 rfl ?_
      have hr := Option.some.inj hr
      subst hr
      exact j_zret C hq hret rfl dX12_holds_32
    · have hr := ifF hc hr
      clear hc
      refine j_aload_n (q := 0) (pc' := 18) C dX12_holds_17 rfl rfl rfl ?_
      refine j_iload_n (q := 1) (pc' := 19) C dX12_holds_18 rfl rfl rfl ?_
      refine j_iload_n (q := 2) (pc' := 20) C dX12_holds_19 rfl rfl rfl ?_
      refine j_iload_n (q := 3) (pc' := 21) C dX12_holds_20 rfl rfl rfl ?_
      obtain ⟨z5, hz5, hr⟩ := ob hr
      obtain ⟨x6, hx6, hr⟩ := ob hr
      obtain ⟨fhz5, hz5⟩ := rcv_sp hz5
      refine j_callV (ci := 9) (As := [.int p1, .int p2, .int p3]) (rest := []) (st1 := [.int x6]) (pc' := 24) C ⟨wm_1783, wm_88⟩ rfl hz5 (c_X12_doesHold (nx := nx) hx6) yw_X12_doesHold wm_1781 rfl rfl (by decide) ⟨by decide, by decide⟩ dX12_holds_21 rfl rfl ?_
      refine j_if_eq (tgt := 31) (pc' := 27) C dX12_holds_24 rfl rfl (fun hc => ?_) (fun hc => ?_)
      · have hr := ifT hc hr
        clear hc
        refine j_iconst (v := 0) (pc' := 32) C dX12_holds_31 kI_0 rfl ?_
        have hr := Option.some.inj hr
        subst hr
        exact j_zret C hq hret rfl dX12_holds_32
      · have hr := ifF hc hr
        clear hc
        refine j_iconst (v := 1) (pc' := 28) C dX12_holds_27 kI_1 rfl ?_
        refine j_goto (tgt := 32) C dX12_holds_28 rfl ?_
        have hr := Option.some.inj hr
        subst hr
        exact j_zret C hq hret rfl dX12_holds_32
def m_X12_widened (ce : Ce) (this : Nat) (p1 : Int32) (p2 : Int32) : Option (Int32 × Ce) :=
  (rcv ce 9 this).bind fun z1 =>
  (m_X12_isState ce this p1).bind fun x2 =>
  if x2 = 0 then
    some ((-1), ce)
  else
    (gA ce 9 0 this).bind fun x3 =>
    (aI ce x3 4).bind fun x4 =>
    (m_X12_isIn p2 1 x4).bind fun x5 =>
    if x5 = 0 then
      some ((-1), ce)
    else
      (rcv ce 9 this).bind fun z6 =>
      (m_X12_starts ce this).bind fun x7 =>
      (m_X12_has x7 p1).bind fun x8 =>
      if x8 = 0 then
        (rcv ce 9 this).bind fun z9 =>
        (m_X12_states ce this).bind fun x10 =>
        (rcv ce 9 this).bind fun z11 =>
        (m_X12_doesHold ce this (x10 - 1) p1 (p2 - 1)).bind fun x12 =>
        if x12 = 0 then
          some ((-1), ce)
        else
          (gA ce 9 0 this).bind fun x13 =>
          (aI ce x13 12).bind fun x14 =>
          (rcv ce 9 this).bind fun z15 =>
          (m_X12_widen ce this p1 p2).bind fun q16 =>
          (gA q16.2 9 0 this).bind fun x17 =>
          (sI q16.2 x17 12 x14).bind fun c18 =>
          some (((64 * q16.1) + (p1 &&& q16.1)), c18)
      else
        some ((-1), ce)
set_option maxRecDepth 100000 in
set_option maxHeartbeats 4000000 in
theorem c_X12_widened {nx : Nat} {ce : Ce} {this : Nat} {p1 : Int32} {p2 : Int32} {q : Int32 × Ce} (hr : m_X12_widened ce this p1 p2 = some q) : Ct yX12_widened cX12_widened 5 (some .int) 8 181 0 0 [.ref this, .int p1, .int p2] nx ce (some (.int q.1)) q.2 := by
  unfold m_X12_widened at hr
  refine ct_of (by decide) (by decide) ?_
  intro G C hq hret hin
  show Jd G 0 0 nx ce 0 [(0, .ref this), (1, .int p1), (2, .int p2)] []
  refine j_aload_n (q := 0) (pc' := 1) C dX12_widened_0 rfl rfl rfl ?_
  refine j_iload_n (q := 1) (pc' := 2) C dX12_widened_1 rfl rfl rfl ?_
  obtain ⟨z1, hz1, hr⟩ := ob hr
  obtain ⟨x2, hx2, hr⟩ := ob hr
  obtain ⟨fhz1, hz1⟩ := rcv_sp hz1
  refine j_callV (ci := 9) (As := [.int p1]) (rest := []) (st1 := [.int x2]) (pc' := 5) C ⟨wm_1833, wm_96⟩ rfl hz1 (c_X12_isState (nx := nx) hx2) yw_X12_isState wm_1831 rfl rfl (by decide) ⟨by decide, by decide⟩ dX12_widened_2 rfl rfl ?_
  refine j_if_eq (tgt := 50) (pc' := 8) C dX12_widened_5 rfl rfl (fun hc => ?_) (fun hc => ?_)
  · have hr := ifT hc hr
    clear hc
    refine j_iconst (v := -1) (pc' := 51) C dX12_widened_50 kI_m1 rfl ?_
    have hr := Option.some.inj hr
    subst hr
    exact j_iret C hq hret dX12_widened_51
  · have hr := ifF hc hr
    clear hc
    refine j_iload_n (q := 2) (pc' := 9) C dX12_widened_8 rfl rfl rfl ?_
    refine j_iconst (v := 1) (pc' := 10) C dX12_widened_9 kI_1 rfl ?_
    refine j_aload_n (q := 0) (pc' := 11) C dX12_widened_10 rfl rfl rfl ?_
    obtain ⟨x3, hx3, hr⟩ := ob hr
    refine j_getA (pc' := 14) C dX12_widened_11 fl_X12_8 hx3 rfl ?_
    refine j_iconst (v := 4) (pc' := 15) C dX12_widened_14 kI_4 rfl ?_
    obtain ⟨x4, hx4, hr⟩ := ob hr
    refine j_iald (pc' := 16) C dX12_widened_15 hx4 rfl ?_
    obtain ⟨x5, hx5, hr⟩ := ob hr
    refine j_callS (As := [.int p2, .int 1, .int x4]) (rest := []) (st1 := [.int x5]) (pc' := 19) C wm_1519 (c_X12_isIn (nx := nx) (ce := ce) hx5) yw_X12_isIn wm_1518 rfl rfl (by decide) ⟨by decide, by decide⟩ dX12_widened_16 rfl rfl ?_
    refine j_if_eq (tgt := 50) (pc' := 22) C dX12_widened_19 rfl rfl (fun hc => ?_) (fun hc => ?_)
    · have hr := ifT hc hr
      clear hc
      refine j_iconst (v := -1) (pc' := 51) C dX12_widened_50 kI_m1 rfl ?_
      have hr := Option.some.inj hr
      subst hr
      exact j_iret C hq hret dX12_widened_51
    · have hr := ifF hc hr
      clear hc
      refine j_aload_n (q := 0) (pc' := 23) C dX12_widened_22 rfl rfl rfl ?_
      obtain ⟨z6, hz6, hr⟩ := ob hr
      obtain ⟨x7, hx7, hr⟩ := ob hr
      obtain ⟨fhz6, hz6⟩ := rcv_sp hz6
      refine j_callV (ci := 9) (As := []) (rest := []) (st1 := [.long x7]) (pc' := 26) C ⟨wm_1700, wm_68⟩ rfl hz6 (c_X12_starts (nx := nx) hx7) yw_X12_starts wm_1698 rfl rfl (by decide) ⟨by decide, by decide⟩ dX12_widened_23 rfl rfl ?_
      refine j_iload_n (q := 1) (pc' := 27) C dX12_widened_26 rfl rfl rfl ?_
      obtain ⟨x8, hx8, hr⟩ := ob hr
      refine j_callS (As := [.long x7, .int p1]) (rest := []) (st1 := [.int x8]) (pc' := 30) C wm_1635 (c_X12_has (nx := nx) (ce := ce) hx8) yw_X12_has wm_1634 rfl rfl (by decide) ⟨by decide, by decide⟩ dX12_widened_27 rfl rfl ?_
      refine j_if_ne (tgt := 50) (pc' := 33) C dX12_widened_30 rfl rfl (fun hc => ?_) (fun hc => ?_)
      · have hr := ifF hc hr
        clear hc
        refine j_iconst (v := -1) (pc' := 51) C dX12_widened_50 kI_m1 rfl ?_
        have hr := Option.some.inj hr
        subst hr
        exact j_iret C hq hret dX12_widened_51
      · have hr := ifT hc hr
        clear hc
        refine j_aload_n (q := 0) (pc' := 34) C dX12_widened_33 rfl rfl rfl ?_
        refine j_aload_n (q := 0) (pc' := 35) C dX12_widened_34 rfl rfl rfl ?_
        obtain ⟨z9, hz9, hr⟩ := ob hr
        obtain ⟨x10, hx10, hr⟩ := ob hr
        obtain ⟨fhz9, hz9⟩ := rcv_sp hz9
        refine j_callV (ci := 9) (As := []) (rest := [.ref this]) (st1 := [.int x10, .ref this]) (pc' := 38) C ⟨wm_1632, wm_57⟩ rfl hz9 (c_X12_states (nx := nx) hx10) yw_X12_states wm_1630 rfl rfl (by decide) ⟨by decide, by decide⟩ dX12_widened_35 rfl rfl ?_
        refine j_iconst (v := 1) (pc' := 39) C dX12_widened_38 kI_1 rfl ?_
        refine j_isub (pc' := 40) C dX12_widened_39 rfl ?_
        refine j_iload_n (q := 1) (pc' := 41) C dX12_widened_40 rfl rfl rfl ?_
        refine j_iload_n (q := 2) (pc' := 42) C dX12_widened_41 rfl rfl rfl ?_
        refine j_iconst (v := 1) (pc' := 43) C dX12_widened_42 kI_1 rfl ?_
        refine j_isub (pc' := 44) C dX12_widened_43 rfl ?_
        obtain ⟨z11, hz11, hr⟩ := ob hr
        obtain ⟨x12, hx12, hr⟩ := ob hr
        obtain ⟨fhz11, hz11⟩ := rcv_sp hz11
        refine j_callV (ci := 9) (As := [.int (x10 - 1), .int p1, .int (p2 - 1)]) (rest := []) (st1 := [.int x12]) (pc' := 47) C ⟨wm_1783, wm_88⟩ rfl hz11 (c_X12_doesHold (nx := nx) hx12) yw_X12_doesHold wm_1781 rfl rfl (by decide) ⟨by decide, by decide⟩ dX12_widened_44 rfl rfl ?_
        refine j_if_ne (tgt := 52) (pc' := 50) C dX12_widened_47 rfl rfl (fun hc => ?_) (fun hc => ?_)
        · have hr := ifF hc hr
          clear hc
          refine j_aload_n (q := 0) (pc' := 53) C dX12_widened_52 rfl rfl rfl ?_
          obtain ⟨x13, hx13, hr⟩ := ob hr
          refine j_getA (pc' := 56) C dX12_widened_53 fl_X12_8 hx13 rfl ?_
          refine j_bipush (v := 12) (pc' := 58) C dX12_widened_56 kB_12 rfl ?_
          obtain ⟨x14, hx14, hr⟩ := ob hr
          refine j_iald (pc' := 59) C dX12_widened_58 hx14 rfl ?_
          refine j_istore_n (lv' := [(3, .int x14), (0, .ref this), (1, .int p1), (2, .int p2)]) (pc' := 60) C dX12_widened_59 rfl (by decide) rfl rfl ?_
          refine j_aload_n (q := 1) (pc' := 61) C dX12_widened_60 rfl rfl rfl ?_
          refine j_iload_n (q := 2) (pc' := 62) C dX12_widened_61 rfl rfl rfl ?_
          refine j_iload_n (q := 3) (pc' := 63) C dX12_widened_62 rfl rfl rfl ?_
          obtain ⟨z15, hz15, hr⟩ := ob hr
          obtain ⟨q16, hq16, hr⟩ := ob hr
          obtain ⟨fhz15, hz15⟩ := rcv_sp hz15
          refine j_callV (ci := 9) (As := [.int p1, .int p2]) (rest := []) (st1 := [.int q16.1]) (pc' := 66) C ⟨wm_1767, wm_84⟩ rfl hz15 (c_X12_widen (nx := nx) hq16) yw_X12_widen wm_1765 rfl rfl (by decide) ⟨by decide, by decide⟩ dX12_widened_63 rfl rfl ?_
          refine j_istore (lv' := [(4, .int q16.1), (3, .int x14), (0, .ref this), (1, .int p1), (2, .int p2)]) (pc' := 68) C dX12_widened_66 (by decide) rfl rfl ?_
          refine j_aload_n (q := 2) (pc' := 69) C dX12_widened_68 rfl rfl rfl ?_
          obtain ⟨x17, hx17, hr⟩ := ob hr
          refine j_getA (pc' := 72) C dX12_widened_69 fl_X12_8 hx17 rfl ?_
          refine j_bipush (v := 12) (pc' := 74) C dX12_widened_72 kB_12 rfl ?_
          refine j_iload_n (q := 1) (pc' := 75) C dX12_widened_74 rfl rfl rfl ?_
          obtain ⟨c18, hc18, hr⟩ := ob hr
          refine j_iast (pc' := 76) C dX12_widened_75 hc18 rfl ?_
          refine j_bipush (v := 64) (pc' := 78) C dX12_widened_76 kB_64 rfl ?_
          refine j_iload (q := 0) (pc' := 80) C dX12_widened_78 rfl rfl ?_
          refine j_imul (pc' := 81) C dX12_widened_80 rfl ?_
          refine j_iload_n (q := 3) (pc' := 82) C dX12_widened_81 rfl rfl rfl ?_
          refine j_iload (q := 0) (pc' := 84) C dX12_widened_82 rfl rfl ?_
          refine j_iand (pc' := 85) C dX12_widened_84 rfl ?_
          refine j_iadd (pc' := 86) C dX12_widened_85 rfl ?_
          have hr := Option.some.inj hr
          subst hr
          exact j_iret C hq hret dX12_widened_86
        · have hr := ifT hc hr
          clear hc
          refine j_iconst (v := -1) (pc' := 51) C dX12_widened_50 kI_m1 rfl ?_
          have hr := Option.some.inj hr
          subst hr
          exact j_iret C hq hret dX12_widened_51
def m_X12_ahead (ce : Ce) (this : Nat) (p1 : Int32) (p2 : Int32) : Option (Int32) :=
  (rcv ce 9 this).bind fun z1 =>
  (m_X12_isState ce this p1).bind fun x2 =>
  if x2 = 0 then
    some (-1)
  else
    (rcv ce 9 this).bind fun z3 =>
    (m_X12_isFrame ce this p2).bind fun x4 =>
    if x4 = 0 then
      some (-1)
    else
      (rcv ce 9 this).bind fun z5 =>
      (m_X12_openAt ce this p2).bind fun x6 =>
      (rcv ce 9 this).bind fun z7 =>
      (m_X12_aheadOf ce this p1 x6).bind fun x8 =>
      some x8
set_option maxRecDepth 100000 in
set_option maxHeartbeats 4000000 in
theorem c_X12_ahead {nx : Nat} {ce : Ce} {this : Nat} {p1 : Int32} {p2 : Int32} {q : Int32} (hr : m_X12_ahead ce this p1 p2 = some q) : Ct yX12_ahead cX12_ahead 3 (some .int) 5 110 0 0 [.ref this, .int p1, .int p2] nx ce (some (.int q)) ce := by
  unfold m_X12_ahead at hr
  refine ct_of (by decide) (by decide) ?_
  intro G C hq hret hin
  show Jd G 0 0 nx ce 0 [(0, .ref this), (1, .int p1), (2, .int p2)] []
  refine j_aload_n (q := 0) (pc' := 1) C dX12_ahead_0 rfl rfl rfl ?_
  refine j_iload_n (q := 1) (pc' := 2) C dX12_ahead_1 rfl rfl rfl ?_
  obtain ⟨z1, hz1, hr⟩ := ob hr
  obtain ⟨x2, hx2, hr⟩ := ob hr
  obtain ⟨fhz1, hz1⟩ := rcv_sp hz1
  refine j_callV (ci := 9) (As := [.int p1]) (rest := []) (st1 := [.int x2]) (pc' := 5) C ⟨wm_1833, wm_96⟩ rfl hz1 (c_X12_isState (nx := nx) hx2) yw_X12_isState wm_1831 rfl rfl (by decide) ⟨by decide, by decide⟩ dX12_ahead_2 rfl rfl ?_
  refine j_if_eq (tgt := 29) (pc' := 8) C dX12_ahead_5 rfl rfl (fun hc => ?_) (fun hc => ?_)
  · have hr := ifT hc hr
    clear hc
    refine j_iconst (v := -1) (pc' := 30) C dX12_ahead_29 kI_m1 rfl ?_
    have hr := Option.some.inj hr
    subst hr
    exact j_iret C hq hret dX12_ahead_30
  · have hr := ifF hc hr
    clear hc
    refine j_aload_n (q := 0) (pc' := 9) C dX12_ahead_8 rfl rfl rfl ?_
    refine j_iload_n (q := 2) (pc' := 10) C dX12_ahead_9 rfl rfl rfl ?_
    obtain ⟨z3, hz3, hr⟩ := ob hr
    obtain ⟨x4, hx4, hr⟩ := ob hr
    obtain ⟨fhz3, hz3⟩ := rcv_sp hz3
    refine j_callV (ci := 9) (As := [.int p2]) (rest := []) (st1 := [.int x4]) (pc' := 13) C ⟨wm_1849, wm_97⟩ rfl hz3 (c_X12_isFrame (nx := nx) hx4) yw_X12_isFrame wm_1847 rfl rfl (by decide) ⟨by decide, by decide⟩ dX12_ahead_10 rfl rfl ?_
    refine j_if_eq (tgt := 29) (pc' := 16) C dX12_ahead_13 rfl rfl (fun hc => ?_) (fun hc => ?_)
    · have hr := ifT hc hr
      clear hc
      refine j_iconst (v := -1) (pc' := 30) C dX12_ahead_29 kI_m1 rfl ?_
      have hr := Option.some.inj hr
      subst hr
      exact j_iret C hq hret dX12_ahead_30
    · have hr := ifF hc hr
      clear hc
      refine j_aload_n (q := 0) (pc' := 17) C dX12_ahead_16 rfl rfl rfl ?_
      refine j_iload_n (q := 1) (pc' := 18) C dX12_ahead_17 rfl rfl rfl ?_
      refine j_aload_n (q := 0) (pc' := 19) C dX12_ahead_18 rfl rfl rfl ?_
      refine j_iload_n (q := 2) (pc' := 20) C dX12_ahead_19 rfl rfl rfl ?_
      obtain ⟨z5, hz5, hr⟩ := ob hr
      obtain ⟨x6, hx6, hr⟩ := ob hr
      obtain ⟨fhz5, hz5⟩ := rcv_sp hz5
      refine j_callV (ci := 9) (As := [.int p2]) (rest := [.int p1, .ref this]) (st1 := [.long x6, .int p1, .ref this]) (pc' := 23) C ⟨wm_1696, wm_67⟩ rfl hz5 (c_X12_openAt (nx := nx) hx6) yw_X12_openAt wm_1694 rfl rfl (by decide) ⟨by decide, by decide⟩ dX12_ahead_20 rfl rfl ?_
      obtain ⟨z7, hz7, hr⟩ := ob hr
      obtain ⟨x8, hx8, hr⟩ := ob hr
      obtain ⟨fhz7, hz7⟩ := rcv_sp hz7
      refine j_callV (ci := 9) (As := [.int p1, .long x6]) (rest := []) (st1 := [.int x8]) (pc' := 26) C ⟨wm_1747, wm_79⟩ rfl hz7 (c_X12_aheadOf (nx := nx) hx8) yw_X12_aheadOf wm_1745 rfl rfl (by decide) ⟨by decide, by decide⟩ dX12_ahead_23 rfl rfl ?_
      refine j_goto (tgt := 30) C dX12_ahead_26 rfl ?_
      have hr := Option.some.inj hr
      subst hr
      exact j_iret C hq hret dX12_ahead_30
def m_X12_come (ce : Ce) (this : Nat) (p1 : Int64) (p2 : Int32) (p3 : Int32) : Option (Int64) :=
  (it (fun s1 =>
    if p3 ≤ s1.2 then
      some (Sum.inr (Sum.inr s1.1))
    else
      (it (fun s4 =>
        (rcv ce 9 this).bind fun z7 =>
        (m_X12_states ce this).bind fun x8 =>
        if x8 ≤ s4.2 then
          some (Sum.inr s4.1)
        else
          (m_X12_has s1.1 s4.2).bind fun x9 =>
          if x9 = 0 then
            some (Sum.inl (s4.1, (s4.2 + 1)))
          else
            (rcv ce 9 this).bind fun z10 =>
            (m_X12_afterBy ce this s4.2 p2).bind fun x11 =>
            some (Sum.inl ((s4.1 ||| x11), (s4.2 + 1)))
      ) FU (s1.1, 0)).bind fun o5 =>
      if (lg_cmp o5 s1.1) = 0 then
        some (Sum.inr (Sum.inl s1.1))
      else
        some (Sum.inl (o5, (s1.2 + 1)))
  ) FU (p1, 0)).bind fun o2 =>
  Sum.elim (fun wo2 => some wo2) (fun vo2 =>
    some vo2
  ) o2
set_option maxRecDepth 100000 in
set_option maxHeartbeats 4000000 in
theorem c_X12_come {nx : Nat} {ce : Ce} {this : Nat} {p1 : Int64} {p2 : Int32} {p3 : Int32} {q : Int64} (hr : m_X12_come ce this p1 p2 p3 = some q) : Ct yX12_come cX12_come 11 (some .long) 2 47 0 0 [.ref this, .long p1, .int p2, .int p3] nx ce (some (.long q)) ce := by
  unfold m_X12_come at hr
  refine ct_of (by decide) (by decide) ?_
  intro G C hq hret hin
  show Jd G 0 0 nx ce 0 [(0, .ref this), (1, .long p1), (3, .int p2), (4, .int p3)] []
  refine j_lload_n (q := 1) (pc' := 1) C dX12_come_0 rfl rfl rfl ?_
  refine j_lstore (lv' := [(5, .long p1), (0, .ref this), (1, .long p1), (3, .int p2), (4, .int p3)]) (pc' := 3) C dX12_come_1 (by decide) rfl rfl ?_
  refine j_iconst (v := 0) (pc' := 4) C dX12_come_3 kI_0 rfl ?_
  refine j_istore (lv' := [(7, .int 0), (5, .long p1), (0, .ref this), (1, .long p1), (3, .int p2), (4, .int p3)]) (pc' := 6) C dX12_come_4 (by decide) rfl rfl ?_
  obtain ⟨o2, ho2, ro2⟩ := ob hr
  have ko2 : ∀ vo2, o2 = Sum.inr vo2 → Jd G 0 0 nx ce 78 [(5, .long vo2)] [] := by
    intro vo2 eo2
    rw [eo2] at ro2
    have hr := elR ro2
    refine j_lload (q := 0) (pc' := 80) C dX12_come_78 rfl rfl ?_
    have hr := Option.some.inj hr
    subst hr
    exact j_lret C hq hret dX12_come_80
  refine j_lv [2, 4, 5, 1, 0] rfl (it_J (J := (fun s1 => Jd G 0 0 nx ce 6 [(0, .ref this), (3, .int p2), (4, .int p3), (5, .long s1.1), (7, .int s1.2)] [])) ?_ ho2)
  clear ho2
  intro s1 r3 hr is1 es1
  refine j_iload (q := 4) (pc' := 8) C dX12_come_6 rfl rfl ?_
  refine j_iload (q := 2) (pc' := 10) C dX12_come_8 rfl rfl ?_
  refine j_ic_ge (tgt := 78) (pc' := 13) C dX12_come_10 rfl rfl (fun hc => ?_) (fun hc => ?_)
  · have hr := ifT hc hr
    clear hc
    have hr := es1 _ (Option.some.inj hr).symm
    subst hr
    exact j_lv [3] rfl (ko2 _ rfl)
  · have hr := ifF hc hr
    clear hc
    refine j_lload (q := 3) (pc' := 15) C dX12_come_13 rfl rfl ?_
    refine j_lstore (lv' := [(8, .long s1.1), (0, .ref this), (3, .int p2), (4, .int p3), (5, .long s1.1), (7, .int s1.2)]) (pc' := 17) C dX12_come_15 (by decide) rfl rfl ?_
    refine j_iconst (v := 0) (pc' := 18) C dX12_come_17 kI_0 rfl ?_
    refine j_istore (lv' := [(10, .int 0), (8, .long s1.1), (0, .ref this), (3, .int p2), (4, .int p3), (5, .long s1.1), (7, .int s1.2)]) (pc' := 20) C dX12_come_18 (by decide) rfl rfl ?_
    obtain ⟨o5, ho5, ro5⟩ := ob hr
    have ko5 : Jd G 0 0 nx ce 57 [(0, .ref this), (3, .int p2), (4, .int p3), (5, .long s1.1), (7, .int s1.2), (8, .long o5)] [] := by
      have hr := ro5
      refine j_lload (q := 5) (pc' := 59) C dX12_come_57 rfl rfl ?_
      refine j_lload (q := 3) (pc' := 61) C dX12_come_59 rfl rfl ?_
      refine j_lcmp (pc' := 62) C dX12_come_61 rfl ?_
      refine j_if_ne (tgt := 68) (pc' := 65) C dX12_come_62 rfl rfl (fun hc => ?_) (fun hc => ?_)
      · have hr := ifF hc hr
        clear hc
        refine j_lload (q := 5) (pc' := 70) C dX12_come_68 rfl rfl ?_
        refine j_lstore (lv' := [(5, .long o5), (0, .ref this), (3, .int p2), (4, .int p3), (7, .int s1.2), (8, .long o5)]) (pc' := 72) C dX12_come_70 (by decide) rfl rfl ?_
        refine j_iinc (q := 4) (v := 1) (lv' := [(7, .int (s1.2 + 1)), (5, .long o5), (0, .ref this), (3, .int p2), (4, .int p3), (8, .long o5)]) (pc' := 75) C dX12_come_72 rfl kI_1 (by decide) rfl rfl ?_
        refine j_goto (tgt := 6) C dX12_come_75 rfl ?_
        exact j_lv [2, 3, 4, 1, 0] rfl (is1 _ (Option.some.inj hr).symm)
      · have hr := ifT hc hr
        clear hc
        refine j_lload (q := 3) (pc' := 67) C dX12_come_65 rfl rfl ?_
        have hr := es1 _ (Option.some.inj hr).symm
        subst hr
        have hr := elL ro2
        have hr := Option.some.inj hr
        subst hr
        exact j_lret C hq hret dX12_come_67
    refine j_lv [2, 3, 4, 5, 6, 1, 0] rfl (it_J (J := (fun s4 => Jd G 0 0 nx ce 20 [(0, .ref this), (3, .int p2), (4, .int p3), (5, .long s1.1), (7, .int s1.2), (8, .long s4.1), (10, .int s4.2)] [])) ?_ ho5)
    clear ho5
    intro s4 r6 hr is4 es4
    refine j_iload (q := 6) (pc' := 22) C dX12_come_20 rfl rfl ?_
    refine j_aload_n (q := 0) (pc' := 23) C dX12_come_22 rfl rfl rfl ?_
    obtain ⟨z7, hz7, hr⟩ := ob hr
    obtain ⟨x8, hx8, hr⟩ := ob hr
    obtain ⟨fhz7, hz7⟩ := rcv_sp hz7
    refine j_callV (ci := 9) (As := []) (rest := [.int s4.2]) (st1 := [.int x8, .int s4.2]) (pc' := 26) C ⟨wm_1632, wm_57⟩ rfl hz7 (c_X12_states (nx := nx) hx8) yw_X12_states wm_1630 rfl rfl (by decide) ⟨by decide, by decide⟩ dX12_come_23 rfl rfl ?_
    refine j_ic_ge (tgt := 57) (pc' := 29) C dX12_come_26 rfl rfl (fun hc => ?_) (fun hc => ?_)
    · have hr := ifT hc hr
      clear hc
      have hr := es4 _ (Option.some.inj hr).symm
      subst hr
      exact j_lv [0, 1, 2, 3, 4, 5] rfl ko5
    · have hr := ifF hc hr
      clear hc
      refine j_lload (q := 3) (pc' := 31) C dX12_come_29 rfl rfl ?_
      refine j_iload (q := 6) (pc' := 33) C dX12_come_31 rfl rfl ?_
      obtain ⟨x9, hx9, hr⟩ := ob hr
      refine j_callS (As := [.long s1.1, .int s4.2]) (rest := []) (st1 := [.int x9]) (pc' := 36) C wm_1635 (c_X12_has (nx := nx) (ce := ce) hx9) yw_X12_has wm_1634 rfl rfl (by decide) ⟨by decide, by decide⟩ dX12_come_33 rfl rfl ?_
      refine j_if_eq (tgt := 51) (pc' := 39) C dX12_come_36 rfl rfl (fun hc => ?_) (fun hc => ?_)
      · have hr := ifT hc hr
        clear hc
        refine j_iinc (q := 6) (v := 1) (lv' := [(10, .int (s4.2 + 1)), (0, .ref this), (3, .int p2), (4, .int p3), (5, .long s1.1), (7, .int s1.2), (8, .long s4.1)]) (pc' := 54) C dX12_come_51 rfl kI_1 (by decide) rfl rfl ?_
        refine j_goto (tgt := 20) C dX12_come_54 rfl ?_
        exact j_lv [1, 2, 3, 4, 5, 6, 0] rfl (is4 _ (Option.some.inj hr).symm)
      · have hr := ifF hc hr
        clear hc
        refine j_lload (q := 5) (pc' := 41) C dX12_come_39 rfl rfl ?_
        refine j_aload_n (q := 0) (pc' := 42) C dX12_come_41 rfl rfl rfl ?_
        refine j_iload (q := 6) (pc' := 44) C dX12_come_42 rfl rfl ?_
        refine j_iload_n (q := 1) (pc' := 45) C dX12_come_44 rfl rfl rfl ?_
        obtain ⟨z10, hz10, hr⟩ := ob hr
        obtain ⟨x11, hx11, hr⟩ := ob hr
        obtain ⟨fhz10, hz10⟩ := rcv_sp hz10
        refine j_callV (ci := 9) (As := [.int s4.2, .int p2]) (rest := [.long s4.1]) (st1 := [.long x11, .long s4.1]) (pc' := 48) C ⟨wm_1755, wm_81⟩ rfl hz10 (c_X12_afterBy (nx := nx) hx11) yw_X12_afterBy wm_1753 rfl rfl (by decide) ⟨by decide, by decide⟩ dX12_come_45 rfl rfl ?_
        refine j_lor (pc' := 49) C dX12_come_48 rfl ?_
        refine j_lstore (lv' := [(8, .long (s4.1 ||| x11)), (0, .ref this), (3, .int p2), (4, .int p3), (5, .long s1.1), (7, .int s1.2), (10, .int s4.2)]) (pc' := 51) C dX12_come_49 (by decide) rfl rfl ?_
        refine j_iinc (q := 6) (v := 1) (lv' := [(10, .int (s4.2 + 1)), (8, .long (s4.1 ||| x11)), (0, .ref this), (3, .int p2), (4, .int p3), (5, .long s1.1), (7, .int s1.2)]) (pc' := 54) C dX12_come_51 rfl kI_1 (by decide) rfl rfl ?_
        refine j_goto (tgt := 20) C dX12_come_54 rfl ?_
        exact j_lv [2, 3, 4, 5, 6, 1, 0] rfl (is4 _ (Option.some.inj hr).symm)
def m_X12_stepsTo (ce : Ce) (this : Nat) (p1 : Int64) (p2 : Int32) : Option (Int32) :=
  (it (fun s1 =>
    if 64 ≤ s1 then
      some (Sum.inr (Sum.inr ()))
    else
      (rcv ce 9 this).bind fun z4 =>
      (m_X12_starts ce this).bind fun x5 =>
      (rcv ce 9 this).bind fun z6 =>
      (m_X12_come ce this x5 p2 s1).bind fun x7 =>
      if (lg_cmp (x7 &&& p1) 0) = 0 then
        some (Sum.inl (s1 + 1))
      else
        some (Sum.inr (Sum.inl s1))
  ) FU 0).bind fun o2 =>
  Sum.elim (fun wo2 => some wo2) (fun vo2 =>
    some (-1)
  ) o2
set_option maxRecDepth 100000 in
set_option maxHeartbeats 4000000 in
theorem c_X12_stepsTo {nx : Nat} {ce : Ce} {this : Nat} {p1 : Int64} {p2 : Int32} {q : Int32} (hr : m_X12_stepsTo ce this p1 p2 = some q) : Ct yX12_stepsTo cX12_stepsTo 5 (some .int) 3 77 0 0 [.ref this, .long p1, .int p2] nx ce (some (.int q)) ce := by
  unfold m_X12_stepsTo at hr
  refine ct_of (by decide) (by decide) ?_
  intro G C hq hret hin
  show Jd G 0 0 nx ce 0 [(0, .ref this), (1, .long p1), (3, .int p2)] []
  refine j_iconst (v := 0) (pc' := 1) C dX12_stepsTo_0 kI_0 rfl ?_
  refine j_istore (lv' := [(4, .int 0), (0, .ref this), (1, .long p1), (3, .int p2)]) (pc' := 3) C dX12_stepsTo_1 (by decide) rfl rfl ?_
  obtain ⟨o2, ho2, ro2⟩ := ob hr
  have ko2 : ∀ vo2, o2 = Sum.inr vo2 → Jd G 0 0 nx ce 37 [] [] := by
    intro vo2 eo2
    rw [eo2] at ro2
    have hr := elR ro2
    refine j_iconst (v := -1) (pc' := 38) C dX12_stepsTo_37 kI_m1 rfl ?_
    have hr := Option.some.inj hr
    subst hr
    exact j_iret C hq hret dX12_stepsTo_38
  refine j_lv [1, 2, 3, 0] rfl (it_J (J := (fun s1 => Jd G 0 0 nx ce 3 [(0, .ref this), (1, .long p1), (3, .int p2), (4, .int s1)] [])) ?_ ho2)
  clear ho2
  intro s1 r3 hr is1 es1
  refine j_iload (q := 3) (pc' := 5) C dX12_stepsTo_3 rfl rfl ?_
  refine j_bipush (v := 64) (pc' := 7) C dX12_stepsTo_5 kB_64 rfl ?_
  refine j_ic_ge (tgt := 37) (pc' := 10) C dX12_stepsTo_7 rfl rfl (fun hc => ?_) (fun hc => ?_)
  · have hr := ifT hc hr
    clear hc
    have hr := es1 _ (Option.some.inj hr).symm
    subst hr
    exact j_lv [] rfl (ko2 _ rfl)
  · have hr := ifF hc hr
    clear hc
    refine j_aload_n (q := 0) (pc' := 11) C dX12_stepsTo_10 rfl rfl rfl ?_
    refine j_aload_n (q := 0) (pc' := 12) C dX12_stepsTo_11 rfl rfl rfl ?_
    obtain ⟨z4, hz4, hr⟩ := ob hr
    obtain ⟨x5, hx5, hr⟩ := ob hr
    obtain ⟨fhz4, hz4⟩ := rcv_sp hz4
    refine j_callV (ci := 9) (As := []) (rest := [.ref this]) (st1 := [.long x5, .ref this]) (pc' := 15) C ⟨wm_1700, wm_68⟩ rfl hz4 (c_X12_starts (nx := nx) hx5) yw_X12_starts wm_1698 rfl rfl (by decide) ⟨by decide, by decide⟩ dX12_stepsTo_12 rfl rfl ?_
    refine j_iload_n (q := 2) (pc' := 16) C dX12_stepsTo_15 rfl rfl rfl ?_
    refine j_iload (q := 3) (pc' := 18) C dX12_stepsTo_16 rfl rfl ?_
    obtain ⟨z6, hz6, hr⟩ := ob hr
    obtain ⟨x7, hx7, hr⟩ := ob hr
    obtain ⟨fhz6, hz6⟩ := rcv_sp hz6
    refine j_callV (ci := 9) (As := [.long x5, .int p2, .int s1]) (rest := []) (st1 := [.long x7]) (pc' := 21) C ⟨wm_1958, wm_107⟩ rfl hz6 (c_X12_come (nx := nx) hx7) yw_X12_come wm_1956 rfl rfl (by decide) ⟨by decide, by decide⟩ dX12_stepsTo_18 rfl rfl ?_
    refine j_lload_n (q := 1) (pc' := 22) C dX12_stepsTo_21 rfl rfl rfl ?_
    refine j_land (pc' := 23) C dX12_stepsTo_22 rfl ?_
    refine j_lconst (v := 0) (pc' := 24) C dX12_stepsTo_23 kL_0 rfl ?_
    refine j_lcmp (pc' := 25) C dX12_stepsTo_24 rfl ?_
    refine j_if_eq (tgt := 31) (pc' := 28) C dX12_stepsTo_25 rfl rfl (fun hc => ?_) (fun hc => ?_)
    · have hr := ifT hc hr
      clear hc
      refine j_iinc (q := 3) (v := 1) (lv' := [(4, .int (s1 + 1)), (0, .ref this), (1, .long p1), (3, .int p2)]) (pc' := 34) C dX12_stepsTo_31 rfl kI_1 (by decide) rfl rfl ?_
      refine j_goto (tgt := 3) C dX12_stepsTo_34 rfl ?_
      exact j_lv [1, 2, 3, 0] rfl (is1 _ (Option.some.inj hr).symm)
    · have hr := ifF hc hr
      clear hc
      refine j_iload (q := 3) (pc' := 30) C dX12_stepsTo_28 rfl rfl ?_
      have hr := es1 _ (Option.some.inj hr).symm
      subst hr
      have hr := elL ro2
      have hr := Option.some.inj hr
      subst hr
      exact j_iret C hq hret dX12_stepsTo_30
def m_X12_distance (ce : Ce) (this : Nat) (p1 : Int32) : Option (Int32) :=
  (rcv ce 9 this).bind fun z1 =>
  (m_X12_isState ce this p1).bind fun x2 =>
  if x2 = 0 then
    some (-1)
  else
    (rcv ce 9 this).bind fun z3 =>
    (m_X12_stepsTo ce this (1 <<< (Int32.toInt64 p1 &&& 63)) 15).bind fun x4 =>
    some x4
set_option maxRecDepth 100000 in
set_option maxHeartbeats 4000000 in
theorem c_X12_distance {nx : Nat} {ce : Ce} {this : Nat} {p1 : Int32} {q : Int32} (hr : m_X12_distance ce this p1 = some q) : Ct yX12_distance cX12_distance 2 (some .int) 4 101 0 0 [.ref this, .int p1] nx ce (some (.int q)) ce := by
  unfold m_X12_distance at hr
  refine ct_of (by decide) (by decide) ?_
  intro G C hq hret hin
  show Jd G 0 0 nx ce 0 [(0, .ref this), (1, .int p1)] []
  refine j_aload_n (q := 0) (pc' := 1) C dX12_distance_0 rfl rfl rfl ?_
  refine j_iload_n (q := 1) (pc' := 2) C dX12_distance_1 rfl rfl rfl ?_
  obtain ⟨z1, hz1, hr⟩ := ob hr
  obtain ⟨x2, hx2, hr⟩ := ob hr
  obtain ⟨fhz1, hz1⟩ := rcv_sp hz1
  refine j_callV (ci := 9) (As := [.int p1]) (rest := []) (st1 := [.int x2]) (pc' := 5) C ⟨wm_1833, wm_96⟩ rfl hz1 (c_X12_isState (nx := nx) hx2) yw_X12_isState wm_1831 rfl rfl (by decide) ⟨by decide, by decide⟩ dX12_distance_2 rfl rfl ?_
  refine j_if_eq (tgt := 20) (pc' := 8) C dX12_distance_5 rfl rfl (fun hc => ?_) (fun hc => ?_)
  · have hr := ifT hc hr
    clear hc
    refine j_iconst (v := -1) (pc' := 21) C dX12_distance_20 kI_m1 rfl ?_
    have hr := Option.some.inj hr
    subst hr
    exact j_iret C hq hret dX12_distance_21
  · have hr := ifF hc hr
    clear hc
    refine j_aload_n (q := 0) (pc' := 9) C dX12_distance_8 rfl rfl rfl ?_
    refine j_lconst (v := 1) (pc' := 10) C dX12_distance_9 kL_1 rfl ?_
    refine j_iload_n (q := 1) (pc' := 11) C dX12_distance_10 rfl rfl rfl ?_
    refine j_lshl (pc' := 12) C dX12_distance_11 rfl ?_
    refine j_bipush (v := 15) (pc' := 14) C dX12_distance_12 kB_15 rfl ?_
    obtain ⟨z3, hz3, hr⟩ := ob hr
    obtain ⟨x4, hx4, hr⟩ := ob hr
    obtain ⟨fhz3, hz3⟩ := rcv_sp hz3
    refine j_callV (ci := 9) (As := [.long (1 <<< (Int32.toInt64 p1 &&& 63)), .int 15]) (rest := []) (st1 := [.int x4]) (pc' := 17) C ⟨wm_1954, wm_106⟩ rfl hz3 (c_X12_stepsTo (nx := nx) hx4) yw_X12_stepsTo wm_1952 rfl rfl (by decide) ⟨by decide, by decide⟩ dX12_distance_14 rfl rfl ?_
    refine j_goto (tgt := 21) C dX12_distance_17 rfl ?_
    have hr := Option.some.inj hr
    subst hr
    exact j_iret C hq hret dX12_distance_21
def m_X12_distanceBy (ce : Ce) (this : Nat) (p1 : Int32) (p2 : Int32) : Option (Int32) :=
  (rcv ce 9 this).bind fun z1 =>
  (m_X12_isState ce this p1).bind fun x2 =>
  if x2 = 0 then
    some (-1)
  else
    (m_X12_isIn p2 1 15).bind fun x3 =>
    if x3 = 0 then
      some (-1)
    else
      (rcv ce 9 this).bind fun z4 =>
      (m_X12_stepsTo ce this (1 <<< (Int32.toInt64 p1 &&& 63)) p2).bind fun x5 =>
      some x5
set_option maxRecDepth 100000 in
set_option maxHeartbeats 4000000 in
theorem c_X12_distanceBy {nx : Nat} {ce : Ce} {this : Nat} {p1 : Int32} {p2 : Int32} {q : Int32} (hr : m_X12_distanceBy ce this p1 p2 = some q) : Ct yX12_distanceBy cX12_distanceBy 3 (some .int) 4 101 0 0 [.ref this, .int p1, .int p2] nx ce (some (.int q)) ce := by
  unfold m_X12_distanceBy at hr
  refine ct_of (by decide) (by decide) ?_
  intro G C hq hret hin
  show Jd G 0 0 nx ce 0 [(0, .ref this), (1, .int p1), (2, .int p2)] []
  refine j_aload_n (q := 0) (pc' := 1) C dX12_distanceBy_0 rfl rfl rfl ?_
  refine j_iload_n (q := 1) (pc' := 2) C dX12_distanceBy_1 rfl rfl rfl ?_
  obtain ⟨z1, hz1, hr⟩ := ob hr
  obtain ⟨x2, hx2, hr⟩ := ob hr
  obtain ⟨fhz1, hz1⟩ := rcv_sp hz1
  refine j_callV (ci := 9) (As := [.int p1]) (rest := []) (st1 := [.int x2]) (pc' := 5) C ⟨wm_1833, wm_96⟩ rfl hz1 (c_X12_isState (nx := nx) hx2) yw_X12_isState wm_1831 rfl rfl (by decide) ⟨by decide, by decide⟩ dX12_distanceBy_2 rfl rfl ?_
  refine j_if_eq (tgt := 29) (pc' := 8) C dX12_distanceBy_5 rfl rfl (fun hc => ?_) (fun hc => ?_)
  · have hr := ifT hc hr
    clear hc
    refine j_iconst (v := -1) (pc' := 30) C dX12_distanceBy_29 kI_m1 rfl ?_
    have hr := Option.some.inj hr
    subst hr
    exact j_iret C hq hret dX12_distanceBy_30
  · have hr := ifF hc hr
    clear hc
    refine j_iload_n (q := 2) (pc' := 9) C dX12_distanceBy_8 rfl rfl rfl ?_
    refine j_iconst (v := 1) (pc' := 10) C dX12_distanceBy_9 kI_1 rfl ?_
    refine j_bipush (v := 15) (pc' := 12) C dX12_distanceBy_10 kB_15 rfl ?_
    obtain ⟨x3, hx3, hr⟩ := ob hr
    refine j_callS (As := [.int p2, .int 1, .int 15]) (rest := []) (st1 := [.int x3]) (pc' := 15) C wm_1519 (c_X12_isIn (nx := nx) (ce := ce) hx3) yw_X12_isIn wm_1518 rfl rfl (by decide) ⟨by decide, by decide⟩ dX12_distanceBy_12 rfl rfl ?_
    refine j_if_eq (tgt := 29) (pc' := 18) C dX12_distanceBy_15 rfl rfl (fun hc => ?_) (fun hc => ?_)
    · have hr := ifT hc hr
      clear hc
      refine j_iconst (v := -1) (pc' := 30) C dX12_distanceBy_29 kI_m1 rfl ?_
      have hr := Option.some.inj hr
      subst hr
      exact j_iret C hq hret dX12_distanceBy_30
    · have hr := ifF hc hr
      clear hc
      refine j_aload_n (q := 0) (pc' := 19) C dX12_distanceBy_18 rfl rfl rfl ?_
      refine j_lconst (v := 1) (pc' := 20) C dX12_distanceBy_19 kL_1 rfl ?_
      refine j_iload_n (q := 1) (pc' := 21) C dX12_distanceBy_20 rfl rfl rfl ?_
      refine j_lshl (pc' := 22) C dX12_distanceBy_21 rfl ?_
      refine j_iload_n (q := 2) (pc' := 23) C dX12_distanceBy_22 rfl rfl rfl ?_
      obtain ⟨z4, hz4, hr⟩ := ob hr
      obtain ⟨x5, hx5, hr⟩ := ob hr
      obtain ⟨fhz4, hz4⟩ := rcv_sp hz4
      refine j_callV (ci := 9) (As := [.long (1 <<< (Int32.toInt64 p1 &&& 63)), .int p2]) (rest := []) (st1 := [.int x5]) (pc' := 26) C ⟨wm_1954, wm_106⟩ rfl hz4 (c_X12_stepsTo (nx := nx) hx5) yw_X12_stepsTo wm_1952 rfl rfl (by decide) ⟨by decide, by decide⟩ dX12_distanceBy_23 rfl rfl ?_
      refine j_goto (tgt := 30) C dX12_distanceBy_26 rfl ?_
      have hr := Option.some.inj hr
      subst hr
      exact j_iret C hq hret dX12_distanceBy_30
def m_X12_nearest (ce : Ce) (this : Nat) : Option (Int32) :=
  (rcv ce 9 this).bind fun z1 =>
  (m_X12_aims ce this).bind fun x2 =>
  (rcv ce 9 this).bind fun z3 =>
  (m_X12_stepsTo ce this x2 15).bind fun x4 =>
  some x4
set_option maxRecDepth 100000 in
set_option maxHeartbeats 4000000 in
theorem c_X12_nearest {nx : Nat} {ce : Ce} {this : Nat} {q : Int32} (hr : m_X12_nearest ce this = some q) : Ct yX12_nearest cX12_nearest 1 (some .int) 4 101 0 0 [.ref this] nx ce (some (.int q)) ce := by
  unfold m_X12_nearest at hr
  refine ct_of (by decide) (by decide) ?_
  intro G C hq hret hin
  show Jd G 0 0 nx ce 0 [(0, .ref this)] []
  refine j_aload_n (q := 0) (pc' := 1) C dX12_nearest_0 rfl rfl rfl ?_
  refine j_aload_n (q := 0) (pc' := 2) C dX12_nearest_1 rfl rfl rfl ?_
  obtain ⟨z1, hz1, hr⟩ := ob hr
  obtain ⟨x2, hx2, hr⟩ := ob hr
  obtain ⟨fhz1, hz1⟩ := rcv_sp hz1
  refine j_callV (ci := 9) (As := []) (rest := [.ref this]) (st1 := [.long x2, .ref this]) (pc' := 5) C ⟨wm_1687, wm_65⟩ rfl hz1 (c_X12_aims (nx := nx) hx2) yw_X12_aims wm_1685 rfl rfl (by decide) ⟨by decide, by decide⟩ dX12_nearest_2 rfl rfl ?_
  refine j_bipush (v := 15) (pc' := 7) C dX12_nearest_5 kB_15 rfl ?_
  obtain ⟨z3, hz3, hr⟩ := ob hr
  obtain ⟨x4, hx4, hr⟩ := ob hr
  obtain ⟨fhz3, hz3⟩ := rcv_sp hz3
  refine j_callV (ci := 9) (As := [.long x2, .int 15]) (rest := []) (st1 := [.int x4]) (pc' := 10) C ⟨wm_1954, wm_106⟩ rfl hz3 (c_X12_stepsTo (nx := nx) hx4) yw_X12_stepsTo wm_1952 rfl rfl (by decide) ⟨by decide, by decide⟩ dX12_nearest_7 rfl rfl ?_
  have hr := Option.some.inj hr
  subst hr
  exact j_iret C hq hret dX12_nearest_10
def m_X12_reach (ce : Ce) (this : Nat) (p1 : Int32) : Option (Int32) :=
  if 0 ≤ p1 then
    (rcv ce 9 this).bind fun z1 =>
    (m_X12_starts ce this).bind fun x2 =>
    (rcv ce 9 this).bind fun z3 =>
    (m_X12_come ce this x2 15 p1).bind fun x4 =>
    (m_X12_many x4).bind fun x5 =>
    some x5
  else
    some (-1)
set_option maxRecDepth 100000 in
set_option maxHeartbeats 4000000 in
theorem c_X12_reach {nx : Nat} {ce : Ce} {this : Nat} {p1 : Int32} {q : Int32} (hr : m_X12_reach ce this p1 = some q) : Ct yX12_reach cX12_reach 2 (some .int) 3 77 0 0 [.ref this, .int p1] nx ce (some (.int q)) ce := by
  unfold m_X12_reach at hr
  refine ct_of (by decide) (by decide) ?_
  intro G C hq hret hin
  show Jd G 0 0 nx ce 0 [(0, .ref this), (1, .int p1)] []
  refine j_iload_n (q := 1) (pc' := 1) C dX12_reach_0 rfl rfl rfl ?_
  refine j_if_ge (tgt := 8) (pc' := 4) C dX12_reach_1 rfl rfl (fun hc => ?_) (fun hc => ?_)
  · have hr := ifT hc hr
    clear hc
    refine j_aload_n (q := 0) (pc' := 9) C dX12_reach_8 rfl rfl rfl ?_
    refine j_aload_n (q := 0) (pc' := 10) C dX12_reach_9 rfl rfl rfl ?_
    obtain ⟨z1, hz1, hr⟩ := ob hr
    obtain ⟨x2, hx2, hr⟩ := ob hr
    obtain ⟨fhz1, hz1⟩ := rcv_sp hz1
    refine j_callV (ci := 9) (As := []) (rest := [.ref this]) (st1 := [.long x2, .ref this]) (pc' := 13) C ⟨wm_1700, wm_68⟩ rfl hz1 (c_X12_starts (nx := nx) hx2) yw_X12_starts wm_1698 rfl rfl (by decide) ⟨by decide, by decide⟩ dX12_reach_10 rfl rfl ?_
    refine j_bipush (v := 15) (pc' := 15) C dX12_reach_13 kB_15 rfl ?_
    refine j_iload_n (q := 1) (pc' := 16) C dX12_reach_15 rfl rfl rfl ?_
    obtain ⟨z3, hz3, hr⟩ := ob hr
    obtain ⟨x4, hx4, hr⟩ := ob hr
    obtain ⟨fhz3, hz3⟩ := rcv_sp hz3
    refine j_callV (ci := 9) (As := [.long x2, .int 15, .int p1]) (rest := []) (st1 := [.long x4]) (pc' := 19) C ⟨wm_1958, wm_107⟩ rfl hz3 (c_X12_come (nx := nx) hx4) yw_X12_come wm_1956 rfl rfl (by decide) ⟨by decide, by decide⟩ dX12_reach_16 rfl rfl ?_
    obtain ⟨x5, hx5, hr⟩ := ob hr
    refine j_callS (As := [.long x4]) (rest := []) (st1 := [.int x5]) (pc' := 22) C wm_1856 (c_X12_many (nx := nx) (ce := ce) hx5) yw_X12_many wm_1855 rfl rfl (by decide) ⟨by decide, by decide⟩ dX12_reach_19 rfl rfl ?_
    have hr := Option.some.inj hr
    subst hr
    exact j_iret C hq hret dX12_reach_22
  · have hr := ifF hc hr
    clear hc
    refine j_iconst (v := -1) (pc' := 5) C dX12_reach_4 kI_m1 rfl ?_
    refine j_goto (tgt := 22) C dX12_reach_5 rfl ?_
    have hr := Option.some.inj hr
    subst hr
    exact j_iret C hq hret dX12_reach_22
def m_X12_slack (ce : Ce) (this : Nat) (p1 : Int32) : Option (Int32) :=
  (rcv ce 9 this).bind fun z1 =>
  (m_X12_isFrame ce this p1).bind fun x2 =>
  if x2 = 0 then
    some (-1)
  else
    (rcv ce 9 this).bind fun z3 =>
    (m_X12_openAt ce this p1).bind fun x4 =>
    (rcv ce 9 this).bind fun z5 =>
    (m_X12_starts ce this).bind fun x6 =>
    (rcv ce 9 this).bind fun z7 =>
    (m_X12_come ce this x6 15 p1).bind fun x8 =>
    (m_X12_many (x4 &&& (x8 ^^^ (-1)))).bind fun x9 =>
    some x9
set_option maxRecDepth 100000 in
set_option maxHeartbeats 4000000 in
theorem c_X12_slack {nx : Nat} {ce : Ce} {this : Nat} {p1 : Int32} {q : Int32} (hr : m_X12_slack ce this p1 = some q) : Ct yX12_slack cX12_slack 2 (some .int) 5 110 0 0 [.ref this, .int p1] nx ce (some (.int q)) ce := by
  unfold m_X12_slack at hr
  refine ct_of (by decide) (by decide) ?_
  intro G C hq hret hin
  show Jd G 0 0 nx ce 0 [(0, .ref this), (1, .int p1)] []
  refine j_aload_n (q := 0) (pc' := 1) C dX12_slack_0 rfl rfl rfl ?_
  refine j_iload_n (q := 1) (pc' := 2) C dX12_slack_1 rfl rfl rfl ?_
  obtain ⟨z1, hz1, hr⟩ := ob hr
  obtain ⟨x2, hx2, hr⟩ := ob hr
  obtain ⟨fhz1, hz1⟩ := rcv_sp hz1
  refine j_callV (ci := 9) (As := [.int p1]) (rest := []) (st1 := [.int x2]) (pc' := 5) C ⟨wm_1849, wm_97⟩ rfl hz1 (c_X12_isFrame (nx := nx) hx2) yw_X12_isFrame wm_1847 rfl rfl (by decide) ⟨by decide, by decide⟩ dX12_slack_2 rfl rfl ?_
  refine j_if_eq (tgt := 35) (pc' := 8) C dX12_slack_5 rfl rfl (fun hc => ?_) (fun hc => ?_)
  · have hr := ifT hc hr
    clear hc
    refine j_iconst (v := -1) (pc' := 36) C dX12_slack_35 kI_m1 rfl ?_
    have hr := Option.some.inj hr
    subst hr
    exact j_iret C hq hret dX12_slack_36
  · have hr := ifF hc hr
    clear hc
    refine j_aload_n (q := 0) (pc' := 9) C dX12_slack_8 rfl rfl rfl ?_
    refine j_iload_n (q := 1) (pc' := 10) C dX12_slack_9 rfl rfl rfl ?_
    obtain ⟨z3, hz3, hr⟩ := ob hr
    obtain ⟨x4, hx4, hr⟩ := ob hr
    obtain ⟨fhz3, hz3⟩ := rcv_sp hz3
    refine j_callV (ci := 9) (As := [.int p1]) (rest := []) (st1 := [.long x4]) (pc' := 13) C ⟨wm_1696, wm_67⟩ rfl hz3 (c_X12_openAt (nx := nx) hx4) yw_X12_openAt wm_1694 rfl rfl (by decide) ⟨by decide, by decide⟩ dX12_slack_10 rfl rfl ?_
    refine j_aload_n (q := 0) (pc' := 14) C dX12_slack_13 rfl rfl rfl ?_
    refine j_aload_n (q := 0) (pc' := 15) C dX12_slack_14 rfl rfl rfl ?_
    obtain ⟨z5, hz5, hr⟩ := ob hr
    obtain ⟨x6, hx6, hr⟩ := ob hr
    obtain ⟨fhz5, hz5⟩ := rcv_sp hz5
    refine j_callV (ci := 9) (As := []) (rest := [.ref this, .long x4]) (st1 := [.long x6, .ref this, .long x4]) (pc' := 18) C ⟨wm_1700, wm_68⟩ rfl hz5 (c_X12_starts (nx := nx) hx6) yw_X12_starts wm_1698 rfl rfl (by decide) ⟨by decide, by decide⟩ dX12_slack_15 rfl rfl ?_
    refine j_bipush (v := 15) (pc' := 20) C dX12_slack_18 kB_15 rfl ?_
    refine j_iload_n (q := 1) (pc' := 21) C dX12_slack_20 rfl rfl rfl ?_
    obtain ⟨z7, hz7, hr⟩ := ob hr
    obtain ⟨x8, hx8, hr⟩ := ob hr
    obtain ⟨fhz7, hz7⟩ := rcv_sp hz7
    refine j_callV (ci := 9) (As := [.long x6, .int 15, .int p1]) (rest := [.long x4]) (st1 := [.long x8, .long x4]) (pc' := 24) C ⟨wm_1958, wm_107⟩ rfl hz7 (c_X12_come (nx := nx) hx8) yw_X12_come wm_1956 rfl rfl (by decide) ⟨by decide, by decide⟩ dX12_slack_21 rfl rfl ?_
    refine j_ldc2 (pc' := 27) C dX12_slack_24 wm_1588 rfl ?_
    refine j_lxor (pc' := 28) C dX12_slack_27 rfl ?_
    refine j_land (pc' := 29) C dX12_slack_28 rfl ?_
    obtain ⟨x9, hx9, hr⟩ := ob hr
    refine j_callS (As := [.long (x4 &&& (x8 ^^^ (-1)))]) (rest := []) (st1 := [.int x9]) (pc' := 32) C wm_1856 (c_X12_many (nx := nx) (ce := ce) hx9) yw_X12_many wm_1855 rfl rfl (by decide) ⟨by decide, by decide⟩ dX12_slack_29 rfl rfl ?_
    refine j_goto (tgt := 36) C dX12_slack_32 rfl ?_
    have hr := Option.some.inj hr
    subst hr
    exact j_iret C hq hret dX12_slack_36
def m_X12_nearing (ce : Ce) (this : Nat) (p1 : Int32) : Option (Int64) :=
  (rcv ce 9 this).bind fun z1 =>
  (m_X12_aims ce this).bind fun x2 =>
  (it (fun s3 =>
    if p1 ≤ s3.2 then
      some (Sum.inr (Sum.inr s3.1))
    else
      (it (fun s6 =>
        (rcv ce 9 this).bind fun z9 =>
        (m_X12_states ce this).bind fun x10 =>
        if x10 ≤ s6.2 then
          some (Sum.inr s6.1)
        else
          (rcv ce 9 this).bind fun z11 =>
          (m_X12_after ce this s6.2).bind fun x12 =>
          if (lg_cmp (x12 &&& s3.1) 0) = 0 then
            some (Sum.inl (s6.1, (s6.2 + 1)))
          else
            some (Sum.inl ((s6.1 ||| (1 <<< (Int32.toInt64 s6.2 &&& 63))), (s6.2 + 1)))
      ) FU (s3.1, 0)).bind fun o7 =>
      if (lg_cmp o7 s3.1) = 0 then
        some (Sum.inr (Sum.inl s3.1))
      else
        some (Sum.inl (o7, (s3.2 + 1)))
  ) FU (x2, 0)).bind fun o4 =>
  Sum.elim (fun wo4 => some wo4) (fun vo4 =>
    some vo4
  ) o4
set_option maxRecDepth 100000 in
set_option maxHeartbeats 4000000 in
theorem c_X12_nearing {nx : Nat} {ce : Ce} {this : Nat} {p1 : Int32} {q : Int64} (hr : m_X12_nearing ce this p1 = some q) : Ct yX12_nearing cX12_nearing 8 (some .long) 3 68 0 0 [.ref this, .int p1] nx ce (some (.long q)) ce := by
  unfold m_X12_nearing at hr
  refine ct_of (by decide) (by decide) ?_
  intro G C hq hret hin
  show Jd G 0 0 nx ce 0 [(0, .ref this), (1, .int p1)] []
  refine j_aload_n (q := 0) (pc' := 1) C dX12_nearing_0 rfl rfl rfl ?_
  obtain ⟨z1, hz1, hr⟩ := ob hr
  obtain ⟨x2, hx2, hr⟩ := ob hr
  obtain ⟨fhz1, hz1⟩ := rcv_sp hz1
  refine j_callV (ci := 9) (As := []) (rest := []) (st1 := [.long x2]) (pc' := 4) C ⟨wm_1687, wm_65⟩ rfl hz1 (c_X12_aims (nx := nx) hx2) yw_X12_aims wm_1685 rfl rfl (by decide) ⟨by decide, by decide⟩ dX12_nearing_1 rfl rfl ?_
  refine j_lstore_n (lv' := [(2, .long x2), (0, .ref this), (1, .int p1)]) (pc' := 5) C dX12_nearing_4 rfl (by decide) rfl rfl ?_
  refine j_iconst (v := 0) (pc' := 6) C dX12_nearing_5 kI_0 rfl ?_
  refine j_istore (lv' := [(4, .int 0), (2, .long x2), (0, .ref this), (1, .int p1)]) (pc' := 8) C dX12_nearing_6 (by decide) rfl rfl ?_
  obtain ⟨o4, ho4, ro4⟩ := ob hr
  have ko4 : ∀ vo4, o4 = Sum.inr vo4 → Jd G 0 0 nx ce 75 [(2, .long vo4)] [] := by
    intro vo4 eo4
    rw [eo4] at ro4
    have hr := elR ro4
    refine j_lload_n (q := 0) (pc' := 76) C dX12_nearing_75 rfl rfl rfl ?_
    have hr := Option.some.inj hr
    subst hr
    exact j_lret C hq hret dX12_nearing_76
  refine j_lv [2, 3, 1, 0] rfl (it_J (J := (fun s3 => Jd G 0 0 nx ce 8 [(0, .ref this), (1, .int p1), (2, .long s3.1), (4, .int s3.2)] [])) ?_ ho4)
  clear ho4
  intro s3 r5 hr is3 es3
  refine j_iload (q := 3) (pc' := 10) C dX12_nearing_8 rfl rfl ?_
  refine j_iload_n (q := 1) (pc' := 11) C dX12_nearing_10 rfl rfl rfl ?_
  refine j_ic_ge (tgt := 75) (pc' := 14) C dX12_nearing_11 rfl rfl (fun hc => ?_) (fun hc => ?_)
  · have hr := ifT hc hr
    clear hc
    have hr := es3 _ (Option.some.inj hr).symm
    subst hr
    exact j_lv [2] rfl (ko4 _ rfl)
  · have hr := ifF hc hr
    clear hc
    refine j_lload_n (q := 2) (pc' := 15) C dX12_nearing_14 rfl rfl rfl ?_
    refine j_lstore (lv' := [(5, .long s3.1), (0, .ref this), (1, .int p1), (2, .long s3.1), (4, .int s3.2)]) (pc' := 17) C dX12_nearing_15 (by decide) rfl rfl ?_
    refine j_iconst (v := 0) (pc' := 18) C dX12_nearing_17 kI_0 rfl ?_
    refine j_istore (lv' := [(7, .int 0), (5, .long s3.1), (0, .ref this), (1, .int p1), (2, .long s3.1), (4, .int s3.2)]) (pc' := 20) C dX12_nearing_18 (by decide) rfl rfl ?_
    obtain ⟨o7, ho7, ro7⟩ := ob hr
    have ko7 : Jd G 0 0 nx ce 57 [(0, .ref this), (1, .int p1), (2, .long s3.1), (4, .int s3.2), (5, .long o7)] [] := by
      have hr := ro7
      refine j_lload (q := 4) (pc' := 59) C dX12_nearing_57 rfl rfl ?_
      refine j_lload_n (q := 2) (pc' := 60) C dX12_nearing_59 rfl rfl rfl ?_
      refine j_lcmp (pc' := 61) C dX12_nearing_60 rfl ?_
      refine j_if_ne (tgt := 66) (pc' := 64) C dX12_nearing_61 rfl rfl (fun hc => ?_) (fun hc => ?_)
      · have hr := ifF hc hr
        clear hc
        refine j_lload (q := 4) (pc' := 68) C dX12_nearing_66 rfl rfl ?_
        refine j_lstore_n (lv' := [(2, .long o7), (0, .ref this), (1, .int p1), (4, .int s3.2), (5, .long o7)]) (pc' := 69) C dX12_nearing_68 rfl (by decide) rfl rfl ?_
        refine j_iinc (q := 3) (v := 1) (lv' := [(4, .int (s3.2 + 1)), (2, .long o7), (0, .ref this), (1, .int p1), (5, .long o7)]) (pc' := 72) C dX12_nearing_69 rfl kI_1 (by decide) rfl rfl ?_
        refine j_goto (tgt := 8) C dX12_nearing_72 rfl ?_
        exact j_lv [2, 3, 1, 0] rfl (is3 _ (Option.some.inj hr).symm)
      · have hr := ifT hc hr
        clear hc
        refine j_lload_n (q := 2) (pc' := 65) C dX12_nearing_64 rfl rfl rfl ?_
        have hr := es3 _ (Option.some.inj hr).symm
        subst hr
        have hr := elL ro4
        have hr := Option.some.inj hr
        subst hr
        exact j_lret C hq hret dX12_nearing_65
    refine j_lv [2, 3, 4, 5, 1, 0] rfl (it_J (J := (fun s6 => Jd G 0 0 nx ce 20 [(0, .ref this), (1, .int p1), (2, .long s3.1), (4, .int s3.2), (5, .long s6.1), (7, .int s6.2)] [])) ?_ ho7)
    clear ho7
    intro s6 r8 hr is6 es6
    refine j_iload (q := 5) (pc' := 22) C dX12_nearing_20 rfl rfl ?_
    refine j_aload_n (q := 0) (pc' := 23) C dX12_nearing_22 rfl rfl rfl ?_
    obtain ⟨z9, hz9, hr⟩ := ob hr
    obtain ⟨x10, hx10, hr⟩ := ob hr
    obtain ⟨fhz9, hz9⟩ := rcv_sp hz9
    refine j_callV (ci := 9) (As := []) (rest := [.int s6.2]) (st1 := [.int x10, .int s6.2]) (pc' := 26) C ⟨wm_1632, wm_57⟩ rfl hz9 (c_X12_states (nx := nx) hx10) yw_X12_states wm_1630 rfl rfl (by decide) ⟨by decide, by decide⟩ dX12_nearing_23 rfl rfl ?_
    refine j_ic_ge (tgt := 57) (pc' := 29) C dX12_nearing_26 rfl rfl (fun hc => ?_) (fun hc => ?_)
    · have hr := ifT hc hr
      clear hc
      have hr := es6 _ (Option.some.inj hr).symm
      subst hr
      exact j_lv [0, 1, 2, 3, 4] rfl ko7
    · have hr := ifF hc hr
      clear hc
      refine j_aload_n (q := 0) (pc' := 30) C dX12_nearing_29 rfl rfl rfl ?_
      refine j_iload (q := 5) (pc' := 32) C dX12_nearing_30 rfl rfl ?_
      obtain ⟨z11, hz11, hr⟩ := ob hr
      obtain ⟨x12, hx12, hr⟩ := ob hr
      obtain ⟨fhz11, hz11⟩ := rcv_sp hz11
      refine j_callV (ci := 9) (As := [.int s6.2]) (rest := []) (st1 := [.long x12]) (pc' := 35) C ⟨wm_1751, wm_80⟩ rfl hz11 (c_X12_after (nx := nx) hx12) yw_X12_after wm_1749 rfl rfl (by decide) ⟨by decide, by decide⟩ dX12_nearing_32 rfl rfl ?_
      refine j_lload_n (q := 2) (pc' := 36) C dX12_nearing_35 rfl rfl rfl ?_
      refine j_land (pc' := 37) C dX12_nearing_36 rfl ?_
      refine j_lconst (v := 0) (pc' := 38) C dX12_nearing_37 kL_0 rfl ?_
      refine j_lcmp (pc' := 39) C dX12_nearing_38 rfl ?_
      refine j_if_eq (tgt := 51) (pc' := 42) C dX12_nearing_39 rfl rfl (fun hc => ?_) (fun hc => ?_)
      · have hr := ifT hc hr
        clear hc
        refine j_iinc (q := 5) (v := 1) (lv' := [(7, .int (s6.2 + 1)), (0, .ref this), (1, .int p1), (2, .long s3.1), (4, .int s3.2), (5, .long s6.1)]) (pc' := 54) C dX12_nearing_51 rfl kI_1 (by decide) rfl rfl ?_
        refine j_goto (tgt := 20) C dX12_nearing_54 rfl ?_
        exact j_lv [1, 2, 3, 4, 5, 0] rfl (is6 _ (Option.some.inj hr).symm)
      · have hr := ifF hc hr
        clear hc
        refine j_lload (q := 4) (pc' := 44) C dX12_nearing_42 rfl rfl ?_
        refine j_lconst (v := 1) (pc' := 45) C dX12_nearing_44 kL_1 rfl ?_
        refine j_iload (q := 5) (pc' := 47) C dX12_nearing_45 rfl rfl ?_
        refine j_lshl (pc' := 48) C dX12_nearing_47 rfl ?_
        refine j_lor (pc' := 49) C dX12_nearing_48 rfl ?_
        refine j_lstore (lv' := [(5, .long (s6.1 ||| (1 <<< (Int32.toInt64 s6.2 &&& 63)))), (0, .ref this), (1, .int p1), (2, .long s3.1), (4, .int s3.2), (7, .int s6.2)]) (pc' := 51) C dX12_nearing_49 (by decide) rfl rfl ?_
        refine j_iinc (q := 5) (v := 1) (lv' := [(7, .int (s6.2 + 1)), (5, .long (s6.1 ||| (1 <<< (Int32.toInt64 s6.2 &&& 63)))), (0, .ref this), (1, .int p1), (2, .long s3.1), (4, .int s3.2)]) (pc' := 54) C dX12_nearing_51 rfl kI_1 (by decide) rfl rfl ?_
        refine j_goto (tgt := 20) C dX12_nearing_54 rfl ?_
        exact j_lv [2, 3, 4, 5, 1, 0] rfl (is6 _ (Option.some.inj hr).symm)
def m_X12_farOf (ce : Ce) (this : Nat) (p1 : Int32) : Option (Int32) :=
  (it (fun s1 =>
    if 64 ≤ s1 then
      some (Sum.inr (Sum.inr ()))
    else
      (rcv ce 9 this).bind fun z4 =>
      (m_X12_nearing ce this s1).bind fun x5 =>
      (m_X12_has x5 p1).bind fun x6 =>
      if x6 = 0 then
        some (Sum.inl (s1 + 1))
      else
        some (Sum.inr (Sum.inl s1))
  ) FU 0).bind fun o2 =>
  Sum.elim (fun wo2 => some wo2) (fun vo2 =>
    some (-1)
  ) o2
set_option maxRecDepth 100000 in
set_option maxHeartbeats 4000000 in
theorem c_X12_farOf {nx : Nat} {ce : Ce} {this : Nat} {p1 : Int32} {q : Int32} (hr : m_X12_farOf ce this p1 = some q) : Ct yX12_farOf cX12_farOf 3 (some .int) 4 95 0 0 [.ref this, .int p1] nx ce (some (.int q)) ce := by
  unfold m_X12_farOf at hr
  refine ct_of (by decide) (by decide) ?_
  intro G C hq hret hin
  show Jd G 0 0 nx ce 0 [(0, .ref this), (1, .int p1)] []
  refine j_iconst (v := 0) (pc' := 1) C dX12_farOf_0 kI_0 rfl ?_
  refine j_istore_n (lv' := [(2, .int 0), (0, .ref this), (1, .int p1)]) (pc' := 2) C dX12_farOf_1 rfl (by decide) rfl rfl ?_
  obtain ⟨o2, ho2, ro2⟩ := ob hr
  have ko2 : ∀ vo2, o2 = Sum.inr vo2 → Jd G 0 0 nx ce 28 [] [] := by
    intro vo2 eo2
    rw [eo2] at ro2
    have hr := elR ro2
    refine j_iconst (v := -1) (pc' := 29) C dX12_farOf_28 kI_m1 rfl ?_
    have hr := Option.some.inj hr
    subst hr
    exact j_iret C hq hret dX12_farOf_29
  refine j_lv [1, 2, 0] rfl (it_J (J := (fun s1 => Jd G 0 0 nx ce 2 [(0, .ref this), (1, .int p1), (2, .int s1)] [])) ?_ ho2)
  clear ho2
  intro s1 r3 hr is1 es1
  refine j_iload_n (q := 2) (pc' := 3) C dX12_farOf_2 rfl rfl rfl ?_
  refine j_bipush (v := 64) (pc' := 5) C dX12_farOf_3 kB_64 rfl ?_
  refine j_ic_ge (tgt := 28) (pc' := 8) C dX12_farOf_5 rfl rfl (fun hc => ?_) (fun hc => ?_)
  · have hr := ifT hc hr
    clear hc
    have hr := es1 _ (Option.some.inj hr).symm
    subst hr
    exact j_lv [] rfl (ko2 _ rfl)
  · have hr := ifF hc hr
    clear hc
    refine j_aload_n (q := 0) (pc' := 9) C dX12_farOf_8 rfl rfl rfl ?_
    refine j_iload_n (q := 2) (pc' := 10) C dX12_farOf_9 rfl rfl rfl ?_
    obtain ⟨z4, hz4, hr⟩ := ob hr
    obtain ⟨x5, hx5, hr⟩ := ob hr
    obtain ⟨fhz4, hz4⟩ := rcv_sp hz4
    refine j_callV (ci := 9) (As := [.int s1]) (rest := []) (st1 := [.long x5]) (pc' := 13) C ⟨wm_1986, wm_109⟩ rfl hz4 (c_X12_nearing (nx := nx) hx5) yw_X12_nearing wm_1984 rfl rfl (by decide) ⟨by decide, by decide⟩ dX12_farOf_10 rfl rfl ?_
    refine j_iload_n (q := 1) (pc' := 14) C dX12_farOf_13 rfl rfl rfl ?_
    obtain ⟨x6, hx6, hr⟩ := ob hr
    refine j_callS (As := [.long x5, .int p1]) (rest := []) (st1 := [.int x6]) (pc' := 17) C wm_1635 (c_X12_has (nx := nx) (ce := ce) hx6) yw_X12_has wm_1634 rfl rfl (by decide) ⟨by decide, by decide⟩ dX12_farOf_14 rfl rfl ?_
    refine j_if_eq (tgt := 22) (pc' := 20) C dX12_farOf_17 rfl rfl (fun hc => ?_) (fun hc => ?_)
    · have hr := ifT hc hr
      clear hc
      refine j_iinc (q := 2) (v := 1) (lv' := [(2, .int (s1 + 1)), (0, .ref this), (1, .int p1)]) (pc' := 25) C dX12_farOf_22 rfl kI_1 (by decide) rfl rfl ?_
      refine j_goto (tgt := 2) C dX12_farOf_25 rfl ?_
      exact j_lv [1, 2, 0] rfl (is1 _ (Option.some.inj hr).symm)
    · have hr := ifF hc hr
      clear hc
      refine j_iload_n (q := 2) (pc' := 21) C dX12_farOf_20 rfl rfl rfl ?_
      have hr := es1 _ (Option.some.inj hr).symm
      subst hr
      have hr := elL ro2
      have hr := Option.some.inj hr
      subst hr
      exact j_iret C hq hret dX12_farOf_21
def m_X12_far (ce : Ce) (this : Nat) (p1 : Int32) : Option (Int32) :=
  (rcv ce 9 this).bind fun z1 =>
  (m_X12_isState ce this p1).bind fun x2 =>
  if x2 = 0 then
    some (-1)
  else
    (rcv ce 9 this).bind fun z3 =>
    (m_X12_farOf ce this p1).bind fun x4 =>
    some x4
set_option maxRecDepth 100000 in
set_option maxHeartbeats 4000000 in
theorem c_X12_far {nx : Nat} {ce : Ce} {this : Nat} {p1 : Int32} {q : Int32} (hr : m_X12_far ce this p1 = some q) : Ct yX12_far cX12_far 2 (some .int) 5 117 0 0 [.ref this, .int p1] nx ce (some (.int q)) ce := by
  unfold m_X12_far at hr
  refine ct_of (by decide) (by decide) ?_
  intro G C hq hret hin
  show Jd G 0 0 nx ce 0 [(0, .ref this), (1, .int p1)] []
  refine j_aload_n (q := 0) (pc' := 1) C dX12_far_0 rfl rfl rfl ?_
  refine j_iload_n (q := 1) (pc' := 2) C dX12_far_1 rfl rfl rfl ?_
  obtain ⟨z1, hz1, hr⟩ := ob hr
  obtain ⟨x2, hx2, hr⟩ := ob hr
  obtain ⟨fhz1, hz1⟩ := rcv_sp hz1
  refine j_callV (ci := 9) (As := [.int p1]) (rest := []) (st1 := [.int x2]) (pc' := 5) C ⟨wm_1833, wm_96⟩ rfl hz1 (c_X12_isState (nx := nx) hx2) yw_X12_isState wm_1831 rfl rfl (by decide) ⟨by decide, by decide⟩ dX12_far_2 rfl rfl ?_
  refine j_if_eq (tgt := 16) (pc' := 8) C dX12_far_5 rfl rfl (fun hc => ?_) (fun hc => ?_)
  · have hr := ifT hc hr
    clear hc
    refine j_iconst (v := -1) (pc' := 17) C dX12_far_16 kI_m1 rfl ?_
    have hr := Option.some.inj hr
    subst hr
    exact j_iret C hq hret dX12_far_17
  · have hr := ifF hc hr
    clear hc
    refine j_aload_n (q := 0) (pc' := 9) C dX12_far_8 rfl rfl rfl ?_
    refine j_iload_n (q := 1) (pc' := 10) C dX12_far_9 rfl rfl rfl ?_
    obtain ⟨z3, hz3, hr⟩ := ob hr
    obtain ⟨x4, hx4, hr⟩ := ob hr
    obtain ⟨fhz3, hz3⟩ := rcv_sp hz3
    refine j_callV (ci := 9) (As := [.int p1]) (rest := []) (st1 := [.int x4]) (pc' := 13) C ⟨wm_1982, wm_108⟩ rfl hz3 (c_X12_farOf (nx := nx) hx4) yw_X12_farOf wm_1980 rfl rfl (by decide) ⟨by decide, by decide⟩ dX12_far_10 rfl rfl ?_
    refine j_goto (tgt := 17) C dX12_far_13 rfl ?_
    have hr := Option.some.inj hr
    subst hr
    exact j_iret C hq hret dX12_far_17
def m_X12_doomed (ce : Ce) (this : Nat) (p1 : Int32) : Option (Int32) :=
  if 0 ≤ p1 then
    (rcv ce 9 this).bind fun z1 =>
    (m_X12_nearing ce this p1).bind fun x2 =>
    (m_X12_many x2).bind fun x3 =>
    some x3
  else
    some (-1)
set_option maxRecDepth 100000 in
set_option maxHeartbeats 4000000 in
theorem c_X12_doomed {nx : Nat} {ce : Ce} {this : Nat} {p1 : Int32} {q : Int32} (hr : m_X12_doomed ce this p1 = some q) : Ct yX12_doomed cX12_doomed 2 (some .int) 4 95 0 0 [.ref this, .int p1] nx ce (some (.int q)) ce := by
  unfold m_X12_doomed at hr
  refine ct_of (by decide) (by decide) ?_
  intro G C hq hret hin
  show Jd G 0 0 nx ce 0 [(0, .ref this), (1, .int p1)] []
  refine j_iload_n (q := 1) (pc' := 1) C dX12_doomed_0 rfl rfl rfl ?_
  refine j_if_ge (tgt := 8) (pc' := 4) C dX12_doomed_1 rfl rfl (fun hc => ?_) (fun hc => ?_)
  · have hr := ifT hc hr
    clear hc
    refine j_aload_n (q := 0) (pc' := 9) C dX12_doomed_8 rfl rfl rfl ?_
    refine j_iload_n (q := 1) (pc' := 10) C dX12_doomed_9 rfl rfl rfl ?_
    obtain ⟨z1, hz1, hr⟩ := ob hr
    obtain ⟨x2, hx2, hr⟩ := ob hr
    obtain ⟨fhz1, hz1⟩ := rcv_sp hz1
    refine j_callV (ci := 9) (As := [.int p1]) (rest := []) (st1 := [.long x2]) (pc' := 13) C ⟨wm_1986, wm_109⟩ rfl hz1 (c_X12_nearing (nx := nx) hx2) yw_X12_nearing wm_1984 rfl rfl (by decide) ⟨by decide, by decide⟩ dX12_doomed_10 rfl rfl ?_
    obtain ⟨x3, hx3, hr⟩ := ob hr
    refine j_callS (As := [.long x2]) (rest := []) (st1 := [.int x3]) (pc' := 16) C wm_1856 (c_X12_many (nx := nx) (ce := ce) hx3) yw_X12_many wm_1855 rfl rfl (by decide) ⟨by decide, by decide⟩ dX12_doomed_13 rfl rfl ?_
    have hr := Option.some.inj hr
    subst hr
    exact j_iret C hq hret dX12_doomed_16
  · have hr := ifF hc hr
    clear hc
    refine j_iconst (v := -1) (pc' := 5) C dX12_doomed_4 kI_m1 rfl ?_
    refine j_goto (tgt := 16) C dX12_doomed_5 rfl ?_
    have hr := Option.some.inj hr
    subst hr
    exact j_iret C hq hret dX12_doomed_16
def m_X12_layShortest (ce : Ce) (this : Nat) : Option (Unit × Ce) :=
  (pV ce 9 28 this (.int 0)).bind fun c1 =>
  (it (fun s2 =>
    if 64 ≤ s2 then
      some (Sum.inr s2)
    else
      (rcv c1 9 this).bind fun z29 =>
      (m_X12_nearing c1 this s2).bind fun x30 =>
      (rcv c1 9 this).bind fun z31 =>
      (m_X12_starts c1 this).bind fun x32 =>
      if (lg_cmp (x30 &&& x32) 0) = 0 then
        some (Sum.inl (s2 + 1))
      else
        some (Sum.inr s2)
  ) FU 0).bind fun o3 =>
  if o3 = 64 then
    some ((), c1)
  else
    (gA c1 9 27 this).bind fun x5 =>
    (rcv c1 9 this).bind fun z6 =>
    (m_X12_nearing c1 this o3).bind fun x7 =>
    (rcv c1 9 this).bind fun z8 =>
    (m_X12_starts c1 this).bind fun x9 =>
    (m_X12_lowest (x7 &&& x9)).bind fun x10 =>
    (sI c1 x5 0 x10).bind fun c11 =>
    (pV c11 9 28 this (.int 1)).bind fun c12 =>
    (it (fun s13 =>
      if s13.1 ≤ 0 then
        some (Sum.inr ((), s13.2))
      else
        (gA s13.2 9 27 this).bind fun x16 =>
        (gI s13.2 9 28 this).bind fun x17 =>
        (gA s13.2 9 27 this).bind fun x18 =>
        (gI s13.2 9 28 this).bind fun x19 =>
        (aI s13.2 x18 (x19 - 1)).bind fun x20 =>
        (rcv s13.2 9 this).bind fun z21 =>
        (m_X12_after s13.2 this x20).bind fun x22 =>
        (rcv s13.2 9 this).bind fun z23 =>
        (m_X12_nearing s13.2 this (s13.1 + (-1))).bind fun x24 =>
        (m_X12_lowest (x22 &&& x24)).bind fun x25 =>
        (sI s13.2 x16 x17 x25).bind fun c26 =>
        (gI c26 9 28 this).bind fun x27 =>
        (pV c26 9 28 this (.int (x27 + 1))).bind fun c28 =>
        some (Sum.inl ((s13.1 + (-1)), c28))
    ) FU (o3, c12)).bind fun o14 =>
    some ((), o14.2)
set_option maxRecDepth 100000 in
set_option maxHeartbeats 4000000 in
theorem c_X12_layShortest {nx : Nat} {ce : Ce} {this : Nat} {q : Unit × Ce} (hr : m_X12_layShortest ce this = some q) : Ct yX12_layShortest cX12_layShortest 2 none 4 95 0 0 [.ref this] nx ce none q.2 := by
  unfold m_X12_layShortest at hr
  refine ct_of (by decide) (by decide) ?_
  intro G C hq hret hin
  show Jd G 0 0 nx ce 0 [(0, .ref this)] []
  refine j_aload_n (q := 0) (pc' := 1) C dX12_layShortest_0 rfl rfl rfl ?_
  refine j_iconst (v := 0) (pc' := 2) C dX12_layShortest_1 kI_0 rfl ?_
  obtain ⟨c1, hc1, hr⟩ := ob hr
  refine j_put (pc' := 5) C dX12_layShortest_2 fw_X12_378 rfl rfl hc1 rfl ?_
  refine j_iconst (v := 0) (pc' := 6) C dX12_layShortest_5 kI_0 rfl ?_
  refine j_istore_n (lv' := [(1, .int 0), (0, .ref this)]) (pc' := 7) C dX12_layShortest_6 rfl (by decide) rfl rfl ?_
  obtain ⟨o3, ho3, ro3⟩ := ob hr
  have ko3 : Jd G 0 0 nx c1 34 [(0, .ref this), (1, .int o3)] [] := by
    have hr := ro3
    refine j_iload_n (q := 1) (pc' := 35) C dX12_layShortest_34 rfl rfl rfl ?_
    refine j_bipush (v := 64) (pc' := 37) C dX12_layShortest_35 kB_64 rfl ?_
    refine j_ic_ne (tgt := 41) (pc' := 40) C dX12_layShortest_37 rfl rfl (fun hc => ?_) (fun hc => ?_)
    · have hr := ifF hc hr
      clear hc
      refine j_aload_n (q := 0) (pc' := 42) C dX12_layShortest_41 rfl rfl rfl ?_
      obtain ⟨x5, hx5, hr⟩ := ob hr
      refine j_getA (pc' := 45) C dX12_layShortest_42 fl_X12_59 hx5 rfl ?_
      refine j_iconst (v := 0) (pc' := 46) C dX12_layShortest_45 kI_0 rfl ?_
      refine j_aload_n (q := 0) (pc' := 47) C dX12_layShortest_46 rfl rfl rfl ?_
      refine j_iload_n (q := 1) (pc' := 48) C dX12_layShortest_47 rfl rfl rfl ?_
      obtain ⟨z6, hz6, hr⟩ := ob hr
      obtain ⟨x7, hx7, hr⟩ := ob hr
      obtain ⟨fhz6, hz6⟩ := rcv_sp hz6
      refine j_callV (ci := 9) (As := [.int o3]) (rest := [.int 0, .ref x5]) (st1 := [.long x7, .int 0, .ref x5]) (pc' := 51) C ⟨wm_1986, wm_109⟩ rfl hz6 (c_X12_nearing (nx := nx) hx7) yw_X12_nearing wm_1984 rfl rfl (by decide) ⟨by decide, by decide⟩ dX12_layShortest_48 rfl rfl ?_
      refine j_aload_n (q := 0) (pc' := 52) C dX12_layShortest_51 rfl rfl rfl ?_
      obtain ⟨z8, hz8, hr⟩ := ob hr
      obtain ⟨x9, hx9, hr⟩ := ob hr
      obtain ⟨fhz8, hz8⟩ := rcv_sp hz8
      refine j_callV (ci := 9) (As := []) (rest := [.long x7, .int 0, .ref x5]) (st1 := [.long x9, .long x7, .int 0, .ref x5]) (pc' := 55) C ⟨wm_1700, wm_68⟩ rfl hz8 (c_X12_starts (nx := nx) hx9) yw_X12_starts wm_1698 rfl rfl (by decide) ⟨by decide, by decide⟩ dX12_layShortest_52 rfl rfl ?_
      refine j_land (pc' := 56) C dX12_layShortest_55 rfl ?_
      obtain ⟨x10, hx10, hr⟩ := ob hr
      refine j_callS (As := [.long (x7 &&& x9)]) (rest := [.int 0, .ref x5]) (st1 := [.int x10, .int 0, .ref x5]) (pc' := 59) C wm_1719 (c_X12_lowest (nx := nx) (ce := c1) hx10) yw_X12_lowest wm_1718 rfl rfl (by decide) ⟨by decide, by decide⟩ dX12_layShortest_56 rfl rfl ?_
      obtain ⟨c11, hc11, hr⟩ := ob hr
      refine j_iast (pc' := 60) C dX12_layShortest_59 hc11 rfl ?_
      refine j_aload_n (q := 0) (pc' := 61) C dX12_layShortest_60 rfl rfl rfl ?_
      refine j_iconst (v := 1) (pc' := 62) C dX12_layShortest_61 kI_1 rfl ?_
      obtain ⟨c12, hc12, hr⟩ := ob hr
      refine j_put (pc' := 65) C dX12_layShortest_62 fw_X12_378 rfl rfl hc12 rfl ?_
      obtain ⟨o14, ho14, ro14⟩ := ob hr
      have ko14 : Jd G 0 0 nx o14.2 118 [] [] := by
        have hr := ro14
        have hr := Option.some.inj hr
        subst hr
        exact j_vret C hq hret dX12_layShortest_118
      refine j_lv [0, 1] rfl (it_J (J := (fun s13 => Jd G 0 0 nx s13.2 65 [(0, .ref this), (1, .int s13.1)] [])) ?_ ho14)
      clear ho14
      intro s13 r15 hr is13 es13
      refine j_iload_n (q := 1) (pc' := 66) C dX12_layShortest_65 rfl rfl rfl ?_
      refine j_if_le (tgt := 118) (pc' := 69) C dX12_layShortest_66 rfl rfl (fun hc => ?_) (fun hc => ?_)
      · have hr := ifT hc hr
        clear hc
        have hr := es13 _ (Option.some.inj hr).symm
        subst hr
        exact j_lv [] rfl ko14
      · have hr := ifF hc hr
        clear hc
        refine j_iinc (q := 1) (v := -1) (lv' := [(1, .int (s13.1 + (-1))), (0, .ref this)]) (pc' := 72) C dX12_layShortest_69 rfl kI_m1 (by decide) rfl rfl ?_
        refine j_aload_n (q := 1) (pc' := 73) C dX12_layShortest_72 rfl rfl rfl ?_
        obtain ⟨x16, hx16, hr⟩ := ob hr
        refine j_getA (pc' := 76) C dX12_layShortest_73 fl_X12_59 hx16 rfl ?_
        refine j_aload_n (q := 1) (pc' := 77) C dX12_layShortest_76 rfl rfl rfl ?_
        obtain ⟨x17, hx17, hr⟩ := ob hr
        refine j_getI (pc' := 80) C dX12_layShortest_77 fl_X12_378 hx17 rfl ?_
        refine j_aload_n (q := 1) (pc' := 81) C dX12_layShortest_80 rfl rfl rfl ?_
        refine j_aload_n (q := 1) (pc' := 82) C dX12_layShortest_81 rfl rfl rfl ?_
        obtain ⟨x18, hx18, hr⟩ := ob hr
        refine j_getA (pc' := 85) C dX12_layShortest_82 fl_X12_59 hx18 rfl ?_
        refine j_aload_n (q := 1) (pc' := 86) C dX12_layShortest_85 rfl rfl rfl ?_
        obtain ⟨x19, hx19, hr⟩ := ob hr
        refine j_getI (pc' := 89) C dX12_layShortest_86 fl_X12_378 hx19 rfl ?_
        refine j_iconst (v := 1) (pc' := 90) C dX12_layShortest_89 kI_1 rfl ?_
        refine j_isub (pc' := 91) C dX12_layShortest_90 rfl ?_
        obtain ⟨x20, hx20, hr⟩ := ob hr
        refine j_iald (pc' := 92) C dX12_layShortest_91 hx20 rfl ?_
        obtain ⟨z21, hz21, hr⟩ := ob hr
        obtain ⟨x22, hx22, hr⟩ := ob hr
        obtain ⟨fhz21, hz21⟩ := rcv_sp hz21
        refine j_callV (ci := 9) (As := [.int x20]) (rest := [.int x17, .ref x16]) (st1 := [.long x22, .int x17, .ref x16]) (pc' := 95) C ⟨wm_1751, wm_80⟩ rfl hz21 (c_X12_after (nx := nx) hx22) yw_X12_after wm_1749 rfl rfl (by decide) ⟨by decide, by decide⟩ dX12_layShortest_92 rfl rfl ?_
        refine j_aload_n (q := 1) (pc' := 96) C dX12_layShortest_95 rfl rfl rfl ?_
        refine j_iload_n (q := 0) (pc' := 97) C dX12_layShortest_96 rfl rfl rfl ?_
        obtain ⟨z23, hz23, hr⟩ := ob hr
        obtain ⟨x24, hx24, hr⟩ := ob hr
        obtain ⟨fhz23, hz23⟩ := rcv_sp hz23
        refine j_callV (ci := 9) (As := [.int (s13.1 + (-1))]) (rest := [.long x22, .int x17, .ref x16]) (st1 := [.long x24, .long x22, .int x17, .ref x16]) (pc' := 100) C ⟨wm_1986, wm_109⟩ rfl hz23 (c_X12_nearing (nx := nx) hx24) yw_X12_nearing wm_1984 rfl rfl (by decide) ⟨by decide, by decide⟩ dX12_layShortest_97 rfl rfl ?_
        refine j_land (pc' := 101) C dX12_layShortest_100 rfl ?_
        obtain ⟨x25, hx25, hr⟩ := ob hr
        refine j_callS (As := [.long (x22 &&& x24)]) (rest := [.int x17, .ref x16]) (st1 := [.int x25, .int x17, .ref x16]) (pc' := 104) C wm_1719 (c_X12_lowest (nx := nx) (ce := s13.2) hx25) yw_X12_lowest wm_1718 rfl rfl (by decide) ⟨by decide, by decide⟩ dX12_layShortest_101 rfl rfl ?_
        obtain ⟨c26, hc26, hr⟩ := ob hr
        refine j_iast (pc' := 105) C dX12_layShortest_104 hc26 rfl ?_
        refine j_aload_n (q := 1) (pc' := 106) C dX12_layShortest_105 rfl rfl rfl ?_
        refine j_dup (pc' := 107) C dX12_layShortest_106 rfl rfl ?_
        obtain ⟨x27, hx27, hr⟩ := ob hr
        refine j_getI (pc' := 110) C dX12_layShortest_107 fl_X12_378 hx27 rfl ?_
        refine j_iconst (v := 1) (pc' := 111) C dX12_layShortest_110 kI_1 rfl ?_
        refine j_iadd (pc' := 112) C dX12_layShortest_111 rfl ?_
        obtain ⟨c28, hc28, hr⟩ := ob hr
        refine j_put (pc' := 115) C dX12_layShortest_112 fw_X12_378 rfl rfl hc28 rfl ?_
        refine j_goto (tgt := 65) C dX12_layShortest_115 rfl ?_
        exact j_lv [1, 0] rfl (is13 _ (Option.some.inj hr).symm)
    · have hr := ifT hc hr
      clear hc
      have hr := Option.some.inj hr
      subst hr
      exact j_vret C hq hret dX12_layShortest_40
  refine j_lv [1, 0] rfl (it_J (J := (fun s2 => Jd G 0 0 nx c1 7 [(0, .ref this), (1, .int s2)] [])) ?_ ho3)
  clear ho3
  intro s2 r4 hr is2 es2
  refine j_iload_n (q := 1) (pc' := 8) C dX12_layShortest_7 rfl rfl rfl ?_
  refine j_bipush (v := 64) (pc' := 10) C dX12_layShortest_8 kB_64 rfl ?_
  refine j_ic_ge (tgt := 34) (pc' := 13) C dX12_layShortest_10 rfl rfl (fun hc => ?_) (fun hc => ?_)
  · have hr := ifT hc hr
    clear hc
    have hr := es2 _ (Option.some.inj hr).symm
    subst hr
    exact j_lv [0, 1] rfl ko3
  · have hr := ifF hc hr
    clear hc
    refine j_aload_n (q := 0) (pc' := 14) C dX12_layShortest_13 rfl rfl rfl ?_
    refine j_iload_n (q := 1) (pc' := 15) C dX12_layShortest_14 rfl rfl rfl ?_
    obtain ⟨z29, hz29, hr⟩ := ob hr
    obtain ⟨x30, hx30, hr⟩ := ob hr
    obtain ⟨fhz29, hz29⟩ := rcv_sp hz29
    refine j_callV (ci := 9) (As := [.int s2]) (rest := []) (st1 := [.long x30]) (pc' := 18) C ⟨wm_1986, wm_109⟩ rfl hz29 (c_X12_nearing (nx := nx) hx30) yw_X12_nearing wm_1984 rfl rfl (by decide) ⟨by decide, by decide⟩ dX12_layShortest_15 rfl rfl ?_
    refine j_aload_n (q := 0) (pc' := 19) C dX12_layShortest_18 rfl rfl rfl ?_
    obtain ⟨z31, hz31, hr⟩ := ob hr
    obtain ⟨x32, hx32, hr⟩ := ob hr
    obtain ⟨fhz31, hz31⟩ := rcv_sp hz31
    refine j_callV (ci := 9) (As := []) (rest := [.long x30]) (st1 := [.long x32, .long x30]) (pc' := 22) C ⟨wm_1700, wm_68⟩ rfl hz31 (c_X12_starts (nx := nx) hx32) yw_X12_starts wm_1698 rfl rfl (by decide) ⟨by decide, by decide⟩ dX12_layShortest_19 rfl rfl ?_
    refine j_land (pc' := 23) C dX12_layShortest_22 rfl ?_
    refine j_lconst (v := 0) (pc' := 24) C dX12_layShortest_23 kL_0 rfl ?_
    refine j_lcmp (pc' := 25) C dX12_layShortest_24 rfl ?_
    refine j_if_ne (tgt := 34) (pc' := 28) C dX12_layShortest_25 rfl rfl (fun hc => ?_) (fun hc => ?_)
    · have hr := ifF hc hr
      clear hc
      have hr := es2 _ (Option.some.inj hr).symm
      subst hr
      exact j_lv [0, 1] rfl ko3
    · have hr := ifT hc hr
      clear hc
      refine j_iinc (q := 1) (v := 1) (lv' := [(1, .int (s2 + 1)), (0, .ref this)]) (pc' := 31) C dX12_layShortest_28 rfl kI_1 (by decide) rfl rfl ?_
      refine j_goto (tgt := 7) C dX12_layShortest_31 rfl ?_
      exact j_lv [1, 0] rfl (is2 _ (Option.some.inj hr).symm)
def m_X12_shortest (ce : Ce) (this : Nat) (p1 : Int32) (p2 : Int32) : Option (Int32 × Ce) :=
  (rcv ce 9 this).bind fun z1 =>
  (m_X12_layShortest ce this).bind fun q2 =>
  (rcv q2.2 9 this).bind fun z3 =>
  (m_X12_ofWay q2.2 this p1 p2).bind fun x4 =>
  some (x4, q2.2)
set_option maxRecDepth 100000 in
set_option maxHeartbeats 4000000 in
theorem c_X12_shortest {nx : Nat} {ce : Ce} {this : Nat} {p1 : Int32} {p2 : Int32} {q : Int32 × Ce} (hr : m_X12_shortest ce this p1 p2 = some q) : Ct yX12_shortest cX12_shortest 3 (some .int) 5 116 0 0 [.ref this, .int p1, .int p2] nx ce (some (.int q.1)) q.2 := by
  unfold m_X12_shortest at hr
  refine ct_of (by decide) (by decide) ?_
  intro G C hq hret hin
  show Jd G 0 0 nx ce 0 [(0, .ref this), (1, .int p1), (2, .int p2)] []
  refine j_aload_n (q := 0) (pc' := 1) C dX12_shortest_0 rfl rfl rfl ?_
  obtain ⟨z1, hz1, hr⟩ := ob hr
  obtain ⟨q2, hq2, hr⟩ := ob hr
  obtain ⟨fhz1, hz1⟩ := rcv_sp hz1
  refine j_callV (ci := 9) (As := []) (rest := []) (st1 := []) (pc' := 4) C ⟨wm_1998, wm_110⟩ rfl hz1 (c_X12_layShortest (nx := nx) hq2) yw_X12_layShortest wm_1996 rfl rfl (by decide) ⟨by decide, by decide⟩ dX12_shortest_1 rfl rfl ?_
  refine j_aload_n (q := 0) (pc' := 5) C dX12_shortest_4 rfl rfl rfl ?_
  refine j_iload_n (q := 1) (pc' := 6) C dX12_shortest_5 rfl rfl rfl ?_
  refine j_iload_n (q := 2) (pc' := 7) C dX12_shortest_6 rfl rfl rfl ?_
  obtain ⟨z3, hz3, hr⟩ := ob hr
  obtain ⟨x4, hx4, hr⟩ := ob hr
  obtain ⟨fhz3, hz3⟩ := rcv_sp hz3
  refine j_callV (ci := 9) (As := [.int p1, .int p2]) (rest := []) (st1 := [.int x4]) (pc' := 10) C ⟨wm_1904, wm_103⟩ rfl hz3 (c_X12_ofWay (nx := nx) hx4) yw_X12_ofWay wm_1902 rfl rfl (by decide) ⟨by decide, by decide⟩ dX12_shortest_7 rfl rfl ?_
  have hr := Option.some.inj hr
  subst hr
  exact j_iret C hq hret dX12_shortest_10
def m_X12_detour (ce : Ce) (this : Nat) : Option (Int32 × Ce) :=
  (gA ce 9 0 this).bind fun x1 =>
  (aI ce x1 5).bind fun x2 =>
  if x2 = 4 then
    (rcv ce 9 this).bind fun z3 =>
    (m_X12_layTrace ce this).bind fun q4 =>
    (gI q4.2 9 28 this).bind fun x5 =>
    (rcv q4.2 9 this).bind fun z6 =>
    (m_X12_layShortest q4.2 this).bind fun q7 =>
    (gI q7.2 9 28 this).bind fun x8 =>
    some ((x5 - x8), q7.2)
  else
    some ((-1), ce)
set_option maxRecDepth 100000 in
set_option maxHeartbeats 4000000 in
theorem c_X12_detour {nx : Nat} {ce : Ce} {this : Nat} {q : Int32 × Ce} (hr : m_X12_detour ce this = some q) : Ct yX12_detour cX12_detour 2 (some .int) 5 116 0 0 [.ref this] nx ce (some (.int q.1)) q.2 := by
  unfold m_X12_detour at hr
  refine ct_of (by decide) (by decide) ?_
  intro G C hq hret hin
  show Jd G 0 0 nx ce 0 [(0, .ref this)] []
  refine j_aload_n (q := 0) (pc' := 1) C dX12_detour_0 rfl rfl rfl ?_
  obtain ⟨x1, hx1, hr⟩ := ob hr
  refine j_getA (pc' := 4) C dX12_detour_1 fl_X12_8 hx1 rfl ?_
  refine j_iconst (v := 5) (pc' := 5) C dX12_detour_4 kI_5 rfl ?_
  obtain ⟨x2, hx2, hr⟩ := ob hr
  refine j_iald (pc' := 6) C dX12_detour_5 hx2 rfl ?_
  refine j_iconst (v := 4) (pc' := 7) C dX12_detour_6 kI_4 rfl ?_
  refine j_ic_eq (tgt := 12) (pc' := 10) C dX12_detour_7 rfl rfl (fun hc => ?_) (fun hc => ?_)
  · have hr := ifT hc hr
    clear hc
    refine j_aload_n (q := 0) (pc' := 13) C dX12_detour_12 rfl rfl rfl ?_
    obtain ⟨z3, hz3, hr⟩ := ob hr
    obtain ⟨q4, hq4, hr⟩ := ob hr
    obtain ⟨fhz3, hz3⟩ := rcv_sp hz3
    refine j_callV (ci := 9) (As := []) (rest := []) (st1 := []) (pc' := 16) C ⟨wm_1896, wm_101⟩ rfl hz3 (c_X12_layTrace (nx := nx) hq4) yw_X12_layTrace wm_1894 rfl rfl (by decide) ⟨by decide, by decide⟩ dX12_detour_13 rfl rfl ?_
    refine j_aload_n (q := 0) (pc' := 17) C dX12_detour_16 rfl rfl rfl ?_
    obtain ⟨x5, hx5, hr⟩ := ob hr
    refine j_getI (pc' := 20) C dX12_detour_17 fl_X12_378 hx5 rfl ?_
    refine j_istore_n (lv' := [(1, .int x5), (0, .ref this)]) (pc' := 21) C dX12_detour_20 rfl (by decide) rfl rfl ?_
    refine j_aload_n (q := 1) (pc' := 22) C dX12_detour_21 rfl rfl rfl ?_
    obtain ⟨z6, hz6, hr⟩ := ob hr
    obtain ⟨q7, hq7, hr⟩ := ob hr
    obtain ⟨fhz6, hz6⟩ := rcv_sp hz6
    refine j_callV (ci := 9) (As := []) (rest := []) (st1 := []) (pc' := 25) C ⟨wm_1998, wm_110⟩ rfl hz6 (c_X12_layShortest (nx := nx) hq7) yw_X12_layShortest wm_1996 rfl rfl (by decide) ⟨by decide, by decide⟩ dX12_detour_22 rfl rfl ?_
    refine j_iload_n (q := 0) (pc' := 26) C dX12_detour_25 rfl rfl rfl ?_
    refine j_aload_n (q := 1) (pc' := 27) C dX12_detour_26 rfl rfl rfl ?_
    obtain ⟨x8, hx8, hr⟩ := ob hr
    refine j_getI (pc' := 30) C dX12_detour_27 fl_X12_378 hx8 rfl ?_
    refine j_isub (pc' := 31) C dX12_detour_30 rfl ?_
    have hr := Option.some.inj hr
    subst hr
    exact j_iret C hq hret dX12_detour_31
  · have hr := ifF hc hr
    clear hc
    refine j_iconst (v := -1) (pc' := 11) C dX12_detour_10 kI_m1 rfl ?_
    have hr := Option.some.inj hr
    subst hr
    exact j_iret C hq hret dX12_detour_11
def m_X12_ofClaim (ce : Ce) (this : Nat) (p1 : Int32) (p2 : Int32) : Option (Int32) :=
  if p2 = 0 then
    (gA ce 9 0 this).bind fun x3 =>
    (aI ce x3 (92 + p1)).bind fun x4 =>
    some (x4 >>> (6 &&& 31))
  else
    (gA ce 9 0 this).bind fun x1 =>
    (aI ce x1 (92 + p1)).bind fun x2 =>
    some (x2 &&& 63)
set_option maxRecDepth 100000 in
set_option maxHeartbeats 4000000 in
theorem c_X12_ofClaim {nx : Nat} {ce : Ce} {this : Nat} {p1 : Int32} {p2 : Int32} {q : Int32} (hr : m_X12_ofClaim ce this p1 p2 = some q) : Ct yX12_ofClaim cX12_ofClaim 3 (some .int) 0 0 0 0 [.ref this, .int p1, .int p2] nx ce (some (.int q)) ce := by
  unfold m_X12_ofClaim at hr
  refine ct_of (by decide) (by decide) ?_
  intro G C hq hret hin
  show Jd G 0 0 nx ce 0 [(0, .ref this), (1, .int p1), (2, .int p2)] []
  refine j_iload_n (q := 2) (pc' := 1) C dX12_ofClaim_0 rfl rfl rfl ?_
  refine j_if_ne (tgt := 19) (pc' := 4) C dX12_ofClaim_1 rfl rfl (fun hc => ?_) (fun hc => ?_)
  · have hr := ifF hc hr
    clear hc
    refine j_aload_n (q := 0) (pc' := 20) C dX12_ofClaim_19 rfl rfl rfl ?_
    obtain ⟨x1, hx1, hr⟩ := ob hr
    refine j_getA (pc' := 23) C dX12_ofClaim_20 fl_X12_8 hx1 rfl ?_
    refine j_bipush (v := 92) (pc' := 25) C dX12_ofClaim_23 kB_92 rfl ?_
    refine j_iload_n (q := 1) (pc' := 26) C dX12_ofClaim_25 rfl rfl rfl ?_
    refine j_iadd (pc' := 27) C dX12_ofClaim_26 rfl ?_
    obtain ⟨x2, hx2, hr⟩ := ob hr
    refine j_iald (pc' := 28) C dX12_ofClaim_27 hx2 rfl ?_
    refine j_bipush (v := 63) (pc' := 30) C dX12_ofClaim_28 kB_63 rfl ?_
    refine j_iand (pc' := 31) C dX12_ofClaim_30 rfl ?_
    have hr := Option.some.inj hr
    subst hr
    exact j_iret C hq hret dX12_ofClaim_31
  · have hr := ifT hc hr
    clear hc
    refine j_aload_n (q := 0) (pc' := 5) C dX12_ofClaim_4 rfl rfl rfl ?_
    obtain ⟨x3, hx3, hr⟩ := ob hr
    refine j_getA (pc' := 8) C dX12_ofClaim_5 fl_X12_8 hx3 rfl ?_
    refine j_bipush (v := 92) (pc' := 10) C dX12_ofClaim_8 kB_92 rfl ?_
    refine j_iload_n (q := 1) (pc' := 11) C dX12_ofClaim_10 rfl rfl rfl ?_
    refine j_iadd (pc' := 12) C dX12_ofClaim_11 rfl ?_
    obtain ⟨x4, hx4, hr⟩ := ob hr
    refine j_iald (pc' := 13) C dX12_ofClaim_12 hx4 rfl ?_
    refine j_bipush (v := 6) (pc' := 15) C dX12_ofClaim_13 kB_6 rfl ?_
    refine j_ishr (pc' := 16) C dX12_ofClaim_15 rfl ?_
    refine j_goto (tgt := 31) C dX12_ofClaim_16 rfl ?_
    have hr := Option.some.inj hr
    subst hr
    exact j_iret C hq hret dX12_ofClaim_31
def m_X12_layClaims (ce : Ce) (this : Nat) : Option (Unit × Ce) :=
  (pV ce 9 31 this (.int 0)).bind fun c1 =>
  (it (fun s2 =>
    (gA s2.2 9 0 this).bind fun x5 =>
    (aI s2.2 x5 16).bind fun x6 =>
    if x6 ≤ s2.1 then
      some (Sum.inr ((), s2.2))
    else
      (rcv s2.2 9 this).bind fun z7 =>
      (m_X12_ofClaim s2.2 this s2.1 0).bind fun x8 =>
      (rcv s2.2 9 this).bind fun z9 =>
      (m_X12_ofClaim s2.2 this s2.1 1).bind fun x10 =>
      (rcv s2.2 9 this).bind fun z11 =>
      (m_X12_addJudged s2.2 this x8 x10).bind fun q12 =>
      some (Sum.inl ((s2.1 + 1), q12.2))
  ) FU (0, c1)).bind fun o3 =>
  some ((), o3.2)
set_option maxRecDepth 100000 in
set_option maxHeartbeats 4000000 in
theorem c_X12_layClaims {nx : Nat} {ce : Ce} {this : Nat} {q : Unit × Ce} (hr : m_X12_layClaims ce this = some q) : Ct yX12_layClaims cX12_layClaims 2 none 1 22 0 0 [.ref this] nx ce none q.2 := by
  unfold m_X12_layClaims at hr
  refine ct_of (by decide) (by decide) ?_
  intro G C hq hret hin
  show Jd G 0 0 nx ce 0 [(0, .ref this)] []
  refine j_aload_n (q := 0) (pc' := 1) C dX12_layClaims_0 rfl rfl rfl ?_
  refine j_iconst (v := 0) (pc' := 2) C dX12_layClaims_1 kI_0 rfl ?_
  obtain ⟨c1, hc1, hr⟩ := ob hr
  refine j_put (pc' := 5) C dX12_layClaims_2 fw_X12_390 rfl rfl hc1 rfl ?_
  refine j_iconst (v := 0) (pc' := 6) C dX12_layClaims_5 kI_0 rfl ?_
  refine j_istore_n (lv' := [(1, .int 0), (0, .ref this)]) (pc' := 7) C dX12_layClaims_6 rfl (by decide) rfl rfl ?_
  obtain ⟨o3, ho3, ro3⟩ := ob hr
  have ko3 : Jd G 0 0 nx o3.2 40 [] [] := by
    have hr := ro3
    have hr := Option.some.inj hr
    subst hr
    exact j_vret C hq hret dX12_layClaims_40
  refine j_lv [1, 0] rfl (it_J (J := (fun s2 => Jd G 0 0 nx s2.2 7 [(0, .ref this), (1, .int s2.1)] [])) ?_ ho3)
  clear ho3
  intro s2 r4 hr is2 es2
  refine j_iload_n (q := 1) (pc' := 8) C dX12_layClaims_7 rfl rfl rfl ?_
  refine j_aload_n (q := 0) (pc' := 9) C dX12_layClaims_8 rfl rfl rfl ?_
  obtain ⟨x5, hx5, hr⟩ := ob hr
  refine j_getA (pc' := 12) C dX12_layClaims_9 fl_X12_8 hx5 rfl ?_
  refine j_bipush (v := 16) (pc' := 14) C dX12_layClaims_12 kB_16 rfl ?_
  obtain ⟨x6, hx6, hr⟩ := ob hr
  refine j_iald (pc' := 15) C dX12_layClaims_14 hx6 rfl ?_
  refine j_ic_ge (tgt := 40) (pc' := 18) C dX12_layClaims_15 rfl rfl (fun hc => ?_) (fun hc => ?_)
  · have hr := ifT hc hr
    clear hc
    have hr := es2 _ (Option.some.inj hr).symm
    subst hr
    exact j_lv [] rfl ko3
  · have hr := ifF hc hr
    clear hc
    refine j_aload_n (q := 0) (pc' := 19) C dX12_layClaims_18 rfl rfl rfl ?_
    refine j_aload_n (q := 0) (pc' := 20) C dX12_layClaims_19 rfl rfl rfl ?_
    refine j_iload_n (q := 1) (pc' := 21) C dX12_layClaims_20 rfl rfl rfl ?_
    refine j_iconst (v := 0) (pc' := 22) C dX12_layClaims_21 kI_0 rfl ?_
    obtain ⟨z7, hz7, hr⟩ := ob hr
    obtain ⟨x8, hx8, hr⟩ := ob hr
    obtain ⟨fhz7, hz7⟩ := rcv_sp hz7
    refine j_callV (ci := 9) (As := [.int s2.1, .int 0]) (rest := [.ref this]) (st1 := [.int x8, .ref this]) (pc' := 25) C ⟨wm_2026, wm_112⟩ rfl hz7 (c_X12_ofClaim (nx := nx) hx8) yw_X12_ofClaim wm_2024 rfl rfl (by decide) ⟨by decide, by decide⟩ dX12_layClaims_22 rfl rfl ?_
    refine j_aload_n (q := 0) (pc' := 26) C dX12_layClaims_25 rfl rfl rfl ?_
    refine j_iload_n (q := 1) (pc' := 27) C dX12_layClaims_26 rfl rfl rfl ?_
    refine j_iconst (v := 1) (pc' := 28) C dX12_layClaims_27 kI_1 rfl ?_
    obtain ⟨z9, hz9, hr⟩ := ob hr
    obtain ⟨x10, hx10, hr⟩ := ob hr
    obtain ⟨fhz9, hz9⟩ := rcv_sp hz9
    refine j_callV (ci := 9) (As := [.int s2.1, .int 1]) (rest := [.int x8, .ref this]) (st1 := [.int x10, .int x8, .ref this]) (pc' := 31) C ⟨wm_2026, wm_112⟩ rfl hz9 (c_X12_ofClaim (nx := nx) hx10) yw_X12_ofClaim wm_2024 rfl rfl (by decide) ⟨by decide, by decide⟩ dX12_layClaims_28 rfl rfl ?_
    obtain ⟨z11, hz11, hr⟩ := ob hr
    obtain ⟨q12, hq12, hr⟩ := ob hr
    obtain ⟨fhz11, hz11⟩ := rcv_sp hz11
    refine j_callV (ci := 9) (As := [.int x8, .int x10]) (rest := []) (st1 := []) (pc' := 34) C ⟨wm_1916, wm_105⟩ rfl hz11 (c_X12_addJudged (nx := nx) hq12) yw_X12_addJudged wm_1914 rfl rfl (by decide) ⟨by decide, by decide⟩ dX12_layClaims_31 rfl rfl ?_
    refine j_iinc (q := 1) (v := 1) (lv' := [(1, .int (s2.1 + 1)), (0, .ref this)]) (pc' := 37) C dX12_layClaims_34 rfl kI_1 (by decide) rfl rfl ?_
    refine j_goto (tgt := 7) C dX12_layClaims_37 rfl ?_
    exact j_lv [1, 0] rfl (is2 _ (Option.some.inj hr).symm)
def m_X12_isLaid (ce : Ce) (this : Nat) (p1 : Int32) : Option (Int32 × Ce) :=
  (pV ce 9 31 this (.int 0)).bind fun c1 =>
  (
    if p1 = 0 then
      (rcv c1 9 this).bind fun z18 =>
      (m_X12_layClaims c1 this).bind fun q19 =>
      some ((), q19.2)
    else
      if p1 = 1 then
        (rcv c1 9 this).bind fun z16 =>
        (m_X12_layFence c1 this).bind fun q17 =>
        some ((), q17.2)
      else
        some ((), c1)
  ).bind fun j2 =>
  (it (fun s3 =>
    (gA s3.2 9 0 this).bind fun x8 =>
    (aI s3.2 x8 17).bind fun x9 =>
    if x9 ≤ s3.1 then
      some (Sum.inr ((), s3.2))
    else
      if p1 = 2 then
        (rcv s3.2 9 this).bind fun z10 =>
        (m_X12_maskOf s3.2 this s3.1).bind fun x11 =>
        (rcv s3.2 9 this).bind fun z12 =>
        (m_X12_bitsOf s3.2 this s3.1).bind fun x13 =>
        (rcv s3.2 9 this).bind fun z14 =>
        (m_X12_addJudged s3.2 this x11 x13).bind fun q15 =>
        some (Sum.inl ((s3.1 + 1), q15.2))
      else
        some (Sum.inr ((), s3.2))
  ) FU (0, j2.2)).bind fun o4 =>
  if p1 = 0 then
    some (1, o4.2)
  else
    if p1 = 2 then
      some (1, o4.2)
    else
      if p1 = 1 then
        (gA o4.2 9 0 this).bind fun x6 =>
        (aI o4.2 x6 5).bind fun x7 =>
        if x7 = 3 then
          some (1, o4.2)
        else
          some (0, o4.2)
      else
        some (0, o4.2)
set_option maxRecDepth 100000 in
set_option maxHeartbeats 4000000 in
theorem c_X12_isLaid {nx : Nat} {ce : Ce} {this : Nat} {p1 : Int32} {q : Int32 × Ce} (hr : m_X12_isLaid ce this p1 = some q) : Ct yX12_isLaid cX12_isLaid 3 (some .boolean) 2 44 0 0 [.ref this, .int p1] nx ce (some (.int q.1)) q.2 := by
  unfold m_X12_isLaid at hr
  refine ct_of (by decide) (by decide) ?_
  intro G C hq hret hin
  show Jd G 0 0 nx ce 0 [(0, .ref this), (1, .int p1)] []
  refine j_aload_n (q := 0) (pc' := 1) C dX12_isLaid_0 rfl rfl rfl ?_
  refine j_iconst (v := 0) (pc' := 2) C dX12_isLaid_1 kI_0 rfl ?_
  obtain ⟨c1, hc1, hr⟩ := ob hr
  refine j_put (pc' := 5) C dX12_isLaid_2 fw_X12_390 rfl rfl hc1 rfl ?_
  refine j_iload_n (q := 1) (pc' := 6) C dX12_isLaid_5 rfl rfl rfl ?_
  obtain ⟨j2, hj2, rj2⟩ := ob hr
  have kj2 : Jd G 0 0 nx j2.2 25 [(0, .ref this), (1, .int p1)] [] := by
    have hr := rj2
    refine j_iconst (v := 0) (pc' := 26) C dX12_isLaid_25 kI_0 rfl ?_
    refine j_istore_n (lv' := [(2, .int 0), (0, .ref this), (1, .int p1)]) (pc' := 27) C dX12_isLaid_26 rfl (by decide) rfl rfl ?_
    obtain ⟨o4, ho4, ro4⟩ := ob hr
    have ko4 : Jd G 0 0 nx o4.2 63 [(0, .ref this), (1, .int p1)] [] := by
      have hr := ro4
      refine j_iload_n (q := 1) (pc' := 64) C dX12_isLaid_63 rfl rfl rfl ?_
      refine j_if_eq (tgt := 87) (pc' := 67) C dX12_isLaid_64 rfl rfl (fun hc => ?_) (fun hc => ?_)
      · have hr := ifT hc hr
        clear hc
        refine j_iconst (v := 1) (pc' := 88) C dX12_isLaid_87 kI_1 rfl ?_
        refine j_goto (tgt := 92) C dX12_isLaid_88 rfl ?_
        have hr := Option.some.inj hr
        subst hr
        exact j_zret C hq hret rfl dX12_isLaid_92
      · have hr := ifF hc hr
        clear hc
        refine j_iload_n (q := 1) (pc' := 68) C dX12_isLaid_67 rfl rfl rfl ?_
        refine j_iconst (v := 2) (pc' := 69) C dX12_isLaid_68 kI_2 rfl ?_
        refine j_ic_eq (tgt := 87) (pc' := 72) C dX12_isLaid_69 rfl rfl (fun hc => ?_) (fun hc => ?_)
        · have hr := ifT hc hr
          clear hc
          refine j_iconst (v := 1) (pc' := 88) C dX12_isLaid_87 kI_1 rfl ?_
          refine j_goto (tgt := 92) C dX12_isLaid_88 rfl ?_
          have hr := Option.some.inj hr
          subst hr
          exact j_zret C hq hret rfl dX12_isLaid_92
        · have hr := ifF hc hr
          clear hc
          refine j_iload_n (q := 1) (pc' := 73) C dX12_isLaid_72 rfl rfl rfl ?_
          refine j_iconst (v := 1) (pc' := 74) C dX12_isLaid_73 kI_1 rfl ?_
          refine j_ic_ne (tgt := 91) (pc' := 77) C dX12_isLaid_74 rfl rfl (fun hc => ?_) (fun hc => ?_)
          · have hr := ifF hc hr
            clear hc
            refine j_iconst (v := 0) (pc' := 92) C dX12_isLaid_91 kI_0 rfl ?_
            have hr := Option.some.inj hr
            subst hr
            exact j_zret C hq hret rfl dX12_isLaid_92
          · have hr := ifT hc hr
            clear hc
            refine j_aload_n (q := 0) (pc' := 78) C dX12_isLaid_77 rfl rfl rfl ?_
            obtain ⟨x6, hx6, hr⟩ := ob hr
            refine j_getA (pc' := 81) C dX12_isLaid_78 fl_X12_8 hx6 rfl ?_
            refine j_iconst (v := 5) (pc' := 82) C dX12_isLaid_81 kI_5 rfl ?_
            obtain ⟨x7, hx7, hr⟩ := ob hr
            refine j_iald (pc' := 83) C dX12_isLaid_82 hx7 rfl ?_
            refine j_iconst (v := 3) (pc' := 84) C dX12_isLaid_83 kI_3 rfl ?_
            refine j_ic_ne (tgt := 91) (pc' := 87) C dX12_isLaid_84 rfl rfl (fun hc => ?_) (fun hc => ?_)
            · have hr := ifF hc hr
              clear hc
              refine j_iconst (v := 0) (pc' := 92) C dX12_isLaid_91 kI_0 rfl ?_
              have hr := Option.some.inj hr
              subst hr
              exact j_zret C hq hret rfl dX12_isLaid_92
            · have hr := ifT hc hr
              clear hc
              refine j_iconst (v := 1) (pc' := 88) C dX12_isLaid_87 kI_1 rfl ?_
              refine j_goto (tgt := 92) C dX12_isLaid_88 rfl ?_
              have hr := Option.some.inj hr
              subst hr
              exact j_zret C hq hret rfl dX12_isLaid_92
    refine j_lv [1, 2, 0] rfl (it_J (J := (fun s3 => Jd G 0 0 nx s3.2 27 [(0, .ref this), (1, .int p1), (2, .int s3.1)] [])) ?_ ho4)
    clear ho4
    intro s3 r5 hr is3 es3
    refine j_iload_n (q := 2) (pc' := 28) C dX12_isLaid_27 rfl rfl rfl ?_
    refine j_aload_n (q := 0) (pc' := 29) C dX12_isLaid_28 rfl rfl rfl ?_
    obtain ⟨x8, hx8, hr⟩ := ob hr
    refine j_getA (pc' := 32) C dX12_isLaid_29 fl_X12_8 hx8 rfl ?_
    refine j_bipush (v := 17) (pc' := 34) C dX12_isLaid_32 kB_17 rfl ?_
    obtain ⟨x9, hx9, hr⟩ := ob hr
    refine j_iald (pc' := 35) C dX12_isLaid_34 hx9 rfl ?_
    refine j_ic_ge (tgt := 63) (pc' := 38) C dX12_isLaid_35 rfl rfl (fun hc => ?_) (fun hc => ?_)
    · have hr := ifT hc hr
      clear hc
      have hr := es3 _ (Option.some.inj hr).symm
      subst hr
      exact j_lv [0, 1] rfl ko4
    · have hr := ifF hc hr
      clear hc
      refine j_iload_n (q := 1) (pc' := 39) C dX12_isLaid_38 rfl rfl rfl ?_
      refine j_iconst (v := 2) (pc' := 40) C dX12_isLaid_39 kI_2 rfl ?_
      refine j_ic_ne (tgt := 63) (pc' := 43) C dX12_isLaid_40 rfl rfl (fun hc => ?_) (fun hc => ?_)
      · have hr := ifF hc hr
        clear hc
        have hr := es3 _ (Option.some.inj hr).symm
        subst hr
        exact j_lv [0, 1] rfl ko4
      · have hr := ifT hc hr
        clear hc
        refine j_aload_n (q := 0) (pc' := 44) C dX12_isLaid_43 rfl rfl rfl ?_
        refine j_aload_n (q := 0) (pc' := 45) C dX12_isLaid_44 rfl rfl rfl ?_
        refine j_iload_n (q := 2) (pc' := 46) C dX12_isLaid_45 rfl rfl rfl ?_
        obtain ⟨z10, hz10, hr⟩ := ob hr
        obtain ⟨x11, hx11, hr⟩ := ob hr
        obtain ⟨fhz10, hz10⟩ := rcv_sp hz10
        refine j_callV (ci := 9) (As := [.int s3.1]) (rest := [.ref this]) (st1 := [.int x11, .ref this]) (pc' := 49) C ⟨wm_1708, wm_70⟩ rfl hz10 (c_X12_maskOf (nx := nx) hx11) yw_X12_maskOf wm_1706 rfl rfl (by decide) ⟨by decide, by decide⟩ dX12_isLaid_46 rfl rfl ?_
        refine j_aload_n (q := 0) (pc' := 50) C dX12_isLaid_49 rfl rfl rfl ?_
        refine j_iload_n (q := 2) (pc' := 51) C dX12_isLaid_50 rfl rfl rfl ?_
        obtain ⟨z12, hz12, hr⟩ := ob hr
        obtain ⟨x13, hx13, hr⟩ := ob hr
        obtain ⟨fhz12, hz12⟩ := rcv_sp hz12
        refine j_callV (ci := 9) (As := [.int s3.1]) (rest := [.int x11, .ref this]) (st1 := [.int x13, .int x11, .ref this]) (pc' := 54) C ⟨wm_1712, wm_71⟩ rfl hz12 (c_X12_bitsOf (nx := nx) hx13) yw_X12_bitsOf wm_1710 rfl rfl (by decide) ⟨by decide, by decide⟩ dX12_isLaid_51 rfl rfl ?_
        obtain ⟨z14, hz14, hr⟩ := ob hr
        obtain ⟨q15, hq15, hr⟩ := ob hr
        obtain ⟨fhz14, hz14⟩ := rcv_sp hz14
        refine j_callV (ci := 9) (As := [.int x11, .int x13]) (rest := []) (st1 := []) (pc' := 57) C ⟨wm_1916, wm_105⟩ rfl hz14 (c_X12_addJudged (nx := nx) hq15) yw_X12_addJudged wm_1914 rfl rfl (by decide) ⟨by decide, by decide⟩ dX12_isLaid_54 rfl rfl ?_
        refine j_iinc (q := 2) (v := 1) (lv' := [(2, .int (s3.1 + 1)), (0, .ref this), (1, .int p1)]) (pc' := 60) C dX12_isLaid_57 rfl kI_1 (by decide) rfl rfl ?_
        refine j_goto (tgt := 27) C dX12_isLaid_60 rfl ?_
        exact j_lv [1, 2, 0] rfl (is3 _ (Option.some.inj hr).symm)
  clear rj2
  have hr := hj2
  clear hj2
  refine j_if_ne (tgt := 16) (pc' := 9) C dX12_isLaid_6 rfl rfl (fun hc => ?_) (fun hc => ?_)
  · have hr := ifF hc hr
    clear hc
    refine j_iload_n (q := 1) (pc' := 17) C dX12_isLaid_16 rfl rfl rfl ?_
    refine j_iconst (v := 1) (pc' := 18) C dX12_isLaid_17 kI_1 rfl ?_
    refine j_ic_ne (tgt := 25) (pc' := 21) C dX12_isLaid_18 rfl rfl (fun hc => ?_) (fun hc => ?_)
    · have hr := ifF hc hr
      clear hc
      have hr := Option.some.inj hr
      subst hr
      exact j_lv [0, 1] rfl kj2
    · have hr := ifT hc hr
      clear hc
      refine j_aload_n (q := 0) (pc' := 22) C dX12_isLaid_21 rfl rfl rfl ?_
      obtain ⟨z16, hz16, hr⟩ := ob hr
      obtain ⟨q17, hq17, hr⟩ := ob hr
      obtain ⟨fhz16, hz16⟩ := rcv_sp hz16
      refine j_callV (ci := 9) (As := []) (rest := []) (st1 := []) (pc' := 25) C ⟨wm_1912, wm_104⟩ rfl hz16 (c_X12_layFence (nx := nx) hq17) yw_X12_layFence wm_1910 rfl rfl (by decide) ⟨by decide, by decide⟩ dX12_isLaid_22 rfl rfl ?_
      have hr := Option.some.inj hr
      subst hr
      exact j_lv [0, 1] rfl kj2
  · have hr := ifT hc hr
    clear hc
    refine j_aload_n (q := 0) (pc' := 10) C dX12_isLaid_9 rfl rfl rfl ?_
    obtain ⟨z18, hz18, hr⟩ := ob hr
    obtain ⟨q19, hq19, hr⟩ := ob hr
    obtain ⟨fhz18, hz18⟩ := rcv_sp hz18
    refine j_callV (ci := 9) (As := []) (rest := []) (st1 := []) (pc' := 13) C ⟨wm_2022, wm_111⟩ rfl hz18 (c_X12_layClaims (nx := nx) hq19) yw_X12_layClaims wm_2020 rfl rfl (by decide) ⟨by decide, by decide⟩ dX12_isLaid_10 rfl rfl ?_
    refine j_goto (tgt := 25) C dX12_isLaid_13 rfl ?_
    have hr := Option.some.inj hr
    subst hr
    exact j_lv [0, 1] rfl kj2
def m_X12_barredBy (ce : Ce) (this : Nat) (p1 : Int32) : Option (Int64) :=
  (gA ce 9 29 this).bind fun x1 =>
  (aI ce x1 p1).bind fun x2 =>
  (gA ce 9 30 this).bind fun x3 =>
  (aI ce x3 p1).bind fun x4 =>
  (rcv ce 9 this).bind fun z5 =>
  (m_X12_cubeSet ce this x2 x4).bind fun x6 =>
  some x6
set_option maxRecDepth 100000 in
set_option maxHeartbeats 4000000 in
theorem c_X12_barredBy {nx : Nat} {ce : Ce} {this : Nat} {p1 : Int32} {q : Int64} (hr : m_X12_barredBy ce this p1 = some q) : Ct yX12_barredBy cX12_barredBy 2 (some .long) 3 65 0 0 [.ref this, .int p1] nx ce (some (.long q)) ce := by
  unfold m_X12_barredBy at hr
  refine ct_of (by decide) (by decide) ?_
  intro G C hq hret hin
  show Jd G 0 0 nx ce 0 [(0, .ref this), (1, .int p1)] []
  refine j_aload_n (q := 0) (pc' := 1) C dX12_barredBy_0 rfl rfl rfl ?_
  refine j_aload_n (q := 0) (pc' := 2) C dX12_barredBy_1 rfl rfl rfl ?_
  obtain ⟨x1, hx1, hr⟩ := ob hr
  refine j_getA (pc' := 5) C dX12_barredBy_2 fl_X12_62 hx1 rfl ?_
  refine j_iload_n (q := 1) (pc' := 6) C dX12_barredBy_5 rfl rfl rfl ?_
  obtain ⟨x2, hx2, hr⟩ := ob hr
  refine j_iald (pc' := 7) C dX12_barredBy_6 hx2 rfl ?_
  refine j_aload_n (q := 0) (pc' := 8) C dX12_barredBy_7 rfl rfl rfl ?_
  obtain ⟨x3, hx3, hr⟩ := ob hr
  refine j_getA (pc' := 11) C dX12_barredBy_8 fl_X12_65 hx3 rfl ?_
  refine j_iload_n (q := 1) (pc' := 12) C dX12_barredBy_11 rfl rfl rfl ?_
  obtain ⟨x4, hx4, hr⟩ := ob hr
  refine j_iald (pc' := 13) C dX12_barredBy_12 hx4 rfl ?_
  obtain ⟨z5, hz5, hr⟩ := ob hr
  obtain ⟨x6, hx6, hr⟩ := ob hr
  obtain ⟨fhz5, hz5⟩ := rcv_sp hz5
  refine j_callV (ci := 9) (As := [.int x2, .int x4]) (rest := []) (st1 := [.long x6]) (pc' := 16) C ⟨wm_1716, wm_72⟩ rfl hz5 (c_X12_cubeSet (nx := nx) hx6) yw_X12_cubeSet wm_1714 rfl rfl (by decide) ⟨by decide, by decide⟩ dX12_barredBy_13 rfl rfl ?_
  have hr := Option.some.inj hr
  subst hr
  exact j_lret C hq hret dX12_barredBy_16
def m_X12_barredAll (ce : Ce) (this : Nat) : Option (Int64) :=
  (it (fun s1 =>
    (gI ce 9 31 this).bind fun x4 =>
    if x4 ≤ s1.2 then
      some (Sum.inr s1.1)
    else
      (rcv ce 9 this).bind fun z5 =>
      (m_X12_barredBy ce this s1.2).bind fun x6 =>
      some (Sum.inl ((s1.1 ||| x6), (s1.2 + 1)))
  ) FU (0, 0)).bind fun o2 =>
  some o2
set_option maxRecDepth 100000 in
set_option maxHeartbeats 4000000 in
theorem c_X12_barredAll {nx : Nat} {ce : Ce} {this : Nat} {q : Int64} (hr : m_X12_barredAll ce this = some q) : Ct yX12_barredAll cX12_barredAll 4 (some .long) 4 86 0 0 [.ref this] nx ce (some (.long q)) ce := by
  unfold m_X12_barredAll at hr
  refine ct_of (by decide) (by decide) ?_
  intro G C hq hret hin
  show Jd G 0 0 nx ce 0 [(0, .ref this)] []
  refine j_lconst (v := 0) (pc' := 1) C dX12_barredAll_0 kL_0 rfl ?_
  refine j_lstore_n (lv' := [(1, .long 0), (0, .ref this)]) (pc' := 2) C dX12_barredAll_1 rfl (by decide) rfl rfl ?_
  refine j_iconst (v := 0) (pc' := 3) C dX12_barredAll_2 kI_0 rfl ?_
  refine j_istore_n (lv' := [(3, .int 0), (1, .long 0), (0, .ref this)]) (pc' := 4) C dX12_barredAll_3 rfl (by decide) rfl rfl ?_
  obtain ⟨o2, ho2, ro2⟩ := ob hr
  have ko2 : Jd G 0 0 nx ce 26 [(1, .long o2)] [] := by
    have hr := ro2
    refine j_lload_n (q := 0) (pc' := 27) C dX12_barredAll_26 rfl rfl rfl ?_
    have hr := Option.some.inj hr
    subst hr
    exact j_lret C hq hret dX12_barredAll_27
  refine j_lv [2, 1, 0] rfl (it_J (J := (fun s1 => Jd G 0 0 nx ce 4 [(0, .ref this), (1, .long s1.1), (3, .int s1.2)] [])) ?_ ho2)
  clear ho2
  intro s1 r3 hr is1 es1
  refine j_iload_n (q := 2) (pc' := 5) C dX12_barredAll_4 rfl rfl rfl ?_
  refine j_aload_n (q := 0) (pc' := 6) C dX12_barredAll_5 rfl rfl rfl ?_
  obtain ⟨x4, hx4, hr⟩ := ob hr
  refine j_getI (pc' := 9) C dX12_barredAll_6 fl_X12_390 hx4 rfl ?_
  refine j_ic_ge (tgt := 26) (pc' := 12) C dX12_barredAll_9 rfl rfl (fun hc => ?_) (fun hc => ?_)
  · have hr := ifT hc hr
    clear hc
    have hr := es1 _ (Option.some.inj hr).symm
    subst hr
    exact j_lv [1] rfl ko2
  · have hr := ifF hc hr
    clear hc
    refine j_lload_n (q := 1) (pc' := 13) C dX12_barredAll_12 rfl rfl rfl ?_
    refine j_aload_n (q := 0) (pc' := 14) C dX12_barredAll_13 rfl rfl rfl ?_
    refine j_iload_n (q := 2) (pc' := 15) C dX12_barredAll_14 rfl rfl rfl ?_
    obtain ⟨z5, hz5, hr⟩ := ob hr
    obtain ⟨x6, hx6, hr⟩ := ob hr
    obtain ⟨fhz5, hz5⟩ := rcv_sp hz5
    refine j_callV (ci := 9) (As := [.int s1.2]) (rest := [.long s1.1]) (st1 := [.long x6, .long s1.1]) (pc' := 18) C ⟨wm_2034, wm_114⟩ rfl hz5 (c_X12_barredBy (nx := nx) hx6) yw_X12_barredBy wm_2032 rfl rfl (by decide) ⟨by decide, by decide⟩ dX12_barredAll_15 rfl rfl ?_
    refine j_lor (pc' := 19) C dX12_barredAll_18 rfl ?_
    refine j_lstore_n (lv' := [(1, .long (s1.1 ||| x6)), (0, .ref this), (3, .int s1.2)]) (pc' := 20) C dX12_barredAll_19 rfl (by decide) rfl rfl ?_
    refine j_iinc (q := 2) (v := 1) (lv' := [(3, .int (s1.2 + 1)), (1, .long (s1.1 ||| x6)), (0, .ref this)]) (pc' := 23) C dX12_barredAll_20 rfl kI_1 (by decide) rfl rfl ?_
    refine j_goto (tgt := 4) C dX12_barredAll_23 rfl ?_
    exact j_lv [2, 1, 0] rfl (is1 _ (Option.some.inj hr).symm)
def m_X12_leadIn (ce : Ce) (this : Nat) (p1 : Int64) : Option (Int32) :=
  (it (fun s1 =>
    (rcv ce 9 this).bind fun z4 =>
    (m_X12_states ce this).bind fun x5 =>
    if x5 ≤ s1 then
      some (Sum.inr (Sum.inr ()))
    else
      (m_X12_has p1 s1).bind fun x6 =>
      if x6 = 0 then
        (rcv ce 9 this).bind fun z7 =>
        (m_X12_after ce this s1).bind fun x8 =>
        if (lg_cmp (x8 &&& p1) 0) = 0 then
          some (Sum.inl (s1 + 1))
        else
          some (Sum.inr (Sum.inl s1))
      else
        some (Sum.inl (s1 + 1))
  ) FU 0).bind fun o2 =>
  Sum.elim (fun wo2 => some wo2) (fun vo2 =>
    some (-1)
  ) o2
set_option maxRecDepth 100000 in
set_option maxHeartbeats 4000000 in
theorem c_X12_leadIn {nx : Nat} {ce : Ce} {this : Nat} {p1 : Int64} {q : Int32} (hr : m_X12_leadIn ce this p1 = some q) : Ct yX12_leadIn cX12_leadIn 4 (some .int) 3 68 0 0 [.ref this, .long p1] nx ce (some (.int q)) ce := by
  unfold m_X12_leadIn at hr
  refine ct_of (by decide) (by decide) ?_
  intro G C hq hret hin
  show Jd G 0 0 nx ce 0 [(0, .ref this), (1, .long p1)] []
  refine j_iconst (v := 0) (pc' := 1) C dX12_leadIn_0 kI_0 rfl ?_
  refine j_istore_n (lv' := [(3, .int 0), (0, .ref this), (1, .long p1)]) (pc' := 2) C dX12_leadIn_1 rfl (by decide) rfl rfl ?_
  obtain ⟨o2, ho2, ro2⟩ := ob hr
  have ko2 : ∀ vo2, o2 = Sum.inr vo2 → Jd G 0 0 nx ce 38 [] [] := by
    intro vo2 eo2
    rw [eo2] at ro2
    have hr := elR ro2
    refine j_iconst (v := -1) (pc' := 39) C dX12_leadIn_38 kI_m1 rfl ?_
    have hr := Option.some.inj hr
    subst hr
    exact j_iret C hq hret dX12_leadIn_39
  refine j_lv [1, 2, 0] rfl (it_J (J := (fun s1 => Jd G 0 0 nx ce 2 [(0, .ref this), (1, .long p1), (3, .int s1)] [])) ?_ ho2)
  clear ho2
  intro s1 r3 hr is1 es1
  refine j_iload_n (q := 2) (pc' := 3) C dX12_leadIn_2 rfl rfl rfl ?_
  refine j_aload_n (q := 0) (pc' := 4) C dX12_leadIn_3 rfl rfl rfl ?_
  obtain ⟨z4, hz4, hr⟩ := ob hr
  obtain ⟨x5, hx5, hr⟩ := ob hr
  obtain ⟨fhz4, hz4⟩ := rcv_sp hz4
  refine j_callV (ci := 9) (As := []) (rest := [.int s1]) (st1 := [.int x5, .int s1]) (pc' := 7) C ⟨wm_1632, wm_57⟩ rfl hz4 (c_X12_states (nx := nx) hx5) yw_X12_states wm_1630 rfl rfl (by decide) ⟨by decide, by decide⟩ dX12_leadIn_4 rfl rfl ?_
  refine j_ic_ge (tgt := 38) (pc' := 10) C dX12_leadIn_7 rfl rfl (fun hc => ?_) (fun hc => ?_)
  · have hr := ifT hc hr
    clear hc
    have hr := es1 _ (Option.some.inj hr).symm
    subst hr
    exact j_lv [] rfl (ko2 _ rfl)
  · have hr := ifF hc hr
    clear hc
    refine j_lload_n (q := 1) (pc' := 11) C dX12_leadIn_10 rfl rfl rfl ?_
    refine j_iload_n (q := 2) (pc' := 12) C dX12_leadIn_11 rfl rfl rfl ?_
    obtain ⟨x6, hx6, hr⟩ := ob hr
    refine j_callS (As := [.long p1, .int s1]) (rest := []) (st1 := [.int x6]) (pc' := 15) C wm_1635 (c_X12_has (nx := nx) (ce := ce) hx6) yw_X12_has wm_1634 rfl rfl (by decide) ⟨by decide, by decide⟩ dX12_leadIn_12 rfl rfl ?_
    refine j_if_ne (tgt := 32) (pc' := 18) C dX12_leadIn_15 rfl rfl (fun hc => ?_) (fun hc => ?_)
    · have hr := ifF hc hr
      clear hc
      refine j_iinc (q := 2) (v := 1) (lv' := [(3, .int (s1 + 1)), (0, .ref this), (1, .long p1)]) (pc' := 35) C dX12_leadIn_32 rfl kI_1 (by decide) rfl rfl ?_
      refine j_goto (tgt := 2) C dX12_leadIn_35 rfl ?_
      exact j_lv [1, 2, 0] rfl (is1 _ (Option.some.inj hr).symm)
    · have hr := ifT hc hr
      clear hc
      refine j_aload_n (q := 0) (pc' := 19) C dX12_leadIn_18 rfl rfl rfl ?_
      refine j_iload_n (q := 2) (pc' := 20) C dX12_leadIn_19 rfl rfl rfl ?_
      obtain ⟨z7, hz7, hr⟩ := ob hr
      obtain ⟨x8, hx8, hr⟩ := ob hr
      obtain ⟨fhz7, hz7⟩ := rcv_sp hz7
      refine j_callV (ci := 9) (As := [.int s1]) (rest := []) (st1 := [.long x8]) (pc' := 23) C ⟨wm_1751, wm_80⟩ rfl hz7 (c_X12_after (nx := nx) hx8) yw_X12_after wm_1749 rfl rfl (by decide) ⟨by decide, by decide⟩ dX12_leadIn_20 rfl rfl ?_
      refine j_lload_n (q := 1) (pc' := 24) C dX12_leadIn_23 rfl rfl rfl ?_
      refine j_land (pc' := 25) C dX12_leadIn_24 rfl ?_
      refine j_lconst (v := 0) (pc' := 26) C dX12_leadIn_25 kL_0 rfl ?_
      refine j_lcmp (pc' := 27) C dX12_leadIn_26 rfl ?_
      refine j_if_eq (tgt := 32) (pc' := 30) C dX12_leadIn_27 rfl rfl (fun hc => ?_) (fun hc => ?_)
      · have hr := ifT hc hr
        clear hc
        refine j_iinc (q := 2) (v := 1) (lv' := [(3, .int (s1 + 1)), (0, .ref this), (1, .long p1)]) (pc' := 35) C dX12_leadIn_32 rfl kI_1 (by decide) rfl rfl ?_
        refine j_goto (tgt := 2) C dX12_leadIn_35 rfl ?_
        exact j_lv [1, 2, 0] rfl (is1 _ (Option.some.inj hr).symm)
      · have hr := ifF hc hr
        clear hc
        refine j_iload_n (q := 2) (pc' := 31) C dX12_leadIn_30 rfl rfl rfl ?_
        have hr := es1 _ (Option.some.inj hr).symm
        subst hr
        have hr := elL ro2
        have hr := Option.some.inj hr
        subst hr
        exact j_iret C hq hret dX12_leadIn_31
def m_X12_judge (ce : Ce) (this : Nat) (p1 : Int64) : Option (Int32) :=
  (rcv ce 9 this).bind fun z1 =>
  (m_X12_starts ce this).bind fun x2 =>
  if (lg_cmp (p1 &&& x2) 0) = 0 then
    (rcv ce 9 this).bind fun z3 =>
    (m_X12_leadIn ce this p1).bind fun x4 =>
    if x4 = (-1) then
      (rcv ce 9 this).bind fun z5 =>
      (m_X12_aims ce this).bind fun x6 =>
      if (lg_cmp (x6 &&& (p1 ^^^ (-1))) 0) = 0 then
        some 0
      else
        some 3
    else
      some 2
  else
    some 1
set_option maxRecDepth 100000 in
set_option maxHeartbeats 4000000 in
theorem c_X12_judge {nx : Nat} {ce : Ce} {this : Nat} {p1 : Int64} {q : Int32} (hr : m_X12_judge ce this p1 = some q) : Ct yX12_judge cX12_judge 3 (some .int) 4 91 0 0 [.ref this, .long p1] nx ce (some (.int q)) ce := by
  unfold m_X12_judge at hr
  refine ct_of (by decide) (by decide) ?_
  intro G C hq hret hin
  show Jd G 0 0 nx ce 0 [(0, .ref this), (1, .long p1)] []
  refine j_lload_n (q := 1) (pc' := 1) C dX12_judge_0 rfl rfl rfl ?_
  refine j_aload_n (q := 0) (pc' := 2) C dX12_judge_1 rfl rfl rfl ?_
  obtain ⟨z1, hz1, hr⟩ := ob hr
  obtain ⟨x2, hx2, hr⟩ := ob hr
  obtain ⟨fhz1, hz1⟩ := rcv_sp hz1
  refine j_callV (ci := 9) (As := []) (rest := [.long p1]) (st1 := [.long x2, .long p1]) (pc' := 5) C ⟨wm_1700, wm_68⟩ rfl hz1 (c_X12_starts (nx := nx) hx2) yw_X12_starts wm_1698 rfl rfl (by decide) ⟨by decide, by decide⟩ dX12_judge_2 rfl rfl ?_
  refine j_land (pc' := 6) C dX12_judge_5 rfl ?_
  refine j_lconst (v := 0) (pc' := 7) C dX12_judge_6 kL_0 rfl ?_
  refine j_lcmp (pc' := 8) C dX12_judge_7 rfl ?_
  refine j_if_eq (tgt := 13) (pc' := 11) C dX12_judge_8 rfl rfl (fun hc => ?_) (fun hc => ?_)
  · have hr := ifT hc hr
    clear hc
    refine j_aload_n (q := 0) (pc' := 14) C dX12_judge_13 rfl rfl rfl ?_
    refine j_lload_n (q := 1) (pc' := 15) C dX12_judge_14 rfl rfl rfl ?_
    obtain ⟨z3, hz3, hr⟩ := ob hr
    obtain ⟨x4, hx4, hr⟩ := ob hr
    obtain ⟨fhz3, hz3⟩ := rcv_sp hz3
    refine j_callV (ci := 9) (As := [.long p1]) (rest := []) (st1 := [.int x4]) (pc' := 18) C ⟨wm_2042, wm_116⟩ rfl hz3 (c_X12_leadIn (nx := nx) hx4) yw_X12_leadIn wm_2040 rfl rfl (by decide) ⟨by decide, by decide⟩ dX12_judge_15 rfl rfl ?_
    refine j_iconst (v := -1) (pc' := 19) C dX12_judge_18 kI_m1 rfl ?_
    refine j_ic_eq (tgt := 24) (pc' := 22) C dX12_judge_19 rfl rfl (fun hc => ?_) (fun hc => ?_)
    · have hr := ifT hc hr
      clear hc
      refine j_aload_n (q := 0) (pc' := 25) C dX12_judge_24 rfl rfl rfl ?_
      obtain ⟨z5, hz5, hr⟩ := ob hr
      obtain ⟨x6, hx6, hr⟩ := ob hr
      obtain ⟨fhz5, hz5⟩ := rcv_sp hz5
      refine j_callV (ci := 9) (As := []) (rest := []) (st1 := [.long x6]) (pc' := 28) C ⟨wm_1687, wm_65⟩ rfl hz5 (c_X12_aims (nx := nx) hx6) yw_X12_aims wm_1685 rfl rfl (by decide) ⟨by decide, by decide⟩ dX12_judge_25 rfl rfl ?_
      refine j_lload_n (q := 1) (pc' := 29) C dX12_judge_28 rfl rfl rfl ?_
      refine j_ldc2 (pc' := 32) C dX12_judge_29 wm_1588 rfl ?_
      refine j_lxor (pc' := 33) C dX12_judge_32 rfl ?_
      refine j_land (pc' := 34) C dX12_judge_33 rfl ?_
      refine j_lconst (v := 0) (pc' := 35) C dX12_judge_34 kL_0 rfl ?_
      refine j_lcmp (pc' := 36) C dX12_judge_35 rfl ?_
      refine j_if_eq (tgt := 43) (pc' := 39) C dX12_judge_36 rfl rfl (fun hc => ?_) (fun hc => ?_)
      · have hr := ifT hc hr
        clear hc
        refine j_iconst (v := 0) (pc' := 44) C dX12_judge_43 kI_0 rfl ?_
        have hr := Option.some.inj hr
        subst hr
        exact j_iret C hq hret dX12_judge_44
      · have hr := ifF hc hr
        clear hc
        refine j_iconst (v := 3) (pc' := 40) C dX12_judge_39 kI_3 rfl ?_
        refine j_goto (tgt := 44) C dX12_judge_40 rfl ?_
        have hr := Option.some.inj hr
        subst hr
        exact j_iret C hq hret dX12_judge_44
    · have hr := ifF hc hr
      clear hc
      refine j_iconst (v := 2) (pc' := 23) C dX12_judge_22 kI_2 rfl ?_
      have hr := Option.some.inj hr
      subst hr
      exact j_iret C hq hret dX12_judge_23
  · have hr := ifF hc hr
    clear hc
    refine j_iconst (v := 1) (pc' := 12) C dX12_judge_11 kI_1 rfl ?_
    have hr := Option.some.inj hr
    subst hr
    exact j_iret C hq hret dX12_judge_12
def m_X12_claim (ce : Ce) (this : Nat) (p1 : Int32) (p2 : Int32) : Option (Int32 × Ce) :=
  (rcv ce 9 this).bind fun z1 =>
  (m_X12_isMask ce this p1 p2).bind fun x2 =>
  if x2 = 0 then
    some ((-1), ce)
  else
    (gA ce 9 0 this).bind fun x3 =>
    (aI ce x3 16).bind fun x4 =>
    if x4 = 12 then
      some ((-1), ce)
    else
      (rcv ce 9 this).bind fun z5 =>
      (m_X12_keep ce this).bind fun q6 =>
      (gA q6.2 9 0 this).bind fun x7 =>
      (gA q6.2 9 0 this).bind fun x8 =>
      (aI q6.2 x8 16).bind fun x9 =>
      (sI q6.2 x7 (92 + x9) ((p1 <<< (6 &&& 31)) ||| p2)).bind fun c10 =>
      (gA c10 9 0 this).bind fun x11 =>
      (aI c10 x11 16).bind fun x12 =>
      (sI c10 x11 16 (x12 + 1)).bind fun c13 =>
      (gA c13 9 0 this).bind fun x14 =>
      (aI c13 x14 16).bind fun x15 =>
      some (x15, c13)
set_option maxRecDepth 100000 in
set_option maxHeartbeats 4000000 in
theorem c_X12_claim {nx : Nat} {ce : Ce} {this : Nat} {p1 : Int32} {p2 : Int32} {q : Int32 × Ce} (hr : m_X12_claim ce this p1 p2 = some q) : Ct yX12_claim cX12_claim 3 (some .int) 2 44 0 0 [.ref this, .int p1, .int p2] nx ce (some (.int q.1)) q.2 := by
  unfold m_X12_claim at hr
  refine ct_of (by decide) (by decide) ?_
  intro G C hq hret hin
  show Jd G 0 0 nx ce 0 [(0, .ref this), (1, .int p1), (2, .int p2)] []
  refine j_aload_n (q := 0) (pc' := 1) C dX12_claim_0 rfl rfl rfl ?_
  refine j_iload_n (q := 1) (pc' := 2) C dX12_claim_1 rfl rfl rfl ?_
  refine j_iload_n (q := 2) (pc' := 3) C dX12_claim_2 rfl rfl rfl ?_
  obtain ⟨z1, hz1, hr⟩ := ob hr
  obtain ⟨x2, hx2, hr⟩ := ob hr
  obtain ⟨fhz1, hz1⟩ := rcv_sp hz1
  refine j_callV (ci := 9) (As := [.int p1, .int p2]) (rest := []) (st1 := [.int x2]) (pc' := 6) C ⟨wm_1821, wm_95⟩ rfl hz1 (c_X12_isMask (nx := nx) hx2) yw_X12_isMask wm_1819 rfl rfl (by decide) ⟨by decide, by decide⟩ dX12_claim_3 rfl rfl ?_
  refine j_if_eq (tgt := 21) (pc' := 9) C dX12_claim_6 rfl rfl (fun hc => ?_) (fun hc => ?_)
  · have hr := ifT hc hr
    clear hc
    refine j_iconst (v := -1) (pc' := 22) C dX12_claim_21 kI_m1 rfl ?_
    have hr := Option.some.inj hr
    subst hr
    exact j_iret C hq hret dX12_claim_22
  · have hr := ifF hc hr
    clear hc
    refine j_aload_n (q := 0) (pc' := 10) C dX12_claim_9 rfl rfl rfl ?_
    obtain ⟨x3, hx3, hr⟩ := ob hr
    refine j_getA (pc' := 13) C dX12_claim_10 fl_X12_8 hx3 rfl ?_
    refine j_bipush (v := 16) (pc' := 15) C dX12_claim_13 kB_16 rfl ?_
    obtain ⟨x4, hx4, hr⟩ := ob hr
    refine j_iald (pc' := 16) C dX12_claim_15 hx4 rfl ?_
    refine j_bipush (v := 12) (pc' := 18) C dX12_claim_16 kB_12 rfl ?_
    refine j_ic_ne (tgt := 23) (pc' := 21) C dX12_claim_18 rfl rfl (fun hc => ?_) (fun hc => ?_)
    · have hr := ifF hc hr
      clear hc
      refine j_aload_n (q := 0) (pc' := 24) C dX12_claim_23 rfl rfl rfl ?_
      obtain ⟨z5, hz5, hr⟩ := ob hr
      obtain ⟨q6, hq6, hr⟩ := ob hr
      obtain ⟨fhz5, hz5⟩ := rcv_sp hz5
      refine j_callV (ci := 9) (As := []) (rest := []) (st1 := []) (pc' := 27) C ⟨wm_1618, wm_55⟩ rfl hz5 (c_X12_keep (nx := nx) hq6) yw_X12_keep wm_1616 rfl rfl (by decide) ⟨by decide, by decide⟩ dX12_claim_24 rfl rfl ?_
      refine j_aload_n (q := 0) (pc' := 28) C dX12_claim_27 rfl rfl rfl ?_
      obtain ⟨x7, hx7, hr⟩ := ob hr
      refine j_getA (pc' := 31) C dX12_claim_28 fl_X12_8 hx7 rfl ?_
      refine j_bipush (v := 92) (pc' := 33) C dX12_claim_31 kB_92 rfl ?_
      refine j_aload_n (q := 0) (pc' := 34) C dX12_claim_33 rfl rfl rfl ?_
      obtain ⟨x8, hx8, hr⟩ := ob hr
      refine j_getA (pc' := 37) C dX12_claim_34 fl_X12_8 hx8 rfl ?_
      refine j_bipush (v := 16) (pc' := 39) C dX12_claim_37 kB_16 rfl ?_
      obtain ⟨x9, hx9, hr⟩ := ob hr
      refine j_iald (pc' := 40) C dX12_claim_39 hx9 rfl ?_
      refine j_iadd (pc' := 41) C dX12_claim_40 rfl ?_
      refine j_iload_n (q := 1) (pc' := 42) C dX12_claim_41 rfl rfl rfl ?_
      refine j_bipush (v := 6) (pc' := 44) C dX12_claim_42 kB_6 rfl ?_
      refine j_ishl (pc' := 45) C dX12_claim_44 rfl ?_
      refine j_iload_n (q := 2) (pc' := 46) C dX12_claim_45 rfl rfl rfl ?_
      refine j_ior (pc' := 47) C dX12_claim_46 rfl ?_
      obtain ⟨c10, hc10, hr⟩ := ob hr
      refine j_iast (pc' := 48) C dX12_claim_47 hc10 rfl ?_
      refine j_aload_n (q := 0) (pc' := 49) C dX12_claim_48 rfl rfl rfl ?_
      obtain ⟨x11, hx11, hr⟩ := ob hr
      refine j_getA (pc' := 52) C dX12_claim_49 fl_X12_8 hx11 rfl ?_
      refine j_bipush (v := 16) (pc' := 54) C dX12_claim_52 kB_16 rfl ?_
      refine j_dup2 (pc' := 55) C dX12_claim_54 rfl rfl rfl ?_
      obtain ⟨x12, hx12, hr⟩ := ob hr
      refine j_iald (pc' := 56) C dX12_claim_55 hx12 rfl ?_
      refine j_iconst (v := 1) (pc' := 57) C dX12_claim_56 kI_1 rfl ?_
      refine j_iadd (pc' := 58) C dX12_claim_57 rfl ?_
      obtain ⟨c13, hc13, hr⟩ := ob hr
      refine j_iast (pc' := 59) C dX12_claim_58 hc13 rfl ?_
      refine j_aload_n (q := 0) (pc' := 60) C dX12_claim_59 rfl rfl rfl ?_
      obtain ⟨x14, hx14, hr⟩ := ob hr
      refine j_getA (pc' := 63) C dX12_claim_60 fl_X12_8 hx14 rfl ?_
      refine j_bipush (v := 16) (pc' := 65) C dX12_claim_63 kB_16 rfl ?_
      obtain ⟨x15, hx15, hr⟩ := ob hr
      refine j_iald (pc' := 66) C dX12_claim_65 hx15 rfl ?_
      have hr := Option.some.inj hr
      subst hr
      exact j_iret C hq hret dX12_claim_66
    · have hr := ifT hc hr
      clear hc
      refine j_iconst (v := -1) (pc' := 22) C dX12_claim_21 kI_m1 rfl ?_
      have hr := Option.some.inj hr
      subst hr
      exact j_iret C hq hret dX12_claim_22
def m_X12_adopt (ce : Ce) (this : Nat) : Option (Int32 × Ce) :=
  (rcv ce 9 this).bind fun z1 =>
  (m_X12_layFence ce this).bind fun q2 =>
  (gA q2.2 9 0 this).bind fun x3 =>
  (aI q2.2 x3 5).bind fun x4 =>
  if x4 = 3 then
    (gI q2.2 9 31 this).bind fun x5 =>
    if x5 ≤ 12 then
      (rcv q2.2 9 this).bind fun z6 =>
      (m_X12_keep q2.2 this).bind fun q7 =>
      (it (fun s8 =>
        (gI s8.2 9 31 this).bind fun x15 =>
        if x15 ≤ s8.1 then
          some (Sum.inr ((), s8.2))
        else
          (gA s8.2 9 0 this).bind fun x16 =>
          (gA s8.2 9 29 this).bind fun x17 =>
          (aI s8.2 x17 s8.1).bind fun x18 =>
          (gA s8.2 9 30 this).bind fun x19 =>
          (aI s8.2 x19 s8.1).bind fun x20 =>
          (sI s8.2 x16 (92 + s8.1) ((x18 <<< (6 &&& 31)) ||| x20)).bind fun c21 =>
          some (Sum.inl ((s8.1 + 1), c21))
      ) FU (0, q7.2)).bind fun o9 =>
      (gA o9.2 9 0 this).bind fun x11 =>
      (gI o9.2 9 31 this).bind fun x12 =>
      (sI o9.2 x11 16 x12).bind fun c13 =>
      (gI c13 9 31 this).bind fun x14 =>
      some (x14, c13)
    else
      some ((-1), q2.2)
  else
    some ((-1), q2.2)
set_option maxRecDepth 100000 in
set_option maxHeartbeats 4000000 in
theorem c_X12_adopt {nx : Nat} {ce : Ce} {this : Nat} {q : Int32 × Ce} (hr : m_X12_adopt ce this = some q) : Ct yX12_adopt cX12_adopt 2 (some .int) 2 44 0 0 [.ref this] nx ce (some (.int q.1)) q.2 := by
  unfold m_X12_adopt at hr
  refine ct_of (by decide) (by decide) ?_
  intro G C hq hret hin
  show Jd G 0 0 nx ce 0 [(0, .ref this)] []
  refine j_aload_n (q := 0) (pc' := 1) C dX12_adopt_0 rfl rfl rfl ?_
  obtain ⟨z1, hz1, hr⟩ := ob hr
  obtain ⟨q2, hq2, hr⟩ := ob hr
  obtain ⟨fhz1, hz1⟩ := rcv_sp hz1
  refine j_callV (ci := 9) (As := []) (rest := []) (st1 := []) (pc' := 4) C ⟨wm_1912, wm_104⟩ rfl hz1 (c_X12_layFence (nx := nx) hq2) yw_X12_layFence wm_1910 rfl rfl (by decide) ⟨by decide, by decide⟩ dX12_adopt_1 rfl rfl ?_
  refine j_aload_n (q := 0) (pc' := 5) C dX12_adopt_4 rfl rfl rfl ?_
  obtain ⟨x3, hx3, hr⟩ := ob hr
  refine j_getA (pc' := 8) C dX12_adopt_5 fl_X12_8 hx3 rfl ?_
  refine j_iconst (v := 5) (pc' := 9) C dX12_adopt_8 kI_5 rfl ?_
  obtain ⟨x4, hx4, hr⟩ := ob hr
  refine j_iald (pc' := 10) C dX12_adopt_9 hx4 rfl ?_
  refine j_iconst (v := 3) (pc' := 11) C dX12_adopt_10 kI_3 rfl ?_
  refine j_ic_ne (tgt := 23) (pc' := 14) C dX12_adopt_11 rfl rfl (fun hc => ?_) (fun hc => ?_)
  · have hr := ifF hc hr
    clear hc
    refine j_iconst (v := -1) (pc' := 24) C dX12_adopt_23 kI_m1 rfl ?_
    have hr := Option.some.inj hr
    subst hr
    exact j_iret C hq hret dX12_adopt_24
  · have hr := ifT hc hr
    clear hc
    refine j_aload_n (q := 0) (pc' := 15) C dX12_adopt_14 rfl rfl rfl ?_
    obtain ⟨x5, hx5, hr⟩ := ob hr
    refine j_getI (pc' := 18) C dX12_adopt_15 fl_X12_390 hx5 rfl ?_
    refine j_bipush (v := 12) (pc' := 20) C dX12_adopt_18 kB_12 rfl ?_
    refine j_ic_le (tgt := 25) (pc' := 23) C dX12_adopt_20 rfl rfl (fun hc => ?_) (fun hc => ?_)
    · have hr := ifT hc hr
      clear hc
      refine j_aload_n (q := 0) (pc' := 26) C dX12_adopt_25 rfl rfl rfl ?_
      obtain ⟨z6, hz6, hr⟩ := ob hr
      obtain ⟨q7, hq7, hr⟩ := ob hr
      obtain ⟨fhz6, hz6⟩ := rcv_sp hz6
      refine j_callV (ci := 9) (As := []) (rest := []) (st1 := []) (pc' := 29) C ⟨wm_1618, wm_55⟩ rfl hz6 (c_X12_keep (nx := nx) hq7) yw_X12_keep wm_1616 rfl rfl (by decide) ⟨by decide, by decide⟩ dX12_adopt_26 rfl rfl ?_
      refine j_iconst (v := 0) (pc' := 30) C dX12_adopt_29 kI_0 rfl ?_
      refine j_istore_n (lv' := [(1, .int 0), (0, .ref this)]) (pc' := 31) C dX12_adopt_30 rfl (by decide) rfl rfl ?_
      obtain ⟨o9, ho9, ro9⟩ := ob hr
      have ko9 : Jd G 0 0 nx o9.2 70 [(0, .ref this)] [] := by
        have hr := ro9
        refine j_aload_n (q := 0) (pc' := 71) C dX12_adopt_70 rfl rfl rfl ?_
        obtain ⟨x11, hx11, hr⟩ := ob hr
        refine j_getA (pc' := 74) C dX12_adopt_71 fl_X12_8 hx11 rfl ?_
        refine j_bipush (v := 16) (pc' := 76) C dX12_adopt_74 kB_16 rfl ?_
        refine j_aload_n (q := 0) (pc' := 77) C dX12_adopt_76 rfl rfl rfl ?_
        obtain ⟨x12, hx12, hr⟩ := ob hr
        refine j_getI (pc' := 80) C dX12_adopt_77 fl_X12_390 hx12 rfl ?_
        obtain ⟨c13, hc13, hr⟩ := ob hr
        refine j_iast (pc' := 81) C dX12_adopt_80 hc13 rfl ?_
        refine j_aload_n (q := 0) (pc' := 82) C dX12_adopt_81 rfl rfl rfl ?_
        obtain ⟨x14, hx14, hr⟩ := ob hr
        refine j_getI (pc' := 85) C dX12_adopt_82 fl_X12_390 hx14 rfl ?_
        have hr := Option.some.inj hr
        subst hr
        exact j_iret C hq hret dX12_adopt_85
      refine j_lv [1, 0] rfl (it_J (J := (fun s8 => Jd G 0 0 nx s8.2 31 [(0, .ref this), (1, .int s8.1)] [])) ?_ ho9)
      clear ho9
      intro s8 r10 hr is8 es8
      refine j_iload_n (q := 1) (pc' := 32) C dX12_adopt_31 rfl rfl rfl ?_
      refine j_aload_n (q := 0) (pc' := 33) C dX12_adopt_32 rfl rfl rfl ?_
      obtain ⟨x15, hx15, hr⟩ := ob hr
      refine j_getI (pc' := 36) C dX12_adopt_33 fl_X12_390 hx15 rfl ?_
      refine j_ic_ge (tgt := 70) (pc' := 39) C dX12_adopt_36 rfl rfl (fun hc => ?_) (fun hc => ?_)
      · have hr := ifT hc hr
        clear hc
        have hr := es8 _ (Option.some.inj hr).symm
        subst hr
        exact j_lv [0] rfl ko9
      · have hr := ifF hc hr
        clear hc
        refine j_aload_n (q := 0) (pc' := 40) C dX12_adopt_39 rfl rfl rfl ?_
        obtain ⟨x16, hx16, hr⟩ := ob hr
        refine j_getA (pc' := 43) C dX12_adopt_40 fl_X12_8 hx16 rfl ?_
        refine j_bipush (v := 92) (pc' := 45) C dX12_adopt_43 kB_92 rfl ?_
        refine j_iload_n (q := 1) (pc' := 46) C dX12_adopt_45 rfl rfl rfl ?_
        refine j_iadd (pc' := 47) C dX12_adopt_46 rfl ?_
        refine j_aload_n (q := 0) (pc' := 48) C dX12_adopt_47 rfl rfl rfl ?_
        obtain ⟨x17, hx17, hr⟩ := ob hr
        refine j_getA (pc' := 51) C dX12_adopt_48 fl_X12_62 hx17 rfl ?_
        refine j_iload_n (q := 1) (pc' := 52) C dX12_adopt_51 rfl rfl rfl ?_
        obtain ⟨x18, hx18, hr⟩ := ob hr
        refine j_iald (pc' := 53) C dX12_adopt_52 hx18 rfl ?_
        refine j_bipush (v := 6) (pc' := 55) C dX12_adopt_53 kB_6 rfl ?_
        refine j_ishl (pc' := 56) C dX12_adopt_55 rfl ?_
        refine j_aload_n (q := 0) (pc' := 57) C dX12_adopt_56 rfl rfl rfl ?_
        obtain ⟨x19, hx19, hr⟩ := ob hr
        refine j_getA (pc' := 60) C dX12_adopt_57 fl_X12_65 hx19 rfl ?_
        refine j_iload_n (q := 1) (pc' := 61) C dX12_adopt_60 rfl rfl rfl ?_
        obtain ⟨x20, hx20, hr⟩ := ob hr
        refine j_iald (pc' := 62) C dX12_adopt_61 hx20 rfl ?_
        refine j_ior (pc' := 63) C dX12_adopt_62 rfl ?_
        obtain ⟨c21, hc21, hr⟩ := ob hr
        refine j_iast (pc' := 64) C dX12_adopt_63 hc21 rfl ?_
        refine j_iinc (q := 1) (v := 1) (lv' := [(1, .int (s8.1 + 1)), (0, .ref this)]) (pc' := 67) C dX12_adopt_64 rfl kI_1 (by decide) rfl rfl ?_
        refine j_goto (tgt := 31) C dX12_adopt_67 rfl ?_
        exact j_lv [1, 0] rfl (is8 _ (Option.some.inj hr).symm)
    · have hr := ifF hc hr
      clear hc
      refine j_iconst (v := -1) (pc' := 24) C dX12_adopt_23 kI_m1 rfl ?_
      have hr := Option.some.inj hr
      subst hr
      exact j_iret C hq hret dX12_adopt_24
def m_X12_unclaim (ce : Ce) (this : Nat) (p1 : Int32) : Option (Int32 × Ce) :=
  (gA ce 9 0 this).bind fun x1 =>
  (aI ce x1 16).bind fun x2 =>
  (m_X12_isIn p1 0 (x2 - 1)).bind fun x3 =>
  if x3 = 0 then
    some ((-1), ce)
  else
    (rcv ce 9 this).bind fun z4 =>
    (m_X12_keep ce this).bind fun q5 =>
    (it (fun s6 =>
      (gA s6.2 9 0 this).bind fun x14 =>
      (aI s6.2 x14 16).bind fun x15 =>
      if (x15 - 1) ≤ s6.1 then
        some (Sum.inr ((), s6.2))
      else
        (gA s6.2 9 0 this).bind fun x16 =>
        (gA s6.2 9 0 this).bind fun x17 =>
        (aI s6.2 x17 ((92 + s6.1) + 1)).bind fun x18 =>
        (sI s6.2 x16 (92 + s6.1) x18).bind fun c19 =>
        some (Sum.inl ((s6.1 + 1), c19))
    ) FU (p1, q5.2)).bind fun o7 =>
    (gA o7.2 9 0 this).bind fun x9 =>
    (aI o7.2 x9 16).bind fun x10 =>
    (sI o7.2 x9 16 (x10 - 1)).bind fun c11 =>
    (gA c11 9 0 this).bind fun x12 =>
    (aI c11 x12 16).bind fun x13 =>
    some (x13, c11)
set_option maxRecDepth 100000 in
set_option maxHeartbeats 4000000 in
theorem c_X12_unclaim {nx : Nat} {ce : Ce} {this : Nat} {p1 : Int32} {q : Int32 × Ce} (hr : m_X12_unclaim ce this p1 = some q) : Ct yX12_unclaim cX12_unclaim 3 (some .int) 2 43 0 0 [.ref this, .int p1] nx ce (some (.int q.1)) q.2 := by
  unfold m_X12_unclaim at hr
  refine ct_of (by decide) (by decide) ?_
  intro G C hq hret hin
  show Jd G 0 0 nx ce 0 [(0, .ref this), (1, .int p1)] []
  refine j_iload_n (q := 1) (pc' := 1) C dX12_unclaim_0 rfl rfl rfl ?_
  refine j_iconst (v := 0) (pc' := 2) C dX12_unclaim_1 kI_0 rfl ?_
  refine j_aload_n (q := 0) (pc' := 3) C dX12_unclaim_2 rfl rfl rfl ?_
  obtain ⟨x1, hx1, hr⟩ := ob hr
  refine j_getA (pc' := 6) C dX12_unclaim_3 fl_X12_8 hx1 rfl ?_
  refine j_bipush (v := 16) (pc' := 8) C dX12_unclaim_6 kB_16 rfl ?_
  obtain ⟨x2, hx2, hr⟩ := ob hr
  refine j_iald (pc' := 9) C dX12_unclaim_8 hx2 rfl ?_
  refine j_iconst (v := 1) (pc' := 10) C dX12_unclaim_9 kI_1 rfl ?_
  refine j_isub (pc' := 11) C dX12_unclaim_10 rfl ?_
  obtain ⟨x3, hx3, hr⟩ := ob hr
  refine j_callS (As := [.int p1, .int 0, .int (x2 - 1)]) (rest := []) (st1 := [.int x3]) (pc' := 14) C wm_1519 (c_X12_isIn (nx := nx) (ce := ce) hx3) yw_X12_isIn wm_1518 rfl rfl (by decide) ⟨by decide, by decide⟩ dX12_unclaim_11 rfl rfl ?_
  refine j_if_ne (tgt := 19) (pc' := 17) C dX12_unclaim_14 rfl rfl (fun hc => ?_) (fun hc => ?_)
  · have hr := ifF hc hr
    clear hc
    refine j_aload_n (q := 0) (pc' := 20) C dX12_unclaim_19 rfl rfl rfl ?_
    obtain ⟨z4, hz4, hr⟩ := ob hr
    obtain ⟨q5, hq5, hr⟩ := ob hr
    obtain ⟨fhz4, hz4⟩ := rcv_sp hz4
    refine j_callV (ci := 9) (As := []) (rest := []) (st1 := []) (pc' := 23) C ⟨wm_1618, wm_55⟩ rfl hz4 (c_X12_keep (nx := nx) hq5) yw_X12_keep wm_1616 rfl rfl (by decide) ⟨by decide, by decide⟩ dX12_unclaim_20 rfl rfl ?_
    refine j_iload_n (q := 1) (pc' := 24) C dX12_unclaim_23 rfl rfl rfl ?_
    refine j_istore_n (lv' := [(2, .int p1), (0, .ref this), (1, .int p1)]) (pc' := 25) C dX12_unclaim_24 rfl (by decide) rfl rfl ?_
    obtain ⟨o7, ho7, ro7⟩ := ob hr
    have ko7 : Jd G 0 0 nx o7.2 64 [(0, .ref this)] [] := by
      have hr := ro7
      refine j_aload_n (q := 0) (pc' := 65) C dX12_unclaim_64 rfl rfl rfl ?_
      obtain ⟨x9, hx9, hr⟩ := ob hr
      refine j_getA (pc' := 68) C dX12_unclaim_65 fl_X12_8 hx9 rfl ?_
      refine j_bipush (v := 16) (pc' := 70) C dX12_unclaim_68 kB_16 rfl ?_
      refine j_dup2 (pc' := 71) C dX12_unclaim_70 rfl rfl rfl ?_
      obtain ⟨x10, hx10, hr⟩ := ob hr
      refine j_iald (pc' := 72) C dX12_unclaim_71 hx10 rfl ?_
      refine j_iconst (v := 1) (pc' := 73) C dX12_unclaim_72 kI_1 rfl ?_
      refine j_isub (pc' := 74) C dX12_unclaim_73 rfl ?_
      obtain ⟨c11, hc11, hr⟩ := ob hr
      refine j_iast (pc' := 75) C dX12_unclaim_74 hc11 rfl ?_
      refine j_aload_n (q := 0) (pc' := 76) C dX12_unclaim_75 rfl rfl rfl ?_
      obtain ⟨x12, hx12, hr⟩ := ob hr
      refine j_getA (pc' := 79) C dX12_unclaim_76 fl_X12_8 hx12 rfl ?_
      refine j_bipush (v := 16) (pc' := 81) C dX12_unclaim_79 kB_16 rfl ?_
      obtain ⟨x13, hx13, hr⟩ := ob hr
      refine j_iald (pc' := 82) C dX12_unclaim_81 hx13 rfl ?_
      have hr := Option.some.inj hr
      subst hr
      exact j_iret C hq hret dX12_unclaim_82
    refine j_lv [1, 0] rfl (it_J (J := (fun s6 => Jd G 0 0 nx s6.2 25 [(0, .ref this), (2, .int s6.1)] [])) ?_ ho7)
    clear ho7
    intro s6 r8 hr is6 es6
    refine j_iload_n (q := 1) (pc' := 26) C dX12_unclaim_25 rfl rfl rfl ?_
    refine j_aload_n (q := 0) (pc' := 27) C dX12_unclaim_26 rfl rfl rfl ?_
    obtain ⟨x14, hx14, hr⟩ := ob hr
    refine j_getA (pc' := 30) C dX12_unclaim_27 fl_X12_8 hx14 rfl ?_
    refine j_bipush (v := 16) (pc' := 32) C dX12_unclaim_30 kB_16 rfl ?_
    obtain ⟨x15, hx15, hr⟩ := ob hr
    refine j_iald (pc' := 33) C dX12_unclaim_32 hx15 rfl ?_
    refine j_iconst (v := 1) (pc' := 34) C dX12_unclaim_33 kI_1 rfl ?_
    refine j_isub (pc' := 35) C dX12_unclaim_34 rfl ?_
    refine j_ic_ge (tgt := 64) (pc' := 38) C dX12_unclaim_35 rfl rfl (fun hc => ?_) (fun hc => ?_)
    · have hr := ifT hc hr
      clear hc
      have hr := es6 _ (Option.some.inj hr).symm
      subst hr
      exact j_lv [0] rfl ko7
    · have hr := ifF hc hr
      clear hc
      refine j_aload_n (q := 0) (pc' := 39) C dX12_unclaim_38 rfl rfl rfl ?_
      obtain ⟨x16, hx16, hr⟩ := ob hr
      refine j_getA (pc' := 42) C dX12_unclaim_39 fl_X12_8 hx16 rfl ?_
      refine j_bipush (v := 92) (pc' := 44) C dX12_unclaim_42 kB_92 rfl ?_
      refine j_iload_n (q := 1) (pc' := 45) C dX12_unclaim_44 rfl rfl rfl ?_
      refine j_iadd (pc' := 46) C dX12_unclaim_45 rfl ?_
      refine j_aload_n (q := 0) (pc' := 47) C dX12_unclaim_46 rfl rfl rfl ?_
      obtain ⟨x17, hx17, hr⟩ := ob hr
      refine j_getA (pc' := 50) C dX12_unclaim_47 fl_X12_8 hx17 rfl ?_
      refine j_bipush (v := 92) (pc' := 52) C dX12_unclaim_50 kB_92 rfl ?_
      refine j_iload_n (q := 1) (pc' := 53) C dX12_unclaim_52 rfl rfl rfl ?_
      refine j_iadd (pc' := 54) C dX12_unclaim_53 rfl ?_
      refine j_iconst (v := 1) (pc' := 55) C dX12_unclaim_54 kI_1 rfl ?_
      refine j_iadd (pc' := 56) C dX12_unclaim_55 rfl ?_
      obtain ⟨x18, hx18, hr⟩ := ob hr
      refine j_iald (pc' := 57) C dX12_unclaim_56 hx18 rfl ?_
      obtain ⟨c19, hc19, hr⟩ := ob hr
      refine j_iast (pc' := 58) C dX12_unclaim_57 hc19 rfl ?_
      refine j_iinc (q := 1) (v := 1) (lv' := [(2, .int (s6.1 + 1)), (0, .ref this)]) (pc' := 61) C dX12_unclaim_58 rfl kI_1 (by decide) rfl rfl ?_
      refine j_goto (tgt := 25) C dX12_unclaim_61 rfl ?_
      exact j_lv [1, 0] rfl (is6 _ (Option.some.inj hr).symm)
  · have hr := ifT hc hr
    clear hc
    refine j_iconst (v := -1) (pc' := 18) C dX12_unclaim_17 kI_m1 rfl ?_
    have hr := Option.some.inj hr
    subst hr
    exact j_iret C hq hret dX12_unclaim_18
def m_X12_loosen (ce : Ce) (this : Nat) (p1 : Int32) : Option (Int32 × Ce) :=
  (rcv ce 9 this).bind fun z1 =>
  (m_X12_layClaims ce this).bind fun q2 =>
  (gA q2.2 9 0 this).bind fun x3 =>
  (aI q2.2 x3 16).bind fun x4 =>
  (m_X12_isIn p1 0 (x4 - 1)).bind fun x5 =>
  if x5 = 0 then
    some ((-1), q2.2)
  else
    (rcv q2.2 9 this).bind fun z6 =>
    (m_X12_barredAll q2.2 this).bind fun x7 =>
    (rcv q2.2 9 this).bind fun z8 =>
    (m_X12_judge q2.2 this x7).bind fun x9 =>
    if x9 = 0 then
      (rcv q2.2 9 this).bind fun z10 =>
      (m_X12_keep q2.2 this).bind fun q11 =>
      (rcv q11.2 9 this).bind fun z12 =>
      (m_X12_layOrder q11.2 this).bind fun q13 =>
      (it (fun s14 =>
        (gA s14.2 9 0 this).bind fun x25 =>
        (aI s14.2 x25 3).bind fun x26 =>
        if x26 ≤ s14.1 then
          some (Sum.inr ((), s14.2))
        else
          (gA s14.2 9 29 this).bind fun x27 =>
          (aI s14.2 x27 p1).bind fun x28 =>
          (gA s14.2 9 30 this).bind fun x29 =>
          (aI s14.2 x29 p1).bind fun x30 =>
          (gA s14.2 9 29 this).bind fun x31 =>
          (aI s14.2 x31 p1).bind fun x32 =>
          (gA s14.2 9 23 this).bind fun x33 =>
          (aI s14.2 x33 s14.1).bind fun x34 =>
          (sI s14.2 x31 p1 (x32 &&& ((1 <<< (x34 &&& 31)) ^^^ (-1)))).bind fun c35 =>
          (gA c35 9 30 this).bind fun x36 =>
          (aI c35 x36 p1).bind fun x37 =>
          (gA c35 9 29 this).bind fun x38 =>
          (aI c35 x38 p1).bind fun x39 =>
          (sI c35 x36 p1 (x37 &&& x39)).bind fun c40 =>
          (rcv c40 9 this).bind fun z41 =>
          (m_X12_barredAll c40 this).bind fun x42 =>
          (rcv c40 9 this).bind fun z43 =>
          (m_X12_judge c40 this x42).bind fun x44 =>
          if x44 = 0 then
            some (Sum.inl ((s14.1 + 1), c40))
          else
            (gA c40 9 29 this).bind fun x45 =>
            (sI c40 x45 p1 x28).bind fun c46 =>
            (gA c46 9 30 this).bind fun x47 =>
            (sI c46 x47 p1 x30).bind fun c48 =>
            some (Sum.inl ((s14.1 + 1), c48))
      ) FU (0, q13.2)).bind fun o15 =>
      (gA o15.2 9 0 this).bind fun x17 =>
      (gA o15.2 9 29 this).bind fun x18 =>
      (aI o15.2 x18 p1).bind fun x19 =>
      (gA o15.2 9 30 this).bind fun x20 =>
      (aI o15.2 x20 p1).bind fun x21 =>
      (sI o15.2 x17 (92 + p1) ((x19 <<< (6 &&& 31)) ||| x21)).bind fun c22 =>
      (gA c22 9 29 this).bind fun x23 =>
      (aI c22 x23 p1).bind fun x24 =>
      some (x24, c22)
    else
      some ((-1), q2.2)
set_option maxRecDepth 100000 in
set_option maxHeartbeats 4000000 in
theorem c_X12_loosen {nx : Nat} {ce : Ce} {this : Nat} {p1 : Int32} {q : Int32 × Ce} (hr : m_X12_loosen ce this p1 = some q) : Ct yX12_loosen cX12_loosen 5 (some .int) 5 113 0 0 [.ref this, .int p1] nx ce (some (.int q.1)) q.2 := by
  unfold m_X12_loosen at hr
  refine ct_of (by decide) (by decide) ?_
  intro G C hq hret hin
  show Jd G 0 0 nx ce 0 [(0, .ref this), (1, .int p1)] []
  refine j_aload_n (q := 0) (pc' := 1) C dX12_loosen_0 rfl rfl rfl ?_
  obtain ⟨z1, hz1, hr⟩ := ob hr
  obtain ⟨q2, hq2, hr⟩ := ob hr
  obtain ⟨fhz1, hz1⟩ := rcv_sp hz1
  refine j_callV (ci := 9) (As := []) (rest := []) (st1 := []) (pc' := 4) C ⟨wm_2022, wm_111⟩ rfl hz1 (c_X12_layClaims (nx := nx) hq2) yw_X12_layClaims wm_2020 rfl rfl (by decide) ⟨by decide, by decide⟩ dX12_loosen_1 rfl rfl ?_
  refine j_iload_n (q := 1) (pc' := 5) C dX12_loosen_4 rfl rfl rfl ?_
  refine j_iconst (v := 0) (pc' := 6) C dX12_loosen_5 kI_0 rfl ?_
  refine j_aload_n (q := 0) (pc' := 7) C dX12_loosen_6 rfl rfl rfl ?_
  obtain ⟨x3, hx3, hr⟩ := ob hr
  refine j_getA (pc' := 10) C dX12_loosen_7 fl_X12_8 hx3 rfl ?_
  refine j_bipush (v := 16) (pc' := 12) C dX12_loosen_10 kB_16 rfl ?_
  obtain ⟨x4, hx4, hr⟩ := ob hr
  refine j_iald (pc' := 13) C dX12_loosen_12 hx4 rfl ?_
  refine j_iconst (v := 1) (pc' := 14) C dX12_loosen_13 kI_1 rfl ?_
  refine j_isub (pc' := 15) C dX12_loosen_14 rfl ?_
  obtain ⟨x5, hx5, hr⟩ := ob hr
  refine j_callS (As := [.int p1, .int 0, .int (x4 - 1)]) (rest := []) (st1 := [.int x5]) (pc' := 18) C wm_1519 (c_X12_isIn (nx := nx) (ce := q2.2) hx5) yw_X12_isIn wm_1518 rfl rfl (by decide) ⟨by decide, by decide⟩ dX12_loosen_15 rfl rfl ?_
  refine j_if_eq (tgt := 32) (pc' := 21) C dX12_loosen_18 rfl rfl (fun hc => ?_) (fun hc => ?_)
  · have hr := ifT hc hr
    clear hc
    refine j_iconst (v := -1) (pc' := 33) C dX12_loosen_32 kI_m1 rfl ?_
    have hr := Option.some.inj hr
    subst hr
    exact j_iret C hq hret dX12_loosen_33
  · have hr := ifF hc hr
    clear hc
    refine j_aload_n (q := 0) (pc' := 22) C dX12_loosen_21 rfl rfl rfl ?_
    refine j_aload_n (q := 0) (pc' := 23) C dX12_loosen_22 rfl rfl rfl ?_
    obtain ⟨z6, hz6, hr⟩ := ob hr
    obtain ⟨x7, hx7, hr⟩ := ob hr
    obtain ⟨fhz6, hz6⟩ := rcv_sp hz6
    refine j_callV (ci := 9) (As := []) (rest := [.ref this]) (st1 := [.long x7, .ref this]) (pc' := 26) C ⟨wm_2030, wm_113⟩ rfl hz6 (c_X12_barredAll (nx := nx) hx7) yw_X12_barredAll wm_2028 rfl rfl (by decide) ⟨by decide, by decide⟩ dX12_loosen_23 rfl rfl ?_
    obtain ⟨z8, hz8, hr⟩ := ob hr
    obtain ⟨x9, hx9, hr⟩ := ob hr
    obtain ⟨fhz8, hz8⟩ := rcv_sp hz8
    refine j_callV (ci := 9) (As := [.long x7]) (rest := []) (st1 := [.int x9]) (pc' := 29) C ⟨wm_2038, wm_115⟩ rfl hz8 (c_X12_judge (nx := nx) hx9) yw_X12_judge wm_2036 rfl rfl (by decide) ⟨by decide, by decide⟩ dX12_loosen_26 rfl rfl ?_
    refine j_if_eq (tgt := 34) (pc' := 32) C dX12_loosen_29 rfl rfl (fun hc => ?_) (fun hc => ?_)
    · have hr := ifT hc hr
      clear hc
      refine j_aload_n (q := 0) (pc' := 35) C dX12_loosen_34 rfl rfl rfl ?_
      obtain ⟨z10, hz10, hr⟩ := ob hr
      obtain ⟨q11, hq11, hr⟩ := ob hr
      obtain ⟨fhz10, hz10⟩ := rcv_sp hz10
      refine j_callV (ci := 9) (As := []) (rest := []) (st1 := []) (pc' := 38) C ⟨wm_1618, wm_55⟩ rfl hz10 (c_X12_keep (nx := nx) hq11) yw_X12_keep wm_1616 rfl rfl (by decide) ⟨by decide, by decide⟩ dX12_loosen_35 rfl rfl ?_
      refine j_aload_n (q := 0) (pc' := 39) C dX12_loosen_38 rfl rfl rfl ?_
      obtain ⟨z12, hz12, hr⟩ := ob hr
      obtain ⟨q13, hq13, hr⟩ := ob hr
      obtain ⟨fhz12, hz12⟩ := rcv_sp hz12
      refine j_callV (ci := 9) (As := []) (rest := []) (st1 := []) (pc' := 42) C ⟨wm_1771, wm_85⟩ rfl hz12 (c_X12_layOrder (nx := nx) hq13) yw_X12_layOrder wm_1769 rfl rfl (by decide) ⟨by decide, by decide⟩ dX12_loosen_39 rfl rfl ?_
      refine j_iconst (v := 0) (pc' := 43) C dX12_loosen_42 kI_0 rfl ?_
      refine j_istore_n (lv' := [(2, .int 0), (0, .ref this), (1, .int p1)]) (pc' := 44) C dX12_loosen_43 rfl (by decide) rfl rfl ?_
      obtain ⟨o15, ho15, ro15⟩ := ob hr
      have ko15 : Jd G 0 0 nx o15.2 138 [(0, .ref this), (1, .int p1)] [] := by
        have hr := ro15
        refine j_aload_n (q := 0) (pc' := 139) C dX12_loosen_138 rfl rfl rfl ?_
        obtain ⟨x17, hx17, hr⟩ := ob hr
        refine j_getA (pc' := 142) C dX12_loosen_139 fl_X12_8 hx17 rfl ?_
        refine j_bipush (v := 92) (pc' := 144) C dX12_loosen_142 kB_92 rfl ?_
        refine j_iload_n (q := 1) (pc' := 145) C dX12_loosen_144 rfl rfl rfl ?_
        refine j_iadd (pc' := 146) C dX12_loosen_145 rfl ?_
        refine j_aload_n (q := 0) (pc' := 147) C dX12_loosen_146 rfl rfl rfl ?_
        obtain ⟨x18, hx18, hr⟩ := ob hr
        refine j_getA (pc' := 150) C dX12_loosen_147 fl_X12_62 hx18 rfl ?_
        refine j_iload_n (q := 1) (pc' := 151) C dX12_loosen_150 rfl rfl rfl ?_
        obtain ⟨x19, hx19, hr⟩ := ob hr
        refine j_iald (pc' := 152) C dX12_loosen_151 hx19 rfl ?_
        refine j_bipush (v := 6) (pc' := 154) C dX12_loosen_152 kB_6 rfl ?_
        refine j_ishl (pc' := 155) C dX12_loosen_154 rfl ?_
        refine j_aload_n (q := 0) (pc' := 156) C dX12_loosen_155 rfl rfl rfl ?_
        obtain ⟨x20, hx20, hr⟩ := ob hr
        refine j_getA (pc' := 159) C dX12_loosen_156 fl_X12_65 hx20 rfl ?_
        refine j_iload_n (q := 1) (pc' := 160) C dX12_loosen_159 rfl rfl rfl ?_
        obtain ⟨x21, hx21, hr⟩ := ob hr
        refine j_iald (pc' := 161) C dX12_loosen_160 hx21 rfl ?_
        refine j_ior (pc' := 162) C dX12_loosen_161 rfl ?_
        obtain ⟨c22, hc22, hr⟩ := ob hr
        refine j_iast (pc' := 163) C dX12_loosen_162 hc22 rfl ?_
        refine j_aload_n (q := 0) (pc' := 164) C dX12_loosen_163 rfl rfl rfl ?_
        obtain ⟨x23, hx23, hr⟩ := ob hr
        refine j_getA (pc' := 167) C dX12_loosen_164 fl_X12_62 hx23 rfl ?_
        refine j_iload_n (q := 1) (pc' := 168) C dX12_loosen_167 rfl rfl rfl ?_
        obtain ⟨x24, hx24, hr⟩ := ob hr
        refine j_iald (pc' := 169) C dX12_loosen_168 hx24 rfl ?_
        have hr := Option.some.inj hr
        subst hr
        exact j_iret C hq hret dX12_loosen_169
      refine j_lv [1, 2, 0] rfl (it_J (J := (fun s14 => Jd G 0 0 nx s14.2 44 [(0, .ref this), (1, .int p1), (2, .int s14.1)] [])) ?_ ho15)
      clear ho15
      intro s14 r16 hr is14 es14
      refine j_iload_n (q := 2) (pc' := 45) C dX12_loosen_44 rfl rfl rfl ?_
      refine j_aload_n (q := 0) (pc' := 46) C dX12_loosen_45 rfl rfl rfl ?_
      obtain ⟨x25, hx25, hr⟩ := ob hr
      refine j_getA (pc' := 49) C dX12_loosen_46 fl_X12_8 hx25 rfl ?_
      refine j_iconst (v := 3) (pc' := 50) C dX12_loosen_49 kI_3 rfl ?_
      obtain ⟨x26, hx26, hr⟩ := ob hr
      refine j_iald (pc' := 51) C dX12_loosen_50 hx26 rfl ?_
      refine j_ic_ge (tgt := 138) (pc' := 54) C dX12_loosen_51 rfl rfl (fun hc => ?_) (fun hc => ?_)
      · have hr := ifT hc hr
        clear hc
        have hr := es14 _ (Option.some.inj hr).symm
        subst hr
        exact j_lv [0, 1] rfl ko15
      · have hr := ifF hc hr
        clear hc
        refine j_aload_n (q := 0) (pc' := 55) C dX12_loosen_54 rfl rfl rfl ?_
        obtain ⟨x27, hx27, hr⟩ := ob hr
        refine j_getA (pc' := 58) C dX12_loosen_55 fl_X12_62 hx27 rfl ?_
        refine j_iload_n (q := 1) (pc' := 59) C dX12_loosen_58 rfl rfl rfl ?_
        obtain ⟨x28, hx28, hr⟩ := ob hr
        refine j_iald (pc' := 60) C dX12_loosen_59 hx28 rfl ?_
        refine j_istore_n (lv' := [(3, .int x28), (0, .ref this), (1, .int p1), (2, .int s14.1)]) (pc' := 61) C dX12_loosen_60 rfl (by decide) rfl rfl ?_
        refine j_aload_n (q := 1) (pc' := 62) C dX12_loosen_61 rfl rfl rfl ?_
        obtain ⟨x29, hx29, hr⟩ := ob hr
        refine j_getA (pc' := 65) C dX12_loosen_62 fl_X12_65 hx29 rfl ?_
        refine j_iload_n (q := 2) (pc' := 66) C dX12_loosen_65 rfl rfl rfl ?_
        obtain ⟨x30, hx30, hr⟩ := ob hr
        refine j_iald (pc' := 67) C dX12_loosen_66 hx30 rfl ?_
        refine j_istore (lv' := [(4, .int x30), (3, .int x28), (0, .ref this), (1, .int p1), (2, .int s14.1)]) (pc' := 69) C dX12_loosen_67 (by decide) rfl rfl ?_
        refine j_aload_n (q := 2) (pc' := 70) C dX12_loosen_69 rfl rfl rfl ?_
        obtain ⟨x31, hx31, hr⟩ := ob hr
        refine j_getA (pc' := 73) C dX12_loosen_70 fl_X12_62 hx31 rfl ?_
        refine j_iload_n (q := 3) (pc' := 74) C dX12_loosen_73 rfl rfl rfl ?_
        refine j_dup2 (pc' := 75) C dX12_loosen_74 rfl rfl rfl ?_
        obtain ⟨x32, hx32, hr⟩ := ob hr
        refine j_iald (pc' := 76) C dX12_loosen_75 hx32 rfl ?_
        refine j_iconst (v := 1) (pc' := 77) C dX12_loosen_76 kI_1 rfl ?_
        refine j_aload_n (q := 2) (pc' := 78) C dX12_loosen_77 rfl rfl rfl ?_
        obtain ⟨x33, hx33, hr⟩ := ob hr
        refine j_getA (pc' := 81) C dX12_loosen_78 fl_X12_47 hx33 rfl ?_
        refine j_iload_n (q := 4) (pc' := 82) C dX12_loosen_81 rfl rfl rfl ?_
        obtain ⟨x34, hx34, hr⟩ := ob hr
        refine j_iald (pc' := 83) C dX12_loosen_82 hx34 rfl ?_
        refine j_ishl (pc' := 84) C dX12_loosen_83 rfl ?_
        refine j_iconst (v := -1) (pc' := 85) C dX12_loosen_84 kI_m1 rfl ?_
        refine j_ixor (pc' := 86) C dX12_loosen_85 rfl ?_
        refine j_iand (pc' := 87) C dX12_loosen_86 rfl ?_
        obtain ⟨c35, hc35, hr⟩ := ob hr
        refine j_iast (pc' := 88) C dX12_loosen_87 hc35 rfl ?_
        refine j_aload_n (q := 2) (pc' := 89) C dX12_loosen_88 rfl rfl rfl ?_
        obtain ⟨x36, hx36, hr⟩ := ob hr
        refine j_getA (pc' := 92) C dX12_loosen_89 fl_X12_65 hx36 rfl ?_
        refine j_iload_n (q := 3) (pc' := 93) C dX12_loosen_92 rfl rfl rfl ?_
        refine j_dup2 (pc' := 94) C dX12_loosen_93 rfl rfl rfl ?_
        obtain ⟨x37, hx37, hr⟩ := ob hr
        refine j_iald (pc' := 95) C dX12_loosen_94 hx37 rfl ?_
        refine j_aload_n (q := 2) (pc' := 96) C dX12_loosen_95 rfl rfl rfl ?_
        obtain ⟨x38, hx38, hr⟩ := ob hr
        refine j_getA (pc' := 99) C dX12_loosen_96 fl_X12_62 hx38 rfl ?_
        refine j_iload_n (q := 3) (pc' := 100) C dX12_loosen_99 rfl rfl rfl ?_
        obtain ⟨x39, hx39, hr⟩ := ob hr
        refine j_iald (pc' := 101) C dX12_loosen_100 hx39 rfl ?_
        refine j_iand (pc' := 102) C dX12_loosen_101 rfl ?_
        obtain ⟨c40, hc40, hr⟩ := ob hr
        refine j_iast (pc' := 103) C dX12_loosen_102 hc40 rfl ?_
        refine j_aload_n (q := 2) (pc' := 104) C dX12_loosen_103 rfl rfl rfl ?_
        refine j_aload_n (q := 2) (pc' := 105) C dX12_loosen_104 rfl rfl rfl ?_
        obtain ⟨z41, hz41, hr⟩ := ob hr
        obtain ⟨x42, hx42, hr⟩ := ob hr
        obtain ⟨fhz41, hz41⟩ := rcv_sp hz41
        refine j_callV (ci := 9) (As := []) (rest := [.ref this]) (st1 := [.long x42, .ref this]) (pc' := 108) C ⟨wm_2030, wm_113⟩ rfl hz41 (c_X12_barredAll (nx := nx) hx42) yw_X12_barredAll wm_2028 rfl rfl (by decide) ⟨by decide, by decide⟩ dX12_loosen_105 rfl rfl ?_
        obtain ⟨z43, hz43, hr⟩ := ob hr
        obtain ⟨x44, hx44, hr⟩ := ob hr
        obtain ⟨fhz43, hz43⟩ := rcv_sp hz43
        refine j_callV (ci := 9) (As := [.long x42]) (rest := []) (st1 := [.int x44]) (pc' := 111) C ⟨wm_2038, wm_115⟩ rfl hz43 (c_X12_judge (nx := nx) hx44) yw_X12_judge wm_2036 rfl rfl (by decide) ⟨by decide, by decide⟩ dX12_loosen_108 rfl rfl ?_
        refine j_if_ne (tgt := 117) (pc' := 114) C dX12_loosen_111 rfl rfl (fun hc => ?_) (fun hc => ?_)
        · have hr := ifF hc hr
          clear hc
          refine j_aload_n (q := 2) (pc' := 118) C dX12_loosen_117 rfl rfl rfl ?_
          obtain ⟨x45, hx45, hr⟩ := ob hr
          refine j_getA (pc' := 121) C dX12_loosen_118 fl_X12_62 hx45 rfl ?_
          refine j_iload_n (q := 3) (pc' := 122) C dX12_loosen_121 rfl rfl rfl ?_
          refine j_iload_n (q := 1) (pc' := 123) C dX12_loosen_122 rfl rfl rfl ?_
          obtain ⟨c46, hc46, hr⟩ := ob hr
          refine j_iast (pc' := 124) C dX12_loosen_123 hc46 rfl ?_
          refine j_aload_n (q := 2) (pc' := 125) C dX12_loosen_124 rfl rfl rfl ?_
          obtain ⟨x47, hx47, hr⟩ := ob hr
          refine j_getA (pc' := 128) C dX12_loosen_125 fl_X12_65 hx47 rfl ?_
          refine j_iload_n (q := 3) (pc' := 129) C dX12_loosen_128 rfl rfl rfl ?_
          refine j_iload (q := 0) (pc' := 131) C dX12_loosen_129 rfl rfl ?_
          obtain ⟨c48, hc48, hr⟩ := ob hr
          refine j_iast (pc' := 132) C dX12_loosen_131 hc48 rfl ?_
          refine j_iinc (q := 4) (v := 1) (lv' := [(2, .int (s14.1 + 1)), (4, .int x30), (3, .int x28), (0, .ref this), (1, .int p1)]) (pc' := 135) C dX12_loosen_132 rfl kI_1 (by decide) rfl rfl ?_
          refine j_goto (tgt := 44) C dX12_loosen_135 rfl ?_
          exact j_lv [3, 4, 0] rfl (is14 _ (Option.some.inj hr).symm)
        · have hr := ifT hc hr
          clear hc
          refine j_goto (tgt := 132) C dX12_loosen_114 rfl ?_
          refine j_iinc (q := 4) (v := 1) (lv' := [(2, .int (s14.1 + 1)), (4, .int x30), (3, .int x28), (0, .ref this), (1, .int p1)]) (pc' := 135) C dX12_loosen_132 rfl kI_1 (by decide) rfl rfl ?_
          refine j_goto (tgt := 44) C dX12_loosen_135 rfl ?_
          exact j_lv [3, 4, 0] rfl (is14 _ (Option.some.inj hr).symm)
    · have hr := ifF hc hr
      clear hc
      refine j_iconst (v := -1) (pc' := 33) C dX12_loosen_32 kI_m1 rfl ?_
      have hr := Option.some.inj hr
      subst hr
      exact j_iret C hq hret dX12_loosen_33
def m_X12_claimed (ce : Ce) (this : Nat) (p1 : Int32) (p2 : Int32) : Option (Int32) :=
  if p1 = (-1) then
    (gA ce 9 0 this).bind fun x7 =>
    (aI ce x7 16).bind fun x8 =>
    some x8
  else
    (gA ce 9 0 this).bind fun x1 =>
    (aI ce x1 16).bind fun x2 =>
    (m_X12_isIn p1 0 (x2 - 1)).bind fun x3 =>
    if x3 = 0 then
      some (-2)
    else
      (m_X12_isIn p2 0 1).bind fun x4 =>
      if x4 = 0 then
        some (-2)
      else
        (rcv ce 9 this).bind fun z5 =>
        (m_X12_ofClaim ce this p1 p2).bind fun x6 =>
        some x6
set_option maxRecDepth 100000 in
set_option maxHeartbeats 4000000 in
theorem c_X12_claimed {nx : Nat} {ce : Ce} {this : Nat} {p1 : Int32} {p2 : Int32} {q : Int32} (hr : m_X12_claimed ce this p1 p2 = some q) : Ct yX12_claimed cX12_claimed 3 (some .int) 1 22 0 0 [.ref this, .int p1, .int p2] nx ce (some (.int q)) ce := by
  unfold m_X12_claimed at hr
  refine ct_of (by decide) (by decide) ?_
  intro G C hq hret hin
  show Jd G 0 0 nx ce 0 [(0, .ref this), (1, .int p1), (2, .int p2)] []
  refine j_iload_n (q := 1) (pc' := 1) C dX12_claimed_0 rfl rfl rfl ?_
  refine j_iconst (v := -1) (pc' := 2) C dX12_claimed_1 kI_m1 rfl ?_
  refine j_ic_ne (tgt := 13) (pc' := 5) C dX12_claimed_2 rfl rfl (fun hc => ?_) (fun hc => ?_)
  · have hr := ifF hc hr
    clear hc
    refine j_iload_n (q := 1) (pc' := 14) C dX12_claimed_13 rfl rfl rfl ?_
    refine j_iconst (v := 0) (pc' := 15) C dX12_claimed_14 kI_0 rfl ?_
    refine j_aload_n (q := 0) (pc' := 16) C dX12_claimed_15 rfl rfl rfl ?_
    obtain ⟨x1, hx1, hr⟩ := ob hr
    refine j_getA (pc' := 19) C dX12_claimed_16 fl_X12_8 hx1 rfl ?_
    refine j_bipush (v := 16) (pc' := 21) C dX12_claimed_19 kB_16 rfl ?_
    obtain ⟨x2, hx2, hr⟩ := ob hr
    refine j_iald (pc' := 22) C dX12_claimed_21 hx2 rfl ?_
    refine j_iconst (v := 1) (pc' := 23) C dX12_claimed_22 kI_1 rfl ?_
    refine j_isub (pc' := 24) C dX12_claimed_23 rfl ?_
    obtain ⟨x3, hx3, hr⟩ := ob hr
    refine j_callS (As := [.int p1, .int 0, .int (x2 - 1)]) (rest := []) (st1 := [.int x3]) (pc' := 27) C wm_1519 (c_X12_isIn (nx := nx) (ce := ce) hx3) yw_X12_isIn wm_1518 rfl rfl (by decide) ⟨by decide, by decide⟩ dX12_claimed_24 rfl rfl ?_
    refine j_if_eq (tgt := 48) (pc' := 30) C dX12_claimed_27 rfl rfl (fun hc => ?_) (fun hc => ?_)
    · have hr := ifT hc hr
      clear hc
      refine j_bipush (v := -2) (pc' := 50) C dX12_claimed_48 kB_m2 rfl ?_
      have hr := Option.some.inj hr
      subst hr
      exact j_iret C hq hret dX12_claimed_50
    · have hr := ifF hc hr
      clear hc
      refine j_iload_n (q := 2) (pc' := 31) C dX12_claimed_30 rfl rfl rfl ?_
      refine j_iconst (v := 0) (pc' := 32) C dX12_claimed_31 kI_0 rfl ?_
      refine j_iconst (v := 1) (pc' := 33) C dX12_claimed_32 kI_1 rfl ?_
      obtain ⟨x4, hx4, hr⟩ := ob hr
      refine j_callS (As := [.int p2, .int 0, .int 1]) (rest := []) (st1 := [.int x4]) (pc' := 36) C wm_1519 (c_X12_isIn (nx := nx) (ce := ce) hx4) yw_X12_isIn wm_1518 rfl rfl (by decide) ⟨by decide, by decide⟩ dX12_claimed_33 rfl rfl ?_
      refine j_if_eq (tgt := 48) (pc' := 39) C dX12_claimed_36 rfl rfl (fun hc => ?_) (fun hc => ?_)
      · have hr := ifT hc hr
        clear hc
        refine j_bipush (v := -2) (pc' := 50) C dX12_claimed_48 kB_m2 rfl ?_
        have hr := Option.some.inj hr
        subst hr
        exact j_iret C hq hret dX12_claimed_50
      · have hr := ifF hc hr
        clear hc
        refine j_aload_n (q := 0) (pc' := 40) C dX12_claimed_39 rfl rfl rfl ?_
        refine j_iload_n (q := 1) (pc' := 41) C dX12_claimed_40 rfl rfl rfl ?_
        refine j_iload_n (q := 2) (pc' := 42) C dX12_claimed_41 rfl rfl rfl ?_
        obtain ⟨z5, hz5, hr⟩ := ob hr
        obtain ⟨x6, hx6, hr⟩ := ob hr
        obtain ⟨fhz5, hz5⟩ := rcv_sp hz5
        refine j_callV (ci := 9) (As := [.int p1, .int p2]) (rest := []) (st1 := [.int x6]) (pc' := 45) C ⟨wm_2026, wm_112⟩ rfl hz5 (c_X12_ofClaim (nx := nx) hx6) yw_X12_ofClaim wm_2024 rfl rfl (by decide) ⟨by decide, by decide⟩ dX12_claimed_42 rfl rfl ?_
        refine j_goto (tgt := 50) C dX12_claimed_45 rfl ?_
        have hr := Option.some.inj hr
        subst hr
        exact j_iret C hq hret dX12_claimed_50
  · have hr := ifT hc hr
    clear hc
    refine j_aload_n (q := 0) (pc' := 6) C dX12_claimed_5 rfl rfl rfl ?_
    obtain ⟨x7, hx7, hr⟩ := ob hr
    refine j_getA (pc' := 9) C dX12_claimed_6 fl_X12_8 hx7 rfl ?_
    refine j_bipush (v := 16) (pc' := 11) C dX12_claimed_9 kB_16 rfl ?_
    obtain ⟨x8, hx8, hr⟩ := ob hr
    refine j_iald (pc' := 12) C dX12_claimed_11 hx8 rfl ?_
    have hr := Option.some.inj hr
    subst hr
    exact j_iret C hq hret dX12_claimed_12
def m_X12_judged (ce : Ce) (this : Nat) (p1 : Int32) : Option (Int32 × Ce) :=
  (rcv ce 9 this).bind fun z1 =>
  (m_X12_isLaid ce this p1).bind fun q2 =>
  if q2.1 = 0 then
    some ((-1), q2.2)
  else
    (rcv q2.2 9 this).bind fun z3 =>
    (m_X12_barredAll q2.2 this).bind fun x4 =>
    (rcv q2.2 9 this).bind fun z5 =>
    (m_X12_judge q2.2 this x4).bind fun x6 =>
    some (x6, q2.2)
set_option maxRecDepth 100000 in
set_option maxHeartbeats 4000000 in
theorem c_X12_judged {nx : Nat} {ce : Ce} {this : Nat} {p1 : Int32} {q : Int32 × Ce} (hr : m_X12_judged ce this p1 = some q) : Ct yX12_judged cX12_judged 2 (some .int) 5 113 0 0 [.ref this, .int p1] nx ce (some (.int q.1)) q.2 := by
  unfold m_X12_judged at hr
  refine ct_of (by decide) (by decide) ?_
  intro G C hq hret hin
  show Jd G 0 0 nx ce 0 [(0, .ref this), (1, .int p1)] []
  refine j_aload_n (q := 0) (pc' := 1) C dX12_judged_0 rfl rfl rfl ?_
  refine j_iload_n (q := 1) (pc' := 2) C dX12_judged_1 rfl rfl rfl ?_
  obtain ⟨z1, hz1, hr⟩ := ob hr
  obtain ⟨q2, hq2, hr⟩ := ob hr
  obtain ⟨fhz1, hz1⟩ := rcv_sp hz1
  refine j_callV (ci := 9) (As := [.int p1]) (rest := []) (st1 := [.int q2.1]) (pc' := 5) C ⟨wm_2054, wm_117⟩ rfl hz1 (c_X12_isLaid (nx := nx) hq2) yw_X12_isLaid wm_2052 rfl rfl (by decide) ⟨by decide, by decide⟩ dX12_judged_2 rfl rfl ?_
  refine j_if_eq (tgt := 19) (pc' := 8) C dX12_judged_5 rfl rfl (fun hc => ?_) (fun hc => ?_)
  · have hr := ifT hc hr
    clear hc
    refine j_iconst (v := -1) (pc' := 20) C dX12_judged_19 kI_m1 rfl ?_
    have hr := Option.some.inj hr
    subst hr
    exact j_iret C hq hret dX12_judged_20
  · have hr := ifF hc hr
    clear hc
    refine j_aload_n (q := 0) (pc' := 9) C dX12_judged_8 rfl rfl rfl ?_
    refine j_aload_n (q := 0) (pc' := 10) C dX12_judged_9 rfl rfl rfl ?_
    obtain ⟨z3, hz3, hr⟩ := ob hr
    obtain ⟨x4, hx4, hr⟩ := ob hr
    obtain ⟨fhz3, hz3⟩ := rcv_sp hz3
    refine j_callV (ci := 9) (As := []) (rest := [.ref this]) (st1 := [.long x4, .ref this]) (pc' := 13) C ⟨wm_2030, wm_113⟩ rfl hz3 (c_X12_barredAll (nx := nx) hx4) yw_X12_barredAll wm_2028 rfl rfl (by decide) ⟨by decide, by decide⟩ dX12_judged_10 rfl rfl ?_
    obtain ⟨z5, hz5, hr⟩ := ob hr
    obtain ⟨x6, hx6, hr⟩ := ob hr
    obtain ⟨fhz5, hz5⟩ := rcv_sp hz5
    refine j_callV (ci := 9) (As := [.long x4]) (rest := []) (st1 := [.int x6]) (pc' := 16) C ⟨wm_2038, wm_115⟩ rfl hz5 (c_X12_judge (nx := nx) hx6) yw_X12_judge wm_2036 rfl rfl (by decide) ⟨by decide, by decide⟩ dX12_judged_13 rfl rfl ?_
    refine j_goto (tgt := 20) C dX12_judged_16 rfl ?_
    have hr := Option.some.inj hr
    subst hr
    exact j_iret C hq hret dX12_judged_20
def m_X12_witness (ce : Ce) (this : Nat) (p1 : Int32) : Option (Int32 × Ce) :=
  (rcv ce 9 this).bind fun z1 =>
  (m_X12_isLaid ce this p1).bind fun q2 =>
  if q2.1 = 0 then
    some ((-1), q2.2)
  else
    (rcv q2.2 9 this).bind fun z3 =>
    (m_X12_barredAll q2.2 this).bind fun x4 =>
    (rcv q2.2 9 this).bind fun z5 =>
    (m_X12_judge q2.2 this x4).bind fun x6 =>
    if x6 = 1 then
      (rcv q2.2 9 this).bind fun z7 =>
      (m_X12_starts q2.2 this).bind fun x8 =>
      (m_X12_lowest (x4 &&& x8)).bind fun x9 =>
      some (x9, q2.2)
    else
    if x6 = 2 then
      (rcv q2.2 9 this).bind fun z10 =>
      (m_X12_leadIn q2.2 this x4).bind fun x11 =>
      some (x11, q2.2)
    else
    if x6 = 3 then
      (rcv q2.2 9 this).bind fun z12 =>
      (m_X12_aims q2.2 this).bind fun x13 =>
      (m_X12_lowest (x13 &&& (x4 ^^^ (-1)))).bind fun x14 =>
      some (x14, q2.2)
    else
    some ((-1), q2.2)
set_option maxRecDepth 100000 in
set_option maxHeartbeats 4000000 in
theorem c_X12_witness {nx : Nat} {ce : Ce} {this : Nat} {p1 : Int32} {q : Int32 × Ce} (hr : m_X12_witness ce this p1 = some q) : Ct yX12_witness cX12_witness 4 (some .int) 5 113 0 0 [.ref this, .int p1] nx ce (some (.int q.1)) q.2 := by
  unfold m_X12_witness at hr
  refine ct_of (by decide) (by decide) ?_
  intro G C hq hret hin
  show Jd G 0 0 nx ce 0 [(0, .ref this), (1, .int p1)] []
  refine j_aload_n (q := 0) (pc' := 1) C dX12_witness_0 rfl rfl rfl ?_
  refine j_iload_n (q := 1) (pc' := 2) C dX12_witness_1 rfl rfl rfl ?_
  obtain ⟨z1, hz1, hr⟩ := ob hr
  obtain ⟨q2, hq2, hr⟩ := ob hr
  obtain ⟨fhz1, hz1⟩ := rcv_sp hz1
  refine j_callV (ci := 9) (As := [.int p1]) (rest := []) (st1 := [.int q2.1]) (pc' := 5) C ⟨wm_2054, wm_117⟩ rfl hz1 (c_X12_isLaid (nx := nx) hq2) yw_X12_isLaid wm_2052 rfl rfl (by decide) ⟨by decide, by decide⟩ dX12_witness_2 rfl rfl ?_
  refine j_if_ne (tgt := 10) (pc' := 8) C dX12_witness_5 rfl rfl (fun hc => ?_) (fun hc => ?_)
  · have hr := ifF hc hr
    clear hc
    refine j_aload_n (q := 0) (pc' := 11) C dX12_witness_10 rfl rfl rfl ?_
    obtain ⟨z3, hz3, hr⟩ := ob hr
    obtain ⟨x4, hx4, hr⟩ := ob hr
    obtain ⟨fhz3, hz3⟩ := rcv_sp hz3
    refine j_callV (ci := 9) (As := []) (rest := []) (st1 := [.long x4]) (pc' := 14) C ⟨wm_2030, wm_113⟩ rfl hz3 (c_X12_barredAll (nx := nx) hx4) yw_X12_barredAll wm_2028 rfl rfl (by decide) ⟨by decide, by decide⟩ dX12_witness_11 rfl rfl ?_
    refine j_lstore_n (lv' := [(2, .long x4), (0, .ref this), (1, .int p1)]) (pc' := 15) C dX12_witness_14 rfl (by decide) rfl rfl ?_
    refine j_aload_n (q := 1) (pc' := 16) C dX12_witness_15 rfl rfl rfl ?_
    refine j_lload_n (q := 0) (pc' := 17) C dX12_witness_16 rfl rfl rfl ?_
    obtain ⟨z5, hz5, hr⟩ := ob hr
    obtain ⟨x6, hx6, hr⟩ := ob hr
    obtain ⟨fhz5, hz5⟩ := rcv_sp hz5
    refine j_callV (ci := 9) (As := [.long x4]) (rest := []) (st1 := [.int x6]) (pc' := 20) C ⟨wm_2038, wm_115⟩ rfl hz5 (c_X12_judge (nx := nx) hx6) yw_X12_judge wm_2036 rfl rfl (by decide) ⟨by decide, by decide⟩ dX12_witness_17 rfl rfl ?_
    by_cases hc0 : x6 = 1
    · have hr := ifT hc0 hr
      refine j_tabIn (v := 1) (off := 28) (tgt := 48) C dX12_witness_20 hc0 (by decide) rfl ?_
      refine j_lload_n (q := 0) (pc' := 49) C dX12_witness_48 rfl rfl rfl ?_
      refine j_aload_n (q := 1) (pc' := 50) C dX12_witness_49 rfl rfl rfl ?_
      obtain ⟨z7, hz7, hr⟩ := ob hr
      obtain ⟨x8, hx8, hr⟩ := ob hr
      obtain ⟨fhz7, hz7⟩ := rcv_sp hz7
      refine j_callV (ci := 9) (As := []) (rest := [.long x4]) (st1 := [.long x8, .long x4]) (pc' := 53) C ⟨wm_1700, wm_68⟩ rfl hz7 (c_X12_starts (nx := nx) hx8) yw_X12_starts wm_1698 rfl rfl (by decide) ⟨by decide, by decide⟩ dX12_witness_50 rfl rfl ?_
      refine j_land (pc' := 54) C dX12_witness_53 rfl ?_
      obtain ⟨x9, hx9, hr⟩ := ob hr
      refine j_callS (As := [.long (x4 &&& x8)]) (rest := []) (st1 := [.int x9]) (pc' := 57) C wm_1719 (c_X12_lowest (nx := nx) (ce := q2.2) hx9) yw_X12_lowest wm_1718 rfl rfl (by decide) ⟨by decide, by decide⟩ dX12_witness_54 rfl rfl ?_
      have hr := Option.some.inj hr
      subst hr
      exact j_iret C hq hret dX12_witness_57
    have hr := ifF hc0 hr
    by_cases hc1 : x6 = 2
    · have hr := ifT hc1 hr
      refine j_tabIn (v := 2) (off := 38) (tgt := 58) C dX12_witness_20 hc1 (by decide) rfl ?_
      refine j_aload_n (q := 1) (pc' := 59) C dX12_witness_58 rfl rfl rfl ?_
      refine j_lload_n (q := 0) (pc' := 60) C dX12_witness_59 rfl rfl rfl ?_
      obtain ⟨z10, hz10, hr⟩ := ob hr
      obtain ⟨x11, hx11, hr⟩ := ob hr
      obtain ⟨fhz10, hz10⟩ := rcv_sp hz10
      refine j_callV (ci := 9) (As := [.long x4]) (rest := []) (st1 := [.int x11]) (pc' := 63) C ⟨wm_2042, wm_116⟩ rfl hz10 (c_X12_leadIn (nx := nx) hx11) yw_X12_leadIn wm_2040 rfl rfl (by decide) ⟨by decide, by decide⟩ dX12_witness_60 rfl rfl ?_
      have hr := Option.some.inj hr
      subst hr
      exact j_iret C hq hret dX12_witness_63
    have hr := ifF hc1 hr
    by_cases hc2 : x6 = 3
    · have hr := ifT hc2 hr
      refine j_tabIn (v := 3) (off := 44) (tgt := 64) C dX12_witness_20 hc2 (by decide) rfl ?_
      refine j_aload_n (q := 1) (pc' := 65) C dX12_witness_64 rfl rfl rfl ?_
      obtain ⟨z12, hz12, hr⟩ := ob hr
      obtain ⟨x13, hx13, hr⟩ := ob hr
      obtain ⟨fhz12, hz12⟩ := rcv_sp hz12
      refine j_callV (ci := 9) (As := []) (rest := []) (st1 := [.long x13]) (pc' := 68) C ⟨wm_1687, wm_65⟩ rfl hz12 (c_X12_aims (nx := nx) hx13) yw_X12_aims wm_1685 rfl rfl (by decide) ⟨by decide, by decide⟩ dX12_witness_65 rfl rfl ?_
      refine j_lload_n (q := 0) (pc' := 69) C dX12_witness_68 rfl rfl rfl ?_
      refine j_ldc2 (pc' := 72) C dX12_witness_69 wm_1588 rfl ?_
      refine j_lxor (pc' := 73) C dX12_witness_72 rfl ?_
      refine j_land (pc' := 74) C dX12_witness_73 rfl ?_
      obtain ⟨x14, hx14, hr⟩ := ob hr
      refine j_callS (As := [.long (x13 &&& (x4 ^^^ (-1)))]) (rest := []) (st1 := [.int x14]) (pc' := 77) C wm_1719 (c_X12_lowest (nx := nx) (ce := q2.2) hx14) yw_X12_lowest wm_1718 rfl rfl (by decide) ⟨by decide, by decide⟩ dX12_witness_74 rfl rfl ?_
      have hr := Option.some.inj hr
      subst hr
      exact j_iret C hq hret dX12_witness_77
    have hr := ifF hc2 hr
    refine j_tabOut (tgt := 78) C dX12_witness_20 (tab_out 3 (by decide) (by decide) (by decide) (fun i hi => by
      match i, hi with
      | 0, _ => exact hc0
      | 1, _ => exact hc1
      | 2, _ => exact hc2
      | i + 3, hi => omega)) rfl ?_
    refine j_iconst (v := -1) (pc' := 79) C dX12_witness_78 kI_m1 rfl ?_
    have hr := Option.some.inj hr
    subst hr
    exact j_iret C hq hret dX12_witness_79
  · have hr := ifT hc hr
    clear hc
    refine j_iconst (v := -1) (pc' := 9) C dX12_witness_8 kI_m1 rfl ?_
    have hr := Option.some.inj hr
    subst hr
    exact j_iret C hq hret dX12_witness_9
def m_X12_isFine (ce : Ce) (this : Nat) (p1 : Int32) : Option (Int32 × Ce) :=
  if p1 = 2 then
    some (0, ce)
  else
    (rcv ce 9 this).bind fun z1 =>
    (m_X12_isLaid ce this p1).bind fun q2 =>
    if q2.1 = 0 then
      some (0, q2.2)
    else
      (rcv q2.2 9 this).bind fun z3 =>
      (m_X12_barredAll q2.2 this).bind fun x4 =>
      (rcv q2.2 9 this).bind fun z5 =>
      (m_X12_judge q2.2 this x4).bind fun x6 =>
      if x6 = 0 then
        some (1, q2.2)
      else
        some (0, q2.2)
set_option maxRecDepth 100000 in
set_option maxHeartbeats 4000000 in
theorem c_X12_isFine {nx : Nat} {ce : Ce} {this : Nat} {p1 : Int32} {q : Int32 × Ce} (hr : m_X12_isFine ce this p1 = some q) : Ct yX12_isFine cX12_isFine 2 (some .boolean) 5 113 0 0 [.ref this, .int p1] nx ce (some (.int q.1)) q.2 := by
  unfold m_X12_isFine at hr
  refine ct_of (by decide) (by decide) ?_
  intro G C hq hret hin
  show Jd G 0 0 nx ce 0 [(0, .ref this), (1, .int p1)] []
  refine j_iload_n (q := 1) (pc' := 1) C dX12_isFine_0 rfl rfl rfl ?_
  refine j_iconst (v := 2) (pc' := 2) C dX12_isFine_1 kI_2 rfl ?_
  refine j_ic_eq (tgt := 28) (pc' := 5) C dX12_isFine_2 rfl rfl (fun hc => ?_) (fun hc => ?_)
  · have hr := ifT hc hr
    clear hc
    refine j_iconst (v := 0) (pc' := 29) C dX12_isFine_28 kI_0 rfl ?_
    have hr := Option.some.inj hr
    subst hr
    exact j_zret C hq hret rfl dX12_isFine_29
  · have hr := ifF hc hr
    clear hc
    refine j_aload_n (q := 0) (pc' := 6) C dX12_isFine_5 rfl rfl rfl ?_
    refine j_iload_n (q := 1) (pc' := 7) C dX12_isFine_6 rfl rfl rfl ?_
    obtain ⟨z1, hz1, hr⟩ := ob hr
    obtain ⟨q2, hq2, hr⟩ := ob hr
    obtain ⟨fhz1, hz1⟩ := rcv_sp hz1
    refine j_callV (ci := 9) (As := [.int p1]) (rest := []) (st1 := [.int q2.1]) (pc' := 10) C ⟨wm_2054, wm_117⟩ rfl hz1 (c_X12_isLaid (nx := nx) hq2) yw_X12_isLaid wm_2052 rfl rfl (by decide) ⟨by decide, by decide⟩ dX12_isFine_7 rfl rfl ?_
    refine j_if_eq (tgt := 28) (pc' := 13) C dX12_isFine_10 rfl rfl (fun hc => ?_) (fun hc => ?_)
    · have hr := ifT hc hr
      clear hc
      refine j_iconst (v := 0) (pc' := 29) C dX12_isFine_28 kI_0 rfl ?_
      have hr := Option.some.inj hr
      subst hr
      exact j_zret C hq hret rfl dX12_isFine_29
    · have hr := ifF hc hr
      clear hc
      refine j_aload_n (q := 0) (pc' := 14) C dX12_isFine_13 rfl rfl rfl ?_
      refine j_aload_n (q := 0) (pc' := 15) C dX12_isFine_14 rfl rfl rfl ?_
      obtain ⟨z3, hz3, hr⟩ := ob hr
      obtain ⟨x4, hx4, hr⟩ := ob hr
      obtain ⟨fhz3, hz3⟩ := rcv_sp hz3
      refine j_callV (ci := 9) (As := []) (rest := [.ref this]) (st1 := [.long x4, .ref this]) (pc' := 18) C ⟨wm_2030, wm_113⟩ rfl hz3 (c_X12_barredAll (nx := nx) hx4) yw_X12_barredAll wm_2028 rfl rfl (by decide) ⟨by decide, by decide⟩ dX12_isFine_15 rfl rfl ?_
      obtain ⟨z5, hz5, hr⟩ := ob hr
      obtain ⟨x6, hx6, hr⟩ := ob hr
      obtain ⟨fhz5, hz5⟩ := rcv_sp hz5
      refine j_callV (ci := 9) (As := [.long x4]) (rest := []) (st1 := [.int x6]) (pc' := 21) C ⟨wm_2038, wm_115⟩ rfl hz5 (c_X12_judge (nx := nx) hx6) yw_X12_judge wm_2036 rfl rfl (by decide) ⟨by decide, by decide⟩ dX12_isFine_18 rfl rfl ?_
      refine j_if_ne (tgt := 28) (pc' := 24) C dX12_isFine_21 rfl rfl (fun hc => ?_) (fun hc => ?_)
      · have hr := ifF hc hr
        clear hc
        refine j_iconst (v := 0) (pc' := 29) C dX12_isFine_28 kI_0 rfl ?_
        have hr := Option.some.inj hr
        subst hr
        exact j_zret C hq hret rfl dX12_isFine_29
      · have hr := ifT hc hr
        clear hc
        refine j_iconst (v := 1) (pc' := 25) C dX12_isFine_24 kI_1 rfl ?_
        refine j_goto (tgt := 29) C dX12_isFine_25 rfl ?_
        have hr := Option.some.inj hr
        subst hr
        exact j_zret C hq hret rfl dX12_isFine_29
def m_X12_spare (ce : Ce) (this : Nat) (p1 : Int32) : Option (Int32 × Ce) :=
  (rcv ce 9 this).bind fun z1 =>
  (m_X12_isFine ce this p1).bind fun q2 =>
  if q2.1 = 0 then
    some ((-1), q2.2)
  else
    (it (fun s3 =>
      (gI s3.2 9 31 this).bind fun x6 =>
      if x6 ≤ s3.1.2 then
        some (Sum.inr (s3.1.1, s3.2))
      else
        (it (fun s7 =>
          (gI s3.2 9 31 this).bind fun x26 =>
          if x26 ≤ s7.2 then
            some (Sum.inr s7.1)
          else
            if s7.2 = s3.1.2 then
              some (Sum.inl (s7.1, (s7.2 + 1)))
            else
              (rcv s3.2 9 this).bind fun z27 =>
              (m_X12_barredBy s3.2 this s7.2).bind fun x28 =>
              some (Sum.inl ((s7.1 ||| x28), (s7.2 + 1)))
        ) FU (0, 0)).bind fun o8 =>
        (rcv s3.2 9 this).bind fun z10 =>
        (m_X12_judge s3.2 this o8).bind fun x11 =>
        if x11 = 0 then
          (it (fun s12 =>
            (gI s12.2 9 31 this).bind fun x17 =>
            if (x17 - 1) ≤ s12.1 then
              some (Sum.inr ((), s12.2))
            else
              (gA s12.2 9 29 this).bind fun x18 =>
              (gA s12.2 9 29 this).bind fun x19 =>
              (aI s12.2 x19 (s12.1 + 1)).bind fun x20 =>
              (sI s12.2 x18 s12.1 x20).bind fun c21 =>
              (gA c21 9 30 this).bind fun x22 =>
              (gA c21 9 30 this).bind fun x23 =>
              (aI c21 x23 (s12.1 + 1)).bind fun x24 =>
              (sI c21 x22 s12.1 x24).bind fun c25 =>
              some (Sum.inl ((s12.1 + 1), c25))
          ) FU (s3.1.2, s3.2)).bind fun o13 =>
          (gI o13.2 9 31 this).bind fun x15 =>
          (pV o13.2 9 31 this (.int (x15 - 1))).bind fun c16 =>
          some (Sum.inl (((s3.1.1 + 1), s3.1.2), c16))
        else
          some (Sum.inl ((s3.1.1, (s3.1.2 + 1)), s3.2))
    ) FU ((0, 0), q2.2)).bind fun o4 =>
    some (o4.1, o4.2)
set_option maxRecDepth 100000 in
set_option maxHeartbeats 4000000 in
theorem c_X12_spare {nx : Nat} {ce : Ce} {this : Nat} {p1 : Int32} {q : Int32 × Ce} (hr : m_X12_spare ce this p1 = some q) : Ct yX12_spare cX12_spare 7 (some .int) 6 134 0 0 [.ref this, .int p1] nx ce (some (.int q.1)) q.2 := by
  unfold m_X12_spare at hr
  refine ct_of (by decide) (by decide) ?_
  intro G C hq hret hin
  show Jd G 0 0 nx ce 0 [(0, .ref this), (1, .int p1)] []
  refine j_aload_n (q := 0) (pc' := 1) C dX12_spare_0 rfl rfl rfl ?_
  refine j_iload_n (q := 1) (pc' := 2) C dX12_spare_1 rfl rfl rfl ?_
  obtain ⟨z1, hz1, hr⟩ := ob hr
  obtain ⟨q2, hq2, hr⟩ := ob hr
  obtain ⟨fhz1, hz1⟩ := rcv_sp hz1
  refine j_callV (ci := 9) (As := [.int p1]) (rest := []) (st1 := [.int q2.1]) (pc' := 5) C ⟨wm_2066, wm_118⟩ rfl hz1 (c_X12_isFine (nx := nx) hq2) yw_X12_isFine wm_2064 rfl rfl (by decide) ⟨by decide, by decide⟩ dX12_spare_2 rfl rfl ?_
  refine j_if_ne (tgt := 10) (pc' := 8) C dX12_spare_5 rfl rfl (fun hc => ?_) (fun hc => ?_)
  · have hr := ifF hc hr
    clear hc
    refine j_iconst (v := 0) (pc' := 11) C dX12_spare_10 kI_0 rfl ?_
    refine j_istore_n (lv' := [(2, .int 0), (0, .ref this), (1, .int p1)]) (pc' := 12) C dX12_spare_11 rfl (by decide) rfl rfl ?_
    refine j_iconst (v := 0) (pc' := 13) C dX12_spare_12 kI_0 rfl ?_
    refine j_istore_n (lv' := [(3, .int 0), (2, .int 0), (0, .ref this), (1, .int p1)]) (pc' := 14) C dX12_spare_13 rfl (by decide) rfl rfl ?_
    obtain ⟨o4, ho4, ro4⟩ := ob hr
    have ko4 : Jd G 0 0 nx o4.2 143 [(2, .int o4.1)] [] := by
      have hr := ro4
      refine j_iload_n (q := 0) (pc' := 144) C dX12_spare_143 rfl rfl rfl ?_
      have hr := Option.some.inj hr
      subst hr
      exact j_iret C hq hret dX12_spare_144
    refine j_lv [2, 1, 0] rfl (it_J (J := (fun s3 => Jd G 0 0 nx s3.2 14 [(0, .ref this), (2, .int s3.1.1), (3, .int s3.1.2)] [])) ?_ ho4)
    clear ho4
    intro s3 r5 hr is3 es3
    refine j_iload_n (q := 2) (pc' := 15) C dX12_spare_14 rfl rfl rfl ?_
    refine j_aload_n (q := 0) (pc' := 16) C dX12_spare_15 rfl rfl rfl ?_
    obtain ⟨x6, hx6, hr⟩ := ob hr
    refine j_getI (pc' := 19) C dX12_spare_16 fl_X12_390 hx6 rfl ?_
    refine j_ic_ge (tgt := 143) (pc' := 22) C dX12_spare_19 rfl rfl (fun hc => ?_) (fun hc => ?_)
    · have hr := ifT hc hr
      clear hc
      have hr := es3 _ (Option.some.inj hr).symm
      subst hr
      exact j_lv [1] rfl ko4
    · have hr := ifF hc hr
      clear hc
      refine j_lconst (v := 0) (pc' := 23) C dX12_spare_22 kL_0 rfl ?_
      refine j_lstore (lv' := [(4, .long 0), (0, .ref this), (2, .int s3.1.1), (3, .int s3.1.2)]) (pc' := 25) C dX12_spare_23 (by decide) rfl rfl ?_
      refine j_iconst (v := 0) (pc' := 26) C dX12_spare_25 kI_0 rfl ?_
      refine j_istore (lv' := [(6, .int 0), (4, .long 0), (0, .ref this), (2, .int s3.1.1), (3, .int s3.1.2)]) (pc' := 28) C dX12_spare_26 (by decide) rfl rfl ?_
      obtain ⟨o8, ho8, ro8⟩ := ob hr
      have ko8 : Jd G 0 0 nx s3.2 60 [(0, .ref this), (2, .int s3.1.1), (3, .int s3.1.2), (4, .long o8)] [] := by
        have hr := ro8
        refine j_aload_n (q := 0) (pc' := 61) C dX12_spare_60 rfl rfl rfl ?_
        refine j_lload (q := 3) (pc' := 63) C dX12_spare_61 rfl rfl ?_
        obtain ⟨z10, hz10, hr⟩ := ob hr
        obtain ⟨x11, hx11, hr⟩ := ob hr
        obtain ⟨fhz10, hz10⟩ := rcv_sp hz10
        refine j_callV (ci := 9) (As := [.long o8]) (rest := []) (st1 := [.int x11]) (pc' := 66) C ⟨wm_2038, wm_115⟩ rfl hz10 (c_X12_judge (nx := nx) hx11) yw_X12_judge wm_2036 rfl rfl (by decide) ⟨by decide, by decide⟩ dX12_spare_63 rfl rfl ?_
        refine j_if_eq (tgt := 75) (pc' := 69) C dX12_spare_66 rfl rfl (fun hc => ?_) (fun hc => ?_)
        · have hr := ifT hc hr
          clear hc
          refine j_iinc (q := 1) (v := 1) (lv' := [(2, .int (s3.1.1 + 1)), (0, .ref this), (3, .int s3.1.2), (4, .long o8)]) (pc' := 78) C dX12_spare_75 rfl kI_1 (by decide) rfl rfl ?_
          refine j_iload_n (q := 2) (pc' := 79) C dX12_spare_78 rfl rfl rfl ?_
          refine j_istore (lv' := [(6, .int s3.1.2), (2, .int (s3.1.1 + 1)), (0, .ref this), (3, .int s3.1.2), (4, .long o8)]) (pc' := 81) C dX12_spare_79 (by decide) rfl rfl ?_
          obtain ⟨o13, ho13, ro13⟩ := ob hr
          have ko13 : Jd G 0 0 nx o13.2 130 [(0, .ref this), (2, .int (s3.1.1 + 1)), (3, .int s3.1.2)] [] := by
            have hr := ro13
            refine j_aload_n (q := 0) (pc' := 131) C dX12_spare_130 rfl rfl rfl ?_
            refine j_dup (pc' := 132) C dX12_spare_131 rfl rfl ?_
            obtain ⟨x15, hx15, hr⟩ := ob hr
            refine j_getI (pc' := 135) C dX12_spare_132 fl_X12_390 hx15 rfl ?_
            refine j_iconst (v := 1) (pc' := 136) C dX12_spare_135 kI_1 rfl ?_
            refine j_isub (pc' := 137) C dX12_spare_136 rfl ?_
            obtain ⟨c16, hc16, hr⟩ := ob hr
            refine j_put (pc' := 140) C dX12_spare_137 fw_X12_390 rfl rfl hc16 rfl ?_
            refine j_goto (tgt := 14) C dX12_spare_140 rfl ?_
            exact j_lv [0, 1, 2] rfl (is3 _ (Option.some.inj hr).symm)
          refine j_lv [2, 1, 3, 0] rfl (it_J (J := (fun s12 => Jd G 0 0 nx s12.2 81 [(0, .ref this), (2, .int (s3.1.1 + 1)), (3, .int s3.1.2), (6, .int s12.1)] [])) ?_ ho13)
          clear ho13
          intro s12 r14 hr is12 es12
          refine j_iload (q := 3) (pc' := 83) C dX12_spare_81 rfl rfl ?_
          refine j_aload_n (q := 0) (pc' := 84) C dX12_spare_83 rfl rfl rfl ?_
          obtain ⟨x17, hx17, hr⟩ := ob hr
          refine j_getI (pc' := 87) C dX12_spare_84 fl_X12_390 hx17 rfl ?_
          refine j_iconst (v := 1) (pc' := 88) C dX12_spare_87 kI_1 rfl ?_
          refine j_isub (pc' := 89) C dX12_spare_88 rfl ?_
          refine j_ic_ge (tgt := 130) (pc' := 92) C dX12_spare_89 rfl rfl (fun hc => ?_) (fun hc => ?_)
          · have hr := ifT hc hr
            clear hc
            have hr := es12 _ (Option.some.inj hr).symm
            subst hr
            exact j_lv [0, 1, 2] rfl ko13
          · have hr := ifF hc hr
            clear hc
            refine j_aload_n (q := 0) (pc' := 93) C dX12_spare_92 rfl rfl rfl ?_
            obtain ⟨x18, hx18, hr⟩ := ob hr
            refine j_getA (pc' := 96) C dX12_spare_93 fl_X12_62 hx18 rfl ?_
            refine j_iload (q := 3) (pc' := 98) C dX12_spare_96 rfl rfl ?_
            refine j_aload_n (q := 0) (pc' := 99) C dX12_spare_98 rfl rfl rfl ?_
            obtain ⟨x19, hx19, hr⟩ := ob hr
            refine j_getA (pc' := 102) C dX12_spare_99 fl_X12_62 hx19 rfl ?_
            refine j_iload (q := 3) (pc' := 104) C dX12_spare_102 rfl rfl ?_
            refine j_iconst (v := 1) (pc' := 105) C dX12_spare_104 kI_1 rfl ?_
            refine j_iadd (pc' := 106) C dX12_spare_105 rfl ?_
            obtain ⟨x20, hx20, hr⟩ := ob hr
            refine j_iald (pc' := 107) C dX12_spare_106 hx20 rfl ?_
            obtain ⟨c21, hc21, hr⟩ := ob hr
            refine j_iast (pc' := 108) C dX12_spare_107 hc21 rfl ?_
            refine j_aload_n (q := 0) (pc' := 109) C dX12_spare_108 rfl rfl rfl ?_
            obtain ⟨x22, hx22, hr⟩ := ob hr
            refine j_getA (pc' := 112) C dX12_spare_109 fl_X12_65 hx22 rfl ?_
            refine j_iload (q := 3) (pc' := 114) C dX12_spare_112 rfl rfl ?_
            refine j_aload_n (q := 0) (pc' := 115) C dX12_spare_114 rfl rfl rfl ?_
            obtain ⟨x23, hx23, hr⟩ := ob hr
            refine j_getA (pc' := 118) C dX12_spare_115 fl_X12_65 hx23 rfl ?_
            refine j_iload (q := 3) (pc' := 120) C dX12_spare_118 rfl rfl ?_
            refine j_iconst (v := 1) (pc' := 121) C dX12_spare_120 kI_1 rfl ?_
            refine j_iadd (pc' := 122) C dX12_spare_121 rfl ?_
            obtain ⟨x24, hx24, hr⟩ := ob hr
            refine j_iald (pc' := 123) C dX12_spare_122 hx24 rfl ?_
            obtain ⟨c25, hc25, hr⟩ := ob hr
            refine j_iast (pc' := 124) C dX12_spare_123 hc25 rfl ?_
            refine j_iinc (q := 3) (v := 1) (lv' := [(6, .int (s12.1 + 1)), (0, .ref this), (2, .int (s3.1.1 + 1)), (3, .int s3.1.2)]) (pc' := 127) C dX12_spare_124 rfl kI_1 (by decide) rfl rfl ?_
            refine j_goto (tgt := 81) C dX12_spare_127 rfl ?_
            exact j_lv [1, 2, 3, 0] rfl (is12 _ (Option.some.inj hr).symm)
        · have hr := ifF hc hr
          clear hc
          refine j_iinc (q := 2) (v := 1) (lv' := [(3, .int (s3.1.2 + 1)), (0, .ref this), (2, .int s3.1.1), (4, .long o8)]) (pc' := 72) C dX12_spare_69 rfl kI_1 (by decide) rfl rfl ?_
          refine j_goto (tgt := 14) C dX12_spare_72 rfl ?_
          exact j_lv [1, 2, 0] rfl (is3 _ (Option.some.inj hr).symm)
      refine j_lv [2, 3, 4, 1, 0] rfl (it_J (J := (fun s7 => Jd G 0 0 nx s3.2 28 [(0, .ref this), (2, .int s3.1.1), (3, .int s3.1.2), (4, .long s7.1), (6, .int s7.2)] [])) ?_ ho8)
      clear ho8
      intro s7 r9 hr is7 es7
      refine j_iload (q := 4) (pc' := 30) C dX12_spare_28 rfl rfl ?_
      refine j_aload_n (q := 0) (pc' := 31) C dX12_spare_30 rfl rfl rfl ?_
      obtain ⟨x26, hx26, hr⟩ := ob hr
      refine j_getI (pc' := 34) C dX12_spare_31 fl_X12_390 hx26 rfl ?_
      refine j_ic_ge (tgt := 60) (pc' := 37) C dX12_spare_34 rfl rfl (fun hc => ?_) (fun hc => ?_)
      · have hr := ifT hc hr
        clear hc
        have hr := es7 _ (Option.some.inj hr).symm
        subst hr
        exact j_lv [0, 1, 2, 3] rfl ko8
      · have hr := ifF hc hr
        clear hc
        refine j_iload (q := 4) (pc' := 39) C dX12_spare_37 rfl rfl ?_
        refine j_iload_n (q := 2) (pc' := 40) C dX12_spare_39 rfl rfl rfl ?_
        refine j_ic_eq (tgt := 54) (pc' := 43) C dX12_spare_40 rfl rfl (fun hc => ?_) (fun hc => ?_)
        · have hr := ifT hc hr
          clear hc
          refine j_iinc (q := 4) (v := 1) (lv' := [(6, .int (s7.2 + 1)), (0, .ref this), (2, .int s3.1.1), (3, .int s3.1.2), (4, .long s7.1)]) (pc' := 57) C dX12_spare_54 rfl kI_1 (by decide) rfl rfl ?_
          refine j_goto (tgt := 28) C dX12_spare_57 rfl ?_
          exact j_lv [1, 2, 3, 4, 0] rfl (is7 _ (Option.some.inj hr).symm)
        · have hr := ifF hc hr
          clear hc
          refine j_lload (q := 3) (pc' := 45) C dX12_spare_43 rfl rfl ?_
          refine j_aload_n (q := 0) (pc' := 46) C dX12_spare_45 rfl rfl rfl ?_
          refine j_iload (q := 4) (pc' := 48) C dX12_spare_46 rfl rfl ?_
          obtain ⟨z27, hz27, hr⟩ := ob hr
          obtain ⟨x28, hx28, hr⟩ := ob hr
          obtain ⟨fhz27, hz27⟩ := rcv_sp hz27
          refine j_callV (ci := 9) (As := [.int s7.2]) (rest := [.long s7.1]) (st1 := [.long x28, .long s7.1]) (pc' := 51) C ⟨wm_2034, wm_114⟩ rfl hz27 (c_X12_barredBy (nx := nx) hx28) yw_X12_barredBy wm_2032 rfl rfl (by decide) ⟨by decide, by decide⟩ dX12_spare_48 rfl rfl ?_
          refine j_lor (pc' := 52) C dX12_spare_51 rfl ?_
          refine j_lstore (lv' := [(4, .long (s7.1 ||| x28)), (0, .ref this), (2, .int s3.1.1), (3, .int s3.1.2), (6, .int s7.2)]) (pc' := 54) C dX12_spare_52 (by decide) rfl rfl ?_
          refine j_iinc (q := 4) (v := 1) (lv' := [(6, .int (s7.2 + 1)), (4, .long (s7.1 ||| x28)), (0, .ref this), (2, .int s3.1.1), (3, .int s3.1.2)]) (pc' := 57) C dX12_spare_54 rfl kI_1 (by decide) rfl rfl ?_
          refine j_goto (tgt := 28) C dX12_spare_57 rfl ?_
          exact j_lv [2, 3, 4, 1, 0] rfl (is7 _ (Option.some.inj hr).symm)
  · have hr := ifT hc hr
    clear hc
    refine j_iconst (v := -1) (pc' := 9) C dX12_spare_8 kI_m1 rfl ?_
    have hr := Option.some.inj hr
    subst hr
    exact j_iret C hq hret dX12_spare_9
def m_X12_fewestOf (ce : Ce) (this : Nat) (p1 : Int32) : Option (Int32 × Ce) :=
  (rcv ce 9 this).bind fun z1 =>
  (m_X12_isFine ce this p1).bind fun q2 =>
  if q2.1 = 0 then
    some ((-1), q2.2)
  else
    (gI q2.2 9 31 this).bind fun x3 =>
    if x3 ≤ 12 then
      (it (fun s4 =>
        (gI s4.2 9 31 this).bind fun x22 =>
        if x22 ≤ s4.1 then
          some (Sum.inr ((), s4.2))
        else
          (gA s4.2 9 32 this).bind fun x23 =>
          (rcv s4.2 9 this).bind fun z24 =>
          (m_X12_barredBy s4.2 this s4.1).bind fun x25 =>
          (sL s4.2 x23 s4.1 x25).bind fun c26 =>
          some (Sum.inl ((s4.1 + 1), c26))
      ) FU (0, q2.2)).bind fun o5 =>
      (it (fun s7 =>
        (gI o5.2 9 31 this).bind fun x10 =>
        if (1 <<< (x10 &&& 31)) ≤ s7.2 then
          some (Sum.inr s7.1)
        else
          (
            if s7.1 = (-1) then
              some (Sum.inr s7.2)
            else
              (m_X12_many (Int32.toInt64 s7.2)).bind fun x20 =>
              (m_X12_many (Int32.toInt64 s7.1)).bind fun x21 =>
              if x20 < x21 then
                some (Sum.inr s7.2)
              else
                some (Sum.inl (Sum.inl (s7.1, (s7.2 + 1))))
          ).bind fun j11 => Sum.elim (fun wj11 => some wj11) (fun vj11 =>
            (it (fun s12 =>
              (gI o5.2 9 31 this).bind fun x17 =>
              if x17 ≤ s12.2 then
                some (Sum.inr s12.1)
              else
                if ((vj11 >>> (s12.2 &&& 31)) &&& 1) = 1 then
                  (gA o5.2 9 32 this).bind fun x18 =>
                  (aL o5.2 x18 s12.2).bind fun x19 =>
                  some (Sum.inl ((s12.1 ||| x19), (s12.2 + 1)))
                else
                  some (Sum.inl (s12.1, (s12.2 + 1)))
            ) FU (0, 0)).bind fun o13 =>
            (rcv o5.2 9 this).bind fun z15 =>
            (m_X12_judge o5.2 this o13).bind fun x16 =>
            if x16 = 0 then
              some (Sum.inl (vj11, (vj11 + 1)))
            else
              some (Sum.inl (s7.1, (vj11 + 1)))
          ) j11
      ) FU ((-1), 0)).bind fun o8 =>
      some (o8, o5.2)
    else
      some ((-1), q2.2)
set_option maxRecDepth 100000 in
set_option maxHeartbeats 4000000 in
theorem c_X12_fewestOf {nx : Nat} {ce : Ce} {this : Nat} {p1 : Int32} {q : Int32 × Ce} (hr : m_X12_fewestOf ce this p1 = some q) : Ct yX12_fewestOf cX12_fewestOf 7 (some .int) 6 134 0 0 [.ref this, .int p1] nx ce (some (.int q.1)) q.2 := by
  unfold m_X12_fewestOf at hr
  refine ct_of (by decide) (by decide) ?_
  intro G C hq hret hin
  show Jd G 0 0 nx ce 0 [(0, .ref this), (1, .int p1)] []
  refine j_aload_n (q := 0) (pc' := 1) C dX12_fewestOf_0 rfl rfl rfl ?_
  refine j_iload_n (q := 1) (pc' := 2) C dX12_fewestOf_1 rfl rfl rfl ?_
  obtain ⟨z1, hz1, hr⟩ := ob hr
  obtain ⟨q2, hq2, hr⟩ := ob hr
  obtain ⟨fhz1, hz1⟩ := rcv_sp hz1
  refine j_callV (ci := 9) (As := [.int p1]) (rest := []) (st1 := [.int q2.1]) (pc' := 5) C ⟨wm_2066, wm_118⟩ rfl hz1 (c_X12_isFine (nx := nx) hq2) yw_X12_isFine wm_2064 rfl rfl (by decide) ⟨by decide, by decide⟩ dX12_fewestOf_2 rfl rfl ?_
  refine j_if_eq (tgt := 17) (pc' := 8) C dX12_fewestOf_5 rfl rfl (fun hc => ?_) (fun hc => ?_)
  · have hr := ifT hc hr
    clear hc
    refine j_iconst (v := -1) (pc' := 18) C dX12_fewestOf_17 kI_m1 rfl ?_
    have hr := Option.some.inj hr
    subst hr
    exact j_iret C hq hret dX12_fewestOf_18
  · have hr := ifF hc hr
    clear hc
    refine j_aload_n (q := 0) (pc' := 9) C dX12_fewestOf_8 rfl rfl rfl ?_
    obtain ⟨x3, hx3, hr⟩ := ob hr
    refine j_getI (pc' := 12) C dX12_fewestOf_9 fl_X12_390 hx3 rfl ?_
    refine j_bipush (v := 12) (pc' := 14) C dX12_fewestOf_12 kB_12 rfl ?_
    refine j_ic_le (tgt := 19) (pc' := 17) C dX12_fewestOf_14 rfl rfl (fun hc => ?_) (fun hc => ?_)
    · have hr := ifT hc hr
      clear hc
      refine j_iconst (v := 0) (pc' := 20) C dX12_fewestOf_19 kI_0 rfl ?_
      refine j_istore_n (lv' := [(2, .int 0), (0, .ref this), (1, .int p1)]) (pc' := 21) C dX12_fewestOf_20 rfl (by decide) rfl rfl ?_
      obtain ⟨o5, ho5, ro5⟩ := ob hr
      have ko5 : Jd G 0 0 nx o5.2 46 [(0, .ref this)] [] := by
        have hr := ro5
        refine j_iconst (v := -1) (pc' := 47) C dX12_fewestOf_46 kI_m1 rfl ?_
        refine j_istore_n (lv' := [(2, .int (-1)), (0, .ref this)]) (pc' := 48) C dX12_fewestOf_47 rfl (by decide) rfl rfl ?_
        refine j_iconst (v := 0) (pc' := 49) C dX12_fewestOf_48 kI_0 rfl ?_
        refine j_istore_n (lv' := [(3, .int 0), (2, .int (-1)), (0, .ref this)]) (pc' := 50) C dX12_fewestOf_49 rfl (by decide) rfl rfl ?_
        obtain ⟨o8, ho8, ro8⟩ := ob hr
        have ko8 : Jd G 0 0 nx o5.2 141 [(2, .int o8)] [] := by
          have hr := ro8
          refine j_iload_n (q := 0) (pc' := 142) C dX12_fewestOf_141 rfl rfl rfl ?_
          have hr := Option.some.inj hr
          subst hr
          exact j_iret C hq hret dX12_fewestOf_142
        refine j_lv [2, 1, 0] rfl (it_J (J := (fun s7 => Jd G 0 0 nx o5.2 50 [(0, .ref this), (2, .int s7.1), (3, .int s7.2)] [])) ?_ ho8)
        clear ho8
        intro s7 r9 hr is7 es7
        refine j_iload_n (q := 2) (pc' := 51) C dX12_fewestOf_50 rfl rfl rfl ?_
        refine j_iconst (v := 1) (pc' := 52) C dX12_fewestOf_51 kI_1 rfl ?_
        refine j_aload_n (q := 0) (pc' := 53) C dX12_fewestOf_52 rfl rfl rfl ?_
        obtain ⟨x10, hx10, hr⟩ := ob hr
        refine j_getI (pc' := 56) C dX12_fewestOf_53 fl_X12_390 hx10 rfl ?_
        refine j_ishl (pc' := 57) C dX12_fewestOf_56 rfl ?_
        refine j_ic_ge (tgt := 141) (pc' := 60) C dX12_fewestOf_57 rfl rfl (fun hc => ?_) (fun hc => ?_)
        · have hr := ifT hc hr
          clear hc
          have hr := es7 _ (Option.some.inj hr).symm
          subst hr
          exact j_lv [1] rfl ko8
        · have hr := ifF hc hr
          clear hc
          refine j_iload_n (q := 1) (pc' := 61) C dX12_fewestOf_60 rfl rfl rfl ?_
          refine j_iconst (v := -1) (pc' := 62) C dX12_fewestOf_61 kI_m1 rfl ?_
          obtain ⟨j11, hj11, rj11⟩ := ob hr
          have kj11 : ∀ vj11, j11 = Sum.inr vj11 → Jd G 0 0 nx o5.2 81 [(0, .ref this), (2, .int s7.1), (3, .int vj11)] [] := by
            intro vj11 ej11
            rw [ej11] at rj11
            have hr := elR rj11
            refine j_lconst (v := 0) (pc' := 82) C dX12_fewestOf_81 kL_0 rfl ?_
            refine j_lstore (lv' := [(4, .long 0), (0, .ref this), (2, .int s7.1), (3, .int vj11)]) (pc' := 84) C dX12_fewestOf_82 (by decide) rfl rfl ?_
            refine j_iconst (v := 0) (pc' := 85) C dX12_fewestOf_84 kI_0 rfl ?_
            refine j_istore (lv' := [(6, .int 0), (4, .long 0), (0, .ref this), (2, .int s7.1), (3, .int vj11)]) (pc' := 87) C dX12_fewestOf_85 (by decide) rfl rfl ?_
            obtain ⟨o13, ho13, ro13⟩ := ob hr
            have ko13 : Jd G 0 0 nx o5.2 124 [(0, .ref this), (2, .int s7.1), (3, .int vj11), (4, .long o13)] [] := by
              have hr := ro13
              refine j_aload_n (q := 0) (pc' := 125) C dX12_fewestOf_124 rfl rfl rfl ?_
              refine j_lload (q := 3) (pc' := 127) C dX12_fewestOf_125 rfl rfl ?_
              obtain ⟨z15, hz15, hr⟩ := ob hr
              obtain ⟨x16, hx16, hr⟩ := ob hr
              obtain ⟨fhz15, hz15⟩ := rcv_sp hz15
              refine j_callV (ci := 9) (As := [.long o13]) (rest := []) (st1 := [.int x16]) (pc' := 130) C ⟨wm_2038, wm_115⟩ rfl hz15 (c_X12_judge (nx := nx) hx16) yw_X12_judge wm_2036 rfl rfl (by decide) ⟨by decide, by decide⟩ dX12_fewestOf_127 rfl rfl ?_
              refine j_if_ne (tgt := 135) (pc' := 133) C dX12_fewestOf_130 rfl rfl (fun hc => ?_) (fun hc => ?_)
              · have hr := ifF hc hr
                clear hc
                refine j_iinc (q := 2) (v := 1) (lv' := [(3, .int (vj11 + 1)), (0, .ref this), (2, .int s7.1), (4, .long o13)]) (pc' := 138) C dX12_fewestOf_135 rfl kI_1 (by decide) rfl rfl ?_
                refine j_goto (tgt := 50) C dX12_fewestOf_138 rfl ?_
                exact j_lv [1, 2, 0] rfl (is7 _ (Option.some.inj hr).symm)
              · have hr := ifT hc hr
                clear hc
                refine j_iload_n (q := 2) (pc' := 134) C dX12_fewestOf_133 rfl rfl rfl ?_
                refine j_istore_n (lv' := [(2, .int vj11), (0, .ref this), (3, .int vj11), (4, .long o13)]) (pc' := 135) C dX12_fewestOf_134 rfl (by decide) rfl rfl ?_
                refine j_iinc (q := 2) (v := 1) (lv' := [(3, .int (vj11 + 1)), (2, .int vj11), (0, .ref this), (4, .long o13)]) (pc' := 138) C dX12_fewestOf_135 rfl kI_1 (by decide) rfl rfl ?_
                refine j_goto (tgt := 50) C dX12_fewestOf_138 rfl ?_
                exact j_lv [2, 1, 0] rfl (is7 _ (Option.some.inj hr).symm)
            refine j_lv [2, 3, 4, 1, 0] rfl (it_J (J := (fun s12 => Jd G 0 0 nx o5.2 87 [(0, .ref this), (2, .int s7.1), (3, .int vj11), (4, .long s12.1), (6, .int s12.2)] [])) ?_ ho13)
            clear ho13
            intro s12 r14 hr is12 es12
            refine j_iload (q := 4) (pc' := 89) C dX12_fewestOf_87 rfl rfl ?_
            refine j_aload_n (q := 0) (pc' := 90) C dX12_fewestOf_89 rfl rfl rfl ?_
            obtain ⟨x17, hx17, hr⟩ := ob hr
            refine j_getI (pc' := 93) C dX12_fewestOf_90 fl_X12_390 hx17 rfl ?_
            refine j_ic_ge (tgt := 124) (pc' := 96) C dX12_fewestOf_93 rfl rfl (fun hc => ?_) (fun hc => ?_)
            · have hr := ifT hc hr
              clear hc
              have hr := es12 _ (Option.some.inj hr).symm
              subst hr
              exact j_lv [0, 1, 2, 3] rfl ko13
            · have hr := ifF hc hr
              clear hc
              refine j_iload_n (q := 2) (pc' := 97) C dX12_fewestOf_96 rfl rfl rfl ?_
              refine j_iload (q := 4) (pc' := 99) C dX12_fewestOf_97 rfl rfl ?_
              refine j_ishr (pc' := 100) C dX12_fewestOf_99 rfl ?_
              refine j_iconst (v := 1) (pc' := 101) C dX12_fewestOf_100 kI_1 rfl ?_
              refine j_iand (pc' := 102) C dX12_fewestOf_101 rfl ?_
              refine j_iconst (v := 1) (pc' := 103) C dX12_fewestOf_102 kI_1 rfl ?_
              refine j_ic_ne (tgt := 118) (pc' := 106) C dX12_fewestOf_103 rfl rfl (fun hc => ?_) (fun hc => ?_)
              · have hr := ifF hc hr
                clear hc
                refine j_iinc (q := 4) (v := 1) (lv' := [(6, .int (s12.2 + 1)), (0, .ref this), (2, .int s7.1), (3, .int vj11), (4, .long s12.1)]) (pc' := 121) C dX12_fewestOf_118 rfl kI_1 (by decide) rfl rfl ?_
                refine j_goto (tgt := 87) C dX12_fewestOf_121 rfl ?_
                exact j_lv [1, 2, 3, 4, 0] rfl (is12 _ (Option.some.inj hr).symm)
              · have hr := ifT hc hr
                clear hc
                refine j_lload (q := 3) (pc' := 108) C dX12_fewestOf_106 rfl rfl ?_
                refine j_aload_n (q := 0) (pc' := 109) C dX12_fewestOf_108 rfl rfl rfl ?_
                obtain ⟨x18, hx18, hr⟩ := ob hr
                refine j_getA (pc' := 112) C dX12_fewestOf_109 fl_X12_68 hx18 rfl ?_
                refine j_iload (q := 4) (pc' := 114) C dX12_fewestOf_112 rfl rfl ?_
                obtain ⟨x19, hx19, hr⟩ := ob hr
                refine j_lald (pc' := 115) C dX12_fewestOf_114 hx19 rfl ?_
                refine j_lor (pc' := 116) C dX12_fewestOf_115 rfl ?_
                refine j_lstore (lv' := [(4, .long (s12.1 ||| x19)), (0, .ref this), (2, .int s7.1), (3, .int vj11), (6, .int s12.2)]) (pc' := 118) C dX12_fewestOf_116 (by decide) rfl rfl ?_
                refine j_iinc (q := 4) (v := 1) (lv' := [(6, .int (s12.2 + 1)), (4, .long (s12.1 ||| x19)), (0, .ref this), (2, .int s7.1), (3, .int vj11)]) (pc' := 121) C dX12_fewestOf_118 rfl kI_1 (by decide) rfl rfl ?_
                refine j_goto (tgt := 87) C dX12_fewestOf_121 rfl ?_
                exact j_lv [2, 3, 4, 1, 0] rfl (is12 _ (Option.some.inj hr).symm)
          have hr := hj11
          clear hj11
          refine j_ic_eq (tgt := 81) (pc' := 65) C dX12_fewestOf_62 rfl rfl (fun hc => ?_) (fun hc => ?_)
          · have hr := ifT hc hr
            clear hc
            have hr := Option.some.inj hr
            subst hr
            exact j_lv [0, 1, 2] rfl (kj11 _ rfl)
          · have hr := ifF hc hr
            clear hc
            refine j_iload_n (q := 2) (pc' := 66) C dX12_fewestOf_65 rfl rfl rfl ?_
            refine j_i2l (pc' := 67) C dX12_fewestOf_66 rfl ?_
            obtain ⟨x20, hx20, hr⟩ := ob hr
            refine j_callS (As := [.long (Int32.toInt64 s7.2)]) (rest := []) (st1 := [.int x20]) (pc' := 70) C wm_1856 (c_X12_many (nx := nx) (ce := o5.2) hx20) yw_X12_many wm_1855 rfl rfl (by decide) ⟨by decide, by decide⟩ dX12_fewestOf_67 rfl rfl ?_
            refine j_iload_n (q := 1) (pc' := 71) C dX12_fewestOf_70 rfl rfl rfl ?_
            refine j_i2l (pc' := 72) C dX12_fewestOf_71 rfl ?_
            obtain ⟨x21, hx21, hr⟩ := ob hr
            refine j_callS (As := [.long (Int32.toInt64 s7.1)]) (rest := [.int x20]) (st1 := [.int x21, .int x20]) (pc' := 75) C wm_1856 (c_X12_many (nx := nx) (ce := o5.2) hx21) yw_X12_many wm_1855 rfl rfl (by decide) ⟨by decide, by decide⟩ dX12_fewestOf_72 rfl rfl ?_
            refine j_ic_lt (tgt := 81) (pc' := 78) C dX12_fewestOf_75 rfl rfl (fun hc => ?_) (fun hc => ?_)
            · have hr := ifT hc hr
              clear hc
              have hr := Option.some.inj hr
              subst hr
              exact j_lv [0, 1, 2] rfl (kj11 _ rfl)
            · have hr := ifF hc hr
              clear hc
              refine j_goto (tgt := 135) C dX12_fewestOf_78 rfl ?_
              refine j_iinc (q := 2) (v := 1) (lv' := [(3, .int (s7.2 + 1)), (0, .ref this), (2, .int s7.1)]) (pc' := 138) C dX12_fewestOf_135 rfl kI_1 (by decide) rfl rfl ?_
              refine j_goto (tgt := 50) C dX12_fewestOf_138 rfl ?_
              have hr := Option.some.inj hr
              subst hr
              have hr := elL rj11
              exact j_lv [1, 2, 0] rfl (is7 _ (Option.some.inj hr).symm)
      refine j_lv [1, 0] rfl (it_J (J := (fun s4 => Jd G 0 0 nx s4.2 21 [(0, .ref this), (2, .int s4.1)] [])) ?_ ho5)
      clear ho5
      intro s4 r6 hr is4 es4
      refine j_iload_n (q := 1) (pc' := 22) C dX12_fewestOf_21 rfl rfl rfl ?_
      refine j_aload_n (q := 0) (pc' := 23) C dX12_fewestOf_22 rfl rfl rfl ?_
      obtain ⟨x22, hx22, hr⟩ := ob hr
      refine j_getI (pc' := 26) C dX12_fewestOf_23 fl_X12_390 hx22 rfl ?_
      refine j_ic_ge (tgt := 46) (pc' := 29) C dX12_fewestOf_26 rfl rfl (fun hc => ?_) (fun hc => ?_)
      · have hr := ifT hc hr
        clear hc
        have hr := es4 _ (Option.some.inj hr).symm
        subst hr
        exact j_lv [0] rfl ko5
      · have hr := ifF hc hr
        clear hc
        refine j_aload_n (q := 0) (pc' := 30) C dX12_fewestOf_29 rfl rfl rfl ?_
        obtain ⟨x23, hx23, hr⟩ := ob hr
        refine j_getA (pc' := 33) C dX12_fewestOf_30 fl_X12_68 hx23 rfl ?_
        refine j_iload_n (q := 1) (pc' := 34) C dX12_fewestOf_33 rfl rfl rfl ?_
        refine j_aload_n (q := 0) (pc' := 35) C dX12_fewestOf_34 rfl rfl rfl ?_
        refine j_iload_n (q := 1) (pc' := 36) C dX12_fewestOf_35 rfl rfl rfl ?_
        obtain ⟨z24, hz24, hr⟩ := ob hr
        obtain ⟨x25, hx25, hr⟩ := ob hr
        obtain ⟨fhz24, hz24⟩ := rcv_sp hz24
        refine j_callV (ci := 9) (As := [.int s4.1]) (rest := [.int s4.1, .ref x23]) (st1 := [.long x25, .int s4.1, .ref x23]) (pc' := 39) C ⟨wm_2034, wm_114⟩ rfl hz24 (c_X12_barredBy (nx := nx) hx25) yw_X12_barredBy wm_2032 rfl rfl (by decide) ⟨by decide, by decide⟩ dX12_fewestOf_36 rfl rfl ?_
        obtain ⟨c26, hc26, hr⟩ := ob hr
        refine j_last (pc' := 40) C dX12_fewestOf_39 hc26 rfl ?_
        refine j_iinc (q := 1) (v := 1) (lv' := [(2, .int (s4.1 + 1)), (0, .ref this)]) (pc' := 43) C dX12_fewestOf_40 rfl kI_1 (by decide) rfl rfl ?_
        refine j_goto (tgt := 21) C dX12_fewestOf_43 rfl ?_
        exact j_lv [1, 0] rfl (is4 _ (Option.some.inj hr).symm)
    · have hr := ifF hc hr
      clear hc
      refine j_iconst (v := -1) (pc' := 18) C dX12_fewestOf_17 kI_m1 rfl ?_
      have hr := Option.some.inj hr
      subst hr
      exact j_iret C hq hret dX12_fewestOf_18
def m_X12_fewest (ce : Ce) (this : Nat) (p1 : Int32) : Option (Int32 × Ce) :=
  (rcv ce 9 this).bind fun z1 =>
  (m_X12_fewestOf ce this p1).bind fun q2 =>
  if q2.1 = (-1) then
    some ((-1), q2.2)
  else
    (m_X12_many (Int32.toInt64 q2.1)).bind fun x3 =>
    some (x3, q2.2)
set_option maxRecDepth 100000 in
set_option maxHeartbeats 4000000 in
theorem c_X12_fewest {nx : Nat} {ce : Ce} {this : Nat} {p1 : Int32} {q : Int32 × Ce} (hr : m_X12_fewest ce this p1 = some q) : Ct yX12_fewest cX12_fewest 3 (some .int) 7 160 0 0 [.ref this, .int p1] nx ce (some (.int q.1)) q.2 := by
  unfold m_X12_fewest at hr
  refine ct_of (by decide) (by decide) ?_
  intro G C hq hret hin
  show Jd G 0 0 nx ce 0 [(0, .ref this), (1, .int p1)] []
  refine j_aload_n (q := 0) (pc' := 1) C dX12_fewest_0 rfl rfl rfl ?_
  refine j_iload_n (q := 1) (pc' := 2) C dX12_fewest_1 rfl rfl rfl ?_
  obtain ⟨z1, hz1, hr⟩ := ob hr
  obtain ⟨q2, hq2, hr⟩ := ob hr
  obtain ⟨fhz1, hz1⟩ := rcv_sp hz1
  refine j_callV (ci := 9) (As := [.int p1]) (rest := []) (st1 := [.int q2.1]) (pc' := 5) C ⟨wm_2074, wm_119⟩ rfl hz1 (c_X12_fewestOf (nx := nx) hq2) yw_X12_fewestOf wm_2072 rfl rfl (by decide) ⟨by decide, by decide⟩ dX12_fewest_2 rfl rfl ?_
  refine j_istore_n (lv' := [(2, .int q2.1), (0, .ref this), (1, .int p1)]) (pc' := 6) C dX12_fewest_5 rfl (by decide) rfl rfl ?_
  refine j_iload_n (q := 0) (pc' := 7) C dX12_fewest_6 rfl rfl rfl ?_
  refine j_iconst (v := -1) (pc' := 8) C dX12_fewest_7 kI_m1 rfl ?_
  refine j_ic_ne (tgt := 15) (pc' := 11) C dX12_fewest_8 rfl rfl (fun hc => ?_) (fun hc => ?_)
  · have hr := ifF hc hr
    clear hc
    refine j_iload_n (q := 0) (pc' := 16) C dX12_fewest_15 rfl rfl rfl ?_
    refine j_i2l (pc' := 17) C dX12_fewest_16 rfl ?_
    obtain ⟨x3, hx3, hr⟩ := ob hr
    refine j_callS (As := [.long (Int32.toInt64 q2.1)]) (rest := []) (st1 := [.int x3]) (pc' := 20) C wm_1856 (c_X12_many (nx := nx) (ce := q2.2) hx3) yw_X12_many wm_1855 rfl rfl (by decide) ⟨by decide, by decide⟩ dX12_fewest_17 rfl rfl ?_
    have hr := Option.some.inj hr
    subst hr
    exact j_iret C hq hret dX12_fewest_20
  · have hr := ifT hc hr
    clear hc
    refine j_iconst (v := -1) (pc' := 12) C dX12_fewest_11 kI_m1 rfl ?_
    refine j_goto (tgt := 20) C dX12_fewest_12 rfl ?_
    have hr := Option.some.inj hr
    subst hr
    exact j_iret C hq hret dX12_fewest_20
def m_X12_chosen (ce : Ce) (this : Nat) (p1 : Int32) : Option (Int32 × Ce) :=
  (rcv ce 9 this).bind fun z1 =>
  (m_X12_fewestOf ce this p1).bind fun q2 =>
  some (q2.1, q2.2)
set_option maxRecDepth 100000 in
set_option maxHeartbeats 4000000 in
theorem c_X12_chosen {nx : Nat} {ce : Ce} {this : Nat} {p1 : Int32} {q : Int32 × Ce} (hr : m_X12_chosen ce this p1 = some q) : Ct yX12_chosen cX12_chosen 2 (some .int) 7 160 0 0 [.ref this, .int p1] nx ce (some (.int q.1)) q.2 := by
  unfold m_X12_chosen at hr
  refine ct_of (by decide) (by decide) ?_
  intro G C hq hret hin
  show Jd G 0 0 nx ce 0 [(0, .ref this), (1, .int p1)] []
  refine j_aload_n (q := 0) (pc' := 1) C dX12_chosen_0 rfl rfl rfl ?_
  refine j_iload_n (q := 1) (pc' := 2) C dX12_chosen_1 rfl rfl rfl ?_
  obtain ⟨z1, hz1, hr⟩ := ob hr
  obtain ⟨q2, hq2, hr⟩ := ob hr
  obtain ⟨fhz1, hz1⟩ := rcv_sp hz1
  refine j_callV (ci := 9) (As := [.int p1]) (rest := []) (st1 := [.int q2.1]) (pc' := 5) C ⟨wm_2074, wm_119⟩ rfl hz1 (c_X12_fewestOf (nx := nx) hq2) yw_X12_fewestOf wm_2072 rfl rfl (by decide) ⟨by decide, by decide⟩ dX12_chosen_2 rfl rfl ?_
  have hr := Option.some.inj hr
  subst hr
  exact j_iret C hq hret dX12_chosen_5
def m_X12_inside (ce : Ce) (this : Nat) (p1 : Int32) : Option (Int32 × Ce) :=
  if p1 = 2 then
    some ((-1), ce)
  else
    (rcv ce 9 this).bind fun z1 =>
    (m_X12_isLaid ce this p1).bind fun q2 =>
    if q2.1 = 0 then
      some ((-1), q2.2)
    else
      (rcv q2.2 9 this).bind fun z3 =>
      (m_X12_all q2.2 this).bind fun x4 =>
      (rcv q2.2 9 this).bind fun z5 =>
      (m_X12_barredAll q2.2 this).bind fun x6 =>
      (m_X12_many (x4 &&& (x6 ^^^ (-1)))).bind fun x7 =>
      some (x7, q2.2)
set_option maxRecDepth 100000 in
set_option maxHeartbeats 4000000 in
theorem c_X12_inside {nx : Nat} {ce : Ce} {this : Nat} {p1 : Int32} {q : Int32 × Ce} (hr : m_X12_inside ce this p1 = some q) : Ct yX12_inside cX12_inside 2 (some .int) 5 109 0 0 [.ref this, .int p1] nx ce (some (.int q.1)) q.2 := by
  unfold m_X12_inside at hr
  refine ct_of (by decide) (by decide) ?_
  intro G C hq hret hin
  show Jd G 0 0 nx ce 0 [(0, .ref this), (1, .int p1)] []
  refine j_iload_n (q := 1) (pc' := 1) C dX12_inside_0 rfl rfl rfl ?_
  refine j_iconst (v := 2) (pc' := 2) C dX12_inside_1 kI_2 rfl ?_
  refine j_ic_eq (tgt := 32) (pc' := 5) C dX12_inside_2 rfl rfl (fun hc => ?_) (fun hc => ?_)
  · have hr := ifT hc hr
    clear hc
    refine j_iconst (v := -1) (pc' := 33) C dX12_inside_32 kI_m1 rfl ?_
    have hr := Option.some.inj hr
    subst hr
    exact j_iret C hq hret dX12_inside_33
  · have hr := ifF hc hr
    clear hc
    refine j_aload_n (q := 0) (pc' := 6) C dX12_inside_5 rfl rfl rfl ?_
    refine j_iload_n (q := 1) (pc' := 7) C dX12_inside_6 rfl rfl rfl ?_
    obtain ⟨z1, hz1, hr⟩ := ob hr
    obtain ⟨q2, hq2, hr⟩ := ob hr
    obtain ⟨fhz1, hz1⟩ := rcv_sp hz1
    refine j_callV (ci := 9) (As := [.int p1]) (rest := []) (st1 := [.int q2.1]) (pc' := 10) C ⟨wm_2054, wm_117⟩ rfl hz1 (c_X12_isLaid (nx := nx) hq2) yw_X12_isLaid wm_2052 rfl rfl (by decide) ⟨by decide, by decide⟩ dX12_inside_7 rfl rfl ?_
    refine j_if_eq (tgt := 32) (pc' := 13) C dX12_inside_10 rfl rfl (fun hc => ?_) (fun hc => ?_)
    · have hr := ifT hc hr
      clear hc
      refine j_iconst (v := -1) (pc' := 33) C dX12_inside_32 kI_m1 rfl ?_
      have hr := Option.some.inj hr
      subst hr
      exact j_iret C hq hret dX12_inside_33
    · have hr := ifF hc hr
      clear hc
      refine j_aload_n (q := 0) (pc' := 14) C dX12_inside_13 rfl rfl rfl ?_
      obtain ⟨z3, hz3, hr⟩ := ob hr
      obtain ⟨x4, hx4, hr⟩ := ob hr
      obtain ⟨fhz3, hz3⟩ := rcv_sp hz3
      refine j_callV (ci := 9) (As := []) (rest := []) (st1 := [.long x4]) (pc' := 17) C ⟨wm_1625, wm_56⟩ rfl hz3 (c_X12_all (nx := nx) hx4) yw_X12_all wm_1623 rfl rfl (by decide) ⟨by decide, by decide⟩ dX12_inside_14 rfl rfl ?_
      refine j_aload_n (q := 0) (pc' := 18) C dX12_inside_17 rfl rfl rfl ?_
      obtain ⟨z5, hz5, hr⟩ := ob hr
      obtain ⟨x6, hx6, hr⟩ := ob hr
      obtain ⟨fhz5, hz5⟩ := rcv_sp hz5
      refine j_callV (ci := 9) (As := []) (rest := [.long x4]) (st1 := [.long x6, .long x4]) (pc' := 21) C ⟨wm_2030, wm_113⟩ rfl hz5 (c_X12_barredAll (nx := nx) hx6) yw_X12_barredAll wm_2028 rfl rfl (by decide) ⟨by decide, by decide⟩ dX12_inside_18 rfl rfl ?_
      refine j_ldc2 (pc' := 24) C dX12_inside_21 wm_1588 rfl ?_
      refine j_lxor (pc' := 25) C dX12_inside_24 rfl ?_
      refine j_land (pc' := 26) C dX12_inside_25 rfl ?_
      obtain ⟨x7, hx7, hr⟩ := ob hr
      refine j_callS (As := [.long (x4 &&& (x6 ^^^ (-1)))]) (rest := []) (st1 := [.int x7]) (pc' := 29) C wm_1856 (c_X12_many (nx := nx) (ce := q2.2) hx7) yw_X12_many wm_1855 rfl rfl (by decide) ⟨by decide, by decide⟩ dX12_inside_26 rfl rfl ?_
      refine j_goto (tgt := 33) C dX12_inside_29 rfl ?_
      have hr := Option.some.inj hr
      subst hr
      exact j_iret C hq hret dX12_inside_33
def m_Jxe99ae_isNaN_b9ae7 (p0 : UInt64) : Option (Int32) :=
  if (Op.cmpValue (FP.dcmp p0 p0) .l) = 0 then
    some 0
  else
    some 1
set_option maxRecDepth 100000 in
set_option maxHeartbeats 4000000 in
theorem c_Jxe99ae_isNaN_b9ae7 {nx : Nat} {ce : Ce} {p0 : UInt64} {q : Int32} (hr : m_Jxe99ae_isNaN_b9ae7 p0 = some q) : Ct yJxe99ae_isNaN_b9ae7 cJxe99ae_isNaN_b9ae7 2 (some .boolean) 0 0 0 0 [.double p0] nx ce (some (.int q)) ce := by
  unfold m_Jxe99ae_isNaN_b9ae7 at hr
  refine ct_of (by decide) (by decide) ?_
  intro G C hq hret hin
  show Jd G 0 0 nx ce 0 [(0, .double p0)] []
  refine j_dload_n (q := 0) (pc' := 1) C dJxe99ae_isNaN_b9ae7_0 rfl rfl rfl ?_
  refine j_dload_n (q := 0) (pc' := 2) C dJxe99ae_isNaN_b9ae7_1 rfl rfl rfl ?_
  refine j_dcmp (pc' := 3) C dJxe99ae_isNaN_b9ae7_2 rfl ?_
  refine j_if_eq (tgt := 10) (pc' := 6) C dJxe99ae_isNaN_b9ae7_3 rfl rfl (fun hc => ?_) (fun hc => ?_)
  · have hr := ifT hc hr
    clear hc
    refine j_iconst (v := 0) (pc' := 11) C dJxe99ae_isNaN_b9ae7_10 kI_0 rfl ?_
    have hr := Option.some.inj hr
    subst hr
    exact j_zret C hq hret rfl dJxe99ae_isNaN_b9ae7_11
  · have hr := ifF hc hr
    clear hc
    refine j_iconst (v := 1) (pc' := 7) C dJxe99ae_isNaN_b9ae7_6 kI_1 rfl ?_
    refine j_goto (tgt := 11) C dJxe99ae_isNaN_b9ae7_7 rfl ?_
    have hr := Option.some.inj hr
    subst hr
    exact j_zret C hq hret rfl dJxe99ae_isNaN_b9ae7_11
def m_X12_image (ce : Ce) (this : Nat) : Option (Int32 × Ce) :=
  (gA ce 9 0 this).bind fun x1 =>
  (gA ce 9 1 this).bind fun x2 =>
  (m_X12_copy ce x1 x2).bind fun q3 =>
  (gA q3.2 9 2 this).bind fun x4 =>
  (gA q3.2 9 3 this).bind fun x5 =>
  (m_X12_copyFloats q3.2 x4 x5).bind fun q6 =>
  (gA q6.2 9 0 this).bind fun x7 =>
  (aI q6.2 x7 5).bind fun x8 =>
  some (x8, q6.2)
set_option maxRecDepth 100000 in
set_option maxHeartbeats 4000000 in
theorem c_X12_image {nx : Nat} {ce : Ce} {this : Nat} {q : Int32 × Ce} (hr : m_X12_image ce this = some q) : Ct yX12_image cX12_image 1 (some .int) 1 22 0 0 [.ref this] nx ce (some (.int q.1)) q.2 := by
  unfold m_X12_image at hr
  refine ct_of (by decide) (by decide) ?_
  intro G C hq hret hin
  show Jd G 0 0 nx ce 0 [(0, .ref this)] []
  refine j_aload_n (q := 0) (pc' := 1) C dX12_image_0 rfl rfl rfl ?_
  obtain ⟨x1, hx1, hr⟩ := ob hr
  refine j_getA (pc' := 4) C dX12_image_1 fl_X12_8 hx1 rfl ?_
  refine j_aload_n (q := 0) (pc' := 5) C dX12_image_4 rfl rfl rfl ?_
  obtain ⟨x2, hx2, hr⟩ := ob hr
  refine j_getA (pc' := 8) C dX12_image_5 fl_X12_14 hx2 rfl ?_
  obtain ⟨q3, hq3, hr⟩ := ob hr
  refine j_callS (As := [.ref x1, .ref x2]) (rest := []) (st1 := []) (pc' := 11) C wm_1401 (c_X12_copy (nx := nx) hq3) yw_X12_copy wm_1400 rfl rfl (by decide) ⟨by decide, by decide⟩ dX12_image_8 rfl rfl ?_
  refine j_aload_n (q := 0) (pc' := 12) C dX12_image_11 rfl rfl rfl ?_
  obtain ⟨x4, hx4, hr⟩ := ob hr
  refine j_getA (pc' := 15) C dX12_image_12 fl_X12_17 hx4 rfl ?_
  refine j_aload_n (q := 0) (pc' := 16) C dX12_image_15 rfl rfl rfl ?_
  obtain ⟨x5, hx5, hr⟩ := ob hr
  refine j_getA (pc' := 19) C dX12_image_16 fl_X12_21 hx5 rfl ?_
  obtain ⟨q6, hq6, hr⟩ := ob hr
  refine j_callS (As := [.ref x4, .ref x5]) (rest := []) (st1 := []) (pc' := 22) C wm_1404 (c_X12_copyFloats (nx := nx) hq6) yw_X12_copyFloats wm_1403 rfl rfl (by decide) ⟨by decide, by decide⟩ dX12_image_19 rfl rfl ?_
  refine j_aload_n (q := 0) (pc' := 23) C dX12_image_22 rfl rfl rfl ?_
  obtain ⟨x7, hx7, hr⟩ := ob hr
  refine j_getA (pc' := 26) C dX12_image_23 fl_X12_8 hx7 rfl ?_
  refine j_iconst (v := 5) (pc' := 27) C dX12_image_26 kI_5 rfl ?_
  obtain ⟨x8, hx8, hr⟩ := ob hr
  refine j_iald (pc' := 28) C dX12_image_27 hx8 rfl ?_
  have hr := Option.some.inj hr
  subst hr
  exact j_iret C hq hret dX12_image_28
def m_X12_back (ce : Ce) (this : Nat) : Option (Int32 × Ce) :=
  (gA ce 9 1 this).bind fun x1 =>
  (gA ce 9 0 this).bind fun x2 =>
  (m_X12_copy ce x1 x2).bind fun q3 =>
  (gA q3.2 9 3 this).bind fun x4 =>
  (gA q3.2 9 2 this).bind fun x5 =>
  (m_X12_copyFloats q3.2 x4 x5).bind fun q6 =>
  (gA q6.2 9 0 this).bind fun x7 =>
  (aI q6.2 x7 5).bind fun x8 =>
  some (x8, q6.2)
set_option maxRecDepth 100000 in
set_option maxHeartbeats 4000000 in
theorem c_X12_back {nx : Nat} {ce : Ce} {this : Nat} {q : Int32 × Ce} (hr : m_X12_back ce this = some q) : Ct yX12_back cX12_back 1 (some .int) 1 22 0 0 [.ref this] nx ce (some (.int q.1)) q.2 := by
  unfold m_X12_back at hr
  refine ct_of (by decide) (by decide) ?_
  intro G C hq hret hin
  show Jd G 0 0 nx ce 0 [(0, .ref this)] []
  refine j_aload_n (q := 0) (pc' := 1) C dX12_back_0 rfl rfl rfl ?_
  obtain ⟨x1, hx1, hr⟩ := ob hr
  refine j_getA (pc' := 4) C dX12_back_1 fl_X12_14 hx1 rfl ?_
  refine j_aload_n (q := 0) (pc' := 5) C dX12_back_4 rfl rfl rfl ?_
  obtain ⟨x2, hx2, hr⟩ := ob hr
  refine j_getA (pc' := 8) C dX12_back_5 fl_X12_8 hx2 rfl ?_
  obtain ⟨q3, hq3, hr⟩ := ob hr
  refine j_callS (As := [.ref x1, .ref x2]) (rest := []) (st1 := []) (pc' := 11) C wm_1401 (c_X12_copy (nx := nx) hq3) yw_X12_copy wm_1400 rfl rfl (by decide) ⟨by decide, by decide⟩ dX12_back_8 rfl rfl ?_
  refine j_aload_n (q := 0) (pc' := 12) C dX12_back_11 rfl rfl rfl ?_
  obtain ⟨x4, hx4, hr⟩ := ob hr
  refine j_getA (pc' := 15) C dX12_back_12 fl_X12_21 hx4 rfl ?_
  refine j_aload_n (q := 0) (pc' := 16) C dX12_back_15 rfl rfl rfl ?_
  obtain ⟨x5, hx5, hr⟩ := ob hr
  refine j_getA (pc' := 19) C dX12_back_16 fl_X12_17 hx5 rfl ?_
  obtain ⟨q6, hq6, hr⟩ := ob hr
  refine j_callS (As := [.ref x4, .ref x5]) (rest := []) (st1 := []) (pc' := 22) C wm_1404 (c_X12_copyFloats (nx := nx) hq6) yw_X12_copyFloats wm_1403 rfl rfl (by decide) ⟨by decide, by decide⟩ dX12_back_19 rfl rfl ?_
  refine j_aload_n (q := 0) (pc' := 23) C dX12_back_22 rfl rfl rfl ?_
  obtain ⟨x7, hx7, hr⟩ := ob hr
  refine j_getA (pc' := 26) C dX12_back_23 fl_X12_8 hx7 rfl ?_
  refine j_iconst (v := 5) (pc' := 27) C dX12_back_26 kI_5 rfl ?_
  obtain ⟨x8, hx8, hr⟩ := ob hr
  refine j_iald (pc' := 28) C dX12_back_27 hx8 rfl ?_
  have hr := Option.some.inj hr
  subst hr
  exact j_iret C hq hret dX12_back_28
def m_X12_about (ce : Ce) (this : Nat) (p1 : Int32) : Option (Int32) :=
  if p1 = 0 then
    (gA ce 9 0 this).bind fun x1 =>
    (aI ce x1 0).bind fun x2 =>
    some x2
  else
  if p1 = 1 then
    (gA ce 9 0 this).bind fun x3 =>
    (aI ce x3 1).bind fun x4 =>
    some x4
  else
  if p1 = 2 then
    (gA ce 9 0 this).bind fun x5 =>
    (aI ce x5 16).bind fun x6 =>
    some x6
  else
  if p1 = 3 then
    (gI ce 9 7 this).bind fun x7 =>
    some x7
  else
  if p1 = 4 then
    (gA ce 9 0 this).bind fun x8 =>
    (aI ce x8 15).bind fun x9 =>
    some x9
  else
  some (-2)
set_option maxRecDepth 100000 in
set_option maxHeartbeats 4000000 in
theorem c_X12_about {nx : Nat} {ce : Ce} {this : Nat} {p1 : Int32} {q : Int32} (hr : m_X12_about ce this p1 = some q) : Ct yX12_about cX12_about 2 (some .int) 0 0 0 0 [.ref this, .int p1] nx ce (some (.int q)) ce := by
  unfold m_X12_about at hr
  refine ct_of (by decide) (by decide) ?_
  intro G C hq hret hin
  show Jd G 0 0 nx ce 0 [(0, .ref this), (1, .int p1)] []
  refine j_iload_n (q := 1) (pc' := 1) C dX12_about_0 rfl rfl rfl ?_
  by_cases hc0 : p1 = 0
  · have hr := ifT hc0 hr
    refine j_tabIn (v := 0) (off := 35) (tgt := 36) C dX12_about_1 hc0 (by decide) rfl ?_
    refine j_aload_n (q := 0) (pc' := 37) C dX12_about_36 rfl rfl rfl ?_
    obtain ⟨x1, hx1, hr⟩ := ob hr
    refine j_getA (pc' := 40) C dX12_about_37 fl_X12_8 hx1 rfl ?_
    refine j_iconst (v := 0) (pc' := 41) C dX12_about_40 kI_0 rfl ?_
    obtain ⟨x2, hx2, hr⟩ := ob hr
    refine j_iald (pc' := 42) C dX12_about_41 hx2 rfl ?_
    have hr := Option.some.inj hr
    subst hr
    exact j_iret C hq hret dX12_about_42
  have hr := ifF hc0 hr
  by_cases hc1 : p1 = 1
  · have hr := ifT hc1 hr
    refine j_tabIn (v := 1) (off := 42) (tgt := 43) C dX12_about_1 hc1 (by decide) rfl ?_
    refine j_aload_n (q := 0) (pc' := 44) C dX12_about_43 rfl rfl rfl ?_
    obtain ⟨x3, hx3, hr⟩ := ob hr
    refine j_getA (pc' := 47) C dX12_about_44 fl_X12_8 hx3 rfl ?_
    refine j_iconst (v := 1) (pc' := 48) C dX12_about_47 kI_1 rfl ?_
    obtain ⟨x4, hx4, hr⟩ := ob hr
    refine j_iald (pc' := 49) C dX12_about_48 hx4 rfl ?_
    have hr := Option.some.inj hr
    subst hr
    exact j_iret C hq hret dX12_about_49
  have hr := ifF hc1 hr
  by_cases hc2 : p1 = 2
  · have hr := ifT hc2 hr
    refine j_tabIn (v := 2) (off := 49) (tgt := 50) C dX12_about_1 hc2 (by decide) rfl ?_
    refine j_aload_n (q := 0) (pc' := 51) C dX12_about_50 rfl rfl rfl ?_
    obtain ⟨x5, hx5, hr⟩ := ob hr
    refine j_getA (pc' := 54) C dX12_about_51 fl_X12_8 hx5 rfl ?_
    refine j_bipush (v := 16) (pc' := 56) C dX12_about_54 kB_16 rfl ?_
    obtain ⟨x6, hx6, hr⟩ := ob hr
    refine j_iald (pc' := 57) C dX12_about_56 hx6 rfl ?_
    have hr := Option.some.inj hr
    subst hr
    exact j_iret C hq hret dX12_about_57
  have hr := ifF hc2 hr
  by_cases hc3 : p1 = 3
  · have hr := ifT hc3 hr
    refine j_tabIn (v := 3) (off := 57) (tgt := 58) C dX12_about_1 hc3 (by decide) rfl ?_
    refine j_aload_n (q := 0) (pc' := 59) C dX12_about_58 rfl rfl rfl ?_
    obtain ⟨x7, hx7, hr⟩ := ob hr
    refine j_getI (pc' := 62) C dX12_about_59 fl_X12_124 hx7 rfl ?_
    have hr := Option.some.inj hr
    subst hr
    exact j_iret C hq hret dX12_about_62
  have hr := ifF hc3 hr
  by_cases hc4 : p1 = 4
  · have hr := ifT hc4 hr
    refine j_tabIn (v := 4) (off := 62) (tgt := 63) C dX12_about_1 hc4 (by decide) rfl ?_
    refine j_aload_n (q := 0) (pc' := 64) C dX12_about_63 rfl rfl rfl ?_
    obtain ⟨x8, hx8, hr⟩ := ob hr
    refine j_getA (pc' := 67) C dX12_about_64 fl_X12_8 hx8 rfl ?_
    refine j_bipush (v := 15) (pc' := 69) C dX12_about_67 kB_15 rfl ?_
    obtain ⟨x9, hx9, hr⟩ := ob hr
    refine j_iald (pc' := 70) C dX12_about_69 hx9 rfl ?_
    have hr := Option.some.inj hr
    subst hr
    exact j_iret C hq hret dX12_about_70
  have hr := ifF hc4 hr
  refine j_tabOut (tgt := 71) C dX12_about_1 (tab_out 5 (by decide) (by decide) (by decide) (fun i hi => by
    match i, hi with
    | 0, _ => exact hc0
    | 1, _ => exact hc1
    | 2, _ => exact hc2
    | 3, _ => exact hc3
    | 4, _ => exact hc4
    | i + 5, hi => omega)) rfl ?_
  refine j_bipush (v := -2) (pc' := 73) C dX12_about_71 kB_m2 rfl ?_
  have hr := Option.some.inj hr
  subst hr
  exact j_iret C hq hret dX12_about_73
