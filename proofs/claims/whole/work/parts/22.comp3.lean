def m_X8_fenceStart (ce : Ce) (this : Nat) : Option (Int32) :=
  (gA ce 6 11 this).bind fun zx1 =>
  (gI ce 6 5 this).bind fun zx2 =>
  (rcv ce 2 zx1).bind fun zz3 =>
  (m_X2_startOf ce zx1 (zx2 + (1 : Int32))).bind fun zx4 =>
  some zx4
set_option maxRecDepth 100000 in
set_option maxHeartbeats 4000000 in
theorem c_X8_fenceStart {nx : Nat} {ce : Ce} {this : Nat} {q : Int32} (hr : m_X8_fenceStart ce this = some q) : Ct yX8_fenceStart cX8_fenceStart 1 (some .int) 1 22 0 0 [.ref this] nx ce (some (.int q)) ce := by
  unfold m_X8_fenceStart at hr
  refine ct_of (by decide) (Nat.le_of_ble_eq_true rfl) ?_
  intro G C hq hret hin
  show Jd G 0 0 nx ce 0 [(0, .ref this)] []
  refine j_aload_n (q := 0) (pc' := 1) C dX8_fenceStart_0 rfl rfl rfl ?_
  obtain ⟨zx1, hzx1, hr⟩ := ob hr
  refine j_getA (pc' := 4) C dX8_fenceStart_1 fl_X8_25 hzx1 rfl ?_
  refine j_aload_n (q := 0) (pc' := 5) C dX8_fenceStart_4 rfl rfl rfl ?_
  obtain ⟨zx2, hzx2, hr⟩ := ob hr
  refine j_getI (pc' := 8) C dX8_fenceStart_5 fl_X8_19 hzx2 rfl ?_
  refine j_iconst (v := 1) (pc' := 9) C dX8_fenceStart_8 kI_1 rfl ?_
  refine j_iadd (pc' := 10) C dX8_fenceStart_9 rfl ?_
  obtain ⟨zz3, hzz3, hr⟩ := ob hr
  obtain ⟨zx4, hzx4, hr⟩ := ob hr
  obtain ⟨fhzz3, hzz3⟩ := rcv_sp hzz3
  refine j_callV (ci := 2) (As := [.int (zx2 + (1 : Int32))]) (rest := []) (st1 := [.int zx4]) (pc' := 13) C ⟨wm_845, wm_846⟩ rfl hzz3 (c_X2_startOf (nx := nx) hzx4) yw_X2_startOf wm_844 rfl rfl (Nat.le_of_ble_eq_true rfl) ⟨by decide, by decide⟩ dX8_fenceStart_10 rfl rfl ?_
  have hr := Option.some.inj hr
  subst hr
  exact j_iret C hq hret dX8_fenceStart_13
def m_X8_judgementOf (ce : Ce) (this : Nat) (p1 : Int64) : Option (Int32) :=
  (gA ce 6 0 this).bind fun zx1 =>
  (gJ ce 3 3 zx1).bind fun zx2 =>
  if (lg_cmp (zx2 &&& p1) (0 : Int64)) = 0 then
    (gA ce 6 0 this).bind fun zx3 =>
    (rcv ce 3 zx3).bind fun zz4 =>
    (m_X5_before ce zx3 p1).bind fun zx5 =>
    if (lg_cmp (zx5 &&& (p1 ^^^ (-1 : Int64))) (0 : Int64)) = 0 then
      (rcv ce 6 this).bind fun zz6 =>
      (m_X8_aimStates ce this).bind fun zx7 =>
      if (lg_cmp (zx7 &&& (p1 ^^^ (-1 : Int64))) (0 : Int64)) = 0 then
        some (0 : Int32)
      else
        some (3 : Int32)
    else
      some (2 : Int32)
  else
    some (1 : Int32)
set_option maxRecDepth 100000 in
set_option maxHeartbeats 4000000 in
theorem c_X8_judgementOf {nx : Nat} {ce : Ce} {this : Nat} {p1 : Int64} {q : Int32} (hr : m_X8_judgementOf ce this p1 = some q) : Ct yX8_judgementOf cX8_judgementOf 3 (some .int) 2 41 0 0 [.ref this, .long p1] nx ce (some (.int q)) ce := by
  unfold m_X8_judgementOf at hr
  refine ct_of (by decide) (Nat.le_of_ble_eq_true rfl) ?_
  intro G C hq hret hin
  show Jd G 0 0 nx ce 0 [(0, .ref this), (1, .long p1)] []
  refine j_aload_n (q := 0) (pc' := 1) C dX8_judgementOf_0 rfl rfl rfl ?_
  obtain ⟨zx1, hzx1, hr⟩ := ob hr
  refine j_getA (pc' := 4) C dX8_judgementOf_1 fl_X8_9 hzx1 rfl ?_
  obtain ⟨zx2, hzx2, hr⟩ := ob hr
  refine j_getJ (pc' := 7) C dX8_judgementOf_4 fl_X8_107 hzx2 rfl ?_
  refine j_lload_n (q := 1) (pc' := 8) C dX8_judgementOf_7 rfl rfl rfl ?_
  refine j_land (pc' := 9) C dX8_judgementOf_8 rfl ?_
  refine j_lconst (v := 0) (pc' := 10) C dX8_judgementOf_9 kL_0 rfl ?_
  refine j_lcmp (pc' := 11) C dX8_judgementOf_10 rfl ?_
  refine j_if_eq (tgt := 16) (pc' := 14) C dX8_judgementOf_11 rfl rfl (fun hc => ?_) (fun hc => ?_)
  · have hr := ifT hc hr
    clear hc
    refine j_aload_n (q := 0) (pc' := 17) C dX8_judgementOf_16 rfl rfl rfl ?_
    obtain ⟨zx3, hzx3, hr⟩ := ob hr
    refine j_getA (pc' := 20) C dX8_judgementOf_17 fl_X8_9 hzx3 rfl ?_
    refine j_lload_n (q := 1) (pc' := 21) C dX8_judgementOf_20 rfl rfl rfl ?_
    obtain ⟨zz4, hzz4, hr⟩ := ob hr
    obtain ⟨zx5, hzx5, hr⟩ := ob hr
    obtain ⟨fhzz4, hzz4⟩ := rcv_sp hzz4
    refine j_callV (ci := 3) (As := [.long p1]) (rest := []) (st1 := [.long zx5]) (pc' := 24) C ⟨wm_858, wm_859⟩ rfl hzz4 (c_X5_before (nx := nx) hzx5) yw_X5_before wm_857 rfl rfl (Nat.le_of_ble_eq_true rfl) ⟨by decide, by decide⟩ dX8_judgementOf_21 rfl rfl ?_
    refine j_lload_n (q := 1) (pc' := 25) C dX8_judgementOf_24 rfl rfl rfl ?_
    refine j_ldc2 (pc' := 28) C dX8_judgementOf_25 wm_852 rfl ?_
    refine j_lxor (pc' := 29) C dX8_judgementOf_28 rfl ?_
    refine j_land (pc' := 30) C dX8_judgementOf_29 rfl ?_
    refine j_lconst (v := 0) (pc' := 31) C dX8_judgementOf_30 kL_0 rfl ?_
    refine j_lcmp (pc' := 32) C dX8_judgementOf_31 rfl ?_
    refine j_if_eq (tgt := 37) (pc' := 35) C dX8_judgementOf_32 rfl rfl (fun hc => ?_) (fun hc => ?_)
    · have hr := ifT hc hr
      clear hc
      refine j_aload_n (q := 0) (pc' := 38) C dX8_judgementOf_37 rfl rfl rfl ?_
      obtain ⟨zz6, hzz6, hr⟩ := ob hr
      obtain ⟨zx7, hzx7, hr⟩ := ob hr
      obtain ⟨fhzz6, hzz6⟩ := rcv_sp hzz6
      refine j_callV (ci := 6) (As := []) (rest := []) (st1 := [.long zx7]) (pc' := 41) C ⟨wm_904, wm_905⟩ rfl hzz6 (c_X8_aimStates (nx := nx) hzx7) yw_X8_aimStates wm_903 rfl rfl (Nat.le_of_ble_eq_true rfl) ⟨by decide, by decide⟩ dX8_judgementOf_38 rfl rfl ?_
      refine j_lload_n (q := 1) (pc' := 42) C dX8_judgementOf_41 rfl rfl rfl ?_
      refine j_ldc2 (pc' := 45) C dX8_judgementOf_42 wm_852 rfl ?_
      refine j_lxor (pc' := 46) C dX8_judgementOf_45 rfl ?_
      refine j_land (pc' := 47) C dX8_judgementOf_46 rfl ?_
      refine j_lconst (v := 0) (pc' := 48) C dX8_judgementOf_47 kL_0 rfl ?_
      refine j_lcmp (pc' := 49) C dX8_judgementOf_48 rfl ?_
      refine j_if_eq (tgt := 56) (pc' := 52) C dX8_judgementOf_49 rfl rfl (fun hc => ?_) (fun hc => ?_)
      · have hr := ifT hc hr
        clear hc
        refine j_iconst (v := 0) (pc' := 57) C dX8_judgementOf_56 kI_0 rfl ?_
        have hr := Option.some.inj hr
        subst hr
        exact j_iret C hq hret dX8_judgementOf_57
      · have hr := ifF hc hr
        clear hc
        refine j_iconst (v := 3) (pc' := 53) C dX8_judgementOf_52 kI_3 rfl ?_
        refine j_goto (tgt := 57) C dX8_judgementOf_53 rfl ?_
        have hr := Option.some.inj hr
        subst hr
        exact j_iret C hq hret dX8_judgementOf_57
    · have hr := ifF hc hr
      clear hc
      refine j_iconst (v := 2) (pc' := 36) C dX8_judgementOf_35 kI_2 rfl ?_
      have hr := Option.some.inj hr
      subst hr
      exact j_iret C hq hret dX8_judgementOf_36
  · have hr := ifF hc hr
    clear hc
    refine j_iconst (v := 1) (pc' := 15) C dX8_judgementOf_14 kI_1 rfl ?_
    have hr := Option.some.inj hr
    subst hr
    exact j_iret C hq hret dX8_judgementOf_15
def m_X8_witnessOf (ce : Ce) (this : Nat) (p1 : Int64) : Option (Int32) :=
  (rcv ce 6 this).bind fun zz1 =>
  (m_X8_judgementOf ce this p1).bind fun zx2 =>
  if zx2 = (1 : Int32) then
    (gA ce 6 0 this).bind fun zx3 =>
    (gJ ce 3 3 zx3).bind fun zx4 =>
    (m_X9_lowest (zx4 &&& p1)).bind fun zx5 =>
    some zx5
  else
  if zx2 = (2 : Int32) then
    (gA ce 6 0 this).bind fun zx6 =>
    (rcv ce 3 zx6).bind fun zz7 =>
    (m_X5_before ce zx6 p1).bind fun zx8 =>
    (m_X9_lowest (zx8 &&& (p1 ^^^ (-1 : Int64)))).bind fun zx9 =>
    some zx9
  else
  if zx2 = (3 : Int32) then
    (rcv ce 6 this).bind fun zz10 =>
    (m_X8_aimStates ce this).bind fun zx11 =>
    (m_X9_lowest (zx11 &&& (p1 ^^^ (-1 : Int64)))).bind fun zx12 =>
    some zx12
  else
  some (-1 : Int32)
set_option maxRecDepth 100000 in
set_option maxHeartbeats 4000000 in
theorem c_X8_witnessOf {nx : Nat} {ce : Ce} {this : Nat} {p1 : Int64} {q : Int32} (hr : m_X8_witnessOf ce this p1 = some q) : Ct yX8_witnessOf cX8_witnessOf 3 (some .int) 3 64 0 0 [.ref this, .long p1] nx ce (some (.int q)) ce := by
  unfold m_X8_witnessOf at hr
  refine ct_of (by decide) (Nat.le_of_ble_eq_true rfl) ?_
  intro G C hq hret hin
  show Jd G 0 0 nx ce 0 [(0, .ref this), (1, .long p1)] []
  refine j_aload_n (q := 0) (pc' := 1) C dX8_witnessOf_0 rfl rfl rfl ?_
  refine j_lload_n (q := 1) (pc' := 2) C dX8_witnessOf_1 rfl rfl rfl ?_
  obtain ⟨zz1, hzz1, hr⟩ := ob hr
  obtain ⟨zx2, hzx2, hr⟩ := ob hr
  obtain ⟨fhzz1, hzz1⟩ := rcv_sp hzz1
  refine j_callV (ci := 6) (As := [.long p1]) (rest := []) (st1 := [.int zx2]) (pc' := 5) C ⟨wm_1277, wm_1278⟩ rfl hzz1 (c_X8_judgementOf (nx := nx) hzx2) yw_X8_judgementOf wm_1288 rfl rfl (Nat.le_of_ble_eq_true rfl) ⟨by decide, by decide⟩ dX8_witnessOf_2 rfl rfl ?_
  by_cases hc0 : zx2 = (1 : Int32)
  · have hr := ifT hc0 hr
    refine j_tabIn (v := 1) (off := 27) (tgt := 32) C dX8_witnessOf_5 hc0 (by decide) rfl ?_
    refine j_aload_n (q := 0) (pc' := 33) C dX8_witnessOf_32 rfl rfl rfl ?_
    obtain ⟨zx3, hzx3, hr⟩ := ob hr
    refine j_getA (pc' := 36) C dX8_witnessOf_33 fl_X8_9 hzx3 rfl ?_
    obtain ⟨zx4, hzx4, hr⟩ := ob hr
    refine j_getJ (pc' := 39) C dX8_witnessOf_36 fl_X8_107 hzx4 rfl ?_
    refine j_lload_n (q := 1) (pc' := 40) C dX8_witnessOf_39 rfl rfl rfl ?_
    refine j_land (pc' := 41) C dX8_witnessOf_40 rfl ?_
    obtain ⟨zx5, hzx5, hr⟩ := ob hr
    refine j_callS (As := [.long (zx4 &&& p1)]) (rest := []) (st1 := [.int zx5]) (pc' := 44) C wm_943 (c_X9_lowest (nx := nx) (ce := ce) hzx5) yw_X9_lowest wm_942 rfl rfl (Nat.le_of_ble_eq_true rfl) ⟨by decide, by decide⟩ dX8_witnessOf_41 rfl rfl ?_
    have hr := Option.some.inj hr
    subst hr
    exact j_iret C hq hret dX8_witnessOf_44
  have hr := ifF hc0 hr
  by_cases hc1 : zx2 = (2 : Int32)
  · have hr := ifT hc1 hr
    refine j_tabIn (v := 2) (off := 40) (tgt := 45) C dX8_witnessOf_5 hc1 (by decide) rfl ?_
    refine j_aload_n (q := 0) (pc' := 46) C dX8_witnessOf_45 rfl rfl rfl ?_
    obtain ⟨zx6, hzx6, hr⟩ := ob hr
    refine j_getA (pc' := 49) C dX8_witnessOf_46 fl_X8_9 hzx6 rfl ?_
    refine j_lload_n (q := 1) (pc' := 50) C dX8_witnessOf_49 rfl rfl rfl ?_
    obtain ⟨zz7, hzz7, hr⟩ := ob hr
    obtain ⟨zx8, hzx8, hr⟩ := ob hr
    obtain ⟨fhzz7, hzz7⟩ := rcv_sp hzz7
    refine j_callV (ci := 3) (As := [.long p1]) (rest := []) (st1 := [.long zx8]) (pc' := 53) C ⟨wm_858, wm_859⟩ rfl hzz7 (c_X5_before (nx := nx) hzx8) yw_X5_before wm_857 rfl rfl (Nat.le_of_ble_eq_true rfl) ⟨by decide, by decide⟩ dX8_witnessOf_50 rfl rfl ?_
    refine j_lload_n (q := 1) (pc' := 54) C dX8_witnessOf_53 rfl rfl rfl ?_
    refine j_ldc2 (pc' := 57) C dX8_witnessOf_54 wm_852 rfl ?_
    refine j_lxor (pc' := 58) C dX8_witnessOf_57 rfl ?_
    refine j_land (pc' := 59) C dX8_witnessOf_58 rfl ?_
    obtain ⟨zx9, hzx9, hr⟩ := ob hr
    refine j_callS (As := [.long (zx8 &&& (p1 ^^^ (-1 : Int64)))]) (rest := []) (st1 := [.int zx9]) (pc' := 62) C wm_943 (c_X9_lowest (nx := nx) (ce := ce) hzx9) yw_X9_lowest wm_942 rfl rfl (Nat.le_of_ble_eq_true rfl) ⟨by decide, by decide⟩ dX8_witnessOf_59 rfl rfl ?_
    have hr := Option.some.inj hr
    subst hr
    exact j_iret C hq hret dX8_witnessOf_62
  have hr := ifF hc1 hr
  by_cases hc2 : zx2 = (3 : Int32)
  · have hr := ifT hc2 hr
    refine j_tabIn (v := 3) (off := 58) (tgt := 63) C dX8_witnessOf_5 hc2 (by decide) rfl ?_
    refine j_aload_n (q := 0) (pc' := 64) C dX8_witnessOf_63 rfl rfl rfl ?_
    obtain ⟨zz10, hzz10, hr⟩ := ob hr
    obtain ⟨zx11, hzx11, hr⟩ := ob hr
    obtain ⟨fhzz10, hzz10⟩ := rcv_sp hzz10
    refine j_callV (ci := 6) (As := []) (rest := []) (st1 := [.long zx11]) (pc' := 67) C ⟨wm_904, wm_905⟩ rfl hzz10 (c_X8_aimStates (nx := nx) hzx11) yw_X8_aimStates wm_903 rfl rfl (Nat.le_of_ble_eq_true rfl) ⟨by decide, by decide⟩ dX8_witnessOf_64 rfl rfl ?_
    refine j_lload_n (q := 1) (pc' := 68) C dX8_witnessOf_67 rfl rfl rfl ?_
    refine j_ldc2 (pc' := 71) C dX8_witnessOf_68 wm_852 rfl ?_
    refine j_lxor (pc' := 72) C dX8_witnessOf_71 rfl ?_
    refine j_land (pc' := 73) C dX8_witnessOf_72 rfl ?_
    obtain ⟨zx12, hzx12, hr⟩ := ob hr
    refine j_callS (As := [.long (zx11 &&& (p1 ^^^ (-1 : Int64)))]) (rest := []) (st1 := [.int zx12]) (pc' := 76) C wm_943 (c_X9_lowest (nx := nx) (ce := ce) hzx12) yw_X9_lowest wm_942 rfl rfl (Nat.le_of_ble_eq_true rfl) ⟨by decide, by decide⟩ dX8_witnessOf_73 rfl rfl ?_
    have hr := Option.some.inj hr
    subst hr
    exact j_iret C hq hret dX8_witnessOf_76
  have hr := ifF hc2 hr
  refine j_tabOut (tgt := 77) C dX8_witnessOf_5 (tab_out 3 (by decide) (by decide) (by decide) (fun i hi => by
    match i, hi with
    | 0, _ => exact hc0
    | 1, _ => exact hc1
    | 2, _ => exact hc2
    | i + 3, hi => omega)) rfl ?_
  refine j_iconst (v := -1) (pc' := 78) C dX8_witnessOf_77 kI_m1 rfl ?_
  have hr := Option.some.inj hr
  subst hr
  exact j_iret C hq hret dX8_witnessOf_78
def m_X8_loosenClaim (ce : Ce) (this : Nat) (p1 : Int32) : Option (Int32 × Ce) :=
  (gA ce 6 14 this).bind fun zx1 =>
  (rcv ce 2 zx1).bind fun zz2 =>
  (m_X2_unionBut ce zx1 p1).bind fun zx3 =>
  (gA ce 6 14 this).bind fun zx4 =>
  (rcv ce 2 zx4).bind fun zz5 =>
  (m_X2_cubeAt ce zx4 p1).bind fun zx6 =>
  (it (fun (zs7 : Int32 × Int32) =>
    (gA ce 6 0 this).bind fun zx13 =>
    (gI ce 3 0 zx13).bind fun zx14 =>
    if zx14 ≤ zs7.2 then
      some (Sum.inr zs7.1)
    else
      (gA ce 6 13 this).bind fun zx15 =>
      (gI ce 6 2 this).bind fun zx16 =>
      (gA ce 6 0 this).bind fun zx17 =>
      (gI ce 3 0 zx17).bind fun zx18 =>
      (rcv ce 0 zx15).bind fun zz19 =>
      (m_X0_letterAt ce zx15 zs7.2 zx16 zx18).bind fun zx20 =>
      (m_X3_without zs7.1 zx20).bind fun zx21 =>
      (m_X3_statesOf ce zx21).bind fun zx22 =>
      (rcv ce 6 this).bind fun zz23 =>
      (m_X8_judgementOf ce this (zx3 ||| zx22)).bind fun zx24 =>
      if zx24 = 0 then
        some (Sum.inl (zx21, (zs7.2 + (1 : Int32))))
      else
        some (Sum.inl (zs7.1, (zs7.2 + (1 : Int32))))
  ) FU (zx6, (0 : Int32))).bind fun (zo8 : Int32) =>
  (gA ce 6 14 this).bind fun zx10 =>
  (rcv ce 2 zx10).bind fun zz11 =>
  (m_X2_change ce zx10 p1 zo8).bind fun zq12 =>
  some (zo8, zq12.2)
set_option maxRecDepth 100000 in
set_option maxHeartbeats 4000000 in
theorem c_X8_loosenClaim {nx : Nat} {ce : Ce} {this : Nat} {p1 : Int32} {q : Int32 × Ce} (hr : m_X8_loosenClaim ce this p1 = some q) : Ct yX8_loosenClaim cX8_loosenClaim 7 (some .int) 3 73 0 0 [.ref this, .int p1] nx ce (some (.int q.1)) q.2 := by
  unfold m_X8_loosenClaim at hr
  refine ct_of (by decide) (Nat.le_of_ble_eq_true rfl) ?_
  intro G C hq hret hin
  show Jd G 0 0 nx ce 0 [(0, .ref this), (1, .int p1)] []
  refine j_aload_n (q := 0) (pc' := 1) C dX8_loosenClaim_0 rfl rfl rfl ?_
  obtain ⟨zx1, hzx1, hr⟩ := ob hr
  refine j_getA (pc' := 4) C dX8_loosenClaim_1 fl_X8_43 hzx1 rfl ?_
  refine j_iload_n (q := 1) (pc' := 5) C dX8_loosenClaim_4 rfl rfl rfl ?_
  obtain ⟨zz2, hzz2, hr⟩ := ob hr
  obtain ⟨zx3, hzx3, hr⟩ := ob hr
  obtain ⟨fhzz2, hzz2⟩ := rcv_sp hzz2
  refine j_callV (ci := 2) (As := [.int p1]) (rest := []) (st1 := [.long zx3]) (pc' := 8) C ⟨wm_1285, wm_1286⟩ rfl hzz2 (c_X2_unionBut (nx := nx) hzx3) yw_X2_unionBut wm_1284 rfl rfl (Nat.le_of_ble_eq_true rfl) ⟨by decide, by decide⟩ dX8_loosenClaim_5 rfl rfl ?_
  refine j_lstore_n (lv' := [(2, .long zx3), (0, .ref this), (1, .int p1)]) (pc' := 9) C dX8_loosenClaim_8 rfl (by decide) rfl rfl ?_
  refine j_aload_n (q := 1) (pc' := 10) C dX8_loosenClaim_9 rfl rfl rfl ?_
  obtain ⟨zx4, hzx4, hr⟩ := ob hr
  refine j_getA (pc' := 13) C dX8_loosenClaim_10 fl_X8_43 hzx4 rfl ?_
  refine j_iload_n (q := 2) (pc' := 14) C dX8_loosenClaim_13 rfl rfl rfl ?_
  obtain ⟨zz5, hzz5, hr⟩ := ob hr
  obtain ⟨zx6, hzx6, hr⟩ := ob hr
  obtain ⟨fhzz5, hzz5⟩ := rcv_sp hzz5
  refine j_callV (ci := 2) (As := [.int p1]) (rest := []) (st1 := [.int zx6]) (pc' := 17) C ⟨wm_999, wm_1000⟩ rfl hzz5 (c_X2_cubeAt (nx := nx) hzx6) yw_X2_cubeAt wm_998 rfl rfl (Nat.le_of_ble_eq_true rfl) ⟨by decide, by decide⟩ dX8_loosenClaim_14 rfl rfl ?_
  refine j_istore (lv' := [(4, .int zx6), (2, .long zx3), (0, .ref this), (1, .int p1)]) (pc' := 19) C dX8_loosenClaim_17 (by decide) rfl rfl ?_
  refine j_iconst (v := 0) (pc' := 20) C dX8_loosenClaim_19 kI_0 rfl ?_
  refine j_istore (lv' := [(5, .int (0 : Int32)), (4, .int zx6), (2, .long zx3), (0, .ref this), (1, .int p1)]) (pc' := 22) C dX8_loosenClaim_20 (by decide) rfl rfl ?_
  obtain ⟨zo8, hzo8, rzo8⟩ := ob hr
  have kzo8 : Jd G 0 0 nx ce 85 [(0, .ref this), (1, .int p1), (4, .int zo8)] [] := by
    have hr := rzo8
    refine j_aload_n (q := 0) (pc' := 86) C dX8_loosenClaim_85 rfl rfl rfl ?_
    obtain ⟨zx10, hzx10, hr⟩ := ob hr
    refine j_getA (pc' := 89) C dX8_loosenClaim_86 fl_X8_43 hzx10 rfl ?_
    refine j_iload_n (q := 1) (pc' := 90) C dX8_loosenClaim_89 rfl rfl rfl ?_
    refine j_iload (q := 2) (pc' := 92) C dX8_loosenClaim_90 rfl rfl ?_
    obtain ⟨zz11, hzz11, hr⟩ := ob hr
    obtain ⟨zq12, hzq12, hr⟩ := ob hr
    obtain ⟨fhzz11, hzz11⟩ := rcv_sp hzz11
    refine j_callV (ci := 2) (As := [.int p1, .int zo8]) (rest := []) (st1 := []) (pc' := 95) C ⟨wm_1290, wm_1291⟩ rfl hzz11 (c_X2_change (nx := nx) hzq12) yw_X2_change wm_1289 rfl rfl (Nat.le_of_ble_eq_true rfl) ⟨by decide, by decide⟩ dX8_loosenClaim_92 rfl rfl ?_
    refine j_iload (q := 2) (pc' := 97) C dX8_loosenClaim_95 rfl rfl ?_
    have hr := Option.some.inj hr
    subst hr
    exact j_iret C hq hret dX8_loosenClaim_97
  refine j_lv (lv' := [(0, .ref this), (1, .int p1), (2, .long zx3), (4, .int zx6), (5, .int (0 : Int32))]) [3, 4, 2, 1, 0] rfl ?_
  refine it_J (J := (fun (zs7 : Int32 × Int32) => Jd G 0 0 nx ce 22 [(0, .ref this), (1, .int p1), (2, .long zx3), (4, .int zs7.1), (5, .int zs7.2)] [])) ?_ hzo8
  clear hzo8
  intro zs7 zr9 hr izs7 ezs7
  refine j_iload (q := 4) (pc' := 24) C dX8_loosenClaim_22 rfl rfl ?_
  refine j_aload_n (q := 0) (pc' := 25) C dX8_loosenClaim_24 rfl rfl rfl ?_
  obtain ⟨zx13, hzx13, hr⟩ := ob hr
  refine j_getA (pc' := 28) C dX8_loosenClaim_25 fl_X8_9 hzx13 rfl ?_
  obtain ⟨zx14, hzx14, hr⟩ := ob hr
  refine j_getI (pc' := 31) C dX8_loosenClaim_28 fl_X8_168 hzx14 rfl ?_
  refine j_ic_ge (tgt := 85) (pc' := 34) C dX8_loosenClaim_31 rfl rfl (fun hc => ?_) (fun hc => ?_)
  · have hr := ifT hc hr
    clear hc
    have hr := ezs7 _ (Option.some.inj hr).symm
    subst hr
    exact j_lv [0, 1, 3] rfl kzo8
  · have hr := ifF hc hr
    clear hc
    refine j_iload (q := 3) (pc' := 36) C dX8_loosenClaim_34 rfl rfl ?_
    refine j_aload_n (q := 0) (pc' := 37) C dX8_loosenClaim_36 rfl rfl rfl ?_
    obtain ⟨zx15, hzx15, hr⟩ := ob hr
    refine j_getA (pc' := 40) C dX8_loosenClaim_37 fl_X8_39 hzx15 rfl ?_
    refine j_iload (q := 4) (pc' := 42) C dX8_loosenClaim_40 rfl rfl ?_
    refine j_aload_n (q := 0) (pc' := 43) C dX8_loosenClaim_42 rfl rfl rfl ?_
    obtain ⟨zx16, hzx16, hr⟩ := ob hr
    refine j_getI (pc' := 46) C dX8_loosenClaim_43 fl_X8_49 hzx16 rfl ?_
    refine j_aload_n (q := 0) (pc' := 47) C dX8_loosenClaim_46 rfl rfl rfl ?_
    obtain ⟨zx17, hzx17, hr⟩ := ob hr
    refine j_getA (pc' := 50) C dX8_loosenClaim_47 fl_X8_9 hzx17 rfl ?_
    obtain ⟨zx18, hzx18, hr⟩ := ob hr
    refine j_getI (pc' := 53) C dX8_loosenClaim_50 fl_X8_168 hzx18 rfl ?_
    obtain ⟨zz19, hzz19, hr⟩ := ob hr
    obtain ⟨zx20, hzx20, hr⟩ := ob hr
    obtain ⟨fhzz19, hzz19⟩ := rcv_sp hzz19
    refine j_callV (ci := 0) (As := [.int zs7.2, .int zx16, .int zx18]) (rest := [.int zs7.1]) (st1 := [.int zx20, .int zs7.1]) (pc' := 56) C ⟨wm_958, wm_959⟩ rfl hzz19 (c_X0_letterAt (nx := nx) hzx20) yw_X0_letterAt wm_957 rfl rfl (Nat.le_of_ble_eq_true rfl) ⟨by decide, by decide⟩ dX8_loosenClaim_53 rfl rfl ?_
    obtain ⟨zx21, hzx21, hr⟩ := ob hr
    refine j_callS (As := [.int zs7.1, .int zx20]) (rest := []) (st1 := [.int zx21]) (pc' := 59) C wm_970 (c_X3_without (nx := nx) (ce := ce) hzx21) yw_X3_without wm_969 rfl rfl (Nat.le_of_ble_eq_true rfl) ⟨by decide, by decide⟩ dX8_loosenClaim_56 rfl rfl ?_
    refine j_istore (lv' := [(6, .int zx21), (0, .ref this), (1, .int p1), (2, .long zx3), (4, .int zs7.1), (5, .int zs7.2)]) (pc' := 61) C dX8_loosenClaim_59 (by decide) rfl rfl ?_
    refine j_aload_n (q := 1) (pc' := 62) C dX8_loosenClaim_61 rfl rfl rfl ?_
    refine j_lload_n (q := 3) (pc' := 63) C dX8_loosenClaim_62 rfl rfl rfl ?_
    refine j_iload (q := 0) (pc' := 65) C dX8_loosenClaim_63 rfl rfl ?_
    obtain ⟨zx22, hzx22, hr⟩ := ob hr
    refine j_callS (As := [.int zx21]) (rest := [.long zx3, .ref this]) (st1 := [.long zx22, .long zx3, .ref this]) (pc' := 68) C wm_830 (c_X3_statesOf (nx := nx) hzx22) yw_X3_statesOf wm_829 rfl rfl (Nat.le_of_ble_eq_true rfl) ⟨by decide, by decide⟩ dX8_loosenClaim_65 rfl rfl ?_
    refine j_lor (pc' := 69) C dX8_loosenClaim_68 rfl ?_
    obtain ⟨zz23, hzz23, hr⟩ := ob hr
    obtain ⟨zx24, hzx24, hr⟩ := ob hr
    obtain ⟨fhzz23, hzz23⟩ := rcv_sp hzz23
    refine j_callV (ci := 6) (As := [.long (zx3 ||| zx22)]) (rest := []) (st1 := [.int zx24]) (pc' := 72) C ⟨wm_1277, wm_1278⟩ rfl hzz23 (c_X8_judgementOf (nx := nx) hzx24) yw_X8_judgementOf wm_1288 rfl rfl (Nat.le_of_ble_eq_true rfl) ⟨by decide, by decide⟩ dX8_loosenClaim_69 rfl rfl ?_
    refine j_if_ne (tgt := 79) (pc' := 75) C dX8_loosenClaim_72 rfl rfl (fun hc => ?_) (fun hc => ?_)
    · have hr := ifF hc hr
      clear hc
      refine j_iinc (q := 5) (v := 1) (lv' := [(5, .int (zs7.2 + (1 : Int32))), (6, .int zx21), (0, .ref this), (1, .int p1), (2, .long zx3), (4, .int zs7.1)]) (pc' := 82) C dX8_loosenClaim_79 rfl kI_1 (by decide) rfl rfl ?_
      refine j_goto (tgt := 22) C dX8_loosenClaim_82 rfl ?_
      have hr := izs7 (zs7.1, (zs7.2 + (1 : Int32))) (Option.some.inj hr).symm
      exact j_lv [2, 3, 4, 5, 0] rfl hr
    · have hr := ifT hc hr
      clear hc
      refine j_iload (q := 0) (pc' := 77) C dX8_loosenClaim_75 rfl rfl ?_
      refine j_istore (lv' := [(4, .int zx21), (6, .int zx21), (0, .ref this), (1, .int p1), (2, .long zx3), (5, .int zs7.2)]) (pc' := 79) C dX8_loosenClaim_77 (by decide) rfl rfl ?_
      refine j_iinc (q := 5) (v := 1) (lv' := [(5, .int (zs7.2 + (1 : Int32))), (4, .int zx21), (6, .int zx21), (0, .ref this), (1, .int p1), (2, .long zx3)]) (pc' := 82) C dX8_loosenClaim_79 rfl kI_1 (by decide) rfl rfl ?_
      refine j_goto (tgt := 22) C dX8_loosenClaim_82 rfl ?_
      have hr := izs7 (zx21, (zs7.2 + (1 : Int32))) (Option.some.inj hr).symm
      exact j_lv [3, 4, 5, 1, 0] rfl hr
def m_X9_stateAt (p0 : Int64) (p1 : Int32) : Option (Int32) :=
  (it (fun (zs1 : Int32 × Int32) =>
    if (64 : Int32) ≤ zs1.2 then
      some (Sum.inr (Sum.inr ()))
    else
      if zs1.1 < 0 then
        some (Sum.inr (Sum.inr ()))
      else
        (m_X9_has p0 zs1.2).bind fun zx4 =>
        if zx4 = 0 then
          some (Sum.inl (zs1.1, (zs1.2 + (1 : Int32))))
        else
          if zs1.1 = 0 then
            some (Sum.inr (Sum.inl zs1.2))
          else
            some (Sum.inl ((zs1.1 + (-1 : Int32)), (zs1.2 + (1 : Int32))))
  ) FU (p1, (0 : Int32))).bind fun (zo2 : Int32 ⊕ Unit) =>
  Sum.elim (fun wzo2 => some wzo2) (fun vzo2 =>
    some (-1 : Int32)
  ) zo2
set_option maxRecDepth 100000 in
set_option maxHeartbeats 4000000 in
theorem c_X9_stateAt {nx : Nat} {ce : Ce} {p0 : Int64} {p1 : Int32} {q : Int32} (hr : m_X9_stateAt p0 p1 = some q) : Ct yX9_stateAt cX9_stateAt 5 (some .int) 1 22 0 0 [.long p0, .int p1] nx ce (some (.int q)) ce := by
  unfold m_X9_stateAt at hr
  refine ct_of (by decide) (Nat.le_of_ble_eq_true rfl) ?_
  intro G C hq hret hin
  show Jd G 0 0 nx ce 0 [(0, .long p0), (2, .int p1)] []
  refine j_iload_n (q := 1) (pc' := 1) C dX9_stateAt_0 rfl rfl rfl ?_
  refine j_istore_n (lv' := [(3, .int p1), (0, .long p0), (2, .int p1)]) (pc' := 2) C dX9_stateAt_1 rfl (by decide) rfl rfl ?_
  refine j_iconst (v := 0) (pc' := 3) C dX9_stateAt_2 kI_0 rfl ?_
  refine j_istore (lv' := [(4, .int (0 : Int32)), (3, .int p1), (0, .long p0), (2, .int p1)]) (pc' := 5) C dX9_stateAt_3 (by decide) rfl rfl ?_
  obtain ⟨zo2, hzo2, rzo2⟩ := ob hr
  have kzo2 : ∀ vzo2, zo2 = Sum.inr vzo2 → Jd G 0 0 nx ce 41 [] [] := by
    intro vzo2 ezo2
    rw [ezo2] at rzo2
    have hr := elR rzo2
    refine j_iconst (v := -1) (pc' := 42) C dX9_stateAt_41 kI_m1 rfl ?_
    have hr := Option.some.inj hr
    subst hr
    exact j_iret C hq hret dX9_stateAt_42
  refine j_lv (lv' := [(0, .long p0), (3, .int p1), (4, .int (0 : Int32))]) [2, 1, 0] rfl ?_
  refine it_J (J := (fun (zs1 : Int32 × Int32) => Jd G 0 0 nx ce 5 [(0, .long p0), (3, .int zs1.1), (4, .int zs1.2)] [])) ?_ hzo2
  clear hzo2
  intro zs1 zr3 hr izs1 ezs1
  refine j_iload (q := 2) (pc' := 7) C dX9_stateAt_5 rfl rfl ?_
  refine j_bipush (v := 64) (pc' := 9) C dX9_stateAt_7 kB_64 rfl ?_
  refine j_ic_ge (tgt := 41) (pc' := 12) C dX9_stateAt_9 rfl rfl (fun hc => ?_) (fun hc => ?_)
  · have hr := ifT hc hr
    clear hc
    have hr := ezs1 _ (Option.some.inj hr).symm
    subst hr
    exact j_lv [] rfl (kzo2 _ rfl)
  · have hr := ifF hc hr
    clear hc
    refine j_iload_n (q := 1) (pc' := 13) C dX9_stateAt_12 rfl rfl rfl ?_
    refine j_if_lt (tgt := 41) (pc' := 16) C dX9_stateAt_13 rfl rfl (fun hc => ?_) (fun hc => ?_)
    · have hr := ifT hc hr
      clear hc
      have hr := ezs1 _ (Option.some.inj hr).symm
      subst hr
      exact j_lv [] rfl (kzo2 _ rfl)
    · have hr := ifF hc hr
      clear hc
      refine j_lload_n (q := 0) (pc' := 17) C dX9_stateAt_16 rfl rfl rfl ?_
      refine j_iload (q := 2) (pc' := 19) C dX9_stateAt_17 rfl rfl ?_
      obtain ⟨zx4, hzx4, hr⟩ := ob hr
      refine j_callS (As := [.long p0, .int zs1.2]) (rest := []) (st1 := [.int zx4]) (pc' := 22) C wm_691 (c_X9_has (nx := nx) (ce := ce) hzx4) yw_X9_has wm_1044 rfl rfl (Nat.le_of_ble_eq_true rfl) ⟨by decide, by decide⟩ dX9_stateAt_19 rfl rfl ?_
      refine j_if_eq (tgt := 35) (pc' := 25) C dX9_stateAt_22 rfl rfl (fun hc => ?_) (fun hc => ?_)
      · have hr := ifT hc hr
        clear hc
        refine j_iinc (q := 2) (v := 1) (lv' := [(4, .int (zs1.2 + (1 : Int32))), (0, .long p0), (3, .int zs1.1)]) (pc' := 38) C dX9_stateAt_35 rfl kI_1 (by decide) rfl rfl ?_
        refine j_goto (tgt := 5) C dX9_stateAt_38 rfl ?_
        have hr := izs1 (zs1.1, (zs1.2 + (1 : Int32))) (Option.some.inj hr).symm
        exact j_lv [1, 2, 0] rfl hr
      · have hr := ifF hc hr
        clear hc
        refine j_iload_n (q := 1) (pc' := 26) C dX9_stateAt_25 rfl rfl rfl ?_
        refine j_if_ne (tgt := 32) (pc' := 29) C dX9_stateAt_26 rfl rfl (fun hc => ?_) (fun hc => ?_)
        · have hr := ifF hc hr
          clear hc
          refine j_iinc (q := 1) (v := -1) (lv' := [(3, .int (zs1.1 + (-1 : Int32))), (0, .long p0), (4, .int zs1.2)]) (pc' := 35) C dX9_stateAt_32 rfl kI_m1 (by decide) rfl rfl ?_
          refine j_iinc (q := 2) (v := 1) (lv' := [(4, .int (zs1.2 + (1 : Int32))), (3, .int (zs1.1 + (-1 : Int32))), (0, .long p0)]) (pc' := 38) C dX9_stateAt_35 rfl kI_1 (by decide) rfl rfl ?_
          refine j_goto (tgt := 5) C dX9_stateAt_38 rfl ?_
          have hr := izs1 ((zs1.1 + (-1 : Int32)), (zs1.2 + (1 : Int32))) (Option.some.inj hr).symm
          exact j_lv [2, 1, 0] rfl hr
        · have hr := ifT hc hr
          clear hc
          refine j_iload (q := 2) (pc' := 31) C dX9_stateAt_29 rfl rfl ?_
          have hr := ezs1 _ (Option.some.inj hr).symm
          subst hr
          have hr := elL rzo2
          have hr := Option.some.inj hr
          subst hr
          exact j_iret C hq hret dX9_stateAt_31
def m_X10_init (nx : Nat) (ce : Ce) (this : Nat) (p1 : Nat) : Option (Unit × Ce × Nat × Nat) :=
  (nwa (4 : Int32)).bind fun zk3 =>
  adcK 1 zk3 fun _ =>
  (some (gx_up ce nx (.inl (.object "FencedStates$Machine", zk3, .inr (.inr (.inr (.inr (fun _ => none)))))))).bind fun zc2 =>
  (pV zc2 7 0 this (.ref nx)).bind fun zc4 =>
  (nwa (20 : Int32)).bind fun zk7 =>
  adcK 1 zk7 fun _ =>
  (some (gx_up zc4 (nx + 1) (.inl (.object "FencedStates$Search", zk7, .inr (.inr (.inr (.inr (fun _ => none)))))))).bind fun zc6 =>
  (pV zc6 7 2 this (.ref (nx + 1))).bind fun zc8 =>
  adcK 1 15 fun _ =>
  (some (gx_up zc8 ((nx + 1) + 1) (.inr (6, df_X8)))).bind fun zc10 =>
  adcB (m_X8_init (((nx + 1) + 1) + 1) zc10 ((nx + 1) + 1) p1) fun zq11 =>
  (pV zq11.2.1 7 4 this (.ref ((nx + 1) + 1))).bind fun zc13 =>
  some ((), zc13, 0, 0)
set_option maxRecDepth 100000 in
set_option maxHeartbeats 4000000 in
theorem c_X10_init {nx : Nat} {ce : Ce} {this : Nat} {p1 : Nat} {q : Unit × Ce × Nat × Nat} (hr : m_X10_init nx ce this p1 = some q) : Ct yX10_init cX10_init 2 none 3 61 q.2.2.1 q.2.2.2 [.ref this, .ref p1] nx ce none q.2.1 := by
  unfold m_X10_init at hr
  refine ct_of (by decide) (Nat.le_of_ble_eq_true rfl) ?_
  intro G C hq hret hin
  show Jd G q.2.2.1 q.2.2.2 nx ce 0 [(0, .ref this), (1, .ref p1)] []
  refine j_aload_n (q := 0) (pc' := 1) C dX10_init_0 rfl rfl rfl ?_
  refine j_objInit (pc' := 4) C dX10_init_1 wm_262 wm_157 wm_oi ⟨by decide, by decide⟩ (Nat.le_of_ble_eq_true rfl) rfl ?_
  refine j_aload_n (q := 0) (pc' := 5) C dX10_init_4 rfl rfl rfl ?_
  refine j_iconst (v := 4) (pc' := 6) C dX10_init_5 kI_4 rfl ?_
  obtain ⟨zk3, hzk3, hr⟩ := ob hr
  obtain ⟨nzk3, ezk3, bzk3⟩ := nwa_sp hzk3
  obtain ⟨zt1, hr, azt1, bzt1, czt1, dzt1⟩ := adcK_s hr
  obtain ⟨zc2, hzc2, hr⟩ := ob hr
  have hzc2 := Option.some.inj hzc2
  refine j_k (kc' := zt1.2.2.1 + 1) (ks' := zt1.2.2.2 + zk3) (by omega) (by omega) ?_
  refine j_anewM (N := zk3) (pc' := 9) C dX10_init_6 wm_263 nzk3 ezk3 (Nat.le_trans (Nat.mul_le_mul_left _ (by decide)) bzk3) rfl ?_
  rw [hzc2]
  obtain ⟨zc4, hzc4, hr⟩ := ob hr
  refine j_putF (pc' := 12) C hin dX10_init_9 fw_X10_11 rfl rfl hzc4 rfl ?_
  refine j_aload_n (q := 0) (pc' := 13) C dX10_init_12 rfl rfl rfl ?_
  refine j_bipush (v := 20) (pc' := 15) C dX10_init_13 kB_20 rfl ?_
  obtain ⟨zk7, hzk7, hr⟩ := ob hr
  obtain ⟨nzk7, ezk7, bzk7⟩ := nwa_sp hzk7
  obtain ⟨zt5, hr, azt5, bzt5, czt5, dzt5⟩ := adcK_s hr
  obtain ⟨zc6, hzc6, hr⟩ := ob hr
  have hzc6 := Option.some.inj hzc6
  refine j_k (kc' := zt5.2.2.1 + 1) (ks' := zt5.2.2.2 + zk7) (by omega) (by omega) ?_
  refine j_anewS (N := zk7) (pc' := 18) C dX10_init_15 wm_265 nzk7 ezk7 (Nat.le_trans (Nat.mul_le_mul_left _ (by decide)) bzk7) rfl ?_
  rw [hzc6]
  obtain ⟨zc8, hzc8, hr⟩ := ob hr
  refine j_putF (pc' := 21) C hin dX10_init_18 fw_X10_19 rfl rfl hzc8 rfl ?_
  refine j_aload_n (q := 0) (pc' := 22) C dX10_init_21 rfl rfl rfl ?_
  obtain ⟨zt9, hr, azt9, bzt9, czt9, dzt9⟩ := adcK_s hr
  obtain ⟨zc10, hzc10, hr⟩ := ob hr
  have hzc10 := Option.some.inj hzc10
  refine j_k (kc' := zt9.2.2.1 + 1) (ks' := zt9.2.2.2 + 15) (by omega) (by omega) ?_
  refine j_new (ci := 6) (N := 15) (C0 := RX8) (T := TX8) (ty := tyX8) (fs := df_X8) (pc' := 25) C dX10_init_22 rfl iw_X8 tyX8_ok wm_265 wm_267 wm_129 dv_X8 rfl ?_
  rw [hzc10]
  refine j_dup (pc' := 26) C dX10_init_25 rfl rfl ?_
  refine j_aload_n (q := 1) (pc' := 27) C dX10_init_26 rfl rfl rfl ?_
  obtain ⟨zq11, zt12, hzq11, hr, azt12, bzt12, czt12, dzt12⟩ := adcB_s hr
  refine j_k (kc' := zt12.2.2.1 + zq11.2.2.1) (ks' := zt12.2.2.2 + zq11.2.2.2) (by omega) (by omega) ?_
  refine j_callIA (As := [.ref p1]) (rest := [.ref ((nx + 1) + 1), .ref this]) (st1 := [.ref ((nx + 1) + 1), .ref this]) (pc' := 30) C wm_269 rfl (c_X8_init hzq11) yw_X8_init wm_268 rfl rfl (Nat.le_of_ble_eq_true rfl) ⟨by decide, by decide⟩ dX10_init_27 rfl rfl ?_
  obtain ⟨zc13, hzc13, hr⟩ := ob hr
  refine j_putF (pc' := 33) C hin dX10_init_30 fw_X10_26 rfl rfl hzc13 rfl ?_
  obtain ⟨azf14, bzf15, czf16, dzf17⟩ := some4 hr
  refine j_k (kc' := 0) (ks' := 0) (by omega) (by omega) ?_
  rw [show nx + q.2.2.1 = ((((nx + 1) + 1) + 1) + zq11.2.2.1) by omega, (bzt1.trans (bzt5.trans (bzt9.trans (bzt12.trans bzf15))))] at hq
  exact j_vret C hq hret dX10_init_33
def m_X10_become (nx : Nat) (ce : Ce) (this : Nat) (p1 : Nat) : Option (Unit × Ce × Nat × Nat) :=
  (it (fun (zs1 : Int32 × Ce) =>
    (gA zs1.2 7 0 this).bind fun zx28 =>
    (alen zs1.2 zx28).bind fun zx29 =>
    if zx29 ≤ zs1.1 then
      some (Sum.inr ((), zs1.2))
    else
      (gA zs1.2 7 0 p1).bind fun zx30 =>
      (alen zs1.2 zx30).bind fun zx31 =>
      if zx31 ≤ zs1.1 then
        some (Sum.inr ((), zs1.2))
      else
        (gA zs1.2 7 0 this).bind fun zx32 =>
        (gA zs1.2 7 0 p1).bind fun zx33 =>
        (aR "FencedStates$Machine" zs1.2 zx33 zs1.1).bind fun zx34 =>
        (sR "FencedStates$Machine" 3 zs1.2 zx32 zs1.1 zx34).bind fun zc35 =>
        some (Sum.inl ((zs1.1 + (1 : Int32)), zc35))
  ) FU ((0 : Int32), ce)).bind fun (zo2 : Unit × Ce) =>
  (gI zo2.2 7 1 p1).bind fun zx4 =>
  (pV zo2.2 7 1 this (.int zx4)).bind fun zc5 =>
  (it (fun (zs6 : Int32 × Ce) =>
    (gA zs6.2 7 2 this).bind fun zx20 =>
    (alen zs6.2 zx20).bind fun zx21 =>
    if zx21 ≤ zs6.1 then
      some (Sum.inr ((), zs6.2))
    else
      (gA zs6.2 7 2 p1).bind fun zx22 =>
      (alen zs6.2 zx22).bind fun zx23 =>
      if zx23 ≤ zs6.1 then
        some (Sum.inr ((), zs6.2))
      else
        (gA zs6.2 7 2 this).bind fun zx24 =>
        (gA zs6.2 7 2 p1).bind fun zx25 =>
        (aR "FencedStates$Search" zs6.2 zx25 zs6.1).bind fun zx26 =>
        (sR "FencedStates$Search" 6 zs6.2 zx24 zs6.1 zx26).bind fun zc27 =>
        some (Sum.inl ((zs6.1 + (1 : Int32)), zc27))
  ) FU ((0 : Int32), zc5)).bind fun (zo7 : Unit × Ce) =>
  (gI zo7.2 7 3 p1).bind fun zx9 =>
  (pV zo7.2 7 3 this (.int zx9)).bind fun zc10 =>
  (gA zc10 7 4 this).bind fun zx11 =>
  (gA zc10 7 4 p1).bind fun zx12 =>
  (rcv zc10 6 zx11).bind fun zz13 =>
  adcB (m_X8_become nx zc10 zx11 zx12) fun zq14 =>
  some ((), zq14.2.1, 0, 0)
set_option maxRecDepth 100000 in
set_option maxHeartbeats 4000000 in
theorem c_X10_become {nx : Nat} {ce : Ce} {this : Nat} {p1 : Nat} {q : Unit × Ce × Nat × Nat} (hr : m_X10_become nx ce this p1 = some q) : Ct yX10_become cX10_become 3 none 5 145 q.2.2.1 q.2.2.2 [.ref this, .ref p1] nx ce none q.2.1 := by
  unfold m_X10_become at hr
  refine ct_of (by decide) (Nat.le_of_ble_eq_true rfl) ?_
  intro G C hq hret hin
  show Jd G q.2.2.1 q.2.2.2 nx ce 0 [(0, .ref this), (1, .ref p1)] []
  refine j_iconst (v := 0) (pc' := 1) C dX10_become_0 kI_0 rfl ?_
  refine j_istore_n (lv' := [(2, .int (0 : Int32)), (0, .ref this), (1, .ref p1)]) (pc' := 2) C dX10_become_1 rfl (by decide) rfl rfl ?_
  obtain ⟨zo2, hzo2, rzo2⟩ := ob hr
  have kzo2 : Jd G q.2.2.1 q.2.2.2 nx zo2.2 38 [(0, .ref this), (1, .ref p1)] [] := by
    have hr := rzo2
    refine j_aload_n (q := 0) (pc' := 39) C dX10_become_38 rfl rfl rfl ?_
    refine j_aload_n (q := 1) (pc' := 40) C dX10_become_39 rfl rfl rfl ?_
    obtain ⟨zx4, hzx4, hr⟩ := ob hr
    refine j_getI (pc' := 43) C dX10_become_40 fl_X10_30 hzx4 rfl ?_
    obtain ⟨zc5, hzc5, hr⟩ := ob hr
    refine j_put (pc' := 46) C dX10_become_43 fw_X10_30 rfl rfl hzc5 rfl ?_
    refine j_iconst (v := 0) (pc' := 47) C dX10_become_46 kI_0 rfl ?_
    refine j_istore_n (lv' := [(2, .int (0 : Int32)), (0, .ref this), (1, .ref p1)]) (pc' := 48) C dX10_become_47 rfl (by decide) rfl rfl ?_
    obtain ⟨zo7, hzo7, rzo7⟩ := ob hr
    have kzo7 : Jd G q.2.2.1 q.2.2.2 nx zo7.2 84 [(0, .ref this), (1, .ref p1)] [] := by
      have hr := rzo7
      refine j_aload_n (q := 0) (pc' := 85) C dX10_become_84 rfl rfl rfl ?_
      refine j_aload_n (q := 1) (pc' := 86) C dX10_become_85 rfl rfl rfl ?_
      obtain ⟨zx9, hzx9, hr⟩ := ob hr
      refine j_getI (pc' := 89) C dX10_become_86 fl_X10_34 hzx9 rfl ?_
      obtain ⟨zc10, hzc10, hr⟩ := ob hr
      refine j_put (pc' := 92) C dX10_become_89 fw_X10_34 rfl rfl hzc10 rfl ?_
      refine j_aload_n (q := 0) (pc' := 93) C dX10_become_92 rfl rfl rfl ?_
      obtain ⟨zx11, hzx11, hr⟩ := ob hr
      refine j_getA (pc' := 96) C dX10_become_93 fl_X10_26 hzx11 rfl ?_
      refine j_aload_n (q := 1) (pc' := 97) C dX10_become_96 rfl rfl rfl ?_
      obtain ⟨zx12, hzx12, hr⟩ := ob hr
      refine j_getA (pc' := 100) C dX10_become_97 fl_X10_26 hzx12 rfl ?_
      obtain ⟨zz13, hzz13, hr⟩ := ob hr
      obtain ⟨zq14, zt15, hzq14, hr, azt15, bzt15, czt15, dzt15⟩ := adcB_s hr
      refine j_k (kc' := zt15.2.2.1 + zq14.2.2.1) (ks' := zt15.2.2.2 + zq14.2.2.2) (by omega) (by omega) ?_
      obtain ⟨fhzz13, hzz13⟩ := rcv_sp hzz13
      refine j_callVA (ci := 6) (As := [.ref zx12]) (rest := []) (st1 := []) (pc' := 103) C ⟨wm_731, wm_732⟩ rfl hzz13 (c_X8_become hzq14) yw_X8_become wm_730 rfl rfl (Nat.le_of_ble_eq_true rfl) ⟨by decide, by decide⟩ dX10_become_100 rfl rfl ?_
      obtain ⟨azf16, bzf17, czf18, dzf19⟩ := some4 hr
      refine j_k (kc' := 0) (ks' := 0) (by omega) (by omega) ?_
      rw [show nx + q.2.2.1 = (nx + zq14.2.2.1) by omega, (bzt15.trans bzf17)] at hq
      exact j_vret C hq hret dX10_become_103
    refine j_lv (lv' := [(0, .ref this), (1, .ref p1), (2, .int (0 : Int32))]) [1, 2, 0] rfl ?_
    refine it_J (J := (fun (zs6 : Int32 × Ce) => Jd G q.2.2.1 q.2.2.2 nx zs6.2 48 [(0, .ref this), (1, .ref p1), (2, .int zs6.1)] [])) ?_ hzo7
    clear hzo7
    intro zs6 zr8 hr izs6 ezs6
    refine j_iload_n (q := 2) (pc' := 49) C dX10_become_48 rfl rfl rfl ?_
    refine j_aload_n (q := 0) (pc' := 50) C dX10_become_49 rfl rfl rfl ?_
    obtain ⟨zx20, hzx20, hr⟩ := ob hr
    refine j_getA (pc' := 53) C dX10_become_50 fl_X10_19 hzx20 rfl ?_
    obtain ⟨zx21, hzx21, hr⟩ := ob hr
    refine j_alen (pc' := 54) C dX10_become_53 hzx21 rfl ?_
    refine j_ic_ge (tgt := 84) (pc' := 57) C dX10_become_54 rfl rfl (fun hc => ?_) (fun hc => ?_)
    · have hr := ifT hc hr
      clear hc
      have hr := ezs6 _ (Option.some.inj hr).symm
      subst hr
      exact j_lv [0, 1] rfl kzo7
    · have hr := ifF hc hr
      clear hc
      refine j_iload_n (q := 2) (pc' := 58) C dX10_become_57 rfl rfl rfl ?_
      refine j_aload_n (q := 1) (pc' := 59) C dX10_become_58 rfl rfl rfl ?_
      obtain ⟨zx22, hzx22, hr⟩ := ob hr
      refine j_getA (pc' := 62) C dX10_become_59 fl_X10_19 hzx22 rfl ?_
      obtain ⟨zx23, hzx23, hr⟩ := ob hr
      refine j_alen (pc' := 63) C dX10_become_62 hzx23 rfl ?_
      refine j_ic_ge (tgt := 84) (pc' := 66) C dX10_become_63 rfl rfl (fun hc => ?_) (fun hc => ?_)
      · have hr := ifT hc hr
        clear hc
        have hr := ezs6 _ (Option.some.inj hr).symm
        subst hr
        exact j_lv [0, 1] rfl kzo7
      · have hr := ifF hc hr
        clear hc
        refine j_aload_n (q := 0) (pc' := 67) C dX10_become_66 rfl rfl rfl ?_
        obtain ⟨zx24, hzx24, hr⟩ := ob hr
        refine j_getA (pc' := 70) C dX10_become_67 fl_X10_19 hzx24 rfl ?_
        refine j_iload_n (q := 2) (pc' := 71) C dX10_become_70 rfl rfl rfl ?_
        refine j_aload_n (q := 1) (pc' := 72) C dX10_become_71 rfl rfl rfl ?_
        obtain ⟨zx25, hzx25, hr⟩ := ob hr
        refine j_getA (pc' := 75) C dX10_become_72 fl_X10_19 hzx25 rfl ?_
        refine j_iload_n (q := 2) (pc' := 76) C dX10_become_75 rfl rfl rfl ?_
        obtain ⟨zx26, hzx26, hr⟩ := ob hr
        refine j_aaldS (pc' := 77) C dX10_become_76 hzx26 rfl ?_
        obtain ⟨zc27, hzc27, hr⟩ := ob hr
        refine j_aastS (x := zx26) (pc' := 78) C dX10_become_77 hzc27 rfl ?_
        refine j_iinc (q := 2) (v := 1) (lv' := [(2, .int (zs6.1 + (1 : Int32))), (0, .ref this), (1, .ref p1)]) (pc' := 81) C dX10_become_78 rfl kI_1 (by decide) rfl rfl ?_
        refine j_goto (tgt := 48) C dX10_become_81 rfl ?_
        have hr := izs6 ((zs6.1 + (1 : Int32)), zc27) (Option.some.inj hr).symm
        exact j_lv [1, 2, 0] rfl hr
  refine j_lv (lv' := [(0, .ref this), (1, .ref p1), (2, .int (0 : Int32))]) [1, 2, 0] rfl ?_
  refine it_J (J := (fun (zs1 : Int32 × Ce) => Jd G q.2.2.1 q.2.2.2 nx zs1.2 2 [(0, .ref this), (1, .ref p1), (2, .int zs1.1)] [])) ?_ hzo2
  clear hzo2
  intro zs1 zr3 hr izs1 ezs1
  refine j_iload_n (q := 2) (pc' := 3) C dX10_become_2 rfl rfl rfl ?_
  refine j_aload_n (q := 0) (pc' := 4) C dX10_become_3 rfl rfl rfl ?_
  obtain ⟨zx28, hzx28, hr⟩ := ob hr
  refine j_getA (pc' := 7) C dX10_become_4 fl_X10_11 hzx28 rfl ?_
  obtain ⟨zx29, hzx29, hr⟩ := ob hr
  refine j_alen (pc' := 8) C dX10_become_7 hzx29 rfl ?_
  refine j_ic_ge (tgt := 38) (pc' := 11) C dX10_become_8 rfl rfl (fun hc => ?_) (fun hc => ?_)
  · have hr := ifT hc hr
    clear hc
    have hr := ezs1 _ (Option.some.inj hr).symm
    subst hr
    exact j_lv [0, 1] rfl kzo2
  · have hr := ifF hc hr
    clear hc
    refine j_iload_n (q := 2) (pc' := 12) C dX10_become_11 rfl rfl rfl ?_
    refine j_aload_n (q := 1) (pc' := 13) C dX10_become_12 rfl rfl rfl ?_
    obtain ⟨zx30, hzx30, hr⟩ := ob hr
    refine j_getA (pc' := 16) C dX10_become_13 fl_X10_11 hzx30 rfl ?_
    obtain ⟨zx31, hzx31, hr⟩ := ob hr
    refine j_alen (pc' := 17) C dX10_become_16 hzx31 rfl ?_
    refine j_ic_ge (tgt := 38) (pc' := 20) C dX10_become_17 rfl rfl (fun hc => ?_) (fun hc => ?_)
    · have hr := ifT hc hr
      clear hc
      have hr := ezs1 _ (Option.some.inj hr).symm
      subst hr
      exact j_lv [0, 1] rfl kzo2
    · have hr := ifF hc hr
      clear hc
      refine j_aload_n (q := 0) (pc' := 21) C dX10_become_20 rfl rfl rfl ?_
      obtain ⟨zx32, hzx32, hr⟩ := ob hr
      refine j_getA (pc' := 24) C dX10_become_21 fl_X10_11 hzx32 rfl ?_
      refine j_iload_n (q := 2) (pc' := 25) C dX10_become_24 rfl rfl rfl ?_
      refine j_aload_n (q := 1) (pc' := 26) C dX10_become_25 rfl rfl rfl ?_
      obtain ⟨zx33, hzx33, hr⟩ := ob hr
      refine j_getA (pc' := 29) C dX10_become_26 fl_X10_11 hzx33 rfl ?_
      refine j_iload_n (q := 2) (pc' := 30) C dX10_become_29 rfl rfl rfl ?_
      obtain ⟨zx34, hzx34, hr⟩ := ob hr
      refine j_aaldM (pc' := 31) C dX10_become_30 hzx34 rfl ?_
      obtain ⟨zc35, hzc35, hr⟩ := ob hr
      refine j_aastM (x := zx34) (pc' := 32) C dX10_become_31 hzc35 rfl ?_
      refine j_iinc (q := 2) (v := 1) (lv' := [(2, .int (zs1.1 + (1 : Int32))), (0, .ref this), (1, .ref p1)]) (pc' := 35) C dX10_become_32 rfl kI_1 (by decide) rfl rfl ?_
      refine j_goto (tgt := 2) C dX10_become_35 rfl ?_
      have hr := izs1 ((zs1.1 + (1 : Int32)), zc35) (Option.some.inj hr).symm
      exact j_lv [1, 2, 0] rfl hr
def m_X10_addText (ce : Ce) (this : Nat) (p1 : Nat) : Option (Int32 × Ce) :=
  (gI ce 7 1 this).bind fun zx1 =>
  if zx1 < 0 then
    some ((-1 : Int32), ce)
  else
    (gI ce 7 1 this).bind fun zx2 =>
    (gA ce 7 0 this).bind fun zx3 =>
    (alen ce zx3).bind fun zx4 =>
    if zx2 < zx4 then
      (gA ce 7 0 this).bind fun zx5 =>
      (gI ce 7 1 this).bind fun zx6 =>
      (sR "FencedStates$Machine" 3 ce zx5 zx6 (some p1)).bind fun zc7 =>
      (gI zc7 7 1 this).bind fun zx8 =>
      (pV zc7 7 1 this (.int (zx8 + (1 : Int32)))).bind fun zc9 =>
      (gI zc9 7 1 this).bind fun zx10 =>
      some ((zx10 - (1 : Int32)), zc9)
    else
      some ((-1 : Int32), ce)
set_option maxRecDepth 100000 in
set_option maxHeartbeats 4000000 in
theorem c_X10_addText {nx : Nat} {ce : Ce} {this : Nat} {p1 : Nat} {q : Int32 × Ce} (hr : m_X10_addText ce this p1 = some q) : Ct yX10_addText cX10_addText 2 (some .int) 0 0 0 0 [.ref this, .ref p1] nx ce (some (.int q.1)) q.2 := by
  unfold m_X10_addText at hr
  refine ct_of (by decide) (Nat.le_of_ble_eq_true rfl) ?_
  intro G C hq hret hin
  show Jd G 0 0 nx ce 0 [(0, .ref this), (1, .ref p1)] []
  refine j_aload_n (q := 0) (pc' := 1) C dX10_addText_0 rfl rfl rfl ?_
  obtain ⟨zx1, hzx1, hr⟩ := ob hr
  refine j_getI (pc' := 4) C dX10_addText_1 fl_X10_30 hzx1 rfl ?_
  refine j_if_lt (tgt := 19) (pc' := 7) C dX10_addText_4 rfl rfl (fun hc => ?_) (fun hc => ?_)
  · have hr := ifT hc hr
    clear hc
    refine j_iconst (v := -1) (pc' := 20) C dX10_addText_19 kI_m1 rfl ?_
    have hr := Option.some.inj hr
    subst hr
    exact j_iret C hq hret dX10_addText_20
  · have hr := ifF hc hr
    clear hc
    refine j_aload_n (q := 0) (pc' := 8) C dX10_addText_7 rfl rfl rfl ?_
    obtain ⟨zx2, hzx2, hr⟩ := ob hr
    refine j_getI (pc' := 11) C dX10_addText_8 fl_X10_30 hzx2 rfl ?_
    refine j_aload_n (q := 0) (pc' := 12) C dX10_addText_11 rfl rfl rfl ?_
    obtain ⟨zx3, hzx3, hr⟩ := ob hr
    refine j_getA (pc' := 15) C dX10_addText_12 fl_X10_11 hzx3 rfl ?_
    obtain ⟨zx4, hzx4, hr⟩ := ob hr
    refine j_alen (pc' := 16) C dX10_addText_15 hzx4 rfl ?_
    refine j_ic_lt (tgt := 21) (pc' := 19) C dX10_addText_16 rfl rfl (fun hc => ?_) (fun hc => ?_)
    · have hr := ifT hc hr
      clear hc
      refine j_aload_n (q := 0) (pc' := 22) C dX10_addText_21 rfl rfl rfl ?_
      obtain ⟨zx5, hzx5, hr⟩ := ob hr
      refine j_getA (pc' := 25) C dX10_addText_22 fl_X10_11 hzx5 rfl ?_
      refine j_aload_n (q := 0) (pc' := 26) C dX10_addText_25 rfl rfl rfl ?_
      obtain ⟨zx6, hzx6, hr⟩ := ob hr
      refine j_getI (pc' := 29) C dX10_addText_26 fl_X10_30 hzx6 rfl ?_
      refine j_aload_n (q := 1) (pc' := 30) C dX10_addText_29 rfl rfl rfl ?_
      obtain ⟨zc7, hzc7, hr⟩ := ob hr
      refine j_aastM (x := (some p1)) (pc' := 31) C dX10_addText_30 hzc7 rfl ?_
      refine j_aload_n (q := 0) (pc' := 32) C dX10_addText_31 rfl rfl rfl ?_
      refine j_dup (pc' := 33) C dX10_addText_32 rfl rfl ?_
      obtain ⟨zx8, hzx8, hr⟩ := ob hr
      refine j_getI (pc' := 36) C dX10_addText_33 fl_X10_30 hzx8 rfl ?_
      refine j_iconst (v := 1) (pc' := 37) C dX10_addText_36 kI_1 rfl ?_
      refine j_iadd (pc' := 38) C dX10_addText_37 rfl ?_
      obtain ⟨zc9, hzc9, hr⟩ := ob hr
      refine j_put (pc' := 41) C dX10_addText_38 fw_X10_30 rfl rfl hzc9 rfl ?_
      refine j_aload_n (q := 0) (pc' := 42) C dX10_addText_41 rfl rfl rfl ?_
      obtain ⟨zx10, hzx10, hr⟩ := ob hr
      refine j_getI (pc' := 45) C dX10_addText_42 fl_X10_30 hzx10 rfl ?_
      refine j_iconst (v := 1) (pc' := 46) C dX10_addText_45 kI_1 rfl ?_
      refine j_isub (pc' := 47) C dX10_addText_46 rfl ?_
      have hr := Option.some.inj hr
      subst hr
      exact j_iret C hq hret dX10_addText_47
    · have hr := ifF hc hr
      clear hc
      refine j_iconst (v := -1) (pc' := 20) C dX10_addText_19 kI_m1 rfl ?_
      have hr := Option.some.inj hr
      subst hr
      exact j_iret C hq hret dX10_addText_20
def m_X10_textAt (ce : Ce) (this : Nat) (p1 : Int32) : Option ((Option Nat)) :=
  if p1 < 0 then
    some none
  else
    (gI ce 7 1 this).bind fun zx1 =>
    if zx1 ≤ p1 then
      some none
    else
      (gA ce 7 0 this).bind fun zx2 =>
      (alen ce zx2).bind fun zx3 =>
      if zx3 ≤ p1 then
        some none
      else
        (gA ce 7 0 this).bind fun zx4 =>
        (aR "FencedStates$Machine" ce zx4 p1).bind fun zx5 =>
        some zx5
set_option maxRecDepth 100000 in
set_option maxHeartbeats 4000000 in
theorem c_X10_textAt {nx : Nat} {ce : Ce} {this : Nat} {p1 : Int32} {q : (Option Nat)} (hr : m_X10_textAt ce this p1 = some q) : Ct yX10_textAt cX10_textAt 2 (some (.object "FencedStates$Machine")) 0 0 0 0 [.ref this, .int p1] nx ce (some (va_rf q)) ce := by
  unfold m_X10_textAt at hr
  refine ct_of (by decide) (Nat.le_of_ble_eq_true rfl) ?_
  intro G C hq hret hin
  show Jd G 0 0 nx ce 0 [(0, .ref this), (1, .int p1)] []
  refine j_iload_n (q := 1) (pc' := 1) C dX10_textAt_0 rfl rfl rfl ?_
  refine j_if_lt (tgt := 30) (pc' := 4) C dX10_textAt_1 rfl rfl (fun hc => ?_) (fun hc => ?_)
  · have hr := ifT hc hr
    clear hc
    refine j_null (pc' := 31) C dX10_textAt_30 rfl ?_
    have hr := Option.some.inj hr
    subst hr
    exact j_aret C hq hret (by first | exact Or.inl ⟨_, rfl⟩ | exact Or.inr ⟨_, rfl⟩) dX10_textAt_31
  · have hr := ifF hc hr
    clear hc
    refine j_iload_n (q := 1) (pc' := 5) C dX10_textAt_4 rfl rfl rfl ?_
    refine j_aload_n (q := 0) (pc' := 6) C dX10_textAt_5 rfl rfl rfl ?_
    obtain ⟨zx1, hzx1, hr⟩ := ob hr
    refine j_getI (pc' := 9) C dX10_textAt_6 fl_X10_30 hzx1 rfl ?_
    refine j_ic_ge (tgt := 30) (pc' := 12) C dX10_textAt_9 rfl rfl (fun hc => ?_) (fun hc => ?_)
    · have hr := ifT hc hr
      clear hc
      refine j_null (pc' := 31) C dX10_textAt_30 rfl ?_
      have hr := Option.some.inj hr
      subst hr
      exact j_aret C hq hret (by first | exact Or.inl ⟨_, rfl⟩ | exact Or.inr ⟨_, rfl⟩) dX10_textAt_31
    · have hr := ifF hc hr
      clear hc
      refine j_iload_n (q := 1) (pc' := 13) C dX10_textAt_12 rfl rfl rfl ?_
      refine j_aload_n (q := 0) (pc' := 14) C dX10_textAt_13 rfl rfl rfl ?_
      obtain ⟨zx2, hzx2, hr⟩ := ob hr
      refine j_getA (pc' := 17) C dX10_textAt_14 fl_X10_11 hzx2 rfl ?_
      obtain ⟨zx3, hzx3, hr⟩ := ob hr
      refine j_alen (pc' := 18) C dX10_textAt_17 hzx3 rfl ?_
      refine j_ic_ge (tgt := 30) (pc' := 21) C dX10_textAt_18 rfl rfl (fun hc => ?_) (fun hc => ?_)
      · have hr := ifT hc hr
        clear hc
        refine j_null (pc' := 31) C dX10_textAt_30 rfl ?_
        have hr := Option.some.inj hr
        subst hr
        exact j_aret C hq hret (by first | exact Or.inl ⟨_, rfl⟩ | exact Or.inr ⟨_, rfl⟩) dX10_textAt_31
      · have hr := ifF hc hr
        clear hc
        refine j_aload_n (q := 0) (pc' := 22) C dX10_textAt_21 rfl rfl rfl ?_
        obtain ⟨zx4, hzx4, hr⟩ := ob hr
        refine j_getA (pc' := 25) C dX10_textAt_22 fl_X10_11 hzx4 rfl ?_
        refine j_iload_n (q := 1) (pc' := 26) C dX10_textAt_25 rfl rfl rfl ?_
        obtain ⟨zx5, hzx5, hr⟩ := ob hr
        refine j_aaldM (pc' := 27) C dX10_textAt_26 hzx5 rfl ?_
        refine j_goto (tgt := 31) C dX10_textAt_27 rfl ?_
        have hr := Option.some.inj hr
        subst hr
        exact j_aret C hq hret (by first | exact Or.inl ⟨_, rfl⟩ | exact Or.inr ⟨_, rfl⟩) dX10_textAt_31
def m_X10_remember (nx : Nat) (ce : Ce) (this : Nat) : Option (Unit × Ce × Nat × Nat) :=
  (gI ce 7 3 this).bind fun zx1 =>
  (gA ce 7 2 this).bind fun zx2 =>
  (alen ce zx2).bind fun zx3 =>
  (
    if zx1 < zx3 then
      some ((), ce)
    else
      (it (fun (zs24 : Int32 × Ce) =>
        (gA zs24.2 7 2 this).bind fun zx30 =>
        (alen zs24.2 zx30).bind fun zx31 =>
        if zx31 ≤ zs24.1 then
          some (Sum.inr ((), zs24.2))
        else
          (gA zs24.2 7 2 this).bind fun zx32 =>
          (gA zs24.2 7 2 this).bind fun zx33 =>
          (aR "FencedStates$Search" zs24.2 zx33 zs24.1).bind fun zx34 =>
          (sR "FencedStates$Search" 6 zs24.2 zx32 (zs24.1 - (1 : Int32)) zx34).bind fun zc35 =>
          some (Sum.inl ((zs24.1 + (1 : Int32)), zc35))
      ) FU ((1 : Int32), ce)).bind fun (zo25 : Unit × Ce) =>
      (gA zo25.2 7 2 this).bind fun zx27 =>
      (alen zo25.2 zx27).bind fun zx28 =>
      (pV zo25.2 7 3 this (.int (zx28 - (1 : Int32)))).bind fun zc29 =>
      some ((), zc29)
  ).bind fun (zj4 : Unit × Ce) =>
  adcK 1 15 fun _ =>
  (some (gx_up zj4.2 nx (.inr (6, df_X8)))).bind fun zc6 =>
  (gA zc6 7 4 this).bind fun zx7 =>
  (gA zc6 6 0 zx7).bind fun zx8 =>
  adcB (m_X8_init (nx + 1) zc6 nx zx8) fun zq9 =>
  (gA zq9.2.1 7 4 this).bind fun zx11 =>
  (rcv zq9.2.1 6 nx).bind fun zz12 =>
  adcB (m_X8_become ((nx + 1) + zq9.2.2.1) zq9.2.1 nx zx11) fun zq13 =>
  (gA zq13.2.1 7 2 this).bind fun zx15 =>
  (gI zq13.2.1 7 3 this).bind fun zx16 =>
  (sR "FencedStates$Search" 6 zq13.2.1 zx15 zx16 (some nx)).bind fun zc17 =>
  (gI zc17 7 3 this).bind fun zx18 =>
  (pV zc17 7 3 this (.int (zx18 + (1 : Int32)))).bind fun zc19 =>
  some ((), zc19, 0, 0)
set_option maxRecDepth 100000 in
set_option maxHeartbeats 4000000 in
theorem c_X10_remember {nx : Nat} {ce : Ce} {this : Nat} {q : Unit × Ce × Nat × Nat} (hr : m_X10_remember nx ce this = some q) : Ct yX10_remember cX10_remember 2 none 5 145 q.2.2.1 q.2.2.2 [.ref this] nx ce none q.2.1 := by
  unfold m_X10_remember at hr
  refine ct_of (by decide) (Nat.le_of_ble_eq_true rfl) ?_
  intro G C hq hret hin
  show Jd G q.2.2.1 q.2.2.2 nx ce 0 [(0, .ref this)] []
  refine j_aload_n (q := 0) (pc' := 1) C dX10_remember_0 rfl rfl rfl ?_
  obtain ⟨zx1, hzx1, hr⟩ := ob hr
  refine j_getI (pc' := 4) C dX10_remember_1 fl_X10_34 hzx1 rfl ?_
  refine j_aload_n (q := 0) (pc' := 5) C dX10_remember_4 rfl rfl rfl ?_
  obtain ⟨zx2, hzx2, hr⟩ := ob hr
  refine j_getA (pc' := 8) C dX10_remember_5 fl_X10_19 hzx2 rfl ?_
  obtain ⟨zx3, hzx3, hr⟩ := ob hr
  refine j_alen (pc' := 9) C dX10_remember_8 hzx3 rfl ?_
  obtain ⟨zj4, hzj4, rzj4⟩ := ob hr
  have kzj4 : Jd G q.2.2.1 q.2.2.2 nx zj4.2 54 [(0, .ref this)] [] := by
    have hr := rzj4
    obtain ⟨zt5, hr, azt5, bzt5, czt5, dzt5⟩ := adcK_s hr
    obtain ⟨zc6, hzc6, hr⟩ := ob hr
    have hzc6 := Option.some.inj hzc6
    refine j_k (kc' := zt5.2.2.1 + 1) (ks' := zt5.2.2.2 + 15) (by omega) (by omega) ?_
    refine j_new (ci := 6) (N := 15) (C0 := RX8) (T := TX8) (ty := tyX8) (fs := df_X8) (pc' := 57) C dX10_remember_54 rfl iw_X8 tyX8_ok wm_265 wm_267 wm_129 dv_X8 rfl ?_
    rw [hzc6]
    refine j_dup (pc' := 58) C dX10_remember_57 rfl rfl ?_
    refine j_aload_n (q := 0) (pc' := 59) C dX10_remember_58 rfl rfl rfl ?_
    obtain ⟨zx7, hzx7, hr⟩ := ob hr
    refine j_getA (pc' := 62) C dX10_remember_59 fl_X10_26 hzx7 rfl ?_
    obtain ⟨zx8, hzx8, hr⟩ := ob hr
    refine j_getA (pc' := 65) C dX10_remember_62 fl_X10_41 hzx8 rfl ?_
    obtain ⟨zq9, zt10, hzq9, hr, azt10, bzt10, czt10, dzt10⟩ := adcB_s hr
    refine j_k (kc' := zt10.2.2.1 + zq9.2.2.1) (ks' := zt10.2.2.2 + zq9.2.2.2) (by omega) (by omega) ?_
    refine j_callIA (As := [.ref zx8]) (rest := [.ref nx]) (st1 := [.ref nx]) (pc' := 68) C wm_269 rfl (c_X8_init hzq9) yw_X8_init wm_268 rfl rfl (Nat.le_of_ble_eq_true rfl) ⟨by decide, by decide⟩ dX10_remember_65 rfl rfl ?_
    refine j_astore_n (lv' := [(1, .ref nx), (0, .ref this)]) (pc' := 69) C dX10_remember_68 rfl (by decide) rfl rfl ?_
    refine j_aload_n (q := 0) (pc' := 70) C dX10_remember_69 rfl rfl rfl ?_
    refine j_aload_n (q := 1) (pc' := 71) C dX10_remember_70 rfl rfl rfl ?_
    obtain ⟨zx11, hzx11, hr⟩ := ob hr
    refine j_getA (pc' := 74) C dX10_remember_71 fl_X10_26 hzx11 rfl ?_
    obtain ⟨zz12, hzz12, hr⟩ := ob hr
    obtain ⟨zq13, zt14, hzq13, hr, azt14, bzt14, czt14, dzt14⟩ := adcB_s hr
    refine j_k (kc' := zt14.2.2.1 + zq13.2.2.1) (ks' := zt14.2.2.2 + zq13.2.2.2) (by omega) (by omega) ?_
    obtain ⟨fhzz12, hzz12⟩ := rcv_sp hzz12
    refine j_callVA (ci := 6) (As := [.ref zx11]) (rest := []) (st1 := []) (pc' := 77) C ⟨wm_731, wm_732⟩ rfl hzz12 (c_X8_become hzq13) yw_X8_become wm_730 rfl rfl (Nat.le_of_ble_eq_true rfl) ⟨by decide, by decide⟩ dX10_remember_74 rfl rfl ?_
    refine j_aload_n (q := 1) (pc' := 78) C dX10_remember_77 rfl rfl rfl ?_
    obtain ⟨zx15, hzx15, hr⟩ := ob hr
    refine j_getA (pc' := 81) C dX10_remember_78 fl_X10_19 hzx15 rfl ?_
    refine j_aload_n (q := 1) (pc' := 82) C dX10_remember_81 rfl rfl rfl ?_
    obtain ⟨zx16, hzx16, hr⟩ := ob hr
    refine j_getI (pc' := 85) C dX10_remember_82 fl_X10_34 hzx16 rfl ?_
    refine j_aload_n (q := 0) (pc' := 86) C dX10_remember_85 rfl rfl rfl ?_
    obtain ⟨zc17, hzc17, hr⟩ := ob hr
    refine j_aastS (x := (some nx)) (pc' := 87) C dX10_remember_86 hzc17 rfl ?_
    refine j_aload_n (q := 1) (pc' := 88) C dX10_remember_87 rfl rfl rfl ?_
    refine j_dup (pc' := 89) C dX10_remember_88 rfl rfl ?_
    obtain ⟨zx18, hzx18, hr⟩ := ob hr
    refine j_getI (pc' := 92) C dX10_remember_89 fl_X10_34 hzx18 rfl ?_
    refine j_iconst (v := 1) (pc' := 93) C dX10_remember_92 kI_1 rfl ?_
    refine j_iadd (pc' := 94) C dX10_remember_93 rfl ?_
    obtain ⟨zc19, hzc19, hr⟩ := ob hr
    refine j_put (pc' := 97) C dX10_remember_94 fw_X10_34 rfl rfl hzc19 rfl ?_
    obtain ⟨azf20, bzf21, czf22, dzf23⟩ := some4 hr
    refine j_k (kc' := 0) (ks' := 0) (by omega) (by omega) ?_
    rw [show nx + q.2.2.1 = (((nx + 1) + zq9.2.2.1) + zq13.2.2.1) by omega, (bzt5.trans (bzt10.trans (bzt14.trans bzf21)))] at hq
    exact j_vret C hq hret dX10_remember_97
  clear rzj4
  have hr := hzj4
  clear hzj4
  refine j_ic_lt (tgt := 54) (pc' := 12) C dX10_remember_9 rfl rfl (fun hc => ?_) (fun hc => ?_)
  · have hr := ifT hc hr
    clear hc
    have hr := Option.some.inj hr
    subst hr
    exact j_lv [0] rfl kzj4
  · have hr := ifF hc hr
    clear hc
    refine j_iconst (v := 1) (pc' := 13) C dX10_remember_12 kI_1 rfl ?_
    refine j_istore_n (lv' := [(1, .int (1 : Int32)), (0, .ref this)]) (pc' := 14) C dX10_remember_13 rfl (by decide) rfl rfl ?_
    obtain ⟨zo25, hzo25, rzo25⟩ := ob hr
    have kzo25 : Jd G q.2.2.1 q.2.2.2 nx zo25.2 43 [(0, .ref this)] [] := by
      have hr := rzo25
      refine j_aload_n (q := 0) (pc' := 44) C dX10_remember_43 rfl rfl rfl ?_
      refine j_aload_n (q := 0) (pc' := 45) C dX10_remember_44 rfl rfl rfl ?_
      obtain ⟨zx27, hzx27, hr⟩ := ob hr
      refine j_getA (pc' := 48) C dX10_remember_45 fl_X10_19 hzx27 rfl ?_
      obtain ⟨zx28, hzx28, hr⟩ := ob hr
      refine j_alen (pc' := 49) C dX10_remember_48 hzx28 rfl ?_
      refine j_iconst (v := 1) (pc' := 50) C dX10_remember_49 kI_1 rfl ?_
      refine j_isub (pc' := 51) C dX10_remember_50 rfl ?_
      obtain ⟨zc29, hzc29, hr⟩ := ob hr
      refine j_put (pc' := 54) C dX10_remember_51 fw_X10_34 rfl rfl hzc29 rfl ?_
      have hr := Option.some.inj hr
      subst hr
      exact j_lv [0] rfl kzj4
    refine j_lv (lv' := [(0, .ref this), (1, .int (1 : Int32))]) [1, 0] rfl ?_
    refine it_J (J := (fun (zs24 : Int32 × Ce) => Jd G q.2.2.1 q.2.2.2 nx zs24.2 14 [(0, .ref this), (1, .int zs24.1)] [])) ?_ hzo25
    clear hzo25
    intro zs24 zr26 hr izs24 ezs24
    refine j_iload_n (q := 1) (pc' := 15) C dX10_remember_14 rfl rfl rfl ?_
    refine j_aload_n (q := 0) (pc' := 16) C dX10_remember_15 rfl rfl rfl ?_
    obtain ⟨zx30, hzx30, hr⟩ := ob hr
    refine j_getA (pc' := 19) C dX10_remember_16 fl_X10_19 hzx30 rfl ?_
    obtain ⟨zx31, hzx31, hr⟩ := ob hr
    refine j_alen (pc' := 20) C dX10_remember_19 hzx31 rfl ?_
    refine j_ic_ge (tgt := 43) (pc' := 23) C dX10_remember_20 rfl rfl (fun hc => ?_) (fun hc => ?_)
    · have hr := ifT hc hr
      clear hc
      have hr := ezs24 _ (Option.some.inj hr).symm
      subst hr
      exact j_lv [0] rfl kzo25
    · have hr := ifF hc hr
      clear hc
      refine j_aload_n (q := 0) (pc' := 24) C dX10_remember_23 rfl rfl rfl ?_
      obtain ⟨zx32, hzx32, hr⟩ := ob hr
      refine j_getA (pc' := 27) C dX10_remember_24 fl_X10_19 hzx32 rfl ?_
      refine j_iload_n (q := 1) (pc' := 28) C dX10_remember_27 rfl rfl rfl ?_
      refine j_iconst (v := 1) (pc' := 29) C dX10_remember_28 kI_1 rfl ?_
      refine j_isub (pc' := 30) C dX10_remember_29 rfl ?_
      refine j_aload_n (q := 0) (pc' := 31) C dX10_remember_30 rfl rfl rfl ?_
      obtain ⟨zx33, hzx33, hr⟩ := ob hr
      refine j_getA (pc' := 34) C dX10_remember_31 fl_X10_19 hzx33 rfl ?_
      refine j_iload_n (q := 1) (pc' := 35) C dX10_remember_34 rfl rfl rfl ?_
      obtain ⟨zx34, hzx34, hr⟩ := ob hr
      refine j_aaldS (pc' := 36) C dX10_remember_35 hzx34 rfl ?_
      obtain ⟨zc35, hzc35, hr⟩ := ob hr
      refine j_aastS (x := zx34) (pc' := 37) C dX10_remember_36 hzc35 rfl ?_
      refine j_iinc (q := 1) (v := 1) (lv' := [(1, .int (zs24.1 + (1 : Int32))), (0, .ref this)]) (pc' := 40) C dX10_remember_37 rfl kI_1 (by decide) rfl rfl ?_
      refine j_goto (tgt := 14) C dX10_remember_40 rfl ?_
      have hr := izs24 ((zs24.1 + (1 : Int32)), zc35) (Option.some.inj hr).symm
      exact j_lv [1, 0] rfl hr
def m_X10_takeBack (nx : Nat) (ce : Ce) (this : Nat) : Option (Int32 × Ce × Nat × Nat) :=
  (gI ce 7 3 this).bind fun zx1 =>
  if zx1 ≤ 0 then
    some ((-1 : Int32), ce, 0, 0)
  else
    (gI ce 7 3 this).bind fun zx6 =>
    (gA ce 7 2 this).bind fun zx7 =>
    (alen ce zx7).bind fun zx8 =>
    if zx6 ≤ zx8 then
      (gA ce 7 2 this).bind fun zx9 =>
      (gI ce 7 3 this).bind fun zx10 =>
      (aR "FencedStates$Search" ce zx9 (zx10 - (1 : Int32))).bind fun zx11 =>
      match zx11 with
      | none =>
        some ((-1 : Int32), ce, 0, 0)
      | some za16 =>
        (gI ce 7 3 this).bind fun zx17 =>
        (pV ce 7 3 this (.int (zx17 - (1 : Int32)))).bind fun zc18 =>
        (gA zc18 7 2 this).bind fun zx19 =>
        (gI zc18 7 3 this).bind fun zx20 =>
        (sR "FencedStates$Search" 6 zc18 zx19 zx20 none).bind fun zc21 =>
        (gA zc21 7 4 this).bind fun zx22 =>
        (rcv zc21 6 zx22).bind fun zz23 =>
        adcB (m_X8_become nx zc21 zx22 za16) fun zq24 =>
        (gI zq24.2.1 7 3 this).bind fun zx26 =>
        some (zx26, zq24.2.1, 0, 0)
    else
      some ((-1 : Int32), ce, 0, 0)
set_option maxRecDepth 100000 in
set_option maxHeartbeats 4000000 in
theorem c_X10_takeBack {nx : Nat} {ce : Ce} {this : Nat} {q : Int32 × Ce × Nat × Nat} (hr : m_X10_takeBack nx ce this = some q) : Ct yX10_takeBack cX10_takeBack 2 (some .int) 5 145 q.2.2.1 q.2.2.2 [.ref this] nx ce (some (.int q.1)) q.2.1 := by
  unfold m_X10_takeBack at hr
  refine ct_of (by decide) (Nat.le_of_ble_eq_true rfl) ?_
  intro G C hq hret hin
  show Jd G q.2.2.1 q.2.2.2 nx ce 0 [(0, .ref this)] []
  refine j_aload_n (q := 0) (pc' := 1) C dX10_takeBack_0 rfl rfl rfl ?_
  obtain ⟨zx1, hzx1, hr⟩ := ob hr
  refine j_getI (pc' := 4) C dX10_takeBack_1 fl_X10_34 hzx1 rfl ?_
  refine j_if_le (tgt := 19) (pc' := 7) C dX10_takeBack_4 rfl rfl (fun hc => ?_) (fun hc => ?_)
  · have hr := ifT hc hr
    clear hc
    refine j_iconst (v := -1) (pc' := 20) C dX10_takeBack_19 kI_m1 rfl ?_
    obtain ⟨azf2, bzf3, czf4, dzf5⟩ := some4 hr
    refine j_k (kc' := 0) (ks' := 0) (by omega) (by omega) ?_
    rw [show nx + q.2.2.1 = nx by omega, bzf3, azf2] at hq
    exact j_iret C hq hret dX10_takeBack_20
  · have hr := ifF hc hr
    clear hc
    refine j_aload_n (q := 0) (pc' := 8) C dX10_takeBack_7 rfl rfl rfl ?_
    obtain ⟨zx6, hzx6, hr⟩ := ob hr
    refine j_getI (pc' := 11) C dX10_takeBack_8 fl_X10_34 hzx6 rfl ?_
    refine j_aload_n (q := 0) (pc' := 12) C dX10_takeBack_11 rfl rfl rfl ?_
    obtain ⟨zx7, hzx7, hr⟩ := ob hr
    refine j_getA (pc' := 15) C dX10_takeBack_12 fl_X10_19 hzx7 rfl ?_
    obtain ⟨zx8, hzx8, hr⟩ := ob hr
    refine j_alen (pc' := 16) C dX10_takeBack_15 hzx8 rfl ?_
    refine j_ic_le (tgt := 21) (pc' := 19) C dX10_takeBack_16 rfl rfl (fun hc => ?_) (fun hc => ?_)
    · have hr := ifT hc hr
      clear hc
      refine j_aload_n (q := 0) (pc' := 22) C dX10_takeBack_21 rfl rfl rfl ?_
      obtain ⟨zx9, hzx9, hr⟩ := ob hr
      refine j_getA (pc' := 25) C dX10_takeBack_22 fl_X10_19 hzx9 rfl ?_
      refine j_aload_n (q := 0) (pc' := 26) C dX10_takeBack_25 rfl rfl rfl ?_
      obtain ⟨zx10, hzx10, hr⟩ := ob hr
      refine j_getI (pc' := 29) C dX10_takeBack_26 fl_X10_34 hzx10 rfl ?_
      refine j_iconst (v := 1) (pc' := 30) C dX10_takeBack_29 kI_1 rfl ?_
      refine j_isub (pc' := 31) C dX10_takeBack_30 rfl ?_
      obtain ⟨zx11, hzx11, hr⟩ := ob hr
      refine j_aaldS (pc' := 32) C dX10_takeBack_31 hzx11 rfl ?_
      refine j_qstore_n (lv' := [(1, va_rf zx11), (0, .ref this)]) (pc' := 33) C dX10_takeBack_32 rfl (by decide) rfl rfl ?_
      refine j_qload_n (q := 0) (pc' := 34) C dX10_takeBack_33 rfl rfl rfl ?_
      refine j_ifnonnull (tgt := 39) (pc' := 37) C dX10_takeBack_34 rfl rfl (fun za16 hc => ?_) (fun hc => ?_)
      · subst hc
        refine j_aload_n (q := 1) (pc' := 40) C dX10_takeBack_39 rfl rfl rfl ?_
        refine j_dup (pc' := 41) C dX10_takeBack_40 rfl rfl ?_
        obtain ⟨zx17, hzx17, hr⟩ := ob hr
        refine j_getI (pc' := 44) C dX10_takeBack_41 fl_X10_34 hzx17 rfl ?_
        refine j_iconst (v := 1) (pc' := 45) C dX10_takeBack_44 kI_1 rfl ?_
        refine j_isub (pc' := 46) C dX10_takeBack_45 rfl ?_
        obtain ⟨zc18, hzc18, hr⟩ := ob hr
        refine j_put (pc' := 49) C dX10_takeBack_46 fw_X10_34 rfl rfl hzc18 rfl ?_
        refine j_aload_n (q := 1) (pc' := 50) C dX10_takeBack_49 rfl rfl rfl ?_
        obtain ⟨zx19, hzx19, hr⟩ := ob hr
        refine j_getA (pc' := 53) C dX10_takeBack_50 fl_X10_19 hzx19 rfl ?_
        refine j_aload_n (q := 1) (pc' := 54) C dX10_takeBack_53 rfl rfl rfl ?_
        obtain ⟨zx20, hzx20, hr⟩ := ob hr
        refine j_getI (pc' := 57) C dX10_takeBack_54 fl_X10_34 hzx20 rfl ?_
        refine j_null (pc' := 58) C dX10_takeBack_57 rfl ?_
        obtain ⟨zc21, hzc21, hr⟩ := ob hr
        refine j_aastS (x := none) (pc' := 59) C dX10_takeBack_58 hzc21 rfl ?_
        refine j_aload_n (q := 1) (pc' := 60) C dX10_takeBack_59 rfl rfl rfl ?_
        obtain ⟨zx22, hzx22, hr⟩ := ob hr
        refine j_getA (pc' := 63) C dX10_takeBack_60 fl_X10_26 hzx22 rfl ?_
        refine j_aload_n (q := 0) (pc' := 64) C dX10_takeBack_63 rfl rfl rfl ?_
        obtain ⟨zz23, hzz23, hr⟩ := ob hr
        obtain ⟨zq24, zt25, hzq24, hr, azt25, bzt25, czt25, dzt25⟩ := adcB_s hr
        refine j_k (kc' := zt25.2.2.1 + zq24.2.2.1) (ks' := zt25.2.2.2 + zq24.2.2.2) (by omega) (by omega) ?_
        obtain ⟨fhzz23, hzz23⟩ := rcv_sp hzz23
        refine j_callVA (ci := 6) (As := [.ref za16]) (rest := []) (st1 := []) (pc' := 67) C ⟨wm_731, wm_732⟩ rfl hzz23 (c_X8_become hzq24) yw_X8_become wm_730 rfl rfl (Nat.le_of_ble_eq_true rfl) ⟨by decide, by decide⟩ dX10_takeBack_64 rfl rfl ?_
        refine j_aload_n (q := 1) (pc' := 68) C dX10_takeBack_67 rfl rfl rfl ?_
        obtain ⟨zx26, hzx26, hr⟩ := ob hr
        refine j_getI (pc' := 71) C dX10_takeBack_68 fl_X10_34 hzx26 rfl ?_
        obtain ⟨azf27, bzf28, czf29, dzf30⟩ := some4 hr
        refine j_k (kc' := 0) (ks' := 0) (by omega) (by omega) ?_
        rw [show nx + q.2.2.1 = (nx + zq24.2.2.1) by omega, (bzt25.trans bzf28), (azt25.trans azf27)] at hq
        exact j_iret C hq hret dX10_takeBack_71
      · subst hc
        refine j_iconst (v := -1) (pc' := 38) C dX10_takeBack_37 kI_m1 rfl ?_
        obtain ⟨azf12, bzf13, czf14, dzf15⟩ := some4 hr
        refine j_k (kc' := 0) (ks' := 0) (by omega) (by omega) ?_
        rw [show nx + q.2.2.1 = nx by omega, bzf13, azf12] at hq
        exact j_iret C hq hret dX10_takeBack_38
    · have hr := ifF hc hr
      clear hc
      refine j_iconst (v := -1) (pc' := 20) C dX10_takeBack_19 kI_m1 rfl ?_
      obtain ⟨azf31, bzf32, czf33, dzf34⟩ := some4 hr
      refine j_k (kc' := 0) (ks' := 0) (by omega) (by omega) ?_
      rw [show nx + q.2.2.1 = nx by omega, bzf32, azf31] at hq
      exact j_iret C hq hret dX10_takeBack_20
def m_X11_init (nx : Nat) (ce : Ce) (this : Nat) : Option (Unit × Ce × Nat × Nat) :=
  (nwa (300 : Int32)).bind fun zk3 =>
  adcK 1 zk3 fun _ =>
  (some (gx_up ce nx (.inl (.byte, zk3, .inl (fun _ => 0))))).bind fun zc2 =>
  (pV zc2 8 0 this (.ref nx)).bind fun zc4 =>
  (pV zc4 8 4 this (.int (-1 : Int32))).bind fun zc5 =>
  adcK 1 15 fun _ =>
  (some (gx_up zc5 (nx + 1) (.inr (5, df_X7)))).bind fun zc7 =>
  adcB (m_X7_init ((nx + 1) + 1) zc7 (nx + 1)) fun zq8 =>
  (pV zq8.2.1 8 5 this (.ref (nx + 1))).bind fun zc10 =>
  adcB (m_X5_plain (((nx + 1) + 1) + zq8.2.2.1) zc10 ) fun zq11 =>
  adcK 1 5 fun _ =>
  (some (gx_up zq11.2.1 ((((nx + 1) + 1) + zq8.2.2.1) + zq11.2.2.1) (.inr (7, df_X10)))).bind fun zc14 =>
  adcB (m_X10_init (((((nx + 1) + 1) + zq8.2.2.1) + zq11.2.2.1) + 1) zc14 ((((nx + 1) + 1) + zq8.2.2.1) + zq11.2.2.1) zq11.1) fun zq15 =>
  (pV zq15.2.1 8 6 this (.ref ((((nx + 1) + 1) + zq8.2.2.1) + zq11.2.2.1))).bind fun zc17 =>
  adcK 1 5 fun _ =>
  (some (gx_up zc17 ((((((nx + 1) + 1) + zq8.2.2.1) + zq11.2.2.1) + 1) + zq15.2.2.1) (.inr (7, df_X10)))).bind fun zc19 =>
  adcB (m_X10_init (((((((nx + 1) + 1) + zq8.2.2.1) + zq11.2.2.1) + 1) + zq15.2.2.1) + 1) zc19 ((((((nx + 1) + 1) + zq8.2.2.1) + zq11.2.2.1) + 1) + zq15.2.2.1) zq11.1) fun zq20 =>
  (pV zq20.2.1 8 7 this (.ref ((((((nx + 1) + 1) + zq8.2.2.1) + zq11.2.2.1) + 1) + zq15.2.2.1))).bind fun zc22 =>
  adcK 1 15 fun _ =>
  (some (gx_up zc22 ((((((((nx + 1) + 1) + zq8.2.2.1) + zq11.2.2.1) + 1) + zq15.2.2.1) + 1) + zq20.2.2.1) (.inr (6, df_X8)))).bind fun zc24 =>
  adcB (m_X8_init (((((((((nx + 1) + 1) + zq8.2.2.1) + zq11.2.2.1) + 1) + zq15.2.2.1) + 1) + zq20.2.2.1) + 1) zc24 ((((((((nx + 1) + 1) + zq8.2.2.1) + zq11.2.2.1) + 1) + zq15.2.2.1) + 1) + zq20.2.2.1) zq11.1) fun zq25 =>
  (pV zq25.2.1 8 8 this (.ref ((((((((nx + 1) + 1) + zq8.2.2.1) + zq11.2.2.1) + 1) + zq15.2.2.1) + 1) + zq20.2.2.1))).bind fun zc27 =>
  adcK 1 4 fun _ =>
  (some (gx_up zc27 ((((((((((nx + 1) + 1) + zq8.2.2.1) + zq11.2.2.1) + 1) + zq15.2.2.1) + 1) + zq20.2.2.1) + 1) + zq25.2.2.1) (.inr (2, df_X2)))).bind fun zc29 =>
  adcB (m_X2_init (((((((((((nx + 1) + 1) + zq8.2.2.1) + zq11.2.2.1) + 1) + zq15.2.2.1) + 1) + zq20.2.2.1) + 1) + zq25.2.2.1) + 1) zc29 ((((((((((nx + 1) + 1) + zq8.2.2.1) + zq11.2.2.1) + 1) + zq15.2.2.1) + 1) + zq20.2.2.1) + 1) + zq25.2.2.1)) fun zq30 =>
  (pV zq30.2.1 8 9 this (.ref ((((((((((nx + 1) + 1) + zq8.2.2.1) + zq11.2.2.1) + 1) + zq15.2.2.1) + 1) + zq20.2.2.1) + 1) + zq25.2.2.1))).bind fun zc32 =>
  adcK 1 2 fun _ =>
  (some (gx_up zc32 ((((((((((((nx + 1) + 1) + zq8.2.2.1) + zq11.2.2.1) + 1) + zq15.2.2.1) + 1) + zq20.2.2.1) + 1) + zq25.2.2.1) + 1) + zq30.2.2.1) (.inr (1, df_X1)))).bind fun zc34 =>
  adcB (m_X1_init (((((((((((((nx + 1) + 1) + zq8.2.2.1) + zq11.2.2.1) + 1) + zq15.2.2.1) + 1) + zq20.2.2.1) + 1) + zq25.2.2.1) + 1) + zq30.2.2.1) + 1) zc34 ((((((((((((nx + 1) + 1) + zq8.2.2.1) + zq11.2.2.1) + 1) + zq15.2.2.1) + 1) + zq20.2.2.1) + 1) + zq25.2.2.1) + 1) + zq30.2.2.1)) fun zq35 =>
  (pV zq35.2.1 8 10 this (.ref ((((((((((((nx + 1) + 1) + zq8.2.2.1) + zq11.2.2.1) + 1) + zq15.2.2.1) + 1) + zq20.2.2.1) + 1) + zq25.2.2.1) + 1) + zq30.2.2.1))).bind fun zc37 =>
  (nwa (128 : Int32)).bind fun zk40 =>
  adcK 1 zk40 fun _ =>
  (some (gx_up zc37 ((((((((((((((nx + 1) + 1) + zq8.2.2.1) + zq11.2.2.1) + 1) + zq15.2.2.1) + 1) + zq20.2.2.1) + 1) + zq25.2.2.1) + 1) + zq30.2.2.1) + 1) + zq35.2.2.1) (.inl (.int, zk40, .inl (fun _ => 0))))).bind fun zc39 =>
  (pV zc39 8 11 this (.ref ((((((((((((((nx + 1) + 1) + zq8.2.2.1) + zq11.2.2.1) + 1) + zq15.2.2.1) + 1) + zq20.2.2.1) + 1) + zq25.2.2.1) + 1) + zq30.2.2.1) + 1) + zq35.2.2.1))).bind fun zc41 =>
  (nwa (64 : Int32)).bind fun zk44 =>
  adcK 1 zk44 fun _ =>
  (some (gx_up zc41 (((((((((((((((nx + 1) + 1) + zq8.2.2.1) + zq11.2.2.1) + 1) + zq15.2.2.1) + 1) + zq20.2.2.1) + 1) + zq25.2.2.1) + 1) + zq30.2.2.1) + 1) + zq35.2.2.1) + 1) (.inl (.long, zk44, .inr (.inl (fun _ => 0)))))).bind fun zc43 =>
  (pV zc43 8 12 this (.ref (((((((((((((((nx + 1) + 1) + zq8.2.2.1) + zq11.2.2.1) + 1) + zq15.2.2.1) + 1) + zq20.2.2.1) + 1) + zq25.2.2.1) + 1) + zq30.2.2.1) + 1) + zq35.2.2.1) + 1))).bind fun zc45 =>
  some ((), zc45, 0, 0)
set_option maxRecDepth 100000 in
set_option maxHeartbeats 4000000 in
theorem c_X11_init {nx : Nat} {ce : Ce} {this : Nat} {q : Unit × Ce × Nat × Nat} (hr : m_X11_init nx ce this = some q) : Ct yX11_init cX11_init 2 none 4 82 q.2.2.1 q.2.2.2 [.ref this] nx ce none q.2.1 := by
  unfold m_X11_init at hr
  refine ct_of (by decide) (Nat.le_of_ble_eq_true rfl) ?_
  intro G C hq hret hin
  show Jd G q.2.2.1 q.2.2.2 nx ce 0 [(0, .ref this)] []
  refine j_aload_n (q := 0) (pc' := 1) C dX11_init_0 rfl rfl rfl ?_
  refine j_objInit (pc' := 4) C dX11_init_1 wm_156 wm_157 wm_oi ⟨by decide, by decide⟩ (Nat.le_of_ble_eq_true rfl) rfl ?_
  refine j_aload_n (q := 0) (pc' := 5) C dX11_init_4 rfl rfl rfl ?_
  refine j_sipush (v := 300) (pc' := 8) C dX11_init_5 kS_300 rfl ?_
  obtain ⟨zk3, hzk3, hr⟩ := ob hr
  obtain ⟨nzk3, ezk3, bzk3⟩ := nwa_sp hzk3
  obtain ⟨zt1, hr, azt1, bzt1, czt1, dzt1⟩ := adcK_s hr
  obtain ⟨zc2, hzc2, hr⟩ := ob hr
  have hzc2 := Option.some.inj hzc2
  refine j_k (kc' := zt1.2.2.1 + 1) (ks' := zt1.2.2.2 + zk3) (by omega) (by omega) ?_
  refine j_newa (ty := .byte) (t0 := 3) (a0 := (zk3, .inl (fun _ => 0))) (N := zk3) (pc' := 10) C dX11_init_8 rfl (fun _ => rfl) (fun _ _ => rfl) wm_213 (fun _ => rfl) nzk3 ezk3 (Nat.le_trans (Nat.mul_le_mul_left _ (by decide)) bzk3) rfl ?_
  rw [hzc2]
  obtain ⟨zc4, hzc4, hr⟩ := ob hr
  refine j_putF (pc' := 13) C hin dX11_init_10 fw_X11_9 rfl rfl hzc4 rfl ?_
  refine j_aload_n (q := 0) (pc' := 14) C dX11_init_13 rfl rfl rfl ?_
  refine j_iconst (v := -1) (pc' := 15) C dX11_init_14 kI_m1 rfl ?_
  obtain ⟨zc5, hzc5, hr⟩ := ob hr
  refine j_put (pc' := 18) C dX11_init_15 fw_X11_13 rfl rfl hzc5 rfl ?_
  refine j_aload_n (q := 0) (pc' := 19) C dX11_init_18 rfl rfl rfl ?_
  obtain ⟨zt6, hr, azt6, bzt6, czt6, dzt6⟩ := adcK_s hr
  obtain ⟨zc7, hzc7, hr⟩ := ob hr
  have hzc7 := Option.some.inj hzc7
  refine j_k (kc' := zt6.2.2.1 + 1) (ks' := zt6.2.2.2 + 15) (by omega) (by omega) ?_
  refine j_new (ci := 5) (N := 15) (C0 := RX7) (T := TX7) (ty := tyX7) (fs := df_X7) (pc' := 22) C dX11_init_19 rfl iw_X7 tyX7_ok wm_159 wm_160 wm_126 dv_X7 rfl ?_
  rw [hzc7]
  refine j_dup (pc' := 23) C dX11_init_22 rfl rfl ?_
  obtain ⟨zq8, zt9, hzq8, hr, azt9, bzt9, czt9, dzt9⟩ := adcB_s hr
  refine j_k (kc' := zt9.2.2.1 + zq8.2.2.1) (ks' := zt9.2.2.2 + zq8.2.2.2) (by omega) (by omega) ?_
  refine j_callIA (As := []) (rest := [.ref (nx + 1), .ref this]) (st1 := [.ref (nx + 1), .ref this]) (pc' := 26) C wm_162 rfl (c_X7_init hzq8) yw_X7_init wm_161 rfl rfl (Nat.le_of_ble_eq_true rfl) ⟨by decide, by decide⟩ dX11_init_23 rfl rfl ?_
  obtain ⟨zc10, hzc10, hr⟩ := ob hr
  refine j_putF (pc' := 29) C hin dX11_init_26 fw_X11_20 rfl rfl hzc10 rfl ?_
  obtain ⟨zq11, zt12, hzq11, hr, azt12, bzt12, czt12, dzt12⟩ := adcB_s hr
  refine j_k (kc' := zt12.2.2.1 + zq11.2.2.1) (ks' := zt12.2.2.2 + zq11.2.2.2) (by omega) (by omega) ?_
  refine j_callSA (As := []) (rest := []) (st1 := [.ref zq11.1]) (pc' := 32) C wm_217 (c_X5_plain hzq11) yw_X5_plain wm_216 rfl rfl (Nat.le_of_ble_eq_true rfl) ⟨by decide, by decide⟩ dX11_init_29 rfl rfl ?_
  refine j_astore_n (lv' := [(1, .ref zq11.1), (0, .ref this)]) (pc' := 33) C dX11_init_32 rfl (by decide) rfl rfl ?_
  refine j_aload_n (q := 1) (pc' := 34) C dX11_init_33 rfl rfl rfl ?_
  obtain ⟨zt13, hr, azt13, bzt13, czt13, dzt13⟩ := adcK_s hr
  obtain ⟨zc14, hzc14, hr⟩ := ob hr
  have hzc14 := Option.some.inj hzc14
  refine j_k (kc' := zt13.2.2.1 + 1) (ks' := zt13.2.2.2 + 5) (by omega) (by omega) ?_
  refine j_new (ci := 7) (N := 5) (C0 := RX10) (T := TX10) (ty := tyX10) (fs := df_X10) (pc' := 37) C dX11_init_34 rfl iw_X10 tyX10_ok wm_257 wm_258 wm_128 dv_X10 rfl ?_
  rw [hzc14]
  refine j_dup (pc' := 38) C dX11_init_37 rfl rfl ?_
  refine j_aload_n (q := 0) (pc' := 39) C dX11_init_38 rfl rfl rfl ?_
  obtain ⟨zq15, zt16, hzq15, hr, azt16, bzt16, czt16, dzt16⟩ := adcB_s hr
  refine j_k (kc' := zt16.2.2.1 + zq15.2.2.1) (ks' := zt16.2.2.2 + zq15.2.2.2) (by omega) (by omega) ?_
  refine j_callIA (As := [.ref zq11.1]) (rest := [.ref ((((nx + 1) + 1) + zq8.2.2.1) + zq11.2.2.1), .ref this]) (st1 := [.ref ((((nx + 1) + 1) + zq8.2.2.1) + zq11.2.2.1), .ref this]) (pc' := 42) C wm_260 rfl (c_X10_init hzq15) yw_X10_init wm_259 rfl rfl (Nat.le_of_ble_eq_true rfl) ⟨by decide, by decide⟩ dX11_init_39 rfl rfl ?_
  obtain ⟨zc17, hzc17, hr⟩ := ob hr
  refine j_putF (pc' := 45) C hin dX11_init_42 fw_X11_35 rfl rfl hzc17 rfl ?_
  refine j_aload_n (q := 1) (pc' := 46) C dX11_init_45 rfl rfl rfl ?_
  obtain ⟨zt18, hr, azt18, bzt18, czt18, dzt18⟩ := adcK_s hr
  obtain ⟨zc19, hzc19, hr⟩ := ob hr
  have hzc19 := Option.some.inj hzc19
  refine j_k (kc' := zt18.2.2.1 + 1) (ks' := zt18.2.2.2 + 5) (by omega) (by omega) ?_
  refine j_new (ci := 7) (N := 5) (C0 := RX10) (T := TX10) (ty := tyX10) (fs := df_X10) (pc' := 49) C dX11_init_46 rfl iw_X10 tyX10_ok wm_257 wm_258 wm_128 dv_X10 rfl ?_
  rw [hzc19]
  refine j_dup (pc' := 50) C dX11_init_49 rfl rfl ?_
  refine j_aload_n (q := 0) (pc' := 51) C dX11_init_50 rfl rfl rfl ?_
  obtain ⟨zq20, zt21, hzq20, hr, azt21, bzt21, czt21, dzt21⟩ := adcB_s hr
  refine j_k (kc' := zt21.2.2.1 + zq20.2.2.1) (ks' := zt21.2.2.2 + zq20.2.2.2) (by omega) (by omega) ?_
  refine j_callIA (As := [.ref zq11.1]) (rest := [.ref ((((((nx + 1) + 1) + zq8.2.2.1) + zq11.2.2.1) + 1) + zq15.2.2.1), .ref this]) (st1 := [.ref ((((((nx + 1) + 1) + zq8.2.2.1) + zq11.2.2.1) + 1) + zq15.2.2.1), .ref this]) (pc' := 54) C wm_260 rfl (c_X10_init hzq20) yw_X10_init wm_259 rfl rfl (Nat.le_of_ble_eq_true rfl) ⟨by decide, by decide⟩ dX11_init_51 rfl rfl ?_
  obtain ⟨zc22, hzc22, hr⟩ := ob hr
  refine j_putF (pc' := 57) C hin dX11_init_54 fw_X11_39 rfl rfl hzc22 rfl ?_
  refine j_aload_n (q := 1) (pc' := 58) C dX11_init_57 rfl rfl rfl ?_
  obtain ⟨zt23, hr, azt23, bzt23, czt23, dzt23⟩ := adcK_s hr
  obtain ⟨zc24, hzc24, hr⟩ := ob hr
  have hzc24 := Option.some.inj hzc24
  refine j_k (kc' := zt23.2.2.1 + 1) (ks' := zt23.2.2.2 + 15) (by omega) (by omega) ?_
  refine j_new (ci := 6) (N := 15) (C0 := RX8) (T := TX8) (ty := tyX8) (fs := df_X8) (pc' := 61) C dX11_init_58 rfl iw_X8 tyX8_ok wm_406 wm_267 wm_129 dv_X8 rfl ?_
  rw [hzc24]
  refine j_dup (pc' := 62) C dX11_init_61 rfl rfl ?_
  refine j_aload_n (q := 0) (pc' := 63) C dX11_init_62 rfl rfl rfl ?_
  obtain ⟨zq25, zt26, hzq25, hr, azt26, bzt26, czt26, dzt26⟩ := adcB_s hr
  refine j_k (kc' := zt26.2.2.1 + zq25.2.2.1) (ks' := zt26.2.2.2 + zq25.2.2.2) (by omega) (by omega) ?_
  refine j_callIA (As := [.ref zq11.1]) (rest := [.ref ((((((((nx + 1) + 1) + zq8.2.2.1) + zq11.2.2.1) + 1) + zq15.2.2.1) + 1) + zq20.2.2.1), .ref this]) (st1 := [.ref ((((((((nx + 1) + 1) + zq8.2.2.1) + zq11.2.2.1) + 1) + zq15.2.2.1) + 1) + zq20.2.2.1), .ref this]) (pc' := 66) C wm_269 rfl (c_X8_init hzq25) yw_X8_init wm_407 rfl rfl (Nat.le_of_ble_eq_true rfl) ⟨by decide, by decide⟩ dX11_init_63 rfl rfl ?_
  obtain ⟨zc27, hzc27, hr⟩ := ob hr
  refine j_putF (pc' := 69) C hin dX11_init_66 fw_X11_45 rfl rfl hzc27 rfl ?_
  refine j_aload_n (q := 1) (pc' := 70) C dX11_init_69 rfl rfl rfl ?_
  obtain ⟨zt28, hr, azt28, bzt28, czt28, dzt28⟩ := adcK_s hr
  obtain ⟨zc29, hzc29, hr⟩ := ob hr
  have hzc29 := Option.some.inj hzc29
  refine j_k (kc' := zt28.2.2.1 + 1) (ks' := zt28.2.2.2 + 4) (by omega) (by omega) ?_
  refine j_new (ci := 2) (N := 4) (C0 := RX2) (T := TX2) (ty := tyX2) (fs := df_X2) (pc' := 73) C dX11_init_70 rfl iw_X2 tyX2_ok wm_408 wm_273 wm_130 dv_X2 rfl ?_
  rw [hzc29]
  refine j_dup (pc' := 74) C dX11_init_73 rfl rfl ?_
  obtain ⟨zq30, zt31, hzq30, hr, azt31, bzt31, czt31, dzt31⟩ := adcB_s hr
  refine j_k (kc' := zt31.2.2.1 + zq30.2.2.1) (ks' := zt31.2.2.2 + zq30.2.2.2) (by omega) (by omega) ?_
  refine j_callIA (As := []) (rest := [.ref ((((((((((nx + 1) + 1) + zq8.2.2.1) + zq11.2.2.1) + 1) + zq15.2.2.1) + 1) + zq20.2.2.1) + 1) + zq25.2.2.1), .ref this]) (st1 := [.ref ((((((((((nx + 1) + 1) + zq8.2.2.1) + zq11.2.2.1) + 1) + zq15.2.2.1) + 1) + zq20.2.2.1) + 1) + zq25.2.2.1), .ref this]) (pc' := 77) C wm_275 rfl (c_X2_init hzq30) yw_X2_init wm_409 rfl rfl (Nat.le_of_ble_eq_true rfl) ⟨by decide, by decide⟩ dX11_init_74 rfl rfl ?_
  obtain ⟨zc32, hzc32, hr⟩ := ob hr
  refine j_putF (pc' := 80) C hin dX11_init_77 fw_X11_52 rfl rfl hzc32 rfl ?_
  refine j_aload_n (q := 1) (pc' := 81) C dX11_init_80 rfl rfl rfl ?_
  obtain ⟨zt33, hr, azt33, bzt33, czt33, dzt33⟩ := adcK_s hr
  obtain ⟨zc34, hzc34, hr⟩ := ob hr
  have hzc34 := Option.some.inj hzc34
  refine j_k (kc' := zt33.2.2.1 + 1) (ks' := zt33.2.2.2 + 2) (by omega) (by omega) ?_
  refine j_new (ci := 1) (N := 2) (C0 := RX1) (T := TX1) (ty := tyX1) (fs := df_X1) (pc' := 84) C dX11_init_81 rfl iw_X1 tyX1_ok wm_410 wm_411 wm_133 dv_X1 rfl ?_
  rw [hzc34]
  refine j_dup (pc' := 85) C dX11_init_84 rfl rfl ?_
  obtain ⟨zq35, zt36, hzq35, hr, azt36, bzt36, czt36, dzt36⟩ := adcB_s hr
  refine j_k (kc' := zt36.2.2.1 + zq35.2.2.1) (ks' := zt36.2.2.2 + zq35.2.2.2) (by omega) (by omega) ?_
  refine j_callIA (As := []) (rest := [.ref ((((((((((((nx + 1) + 1) + zq8.2.2.1) + zq11.2.2.1) + 1) + zq15.2.2.1) + 1) + zq20.2.2.1) + 1) + zq25.2.2.1) + 1) + zq30.2.2.1), .ref this]) (st1 := [.ref ((((((((((((nx + 1) + 1) + zq8.2.2.1) + zq11.2.2.1) + 1) + zq15.2.2.1) + 1) + zq20.2.2.1) + 1) + zq25.2.2.1) + 1) + zq30.2.2.1), .ref this]) (pc' := 88) C wm_413 rfl (c_X1_init hzq35) yw_X1_init wm_412 rfl rfl (Nat.le_of_ble_eq_true rfl) ⟨by decide, by decide⟩ dX11_init_85 rfl rfl ?_
  obtain ⟨zc37, hzc37, hr⟩ := ob hr
  refine j_putF (pc' := 91) C hin dX11_init_88 fw_X11_59 rfl rfl hzc37 rfl ?_
  refine j_aload_n (q := 1) (pc' := 92) C dX11_init_91 rfl rfl rfl ?_
  refine j_sipush (v := 128) (pc' := 95) C dX11_init_92 kS_128 rfl ?_
  obtain ⟨zk40, hzk40, hr⟩ := ob hr
  obtain ⟨nzk40, ezk40, bzk40⟩ := nwa_sp hzk40
  obtain ⟨zt38, hr, azt38, bzt38, czt38, dzt38⟩ := adcK_s hr
  obtain ⟨zc39, hzc39, hr⟩ := ob hr
  have hzc39 := Option.some.inj hzc39
  refine j_k (kc' := zt38.2.2.1 + 1) (ks' := zt38.2.2.2 + zk40) (by omega) (by omega) ?_
  refine j_newa (ty := .int) (t0 := 0) (a0 := (zk40, .inl (fun _ => 0))) (N := zk40) (pc' := 97) C dX11_init_95 rfl (fun _ => rfl) (fun _ _ => rfl) wm_214 (fun _ => rfl) nzk40 ezk40 (Nat.le_trans (Nat.mul_le_mul_left _ (by decide)) bzk40) rfl ?_
  rw [hzc39]
  obtain ⟨zc41, hzc41, hr⟩ := ob hr
  refine j_putF (pc' := 100) C hin dX11_init_97 fw_X11_63 rfl rfl hzc41 rfl ?_
  refine j_aload_n (q := 1) (pc' := 101) C dX11_init_100 rfl rfl rfl ?_
  refine j_bipush (v := 64) (pc' := 103) C dX11_init_101 kB_64 rfl ?_
  obtain ⟨zk44, hzk44, hr⟩ := ob hr
  obtain ⟨nzk44, ezk44, bzk44⟩ := nwa_sp hzk44
  obtain ⟨zt42, hr, azt42, bzt42, czt42, dzt42⟩ := adcK_s hr
  obtain ⟨zc43, hzc43, hr⟩ := ob hr
  have hzc43 := Option.some.inj hzc43
  refine j_k (kc' := zt42.2.2.1 + 1) (ks' := zt42.2.2.2 + zk44) (by omega) (by omega) ?_
  refine j_newa (ty := .long) (t0 := 1) (a0 := (zk44, .inr (.inl (fun _ => 0)))) (N := zk44) (pc' := 105) C dX11_init_103 rfl (fun _ => rfl) (fun _ _ => rfl) wm_215 (fun _ => rfl) nzk44 ezk44 (Nat.le_trans (Nat.mul_le_mul_left _ (by decide)) bzk44) rfl ?_
  rw [hzc43]
  obtain ⟨zc45, hzc45, hr⟩ := ob hr
  refine j_putF (pc' := 108) C hin dX11_init_105 fw_X11_67 rfl rfl hzc45 rfl ?_
  obtain ⟨azf46, bzf47, czf48, dzf49⟩ := some4 hr
  refine j_k (kc' := 0) (ks' := 0) (by omega) (by omega) ?_
  rw [show nx + q.2.2.1 = ((((((((((((((((nx + 1) + 1) + zq8.2.2.1) + zq11.2.2.1) + 1) + zq15.2.2.1) + 1) + zq20.2.2.1) + 1) + zq25.2.2.1) + 1) + zq30.2.2.1) + 1) + zq35.2.2.1) + 1) + 1) by omega, (bzt1.trans (bzt6.trans (bzt9.trans (bzt12.trans (bzt13.trans (bzt16.trans (bzt18.trans (bzt21.trans (bzt23.trans (bzt26.trans (bzt28.trans (bzt31.trans (bzt33.trans (bzt36.trans (bzt38.trans (bzt42.trans bzf47))))))))))))))))] at hq
  exact j_vret C hq hret dX11_init_108
def m_X11_putBytes (ce : Ce) (this : Nat) (p1 : Int32) : Option (Unit × Ce) :=
  (it (fun (zs1 : Int32 × Ce) =>
    if zs1.1 < 0 then
      some (Sum.inr ((), zs1.2))
    else
      (gI zs1.2 8 1 this).bind fun zx4 =>
      if (300 : Int32) ≤ zx4 then
        some (Sum.inr ((), zs1.2))
      else
        (gA zs1.2 8 0 this).bind fun zx5 =>
        (gI zs1.2 8 1 this).bind fun zx6 =>
        (sB zs1.2 zx5 zx6 (Int8.toInt32 (Int32.toInt8 (usr32 p1 zs1.1)))).bind fun zc7 =>
        (gI zc7 8 1 this).bind fun zx8 =>
        (pV zc7 8 1 this (.int (zx8 + (1 : Int32)))).bind fun zc9 =>
        some (Sum.inl ((zs1.1 + (-8 : Int32)), zc9))
  ) FU ((24 : Int32), ce)).bind fun (zo2 : Unit × Ce) =>
  some ((), zo2.2)
set_option maxRecDepth 100000 in
set_option maxHeartbeats 4000000 in
theorem c_X11_putBytes {nx : Nat} {ce : Ce} {this : Nat} {p1 : Int32} {q : Unit × Ce} (hr : m_X11_putBytes ce this p1 = some q) : Ct yX11_putBytes cX11_putBytes 3 none 0 0 0 0 [.ref this, .int p1] nx ce none q.2 := by
  unfold m_X11_putBytes at hr
  refine ct_of (by decide) (Nat.le_of_ble_eq_true rfl) ?_
  intro G C hq hret hin
  show Jd G 0 0 nx ce 0 [(0, .ref this), (1, .int p1)] []
  refine j_bipush (v := 24) (pc' := 2) C dX11_putBytes_0 kB_24 rfl ?_
  refine j_istore_n (lv' := [(2, .int (24 : Int32)), (0, .ref this), (1, .int p1)]) (pc' := 3) C dX11_putBytes_2 rfl (by decide) rfl rfl ?_
  obtain ⟨zo2, hzo2, rzo2⟩ := ob hr
  have kzo2 : Jd G 0 0 nx zo2.2 46 [] [] := by
    have hr := rzo2
    have hr := Option.some.inj hr
    subst hr
    exact j_vret C hq hret dX11_putBytes_46
  refine j_lv (lv' := [(0, .ref this), (1, .int p1), (2, .int (24 : Int32))]) [1, 2, 0] rfl ?_
  refine it_J (J := (fun (zs1 : Int32 × Ce) => Jd G 0 0 nx zs1.2 3 [(0, .ref this), (1, .int p1), (2, .int zs1.1)] [])) ?_ hzo2
  clear hzo2
  intro zs1 zr3 hr izs1 ezs1
  refine j_iload_n (q := 2) (pc' := 4) C dX11_putBytes_3 rfl rfl rfl ?_
  refine j_if_lt (tgt := 46) (pc' := 7) C dX11_putBytes_4 rfl rfl (fun hc => ?_) (fun hc => ?_)
  · have hr := ifT hc hr
    clear hc
    have hr := ezs1 _ (Option.some.inj hr).symm
    subst hr
    exact j_lv [] rfl kzo2
  · have hr := ifF hc hr
    clear hc
    refine j_aload_n (q := 0) (pc' := 8) C dX11_putBytes_7 rfl rfl rfl ?_
    obtain ⟨zx4, hzx4, hr⟩ := ob hr
    refine j_getI (pc' := 11) C dX11_putBytes_8 fl_X11_71 hzx4 rfl ?_
    refine j_sipush (v := 300) (pc' := 14) C dX11_putBytes_11 kS_300 rfl ?_
    refine j_ic_ge (tgt := 46) (pc' := 17) C dX11_putBytes_14 rfl rfl (fun hc => ?_) (fun hc => ?_)
    · have hr := ifT hc hr
      clear hc
      have hr := ezs1 _ (Option.some.inj hr).symm
      subst hr
      exact j_lv [] rfl kzo2
    · have hr := ifF hc hr
      clear hc
      refine j_aload_n (q := 0) (pc' := 18) C dX11_putBytes_17 rfl rfl rfl ?_
      obtain ⟨zx5, hzx5, hr⟩ := ob hr
      refine j_getA (pc' := 21) C dX11_putBytes_18 fl_X11_9 hzx5 rfl ?_
      refine j_aload_n (q := 0) (pc' := 22) C dX11_putBytes_21 rfl rfl rfl ?_
      obtain ⟨zx6, hzx6, hr⟩ := ob hr
      refine j_getI (pc' := 25) C dX11_putBytes_22 fl_X11_71 hzx6 rfl ?_
      refine j_iload_n (q := 1) (pc' := 26) C dX11_putBytes_25 rfl rfl rfl ?_
      refine j_iload_n (q := 2) (pc' := 27) C dX11_putBytes_26 rfl rfl rfl ?_
      refine j_iushr (pc' := 28) C dX11_putBytes_27 rfl ?_
      refine j_i2b (pc' := 29) C dX11_putBytes_28 rfl ?_
      obtain ⟨zc7, hzc7, hr⟩ := ob hr
      refine j_bast (pc' := 30) C dX11_putBytes_29 hzc7 rfl ?_
      refine j_aload_n (q := 0) (pc' := 31) C dX11_putBytes_30 rfl rfl rfl ?_
      refine j_dup (pc' := 32) C dX11_putBytes_31 rfl rfl ?_
      obtain ⟨zx8, hzx8, hr⟩ := ob hr
      refine j_getI (pc' := 35) C dX11_putBytes_32 fl_X11_71 hzx8 rfl ?_
      refine j_iconst (v := 1) (pc' := 36) C dX11_putBytes_35 kI_1 rfl ?_
      refine j_iadd (pc' := 37) C dX11_putBytes_36 rfl ?_
      obtain ⟨zc9, hzc9, hr⟩ := ob hr
      refine j_put (pc' := 40) C dX11_putBytes_37 fw_X11_71 rfl rfl hzc9 rfl ?_
      refine j_iinc (q := 2) (v := -8) (lv' := [(2, .int (zs1.1 + (-8 : Int32))), (0, .ref this), (1, .int p1)]) (pc' := 43) C dX11_putBytes_40 rfl kI_m8 (by decide) rfl rfl ?_
      refine j_goto (tgt := 3) C dX11_putBytes_43 rfl ?_
      have hr := izs1 ((zs1.1 + (-8 : Int32)), zc9) (Option.some.inj hr).symm
      exact j_lv [1, 2, 0] rfl hr
def m_X11_feed (ce : Ce) (this : Nat) (p1 : Int32) (p2 : Int32) (p3 : Int32) (p4 : Int32) (p5 : Int32) : Option (Int32 × Ce) :=
  (gI ce 8 1 this).bind fun zx1 =>
  if (zx1 + (20 : Int32)) ≤ (300 : Int32) then
    (rcv ce 8 this).bind fun zz2 =>
    (m_X11_putBytes ce this p1).bind fun zq3 =>
    (rcv zq3.2 8 this).bind fun zz4 =>
    (m_X11_putBytes zq3.2 this p2).bind fun zq5 =>
    (rcv zq5.2 8 this).bind fun zz6 =>
    (m_X11_putBytes zq5.2 this p3).bind fun zq7 =>
    (rcv zq7.2 8 this).bind fun zz8 =>
    (m_X11_putBytes zq7.2 this p4).bind fun zq9 =>
    (rcv zq9.2 8 this).bind fun zz10 =>
    (m_X11_putBytes zq9.2 this p5).bind fun zq11 =>
    (gI zq11.2 8 1 this).bind fun zx12 =>
    some (zx12, zq11.2)
  else
    some ((-1 : Int32), ce)
set_option maxRecDepth 100000 in
set_option maxHeartbeats 4000000 in
theorem c_X11_feed {nx : Nat} {ce : Ce} {this : Nat} {p1 : Int32} {p2 : Int32} {p3 : Int32} {p4 : Int32} {p5 : Int32} {q : Int32 × Ce} (hr : m_X11_feed ce this p1 p2 p3 p4 p5 = some q) : Ct yX11_feed cX11_feed 6 (some .int) 1 22 0 0 [.ref this, .int p1, .int p2, .int p3, .int p4, .int p5] nx ce (some (.int q.1)) q.2 := by
  unfold m_X11_feed at hr
  refine ct_of (by decide) (Nat.le_of_ble_eq_true rfl) ?_
  intro G C hq hret hin
  show Jd G 0 0 nx ce 0 [(0, .ref this), (1, .int p1), (2, .int p2), (3, .int p3), (4, .int p4), (5, .int p5)] []
  refine j_aload_n (q := 0) (pc' := 1) C dX11_feed_0 rfl rfl rfl ?_
  obtain ⟨zx1, hzx1, hr⟩ := ob hr
  refine j_getI (pc' := 4) C dX11_feed_1 fl_X11_71 hzx1 rfl ?_
  refine j_bipush (v := 20) (pc' := 6) C dX11_feed_4 kB_20 rfl ?_
  refine j_iadd (pc' := 7) C dX11_feed_6 rfl ?_
  refine j_sipush (v := 300) (pc' := 10) C dX11_feed_7 kS_300 rfl ?_
  refine j_ic_le (tgt := 15) (pc' := 13) C dX11_feed_10 rfl rfl (fun hc => ?_) (fun hc => ?_)
  · have hr := ifT hc hr
    clear hc
    refine j_aload_n (q := 0) (pc' := 16) C dX11_feed_15 rfl rfl rfl ?_
    refine j_iload_n (q := 1) (pc' := 17) C dX11_feed_16 rfl rfl rfl ?_
    obtain ⟨zz2, hzz2, hr⟩ := ob hr
    obtain ⟨zq3, hzq3, hr⟩ := ob hr
    obtain ⟨fhzz2, hzz2⟩ := rcv_sp hzz2
    refine j_callV (ci := 8) (As := [.int p1]) (rest := []) (st1 := []) (pc' := 20) C ⟨wm_469, wm_0⟩ rfl hzz2 (c_X11_putBytes (nx := nx) hzq3) yw_X11_putBytes wm_467 rfl rfl (Nat.le_of_ble_eq_true rfl) ⟨by decide, by decide⟩ dX11_feed_17 rfl rfl ?_
    refine j_aload_n (q := 0) (pc' := 21) C dX11_feed_20 rfl rfl rfl ?_
    refine j_iload_n (q := 2) (pc' := 22) C dX11_feed_21 rfl rfl rfl ?_
    obtain ⟨zz4, hzz4, hr⟩ := ob hr
    obtain ⟨zq5, hzq5, hr⟩ := ob hr
    obtain ⟨fhzz4, hzz4⟩ := rcv_sp hzz4
    refine j_callV (ci := 8) (As := [.int p2]) (rest := []) (st1 := []) (pc' := 25) C ⟨wm_469, wm_0⟩ rfl hzz4 (c_X11_putBytes (nx := nx) hzq5) yw_X11_putBytes wm_467 rfl rfl (Nat.le_of_ble_eq_true rfl) ⟨by decide, by decide⟩ dX11_feed_22 rfl rfl ?_
    refine j_aload_n (q := 0) (pc' := 26) C dX11_feed_25 rfl rfl rfl ?_
    refine j_iload_n (q := 3) (pc' := 27) C dX11_feed_26 rfl rfl rfl ?_
    obtain ⟨zz6, hzz6, hr⟩ := ob hr
    obtain ⟨zq7, hzq7, hr⟩ := ob hr
    obtain ⟨fhzz6, hzz6⟩ := rcv_sp hzz6
    refine j_callV (ci := 8) (As := [.int p3]) (rest := []) (st1 := []) (pc' := 30) C ⟨wm_469, wm_0⟩ rfl hzz6 (c_X11_putBytes (nx := nx) hzq7) yw_X11_putBytes wm_467 rfl rfl (Nat.le_of_ble_eq_true rfl) ⟨by decide, by decide⟩ dX11_feed_27 rfl rfl ?_
    refine j_aload_n (q := 0) (pc' := 31) C dX11_feed_30 rfl rfl rfl ?_
    refine j_iload (q := 4) (pc' := 33) C dX11_feed_31 rfl rfl ?_
    obtain ⟨zz8, hzz8, hr⟩ := ob hr
    obtain ⟨zq9, hzq9, hr⟩ := ob hr
    obtain ⟨fhzz8, hzz8⟩ := rcv_sp hzz8
    refine j_callV (ci := 8) (As := [.int p4]) (rest := []) (st1 := []) (pc' := 36) C ⟨wm_469, wm_0⟩ rfl hzz8 (c_X11_putBytes (nx := nx) hzq9) yw_X11_putBytes wm_467 rfl rfl (Nat.le_of_ble_eq_true rfl) ⟨by decide, by decide⟩ dX11_feed_33 rfl rfl ?_
    refine j_aload_n (q := 0) (pc' := 37) C dX11_feed_36 rfl rfl rfl ?_
    refine j_iload (q := 5) (pc' := 39) C dX11_feed_37 rfl rfl ?_
    obtain ⟨zz10, hzz10, hr⟩ := ob hr
    obtain ⟨zq11, hzq11, hr⟩ := ob hr
    obtain ⟨fhzz10, hzz10⟩ := rcv_sp hzz10
    refine j_callV (ci := 8) (As := [.int p5]) (rest := []) (st1 := []) (pc' := 42) C ⟨wm_469, wm_0⟩ rfl hzz10 (c_X11_putBytes (nx := nx) hzq11) yw_X11_putBytes wm_467 rfl rfl (Nat.le_of_ble_eq_true rfl) ⟨by decide, by decide⟩ dX11_feed_39 rfl rfl ?_
    refine j_aload_n (q := 0) (pc' := 43) C dX11_feed_42 rfl rfl rfl ?_
    obtain ⟨zx12, hzx12, hr⟩ := ob hr
    refine j_getI (pc' := 46) C dX11_feed_43 fl_X11_71 hzx12 rfl ?_
    have hr := Option.some.inj hr
    subst hr
    exact j_iret C hq hret dX11_feed_46
  · have hr := ifF hc hr
    clear hc
    refine j_iconst (v := -1) (pc' := 14) C dX11_feed_13 kI_m1 rfl ?_
    have hr := Option.some.inj hr
    subst hr
    exact j_iret C hq hret dX11_feed_14
def m_X11_end (ce : Ce) (this : Nat) (p1 : Int32) : Option (Int32 × Ce) :=
  if p1 < 0 then
    some ((-1 : Int32), ce)
  else
    (gI ce 8 1 this).bind fun zx1 =>
    if p1 ≤ zx1 then
      (pV ce 8 1 this (.int p1)).bind fun zc2 =>
      some (p1, zc2)
    else
      some ((-1 : Int32), ce)
set_option maxRecDepth 100000 in
set_option maxHeartbeats 4000000 in
theorem c_X11_end {nx : Nat} {ce : Ce} {this : Nat} {p1 : Int32} {q : Int32 × Ce} (hr : m_X11_end ce this p1 = some q) : Ct yX11_end cX11_end 2 (some .int) 0 0 0 0 [.ref this, .int p1] nx ce (some (.int q.1)) q.2 := by
  unfold m_X11_end at hr
  refine ct_of (by decide) (Nat.le_of_ble_eq_true rfl) ?_
  intro G C hq hret hin
  show Jd G 0 0 nx ce 0 [(0, .ref this), (1, .int p1)] []
  refine j_iload_n (q := 1) (pc' := 1) C dX11_end_0 rfl rfl rfl ?_
  refine j_if_lt (tgt := 12) (pc' := 4) C dX11_end_1 rfl rfl (fun hc => ?_) (fun hc => ?_)
  · have hr := ifT hc hr
    clear hc
    refine j_iconst (v := -1) (pc' := 13) C dX11_end_12 kI_m1 rfl ?_
    have hr := Option.some.inj hr
    subst hr
    exact j_iret C hq hret dX11_end_13
  · have hr := ifF hc hr
    clear hc
    refine j_iload_n (q := 1) (pc' := 5) C dX11_end_4 rfl rfl rfl ?_
    refine j_aload_n (q := 0) (pc' := 6) C dX11_end_5 rfl rfl rfl ?_
    obtain ⟨zx1, hzx1, hr⟩ := ob hr
    refine j_getI (pc' := 9) C dX11_end_6 fl_X11_71 hzx1 rfl ?_
    refine j_ic_le (tgt := 14) (pc' := 12) C dX11_end_9 rfl rfl (fun hc => ?_) (fun hc => ?_)
    · have hr := ifT hc hr
      clear hc
      refine j_aload_n (q := 0) (pc' := 15) C dX11_end_14 rfl rfl rfl ?_
      refine j_iload_n (q := 1) (pc' := 16) C dX11_end_15 rfl rfl rfl ?_
      obtain ⟨zc2, hzc2, hr⟩ := ob hr
      refine j_put (pc' := 19) C dX11_end_16 fw_X11_71 rfl rfl hzc2 rfl ?_
      refine j_iload_n (q := 1) (pc' := 20) C dX11_end_19 rfl rfl rfl ?_
      have hr := Option.some.inj hr
      subst hr
      exact j_iret C hq hret dX11_end_20
    · have hr := ifF hc hr
      clear hc
      refine j_iconst (v := -1) (pc' := 13) C dX11_end_12 kI_m1 rfl ?_
      have hr := Option.some.inj hr
      subst hr
      exact j_iret C hq hret dX11_end_13
def m_X11_text (nx : Nat) (ce : Ce) (this : Nat) : Option (Int32 × Ce × Nat × Nat) :=
  (gA ce 8 6 this).bind fun zx1 =>
  (gI ce 7 1 zx1).bind fun zx2 =>
  if zx2 < (4 : Int32) then
    (gA ce 8 5 this).bind fun zx3 =>
    (gA ce 8 0 this).bind fun zx4 =>
    (gI ce 8 1 this).bind fun zx5 =>
    (rcv ce 5 zx3).bind fun zz6 =>
    (m_X7_readAll ce zx3 zx4 zx5).bind fun zq7 =>
    (pV zq7.2 8 1 this (.int (0 : Int32))).bind fun zc8 =>
    (pZ zc8 8 2 this (1 : Int32)).bind fun zc9 =>
    (gA zc9 8 5 this).bind fun zx10 =>
    (gI zc9 5 5 zx10).bind fun zx11 =>
    (pV zc9 8 3 this (.int zx11)).bind fun zc12 =>
    (gA zc12 8 5 this).bind fun zx13 =>
    (gI zc12 5 6 zx13).bind fun zx14 =>
    (pV zc12 8 4 this (.int zx14)).bind fun zc15 =>
    (gI zc15 8 3 this).bind fun zx16 =>
    if zx16 = 0 then
      (gA zc15 8 6 this).bind fun zx17 =>
      (gA zc15 8 5 this).bind fun zx18 =>
      (rcv zc15 5 zx18).bind fun zz19 =>
      adcB (m_X7_machine nx zc15 zx18) fun zq20 =>
      (rcv zq20.2.1 7 zx17).bind fun zz22 =>
      (m_X10_addText zq20.2.1 zx17 zq20.1).bind fun zq23 =>
      some (zq23.1, zq23.2, 0, 0)
    else
      some ((-1 : Int32), zc15, 0, 0)
  else
    some ((-1 : Int32), ce, 0, 0)
set_option maxRecDepth 100000 in
set_option maxHeartbeats 4000000 in
theorem c_X11_text {nx : Nat} {ce : Ce} {this : Nat} {q : Int32 × Ce × Nat × Nat} (hr : m_X11_text nx ce this = some q) : Ct yX11_text cX11_text 1 (some .int) 73 2853 q.2.2.1 q.2.2.2 [.ref this] nx ce (some (.int q.1)) q.2.1 := by
  unfold m_X11_text at hr
  refine ct_of (by decide) (Nat.le_of_ble_eq_true rfl) ?_
  intro G C hq hret hin
  show Jd G q.2.2.1 q.2.2.2 nx ce 0 [(0, .ref this)] []
  refine j_aload_n (q := 0) (pc' := 1) C dX11_text_0 rfl rfl rfl ?_
  obtain ⟨zx1, hzx1, hr⟩ := ob hr
  refine j_getA (pc' := 4) C dX11_text_1 fl_X11_35 hzx1 rfl ?_
  obtain ⟨zx2, hzx2, hr⟩ := ob hr
  refine j_getI (pc' := 7) C dX11_text_4 fl_X11_78 hzx2 rfl ?_
  refine j_iconst (v := 4) (pc' := 8) C dX11_text_7 kI_4 rfl ?_
  refine j_ic_lt (tgt := 13) (pc' := 11) C dX11_text_8 rfl rfl (fun hc => ?_) (fun hc => ?_)
  · have hr := ifT hc hr
    clear hc
    refine j_aload_n (q := 0) (pc' := 14) C dX11_text_13 rfl rfl rfl ?_
    obtain ⟨zx3, hzx3, hr⟩ := ob hr
    refine j_getA (pc' := 17) C dX11_text_14 fl_X11_20 hzx3 rfl ?_
    refine j_aload_n (q := 0) (pc' := 18) C dX11_text_17 rfl rfl rfl ?_
    obtain ⟨zx4, hzx4, hr⟩ := ob hr
    refine j_getA (pc' := 21) C dX11_text_18 fl_X11_9 hzx4 rfl ?_
    refine j_aload_n (q := 0) (pc' := 22) C dX11_text_21 rfl rfl rfl ?_
    obtain ⟨zx5, hzx5, hr⟩ := ob hr
    refine j_getI (pc' := 25) C dX11_text_22 fl_X11_71 hzx5 rfl ?_
    obtain ⟨zz6, hzz6, hr⟩ := ob hr
    obtain ⟨zq7, hzq7, hr⟩ := ob hr
    obtain ⟨fhzz6, hzz6⟩ := rcv_sp hzz6
    refine j_callV (ci := 5) (As := [.ref zx4, .int zx5]) (rest := []) (st1 := []) (pc' := 28) C ⟨wm_480, wm_481⟩ rfl hzz6 (c_X7_readAll (nx := nx) hzq7) yw_X7_readAll wm_479 rfl rfl (Nat.le_of_ble_eq_true rfl) ⟨by decide, by decide⟩ dX11_text_25 rfl rfl ?_
    refine j_aload_n (q := 0) (pc' := 29) C dX11_text_28 rfl rfl rfl ?_
    refine j_iconst (v := 0) (pc' := 30) C dX11_text_29 kI_0 rfl ?_
    obtain ⟨zc8, hzc8, hr⟩ := ob hr
    refine j_put (pc' := 33) C dX11_text_30 fw_X11_71 rfl rfl hzc8 rfl ?_
    refine j_aload_n (q := 0) (pc' := 34) C dX11_text_33 rfl rfl rfl ?_
    refine j_iconst (v := 1) (pc' := 35) C dX11_text_34 kI_1 rfl ?_
    obtain ⟨zc9, hzc9, hr⟩ := ob hr
    obtain ⟨hzc9n, hzc9f, hzc9⟩ := pZ_sp hzc9
    refine j_put (pc' := 38) C dX11_text_35 fw_X11_85 hzc9n hzc9f hzc9 rfl ?_
    refine j_aload_n (q := 0) (pc' := 39) C dX11_text_38 rfl rfl rfl ?_
    refine j_aload_n (q := 0) (pc' := 40) C dX11_text_39 rfl rfl rfl ?_
    obtain ⟨zx10, hzx10, hr⟩ := ob hr
    refine j_getA (pc' := 43) C dX11_text_40 fl_X11_20 hzx10 rfl ?_
    obtain ⟨zx11, hzx11, hr⟩ := ob hr
    refine j_getI (pc' := 46) C dX11_text_43 fl_X11_89 hzx11 rfl ?_
    obtain ⟨zc12, hzc12, hr⟩ := ob hr
    refine j_put (pc' := 49) C dX11_text_46 fw_X11_92 rfl rfl hzc12 rfl ?_
    refine j_aload_n (q := 0) (pc' := 50) C dX11_text_49 rfl rfl rfl ?_
    refine j_aload_n (q := 0) (pc' := 51) C dX11_text_50 rfl rfl rfl ?_
    obtain ⟨zx13, hzx13, hr⟩ := ob hr
    refine j_getA (pc' := 54) C dX11_text_51 fl_X11_20 hzx13 rfl ?_
    obtain ⟨zx14, hzx14, hr⟩ := ob hr
    refine j_getI (pc' := 57) C dX11_text_54 fl_X11_95 hzx14 rfl ?_
    obtain ⟨zc15, hzc15, hr⟩ := ob hr
    refine j_put (pc' := 60) C dX11_text_57 fw_X11_13 rfl rfl hzc15 rfl ?_
    refine j_aload_n (q := 0) (pc' := 61) C dX11_text_60 rfl rfl rfl ?_
    obtain ⟨zx16, hzx16, hr⟩ := ob hr
    refine j_getI (pc' := 64) C dX11_text_61 fl_X11_92 hzx16 rfl ?_
    refine j_if_eq (tgt := 69) (pc' := 67) C dX11_text_64 rfl rfl (fun hc => ?_) (fun hc => ?_)
    · have hr := ifT hc hr
      clear hc
      refine j_aload_n (q := 0) (pc' := 70) C dX11_text_69 rfl rfl rfl ?_
      obtain ⟨zx17, hzx17, hr⟩ := ob hr
      refine j_getA (pc' := 73) C dX11_text_70 fl_X11_35 hzx17 rfl ?_
      refine j_aload_n (q := 0) (pc' := 74) C dX11_text_73 rfl rfl rfl ?_
      obtain ⟨zx18, hzx18, hr⟩ := ob hr
      refine j_getA (pc' := 77) C dX11_text_74 fl_X11_20 hzx18 rfl ?_
      obtain ⟨zz19, hzz19, hr⟩ := ob hr
      obtain ⟨zq20, zt21, hzq20, hr, azt21, bzt21, czt21, dzt21⟩ := adcB_s hr
      refine j_k (kc' := zt21.2.2.1 + zq20.2.2.1) (ks' := zt21.2.2.2 + zq20.2.2.2) (by omega) (by omega) ?_
      obtain ⟨fhzz19, hzz19⟩ := rcv_sp hzz19
      refine j_callVA (ci := 5) (As := []) (rest := [.ref zx17]) (st1 := [.ref zq20.1, .ref zx17]) (pc' := 80) C ⟨wm_687, wm_688⟩ rfl hzz19 (c_X7_machine hzq20) yw_X7_machine wm_686 rfl rfl (Nat.le_of_ble_eq_true rfl) ⟨by decide, by decide⟩ dX11_text_77 rfl rfl ?_
      obtain ⟨zz22, hzz22, hr⟩ := ob hr
      obtain ⟨zq23, hzq23, hr⟩ := ob hr
      obtain ⟨fhzz22, hzz22⟩ := rcv_sp hzz22
      refine j_callV (ci := 7) (As := [.ref zq20.1]) (rest := []) (st1 := [.int zq23.1]) (pc' := 83) C ⟨wm_711, wm_712⟩ rfl hzz22 (c_X10_addText (nx := (nx + zq20.2.2.1)) hzq23) yw_X10_addText wm_710 rfl rfl (Nat.le_of_ble_eq_true rfl) ⟨by decide, by decide⟩ dX11_text_80 rfl rfl ?_
      obtain ⟨azf24, bzf25, czf26, dzf27⟩ := some4 hr
      refine j_k (kc' := 0) (ks' := 0) (by omega) (by omega) ?_
      rw [show nx + q.2.2.1 = (nx + zq20.2.2.1) by omega, (bzt21.trans bzf25), (azt21.trans azf24)] at hq
      exact j_iret C hq hret dX11_text_83
    · have hr := ifF hc hr
      clear hc
      refine j_iconst (v := -1) (pc' := 68) C dX11_text_67 kI_m1 rfl ?_
      obtain ⟨azf28, bzf29, czf30, dzf31⟩ := some4 hr
      refine j_k (kc' := 0) (ks' := 0) (by omega) (by omega) ?_
      rw [show nx + q.2.2.1 = nx by omega, bzf29, azf28] at hq
      exact j_iret C hq hret dX11_text_68
  · have hr := ifF hc hr
    clear hc
    refine j_iconst (v := -1) (pc' := 12) C dX11_text_11 kI_m1 rfl ?_
    obtain ⟨azf32, bzf33, czf34, dzf35⟩ := some4 hr
    refine j_k (kc' := 0) (ks' := 0) (by omega) (by omega) ?_
    rw [show nx + q.2.2.1 = nx by omega, bzf33, azf32] at hq
    exact j_iret C hq hret dX11_text_12
def m_X11_fault (ce : Ce) (this : Nat) (p1 : Int32) : Option (Int32) :=
  (gI ce 8 2 this).bind fun zx1 =>
  if zx1 = 0 then
    some (-1 : Int32)
  else
    if p1 = (0 : Int32) then
      (gI ce 8 3 this).bind fun zx2 =>
      some zx2
    else
    if p1 = (1 : Int32) then
      (gI ce 8 4 this).bind fun zx3 =>
      some zx3
    else
    some (-1 : Int32)
set_option maxRecDepth 100000 in
set_option maxHeartbeats 4000000 in
theorem c_X11_fault {nx : Nat} {ce : Ce} {this : Nat} {p1 : Int32} {q : Int32} (hr : m_X11_fault ce this p1 = some q) : Ct yX11_fault cX11_fault 2 (some .int) 0 0 0 0 [.ref this, .int p1] nx ce (some (.int q)) ce := by
  unfold m_X11_fault at hr
  refine ct_of (by decide) (Nat.le_of_ble_eq_true rfl) ?_
  intro G C hq hret hin
  show Jd G 0 0 nx ce 0 [(0, .ref this), (1, .int p1)] []
  refine j_aload_n (q := 0) (pc' := 1) C dX11_fault_0 rfl rfl rfl ?_
  obtain ⟨zx1, hzx1, hr⟩ := ob hr
  refine j_getI (pc' := 4) C dX11_fault_1 fl_X11_85 hzx1 rfl ?_
  refine j_if_ne (tgt := 9) (pc' := 7) C dX11_fault_4 rfl rfl (fun hc => ?_) (fun hc => ?_)
  · have hr := ifF hc hr
    clear hc
    refine j_iload_n (q := 1) (pc' := 10) C dX11_fault_9 rfl rfl rfl ?_
    by_cases hc0 : p1 = (0 : Int32)
    · have hr := ifT hc0 hr
      refine j_lkp (tgt := 36) (off := 26) C dX11_fault_10 (by decide) (by rw [hc0]; decide) rfl ?_
      refine j_aload_n (q := 0) (pc' := 37) C dX11_fault_36 rfl rfl rfl ?_
      obtain ⟨zx2, hzx2, hr⟩ := ob hr
      refine j_getI (pc' := 40) C dX11_fault_37 fl_X11_92 hzx2 rfl ?_
      have hr := Option.some.inj hr
      subst hr
      exact j_iret C hq hret dX11_fault_40
    have hr := ifF hc0 hr
    by_cases hc1 : p1 = (1 : Int32)
    · have hr := ifT hc1 hr
      refine j_lkp (tgt := 41) (off := 31) C dX11_fault_10 (by decide) (by rw [lv_osw hc0 (by decide)]; rw [hc1]; decide) rfl ?_
      refine j_aload_n (q := 0) (pc' := 42) C dX11_fault_41 rfl rfl rfl ?_
      obtain ⟨zx3, hzx3, hr⟩ := ob hr
      refine j_getI (pc' := 45) C dX11_fault_42 fl_X11_13 hzx3 rfl ?_
      have hr := Option.some.inj hr
      subst hr
      exact j_iret C hq hret dX11_fault_45
    have hr := ifF hc1 hr
    refine j_lkp (tgt := 46) (off := 36) C dX11_fault_10 (by decide) (by rw [lv_osw hc0 (by decide)]; rw [lv_osw hc1 (by decide)]; rfl) rfl ?_
    refine j_iconst (v := -1) (pc' := 47) C dX11_fault_46 kI_m1 rfl ?_
    have hr := Option.some.inj hr
    subst hr
    exact j_iret C hq hret dX11_fault_47
  · have hr := ifT hc hr
    clear hc
    refine j_iconst (v := -1) (pc' := 8) C dX11_fault_7 kI_m1 rfl ?_
    have hr := Option.some.inj hr
    subst hr
    exact j_iret C hq hret dX11_fault_8
def m_X11_load (nx : Nat) (ce : Ce) (this : Nat) (p1 : Int32) : Option (Int32 × Ce × Nat × Nat) :=
  (gA ce 8 6 this).bind fun zx1 =>
  (rcv ce 7 zx1).bind fun zz2 =>
  (m_X10_textAt ce zx1 p1).bind fun zx3 =>
  match zx3 with
  | none =>
    some ((-1 : Int32), ce, 0, 0)
  | some za8 =>
    (gA ce 8 6 this).bind fun zx9 =>
    (rcv ce 7 zx9).bind fun zz10 =>
    adcB (m_X10_remember nx ce zx9) fun zq11 =>
    (gA zq11.2.1 8 6 this).bind fun zx13 =>
    (gA zq11.2.1 7 4 zx13).bind fun zx14 =>
    (rcv zq11.2.1 6 zx14).bind fun zz15 =>
    (m_X8_begin zq11.2.1 zx14 za8).bind fun zq16 =>
    (gI zq16.2 3 0 za8).bind fun zx17 =>
    some (zx17, zq16.2, 0, 0)
set_option maxRecDepth 100000 in
set_option maxHeartbeats 4000000 in
theorem c_X11_load {nx : Nat} {ce : Ce} {this : Nat} {p1 : Int32} {q : Int32 × Ce × Nat × Nat} (hr : m_X11_load nx ce this p1 = some q) : Ct yX11_load cX11_load 3 (some .int) 6 166 q.2.2.1 q.2.2.2 [.ref this, .int p1] nx ce (some (.int q.1)) q.2.1 := by
  unfold m_X11_load at hr
  refine ct_of (by decide) (Nat.le_of_ble_eq_true rfl) ?_
  intro G C hq hret hin
  show Jd G q.2.2.1 q.2.2.2 nx ce 0 [(0, .ref this), (1, .int p1)] []
  refine j_aload_n (q := 0) (pc' := 1) C dX11_load_0 rfl rfl rfl ?_
  obtain ⟨zx1, hzx1, hr⟩ := ob hr
  refine j_getA (pc' := 4) C dX11_load_1 fl_X11_35 hzx1 rfl ?_
  refine j_iload_n (q := 1) (pc' := 5) C dX11_load_4 rfl rfl rfl ?_
  obtain ⟨zz2, hzz2, hr⟩ := ob hr
  obtain ⟨zx3, hzx3, hr⟩ := ob hr
  obtain ⟨fhzz2, hzz2⟩ := rcv_sp hzz2
  refine j_callV (ci := 7) (As := [.int p1]) (rest := []) (st1 := [va_rf zx3]) (pc' := 8) C ⟨wm_723, wm_724⟩ rfl hzz2 (c_X10_textAt (nx := nx) hzx3) yw_X10_textAt wm_722 rfl rfl (Nat.le_of_ble_eq_true rfl) ⟨by decide, by decide⟩ dX11_load_5 rfl rfl ?_
  refine j_qstore_n (lv' := [(2, va_rf zx3), (0, .ref this), (1, .int p1)]) (pc' := 9) C dX11_load_8 rfl (by decide) rfl rfl ?_
  refine j_qload_n (q := 0) (pc' := 10) C dX11_load_9 rfl rfl rfl ?_
  refine j_ifnonnull (tgt := 15) (pc' := 13) C dX11_load_10 rfl rfl (fun za8 hc => ?_) (fun hc => ?_)
  · subst hc
    refine j_aload_n (q := 1) (pc' := 16) C dX11_load_15 rfl rfl rfl ?_
    obtain ⟨zx9, hzx9, hr⟩ := ob hr
    refine j_getA (pc' := 19) C dX11_load_16 fl_X11_35 hzx9 rfl ?_
    obtain ⟨zz10, hzz10, hr⟩ := ob hr
    obtain ⟨zq11, zt12, hzq11, hr, azt12, bzt12, czt12, dzt12⟩ := adcB_s hr
    refine j_k (kc' := zt12.2.2.1 + zq11.2.2.1) (ks' := zt12.2.2.2 + zq11.2.2.2) (by omega) (by omega) ?_
    obtain ⟨fhzz10, hzz10⟩ := rcv_sp hzz10
    refine j_callVA (ci := 7) (As := []) (rest := []) (st1 := []) (pc' := 22) C ⟨wm_727, wm_728⟩ rfl hzz10 (c_X10_remember hzq11) yw_X10_remember wm_726 rfl rfl (Nat.le_of_ble_eq_true rfl) ⟨by decide, by decide⟩ dX11_load_19 rfl rfl ?_
    refine j_aload_n (q := 1) (pc' := 23) C dX11_load_22 rfl rfl rfl ?_
    obtain ⟨zx13, hzx13, hr⟩ := ob hr
    refine j_getA (pc' := 26) C dX11_load_23 fl_X11_35 hzx13 rfl ?_
    obtain ⟨zx14, hzx14, hr⟩ := ob hr
    refine j_getA (pc' := 29) C dX11_load_26 fl_X11_112 hzx14 rfl ?_
    refine j_aload_n (q := 0) (pc' := 30) C dX11_load_29 rfl rfl rfl ?_
    obtain ⟨zz15, hzz15, hr⟩ := ob hr
    obtain ⟨zq16, hzq16, hr⟩ := ob hr
    obtain ⟨fhzz15, hzz15⟩ := rcv_sp hzz15
    refine j_callV (ci := 6) (As := [.ref za8]) (rest := []) (st1 := []) (pc' := 33) C ⟨wm_768, wm_769⟩ rfl hzz15 (c_X8_begin (nx := (nx + zq11.2.2.1)) hzq16) yw_X8_begin wm_767 rfl rfl (Nat.le_of_ble_eq_true rfl) ⟨by decide, by decide⟩ dX11_load_30 rfl rfl ?_
    refine j_aload_n (q := 0) (pc' := 34) C dX11_load_33 rfl rfl rfl ?_
    obtain ⟨zx17, hzx17, hr⟩ := ob hr
    refine j_getI (pc' := 37) C dX11_load_34 fl_X11_118 hzx17 rfl ?_
    obtain ⟨azf18, bzf19, czf20, dzf21⟩ := some4 hr
    refine j_k (kc' := 0) (ks' := 0) (by omega) (by omega) ?_
    rw [show nx + q.2.2.1 = (nx + zq11.2.2.1) by omega, (bzt12.trans bzf19), (azt12.trans azf18)] at hq
    exact j_iret C hq hret dX11_load_37
  · subst hc
    refine j_iconst (v := -1) (pc' := 14) C dX11_load_13 kI_m1 rfl ?_
    obtain ⟨azf4, bzf5, czf6, dzf7⟩ := some4 hr
    refine j_k (kc' := 0) (ks' := 0) (by omega) (by omega) ?_
    rw [show nx + q.2.2.1 = nx by omega, bzf5, azf4] at hq
    exact j_iret C hq hret dX11_load_14
def m_X11_drawn (nx : Nat) (ce : Ce) (this : Nat) (p1 : Int32) (p2 : Int32) : Option (Int32 × Ce × Nat × Nat) :=
  if p1 < 0 then
    some ((0 : Int32), ce, 0, 0)
  else
    if (9999 : Int32) < p1 then
      some ((0 : Int32), ce, 0, 0)
    else
      if p2 < (1 : Int32) then
        some ((0 : Int32), ce, 0, 0)
      else
        if p2 ≤ (6 : Int32) then
          (gA ce 8 6 this).bind fun zx13 =>
          (rcv ce 7 zx13).bind fun zz14 =>
          adcB (m_X10_remember nx ce zx13) fun zq15 =>
          (gA zq15.2.1 8 6 this).bind fun zx17 =>
          (gA zq15.2.1 7 4 zx17).bind fun zx18 =>
          adcB (m_X5_bySeed (nx + zq15.2.2.1) zq15.2.1 p1 p2) fun zq19 =>
          (rcv zq19.2.1 6 zx18).bind fun zz21 =>
          (m_X8_begin zq19.2.1 zx18 zq19.1).bind fun zq22 =>
          some ((1 : Int32), zq22.2, 0, 0)
        else
          some ((0 : Int32), ce, 0, 0)
set_option maxRecDepth 100000 in
set_option maxHeartbeats 4000000 in
theorem c_X11_drawn {nx : Nat} {ce : Ce} {this : Nat} {p1 : Int32} {p2 : Int32} {q : Int32 × Ce × Nat × Nat} (hr : m_X11_drawn nx ce this p1 p2 = some q) : Ct yX11_drawn cX11_drawn 3 (some .boolean) 6 166 q.2.2.1 q.2.2.2 [.ref this, .int p1, .int p2] nx ce (some (.int q.1)) q.2.1 := by
  unfold m_X11_drawn at hr
  refine ct_of (by decide) (Nat.le_of_ble_eq_true rfl) ?_
  intro G C hq hret hin
  show Jd G q.2.2.1 q.2.2.2 nx ce 0 [(0, .ref this), (1, .int p1), (2, .int p2)] []
  refine j_iload_n (q := 1) (pc' := 1) C dX11_drawn_0 rfl rfl rfl ?_
  refine j_if_lt (tgt := 22) (pc' := 4) C dX11_drawn_1 rfl rfl (fun hc => ?_) (fun hc => ?_)
  · have hr := ifT hc hr
    clear hc
    refine j_iconst (v := 0) (pc' := 23) C dX11_drawn_22 kI_0 rfl ?_
    obtain ⟨azf1, bzf2, czf3, dzf4⟩ := some4 hr
    refine j_k (kc' := 0) (ks' := 0) (by omega) (by omega) ?_
    rw [show nx + q.2.2.1 = nx by omega, bzf2, azf1] at hq
    exact j_zret C hq hret rfl dX11_drawn_23
  · have hr := ifF hc hr
    clear hc
    refine j_iload_n (q := 1) (pc' := 5) C dX11_drawn_4 rfl rfl rfl ?_
    refine j_sipush (v := 9999) (pc' := 8) C dX11_drawn_5 kS_9999 rfl ?_
    refine j_ic_gt (tgt := 22) (pc' := 11) C dX11_drawn_8 rfl rfl (fun hc => ?_) (fun hc => ?_)
    · have hr := ifT hc hr
      clear hc
      refine j_iconst (v := 0) (pc' := 23) C dX11_drawn_22 kI_0 rfl ?_
      obtain ⟨azf5, bzf6, czf7, dzf8⟩ := some4 hr
      refine j_k (kc' := 0) (ks' := 0) (by omega) (by omega) ?_
      rw [show nx + q.2.2.1 = nx by omega, bzf6, azf5] at hq
      exact j_zret C hq hret rfl dX11_drawn_23
    · have hr := ifF hc hr
      clear hc
      refine j_iload_n (q := 2) (pc' := 12) C dX11_drawn_11 rfl rfl rfl ?_
      refine j_iconst (v := 1) (pc' := 13) C dX11_drawn_12 kI_1 rfl ?_
      refine j_ic_lt (tgt := 22) (pc' := 16) C dX11_drawn_13 rfl rfl (fun hc => ?_) (fun hc => ?_)
      · have hr := ifT hc hr
        clear hc
        refine j_iconst (v := 0) (pc' := 23) C dX11_drawn_22 kI_0 rfl ?_
        obtain ⟨azf9, bzf10, czf11, dzf12⟩ := some4 hr
        refine j_k (kc' := 0) (ks' := 0) (by omega) (by omega) ?_
        rw [show nx + q.2.2.1 = nx by omega, bzf10, azf9] at hq
        exact j_zret C hq hret rfl dX11_drawn_23
      · have hr := ifF hc hr
        clear hc
        refine j_iload_n (q := 2) (pc' := 17) C dX11_drawn_16 rfl rfl rfl ?_
        refine j_bipush (v := 6) (pc' := 19) C dX11_drawn_17 kB_6 rfl ?_
        refine j_ic_le (tgt := 24) (pc' := 22) C dX11_drawn_19 rfl rfl (fun hc => ?_) (fun hc => ?_)
        · have hr := ifT hc hr
          clear hc
          refine j_aload_n (q := 0) (pc' := 25) C dX11_drawn_24 rfl rfl rfl ?_
          obtain ⟨zx13, hzx13, hr⟩ := ob hr
          refine j_getA (pc' := 28) C dX11_drawn_25 fl_X11_35 hzx13 rfl ?_
          obtain ⟨zz14, hzz14, hr⟩ := ob hr
          obtain ⟨zq15, zt16, hzq15, hr, azt16, bzt16, czt16, dzt16⟩ := adcB_s hr
          refine j_k (kc' := zt16.2.2.1 + zq15.2.2.1) (ks' := zt16.2.2.2 + zq15.2.2.2) (by omega) (by omega) ?_
          obtain ⟨fhzz14, hzz14⟩ := rcv_sp hzz14
          refine j_callVA (ci := 7) (As := []) (rest := []) (st1 := []) (pc' := 31) C ⟨wm_727, wm_728⟩ rfl hzz14 (c_X10_remember hzq15) yw_X10_remember wm_726 rfl rfl (Nat.le_of_ble_eq_true rfl) ⟨by decide, by decide⟩ dX11_drawn_28 rfl rfl ?_
          refine j_aload_n (q := 0) (pc' := 32) C dX11_drawn_31 rfl rfl rfl ?_
          obtain ⟨zx17, hzx17, hr⟩ := ob hr
          refine j_getA (pc' := 35) C dX11_drawn_32 fl_X11_35 hzx17 rfl ?_
          obtain ⟨zx18, hzx18, hr⟩ := ob hr
          refine j_getA (pc' := 38) C dX11_drawn_35 fl_X11_112 hzx18 rfl ?_
          refine j_iload_n (q := 1) (pc' := 39) C dX11_drawn_38 rfl rfl rfl ?_
          refine j_iload_n (q := 2) (pc' := 40) C dX11_drawn_39 rfl rfl rfl ?_
          obtain ⟨zq19, zt20, hzq19, hr, azt20, bzt20, czt20, dzt20⟩ := adcB_s hr
          refine j_k (kc' := zt20.2.2.1 + zq19.2.2.1) (ks' := zt20.2.2.2 + zq19.2.2.2) (by omega) (by omega) ?_
          refine j_callSA (As := [.int p1, .int p2]) (rest := [.ref zx18]) (st1 := [.ref zq19.1, .ref zx18]) (pc' := 43) C wm_783 (c_X5_bySeed hzq19) yw_X5_bySeed wm_782 rfl rfl (Nat.le_of_ble_eq_true rfl) ⟨by decide, by decide⟩ dX11_drawn_40 rfl rfl ?_
          obtain ⟨zz21, hzz21, hr⟩ := ob hr
          obtain ⟨zq22, hzq22, hr⟩ := ob hr
          obtain ⟨fhzz21, hzz21⟩ := rcv_sp hzz21
          refine j_callV (ci := 6) (As := [.ref zq19.1]) (rest := []) (st1 := []) (pc' := 46) C ⟨wm_768, wm_769⟩ rfl hzz21 (c_X8_begin (nx := ((nx + zq15.2.2.1) + zq19.2.2.1)) hzq22) yw_X8_begin wm_767 rfl rfl (Nat.le_of_ble_eq_true rfl) ⟨by decide, by decide⟩ dX11_drawn_43 rfl rfl ?_
          refine j_iconst (v := 1) (pc' := 47) C dX11_drawn_46 kI_1 rfl ?_
          obtain ⟨azf23, bzf24, czf25, dzf26⟩ := some4 hr
          refine j_k (kc' := 0) (ks' := 0) (by omega) (by omega) ?_
          rw [show nx + q.2.2.1 = ((nx + zq15.2.2.1) + zq19.2.2.1) by omega, (bzt16.trans (bzt20.trans bzf24)), (azt16.trans (azt20.trans azf23))] at hq
          exact j_zret C hq hret rfl dX11_drawn_47
        · have hr := ifF hc hr
          clear hc
          refine j_iconst (v := 0) (pc' := 23) C dX11_drawn_22 kI_0 rfl ?_
          obtain ⟨azf27, bzf28, czf29, dzf30⟩ := some4 hr
          refine j_k (kc' := 0) (ks' := 0) (by omega) (by omega) ?_
          rw [show nx + q.2.2.1 = nx by omega, bzf28, azf27] at hq
          exact j_zret C hq hret rfl dX11_drawn_23
def m_X11_aim (nx : Nat) (ce : Ce) (this : Nat) (p1 : Int32) : Option (Int32 × Ce × Nat × Nat) :=
  (gA ce 8 6 this).bind fun zx1 =>
  (gA ce 7 4 zx1).bind fun zx2 =>
  (gA ce 6 0 zx2).bind fun zx3 =>
  (rcv ce 3 zx3).bind fun zz4 =>
  (m_X5_hasAim ce zx3 p1).bind fun zx5 =>
  if zx5 = 0 then
    some ((0 : Int32), ce, 0, 0)
  else
    (gA ce 8 6 this).bind fun zx6 =>
    (rcv ce 7 zx6).bind fun zz7 =>
    adcB (m_X10_remember nx ce zx6) fun zq8 =>
    (gA zq8.2.1 8 6 this).bind fun zx10 =>
    (gA zq8.2.1 7 4 zx10).bind fun zx11 =>
    (rcv zq8.2.1 6 zx11).bind fun zz12 =>
    (m_X8_tellAim zq8.2.1 zx11 p1).bind fun zq13 =>
    some ((1 : Int32), zq13.2, 0, 0)
set_option maxRecDepth 100000 in
set_option maxHeartbeats 4000000 in
theorem c_X11_aim {nx : Nat} {ce : Ce} {this : Nat} {p1 : Int32} {q : Int32 × Ce × Nat × Nat} (hr : m_X11_aim nx ce this p1 = some q) : Ct yX11_aim cX11_aim 2 (some .boolean) 6 166 q.2.2.1 q.2.2.2 [.ref this, .int p1] nx ce (some (.int q.1)) q.2.1 := by
  unfold m_X11_aim at hr
  refine ct_of (by decide) (Nat.le_of_ble_eq_true rfl) ?_
  intro G C hq hret hin
  show Jd G q.2.2.1 q.2.2.2 nx ce 0 [(0, .ref this), (1, .int p1)] []
  refine j_aload_n (q := 0) (pc' := 1) C dX11_aim_0 rfl rfl rfl ?_
  obtain ⟨zx1, hzx1, hr⟩ := ob hr
  refine j_getA (pc' := 4) C dX11_aim_1 fl_X11_35 hzx1 rfl ?_
  obtain ⟨zx2, hzx2, hr⟩ := ob hr
  refine j_getA (pc' := 7) C dX11_aim_4 fl_X11_112 hzx2 rfl ?_
  obtain ⟨zx3, hzx3, hr⟩ := ob hr
  refine j_getA (pc' := 10) C dX11_aim_7 fl_X11_125 hzx3 rfl ?_
  refine j_iload_n (q := 1) (pc' := 11) C dX11_aim_10 rfl rfl rfl ?_
  obtain ⟨zz4, hzz4, hr⟩ := ob hr
  obtain ⟨zx5, hzx5, hr⟩ := ob hr
  obtain ⟨fhzz4, hzz4⟩ := rcv_sp hzz4
  refine j_callV (ci := 3) (As := [.int p1]) (rest := []) (st1 := [.int zx5]) (pc' := 14) C ⟨wm_790, wm_791⟩ rfl hzz4 (c_X5_hasAim (nx := nx) hzx5) yw_X5_hasAim wm_789 rfl rfl (Nat.le_of_ble_eq_true rfl) ⟨by decide, by decide⟩ dX11_aim_11 rfl rfl ?_
  refine j_if_ne (tgt := 19) (pc' := 17) C dX11_aim_14 rfl rfl (fun hc => ?_) (fun hc => ?_)
  · have hr := ifF hc hr
    clear hc
    refine j_aload_n (q := 0) (pc' := 20) C dX11_aim_19 rfl rfl rfl ?_
    obtain ⟨zx6, hzx6, hr⟩ := ob hr
    refine j_getA (pc' := 23) C dX11_aim_20 fl_X11_35 hzx6 rfl ?_
    obtain ⟨zz7, hzz7, hr⟩ := ob hr
    obtain ⟨zq8, zt9, hzq8, hr, azt9, bzt9, czt9, dzt9⟩ := adcB_s hr
    refine j_k (kc' := zt9.2.2.1 + zq8.2.2.1) (ks' := zt9.2.2.2 + zq8.2.2.2) (by omega) (by omega) ?_
    obtain ⟨fhzz7, hzz7⟩ := rcv_sp hzz7
    refine j_callVA (ci := 7) (As := []) (rest := []) (st1 := []) (pc' := 26) C ⟨wm_727, wm_728⟩ rfl hzz7 (c_X10_remember hzq8) yw_X10_remember wm_726 rfl rfl (Nat.le_of_ble_eq_true rfl) ⟨by decide, by decide⟩ dX11_aim_23 rfl rfl ?_
    refine j_aload_n (q := 0) (pc' := 27) C dX11_aim_26 rfl rfl rfl ?_
    obtain ⟨zx10, hzx10, hr⟩ := ob hr
    refine j_getA (pc' := 30) C dX11_aim_27 fl_X11_35 hzx10 rfl ?_
    obtain ⟨zx11, hzx11, hr⟩ := ob hr
    refine j_getA (pc' := 33) C dX11_aim_30 fl_X11_112 hzx11 rfl ?_
    refine j_iload_n (q := 1) (pc' := 34) C dX11_aim_33 rfl rfl rfl ?_
    obtain ⟨zz12, hzz12, hr⟩ := ob hr
    obtain ⟨zq13, hzq13, hr⟩ := ob hr
    obtain ⟨fhzz12, hzz12⟩ := rcv_sp hzz12
    refine j_callV (ci := 6) (As := [.int p1]) (rest := []) (st1 := []) (pc' := 37) C ⟨wm_794, wm_795⟩ rfl hzz12 (c_X8_tellAim (nx := (nx + zq8.2.2.1)) hzq13) yw_X8_tellAim wm_793 rfl rfl (Nat.le_of_ble_eq_true rfl) ⟨by decide, by decide⟩ dX11_aim_34 rfl rfl ?_
    refine j_iconst (v := 1) (pc' := 38) C dX11_aim_37 kI_1 rfl ?_
    obtain ⟨azf14, bzf15, czf16, dzf17⟩ := some4 hr
    refine j_k (kc' := 0) (ks' := 0) (by omega) (by omega) ?_
    rw [show nx + q.2.2.1 = (nx + zq8.2.2.1) by omega, (bzt9.trans bzf15), (azt9.trans azf14)] at hq
    exact j_zret C hq hret rfl dX11_aim_38
  · have hr := ifT hc hr
    clear hc
    refine j_iconst (v := 0) (pc' := 18) C dX11_aim_17 kI_0 rfl ?_
    obtain ⟨azf18, bzf19, czf20, dzf21⟩ := some4 hr
    refine j_k (kc' := 0) (ks' := 0) (by omega) (by omega) ?_
    rw [show nx + q.2.2.1 = nx by omega, bzf19, azf18] at hq
    exact j_zret C hq hret rfl dX11_aim_18
def m_X11_mode (nx : Nat) (ce : Ce) (this : Nat) (p1 : Int32) : Option (Int32 × Ce × Nat × Nat) :=
  if p1 < 0 then
    some ((0 : Int32), ce, 0, 0)
  else
    if p1 < (3 : Int32) then
      (gA ce 8 6 this).bind fun zx5 =>
      (rcv ce 7 zx5).bind fun zz6 =>
      adcB (m_X10_remember nx ce zx5) fun zq7 =>
      (gA zq7.2.1 8 6 this).bind fun zx9 =>
      (gA zq7.2.1 7 4 zx9).bind fun zx10 =>
      (pV zq7.2.1 6 2 zx10 (.int p1)).bind fun zc11 =>
      some ((1 : Int32), zc11, 0, 0)
    else
      some ((0 : Int32), ce, 0, 0)
set_option maxRecDepth 100000 in
set_option maxHeartbeats 4000000 in
theorem c_X11_mode {nx : Nat} {ce : Ce} {this : Nat} {p1 : Int32} {q : Int32 × Ce × Nat × Nat} (hr : m_X11_mode nx ce this p1 = some q) : Ct yX11_mode cX11_mode 2 (some .boolean) 6 166 q.2.2.1 q.2.2.2 [.ref this, .int p1] nx ce (some (.int q.1)) q.2.1 := by
  unfold m_X11_mode at hr
  refine ct_of (by decide) (Nat.le_of_ble_eq_true rfl) ?_
  intro G C hq hret hin
  show Jd G q.2.2.1 q.2.2.2 nx ce 0 [(0, .ref this), (1, .int p1)] []
  refine j_iload_n (q := 1) (pc' := 1) C dX11_mode_0 rfl rfl rfl ?_
  refine j_if_lt (tgt := 9) (pc' := 4) C dX11_mode_1 rfl rfl (fun hc => ?_) (fun hc => ?_)
  · have hr := ifT hc hr
    clear hc
    refine j_iconst (v := 0) (pc' := 10) C dX11_mode_9 kI_0 rfl ?_
    obtain ⟨azf1, bzf2, czf3, dzf4⟩ := some4 hr
    refine j_k (kc' := 0) (ks' := 0) (by omega) (by omega) ?_
    rw [show nx + q.2.2.1 = nx by omega, bzf2, azf1] at hq
    exact j_zret C hq hret rfl dX11_mode_10
  · have hr := ifF hc hr
    clear hc
    refine j_iload_n (q := 1) (pc' := 5) C dX11_mode_4 rfl rfl rfl ?_
    refine j_iconst (v := 3) (pc' := 6) C dX11_mode_5 kI_3 rfl ?_
    refine j_ic_lt (tgt := 11) (pc' := 9) C dX11_mode_6 rfl rfl (fun hc => ?_) (fun hc => ?_)
    · have hr := ifT hc hr
      clear hc
      refine j_aload_n (q := 0) (pc' := 12) C dX11_mode_11 rfl rfl rfl ?_
      obtain ⟨zx5, hzx5, hr⟩ := ob hr
      refine j_getA (pc' := 15) C dX11_mode_12 fl_X11_35 hzx5 rfl ?_
      obtain ⟨zz6, hzz6, hr⟩ := ob hr
      obtain ⟨zq7, zt8, hzq7, hr, azt8, bzt8, czt8, dzt8⟩ := adcB_s hr
      refine j_k (kc' := zt8.2.2.1 + zq7.2.2.1) (ks' := zt8.2.2.2 + zq7.2.2.2) (by omega) (by omega) ?_
      obtain ⟨fhzz6, hzz6⟩ := rcv_sp hzz6
      refine j_callVA (ci := 7) (As := []) (rest := []) (st1 := []) (pc' := 18) C ⟨wm_727, wm_728⟩ rfl hzz6 (c_X10_remember hzq7) yw_X10_remember wm_726 rfl rfl (Nat.le_of_ble_eq_true rfl) ⟨by decide, by decide⟩ dX11_mode_15 rfl rfl ?_
      refine j_aload_n (q := 0) (pc' := 19) C dX11_mode_18 rfl rfl rfl ?_
      obtain ⟨zx9, hzx9, hr⟩ := ob hr
      refine j_getA (pc' := 22) C dX11_mode_19 fl_X11_35 hzx9 rfl ?_
      obtain ⟨zx10, hzx10, hr⟩ := ob hr
      refine j_getA (pc' := 25) C dX11_mode_22 fl_X11_112 hzx10 rfl ?_
      refine j_iload_n (q := 1) (pc' := 26) C dX11_mode_25 rfl rfl rfl ?_
      obtain ⟨zc11, hzc11, hr⟩ := ob hr
      refine j_put (pc' := 29) C dX11_mode_26 fw_X11_135 rfl rfl hzc11 rfl ?_
      refine j_iconst (v := 1) (pc' := 30) C dX11_mode_29 kI_1 rfl ?_
      obtain ⟨azf12, bzf13, czf14, dzf15⟩ := some4 hr
      refine j_k (kc' := 0) (ks' := 0) (by omega) (by omega) ?_
      rw [show nx + q.2.2.1 = (nx + zq7.2.2.1) by omega, (bzt8.trans bzf13), (azt8.trans azf12)] at hq
      exact j_zret C hq hret rfl dX11_mode_30
    · have hr := ifF hc hr
      clear hc
      refine j_iconst (v := 0) (pc' := 10) C dX11_mode_9 kI_0 rfl ?_
      obtain ⟨azf16, bzf17, czf18, dzf19⟩ := some4 hr
      refine j_k (kc' := 0) (ks' := 0) (by omega) (by omega) ?_
      rw [show nx + q.2.2.1 = nx by omega, bzf17, azf16] at hq
      exact j_zret C hq hret rfl dX11_mode_10
def m_X11_bar (nx : Nat) (ce : Ce) (this : Nat) (p1 : Int32) (p2 : Int32) (p3 : Int32) : Option (Int32 × Ce × Nat × Nat) :=
  (gA ce 8 6 this).bind fun zx1 =>
  (gA ce 7 4 zx1).bind fun zx2 =>
  (gA ce 6 0 zx2).bind fun zx3 =>
  (rcv ce 3 zx3).bind fun zz4 =>
  (m_X5_hasCube ce zx3 p1 p2).bind fun zx5 =>
  if zx5 = 0 then
    some ((-1 : Int32), ce, 0, 0)
  else
    (m_X3_cubeOf p1 p2).bind fun zx10 =>
    (rcv ce 6 zx2).bind fun zz11 =>
    (m_X8_canBar ce zx2 zx10 p3).bind fun zx12 =>
    if zx12 = 0 then
      some ((-1 : Int32), ce, 0, 0)
    else
      (gA ce 8 6 this).bind fun zx13 =>
      (rcv ce 7 zx13).bind fun zz14 =>
      adcB (m_X10_remember nx ce zx13) fun zq15 =>
      (gA zq15.2.1 6 11 zx2).bind fun zx17 =>
      (m_X3_cubeOf p1 p2).bind fun zx18 =>
      (rcv zq15.2.1 2 zx17).bind fun zz19 =>
      adcB (m_X2_putLast (nx + zq15.2.2.1) zq15.2.1 zx17 p3 zx18) fun zq20 =>
      (gA zq20.2.1 6 11 zx2).bind fun zx22 =>
      (rcv zq20.2.1 2 zx22).bind fun zz23 =>
      (m_X2_countOf zq20.2.1 zx22 p3).bind fun zx24 =>
      some (zx24, zq20.2.1, 0, 0)
set_option maxRecDepth 100000 in
set_option maxHeartbeats 4000000 in
theorem c_X11_bar {nx : Nat} {ce : Ce} {this : Nat} {p1 : Int32} {p2 : Int32} {p3 : Int32} {q : Int32 × Ce × Nat × Nat} (hr : m_X11_bar nx ce this p1 p2 p3 = some q) : Ct yX11_bar cX11_bar 5 (some .int) 6 166 q.2.2.1 q.2.2.2 [.ref this, .int p1, .int p2, .int p3] nx ce (some (.int q.1)) q.2.1 := by
  unfold m_X11_bar at hr
  refine ct_of (by decide) (Nat.le_of_ble_eq_true rfl) ?_
  intro G C hq hret hin
  show Jd G q.2.2.1 q.2.2.2 nx ce 0 [(0, .ref this), (1, .int p1), (2, .int p2), (3, .int p3)] []
  refine j_aload_n (q := 0) (pc' := 1) C dX11_bar_0 rfl rfl rfl ?_
  obtain ⟨zx1, hzx1, hr⟩ := ob hr
  refine j_getA (pc' := 4) C dX11_bar_1 fl_X11_35 hzx1 rfl ?_
  obtain ⟨zx2, hzx2, hr⟩ := ob hr
  refine j_getA (pc' := 7) C dX11_bar_4 fl_X11_112 hzx2 rfl ?_
  refine j_astore (lv' := [(4, .ref zx2), (0, .ref this), (1, .int p1), (2, .int p2), (3, .int p3)]) (pc' := 9) C dX11_bar_7 (by decide) rfl rfl ?_
  refine j_aload (q := 0) (pc' := 11) C dX11_bar_9 rfl rfl ?_
  obtain ⟨zx3, hzx3, hr⟩ := ob hr
  refine j_getA (pc' := 14) C dX11_bar_11 fl_X11_125 hzx3 rfl ?_
  refine j_iload_n (q := 2) (pc' := 15) C dX11_bar_14 rfl rfl rfl ?_
  refine j_iload_n (q := 3) (pc' := 16) C dX11_bar_15 rfl rfl rfl ?_
  obtain ⟨zz4, hzz4, hr⟩ := ob hr
  obtain ⟨zx5, hzx5, hr⟩ := ob hr
  obtain ⟨fhzz4, hzz4⟩ := rcv_sp hzz4
  refine j_callV (ci := 3) (As := [.int p1, .int p2]) (rest := []) (st1 := [.int zx5]) (pc' := 19) C ⟨wm_811, wm_812⟩ rfl hzz4 (c_X5_hasCube (nx := nx) hzx5) yw_X5_hasCube wm_810 rfl rfl (Nat.le_of_ble_eq_true rfl) ⟨by decide, by decide⟩ dX11_bar_16 rfl rfl ?_
  refine j_if_eq (tgt := 36) (pc' := 22) C dX11_bar_19 rfl rfl (fun hc => ?_) (fun hc => ?_)
  · have hr := ifT hc hr
    clear hc
    refine j_iconst (v := -1) (pc' := 37) C dX11_bar_36 kI_m1 rfl ?_
    obtain ⟨azf6, bzf7, czf8, dzf9⟩ := some4 hr
    refine j_k (kc' := 0) (ks' := 0) (by omega) (by omega) ?_
    rw [show nx + q.2.2.1 = nx by omega, bzf7, azf6] at hq
    exact j_iret C hq hret dX11_bar_37
  · have hr := ifF hc hr
    clear hc
    refine j_aload (q := 0) (pc' := 24) C dX11_bar_22 rfl rfl ?_
    refine j_iload_n (q := 2) (pc' := 25) C dX11_bar_24 rfl rfl rfl ?_
    refine j_iload_n (q := 3) (pc' := 26) C dX11_bar_25 rfl rfl rfl ?_
    obtain ⟨zx10, hzx10, hr⟩ := ob hr
    refine j_callS (As := [.int p1, .int p2]) (rest := [.ref zx2]) (st1 := [.int zx10, .ref zx2]) (pc' := 29) C wm_815 (c_X3_cubeOf (nx := nx) (ce := ce) hzx10) yw_X3_cubeOf wm_814 rfl rfl (Nat.le_of_ble_eq_true rfl) ⟨by decide, by decide⟩ dX11_bar_26 rfl rfl ?_
    refine j_iload_n (q := 4) (pc' := 30) C dX11_bar_29 rfl rfl rfl ?_
    obtain ⟨zz11, hzz11, hr⟩ := ob hr
    obtain ⟨zx12, hzx12, hr⟩ := ob hr
    obtain ⟨fhzz11, hzz11⟩ := rcv_sp hzz11
    refine j_callV (ci := 6) (As := [.int zx10, .int p3]) (rest := []) (st1 := [.int zx12]) (pc' := 33) C ⟨wm_818, wm_819⟩ rfl hzz11 (c_X8_canBar (nx := nx) hzx12) yw_X8_canBar wm_817 rfl rfl (Nat.le_of_ble_eq_true rfl) ⟨by decide, by decide⟩ dX11_bar_30 rfl rfl ?_
    refine j_if_ne (tgt := 38) (pc' := 36) C dX11_bar_33 rfl rfl (fun hc => ?_) (fun hc => ?_)
    · have hr := ifF hc hr
      clear hc
      refine j_aload_n (q := 1) (pc' := 39) C dX11_bar_38 rfl rfl rfl ?_
      obtain ⟨zx13, hzx13, hr⟩ := ob hr
      refine j_getA (pc' := 42) C dX11_bar_39 fl_X11_35 hzx13 rfl ?_
      obtain ⟨zz14, hzz14, hr⟩ := ob hr
      obtain ⟨zq15, zt16, hzq15, hr, azt16, bzt16, czt16, dzt16⟩ := adcB_s hr
      refine j_k (kc' := zt16.2.2.1 + zq15.2.2.1) (ks' := zt16.2.2.2 + zq15.2.2.2) (by omega) (by omega) ?_
      obtain ⟨fhzz14, hzz14⟩ := rcv_sp hzz14
      refine j_callVA (ci := 7) (As := []) (rest := []) (st1 := []) (pc' := 45) C ⟨wm_727, wm_728⟩ rfl hzz14 (c_X10_remember hzq15) yw_X10_remember wm_726 rfl rfl (Nat.le_of_ble_eq_true rfl) ⟨by decide, by decide⟩ dX11_bar_42 rfl rfl ?_
      refine j_aload (q := 0) (pc' := 47) C dX11_bar_45 rfl rfl ?_
      obtain ⟨zx17, hzx17, hr⟩ := ob hr
      refine j_getA (pc' := 50) C dX11_bar_47 fl_X11_151 hzx17 rfl ?_
      refine j_iload_n (q := 4) (pc' := 51) C dX11_bar_50 rfl rfl rfl ?_
      refine j_iload_n (q := 2) (pc' := 52) C dX11_bar_51 rfl rfl rfl ?_
      refine j_iload_n (q := 3) (pc' := 53) C dX11_bar_52 rfl rfl rfl ?_
      obtain ⟨zx18, hzx18, hr⟩ := ob hr
      refine j_callS (As := [.int p1, .int p2]) (rest := [.int p3, .ref zx17]) (st1 := [.int zx18, .int p3, .ref zx17]) (pc' := 56) C wm_815 (c_X3_cubeOf (nx := (nx + zq15.2.2.1)) (ce := zq15.2.1) hzx18) yw_X3_cubeOf wm_814 rfl rfl (Nat.le_of_ble_eq_true rfl) ⟨by decide, by decide⟩ dX11_bar_53 rfl rfl ?_
      obtain ⟨zz19, hzz19, hr⟩ := ob hr
      obtain ⟨zq20, zt21, hzq20, hr, azt21, bzt21, czt21, dzt21⟩ := adcB_s hr
      refine j_k (kc' := zt21.2.2.1 + zq20.2.2.1) (ks' := zt21.2.2.2 + zq20.2.2.2) (by omega) (by omega) ?_
      obtain ⟨fhzz19, hzz19⟩ := rcv_sp hzz19
      refine j_callVA (ci := 2) (As := [.int p3, .int zx18]) (rest := []) (st1 := []) (pc' := 59) C ⟨wm_862, wm_863⟩ rfl hzz19 (c_X2_putLast hzq20) yw_X2_putLast wm_861 rfl rfl (Nat.le_of_ble_eq_true rfl) ⟨by decide, by decide⟩ dX11_bar_56 rfl rfl ?_
      refine j_aload (q := 0) (pc' := 61) C dX11_bar_59 rfl rfl ?_
      obtain ⟨zx22, hzx22, hr⟩ := ob hr
      refine j_getA (pc' := 64) C dX11_bar_61 fl_X11_151 hzx22 rfl ?_
      refine j_iload_n (q := 4) (pc' := 65) C dX11_bar_64 rfl rfl rfl ?_
      obtain ⟨zz23, hzz23, hr⟩ := ob hr
      obtain ⟨zx24, hzx24, hr⟩ := ob hr
      obtain ⟨fhzz23, hzz23⟩ := rcv_sp hzz23
      refine j_callV (ci := 2) (As := [.int p3]) (rest := []) (st1 := [.int zx24]) (pc' := 68) C ⟨wm_875, wm_876⟩ rfl hzz23 (c_X2_countOf (nx := ((nx + zq15.2.2.1) + zq20.2.2.1)) hzx24) yw_X2_countOf wm_874 rfl rfl (Nat.le_of_ble_eq_true rfl) ⟨by decide, by decide⟩ dX11_bar_65 rfl rfl ?_
      obtain ⟨azf25, bzf26, czf27, dzf28⟩ := some4 hr
      refine j_k (kc' := 0) (ks' := 0) (by omega) (by omega) ?_
      rw [show nx + q.2.2.1 = ((nx + zq15.2.2.1) + zq20.2.2.1) by omega, (bzt16.trans (bzt21.trans bzf26)), (azt16.trans (azt21.trans azf25))] at hq
      exact j_iret C hq hret dX11_bar_68
    · have hr := ifT hc hr
      clear hc
      refine j_iconst (v := -1) (pc' := 37) C dX11_bar_36 kI_m1 rfl ?_
      obtain ⟨azf29, bzf30, czf31, dzf32⟩ := some4 hr
      refine j_k (kc' := 0) (ks' := 0) (by omega) (by omega) ?_
      rw [show nx + q.2.2.1 = nx by omega, bzf30, azf29] at hq
      exact j_iret C hq hret dX11_bar_37
def m_X11_step (nx : Nat) (ce : Ce) (this : Nat) (p1 : Int32) : Option (Int32 × Ce × Nat × Nat) :=
  if p1 < (1 : Int32) then
    some ((-1 : Int32), ce, 0, 0)
  else
    if (500 : Int32) < p1 then
      some ((-1 : Int32), ce, 0, 0)
    else
      (gA ce 8 6 this).bind fun zx9 =>
      (gA ce 7 4 zx9).bind fun zx10 =>
      (rcv ce 6 zx10).bind fun zz11 =>
      (m_X8_isOver ce zx10).bind fun zx12 =>
      if zx12 = 0 then
        (gA ce 8 6 this).bind fun zx13 =>
        (rcv ce 7 zx13).bind fun zz14 =>
        adcB (m_X10_remember nx ce zx13) fun zq15 =>
        (gA zq15.2.1 8 6 this).bind fun zx17 =>
        (gA zq15.2.1 7 4 zx17).bind fun zx18 =>
        (rcv zq15.2.1 6 zx18).bind fun zz19 =>
        adcB (m_X8_goOn (nx + zq15.2.2.1) zq15.2.1 zx18 p1) fun zq20 =>
        some (zq20.1, zq20.2.1, 0, 0)
      else
        some ((-1 : Int32), ce, 0, 0)
set_option maxRecDepth 100000 in
set_option maxHeartbeats 4000000 in
theorem c_X11_step {nx : Nat} {ce : Ce} {this : Nat} {p1 : Int32} {q : Int32 × Ce × Nat × Nat} (hr : m_X11_step nx ce this p1 = some q) : Ct yX11_step cX11_step 2 (some .int) 8 218 q.2.2.1 q.2.2.2 [.ref this, .int p1] nx ce (some (.int q.1)) q.2.1 := by
  unfold m_X11_step at hr
  refine ct_of (by decide) (Nat.le_of_ble_eq_true rfl) ?_
  intro G C hq hret hin
  show Jd G q.2.2.1 q.2.2.2 nx ce 0 [(0, .ref this), (1, .int p1)] []
  refine j_iload_n (q := 1) (pc' := 1) C dX11_step_0 rfl rfl rfl ?_
  refine j_iconst (v := 1) (pc' := 2) C dX11_step_1 kI_1 rfl ?_
  refine j_ic_lt (tgt := 25) (pc' := 5) C dX11_step_2 rfl rfl (fun hc => ?_) (fun hc => ?_)
  · have hr := ifT hc hr
    clear hc
    refine j_iconst (v := -1) (pc' := 26) C dX11_step_25 kI_m1 rfl ?_
    obtain ⟨azf1, bzf2, czf3, dzf4⟩ := some4 hr
    refine j_k (kc' := 0) (ks' := 0) (by omega) (by omega) ?_
    rw [show nx + q.2.2.1 = nx by omega, bzf2, azf1] at hq
    exact j_iret C hq hret dX11_step_26
  · have hr := ifF hc hr
    clear hc
    refine j_iload_n (q := 1) (pc' := 6) C dX11_step_5 rfl rfl rfl ?_
    refine j_sipush (v := 500) (pc' := 9) C dX11_step_6 kS_500 rfl ?_
    refine j_ic_gt (tgt := 25) (pc' := 12) C dX11_step_9 rfl rfl (fun hc => ?_) (fun hc => ?_)
    · have hr := ifT hc hr
      clear hc
      refine j_iconst (v := -1) (pc' := 26) C dX11_step_25 kI_m1 rfl ?_
      obtain ⟨azf5, bzf6, czf7, dzf8⟩ := some4 hr
      refine j_k (kc' := 0) (ks' := 0) (by omega) (by omega) ?_
      rw [show nx + q.2.2.1 = nx by omega, bzf6, azf5] at hq
      exact j_iret C hq hret dX11_step_26
    · have hr := ifF hc hr
      clear hc
      refine j_aload_n (q := 0) (pc' := 13) C dX11_step_12 rfl rfl rfl ?_
      obtain ⟨zx9, hzx9, hr⟩ := ob hr
      refine j_getA (pc' := 16) C dX11_step_13 fl_X11_35 hzx9 rfl ?_
      obtain ⟨zx10, hzx10, hr⟩ := ob hr
      refine j_getA (pc' := 19) C dX11_step_16 fl_X11_112 hzx10 rfl ?_
      obtain ⟨zz11, hzz11, hr⟩ := ob hr
      obtain ⟨zx12, hzx12, hr⟩ := ob hr
      obtain ⟨fhzz11, hzz11⟩ := rcv_sp hzz11
      refine j_callV (ci := 6) (As := []) (rest := []) (st1 := [.int zx12]) (pc' := 22) C ⟨wm_883, wm_884⟩ rfl hzz11 (c_X8_isOver (nx := nx) hzx12) yw_X8_isOver wm_882 rfl rfl (Nat.le_of_ble_eq_true rfl) ⟨by decide, by decide⟩ dX11_step_19 rfl rfl ?_
      refine j_if_eq (tgt := 27) (pc' := 25) C dX11_step_22 rfl rfl (fun hc => ?_) (fun hc => ?_)
      · have hr := ifT hc hr
        clear hc
        refine j_aload_n (q := 0) (pc' := 28) C dX11_step_27 rfl rfl rfl ?_
        obtain ⟨zx13, hzx13, hr⟩ := ob hr
        refine j_getA (pc' := 31) C dX11_step_28 fl_X11_35 hzx13 rfl ?_
        obtain ⟨zz14, hzz14, hr⟩ := ob hr
        obtain ⟨zq15, zt16, hzq15, hr, azt16, bzt16, czt16, dzt16⟩ := adcB_s hr
        refine j_k (kc' := zt16.2.2.1 + zq15.2.2.1) (ks' := zt16.2.2.2 + zq15.2.2.2) (by omega) (by omega) ?_
        obtain ⟨fhzz14, hzz14⟩ := rcv_sp hzz14
        refine j_callVA (ci := 7) (As := []) (rest := []) (st1 := []) (pc' := 34) C ⟨wm_727, wm_728⟩ rfl hzz14 (c_X10_remember hzq15) yw_X10_remember wm_726 rfl rfl (Nat.le_of_ble_eq_true rfl) ⟨by decide, by decide⟩ dX11_step_31 rfl rfl ?_
        refine j_aload_n (q := 0) (pc' := 35) C dX11_step_34 rfl rfl rfl ?_
        obtain ⟨zx17, hzx17, hr⟩ := ob hr
        refine j_getA (pc' := 38) C dX11_step_35 fl_X11_35 hzx17 rfl ?_
        obtain ⟨zx18, hzx18, hr⟩ := ob hr
        refine j_getA (pc' := 41) C dX11_step_38 fl_X11_112 hzx18 rfl ?_
        refine j_iload_n (q := 1) (pc' := 42) C dX11_step_41 rfl rfl rfl ?_
        obtain ⟨zz19, hzz19, hr⟩ := ob hr
        obtain ⟨zq20, zt21, hzq20, hr, azt21, bzt21, czt21, dzt21⟩ := adcB_s hr
        refine j_k (kc' := zt21.2.2.1 + zq20.2.2.1) (ks' := zt21.2.2.2 + zq20.2.2.2) (by omega) (by omega) ?_
        obtain ⟨fhzz19, hzz19⟩ := rcv_sp hzz19
        refine j_callVA (ci := 6) (As := [.int p1]) (rest := []) (st1 := [.int zq20.1]) (pc' := 45) C ⟨wm_887, wm_888⟩ rfl hzz19 (c_X8_goOn hzq20) yw_X8_goOn wm_886 rfl rfl (Nat.le_of_ble_eq_true rfl) ⟨by decide, by decide⟩ dX11_step_42 rfl rfl ?_
        obtain ⟨azf22, bzf23, czf24, dzf25⟩ := some4 hr
        refine j_k (kc' := 0) (ks' := 0) (by omega) (by omega) ?_
        rw [show nx + q.2.2.1 = ((nx + zq15.2.2.1) + zq20.2.2.1) by omega, (bzt16.trans (bzt21.trans bzf23)), (azt16.trans (azt21.trans azf22))] at hq
        exact j_iret C hq hret dX11_step_45
      · have hr := ifF hc hr
        clear hc
        refine j_iconst (v := -1) (pc' := 26) C dX11_step_25 kI_m1 rfl ?_
        obtain ⟨azf26, bzf27, czf28, dzf29⟩ := some4 hr
        refine j_k (kc' := 0) (ks' := 0) (by omega) (by omega) ?_
        rw [show nx + q.2.2.1 = nx by omega, bzf27, azf26] at hq
        exact j_iret C hq hret dX11_step_26
def m_X11_undo (nx : Nat) (ce : Ce) (this : Nat) : Option (Int32 × Ce × Nat × Nat) :=
  (gA ce 8 6 this).bind fun zx1 =>
  (rcv ce 7 zx1).bind fun zz2 =>
  adcB (m_X10_takeBack nx ce zx1) fun zq3 =>
  some (zq3.1, zq3.2.1, 0, 0)
set_option maxRecDepth 100000 in
set_option maxHeartbeats 4000000 in
theorem c_X11_undo {nx : Nat} {ce : Ce} {this : Nat} {q : Int32 × Ce × Nat × Nat} (hr : m_X11_undo nx ce this = some q) : Ct yX11_undo cX11_undo 1 (some .int) 6 166 q.2.2.1 q.2.2.2 [.ref this] nx ce (some (.int q.1)) q.2.1 := by
  unfold m_X11_undo at hr
  refine ct_of (by decide) (Nat.le_of_ble_eq_true rfl) ?_
  intro G C hq hret hin
  show Jd G q.2.2.1 q.2.2.2 nx ce 0 [(0, .ref this)] []
  refine j_aload_n (q := 0) (pc' := 1) C dX11_undo_0 rfl rfl rfl ?_
  obtain ⟨zx1, hzx1, hr⟩ := ob hr
  refine j_getA (pc' := 4) C dX11_undo_1 fl_X11_35 hzx1 rfl ?_
  obtain ⟨zz2, hzz2, hr⟩ := ob hr
  obtain ⟨zq3, zt4, hzq3, hr, azt4, bzt4, czt4, dzt4⟩ := adcB_s hr
  refine j_k (kc' := zt4.2.2.1 + zq3.2.2.1) (ks' := zt4.2.2.2 + zq3.2.2.2) (by omega) (by omega) ?_
  obtain ⟨fhzz2, hzz2⟩ := rcv_sp hzz2
  refine j_callVA (ci := 7) (As := []) (rest := []) (st1 := [.int zq3.1]) (pc' := 7) C ⟨wm_1008, wm_1009⟩ rfl hzz2 (c_X10_takeBack hzq3) yw_X10_takeBack wm_1007 rfl rfl (Nat.le_of_ble_eq_true rfl) ⟨by decide, by decide⟩ dX11_undo_4 rfl rfl ?_
  obtain ⟨azf5, bzf6, czf7, dzf8⟩ := some4 hr
  refine j_k (kc' := 0) (ks' := 0) (by omega) (by omega) ?_
  rw [show nx + q.2.2.1 = (nx + zq3.2.2.1) by omega, (bzt4.trans bzf6), (azt4.trans azf5)] at hq
  exact j_iret C hq hret dX11_undo_7
def m_X11_is (ce : Ce) (this : Nat) (p1 : Int32) : Option (Int32) :=
  (gA ce 8 6 this).bind fun zx1 =>
  (gA ce 7 4 zx1).bind fun zx2 =>
  if p1 = (0 : Int32) then
    (gA ce 6 0 zx2).bind fun zx3 =>
    (gI ce 3 0 zx3).bind fun zx4 =>
    some zx4
  else
  if p1 = (1 : Int32) then
    (gI ce 6 4 zx2).bind fun zx5 =>
    some zx5
  else
  if p1 = (2 : Int32) then
    (gI ce 6 3 zx2).bind fun zx6 =>
    some zx6
  else
  if p1 = (3 : Int32) then
    (gI ce 6 3 zx2).bind fun zx7 =>
    if zx7 = (2 : Int32) then
      (gI ce 6 5 zx2).bind fun zx8 =>
      some zx8
    else
      some (-1 : Int32)
  else
  if p1 = (4 : Int32) then
    (gA ce 6 0 zx2).bind fun zx9 =>
    (gA ce 3 4 zx9).bind fun zx10 =>
    (alen ce zx10).bind fun zx11 =>
    some zx11
  else
  if p1 = (5 : Int32) then
    (gI ce 6 1 zx2).bind fun zx12 =>
    some zx12
  else
  if p1 = (6 : Int32) then
    (gA ce 6 12 zx2).bind fun zx13 =>
    (gI ce 4 1 zx13).bind fun zx14 =>
    some zx14
  else
  if p1 = (7 : Int32) then
    (gI ce 6 6 zx2).bind fun zx15 =>
    some zx15
  else
  if p1 = (8 : Int32) then
    (gI ce 6 7 zx2).bind fun zx16 =>
    some zx16
  else
  if p1 = (9 : Int32) then
    (gI ce 6 8 zx2).bind fun zx17 =>
    some zx17
  else
  if p1 = (10 : Int32) then
    (gI ce 6 9 zx2).bind fun zx18 =>
    some zx18
  else
  if p1 = (11 : Int32) then
    (gI ce 6 10 zx2).bind fun zx19 =>
    some zx19
  else
  some (-1 : Int32)
set_option maxRecDepth 100000 in
set_option maxHeartbeats 4000000 in
theorem c_X11_is {nx : Nat} {ce : Ce} {this : Nat} {p1 : Int32} {q : Int32} (hr : m_X11_is ce this p1 = some q) : Ct yX11_is cX11_is 3 (some .int) 0 0 0 0 [.ref this, .int p1] nx ce (some (.int q)) ce := by
  unfold m_X11_is at hr
  refine ct_of (by decide) (Nat.le_of_ble_eq_true rfl) ?_
  intro G C hq hret hin
  show Jd G 0 0 nx ce 0 [(0, .ref this), (1, .int p1)] []
  refine j_aload_n (q := 0) (pc' := 1) C dX11_is_0 rfl rfl rfl ?_
  obtain ⟨zx1, hzx1, hr⟩ := ob hr
  refine j_getA (pc' := 4) C dX11_is_1 fl_X11_35 hzx1 rfl ?_
  obtain ⟨zx2, hzx2, hr⟩ := ob hr
  refine j_getA (pc' := 7) C dX11_is_4 fl_X11_112 hzx2 rfl ?_
  refine j_astore_n (lv' := [(2, .ref zx2), (0, .ref this), (1, .int p1)]) (pc' := 8) C dX11_is_7 rfl (by decide) rfl rfl ?_
  refine j_iload_n (q := 2) (pc' := 9) C dX11_is_8 rfl rfl rfl ?_
  by_cases hc0 : p1 = (0 : Int32)
  · have hr := ifT hc0 hr
    refine j_tabIn (v := 0) (off := 63) (tgt := 72) C dX11_is_9 hc0 (by decide) rfl ?_
    refine j_aload_n (q := 0) (pc' := 73) C dX11_is_72 rfl rfl rfl ?_
    obtain ⟨zx3, hzx3, hr⟩ := ob hr
    refine j_getA (pc' := 76) C dX11_is_73 fl_X11_125 hzx3 rfl ?_
    obtain ⟨zx4, hzx4, hr⟩ := ob hr
    refine j_getI (pc' := 79) C dX11_is_76 fl_X11_118 hzx4 rfl ?_
    have hr := Option.some.inj hr
    subst hr
    exact j_iret C hq hret dX11_is_79
  have hr := ifF hc0 hr
  by_cases hc1 : p1 = (1 : Int32)
  · have hr := ifT hc1 hr
    refine j_tabIn (v := 1) (off := 71) (tgt := 80) C dX11_is_9 hc1 (by decide) rfl ?_
    refine j_aload_n (q := 0) (pc' := 81) C dX11_is_80 rfl rfl rfl ?_
    obtain ⟨zx5, hzx5, hr⟩ := ob hr
    refine j_getI (pc' := 84) C dX11_is_81 fl_X11_173 hzx5 rfl ?_
    have hr := Option.some.inj hr
    subst hr
    exact j_iret C hq hret dX11_is_84
  have hr := ifF hc1 hr
  by_cases hc2 : p1 = (2 : Int32)
  · have hr := ifT hc2 hr
    refine j_tabIn (v := 2) (off := 76) (tgt := 85) C dX11_is_9 hc2 (by decide) rfl ?_
    refine j_aload_n (q := 0) (pc' := 86) C dX11_is_85 rfl rfl rfl ?_
    obtain ⟨zx6, hzx6, hr⟩ := ob hr
    refine j_getI (pc' := 89) C dX11_is_86 fl_X11_176 hzx6 rfl ?_
    have hr := Option.some.inj hr
    subst hr
    exact j_iret C hq hret dX11_is_89
  have hr := ifF hc2 hr
  by_cases hc3 : p1 = (3 : Int32)
  · have hr := ifT hc3 hr
    refine j_tabIn (v := 3) (off := 81) (tgt := 90) C dX11_is_9 hc3 (by decide) rfl ?_
    refine j_aload_n (q := 0) (pc' := 91) C dX11_is_90 rfl rfl rfl ?_
    obtain ⟨zx7, hzx7, hr⟩ := ob hr
    refine j_getI (pc' := 94) C dX11_is_91 fl_X11_176 hzx7 rfl ?_
    refine j_iconst (v := 2) (pc' := 95) C dX11_is_94 kI_2 rfl ?_
    refine j_ic_ne (tgt := 105) (pc' := 98) C dX11_is_95 rfl rfl (fun hc => ?_) (fun hc => ?_)
    · have hr := ifF hc hr
      clear hc
      refine j_iconst (v := -1) (pc' := 106) C dX11_is_105 kI_m1 rfl ?_
      have hr := Option.some.inj hr
      subst hr
      exact j_iret C hq hret dX11_is_106
    · have hr := ifT hc hr
      clear hc
      refine j_aload_n (q := 0) (pc' := 99) C dX11_is_98 rfl rfl rfl ?_
      obtain ⟨zx8, hzx8, hr⟩ := ob hr
      refine j_getI (pc' := 102) C dX11_is_99 fl_X11_179 hzx8 rfl ?_
      refine j_goto (tgt := 106) C dX11_is_102 rfl ?_
      have hr := Option.some.inj hr
      subst hr
      exact j_iret C hq hret dX11_is_106
  have hr := ifF hc3 hr
  by_cases hc4 : p1 = (4 : Int32)
  · have hr := ifT hc4 hr
    refine j_tabIn (v := 4) (off := 98) (tgt := 107) C dX11_is_9 hc4 (by decide) rfl ?_
    refine j_aload_n (q := 0) (pc' := 108) C dX11_is_107 rfl rfl rfl ?_
    obtain ⟨zx9, hzx9, hr⟩ := ob hr
    refine j_getA (pc' := 111) C dX11_is_108 fl_X11_125 hzx9 rfl ?_
    obtain ⟨zx10, hzx10, hr⟩ := ob hr
    refine j_getA (pc' := 114) C dX11_is_111 fl_X11_182 hzx10 rfl ?_
    obtain ⟨zx11, hzx11, hr⟩ := ob hr
    refine j_alen (pc' := 115) C dX11_is_114 hzx11 rfl ?_
    have hr := Option.some.inj hr
    subst hr
    exact j_iret C hq hret dX11_is_115
  have hr := ifF hc4 hr
  by_cases hc5 : p1 = (5 : Int32)
  · have hr := ifT hc5 hr
    refine j_tabIn (v := 5) (off := 107) (tgt := 116) C dX11_is_9 hc5 (by decide) rfl ?_
    refine j_aload_n (q := 0) (pc' := 117) C dX11_is_116 rfl rfl rfl ?_
    obtain ⟨zx12, hzx12, hr⟩ := ob hr
    refine j_getI (pc' := 120) C dX11_is_117 fl_X11_185 hzx12 rfl ?_
    have hr := Option.some.inj hr
    subst hr
    exact j_iret C hq hret dX11_is_120
  have hr := ifF hc5 hr
  by_cases hc6 : p1 = (6 : Int32)
  · have hr := ifT hc6 hr
    refine j_tabIn (v := 6) (off := 112) (tgt := 121) C dX11_is_9 hc6 (by decide) rfl ?_
    refine j_aload_n (q := 0) (pc' := 122) C dX11_is_121 rfl rfl rfl ?_
    obtain ⟨zx13, hzx13, hr⟩ := ob hr
    refine j_getA (pc' := 125) C dX11_is_122 fl_X11_188 hzx13 rfl ?_
    obtain ⟨zx14, hzx14, hr⟩ := ob hr
    refine j_getI (pc' := 128) C dX11_is_125 fl_X11_192 hzx14 rfl ?_
    have hr := Option.some.inj hr
    subst hr
    exact j_iret C hq hret dX11_is_128
  have hr := ifF hc6 hr
  by_cases hc7 : p1 = (7 : Int32)
  · have hr := ifT hc7 hr
    refine j_tabIn (v := 7) (off := 120) (tgt := 129) C dX11_is_9 hc7 (by decide) rfl ?_
    refine j_aload_n (q := 0) (pc' := 130) C dX11_is_129 rfl rfl rfl ?_
    obtain ⟨zx15, hzx15, hr⟩ := ob hr
    refine j_getI (pc' := 133) C dX11_is_130 fl_X11_197 hzx15 rfl ?_
    have hr := Option.some.inj hr
    subst hr
    exact j_iret C hq hret dX11_is_133
  have hr := ifF hc7 hr
  by_cases hc8 : p1 = (8 : Int32)
  · have hr := ifT hc8 hr
    refine j_tabIn (v := 8) (off := 125) (tgt := 134) C dX11_is_9 hc8 (by decide) rfl ?_
    refine j_aload_n (q := 0) (pc' := 135) C dX11_is_134 rfl rfl rfl ?_
    obtain ⟨zx16, hzx16, hr⟩ := ob hr
    refine j_getI (pc' := 138) C dX11_is_135 fl_X11_200 hzx16 rfl ?_
    have hr := Option.some.inj hr
    subst hr
    exact j_iret C hq hret dX11_is_138
  have hr := ifF hc8 hr
  by_cases hc9 : p1 = (9 : Int32)
  · have hr := ifT hc9 hr
    refine j_tabIn (v := 9) (off := 130) (tgt := 139) C dX11_is_9 hc9 (by decide) rfl ?_
    refine j_aload_n (q := 0) (pc' := 140) C dX11_is_139 rfl rfl rfl ?_
    obtain ⟨zx17, hzx17, hr⟩ := ob hr
    refine j_getI (pc' := 143) C dX11_is_140 fl_X11_203 hzx17 rfl ?_
    have hr := Option.some.inj hr
    subst hr
    exact j_iret C hq hret dX11_is_143
  have hr := ifF hc9 hr
  by_cases hc10 : p1 = (10 : Int32)
  · have hr := ifT hc10 hr
    refine j_tabIn (v := 10) (off := 135) (tgt := 144) C dX11_is_9 hc10 (by decide) rfl ?_
    refine j_aload_n (q := 0) (pc' := 145) C dX11_is_144 rfl rfl rfl ?_
    obtain ⟨zx18, hzx18, hr⟩ := ob hr
    refine j_getI (pc' := 148) C dX11_is_145 fl_X11_206 hzx18 rfl ?_
    have hr := Option.some.inj hr
    subst hr
    exact j_iret C hq hret dX11_is_148
  have hr := ifF hc10 hr
  by_cases hc11 : p1 = (11 : Int32)
  · have hr := ifT hc11 hr
    refine j_tabIn (v := 11) (off := 140) (tgt := 149) C dX11_is_9 hc11 (by decide) rfl ?_
    refine j_aload_n (q := 0) (pc' := 150) C dX11_is_149 rfl rfl rfl ?_
    obtain ⟨zx19, hzx19, hr⟩ := ob hr
    refine j_getI (pc' := 153) C dX11_is_150 fl_X11_209 hzx19 rfl ?_
    have hr := Option.some.inj hr
    subst hr
    exact j_iret C hq hret dX11_is_153
  have hr := ifF hc11 hr
  refine j_tabOut (tgt := 154) C dX11_is_9 (tab_out 12 (by decide) (by decide) (by decide) (fun i hi => by
    match i, hi with
    | 0, _ => exact hc0
    | 1, _ => exact hc1
    | 2, _ => exact hc2
    | 3, _ => exact hc3
    | 4, _ => exact hc4
    | 5, _ => exact hc5
    | 6, _ => exact hc6
    | 7, _ => exact hc7
    | 8, _ => exact hc8
    | 9, _ => exact hc9
    | 10, _ => exact hc10
    | 11, _ => exact hc11
    | i + 12, hi => omega)) rfl ?_
  refine j_iconst (v := -1) (pc' := 155) C dX11_is_154 kI_m1 rfl ?_
  have hr := Option.some.inj hr
  subst hr
  exact j_iret C hq hret dX11_is_155
def m_X11_successor (ce : Ce) (this : Nat) (p1 : Int32) (p2 : Int32) : Option (Int32) :=
  (gA ce 8 6 this).bind fun zx1 =>
  (gA ce 7 4 zx1).bind fun zx2 =>
  (gA ce 6 0 zx2).bind fun zx3 =>
  (rcv ce 3 zx3).bind fun zz4 =>
  (m_X5_hasState ce zx3 p1).bind fun zx5 =>
  if zx5 = 0 then
    some (-1 : Int32)
  else
    if p2 < 0 then
      some (-1 : Int32)
    else
      if p2 < (4 : Int32) then
        (rcv ce 3 zx3).bind fun zz6 =>
        (m_X5_next ce zx3 p1 p2).bind fun zx7 =>
        some zx7
      else
        some (-1 : Int32)
set_option maxRecDepth 100000 in
set_option maxHeartbeats 4000000 in
theorem c_X11_successor {nx : Nat} {ce : Ce} {this : Nat} {p1 : Int32} {p2 : Int32} {q : Int32} (hr : m_X11_successor ce this p1 p2 = some q) : Ct yX11_successor cX11_successor 4 (some .int) 1 23 0 0 [.ref this, .int p1, .int p2] nx ce (some (.int q)) ce := by
  unfold m_X11_successor at hr
  refine ct_of (by decide) (Nat.le_of_ble_eq_true rfl) ?_
  intro G C hq hret hin
  show Jd G 0 0 nx ce 0 [(0, .ref this), (1, .int p1), (2, .int p2)] []
  refine j_aload_n (q := 0) (pc' := 1) C dX11_successor_0 rfl rfl rfl ?_
  obtain ⟨zx1, hzx1, hr⟩ := ob hr
  refine j_getA (pc' := 4) C dX11_successor_1 fl_X11_35 hzx1 rfl ?_
  obtain ⟨zx2, hzx2, hr⟩ := ob hr
  refine j_getA (pc' := 7) C dX11_successor_4 fl_X11_112 hzx2 rfl ?_
  obtain ⟨zx3, hzx3, hr⟩ := ob hr
  refine j_getA (pc' := 10) C dX11_successor_7 fl_X11_125 hzx3 rfl ?_
  refine j_astore_n (lv' := [(3, .ref zx3), (0, .ref this), (1, .int p1), (2, .int p2)]) (pc' := 11) C dX11_successor_10 rfl (by decide) rfl rfl ?_
  refine j_aload_n (q := 0) (pc' := 12) C dX11_successor_11 rfl rfl rfl ?_
  refine j_iload_n (q := 2) (pc' := 13) C dX11_successor_12 rfl rfl rfl ?_
  obtain ⟨zz4, hzz4, hr⟩ := ob hr
  obtain ⟨zx5, hzx5, hr⟩ := ob hr
  obtain ⟨fhzz4, hzz4⟩ := rcv_sp hzz4
  refine j_callV (ci := 3) (As := [.int p1]) (rest := []) (st1 := [.int zx5]) (pc' := 16) C ⟨wm_1020, wm_1021⟩ rfl hzz4 (c_X5_hasState (nx := nx) hzx5) yw_X5_hasState wm_1019 rfl rfl (Nat.le_of_ble_eq_true rfl) ⟨by decide, by decide⟩ dX11_successor_13 rfl rfl ?_
  refine j_if_eq (tgt := 28) (pc' := 19) C dX11_successor_16 rfl rfl (fun hc => ?_) (fun hc => ?_)
  · have hr := ifT hc hr
    clear hc
    refine j_iconst (v := -1) (pc' := 29) C dX11_successor_28 kI_m1 rfl ?_
    have hr := Option.some.inj hr
    subst hr
    exact j_iret C hq hret dX11_successor_29
  · have hr := ifF hc hr
    clear hc
    refine j_iload_n (q := 3) (pc' := 20) C dX11_successor_19 rfl rfl rfl ?_
    refine j_if_lt (tgt := 28) (pc' := 23) C dX11_successor_20 rfl rfl (fun hc => ?_) (fun hc => ?_)
    · have hr := ifT hc hr
      clear hc
      refine j_iconst (v := -1) (pc' := 29) C dX11_successor_28 kI_m1 rfl ?_
      have hr := Option.some.inj hr
      subst hr
      exact j_iret C hq hret dX11_successor_29
    · have hr := ifF hc hr
      clear hc
      refine j_iload_n (q := 3) (pc' := 24) C dX11_successor_23 rfl rfl rfl ?_
      refine j_iconst (v := 4) (pc' := 25) C dX11_successor_24 kI_4 rfl ?_
      refine j_ic_lt (tgt := 30) (pc' := 28) C dX11_successor_25 rfl rfl (fun hc => ?_) (fun hc => ?_)
      · have hr := ifT hc hr
        clear hc
        refine j_aload_n (q := 0) (pc' := 31) C dX11_successor_30 rfl rfl rfl ?_
        refine j_iload_n (q := 2) (pc' := 32) C dX11_successor_31 rfl rfl rfl ?_
        refine j_iload_n (q := 3) (pc' := 33) C dX11_successor_32 rfl rfl rfl ?_
        obtain ⟨zz6, hzz6, hr⟩ := ob hr
        obtain ⟨zx7, hzx7, hr⟩ := ob hr
        obtain ⟨fhzz6, hzz6⟩ := rcv_sp hzz6
        refine j_callV (ci := 3) (As := [.int p1, .int p2]) (rest := []) (st1 := [.int zx7]) (pc' := 36) C ⟨wm_1024, wm_1025⟩ rfl hzz6 (c_X5_next (nx := nx) hzx7) yw_X5_next wm_1023 rfl rfl (Nat.le_of_ble_eq_true rfl) ⟨by decide, by decide⟩ dX11_successor_33 rfl rfl ?_
        have hr := Option.some.inj hr
        subst hr
        exact j_iret C hq hret dX11_successor_36
      · have hr := ifF hc hr
        clear hc
        refine j_iconst (v := -1) (pc' := 29) C dX11_successor_28 kI_m1 rfl ?_
        have hr := Option.some.inj hr
        subst hr
        exact j_iret C hq hret dX11_successor_29
def m_J13_bitCount_95d88 (p0 : Int64) : Option (Int32) :=
  some ((Int64.toInt32 ((((((((p0 - ((usr64 p0 (1 : Int32)) &&& (6148914691236517205 : Int64))) &&& (3689348814741910323 : Int64)) + ((usr64 (p0 - ((usr64 p0 (1 : Int32)) &&& (6148914691236517205 : Int64))) (2 : Int32)) &&& (3689348814741910323 : Int64))) + (usr64 (((p0 - ((usr64 p0 (1 : Int32)) &&& (6148914691236517205 : Int64))) &&& (3689348814741910323 : Int64)) + ((usr64 (p0 - ((usr64 p0 (1 : Int32)) &&& (6148914691236517205 : Int64))) (2 : Int32)) &&& (3689348814741910323 : Int64))) (4 : Int32))) &&& (1085102592571150095 : Int64)) + (usr64 (((((p0 - ((usr64 p0 (1 : Int32)) &&& (6148914691236517205 : Int64))) &&& (3689348814741910323 : Int64)) + ((usr64 (p0 - ((usr64 p0 (1 : Int32)) &&& (6148914691236517205 : Int64))) (2 : Int32)) &&& (3689348814741910323 : Int64))) + (usr64 (((p0 - ((usr64 p0 (1 : Int32)) &&& (6148914691236517205 : Int64))) &&& (3689348814741910323 : Int64)) + ((usr64 (p0 - ((usr64 p0 (1 : Int32)) &&& (6148914691236517205 : Int64))) (2 : Int32)) &&& (3689348814741910323 : Int64))) (4 : Int32))) &&& (1085102592571150095 : Int64)) (8 : Int32))) + (usr64 ((((((p0 - ((usr64 p0 (1 : Int32)) &&& (6148914691236517205 : Int64))) &&& (3689348814741910323 : Int64)) + ((usr64 (p0 - ((usr64 p0 (1 : Int32)) &&& (6148914691236517205 : Int64))) (2 : Int32)) &&& (3689348814741910323 : Int64))) + (usr64 (((p0 - ((usr64 p0 (1 : Int32)) &&& (6148914691236517205 : Int64))) &&& (3689348814741910323 : Int64)) + ((usr64 (p0 - ((usr64 p0 (1 : Int32)) &&& (6148914691236517205 : Int64))) (2 : Int32)) &&& (3689348814741910323 : Int64))) (4 : Int32))) &&& (1085102592571150095 : Int64)) + (usr64 (((((p0 - ((usr64 p0 (1 : Int32)) &&& (6148914691236517205 : Int64))) &&& (3689348814741910323 : Int64)) + ((usr64 (p0 - ((usr64 p0 (1 : Int32)) &&& (6148914691236517205 : Int64))) (2 : Int32)) &&& (3689348814741910323 : Int64))) + (usr64 (((p0 - ((usr64 p0 (1 : Int32)) &&& (6148914691236517205 : Int64))) &&& (3689348814741910323 : Int64)) + ((usr64 (p0 - ((usr64 p0 (1 : Int32)) &&& (6148914691236517205 : Int64))) (2 : Int32)) &&& (3689348814741910323 : Int64))) (4 : Int32))) &&& (1085102592571150095 : Int64)) (8 : Int32))) (16 : Int32))) + (usr64 (((((((p0 - ((usr64 p0 (1 : Int32)) &&& (6148914691236517205 : Int64))) &&& (3689348814741910323 : Int64)) + ((usr64 (p0 - ((usr64 p0 (1 : Int32)) &&& (6148914691236517205 : Int64))) (2 : Int32)) &&& (3689348814741910323 : Int64))) + (usr64 (((p0 - ((usr64 p0 (1 : Int32)) &&& (6148914691236517205 : Int64))) &&& (3689348814741910323 : Int64)) + ((usr64 (p0 - ((usr64 p0 (1 : Int32)) &&& (6148914691236517205 : Int64))) (2 : Int32)) &&& (3689348814741910323 : Int64))) (4 : Int32))) &&& (1085102592571150095 : Int64)) + (usr64 (((((p0 - ((usr64 p0 (1 : Int32)) &&& (6148914691236517205 : Int64))) &&& (3689348814741910323 : Int64)) + ((usr64 (p0 - ((usr64 p0 (1 : Int32)) &&& (6148914691236517205 : Int64))) (2 : Int32)) &&& (3689348814741910323 : Int64))) + (usr64 (((p0 - ((usr64 p0 (1 : Int32)) &&& (6148914691236517205 : Int64))) &&& (3689348814741910323 : Int64)) + ((usr64 (p0 - ((usr64 p0 (1 : Int32)) &&& (6148914691236517205 : Int64))) (2 : Int32)) &&& (3689348814741910323 : Int64))) (4 : Int32))) &&& (1085102592571150095 : Int64)) (8 : Int32))) + (usr64 ((((((p0 - ((usr64 p0 (1 : Int32)) &&& (6148914691236517205 : Int64))) &&& (3689348814741910323 : Int64)) + ((usr64 (p0 - ((usr64 p0 (1 : Int32)) &&& (6148914691236517205 : Int64))) (2 : Int32)) &&& (3689348814741910323 : Int64))) + (usr64 (((p0 - ((usr64 p0 (1 : Int32)) &&& (6148914691236517205 : Int64))) &&& (3689348814741910323 : Int64)) + ((usr64 (p0 - ((usr64 p0 (1 : Int32)) &&& (6148914691236517205 : Int64))) (2 : Int32)) &&& (3689348814741910323 : Int64))) (4 : Int32))) &&& (1085102592571150095 : Int64)) + (usr64 (((((p0 - ((usr64 p0 (1 : Int32)) &&& (6148914691236517205 : Int64))) &&& (3689348814741910323 : Int64)) + ((usr64 (p0 - ((usr64 p0 (1 : Int32)) &&& (6148914691236517205 : Int64))) (2 : Int32)) &&& (3689348814741910323 : Int64))) + (usr64 (((p0 - ((usr64 p0 (1 : Int32)) &&& (6148914691236517205 : Int64))) &&& (3689348814741910323 : Int64)) + ((usr64 (p0 - ((usr64 p0 (1 : Int32)) &&& (6148914691236517205 : Int64))) (2 : Int32)) &&& (3689348814741910323 : Int64))) (4 : Int32))) &&& (1085102592571150095 : Int64)) (8 : Int32))) (16 : Int32))) (32 : Int32)))) &&& (127 : Int32))
set_option maxRecDepth 100000 in
set_option maxHeartbeats 4000000 in
theorem c_J13_bitCount_95d88 {nx : Nat} {ce : Ce} {p0 : Int64} {q : Int32} (hr : m_J13_bitCount_95d88 p0 = some q) : Ct yJ13_bitCount_95d88 cJ13_bitCount_95d88 2 (some .int) 0 0 0 0 [.long p0] nx ce (some (.int q)) ce := by
  unfold m_J13_bitCount_95d88 at hr
  refine ct_of (by decide) (Nat.le_of_ble_eq_true rfl) ?_
  intro G C hq hret hin
  show Jd G 0 0 nx ce 0 [(0, .long p0)] []
  refine j_lload_n (q := 0) (pc' := 1) C dJ13_bitCount_95d88_0 rfl rfl rfl ?_
  refine j_lload_n (q := 0) (pc' := 2) C dJ13_bitCount_95d88_1 rfl rfl rfl ?_
  refine j_iconst (v := 1) (pc' := 3) C dJ13_bitCount_95d88_2 kI_1 rfl ?_
  refine j_lushr (pc' := 4) C dJ13_bitCount_95d88_3 rfl ?_
  refine j_ldc2 (pc' := 7) C dJ13_bitCount_95d88_4 wm_1038 rfl ?_
  refine j_land (pc' := 8) C dJ13_bitCount_95d88_7 rfl ?_
  refine j_lsub (pc' := 9) C dJ13_bitCount_95d88_8 rfl ?_
  refine j_lstore_n (lv' := [(0, .long (p0 - ((usr64 p0 (1 : Int32)) &&& (6148914691236517205 : Int64))))]) (pc' := 10) C dJ13_bitCount_95d88_9 rfl (by decide) rfl rfl ?_
  refine j_lload_n (q := 0) (pc' := 11) C dJ13_bitCount_95d88_10 rfl rfl rfl ?_
  refine j_ldc2 (pc' := 14) C dJ13_bitCount_95d88_11 wm_1039 rfl ?_
  refine j_land (pc' := 15) C dJ13_bitCount_95d88_14 rfl ?_
  refine j_lload_n (q := 0) (pc' := 16) C dJ13_bitCount_95d88_15 rfl rfl rfl ?_
  refine j_iconst (v := 2) (pc' := 17) C dJ13_bitCount_95d88_16 kI_2 rfl ?_
  refine j_lushr (pc' := 18) C dJ13_bitCount_95d88_17 rfl ?_
  refine j_ldc2 (pc' := 21) C dJ13_bitCount_95d88_18 wm_1039 rfl ?_
  refine j_land (pc' := 22) C dJ13_bitCount_95d88_21 rfl ?_
  refine j_ladd (pc' := 23) C dJ13_bitCount_95d88_22 rfl ?_
  refine j_lstore_n (lv' := [(0, .long (((p0 - ((usr64 p0 (1 : Int32)) &&& (6148914691236517205 : Int64))) &&& (3689348814741910323 : Int64)) + ((usr64 (p0 - ((usr64 p0 (1 : Int32)) &&& (6148914691236517205 : Int64))) (2 : Int32)) &&& (3689348814741910323 : Int64))))]) (pc' := 24) C dJ13_bitCount_95d88_23 rfl (by decide) rfl rfl ?_
  refine j_lload_n (q := 0) (pc' := 25) C dJ13_bitCount_95d88_24 rfl rfl rfl ?_
  refine j_lload_n (q := 0) (pc' := 26) C dJ13_bitCount_95d88_25 rfl rfl rfl ?_
  refine j_iconst (v := 4) (pc' := 27) C dJ13_bitCount_95d88_26 kI_4 rfl ?_
  refine j_lushr (pc' := 28) C dJ13_bitCount_95d88_27 rfl ?_
  refine j_ladd (pc' := 29) C dJ13_bitCount_95d88_28 rfl ?_
  refine j_ldc2 (pc' := 32) C dJ13_bitCount_95d88_29 wm_1040 rfl ?_
  refine j_land (pc' := 33) C dJ13_bitCount_95d88_32 rfl ?_
  refine j_lstore_n (lv' := [(0, .long (((((p0 - ((usr64 p0 (1 : Int32)) &&& (6148914691236517205 : Int64))) &&& (3689348814741910323 : Int64)) + ((usr64 (p0 - ((usr64 p0 (1 : Int32)) &&& (6148914691236517205 : Int64))) (2 : Int32)) &&& (3689348814741910323 : Int64))) + (usr64 (((p0 - ((usr64 p0 (1 : Int32)) &&& (6148914691236517205 : Int64))) &&& (3689348814741910323 : Int64)) + ((usr64 (p0 - ((usr64 p0 (1 : Int32)) &&& (6148914691236517205 : Int64))) (2 : Int32)) &&& (3689348814741910323 : Int64))) (4 : Int32))) &&& (1085102592571150095 : Int64)))]) (pc' := 34) C dJ13_bitCount_95d88_33 rfl (by decide) rfl rfl ?_
  refine j_lload_n (q := 0) (pc' := 35) C dJ13_bitCount_95d88_34 rfl rfl rfl ?_
  refine j_lload_n (q := 0) (pc' := 36) C dJ13_bitCount_95d88_35 rfl rfl rfl ?_
  refine j_bipush (v := 8) (pc' := 38) C dJ13_bitCount_95d88_36 kB_8 rfl ?_
  refine j_lushr (pc' := 39) C dJ13_bitCount_95d88_38 rfl ?_
  refine j_ladd (pc' := 40) C dJ13_bitCount_95d88_39 rfl ?_
  refine j_lstore_n (lv' := [(0, .long ((((((p0 - ((usr64 p0 (1 : Int32)) &&& (6148914691236517205 : Int64))) &&& (3689348814741910323 : Int64)) + ((usr64 (p0 - ((usr64 p0 (1 : Int32)) &&& (6148914691236517205 : Int64))) (2 : Int32)) &&& (3689348814741910323 : Int64))) + (usr64 (((p0 - ((usr64 p0 (1 : Int32)) &&& (6148914691236517205 : Int64))) &&& (3689348814741910323 : Int64)) + ((usr64 (p0 - ((usr64 p0 (1 : Int32)) &&& (6148914691236517205 : Int64))) (2 : Int32)) &&& (3689348814741910323 : Int64))) (4 : Int32))) &&& (1085102592571150095 : Int64)) + (usr64 (((((p0 - ((usr64 p0 (1 : Int32)) &&& (6148914691236517205 : Int64))) &&& (3689348814741910323 : Int64)) + ((usr64 (p0 - ((usr64 p0 (1 : Int32)) &&& (6148914691236517205 : Int64))) (2 : Int32)) &&& (3689348814741910323 : Int64))) + (usr64 (((p0 - ((usr64 p0 (1 : Int32)) &&& (6148914691236517205 : Int64))) &&& (3689348814741910323 : Int64)) + ((usr64 (p0 - ((usr64 p0 (1 : Int32)) &&& (6148914691236517205 : Int64))) (2 : Int32)) &&& (3689348814741910323 : Int64))) (4 : Int32))) &&& (1085102592571150095 : Int64)) (8 : Int32))))]) (pc' := 41) C dJ13_bitCount_95d88_40 rfl (by decide) rfl rfl ?_
  refine j_lload_n (q := 0) (pc' := 42) C dJ13_bitCount_95d88_41 rfl rfl rfl ?_
  refine j_lload_n (q := 0) (pc' := 43) C dJ13_bitCount_95d88_42 rfl rfl rfl ?_
  refine j_bipush (v := 16) (pc' := 45) C dJ13_bitCount_95d88_43 kB_16 rfl ?_
  refine j_lushr (pc' := 46) C dJ13_bitCount_95d88_45 rfl ?_
  refine j_ladd (pc' := 47) C dJ13_bitCount_95d88_46 rfl ?_
  refine j_lstore_n (lv' := [(0, .long (((((((p0 - ((usr64 p0 (1 : Int32)) &&& (6148914691236517205 : Int64))) &&& (3689348814741910323 : Int64)) + ((usr64 (p0 - ((usr64 p0 (1 : Int32)) &&& (6148914691236517205 : Int64))) (2 : Int32)) &&& (3689348814741910323 : Int64))) + (usr64 (((p0 - ((usr64 p0 (1 : Int32)) &&& (6148914691236517205 : Int64))) &&& (3689348814741910323 : Int64)) + ((usr64 (p0 - ((usr64 p0 (1 : Int32)) &&& (6148914691236517205 : Int64))) (2 : Int32)) &&& (3689348814741910323 : Int64))) (4 : Int32))) &&& (1085102592571150095 : Int64)) + (usr64 (((((p0 - ((usr64 p0 (1 : Int32)) &&& (6148914691236517205 : Int64))) &&& (3689348814741910323 : Int64)) + ((usr64 (p0 - ((usr64 p0 (1 : Int32)) &&& (6148914691236517205 : Int64))) (2 : Int32)) &&& (3689348814741910323 : Int64))) + (usr64 (((p0 - ((usr64 p0 (1 : Int32)) &&& (6148914691236517205 : Int64))) &&& (3689348814741910323 : Int64)) + ((usr64 (p0 - ((usr64 p0 (1 : Int32)) &&& (6148914691236517205 : Int64))) (2 : Int32)) &&& (3689348814741910323 : Int64))) (4 : Int32))) &&& (1085102592571150095 : Int64)) (8 : Int32))) + (usr64 ((((((p0 - ((usr64 p0 (1 : Int32)) &&& (6148914691236517205 : Int64))) &&& (3689348814741910323 : Int64)) + ((usr64 (p0 - ((usr64 p0 (1 : Int32)) &&& (6148914691236517205 : Int64))) (2 : Int32)) &&& (3689348814741910323 : Int64))) + (usr64 (((p0 - ((usr64 p0 (1 : Int32)) &&& (6148914691236517205 : Int64))) &&& (3689348814741910323 : Int64)) + ((usr64 (p0 - ((usr64 p0 (1 : Int32)) &&& (6148914691236517205 : Int64))) (2 : Int32)) &&& (3689348814741910323 : Int64))) (4 : Int32))) &&& (1085102592571150095 : Int64)) + (usr64 (((((p0 - ((usr64 p0 (1 : Int32)) &&& (6148914691236517205 : Int64))) &&& (3689348814741910323 : Int64)) + ((usr64 (p0 - ((usr64 p0 (1 : Int32)) &&& (6148914691236517205 : Int64))) (2 : Int32)) &&& (3689348814741910323 : Int64))) + (usr64 (((p0 - ((usr64 p0 (1 : Int32)) &&& (6148914691236517205 : Int64))) &&& (3689348814741910323 : Int64)) + ((usr64 (p0 - ((usr64 p0 (1 : Int32)) &&& (6148914691236517205 : Int64))) (2 : Int32)) &&& (3689348814741910323 : Int64))) (4 : Int32))) &&& (1085102592571150095 : Int64)) (8 : Int32))) (16 : Int32))))]) (pc' := 48) C dJ13_bitCount_95d88_47 rfl (by decide) rfl rfl ?_
  refine j_lload_n (q := 0) (pc' := 49) C dJ13_bitCount_95d88_48 rfl rfl rfl ?_
  refine j_lload_n (q := 0) (pc' := 50) C dJ13_bitCount_95d88_49 rfl rfl rfl ?_
  refine j_bipush (v := 32) (pc' := 52) C dJ13_bitCount_95d88_50 kB_32 rfl ?_
  refine j_lushr (pc' := 53) C dJ13_bitCount_95d88_52 rfl ?_
  refine j_ladd (pc' := 54) C dJ13_bitCount_95d88_53 rfl ?_
  refine j_lstore_n (lv' := [(0, .long ((((((((p0 - ((usr64 p0 (1 : Int32)) &&& (6148914691236517205 : Int64))) &&& (3689348814741910323 : Int64)) + ((usr64 (p0 - ((usr64 p0 (1 : Int32)) &&& (6148914691236517205 : Int64))) (2 : Int32)) &&& (3689348814741910323 : Int64))) + (usr64 (((p0 - ((usr64 p0 (1 : Int32)) &&& (6148914691236517205 : Int64))) &&& (3689348814741910323 : Int64)) + ((usr64 (p0 - ((usr64 p0 (1 : Int32)) &&& (6148914691236517205 : Int64))) (2 : Int32)) &&& (3689348814741910323 : Int64))) (4 : Int32))) &&& (1085102592571150095 : Int64)) + (usr64 (((((p0 - ((usr64 p0 (1 : Int32)) &&& (6148914691236517205 : Int64))) &&& (3689348814741910323 : Int64)) + ((usr64 (p0 - ((usr64 p0 (1 : Int32)) &&& (6148914691236517205 : Int64))) (2 : Int32)) &&& (3689348814741910323 : Int64))) + (usr64 (((p0 - ((usr64 p0 (1 : Int32)) &&& (6148914691236517205 : Int64))) &&& (3689348814741910323 : Int64)) + ((usr64 (p0 - ((usr64 p0 (1 : Int32)) &&& (6148914691236517205 : Int64))) (2 : Int32)) &&& (3689348814741910323 : Int64))) (4 : Int32))) &&& (1085102592571150095 : Int64)) (8 : Int32))) + (usr64 ((((((p0 - ((usr64 p0 (1 : Int32)) &&& (6148914691236517205 : Int64))) &&& (3689348814741910323 : Int64)) + ((usr64 (p0 - ((usr64 p0 (1 : Int32)) &&& (6148914691236517205 : Int64))) (2 : Int32)) &&& (3689348814741910323 : Int64))) + (usr64 (((p0 - ((usr64 p0 (1 : Int32)) &&& (6148914691236517205 : Int64))) &&& (3689348814741910323 : Int64)) + ((usr64 (p0 - ((usr64 p0 (1 : Int32)) &&& (6148914691236517205 : Int64))) (2 : Int32)) &&& (3689348814741910323 : Int64))) (4 : Int32))) &&& (1085102592571150095 : Int64)) + (usr64 (((((p0 - ((usr64 p0 (1 : Int32)) &&& (6148914691236517205 : Int64))) &&& (3689348814741910323 : Int64)) + ((usr64 (p0 - ((usr64 p0 (1 : Int32)) &&& (6148914691236517205 : Int64))) (2 : Int32)) &&& (3689348814741910323 : Int64))) + (usr64 (((p0 - ((usr64 p0 (1 : Int32)) &&& (6148914691236517205 : Int64))) &&& (3689348814741910323 : Int64)) + ((usr64 (p0 - ((usr64 p0 (1 : Int32)) &&& (6148914691236517205 : Int64))) (2 : Int32)) &&& (3689348814741910323 : Int64))) (4 : Int32))) &&& (1085102592571150095 : Int64)) (8 : Int32))) (16 : Int32))) + (usr64 (((((((p0 - ((usr64 p0 (1 : Int32)) &&& (6148914691236517205 : Int64))) &&& (3689348814741910323 : Int64)) + ((usr64 (p0 - ((usr64 p0 (1 : Int32)) &&& (6148914691236517205 : Int64))) (2 : Int32)) &&& (3689348814741910323 : Int64))) + (usr64 (((p0 - ((usr64 p0 (1 : Int32)) &&& (6148914691236517205 : Int64))) &&& (3689348814741910323 : Int64)) + ((usr64 (p0 - ((usr64 p0 (1 : Int32)) &&& (6148914691236517205 : Int64))) (2 : Int32)) &&& (3689348814741910323 : Int64))) (4 : Int32))) &&& (1085102592571150095 : Int64)) + (usr64 (((((p0 - ((usr64 p0 (1 : Int32)) &&& (6148914691236517205 : Int64))) &&& (3689348814741910323 : Int64)) + ((usr64 (p0 - ((usr64 p0 (1 : Int32)) &&& (6148914691236517205 : Int64))) (2 : Int32)) &&& (3689348814741910323 : Int64))) + (usr64 (((p0 - ((usr64 p0 (1 : Int32)) &&& (6148914691236517205 : Int64))) &&& (3689348814741910323 : Int64)) + ((usr64 (p0 - ((usr64 p0 (1 : Int32)) &&& (6148914691236517205 : Int64))) (2 : Int32)) &&& (3689348814741910323 : Int64))) (4 : Int32))) &&& (1085102592571150095 : Int64)) (8 : Int32))) + (usr64 ((((((p0 - ((usr64 p0 (1 : Int32)) &&& (6148914691236517205 : Int64))) &&& (3689348814741910323 : Int64)) + ((usr64 (p0 - ((usr64 p0 (1 : Int32)) &&& (6148914691236517205 : Int64))) (2 : Int32)) &&& (3689348814741910323 : Int64))) + (usr64 (((p0 - ((usr64 p0 (1 : Int32)) &&& (6148914691236517205 : Int64))) &&& (3689348814741910323 : Int64)) + ((usr64 (p0 - ((usr64 p0 (1 : Int32)) &&& (6148914691236517205 : Int64))) (2 : Int32)) &&& (3689348814741910323 : Int64))) (4 : Int32))) &&& (1085102592571150095 : Int64)) + (usr64 (((((p0 - ((usr64 p0 (1 : Int32)) &&& (6148914691236517205 : Int64))) &&& (3689348814741910323 : Int64)) + ((usr64 (p0 - ((usr64 p0 (1 : Int32)) &&& (6148914691236517205 : Int64))) (2 : Int32)) &&& (3689348814741910323 : Int64))) + (usr64 (((p0 - ((usr64 p0 (1 : Int32)) &&& (6148914691236517205 : Int64))) &&& (3689348814741910323 : Int64)) + ((usr64 (p0 - ((usr64 p0 (1 : Int32)) &&& (6148914691236517205 : Int64))) (2 : Int32)) &&& (3689348814741910323 : Int64))) (4 : Int32))) &&& (1085102592571150095 : Int64)) (8 : Int32))) (16 : Int32))) (32 : Int32))))]) (pc' := 55) C dJ13_bitCount_95d88_54 rfl (by decide) rfl rfl ?_
  refine j_lload_n (q := 0) (pc' := 56) C dJ13_bitCount_95d88_55 rfl rfl rfl ?_
  refine j_l2i (pc' := 57) C dJ13_bitCount_95d88_56 rfl ?_
  refine j_bipush (v := 127) (pc' := 59) C dJ13_bitCount_95d88_57 kB_127 rfl ?_
  refine j_iand (pc' := 60) C dJ13_bitCount_95d88_59 rfl ?_
  have hr := Option.some.inj hr
  subst hr
  exact j_iret C hq hret dJ13_bitCount_95d88_60
def m_X11_countOrState (p0 : Int64) (p1 : Int32) : Option (Int32) :=
  if p1 = (-1 : Int32) then
    (m_J13_bitCount_95d88 p0).bind fun zx2 =>
    some zx2
  else
    (m_X9_stateAt p0 p1).bind fun zx1 =>
    some zx1
set_option maxRecDepth 100000 in
set_option maxHeartbeats 4000000 in
theorem c_X11_countOrState {nx : Nat} {ce : Ce} {p0 : Int64} {p1 : Int32} {q : Int32} (hr : m_X11_countOrState p0 p1 = some q) : Ct yX11_countOrState cX11_countOrState 3 (some .int) 2 46 0 0 [.long p0, .int p1] nx ce (some (.int q)) ce := by
  unfold m_X11_countOrState at hr
  refine ct_of (by decide) (Nat.le_of_ble_eq_true rfl) ?_
  intro G C hq hret hin
  show Jd G 0 0 nx ce 0 [(0, .long p0), (2, .int p1)] []
  refine j_iload_n (q := 1) (pc' := 1) C dX11_countOrState_0 rfl rfl rfl ?_
  refine j_iconst (v := -1) (pc' := 2) C dX11_countOrState_1 kI_m1 rfl ?_
  refine j_ic_ne (tgt := 12) (pc' := 5) C dX11_countOrState_2 rfl rfl (fun hc => ?_) (fun hc => ?_)
  · have hr := ifF hc hr
    clear hc
    refine j_lload_n (q := 0) (pc' := 13) C dX11_countOrState_12 rfl rfl rfl ?_
    refine j_iload_n (q := 1) (pc' := 14) C dX11_countOrState_13 rfl rfl rfl ?_
    obtain ⟨zx1, hzx1, hr⟩ := ob hr
    refine j_callS (As := [.long p0, .int p1]) (rest := []) (st1 := [.int zx1]) (pc' := 17) C wm_1042 (c_X9_stateAt (nx := nx) (ce := ce) hzx1) yw_X9_stateAt wm_1041 rfl rfl (Nat.le_of_ble_eq_true rfl) ⟨by decide, by decide⟩ dX11_countOrState_14 rfl rfl ?_
    have hr := Option.some.inj hr
    subst hr
    exact j_iret C hq hret dX11_countOrState_17
  · have hr := ifT hc hr
    clear hc
    refine j_lload_n (q := 0) (pc' := 6) C dX11_countOrState_5 rfl rfl rfl ?_
    obtain ⟨zx2, hzx2, hr⟩ := ob hr
    refine j_callS (As := [.long p0]) (rest := []) (st1 := [.int zx2]) (pc' := 9) C wm_1036 (c_J13_bitCount_95d88 (nx := nx) (ce := ce) hzx2) yw_J13_bitCount_95d88 wm_1035 rfl rfl (Nat.le_of_ble_eq_true rfl) ⟨by decide, by decide⟩ dX11_countOrState_6 rfl rfl ?_
    refine j_goto (tgt := 17) C dX11_countOrState_9 rfl ?_
    have hr := Option.some.inj hr
    subst hr
    exact j_iret C hq hret dX11_countOrState_17
def m_X11_leads (ce : Ce) (this : Nat) (p1 : Int32) (p2 : Int32) : Option (Int32) :=
  (gA ce 8 6 this).bind fun zx1 =>
  (gA ce 7 4 zx1).bind fun zx2 =>
  (gA ce 6 0 zx2).bind fun zx3 =>
  (rcv ce 3 zx3).bind fun zz4 =>
  (m_X5_hasState ce zx3 p1).bind fun zx5 =>
  if zx5 = 0 then
    some (-1 : Int32)
  else
    (rcv ce 3 zx3).bind fun zz6 =>
    (m_X5_leadingTo ce zx3 p1).bind fun zx7 =>
    (m_X11_countOrState zx7 p2).bind fun zx8 =>
    some zx8
set_option maxRecDepth 100000 in
set_option maxHeartbeats 4000000 in
theorem c_X11_leads {nx : Nat} {ce : Ce} {this : Nat} {p1 : Int32} {p2 : Int32} {q : Int32} (hr : m_X11_leads ce this p1 p2 = some q) : Ct yX11_leads cX11_leads 4 (some .int) 3 68 0 0 [.ref this, .int p1, .int p2] nx ce (some (.int q)) ce := by
  unfold m_X11_leads at hr
  refine ct_of (by decide) (Nat.le_of_ble_eq_true rfl) ?_
  intro G C hq hret hin
  show Jd G 0 0 nx ce 0 [(0, .ref this), (1, .int p1), (2, .int p2)] []
  refine j_aload_n (q := 0) (pc' := 1) C dX11_leads_0 rfl rfl rfl ?_
  obtain ⟨zx1, hzx1, hr⟩ := ob hr
  refine j_getA (pc' := 4) C dX11_leads_1 fl_X11_35 hzx1 rfl ?_
  obtain ⟨zx2, hzx2, hr⟩ := ob hr
  refine j_getA (pc' := 7) C dX11_leads_4 fl_X11_112 hzx2 rfl ?_
  obtain ⟨zx3, hzx3, hr⟩ := ob hr
  refine j_getA (pc' := 10) C dX11_leads_7 fl_X11_125 hzx3 rfl ?_
  refine j_astore_n (lv' := [(3, .ref zx3), (0, .ref this), (1, .int p1), (2, .int p2)]) (pc' := 11) C dX11_leads_10 rfl (by decide) rfl rfl ?_
  refine j_aload_n (q := 0) (pc' := 12) C dX11_leads_11 rfl rfl rfl ?_
  refine j_iload_n (q := 2) (pc' := 13) C dX11_leads_12 rfl rfl rfl ?_
  obtain ⟨zz4, hzz4, hr⟩ := ob hr
  obtain ⟨zx5, hzx5, hr⟩ := ob hr
  obtain ⟨fhzz4, hzz4⟩ := rcv_sp hzz4
  refine j_callV (ci := 3) (As := [.int p1]) (rest := []) (st1 := [.int zx5]) (pc' := 16) C ⟨wm_1020, wm_1021⟩ rfl hzz4 (c_X5_hasState (nx := nx) hzx5) yw_X5_hasState wm_1019 rfl rfl (Nat.le_of_ble_eq_true rfl) ⟨by decide, by decide⟩ dX11_leads_13 rfl rfl ?_
  refine j_if_ne (tgt := 21) (pc' := 19) C dX11_leads_16 rfl rfl (fun hc => ?_) (fun hc => ?_)
  · have hr := ifF hc hr
    clear hc
    refine j_aload_n (q := 0) (pc' := 22) C dX11_leads_21 rfl rfl rfl ?_
    refine j_iload_n (q := 2) (pc' := 23) C dX11_leads_22 rfl rfl rfl ?_
    obtain ⟨zz6, hzz6, hr⟩ := ob hr
    obtain ⟨zx7, hzx7, hr⟩ := ob hr
    obtain ⟨fhzz6, hzz6⟩ := rcv_sp hzz6
    refine j_callV (ci := 3) (As := [.int p1]) (rest := []) (st1 := [.long zx7]) (pc' := 26) C ⟨wm_939, wm_940⟩ rfl hzz6 (c_X5_leadingTo (nx := nx) hzx7) yw_X5_leadingTo wm_1031 rfl rfl (Nat.le_of_ble_eq_true rfl) ⟨by decide, by decide⟩ dX11_leads_23 rfl rfl ?_
    refine j_iload_n (q := 3) (pc' := 27) C dX11_leads_26 rfl rfl rfl ?_
    obtain ⟨zx8, hzx8, hr⟩ := ob hr
    refine j_callS (As := [.long zx7, .int p2]) (rest := []) (st1 := [.int zx8]) (pc' := 30) C wm_1033 (c_X11_countOrState (nx := nx) (ce := ce) hzx8) yw_X11_countOrState wm_1032 rfl rfl (Nat.le_of_ble_eq_true rfl) ⟨by decide, by decide⟩ dX11_leads_27 rfl rfl ?_
    have hr := Option.some.inj hr
    subst hr
    exact j_iret C hq hret dX11_leads_30
  · have hr := ifT hc hr
    clear hc
    refine j_iconst (v := -1) (pc' := 20) C dX11_leads_19 kI_m1 rfl ?_
    have hr := Option.some.inj hr
    subst hr
    exact j_iret C hq hret dX11_leads_20
def m_X11_of (ce : Ce) (this : Nat) (p1 : Int32) (p2 : Int32) : Option (Int32) :=
  (gA ce 8 6 this).bind fun zx1 =>
  (gA ce 7 4 zx1).bind fun zx2 =>
  (gA ce 6 0 zx2).bind fun zx3 =>
  (rcv ce 3 zx3).bind fun zz4 =>
  (m_X5_hasState ce zx3 p1).bind fun zx5 =>
  if zx5 = 0 then
    some (0 : Int32)
  else
    if p2 = (-1 : Int32) then
      (gJ ce 3 3 zx3).bind fun zx11 =>
      (m_X9_has zx11 p1).bind fun zx12 =>
      (bz zx12).bind fun zx13 =>
      some zx12
    else
      (rcv ce 3 zx3).bind fun zz6 =>
      (m_X5_hasAim ce zx3 p2).bind fun zx7 =>
      if zx7 = 0 then
        some (0 : Int32)
      else
        (gA ce 3 4 zx3).bind fun zx8 =>
        (aL ce zx8 p2).bind fun zx9 =>
        (m_X9_has zx9 p1).bind fun zx10 =>
        if zx10 = 0 then
          some (0 : Int32)
        else
          some (1 : Int32)
set_option maxRecDepth 100000 in
set_option maxHeartbeats 4000000 in
theorem c_X11_of {nx : Nat} {ce : Ce} {this : Nat} {p1 : Int32} {p2 : Int32} {q : Int32} (hr : m_X11_of ce this p1 p2 = some q) : Ct yX11_of cX11_of 4 (some .boolean) 1 22 0 0 [.ref this, .int p1, .int p2] nx ce (some (.int q)) ce := by
  unfold m_X11_of at hr
  refine ct_of (by decide) (Nat.le_of_ble_eq_true rfl) ?_
  intro G C hq hret hin
  show Jd G 0 0 nx ce 0 [(0, .ref this), (1, .int p1), (2, .int p2)] []
  refine j_aload_n (q := 0) (pc' := 1) C dX11_of_0 rfl rfl rfl ?_
  obtain ⟨zx1, hzx1, hr⟩ := ob hr
  refine j_getA (pc' := 4) C dX11_of_1 fl_X11_35 hzx1 rfl ?_
  obtain ⟨zx2, hzx2, hr⟩ := ob hr
  refine j_getA (pc' := 7) C dX11_of_4 fl_X11_112 hzx2 rfl ?_
  obtain ⟨zx3, hzx3, hr⟩ := ob hr
  refine j_getA (pc' := 10) C dX11_of_7 fl_X11_125 hzx3 rfl ?_
  refine j_astore_n (lv' := [(3, .ref zx3), (0, .ref this), (1, .int p1), (2, .int p2)]) (pc' := 11) C dX11_of_10 rfl (by decide) rfl rfl ?_
  refine j_aload_n (q := 0) (pc' := 12) C dX11_of_11 rfl rfl rfl ?_
  refine j_iload_n (q := 2) (pc' := 13) C dX11_of_12 rfl rfl rfl ?_
  obtain ⟨zz4, hzz4, hr⟩ := ob hr
  obtain ⟨zx5, hzx5, hr⟩ := ob hr
  obtain ⟨fhzz4, hzz4⟩ := rcv_sp hzz4
  refine j_callV (ci := 3) (As := [.int p1]) (rest := []) (st1 := [.int zx5]) (pc' := 16) C ⟨wm_1020, wm_1021⟩ rfl hzz4 (c_X5_hasState (nx := nx) hzx5) yw_X5_hasState wm_1019 rfl rfl (Nat.le_of_ble_eq_true rfl) ⟨by decide, by decide⟩ dX11_of_13 rfl rfl ?_
  refine j_if_ne (tgt := 21) (pc' := 19) C dX11_of_16 rfl rfl (fun hc => ?_) (fun hc => ?_)
  · have hr := ifF hc hr
    clear hc
    refine j_iload_n (q := 3) (pc' := 22) C dX11_of_21 rfl rfl rfl ?_
    refine j_iconst (v := -1) (pc' := 23) C dX11_of_22 kI_m1 rfl ?_
    refine j_ic_ne (tgt := 35) (pc' := 26) C dX11_of_23 rfl rfl (fun hc => ?_) (fun hc => ?_)
    · have hr := ifF hc hr
      clear hc
      refine j_aload_n (q := 0) (pc' := 36) C dX11_of_35 rfl rfl rfl ?_
      refine j_iload_n (q := 3) (pc' := 37) C dX11_of_36 rfl rfl rfl ?_
      obtain ⟨zz6, hzz6, hr⟩ := ob hr
      obtain ⟨zx7, hzx7, hr⟩ := ob hr
      obtain ⟨fhzz6, hzz6⟩ := rcv_sp hzz6
      refine j_callV (ci := 3) (As := [.int p2]) (rest := []) (st1 := [.int zx7]) (pc' := 40) C ⟨wm_790, wm_791⟩ rfl hzz6 (c_X5_hasAim (nx := nx) hzx7) yw_X5_hasAim wm_789 rfl rfl (Nat.le_of_ble_eq_true rfl) ⟨by decide, by decide⟩ dX11_of_37 rfl rfl ?_
      refine j_if_eq (tgt := 60) (pc' := 43) C dX11_of_40 rfl rfl (fun hc => ?_) (fun hc => ?_)
      · have hr := ifT hc hr
        clear hc
        refine j_iconst (v := 0) (pc' := 61) C dX11_of_60 kI_0 rfl ?_
        have hr := Option.some.inj hr
        subst hr
        exact j_zret C hq hret rfl dX11_of_61
      · have hr := ifF hc hr
        clear hc
        refine j_aload_n (q := 0) (pc' := 44) C dX11_of_43 rfl rfl rfl ?_
        obtain ⟨zx8, hzx8, hr⟩ := ob hr
        refine j_getA (pc' := 47) C dX11_of_44 fl_X11_182 hzx8 rfl ?_
        refine j_iload_n (q := 3) (pc' := 48) C dX11_of_47 rfl rfl rfl ?_
        obtain ⟨zx9, hzx9, hr⟩ := ob hr
        refine j_lald (pc' := 49) C dX11_of_48 hzx9 rfl ?_
        refine j_iload_n (q := 2) (pc' := 50) C dX11_of_49 rfl rfl rfl ?_
        obtain ⟨zx10, hzx10, hr⟩ := ob hr
        refine j_callS (As := [.long zx9, .int p1]) (rest := []) (st1 := [.int zx10]) (pc' := 53) C wm_691 (c_X9_has (nx := nx) (ce := ce) hzx10) yw_X9_has wm_1049 rfl rfl (Nat.le_of_ble_eq_true rfl) ⟨by decide, by decide⟩ dX11_of_50 rfl rfl ?_
        refine j_if_eq (tgt := 60) (pc' := 56) C dX11_of_53 rfl rfl (fun hc => ?_) (fun hc => ?_)
        · have hr := ifT hc hr
          clear hc
          refine j_iconst (v := 0) (pc' := 61) C dX11_of_60 kI_0 rfl ?_
          have hr := Option.some.inj hr
          subst hr
          exact j_zret C hq hret rfl dX11_of_61
        · have hr := ifF hc hr
          clear hc
          refine j_iconst (v := 1) (pc' := 57) C dX11_of_56 kI_1 rfl ?_
          refine j_goto (tgt := 61) C dX11_of_57 rfl ?_
          have hr := Option.some.inj hr
          subst hr
          exact j_zret C hq hret rfl dX11_of_61
    · have hr := ifT hc hr
      clear hc
      refine j_aload_n (q := 0) (pc' := 27) C dX11_of_26 rfl rfl rfl ?_
      obtain ⟨zx11, hzx11, hr⟩ := ob hr
      refine j_getJ (pc' := 30) C dX11_of_27 fl_X11_237 hzx11 rfl ?_
      refine j_iload_n (q := 2) (pc' := 31) C dX11_of_30 rfl rfl rfl ?_
      obtain ⟨zx12, hzx12, hr⟩ := ob hr
      refine j_callS (As := [.long zx11, .int p1]) (rest := []) (st1 := [.int zx12]) (pc' := 34) C wm_691 (c_X9_has (nx := nx) (ce := ce) hzx12) yw_X9_has wm_1049 rfl rfl (Nat.le_of_ble_eq_true rfl) ⟨by decide, by decide⟩ dX11_of_31 rfl rfl ?_
      obtain ⟨zx13, hzx13, hr⟩ := ob hr
      obtain ⟨rfl, nhzx13⟩ := bz_sp hzx13
      have hr := Option.some.inj hr
      subst hr
      exact j_zret C hq hret nhzx13 dX11_of_34
  · have hr := ifT hc hr
    clear hc
    refine j_iconst (v := 0) (pc' := 20) C dX11_of_19 kI_0 rfl ?_
    have hr := Option.some.inj hr
    subst hr
    exact j_zret C hq hret rfl dX11_of_20
def m_X11_within (ce : Ce) (this : Nat) (p1 : Int32) (p2 : Int32) : Option (Int32) :=
  (gA ce 8 6 this).bind fun zx1 =>
  (gA ce 7 4 zx1).bind fun zx2 =>
  (gA ce 6 0 zx2).bind fun zx3 =>
  (rcv ce 3 zx3).bind fun zz4 =>
  (m_X5_hasState ce zx3 p1).bind fun zx5 =>
  if zx5 = 0 then
    some (0 : Int32)
  else
    (rcv ce 6 zx2).bind fun zz6 =>
    (m_X8_hasFrame ce zx2 p2).bind fun zx7 =>
    if zx7 = 0 then
      some (0 : Int32)
    else
      (rcv ce 6 zx2).bind fun zz8 =>
      (m_X8_statesWithin ce zx2 p2).bind fun zx9 =>
      (m_X9_has zx9 p1).bind fun zx10 =>
      if zx10 = 0 then
        some (0 : Int32)
      else
        some (1 : Int32)
set_option maxRecDepth 100000 in
set_option maxHeartbeats 4000000 in
theorem c_X11_within {nx : Nat} {ce : Ce} {this : Nat} {p1 : Int32} {p2 : Int32} {q : Int32} (hr : m_X11_within ce this p1 p2 = some q) : Ct yX11_within cX11_within 4 (some .boolean) 2 45 0 0 [.ref this, .int p1, .int p2] nx ce (some (.int q)) ce := by
  unfold m_X11_within at hr
  refine ct_of (by decide) (Nat.le_of_ble_eq_true rfl) ?_
  intro G C hq hret hin
  show Jd G 0 0 nx ce 0 [(0, .ref this), (1, .int p1), (2, .int p2)] []
  refine j_aload_n (q := 0) (pc' := 1) C dX11_within_0 rfl rfl rfl ?_
  obtain ⟨zx1, hzx1, hr⟩ := ob hr
  refine j_getA (pc' := 4) C dX11_within_1 fl_X11_35 hzx1 rfl ?_
  obtain ⟨zx2, hzx2, hr⟩ := ob hr
  refine j_getA (pc' := 7) C dX11_within_4 fl_X11_112 hzx2 rfl ?_
  refine j_astore_n (lv' := [(3, .ref zx2), (0, .ref this), (1, .int p1), (2, .int p2)]) (pc' := 8) C dX11_within_7 rfl (by decide) rfl rfl ?_
  refine j_aload_n (q := 0) (pc' := 9) C dX11_within_8 rfl rfl rfl ?_
  obtain ⟨zx3, hzx3, hr⟩ := ob hr
  refine j_getA (pc' := 12) C dX11_within_9 fl_X11_125 hzx3 rfl ?_
  refine j_iload_n (q := 2) (pc' := 13) C dX11_within_12 rfl rfl rfl ?_
  obtain ⟨zz4, hzz4, hr⟩ := ob hr
  obtain ⟨zx5, hzx5, hr⟩ := ob hr
  obtain ⟨fhzz4, hzz4⟩ := rcv_sp hzz4
  refine j_callV (ci := 3) (As := [.int p1]) (rest := []) (st1 := [.int zx5]) (pc' := 16) C ⟨wm_1020, wm_1021⟩ rfl hzz4 (c_X5_hasState (nx := nx) hzx5) yw_X5_hasState wm_1019 rfl rfl (Nat.le_of_ble_eq_true rfl) ⟨by decide, by decide⟩ dX11_within_13 rfl rfl ?_
  refine j_if_eq (tgt := 43) (pc' := 19) C dX11_within_16 rfl rfl (fun hc => ?_) (fun hc => ?_)
  · have hr := ifT hc hr
    clear hc
    refine j_iconst (v := 0) (pc' := 44) C dX11_within_43 kI_0 rfl ?_
    have hr := Option.some.inj hr
    subst hr
    exact j_zret C hq hret rfl dX11_within_44
  · have hr := ifF hc hr
    clear hc
    refine j_aload_n (q := 0) (pc' := 20) C dX11_within_19 rfl rfl rfl ?_
    refine j_iload_n (q := 3) (pc' := 21) C dX11_within_20 rfl rfl rfl ?_
    obtain ⟨zz6, hzz6, hr⟩ := ob hr
    obtain ⟨zx7, hzx7, hr⟩ := ob hr
    obtain ⟨fhzz6, hzz6⟩ := rcv_sp hzz6
    refine j_callV (ci := 6) (As := [.int p2]) (rest := []) (st1 := [.int zx7]) (pc' := 24) C ⟨wm_1055, wm_1056⟩ rfl hzz6 (c_X8_hasFrame (nx := nx) hzx7) yw_X8_hasFrame wm_1054 rfl rfl (Nat.le_of_ble_eq_true rfl) ⟨by decide, by decide⟩ dX11_within_21 rfl rfl ?_
    refine j_if_eq (tgt := 43) (pc' := 27) C dX11_within_24 rfl rfl (fun hc => ?_) (fun hc => ?_)
    · have hr := ifT hc hr
      clear hc
      refine j_iconst (v := 0) (pc' := 44) C dX11_within_43 kI_0 rfl ?_
      have hr := Option.some.inj hr
      subst hr
      exact j_zret C hq hret rfl dX11_within_44
    · have hr := ifF hc hr
      clear hc
      refine j_aload_n (q := 0) (pc' := 28) C dX11_within_27 rfl rfl rfl ?_
      refine j_iload_n (q := 3) (pc' := 29) C dX11_within_28 rfl rfl rfl ?_
      obtain ⟨zz8, hzz8, hr⟩ := ob hr
      obtain ⟨zx9, hzx9, hr⟩ := ob hr
      obtain ⟨fhzz8, hzz8⟩ := rcv_sp hzz8
      refine j_callV (ci := 6) (As := [.int p2]) (rest := []) (st1 := [.long zx9]) (pc' := 32) C ⟨wm_841, wm_842⟩ rfl hzz8 (c_X8_statesWithin (nx := nx) hzx9) yw_X8_statesWithin wm_1058 rfl rfl (Nat.le_of_ble_eq_true rfl) ⟨by decide, by decide⟩ dX11_within_29 rfl rfl ?_
      refine j_iload_n (q := 2) (pc' := 33) C dX11_within_32 rfl rfl rfl ?_
      obtain ⟨zx10, hzx10, hr⟩ := ob hr
      refine j_callS (As := [.long zx9, .int p1]) (rest := []) (st1 := [.int zx10]) (pc' := 36) C wm_691 (c_X9_has (nx := nx) (ce := ce) hzx10) yw_X9_has wm_1049 rfl rfl (Nat.le_of_ble_eq_true rfl) ⟨by decide, by decide⟩ dX11_within_33 rfl rfl ?_
      refine j_if_eq (tgt := 43) (pc' := 39) C dX11_within_36 rfl rfl (fun hc => ?_) (fun hc => ?_)
      · have hr := ifT hc hr
        clear hc
        refine j_iconst (v := 0) (pc' := 44) C dX11_within_43 kI_0 rfl ?_
        have hr := Option.some.inj hr
        subst hr
        exact j_zret C hq hret rfl dX11_within_44
      · have hr := ifF hc hr
        clear hc
        refine j_iconst (v := 1) (pc' := 40) C dX11_within_39 kI_1 rfl ?_
        refine j_goto (tgt := 44) C dX11_within_40 rfl ?_
        have hr := Option.some.inj hr
        subst hr
        exact j_zret C hq hret rfl dX11_within_44
def m_X11_wide (ce : Ce) (this : Nat) (p1 : Int32) : Option (Int32) :=
  (gA ce 8 6 this).bind fun zx1 =>
  (gA ce 7 4 zx1).bind fun zx2 =>
  (rcv ce 6 zx2).bind fun zz3 =>
  (m_X8_hasFrame ce zx2 p1).bind fun zx4 =>
  if zx4 = 0 then
    some (-1 : Int32)
  else
    (rcv ce 6 zx2).bind fun zz5 =>
    (m_X8_statesWithin ce zx2 p1).bind fun zx6 =>
    (m_J13_bitCount_95d88 zx6).bind fun zx7 =>
    some zx7
set_option maxRecDepth 100000 in
set_option maxHeartbeats 4000000 in
theorem c_X11_wide {nx : Nat} {ce : Ce} {this : Nat} {p1 : Int32} {q : Int32} (hr : m_X11_wide ce this p1 = some q) : Ct yX11_wide cX11_wide 3 (some .int) 2 45 0 0 [.ref this, .int p1] nx ce (some (.int q)) ce := by
  unfold m_X11_wide at hr
  refine ct_of (by decide) (Nat.le_of_ble_eq_true rfl) ?_
  intro G C hq hret hin
  show Jd G 0 0 nx ce 0 [(0, .ref this), (1, .int p1)] []
  refine j_aload_n (q := 0) (pc' := 1) C dX11_wide_0 rfl rfl rfl ?_
  obtain ⟨zx1, hzx1, hr⟩ := ob hr
  refine j_getA (pc' := 4) C dX11_wide_1 fl_X11_35 hzx1 rfl ?_
  obtain ⟨zx2, hzx2, hr⟩ := ob hr
  refine j_getA (pc' := 7) C dX11_wide_4 fl_X11_112 hzx2 rfl ?_
  refine j_astore_n (lv' := [(2, .ref zx2), (0, .ref this), (1, .int p1)]) (pc' := 8) C dX11_wide_7 rfl (by decide) rfl rfl ?_
  refine j_aload_n (q := 0) (pc' := 9) C dX11_wide_8 rfl rfl rfl ?_
  refine j_iload_n (q := 2) (pc' := 10) C dX11_wide_9 rfl rfl rfl ?_
  obtain ⟨zz3, hzz3, hr⟩ := ob hr
  obtain ⟨zx4, hzx4, hr⟩ := ob hr
  obtain ⟨fhzz3, hzz3⟩ := rcv_sp hzz3
  refine j_callV (ci := 6) (As := [.int p1]) (rest := []) (st1 := [.int zx4]) (pc' := 13) C ⟨wm_1055, wm_1056⟩ rfl hzz3 (c_X8_hasFrame (nx := nx) hzx4) yw_X8_hasFrame wm_1054 rfl rfl (Nat.le_of_ble_eq_true rfl) ⟨by decide, by decide⟩ dX11_wide_10 rfl rfl ?_
  refine j_if_eq (tgt := 27) (pc' := 16) C dX11_wide_13 rfl rfl (fun hc => ?_) (fun hc => ?_)
  · have hr := ifT hc hr
    clear hc
    refine j_iconst (v := -1) (pc' := 28) C dX11_wide_27 kI_m1 rfl ?_
    have hr := Option.some.inj hr
    subst hr
    exact j_iret C hq hret dX11_wide_28
  · have hr := ifF hc hr
    clear hc
    refine j_aload_n (q := 0) (pc' := 17) C dX11_wide_16 rfl rfl rfl ?_
    refine j_iload_n (q := 2) (pc' := 18) C dX11_wide_17 rfl rfl rfl ?_
    obtain ⟨zz5, hzz5, hr⟩ := ob hr
    obtain ⟨zx6, hzx6, hr⟩ := ob hr
    obtain ⟨fhzz5, hzz5⟩ := rcv_sp hzz5
    refine j_callV (ci := 6) (As := [.int p1]) (rest := []) (st1 := [.long zx6]) (pc' := 21) C ⟨wm_841, wm_842⟩ rfl hzz5 (c_X8_statesWithin (nx := nx) hzx6) yw_X8_statesWithin wm_1058 rfl rfl (Nat.le_of_ble_eq_true rfl) ⟨by decide, by decide⟩ dX11_wide_18 rfl rfl ?_
    obtain ⟨zx7, hzx7, hr⟩ := ob hr
    refine j_callS (As := [.long zx6]) (rest := []) (st1 := [.int zx7]) (pc' := 24) C wm_1036 (c_J13_bitCount_95d88 (nx := nx) (ce := ce) hzx7) yw_J13_bitCount_95d88 wm_1035 rfl rfl (Nat.le_of_ble_eq_true rfl) ⟨by decide, by decide⟩ dX11_wide_21 rfl rfl ?_
    refine j_goto (tgt := 28) C dX11_wide_24 rfl ?_
    have hr := Option.some.inj hr
    subst hr
    exact j_iret C hq hret dX11_wide_28
def m_X11_bad (ce : Ce) (this : Nat) (p1 : Int32) : Option (Int32) :=
  (gA ce 8 6 this).bind fun zx1 =>
  (gA ce 7 4 zx1).bind fun zx2 =>
  (rcv ce 6 zx2).bind fun zz3 =>
  (m_X8_hasFrame ce zx2 p1).bind fun zx4 =>
  if zx4 = 0 then
    some (-1 : Int32)
  else
    (rcv ce 6 zx2).bind fun zz5 =>
    (m_X8_badWithin ce zx2 p1).bind fun zx6 =>
    (m_J13_bitCount_95d88 zx6).bind fun zx7 =>
    some zx7
set_option maxRecDepth 100000 in
set_option maxHeartbeats 4000000 in
theorem c_X11_bad {nx : Nat} {ce : Ce} {this : Nat} {p1 : Int32} {q : Int32} (hr : m_X11_bad ce this p1 = some q) : Ct yX11_bad cX11_bad 3 (some .int) 3 66 0 0 [.ref this, .int p1] nx ce (some (.int q)) ce := by
  unfold m_X11_bad at hr
  refine ct_of (by decide) (Nat.le_of_ble_eq_true rfl) ?_
  intro G C hq hret hin
  show Jd G 0 0 nx ce 0 [(0, .ref this), (1, .int p1)] []
  refine j_aload_n (q := 0) (pc' := 1) C dX11_bad_0 rfl rfl rfl ?_
  obtain ⟨zx1, hzx1, hr⟩ := ob hr
  refine j_getA (pc' := 4) C dX11_bad_1 fl_X11_35 hzx1 rfl ?_
  obtain ⟨zx2, hzx2, hr⟩ := ob hr
  refine j_getA (pc' := 7) C dX11_bad_4 fl_X11_112 hzx2 rfl ?_
  refine j_astore_n (lv' := [(2, .ref zx2), (0, .ref this), (1, .int p1)]) (pc' := 8) C dX11_bad_7 rfl (by decide) rfl rfl ?_
  refine j_aload_n (q := 0) (pc' := 9) C dX11_bad_8 rfl rfl rfl ?_
  refine j_iload_n (q := 2) (pc' := 10) C dX11_bad_9 rfl rfl rfl ?_
  obtain ⟨zz3, hzz3, hr⟩ := ob hr
  obtain ⟨zx4, hzx4, hr⟩ := ob hr
  obtain ⟨fhzz3, hzz3⟩ := rcv_sp hzz3
  refine j_callV (ci := 6) (As := [.int p1]) (rest := []) (st1 := [.int zx4]) (pc' := 13) C ⟨wm_1055, wm_1056⟩ rfl hzz3 (c_X8_hasFrame (nx := nx) hzx4) yw_X8_hasFrame wm_1054 rfl rfl (Nat.le_of_ble_eq_true rfl) ⟨by decide, by decide⟩ dX11_bad_10 rfl rfl ?_
  refine j_if_eq (tgt := 27) (pc' := 16) C dX11_bad_13 rfl rfl (fun hc => ?_) (fun hc => ?_)
  · have hr := ifT hc hr
    clear hc
    refine j_iconst (v := -1) (pc' := 28) C dX11_bad_27 kI_m1 rfl ?_
    have hr := Option.some.inj hr
    subst hr
    exact j_iret C hq hret dX11_bad_28
  · have hr := ifF hc hr
    clear hc
    refine j_aload_n (q := 0) (pc' := 17) C dX11_bad_16 rfl rfl rfl ?_
    refine j_iload_n (q := 2) (pc' := 18) C dX11_bad_17 rfl rfl rfl ?_
    obtain ⟨zz5, hzz5, hr⟩ := ob hr
    obtain ⟨zx6, hzx6, hr⟩ := ob hr
    obtain ⟨fhzz5, hzz5⟩ := rcv_sp hzz5
    refine j_callV (ci := 6) (As := [.int p1]) (rest := []) (st1 := [.long zx6]) (pc' := 21) C ⟨wm_900, wm_901⟩ rfl hzz5 (c_X8_badWithin (nx := nx) hzx6) yw_X8_badWithin wm_1067 rfl rfl (Nat.le_of_ble_eq_true rfl) ⟨by decide, by decide⟩ dX11_bad_18 rfl rfl ?_
    obtain ⟨zx7, hzx7, hr⟩ := ob hr
    refine j_callS (As := [.long zx6]) (rest := []) (st1 := [.int zx7]) (pc' := 24) C wm_1036 (c_J13_bitCount_95d88 (nx := nx) (ce := ce) hzx7) yw_J13_bitCount_95d88 wm_1035 rfl rfl (Nat.le_of_ble_eq_true rfl) ⟨by decide, by decide⟩ dX11_bad_21 rfl rfl ?_
    refine j_goto (tgt := 28) C dX11_bad_24 rfl ?_
    have hr := Option.some.inj hr
    subst hr
    exact j_iret C hq hret dX11_bad_28
def m_X11_sought (ce : Ce) (this : Nat) (p1 : Int32) : Option (Int32) :=
  (gA ce 8 6 this).bind fun zx1 =>
  (gA ce 7 4 zx1).bind fun zx2 =>
  (rcv ce 6 zx2).bind fun zz3 =>
  (m_X8_soughtStates ce zx2).bind fun zx4 =>
  (m_X11_countOrState zx4 p1).bind fun zx5 =>
  some zx5
set_option maxRecDepth 100000 in
set_option maxHeartbeats 4000000 in
theorem c_X11_sought {nx : Nat} {ce : Ce} {this : Nat} {p1 : Int32} {q : Int32} (hr : m_X11_sought ce this p1 = some q) : Ct yX11_sought cX11_sought 2 (some .int) 4 93 0 0 [.ref this, .int p1] nx ce (some (.int q)) ce := by
  unfold m_X11_sought at hr
  refine ct_of (by decide) (Nat.le_of_ble_eq_true rfl) ?_
  intro G C hq hret hin
  show Jd G 0 0 nx ce 0 [(0, .ref this), (1, .int p1)] []
  refine j_aload_n (q := 0) (pc' := 1) C dX11_sought_0 rfl rfl rfl ?_
  obtain ⟨zx1, hzx1, hr⟩ := ob hr
  refine j_getA (pc' := 4) C dX11_sought_1 fl_X11_35 hzx1 rfl ?_
  obtain ⟨zx2, hzx2, hr⟩ := ob hr
  refine j_getA (pc' := 7) C dX11_sought_4 fl_X11_112 hzx2 rfl ?_
  obtain ⟨zz3, hzz3, hr⟩ := ob hr
  obtain ⟨zx4, hzx4, hr⟩ := ob hr
  obtain ⟨fhzz3, hzz3⟩ := rcv_sp hzz3
  refine j_callV (ci := 6) (As := []) (rest := []) (st1 := [.long zx4]) (pc' := 10) C ⟨wm_896, wm_897⟩ rfl hzz3 (c_X8_soughtStates (nx := nx) hzx4) yw_X8_soughtStates wm_1072 rfl rfl (Nat.le_of_ble_eq_true rfl) ⟨by decide, by decide⟩ dX11_sought_7 rfl rfl ?_
  refine j_iload_n (q := 1) (pc' := 11) C dX11_sought_10 rfl rfl rfl ?_
  obtain ⟨zx5, hzx5, hr⟩ := ob hr
  refine j_callS (As := [.long zx4, .int p1]) (rest := []) (st1 := [.int zx5]) (pc' := 14) C wm_1033 (c_X11_countOrState (nx := nx) (ce := ce) hzx5) yw_X11_countOrState wm_1032 rfl rfl (Nat.le_of_ble_eq_true rfl) ⟨by decide, by decide⟩ dX11_sought_11 rfl rfl ?_
  have hr := Option.some.inj hr
  subst hr
  exact j_iret C hq hret dX11_sought_14
def m_X11_weight (ce : Ce) (this : Nat) (p1 : Int32) : Option (Int32) :=
  (gA ce 8 6 this).bind fun zx1 =>
  (gA ce 7 4 zx1).bind fun zx2 =>
  (rcv ce 6 zx2).bind fun zz3 =>
  (m_X8_hasCubeFrame ce zx2 p1).bind fun zx4 =>
  if zx4 = 0 then
    some (-1 : Int32)
  else
    (gA ce 6 11 zx2).bind fun zx5 =>
    (rcv ce 2 zx5).bind fun zz6 =>
    (m_X2_lettersOf ce zx5 p1).bind fun zx7 =>
    some zx7
set_option maxRecDepth 100000 in
set_option maxHeartbeats 4000000 in
theorem c_X11_weight {nx : Nat} {ce : Ce} {this : Nat} {p1 : Int32} {q : Int32} (hr : m_X11_weight ce this p1 = some q) : Ct yX11_weight cX11_weight 3 (some .int) 2 45 0 0 [.ref this, .int p1] nx ce (some (.int q)) ce := by
  unfold m_X11_weight at hr
  refine ct_of (by decide) (Nat.le_of_ble_eq_true rfl) ?_
  intro G C hq hret hin
  show Jd G 0 0 nx ce 0 [(0, .ref this), (1, .int p1)] []
  refine j_aload_n (q := 0) (pc' := 1) C dX11_weight_0 rfl rfl rfl ?_
  obtain ⟨zx1, hzx1, hr⟩ := ob hr
  refine j_getA (pc' := 4) C dX11_weight_1 fl_X11_35 hzx1 rfl ?_
  obtain ⟨zx2, hzx2, hr⟩ := ob hr
  refine j_getA (pc' := 7) C dX11_weight_4 fl_X11_112 hzx2 rfl ?_
  refine j_astore_n (lv' := [(2, .ref zx2), (0, .ref this), (1, .int p1)]) (pc' := 8) C dX11_weight_7 rfl (by decide) rfl rfl ?_
  refine j_aload_n (q := 0) (pc' := 9) C dX11_weight_8 rfl rfl rfl ?_
  refine j_iload_n (q := 2) (pc' := 10) C dX11_weight_9 rfl rfl rfl ?_
  obtain ⟨zz3, hzz3, hr⟩ := ob hr
  obtain ⟨zx4, hzx4, hr⟩ := ob hr
  obtain ⟨fhzz3, hzz3⟩ := rcv_sp hzz3
  refine j_callV (ci := 6) (As := [.int p1]) (rest := []) (st1 := [.int zx4]) (pc' := 13) C ⟨wm_822, wm_823⟩ rfl hzz3 (c_X8_hasCubeFrame (nx := nx) hzx4) yw_X8_hasCubeFrame wm_1077 rfl rfl (Nat.le_of_ble_eq_true rfl) ⟨by decide, by decide⟩ dX11_weight_10 rfl rfl ?_
  refine j_if_ne (tgt := 18) (pc' := 16) C dX11_weight_13 rfl rfl (fun hc => ?_) (fun hc => ?_)
  · have hr := ifF hc hr
    clear hc
    refine j_aload_n (q := 0) (pc' := 19) C dX11_weight_18 rfl rfl rfl ?_
    obtain ⟨zx5, hzx5, hr⟩ := ob hr
    refine j_getA (pc' := 22) C dX11_weight_19 fl_X11_151 hzx5 rfl ?_
    refine j_iload_n (q := 2) (pc' := 23) C dX11_weight_22 rfl rfl rfl ?_
    obtain ⟨zz6, hzz6, hr⟩ := ob hr
    obtain ⟨zx7, hzx7, hr⟩ := ob hr
    obtain ⟨fhzz6, hzz6⟩ := rcv_sp hzz6
    refine j_callV (ci := 2) (As := [.int p1]) (rest := []) (st1 := [.int zx7]) (pc' := 26) C ⟨wm_1079, wm_1080⟩ rfl hzz6 (c_X2_lettersOf (nx := nx) hzx7) yw_X2_lettersOf wm_1078 rfl rfl (Nat.le_of_ble_eq_true rfl) ⟨by decide, by decide⟩ dX11_weight_23 rfl rfl ?_
    have hr := Option.some.inj hr
    subst hr
    exact j_iret C hq hret dX11_weight_26
  · have hr := ifT hc hr
    clear hc
    refine j_iconst (v := -1) (pc' := 17) C dX11_weight_16 kI_m1 rfl ?_
    have hr := Option.some.inj hr
    subst hr
    exact j_iret C hq hret dX11_weight_17
def m_X11_cubePart (ce : Ce) (p0 : Nat) (p1 : Int32) (p2 : Int32) (p3 : Int32) (p4 : Int32) : Option (Int32) :=
  if p3 = (-1 : Int32) then
    some (p2 - p1)
  else
    if p3 < 0 then
      some (-2 : Int32)
    else
      if p3 < (p2 - p1) then
        if p4 = (0 : Int32) then
          (rcv ce 2 p0).bind fun zz1 =>
          (m_X2_cubeAt ce p0 (p1 + p3)).bind fun zx2 =>
          (m_X3_maskOf zx2).bind fun zx3 =>
          some zx3
        else
        if p4 = (1 : Int32) then
          (rcv ce 2 p0).bind fun zz4 =>
          (m_X2_cubeAt ce p0 (p1 + p3)).bind fun zx5 =>
          (m_X3_bitsOf zx5).bind fun zx6 =>
          some zx6
        else
        some (-2 : Int32)
      else
        some (-2 : Int32)
set_option maxRecDepth 100000 in
set_option maxHeartbeats 4000000 in
theorem c_X11_cubePart {nx : Nat} {ce : Ce} {p0 : Nat} {p1 : Int32} {p2 : Int32} {p3 : Int32} {p4 : Int32} {q : Int32} (hr : m_X11_cubePart ce p0 p1 p2 p3 p4 = some q) : Ct yX11_cubePart cX11_cubePart 5 (some .int) 1 21 0 0 [.ref p0, .int p1, .int p2, .int p3, .int p4] nx ce (some (.int q)) ce := by
  unfold m_X11_cubePart at hr
  refine ct_of (by decide) (Nat.le_of_ble_eq_true rfl) ?_
  intro G C hq hret hin
  show Jd G 0 0 nx ce 0 [(0, .ref p0), (1, .int p1), (2, .int p2), (3, .int p3), (4, .int p4)] []
  refine j_iload_n (q := 3) (pc' := 1) C dX11_cubePart_0 rfl rfl rfl ?_
  refine j_iconst (v := -1) (pc' := 2) C dX11_cubePart_1 kI_m1 rfl ?_
  refine j_ic_ne (tgt := 9) (pc' := 5) C dX11_cubePart_2 rfl rfl (fun hc => ?_) (fun hc => ?_)
  · have hr := ifF hc hr
    clear hc
    refine j_iload_n (q := 3) (pc' := 10) C dX11_cubePart_9 rfl rfl rfl ?_
    refine j_if_lt (tgt := 20) (pc' := 13) C dX11_cubePart_10 rfl rfl (fun hc => ?_) (fun hc => ?_)
    · have hr := ifT hc hr
      clear hc
      refine j_bipush (v := -2) (pc' := 22) C dX11_cubePart_20 kB_m2 rfl ?_
      have hr := Option.some.inj hr
      subst hr
      exact j_iret C hq hret dX11_cubePart_22
    · have hr := ifF hc hr
      clear hc
      refine j_iload_n (q := 3) (pc' := 14) C dX11_cubePart_13 rfl rfl rfl ?_
      refine j_iload_n (q := 2) (pc' := 15) C dX11_cubePart_14 rfl rfl rfl ?_
      refine j_iload_n (q := 1) (pc' := 16) C dX11_cubePart_15 rfl rfl rfl ?_
      refine j_isub (pc' := 17) C dX11_cubePart_16 rfl ?_
      refine j_ic_lt (tgt := 23) (pc' := 20) C dX11_cubePart_17 rfl rfl (fun hc => ?_) (fun hc => ?_)
      · have hr := ifT hc hr
        clear hc
        refine j_iload (q := 4) (pc' := 25) C dX11_cubePart_23 rfl rfl ?_
        by_cases hc0 : p4 = (0 : Int32)
        · have hr := ifT hc0 hr
          refine j_lkp (tgt := 52) (off := 27) C dX11_cubePart_25 (by decide) (by rw [hc0]; decide) rfl ?_
          refine j_aload_n (q := 0) (pc' := 53) C dX11_cubePart_52 rfl rfl rfl ?_
          refine j_iload_n (q := 1) (pc' := 54) C dX11_cubePart_53 rfl rfl rfl ?_
          refine j_iload_n (q := 3) (pc' := 55) C dX11_cubePart_54 rfl rfl rfl ?_
          refine j_iadd (pc' := 56) C dX11_cubePart_55 rfl ?_
          obtain ⟨zz1, hzz1, hr⟩ := ob hr
          obtain ⟨zx2, hzx2, hr⟩ := ob hr
          obtain ⟨fhzz1, hzz1⟩ := rcv_sp hzz1
          refine j_callV (ci := 2) (As := [.int (p1 + p3)]) (rest := []) (st1 := [.int zx2]) (pc' := 59) C ⟨wm_999, wm_1000⟩ rfl hzz1 (c_X2_cubeAt (nx := nx) hzx2) yw_X2_cubeAt wm_1097 rfl rfl (Nat.le_of_ble_eq_true rfl) ⟨by decide, by decide⟩ dX11_cubePart_56 rfl rfl ?_
          obtain ⟨zx3, hzx3, hr⟩ := ob hr
          refine j_callS (As := [.int zx2]) (rest := []) (st1 := [.int zx3]) (pc' := 62) C wm_833 (c_X3_maskOf (nx := nx) (ce := ce) hzx3) yw_X3_maskOf wm_1098 rfl rfl (Nat.le_of_ble_eq_true rfl) ⟨by decide, by decide⟩ dX11_cubePart_59 rfl rfl ?_
          have hr := Option.some.inj hr
          subst hr
          exact j_iret C hq hret dX11_cubePart_62
        have hr := ifF hc0 hr
        by_cases hc1 : p4 = (1 : Int32)
        · have hr := ifT hc1 hr
          refine j_lkp (tgt := 63) (off := 38) C dX11_cubePart_25 (by decide) (by rw [lv_osw hc0 (by decide)]; rw [hc1]; decide) rfl ?_
          refine j_aload_n (q := 0) (pc' := 64) C dX11_cubePart_63 rfl rfl rfl ?_
          refine j_iload_n (q := 1) (pc' := 65) C dX11_cubePart_64 rfl rfl rfl ?_
          refine j_iload_n (q := 3) (pc' := 66) C dX11_cubePart_65 rfl rfl rfl ?_
          refine j_iadd (pc' := 67) C dX11_cubePart_66 rfl ?_
          obtain ⟨zz4, hzz4, hr⟩ := ob hr
          obtain ⟨zx5, hzx5, hr⟩ := ob hr
          obtain ⟨fhzz4, hzz4⟩ := rcv_sp hzz4
          refine j_callV (ci := 2) (As := [.int (p1 + p3)]) (rest := []) (st1 := [.int zx5]) (pc' := 70) C ⟨wm_999, wm_1000⟩ rfl hzz4 (c_X2_cubeAt (nx := nx) hzx5) yw_X2_cubeAt wm_1097 rfl rfl (Nat.le_of_ble_eq_true rfl) ⟨by decide, by decide⟩ dX11_cubePart_67 rfl rfl ?_
          obtain ⟨zx6, hzx6, hr⟩ := ob hr
          refine j_callS (As := [.int zx5]) (rest := []) (st1 := [.int zx6]) (pc' := 73) C wm_836 (c_X3_bitsOf (nx := nx) (ce := ce) hzx6) yw_X3_bitsOf wm_1099 rfl rfl (Nat.le_of_ble_eq_true rfl) ⟨by decide, by decide⟩ dX11_cubePart_70 rfl rfl ?_
          have hr := Option.some.inj hr
          subst hr
          exact j_iret C hq hret dX11_cubePart_73
        have hr := ifF hc1 hr
        refine j_lkp (tgt := 74) (off := 49) C dX11_cubePart_25 (by decide) (by rw [lv_osw hc0 (by decide)]; rw [lv_osw hc1 (by decide)]; rfl) rfl ?_
        refine j_bipush (v := -2) (pc' := 76) C dX11_cubePart_74 kB_m2 rfl ?_
        have hr := Option.some.inj hr
        subst hr
        exact j_iret C hq hret dX11_cubePart_76
      · have hr := ifF hc hr
        clear hc
        refine j_bipush (v := -2) (pc' := 22) C dX11_cubePart_20 kB_m2 rfl ?_
        have hr := Option.some.inj hr
        subst hr
        exact j_iret C hq hret dX11_cubePart_22
  · have hr := ifT hc hr
    clear hc
    refine j_iload_n (q := 2) (pc' := 6) C dX11_cubePart_5 rfl rfl rfl ?_
    refine j_iload_n (q := 1) (pc' := 7) C dX11_cubePart_6 rfl rfl rfl ?_
    refine j_isub (pc' := 8) C dX11_cubePart_7 rfl ?_
    have hr := Option.some.inj hr
    subst hr
    exact j_iret C hq hret dX11_cubePart_8
def m_X11_cube (ce : Ce) (this : Nat) (p1 : Int32) (p2 : Int32) (p3 : Int32) : Option (Int32) :=
  (gA ce 8 6 this).bind fun zx1 =>
  (gA ce 7 4 zx1).bind fun zx2 =>
  (rcv ce 6 zx2).bind fun zz3 =>
  (m_X8_hasCubeFrame ce zx2 p1).bind fun zx4 =>
  if zx4 = 0 then
    some (-2 : Int32)
  else
    (gA ce 6 11 zx2).bind fun zx5 =>
    (rcv ce 2 zx5).bind fun zz6 =>
    (m_X2_startOf ce zx5 p1).bind fun zx7 =>
    (rcv ce 2 zx5).bind fun zz8 =>
    (m_X2_countOf ce zx5 p1).bind fun zx9 =>
    (m_X11_cubePart ce zx5 zx7 (zx7 + zx9) p2 p3).bind fun zx10 =>
    some zx10
set_option maxRecDepth 100000 in
set_option maxHeartbeats 4000000 in
theorem c_X11_cube {nx : Nat} {ce : Ce} {this : Nat} {p1 : Int32} {p2 : Int32} {p3 : Int32} {q : Int32} (hr : m_X11_cube ce this p1 p2 p3 = some q) : Ct yX11_cube cX11_cube 7 (some .int) 2 45 0 0 [.ref this, .int p1, .int p2, .int p3] nx ce (some (.int q)) ce := by
  unfold m_X11_cube at hr
  refine ct_of (by decide) (Nat.le_of_ble_eq_true rfl) ?_
  intro G C hq hret hin
  show Jd G 0 0 nx ce 0 [(0, .ref this), (1, .int p1), (2, .int p2), (3, .int p3)] []
  refine j_aload_n (q := 0) (pc' := 1) C dX11_cube_0 rfl rfl rfl ?_
  obtain ⟨zx1, hzx1, hr⟩ := ob hr
  refine j_getA (pc' := 4) C dX11_cube_1 fl_X11_35 hzx1 rfl ?_
  obtain ⟨zx2, hzx2, hr⟩ := ob hr
  refine j_getA (pc' := 7) C dX11_cube_4 fl_X11_112 hzx2 rfl ?_
  refine j_astore (lv' := [(4, .ref zx2), (0, .ref this), (1, .int p1), (2, .int p2), (3, .int p3)]) (pc' := 9) C dX11_cube_7 (by decide) rfl rfl ?_
  refine j_aload (q := 0) (pc' := 11) C dX11_cube_9 rfl rfl ?_
  refine j_iload_n (q := 2) (pc' := 12) C dX11_cube_11 rfl rfl rfl ?_
  obtain ⟨zz3, hzz3, hr⟩ := ob hr
  obtain ⟨zx4, hzx4, hr⟩ := ob hr
  obtain ⟨fhzz3, hzz3⟩ := rcv_sp hzz3
  refine j_callV (ci := 6) (As := [.int p1]) (rest := []) (st1 := [.int zx4]) (pc' := 15) C ⟨wm_822, wm_823⟩ rfl hzz3 (c_X8_hasCubeFrame (nx := nx) hzx4) yw_X8_hasCubeFrame wm_1077 rfl rfl (Nat.le_of_ble_eq_true rfl) ⟨by decide, by decide⟩ dX11_cube_12 rfl rfl ?_
  refine j_if_ne (tgt := 21) (pc' := 18) C dX11_cube_15 rfl rfl (fun hc => ?_) (fun hc => ?_)
  · have hr := ifF hc hr
    clear hc
    refine j_aload (q := 0) (pc' := 23) C dX11_cube_21 rfl rfl ?_
    obtain ⟨zx5, hzx5, hr⟩ := ob hr
    refine j_getA (pc' := 26) C dX11_cube_23 fl_X11_151 hzx5 rfl ?_
    refine j_astore (lv' := [(5, .ref zx5), (4, .ref zx2), (0, .ref this), (1, .int p1), (2, .int p2), (3, .int p3)]) (pc' := 28) C dX11_cube_26 (by decide) rfl rfl ?_
    refine j_aload (q := 0) (pc' := 30) C dX11_cube_28 rfl rfl ?_
    refine j_iload_n (q := 3) (pc' := 31) C dX11_cube_30 rfl rfl rfl ?_
    obtain ⟨zz6, hzz6, hr⟩ := ob hr
    obtain ⟨zx7, hzx7, hr⟩ := ob hr
    obtain ⟨fhzz6, hzz6⟩ := rcv_sp hzz6
    refine j_callV (ci := 2) (As := [.int p1]) (rest := []) (st1 := [.int zx7]) (pc' := 34) C ⟨wm_845, wm_846⟩ rfl hzz6 (c_X2_startOf (nx := nx) hzx7) yw_X2_startOf wm_1093 rfl rfl (Nat.le_of_ble_eq_true rfl) ⟨by decide, by decide⟩ dX11_cube_31 rfl rfl ?_
    refine j_istore (lv' := [(6, .int zx7), (5, .ref zx5), (4, .ref zx2), (0, .ref this), (1, .int p1), (2, .int p2), (3, .int p3)]) (pc' := 36) C dX11_cube_34 (by decide) rfl rfl ?_
    refine j_aload (q := 1) (pc' := 38) C dX11_cube_36 rfl rfl ?_
    refine j_iload (q := 0) (pc' := 40) C dX11_cube_38 rfl rfl ?_
    refine j_iload (q := 0) (pc' := 42) C dX11_cube_40 rfl rfl ?_
    refine j_aload (q := 1) (pc' := 44) C dX11_cube_42 rfl rfl ?_
    refine j_iload_n (q := 4) (pc' := 45) C dX11_cube_44 rfl rfl rfl ?_
    obtain ⟨zz8, hzz8, hr⟩ := ob hr
    obtain ⟨zx9, hzx9, hr⟩ := ob hr
    obtain ⟨fhzz8, hzz8⟩ := rcv_sp hzz8
    refine j_callV (ci := 2) (As := [.int p1]) (rest := [.int zx7, .int zx7, .ref zx5]) (st1 := [.int zx9, .int zx7, .int zx7, .ref zx5]) (pc' := 48) C ⟨wm_875, wm_876⟩ rfl hzz8 (c_X2_countOf (nx := nx) hzx9) yw_X2_countOf wm_874 rfl rfl (Nat.le_of_ble_eq_true rfl) ⟨by decide, by decide⟩ dX11_cube_45 rfl rfl ?_
    refine j_iadd (pc' := 49) C dX11_cube_48 rfl ?_
    refine j_iload_n (q := 5) (pc' := 50) C dX11_cube_49 rfl rfl rfl ?_
    refine j_iload_n (q := 6) (pc' := 51) C dX11_cube_50 rfl rfl rfl ?_
    obtain ⟨zx10, hzx10, hr⟩ := ob hr
    refine j_callS (As := [.ref zx5, .int zx7, .int (zx7 + zx9), .int p2, .int p3]) (rest := []) (st1 := [.int zx10]) (pc' := 54) C wm_1095 (c_X11_cubePart (nx := nx) hzx10) yw_X11_cubePart wm_1094 rfl rfl (Nat.le_of_ble_eq_true rfl) ⟨by decide, by decide⟩ dX11_cube_51 rfl rfl ?_
    have hr := Option.some.inj hr
    subst hr
    exact j_iret C hq hret dX11_cube_54
  · have hr := ifT hc hr
    clear hc
    refine j_bipush (v := -2) (pc' := 20) C dX11_cube_18 kB_m2 rfl ?_
    have hr := Option.some.inj hr
    subst hr
    exact j_iret C hq hret dX11_cube_20
def m_X11_obligation (ce : Ce) (this : Nat) (p1 : Int32) (p2 : Int32) : Option (Int32) :=
  (gA ce 8 6 this).bind fun zx1 =>
  (gA ce 7 4 zx1).bind fun zx2 =>
  (gA ce 6 12 zx2).bind fun zx3 =>
  if p1 = (-1 : Int32) then
    (gI ce 4 1 zx3).bind fun zx7 =>
    some zx7
  else
    if p1 < 0 then
      some (-2 : Int32)
    else
      (gI ce 4 1 zx3).bind fun zx4 =>
      if zx4 ≤ p1 then
        some (-2 : Int32)
      else
        if p2 < 0 then
          some (-2 : Int32)
        else
          if p2 < (4 : Int32) then
            (rcv ce 4 zx3).bind fun zz5 =>
            (m_X6_part ce zx3 p1 p2).bind fun zx6 =>
            some zx6
          else
            some (-2 : Int32)
set_option maxRecDepth 100000 in
set_option maxHeartbeats 4000000 in
theorem c_X11_obligation {nx : Nat} {ce : Ce} {this : Nat} {p1 : Int32} {p2 : Int32} {q : Int32} (hr : m_X11_obligation ce this p1 p2 = some q) : Ct yX11_obligation cX11_obligation 4 (some .int) 1 23 0 0 [.ref this, .int p1, .int p2] nx ce (some (.int q)) ce := by
  unfold m_X11_obligation at hr
  refine ct_of (by decide) (Nat.le_of_ble_eq_true rfl) ?_
  intro G C hq hret hin
  show Jd G 0 0 nx ce 0 [(0, .ref this), (1, .int p1), (2, .int p2)] []
  refine j_aload_n (q := 0) (pc' := 1) C dX11_obligation_0 rfl rfl rfl ?_
  obtain ⟨zx1, hzx1, hr⟩ := ob hr
  refine j_getA (pc' := 4) C dX11_obligation_1 fl_X11_35 hzx1 rfl ?_
  obtain ⟨zx2, hzx2, hr⟩ := ob hr
  refine j_getA (pc' := 7) C dX11_obligation_4 fl_X11_112 hzx2 rfl ?_
  obtain ⟨zx3, hzx3, hr⟩ := ob hr
  refine j_getA (pc' := 10) C dX11_obligation_7 fl_X11_188 hzx3 rfl ?_
  refine j_astore_n (lv' := [(3, .ref zx3), (0, .ref this), (1, .int p1), (2, .int p2)]) (pc' := 11) C dX11_obligation_10 rfl (by decide) rfl rfl ?_
  refine j_iload_n (q := 2) (pc' := 12) C dX11_obligation_11 rfl rfl rfl ?_
  refine j_iconst (v := -1) (pc' := 13) C dX11_obligation_12 kI_m1 rfl ?_
  refine j_ic_ne (tgt := 21) (pc' := 16) C dX11_obligation_13 rfl rfl (fun hc => ?_) (fun hc => ?_)
  · have hr := ifF hc hr
    clear hc
    refine j_iload_n (q := 2) (pc' := 22) C dX11_obligation_21 rfl rfl rfl ?_
    refine j_if_lt (tgt := 42) (pc' := 25) C dX11_obligation_22 rfl rfl (fun hc => ?_) (fun hc => ?_)
    · have hr := ifT hc hr
      clear hc
      refine j_bipush (v := -2) (pc' := 44) C dX11_obligation_42 kB_m2 rfl ?_
      have hr := Option.some.inj hr
      subst hr
      exact j_iret C hq hret dX11_obligation_44
    · have hr := ifF hc hr
      clear hc
      refine j_iload_n (q := 2) (pc' := 26) C dX11_obligation_25 rfl rfl rfl ?_
      refine j_aload_n (q := 0) (pc' := 27) C dX11_obligation_26 rfl rfl rfl ?_
      obtain ⟨zx4, hzx4, hr⟩ := ob hr
      refine j_getI (pc' := 30) C dX11_obligation_27 fl_X11_192 hzx4 rfl ?_
      refine j_ic_ge (tgt := 42) (pc' := 33) C dX11_obligation_30 rfl rfl (fun hc => ?_) (fun hc => ?_)
      · have hr := ifT hc hr
        clear hc
        refine j_bipush (v := -2) (pc' := 44) C dX11_obligation_42 kB_m2 rfl ?_
        have hr := Option.some.inj hr
        subst hr
        exact j_iret C hq hret dX11_obligation_44
      · have hr := ifF hc hr
        clear hc
        refine j_iload_n (q := 3) (pc' := 34) C dX11_obligation_33 rfl rfl rfl ?_
        refine j_if_lt (tgt := 42) (pc' := 37) C dX11_obligation_34 rfl rfl (fun hc => ?_) (fun hc => ?_)
        · have hr := ifT hc hr
          clear hc
          refine j_bipush (v := -2) (pc' := 44) C dX11_obligation_42 kB_m2 rfl ?_
          have hr := Option.some.inj hr
          subst hr
          exact j_iret C hq hret dX11_obligation_44
        · have hr := ifF hc hr
          clear hc
          refine j_iload_n (q := 3) (pc' := 38) C dX11_obligation_37 rfl rfl rfl ?_
          refine j_iconst (v := 4) (pc' := 39) C dX11_obligation_38 kI_4 rfl ?_
          refine j_ic_lt (tgt := 45) (pc' := 42) C dX11_obligation_39 rfl rfl (fun hc => ?_) (fun hc => ?_)
          · have hr := ifT hc hr
            clear hc
            refine j_aload_n (q := 0) (pc' := 46) C dX11_obligation_45 rfl rfl rfl ?_
            refine j_iload_n (q := 2) (pc' := 47) C dX11_obligation_46 rfl rfl rfl ?_
            refine j_iload_n (q := 3) (pc' := 48) C dX11_obligation_47 rfl rfl rfl ?_
            obtain ⟨zz5, hzz5, hr⟩ := ob hr
            obtain ⟨zx6, hzx6, hr⟩ := ob hr
            obtain ⟨fhzz5, hzz5⟩ := rcv_sp hzz5
            refine j_callV (ci := 4) (As := [.int p1, .int p2]) (rest := []) (st1 := [.int zx6]) (pc' := 51) C ⟨wm_918, wm_919⟩ rfl hzz5 (c_X6_part (nx := nx) hzx6) yw_X6_part wm_1104 rfl rfl (Nat.le_of_ble_eq_true rfl) ⟨by decide, by decide⟩ dX11_obligation_48 rfl rfl ?_
            have hr := Option.some.inj hr
            subst hr
            exact j_iret C hq hret dX11_obligation_51
          · have hr := ifF hc hr
            clear hc
            refine j_bipush (v := -2) (pc' := 44) C dX11_obligation_42 kB_m2 rfl ?_
            have hr := Option.some.inj hr
            subst hr
            exact j_iret C hq hret dX11_obligation_44
  · have hr := ifT hc hr
    clear hc
    refine j_aload_n (q := 0) (pc' := 17) C dX11_obligation_16 rfl rfl rfl ?_
    obtain ⟨zx7, hzx7, hr⟩ := ob hr
    refine j_getI (pc' := 20) C dX11_obligation_17 fl_X11_192 hzx7 rfl ?_
    have hr := Option.some.inj hr
    subst hr
    exact j_iret C hq hret dX11_obligation_20
def m_X11_pathPart (ce : Ce) (this : Nat) (p1 : Int32) (p2 : Int32) (p3 : Int32) : Option (Int32) :=
  if p2 = (-1 : Int32) then
    some p1
  else
    if p2 < 0 then
      some (-2 : Int32)
    else
      if p1 ≤ p2 then
        some (-2 : Int32)
      else
        (gA ce 8 11 this).bind fun zx1 =>
        (alen ce zx1).bind fun zx2 =>
        if zx2 ≤ p2 then
          some (-2 : Int32)
        else
          if p3 < 0 then
            some (-2 : Int32)
          else
            if p3 ≤ (1 : Int32) then
              if p3 = 0 then
                (gA ce 8 11 this).bind fun zx14 =>
                (aI ce zx14 p2).bind fun zx15 =>
                some zx15
              else
                if p1 ≤ (p2 + (1 : Int32)) then
                  some (-1 : Int32)
                else
                  (gA ce 8 11 this).bind fun zx3 =>
                  (alen ce zx3).bind fun zx4 =>
                  if (p2 + (1 : Int32)) < zx4 then
                    (gA ce 8 6 this).bind fun zx5 =>
                    (gA ce 7 4 zx5).bind fun zx6 =>
                    (gA ce 6 0 zx6).bind fun zx7 =>
                    (gA ce 8 11 this).bind fun zx8 =>
                    (aI ce zx8 p2).bind fun zx9 =>
                    (gA ce 8 11 this).bind fun zx10 =>
                    (aI ce zx10 (p2 + (1 : Int32))).bind fun zx11 =>
                    (rcv ce 3 zx7).bind fun zz12 =>
                    (m_X5_inputBetween ce zx7 zx9 zx11).bind fun zx13 =>
                    some zx13
                  else
                    some (-1 : Int32)
            else
              some (-2 : Int32)
set_option maxRecDepth 100000 in
set_option maxHeartbeats 4000000 in
theorem c_X11_pathPart {nx : Nat} {ce : Ce} {this : Nat} {p1 : Int32} {p2 : Int32} {p3 : Int32} {q : Int32} (hr : m_X11_pathPart ce this p1 p2 p3 = some q) : Ct yX11_pathPart cX11_pathPart 4 (some .int) 2 46 0 0 [.ref this, .int p1, .int p2, .int p3] nx ce (some (.int q)) ce := by
  unfold m_X11_pathPart at hr
  refine ct_of (by decide) (Nat.le_of_ble_eq_true rfl) ?_
  intro G C hq hret hin
  show Jd G 0 0 nx ce 0 [(0, .ref this), (1, .int p1), (2, .int p2), (3, .int p3)] []
  refine j_iload_n (q := 2) (pc' := 1) C dX11_pathPart_0 rfl rfl rfl ?_
  refine j_iconst (v := -1) (pc' := 2) C dX11_pathPart_1 kI_m1 rfl ?_
  refine j_ic_ne (tgt := 7) (pc' := 5) C dX11_pathPart_2 rfl rfl (fun hc => ?_) (fun hc => ?_)
  · have hr := ifF hc hr
    clear hc
    refine j_iload_n (q := 2) (pc' := 8) C dX11_pathPart_7 rfl rfl rfl ?_
    refine j_if_lt (tgt := 34) (pc' := 11) C dX11_pathPart_8 rfl rfl (fun hc => ?_) (fun hc => ?_)
    · have hr := ifT hc hr
      clear hc
      refine j_bipush (v := -2) (pc' := 36) C dX11_pathPart_34 kB_m2 rfl ?_
      have hr := Option.some.inj hr
      subst hr
      exact j_iret C hq hret dX11_pathPart_36
    · have hr := ifF hc hr
      clear hc
      refine j_iload_n (q := 2) (pc' := 12) C dX11_pathPart_11 rfl rfl rfl ?_
      refine j_iload_n (q := 1) (pc' := 13) C dX11_pathPart_12 rfl rfl rfl ?_
      refine j_ic_ge (tgt := 34) (pc' := 16) C dX11_pathPart_13 rfl rfl (fun hc => ?_) (fun hc => ?_)
      · have hr := ifT hc hr
        clear hc
        refine j_bipush (v := -2) (pc' := 36) C dX11_pathPart_34 kB_m2 rfl ?_
        have hr := Option.some.inj hr
        subst hr
        exact j_iret C hq hret dX11_pathPart_36
      · have hr := ifF hc hr
        clear hc
        refine j_iload_n (q := 2) (pc' := 17) C dX11_pathPart_16 rfl rfl rfl ?_
        refine j_aload_n (q := 0) (pc' := 18) C dX11_pathPart_17 rfl rfl rfl ?_
        obtain ⟨zx1, hzx1, hr⟩ := ob hr
        refine j_getA (pc' := 21) C dX11_pathPart_18 fl_X11_63 hzx1 rfl ?_
        obtain ⟨zx2, hzx2, hr⟩ := ob hr
        refine j_alen (pc' := 22) C dX11_pathPart_21 hzx2 rfl ?_
        refine j_ic_ge (tgt := 34) (pc' := 25) C dX11_pathPart_22 rfl rfl (fun hc => ?_) (fun hc => ?_)
        · have hr := ifT hc hr
          clear hc
          refine j_bipush (v := -2) (pc' := 36) C dX11_pathPart_34 kB_m2 rfl ?_
          have hr := Option.some.inj hr
          subst hr
          exact j_iret C hq hret dX11_pathPart_36
        · have hr := ifF hc hr
          clear hc
          refine j_iload_n (q := 3) (pc' := 26) C dX11_pathPart_25 rfl rfl rfl ?_
          refine j_if_lt (tgt := 34) (pc' := 29) C dX11_pathPart_26 rfl rfl (fun hc => ?_) (fun hc => ?_)
          · have hr := ifT hc hr
            clear hc
            refine j_bipush (v := -2) (pc' := 36) C dX11_pathPart_34 kB_m2 rfl ?_
            have hr := Option.some.inj hr
            subst hr
            exact j_iret C hq hret dX11_pathPart_36
          · have hr := ifF hc hr
            clear hc
            refine j_iload_n (q := 3) (pc' := 30) C dX11_pathPart_29 rfl rfl rfl ?_
            refine j_iconst (v := 1) (pc' := 31) C dX11_pathPart_30 kI_1 rfl ?_
            refine j_ic_le (tgt := 37) (pc' := 34) C dX11_pathPart_31 rfl rfl (fun hc => ?_) (fun hc => ?_)
            · have hr := ifT hc hr
              clear hc
              refine j_iload_n (q := 3) (pc' := 38) C dX11_pathPart_37 rfl rfl rfl ?_
              refine j_if_ne (tgt := 48) (pc' := 41) C dX11_pathPart_38 rfl rfl (fun hc => ?_) (fun hc => ?_)
              · have hr := ifF hc hr
                clear hc
                refine j_iload_n (q := 2) (pc' := 49) C dX11_pathPart_48 rfl rfl rfl ?_
                refine j_iconst (v := 1) (pc' := 50) C dX11_pathPart_49 kI_1 rfl ?_
                refine j_iadd (pc' := 51) C dX11_pathPart_50 rfl ?_
                refine j_iload_n (q := 1) (pc' := 52) C dX11_pathPart_51 rfl rfl rfl ?_
                refine j_ic_ge (tgt := 66) (pc' := 55) C dX11_pathPart_52 rfl rfl (fun hc => ?_) (fun hc => ?_)
                · have hr := ifT hc hr
                  clear hc
                  refine j_iconst (v := -1) (pc' := 67) C dX11_pathPart_66 kI_m1 rfl ?_
                  have hr := Option.some.inj hr
                  subst hr
                  exact j_iret C hq hret dX11_pathPart_67
                · have hr := ifF hc hr
                  clear hc
                  refine j_iload_n (q := 2) (pc' := 56) C dX11_pathPart_55 rfl rfl rfl ?_
                  refine j_iconst (v := 1) (pc' := 57) C dX11_pathPart_56 kI_1 rfl ?_
                  refine j_iadd (pc' := 58) C dX11_pathPart_57 rfl ?_
                  refine j_aload_n (q := 0) (pc' := 59) C dX11_pathPart_58 rfl rfl rfl ?_
                  obtain ⟨zx3, hzx3, hr⟩ := ob hr
                  refine j_getA (pc' := 62) C dX11_pathPart_59 fl_X11_63 hzx3 rfl ?_
                  obtain ⟨zx4, hzx4, hr⟩ := ob hr
                  refine j_alen (pc' := 63) C dX11_pathPart_62 hzx4 rfl ?_
                  refine j_ic_lt (tgt := 68) (pc' := 66) C dX11_pathPart_63 rfl rfl (fun hc => ?_) (fun hc => ?_)
                  · have hr := ifT hc hr
                    clear hc
                    refine j_aload_n (q := 0) (pc' := 69) C dX11_pathPart_68 rfl rfl rfl ?_
                    obtain ⟨zx5, hzx5, hr⟩ := ob hr
                    refine j_getA (pc' := 72) C dX11_pathPart_69 fl_X11_35 hzx5 rfl ?_
                    obtain ⟨zx6, hzx6, hr⟩ := ob hr
                    refine j_getA (pc' := 75) C dX11_pathPart_72 fl_X11_112 hzx6 rfl ?_
                    obtain ⟨zx7, hzx7, hr⟩ := ob hr
                    refine j_getA (pc' := 78) C dX11_pathPart_75 fl_X11_125 hzx7 rfl ?_
                    refine j_aload_n (q := 0) (pc' := 79) C dX11_pathPart_78 rfl rfl rfl ?_
                    obtain ⟨zx8, hzx8, hr⟩ := ob hr
                    refine j_getA (pc' := 82) C dX11_pathPart_79 fl_X11_63 hzx8 rfl ?_
                    refine j_iload_n (q := 2) (pc' := 83) C dX11_pathPart_82 rfl rfl rfl ?_
                    obtain ⟨zx9, hzx9, hr⟩ := ob hr
                    refine j_iald (pc' := 84) C dX11_pathPart_83 hzx9 rfl ?_
                    refine j_aload_n (q := 0) (pc' := 85) C dX11_pathPart_84 rfl rfl rfl ?_
                    obtain ⟨zx10, hzx10, hr⟩ := ob hr
                    refine j_getA (pc' := 88) C dX11_pathPart_85 fl_X11_63 hzx10 rfl ?_
                    refine j_iload_n (q := 2) (pc' := 89) C dX11_pathPart_88 rfl rfl rfl ?_
                    refine j_iconst (v := 1) (pc' := 90) C dX11_pathPart_89 kI_1 rfl ?_
                    refine j_iadd (pc' := 91) C dX11_pathPart_90 rfl ?_
                    obtain ⟨zx11, hzx11, hr⟩ := ob hr
                    refine j_iald (pc' := 92) C dX11_pathPart_91 hzx11 rfl ?_
                    obtain ⟨zz12, hzz12, hr⟩ := ob hr
                    obtain ⟨zx13, hzx13, hr⟩ := ob hr
                    obtain ⟨fhzz12, hzz12⟩ := rcv_sp hzz12
                    refine j_callV (ci := 3) (As := [.int zx9, .int zx11]) (rest := []) (st1 := [.int zx13]) (pc' := 95) C ⟨wm_1122, wm_1123⟩ rfl hzz12 (c_X5_inputBetween (nx := nx) hzx13) yw_X5_inputBetween wm_1121 rfl rfl (Nat.le_of_ble_eq_true rfl) ⟨by decide, by decide⟩ dX11_pathPart_92 rfl rfl ?_
                    have hr := Option.some.inj hr
                    subst hr
                    exact j_iret C hq hret dX11_pathPart_95
                  · have hr := ifF hc hr
                    clear hc
                    refine j_iconst (v := -1) (pc' := 67) C dX11_pathPart_66 kI_m1 rfl ?_
                    have hr := Option.some.inj hr
                    subst hr
                    exact j_iret C hq hret dX11_pathPart_67
              · have hr := ifT hc hr
                clear hc
                refine j_aload_n (q := 0) (pc' := 42) C dX11_pathPart_41 rfl rfl rfl ?_
                obtain ⟨zx14, hzx14, hr⟩ := ob hr
                refine j_getA (pc' := 45) C dX11_pathPart_42 fl_X11_63 hzx14 rfl ?_
                refine j_iload_n (q := 2) (pc' := 46) C dX11_pathPart_45 rfl rfl rfl ?_
                obtain ⟨zx15, hzx15, hr⟩ := ob hr
                refine j_iald (pc' := 47) C dX11_pathPart_46 hzx15 rfl ?_
                have hr := Option.some.inj hr
                subst hr
                exact j_iret C hq hret dX11_pathPart_47
            · have hr := ifF hc hr
              clear hc
              refine j_bipush (v := -2) (pc' := 36) C dX11_pathPart_34 kB_m2 rfl ?_
              have hr := Option.some.inj hr
              subst hr
              exact j_iret C hq hret dX11_pathPart_36
  · have hr := ifT hc hr
    clear hc
    refine j_iload_n (q := 1) (pc' := 6) C dX11_pathPart_5 rfl rfl rfl ?_
    have hr := Option.some.inj hr
    subst hr
    exact j_iret C hq hret dX11_pathPart_6
def m_X11_trace (ce : Ce) (this : Nat) (p1 : Int32) (p2 : Int32) : Option (Int32 × Ce) :=
  (gA ce 8 6 this).bind fun zx1 =>
  (gA ce 7 4 zx1).bind fun zx2 =>
  (gI ce 6 3 zx2).bind fun zx3 =>
  (
    if zx3 = (4 : Int32) then
      (gA ce 6 12 zx2).bind fun zx7 =>
      (gA ce 8 11 this).bind fun zx8 =>
      (rcv ce 4 zx7).bind fun zz9 =>
      (m_X6_fillChain ce zx7 zx8).bind fun zq10 =>
      some (zq10.1, zq10.2)
    else
      some ((0 : Int32), ce)
  ).bind fun (zj4 : Int32 × Ce) =>
  (rcv zj4.2 8 this).bind fun zz5 =>
  (m_X11_pathPart zj4.2 this zj4.1 p1 p2).bind fun zx6 =>
  some (zx6, zj4.2)
set_option maxRecDepth 100000 in
set_option maxHeartbeats 4000000 in
theorem c_X11_trace {nx : Nat} {ce : Ce} {this : Nat} {p1 : Int32} {p2 : Int32} {q : Int32 × Ce} (hr : m_X11_trace ce this p1 p2 = some q) : Ct yX11_trace cX11_trace 5 (some .int) 3 69 0 0 [.ref this, .int p1, .int p2] nx ce (some (.int q.1)) q.2 := by
  unfold m_X11_trace at hr
  refine ct_of (by decide) (Nat.le_of_ble_eq_true rfl) ?_
  intro G C hq hret hin
  show Jd G 0 0 nx ce 0 [(0, .ref this), (1, .int p1), (2, .int p2)] []
  refine j_aload_n (q := 0) (pc' := 1) C dX11_trace_0 rfl rfl rfl ?_
  obtain ⟨zx1, hzx1, hr⟩ := ob hr
  refine j_getA (pc' := 4) C dX11_trace_1 fl_X11_35 hzx1 rfl ?_
  obtain ⟨zx2, hzx2, hr⟩ := ob hr
  refine j_getA (pc' := 7) C dX11_trace_4 fl_X11_112 hzx2 rfl ?_
  refine j_astore_n (lv' := [(3, .ref zx2), (0, .ref this), (1, .int p1), (2, .int p2)]) (pc' := 8) C dX11_trace_7 rfl (by decide) rfl rfl ?_
  refine j_aload_n (q := 0) (pc' := 9) C dX11_trace_8 rfl rfl rfl ?_
  obtain ⟨zx3, hzx3, hr⟩ := ob hr
  refine j_getI (pc' := 12) C dX11_trace_9 fl_X11_176 hzx3 rfl ?_
  refine j_iconst (v := 4) (pc' := 13) C dX11_trace_12 kI_4 rfl ?_
  obtain ⟨zj4, hzj4, rzj4⟩ := ob hr
  have kzj4 : Jd G 0 0 nx zj4.2 31 [(0, .ref this), (1, .int p1), (2, .int p2)] [.int zj4.1] := by
    have hr := rzj4
    refine j_istore (lv' := [(4, .int zj4.1), (0, .ref this), (1, .int p1), (2, .int p2)]) (pc' := 33) C dX11_trace_31 (by decide) rfl rfl ?_
    refine j_aload_n (q := 1) (pc' := 34) C dX11_trace_33 rfl rfl rfl ?_
    refine j_iload (q := 0) (pc' := 36) C dX11_trace_34 rfl rfl ?_
    refine j_iload_n (q := 2) (pc' := 37) C dX11_trace_36 rfl rfl rfl ?_
    refine j_iload_n (q := 3) (pc' := 38) C dX11_trace_37 rfl rfl rfl ?_
    obtain ⟨zz5, hzz5, hr⟩ := ob hr
    obtain ⟨zx6, hzx6, hr⟩ := ob hr
    obtain ⟨fhzz5, hzz5⟩ := rcv_sp hzz5
    refine j_callV (ci := 8) (As := [.int zj4.1, .int p1, .int p2]) (rest := []) (st1 := [.int zx6]) (pc' := 41) C ⟨wm_1119, wm_30⟩ rfl hzz5 (c_X11_pathPart (nx := nx) hzx6) yw_X11_pathPart wm_1117 rfl rfl (Nat.le_of_ble_eq_true rfl) ⟨by decide, by decide⟩ dX11_trace_38 rfl rfl ?_
    have hr := Option.some.inj hr
    subst hr
    exact j_iret C hq hret dX11_trace_41
  clear rzj4
  have hr := hzj4
  clear hzj4
  refine j_ic_ne (tgt := 30) (pc' := 16) C dX11_trace_13 rfl rfl (fun hc => ?_) (fun hc => ?_)
  · have hr := ifF hc hr
    clear hc
    refine j_iconst (v := 0) (pc' := 31) C dX11_trace_30 kI_0 rfl ?_
    have hr := Option.some.inj hr
    subst hr
    exact j_lv [1, 2, 3] rfl kzj4
  · have hr := ifT hc hr
    clear hc
    refine j_aload_n (q := 0) (pc' := 17) C dX11_trace_16 rfl rfl rfl ?_
    obtain ⟨zx7, hzx7, hr⟩ := ob hr
    refine j_getA (pc' := 20) C dX11_trace_17 fl_X11_188 hzx7 rfl ?_
    refine j_aload_n (q := 1) (pc' := 21) C dX11_trace_20 rfl rfl rfl ?_
    obtain ⟨zx8, hzx8, hr⟩ := ob hr
    refine j_getA (pc' := 24) C dX11_trace_21 fl_X11_63 hzx8 rfl ?_
    obtain ⟨zz9, hzz9, hr⟩ := ob hr
    obtain ⟨zq10, hzq10, hr⟩ := ob hr
    obtain ⟨fhzz9, hzz9⟩ := rcv_sp hzz9
    refine j_callV (ci := 4) (As := [.ref zx8]) (rest := []) (st1 := [.int zq10.1]) (pc' := 27) C ⟨wm_1110, wm_1111⟩ rfl hzz9 (c_X6_fillChain (nx := nx) hzq10) yw_X6_fillChain wm_1109 rfl rfl (Nat.le_of_ble_eq_true rfl) ⟨by decide, by decide⟩ dX11_trace_24 rfl rfl ?_
    refine j_goto (tgt := 31) C dX11_trace_27 rfl ?_
    have hr := Option.some.inj hr
    subst hr
    exact j_lv [1, 2, 3] rfl kzj4
def m_X11_fence (ce : Ce) (this : Nat) (p1 : Int32) (p2 : Int32) : Option (Int32) :=
  (gA ce 8 6 this).bind fun zx1 =>
  (gA ce 7 4 zx1).bind fun zx2 =>
  (gA ce 6 11 zx2).bind fun zx3 =>
  (gI ce 2 3 zx3).bind fun zx4 =>
  (gI ce 6 3 zx2).bind fun zx5 =>
  (
    if zx5 = (3 : Int32) then
      (rcv ce 6 zx2).bind fun zz9 =>
      (m_X8_fenceStart ce zx2).bind fun zx10 =>
      some zx10
    else
      some zx4
  ).bind fun (zj6 : Int32) =>
  (gA ce 6 11 zx2).bind fun zx7 =>
  (m_X11_cubePart ce zx7 zj6 zx4 p1 p2).bind fun zx8 =>
  some zx8
set_option maxRecDepth 100000 in
set_option maxHeartbeats 4000000 in
theorem c_X11_fence {nx : Nat} {ce : Ce} {this : Nat} {p1 : Int32} {p2 : Int32} {q : Int32} (hr : m_X11_fence ce this p1 p2 = some q) : Ct yX11_fence cX11_fence 6 (some .int) 2 45 0 0 [.ref this, .int p1, .int p2] nx ce (some (.int q)) ce := by
  unfold m_X11_fence at hr
  refine ct_of (by decide) (Nat.le_of_ble_eq_true rfl) ?_
  intro G C hq hret hin
  show Jd G 0 0 nx ce 0 [(0, .ref this), (1, .int p1), (2, .int p2)] []
  refine j_aload_n (q := 0) (pc' := 1) C dX11_fence_0 rfl rfl rfl ?_
  obtain ⟨zx1, hzx1, hr⟩ := ob hr
  refine j_getA (pc' := 4) C dX11_fence_1 fl_X11_35 hzx1 rfl ?_
  obtain ⟨zx2, hzx2, hr⟩ := ob hr
  refine j_getA (pc' := 7) C dX11_fence_4 fl_X11_112 hzx2 rfl ?_
  refine j_astore_n (lv' := [(3, .ref zx2), (0, .ref this), (1, .int p1), (2, .int p2)]) (pc' := 8) C dX11_fence_7 rfl (by decide) rfl rfl ?_
  refine j_aload_n (q := 0) (pc' := 9) C dX11_fence_8 rfl rfl rfl ?_
  obtain ⟨zx3, hzx3, hr⟩ := ob hr
  refine j_getA (pc' := 12) C dX11_fence_9 fl_X11_151 hzx3 rfl ?_
  obtain ⟨zx4, hzx4, hr⟩ := ob hr
  refine j_getI (pc' := 15) C dX11_fence_12 fl_X11_294 hzx4 rfl ?_
  refine j_istore (lv' := [(4, .int zx4), (3, .ref zx2), (0, .ref this), (1, .int p1), (2, .int p2)]) (pc' := 17) C dX11_fence_15 (by decide) rfl rfl ?_
  refine j_aload_n (q := 1) (pc' := 18) C dX11_fence_17 rfl rfl rfl ?_
  obtain ⟨zx5, hzx5, hr⟩ := ob hr
  refine j_getI (pc' := 21) C dX11_fence_18 fl_X11_176 hzx5 rfl ?_
  refine j_iconst (v := 3) (pc' := 22) C dX11_fence_21 kI_3 rfl ?_
  obtain ⟨zj6, hzj6, rzj6⟩ := ob hr
  have kzj6 : Jd G 0 0 nx ce 34 [(1, .int p1), (2, .int p2), (3, .ref zx2), (4, .int zx4)] [.int zj6] := by
    have hr := rzj6
    refine j_istore (lv' := [(5, .int zj6), (1, .int p1), (2, .int p2), (3, .ref zx2), (4, .int zx4)]) (pc' := 36) C dX11_fence_34 (by decide) rfl rfl ?_
    refine j_aload_n (q := 3) (pc' := 37) C dX11_fence_36 rfl rfl rfl ?_
    obtain ⟨zx7, hzx7, hr⟩ := ob hr
    refine j_getA (pc' := 40) C dX11_fence_37 fl_X11_151 hzx7 rfl ?_
    refine j_iload (q := 0) (pc' := 42) C dX11_fence_40 rfl rfl ?_
    refine j_iload (q := 4) (pc' := 44) C dX11_fence_42 rfl rfl ?_
    refine j_iload_n (q := 1) (pc' := 45) C dX11_fence_44 rfl rfl rfl ?_
    refine j_iload_n (q := 2) (pc' := 46) C dX11_fence_45 rfl rfl rfl ?_
    obtain ⟨zx8, hzx8, hr⟩ := ob hr
    refine j_callS (As := [.ref zx7, .int zj6, .int zx4, .int p1, .int p2]) (rest := []) (st1 := [.int zx8]) (pc' := 49) C wm_1095 (c_X11_cubePart (nx := nx) hzx8) yw_X11_cubePart wm_1094 rfl rfl (Nat.le_of_ble_eq_true rfl) ⟨by decide, by decide⟩ dX11_fence_46 rfl rfl ?_
    have hr := Option.some.inj hr
    subst hr
    exact j_iret C hq hret dX11_fence_49
  clear rzj6
  have hr := hzj6
  clear hzj6
  refine j_ic_ne (tgt := 32) (pc' := 25) C dX11_fence_22 rfl rfl (fun hc => ?_) (fun hc => ?_)
  · have hr := ifF hc hr
    clear hc
    refine j_iload (q := 0) (pc' := 34) C dX11_fence_32 rfl rfl ?_
    have hr := Option.some.inj hr
    subst hr
    exact j_lv [3, 4, 1, 0] rfl kzj6
  · have hr := ifT hc hr
    clear hc
    refine j_aload_n (q := 1) (pc' := 26) C dX11_fence_25 rfl rfl rfl ?_
    obtain ⟨zz9, hzz9, hr⟩ := ob hr
    obtain ⟨zx10, hzx10, hr⟩ := ob hr
    obtain ⟨fhzz9, hzz9⟩ := rcv_sp hzz9
    refine j_callV (ci := 6) (As := []) (rest := []) (st1 := [.int zx10]) (pc' := 29) C ⟨wm_1131, wm_1132⟩ rfl hzz9 (c_X8_fenceStart (nx := nx) hzx10) yw_X8_fenceStart wm_1130 rfl rfl (Nat.le_of_ble_eq_true rfl) ⟨by decide, by decide⟩ dX11_fence_26 rfl rfl ?_
    refine j_goto (tgt := 34) C dX11_fence_29 rfl ?_
    have hr := Option.some.inj hr
    subst hr
    exact j_lv [3, 4, 1, 0] rfl kzj6
def m_X11_activity (ce : Ce) (this : Nat) (p1 : Int32) : Option (Int32) :=
  (gA ce 8 6 this).bind fun zx1 =>
  (gA ce 7 4 zx1).bind fun zx2 =>
  if p1 = (-1 : Int32) then
    (gA ce 6 13 zx2).bind fun zx9 =>
    (gF ce 0 1 zx9).bind fun zx10 =>
    (m_X4_ofFloat zx10).bind fun zx11 =>
    some zx11
  else
    if p1 < 0 then
      some (-2 : Int32)
    else
      (gA ce 6 0 zx2).bind fun zx3 =>
      (gI ce 3 0 zx3).bind fun zx4 =>
      if p1 < zx4 then
        (gA ce 6 13 zx2).bind fun zx5 =>
        (rcv ce 0 zx5).bind fun zz6 =>
        (m_X0_valueOf ce zx5 p1).bind fun zx7 =>
        (m_X4_ofFloat zx7).bind fun zx8 =>
        some zx8
      else
        some (-2 : Int32)
set_option maxRecDepth 100000 in
set_option maxHeartbeats 4000000 in
theorem c_X11_activity {nx : Nat} {ce : Ce} {this : Nat} {p1 : Int32} {q : Int32} (hr : m_X11_activity ce this p1 = some q) : Ct yX11_activity cX11_activity 3 (some .int) 1 23 0 0 [.ref this, .int p1] nx ce (some (.int q)) ce := by
  unfold m_X11_activity at hr
  refine ct_of (by decide) (Nat.le_of_ble_eq_true rfl) ?_
  intro G C hq hret hin
  show Jd G 0 0 nx ce 0 [(0, .ref this), (1, .int p1)] []
  refine j_aload_n (q := 0) (pc' := 1) C dX11_activity_0 rfl rfl rfl ?_
  obtain ⟨zx1, hzx1, hr⟩ := ob hr
  refine j_getA (pc' := 4) C dX11_activity_1 fl_X11_35 hzx1 rfl ?_
  obtain ⟨zx2, hzx2, hr⟩ := ob hr
  refine j_getA (pc' := 7) C dX11_activity_4 fl_X11_112 hzx2 rfl ?_
  refine j_astore_n (lv' := [(2, .ref zx2), (0, .ref this), (1, .int p1)]) (pc' := 8) C dX11_activity_7 rfl (by decide) rfl rfl ?_
  refine j_iload_n (q := 2) (pc' := 9) C dX11_activity_8 rfl rfl rfl ?_
  refine j_iconst (v := -1) (pc' := 10) C dX11_activity_9 kI_m1 rfl ?_
  refine j_ic_ne (tgt := 24) (pc' := 13) C dX11_activity_10 rfl rfl (fun hc => ?_) (fun hc => ?_)
  · have hr := ifF hc hr
    clear hc
    refine j_iload_n (q := 2) (pc' := 25) C dX11_activity_24 rfl rfl rfl ?_
    refine j_if_lt (tgt := 39) (pc' := 28) C dX11_activity_25 rfl rfl (fun hc => ?_) (fun hc => ?_)
    · have hr := ifT hc hr
      clear hc
      refine j_bipush (v := -2) (pc' := 41) C dX11_activity_39 kB_m2 rfl ?_
      have hr := Option.some.inj hr
      subst hr
      exact j_iret C hq hret dX11_activity_41
    · have hr := ifF hc hr
      clear hc
      refine j_iload_n (q := 2) (pc' := 29) C dX11_activity_28 rfl rfl rfl ?_
      refine j_aload_n (q := 0) (pc' := 30) C dX11_activity_29 rfl rfl rfl ?_
      obtain ⟨zx3, hzx3, hr⟩ := ob hr
      refine j_getA (pc' := 33) C dX11_activity_30 fl_X11_125 hzx3 rfl ?_
      obtain ⟨zx4, hzx4, hr⟩ := ob hr
      refine j_getI (pc' := 36) C dX11_activity_33 fl_X11_118 hzx4 rfl ?_
      refine j_ic_lt (tgt := 42) (pc' := 39) C dX11_activity_36 rfl rfl (fun hc => ?_) (fun hc => ?_)
      · have hr := ifT hc hr
        clear hc
        refine j_aload_n (q := 0) (pc' := 43) C dX11_activity_42 rfl rfl rfl ?_
        obtain ⟨zx5, hzx5, hr⟩ := ob hr
        refine j_getA (pc' := 46) C dX11_activity_43 fl_X11_298 hzx5 rfl ?_
        refine j_iload_n (q := 2) (pc' := 47) C dX11_activity_46 rfl rfl rfl ?_
        obtain ⟨zz6, hzz6, hr⟩ := ob hr
        obtain ⟨zx7, hzx7, hr⟩ := ob hr
        obtain ⟨fhzz6, hzz6⟩ := rcv_sp hzz6
        refine j_callV (ci := 0) (As := [.int p1]) (rest := []) (st1 := [.float zx7]) (pc' := 50) C ⟨wm_966, wm_967⟩ rfl hzz6 (c_X0_valueOf (nx := nx) hzx7) yw_X0_valueOf wm_1143 rfl rfl (Nat.le_of_ble_eq_true rfl) ⟨by decide, by decide⟩ dX11_activity_47 rfl rfl ?_
        obtain ⟨zx8, hzx8, hr⟩ := ob hr
        refine j_callS (As := [.float zx7]) (rest := []) (st1 := [.int zx8]) (pc' := 53) C wm_1139 (c_X4_ofFloat (nx := nx) (ce := ce) hzx8) yw_X4_ofFloat wm_1138 rfl rfl (Nat.le_of_ble_eq_true rfl) ⟨by decide, by decide⟩ dX11_activity_50 rfl rfl ?_
        have hr := Option.some.inj hr
        subst hr
        exact j_iret C hq hret dX11_activity_53
      · have hr := ifF hc hr
        clear hc
        refine j_bipush (v := -2) (pc' := 41) C dX11_activity_39 kB_m2 rfl ?_
        have hr := Option.some.inj hr
        subst hr
        exact j_iret C hq hret dX11_activity_41
  · have hr := ifT hc hr
    clear hc
    refine j_aload_n (q := 0) (pc' := 14) C dX11_activity_13 rfl rfl rfl ?_
    obtain ⟨zx9, hzx9, hr⟩ := ob hr
    refine j_getA (pc' := 17) C dX11_activity_14 fl_X11_298 hzx9 rfl ?_
    obtain ⟨zx10, hzx10, hr⟩ := ob hr
    refine j_getF (pc' := 20) C dX11_activity_17 fl_X11_302 hzx10 rfl ?_
    obtain ⟨zx11, hzx11, hr⟩ := ob hr
    refine j_callS (As := [.float zx10]) (rest := []) (st1 := [.int zx11]) (pc' := 23) C wm_1139 (c_X4_ofFloat (nx := nx) (ce := ce) hzx11) yw_X4_ofFloat wm_1138 rfl rfl (Nat.le_of_ble_eq_true rfl) ⟨by decide, by decide⟩ dX11_activity_20 rfl rfl ?_
    have hr := Option.some.inj hr
    subst hr
    exact j_iret C hq hret dX11_activity_23
def m_X11_order (ce : Ce) (this : Nat) (p1 : Int32) : Option (Int32) :=
  (gA ce 8 6 this).bind fun zx1 =>
  (gA ce 7 4 zx1).bind fun zx2 =>
  (gA ce 6 13 zx2).bind fun zx3 =>
  (gI ce 6 2 zx2).bind fun zx4 =>
  (gA ce 6 0 zx2).bind fun zx5 =>
  (gI ce 3 0 zx5).bind fun zx6 =>
  (rcv ce 0 zx3).bind fun zz7 =>
  (m_X0_letterAt ce zx3 p1 zx4 zx6).bind fun zx8 =>
  some zx8
set_option maxRecDepth 100000 in
set_option maxHeartbeats 4000000 in
theorem c_X11_order {nx : Nat} {ce : Ce} {this : Nat} {p1 : Int32} {q : Int32} (hr : m_X11_order ce this p1 = some q) : Ct yX11_order cX11_order 3 (some .int) 3 73 0 0 [.ref this, .int p1] nx ce (some (.int q)) ce := by
  unfold m_X11_order at hr
  refine ct_of (by decide) (Nat.le_of_ble_eq_true rfl) ?_
  intro G C hq hret hin
  show Jd G 0 0 nx ce 0 [(0, .ref this), (1, .int p1)] []
  refine j_aload_n (q := 0) (pc' := 1) C dX11_order_0 rfl rfl rfl ?_
  obtain ⟨zx1, hzx1, hr⟩ := ob hr
  refine j_getA (pc' := 4) C dX11_order_1 fl_X11_35 hzx1 rfl ?_
  obtain ⟨zx2, hzx2, hr⟩ := ob hr
  refine j_getA (pc' := 7) C dX11_order_4 fl_X11_112 hzx2 rfl ?_
  refine j_astore_n (lv' := [(2, .ref zx2), (0, .ref this), (1, .int p1)]) (pc' := 8) C dX11_order_7 rfl (by decide) rfl rfl ?_
  refine j_aload_n (q := 0) (pc' := 9) C dX11_order_8 rfl rfl rfl ?_
  obtain ⟨zx3, hzx3, hr⟩ := ob hr
  refine j_getA (pc' := 12) C dX11_order_9 fl_X11_298 hzx3 rfl ?_
  refine j_iload_n (q := 2) (pc' := 13) C dX11_order_12 rfl rfl rfl ?_
  refine j_aload_n (q := 0) (pc' := 14) C dX11_order_13 rfl rfl rfl ?_
  obtain ⟨zx4, hzx4, hr⟩ := ob hr
  refine j_getI (pc' := 17) C dX11_order_14 fl_X11_135 hzx4 rfl ?_
  refine j_aload_n (q := 0) (pc' := 18) C dX11_order_17 rfl rfl rfl ?_
  obtain ⟨zx5, hzx5, hr⟩ := ob hr
  refine j_getA (pc' := 21) C dX11_order_18 fl_X11_125 hzx5 rfl ?_
  obtain ⟨zx6, hzx6, hr⟩ := ob hr
  refine j_getI (pc' := 24) C dX11_order_21 fl_X11_118 hzx6 rfl ?_
  obtain ⟨zz7, hzz7, hr⟩ := ob hr
  obtain ⟨zx8, hzx8, hr⟩ := ob hr
  obtain ⟨fhzz7, hzz7⟩ := rcv_sp hzz7
  refine j_callV (ci := 0) (As := [.int p1, .int zx4, .int zx6]) (rest := []) (st1 := [.int zx8]) (pc' := 27) C ⟨wm_958, wm_959⟩ rfl hzz7 (c_X0_letterAt (nx := nx) hzx8) yw_X0_letterAt wm_1148 rfl rfl (Nat.le_of_ble_eq_true rfl) ⟨by decide, by decide⟩ dX11_order_24 rfl rfl ?_
  have hr := Option.some.inj hr
  subst hr
  exact j_iret C hq hret dX11_order_27
def m_X11_holds (ce : Ce) (this : Nat) (p1 : Int32) (p2 : Int32) (p3 : Int32) : Option (Int32) :=
  (gA ce 8 6 this).bind fun zx1 =>
  (gA ce 7 4 zx1).bind fun zx2 =>
  (gA ce 6 0 zx2).bind fun zx3 =>
  (rcv ce 3 zx3).bind fun zz4 =>
  (m_X5_hasCube ce zx3 p1 p2).bind fun zx5 =>
  if zx5 = 0 then
    some (0 : Int32)
  else
    (rcv ce 6 zx2).bind fun zz6 =>
    (m_X8_hasFrame ce zx2 p3).bind fun zx7 =>
    if zx7 = 0 then
      some (0 : Int32)
    else
      (m_X3_cubeOf p1 p2).bind fun zx8 =>
      (rcv ce 6 zx2).bind fun zz9 =>
      (m_X8_statesWithin ce zx2 p3).bind fun zx10 =>
      (rcv ce 6 zx2).bind fun zz11 =>
      (m_X8_keepsOut ce zx2 zx8 zx10).bind fun zx12 =>
      if zx12 = 0 then
        some (0 : Int32)
      else
        some (1 : Int32)
set_option maxRecDepth 100000 in
set_option maxHeartbeats 4000000 in
theorem c_X11_holds {nx : Nat} {ce : Ce} {this : Nat} {p1 : Int32} {p2 : Int32} {p3 : Int32} {q : Int32} (hr : m_X11_holds ce this p1 p2 p3 = some q) : Ct yX11_holds cX11_holds 5 (some .boolean) 3 71 0 0 [.ref this, .int p1, .int p2, .int p3] nx ce (some (.int q)) ce := by
  unfold m_X11_holds at hr
  refine ct_of (by decide) (Nat.le_of_ble_eq_true rfl) ?_
  intro G C hq hret hin
  show Jd G 0 0 nx ce 0 [(0, .ref this), (1, .int p1), (2, .int p2), (3, .int p3)] []
  refine j_aload_n (q := 0) (pc' := 1) C dX11_holds_0 rfl rfl rfl ?_
  obtain ⟨zx1, hzx1, hr⟩ := ob hr
  refine j_getA (pc' := 4) C dX11_holds_1 fl_X11_35 hzx1 rfl ?_
  obtain ⟨zx2, hzx2, hr⟩ := ob hr
  refine j_getA (pc' := 7) C dX11_holds_4 fl_X11_112 hzx2 rfl ?_
  refine j_astore (lv' := [(4, .ref zx2), (0, .ref this), (1, .int p1), (2, .int p2), (3, .int p3)]) (pc' := 9) C dX11_holds_7 (by decide) rfl rfl ?_
  refine j_aload (q := 0) (pc' := 11) C dX11_holds_9 rfl rfl ?_
  obtain ⟨zx3, hzx3, hr⟩ := ob hr
  refine j_getA (pc' := 14) C dX11_holds_11 fl_X11_125 hzx3 rfl ?_
  refine j_iload_n (q := 2) (pc' := 15) C dX11_holds_14 rfl rfl rfl ?_
  refine j_iload_n (q := 3) (pc' := 16) C dX11_holds_15 rfl rfl rfl ?_
  obtain ⟨zz4, hzz4, hr⟩ := ob hr
  obtain ⟨zx5, hzx5, hr⟩ := ob hr
  obtain ⟨fhzz4, hzz4⟩ := rcv_sp hzz4
  refine j_callV (ci := 3) (As := [.int p1, .int p2]) (rest := []) (st1 := [.int zx5]) (pc' := 19) C ⟨wm_811, wm_812⟩ rfl hzz4 (c_X5_hasCube (nx := nx) hzx5) yw_X5_hasCube wm_810 rfl rfl (Nat.le_of_ble_eq_true rfl) ⟨by decide, by decide⟩ dX11_holds_16 rfl rfl ?_
  refine j_if_eq (tgt := 54) (pc' := 22) C dX11_holds_19 rfl rfl (fun hc => ?_) (fun hc => ?_)
  · have hr := ifT hc hr
    clear hc
    refine j_iconst (v := 0) (pc' := 55) C dX11_holds_54 kI_0 rfl ?_
    have hr := Option.some.inj hr
    subst hr
    exact j_zret C hq hret rfl dX11_holds_55
  · have hr := ifF hc hr
    clear hc
    refine j_aload (q := 0) (pc' := 24) C dX11_holds_22 rfl rfl ?_
    refine j_iload_n (q := 4) (pc' := 25) C dX11_holds_24 rfl rfl rfl ?_
    obtain ⟨zz6, hzz6, hr⟩ := ob hr
    obtain ⟨zx7, hzx7, hr⟩ := ob hr
    obtain ⟨fhzz6, hzz6⟩ := rcv_sp hzz6
    refine j_callV (ci := 6) (As := [.int p3]) (rest := []) (st1 := [.int zx7]) (pc' := 28) C ⟨wm_1055, wm_1056⟩ rfl hzz6 (c_X8_hasFrame (nx := nx) hzx7) yw_X8_hasFrame wm_1054 rfl rfl (Nat.le_of_ble_eq_true rfl) ⟨by decide, by decide⟩ dX11_holds_25 rfl rfl ?_
    refine j_if_eq (tgt := 54) (pc' := 31) C dX11_holds_28 rfl rfl (fun hc => ?_) (fun hc => ?_)
    · have hr := ifT hc hr
      clear hc
      refine j_iconst (v := 0) (pc' := 55) C dX11_holds_54 kI_0 rfl ?_
      have hr := Option.some.inj hr
      subst hr
      exact j_zret C hq hret rfl dX11_holds_55
    · have hr := ifF hc hr
      clear hc
      refine j_aload (q := 0) (pc' := 33) C dX11_holds_31 rfl rfl ?_
      refine j_iload_n (q := 2) (pc' := 34) C dX11_holds_33 rfl rfl rfl ?_
      refine j_iload_n (q := 3) (pc' := 35) C dX11_holds_34 rfl rfl rfl ?_
      obtain ⟨zx8, hzx8, hr⟩ := ob hr
      refine j_callS (As := [.int p1, .int p2]) (rest := [.ref zx2]) (st1 := [.int zx8, .ref zx2]) (pc' := 38) C wm_815 (c_X3_cubeOf (nx := nx) (ce := ce) hzx8) yw_X3_cubeOf wm_814 rfl rfl (Nat.le_of_ble_eq_true rfl) ⟨by decide, by decide⟩ dX11_holds_35 rfl rfl ?_
      refine j_aload (q := 0) (pc' := 40) C dX11_holds_38 rfl rfl ?_
      refine j_iload_n (q := 4) (pc' := 41) C dX11_holds_40 rfl rfl rfl ?_
      obtain ⟨zz9, hzz9, hr⟩ := ob hr
      obtain ⟨zx10, hzx10, hr⟩ := ob hr
      obtain ⟨fhzz9, hzz9⟩ := rcv_sp hzz9
      refine j_callV (ci := 6) (As := [.int p3]) (rest := [.int zx8, .ref zx2]) (st1 := [.long zx10, .int zx8, .ref zx2]) (pc' := 44) C ⟨wm_841, wm_842⟩ rfl hzz9 (c_X8_statesWithin (nx := nx) hzx10) yw_X8_statesWithin wm_1058 rfl rfl (Nat.le_of_ble_eq_true rfl) ⟨by decide, by decide⟩ dX11_holds_41 rfl rfl ?_
      obtain ⟨zz11, hzz11, hr⟩ := ob hr
      obtain ⟨zx12, hzx12, hr⟩ := ob hr
      obtain ⟨fhzz11, hzz11⟩ := rcv_sp hzz11
      refine j_callV (ci := 6) (As := [.int zx8, .long zx10]) (rest := []) (st1 := [.int zx12]) (pc' := 47) C ⟨wm_854, wm_855⟩ rfl hzz11 (c_X8_keepsOut (nx := nx) hzx12) yw_X8_keepsOut wm_1153 rfl rfl (Nat.le_of_ble_eq_true rfl) ⟨by decide, by decide⟩ dX11_holds_44 rfl rfl ?_
      refine j_if_eq (tgt := 54) (pc' := 50) C dX11_holds_47 rfl rfl (fun hc => ?_) (fun hc => ?_)
      · have hr := ifT hc hr
        clear hc
        refine j_iconst (v := 0) (pc' := 55) C dX11_holds_54 kI_0 rfl ?_
        have hr := Option.some.inj hr
        subst hr
        exact j_zret C hq hret rfl dX11_holds_55
      · have hr := ifF hc hr
        clear hc
        refine j_iconst (v := 1) (pc' := 51) C dX11_holds_50 kI_1 rfl ?_
        refine j_goto (tgt := 55) C dX11_holds_51 rfl ?_
        have hr := Option.some.inj hr
        subst hr
        exact j_zret C hq hret rfl dX11_holds_55
def m_X11_widened (ce : Ce) (this : Nat) (p1 : Int32) (p2 : Int32) : Option (Int32 × Ce) :=
  (gA ce 8 6 this).bind fun zx1 =>
  (gA ce 7 4 zx1).bind fun zx2 =>
  (gA ce 6 0 zx2).bind fun zx3 =>
  (rcv ce 3 zx3).bind fun zz4 =>
  (m_X5_hasState ce zx3 p1).bind fun zx5 =>
  if zx5 = 0 then
    some ((-1 : Int32), ce)
  else
    (rcv ce 6 zx2).bind fun zz6 =>
    (m_X8_hasCubeFrame ce zx2 p2).bind fun zx7 =>
    if zx7 = 0 then
      some ((-1 : Int32), ce)
    else
      (gA ce 6 0 zx2).bind fun zx8 =>
      (gJ ce 3 3 zx8).bind fun zx9 =>
      (m_X9_has zx9 p1).bind fun zx10 =>
      if zx10 = 0 then
        (rcv ce 6 zx2).bind fun zz11 =>
        (m_X8_lowestAhead ce zx2 p1 (p2 - (1 : Int32))).bind fun zx12 =>
        if zx12 = (-1 : Int32) then
          (rcv ce 6 zx2).bind fun zz13 =>
          (m_X8_widen ce zx2 p1 p2 (0 : Int32)).bind fun zq14 =>
          some (zq14.1, zq14.2)
        else
          some ((-1 : Int32), ce)
      else
        some ((-1 : Int32), ce)
set_option maxRecDepth 100000 in
set_option maxHeartbeats 4000000 in
theorem c_X11_widened {nx : Nat} {ce : Ce} {this : Nat} {p1 : Int32} {p2 : Int32} {q : Int32 × Ce} (hr : m_X11_widened ce this p1 p2 = some q) : Ct yX11_widened cX11_widened 4 (some .int) 4 101 0 0 [.ref this, .int p1, .int p2] nx ce (some (.int q.1)) q.2 := by
  unfold m_X11_widened at hr
  refine ct_of (by decide) (Nat.le_of_ble_eq_true rfl) ?_
  intro G C hq hret hin
  show Jd G 0 0 nx ce 0 [(0, .ref this), (1, .int p1), (2, .int p2)] []
  refine j_aload_n (q := 0) (pc' := 1) C dX11_widened_0 rfl rfl rfl ?_
  obtain ⟨zx1, hzx1, hr⟩ := ob hr
  refine j_getA (pc' := 4) C dX11_widened_1 fl_X11_35 hzx1 rfl ?_
  obtain ⟨zx2, hzx2, hr⟩ := ob hr
  refine j_getA (pc' := 7) C dX11_widened_4 fl_X11_112 hzx2 rfl ?_
  refine j_astore_n (lv' := [(3, .ref zx2), (0, .ref this), (1, .int p1), (2, .int p2)]) (pc' := 8) C dX11_widened_7 rfl (by decide) rfl rfl ?_
  refine j_aload_n (q := 0) (pc' := 9) C dX11_widened_8 rfl rfl rfl ?_
  obtain ⟨zx3, hzx3, hr⟩ := ob hr
  refine j_getA (pc' := 12) C dX11_widened_9 fl_X11_125 hzx3 rfl ?_
  refine j_iload_n (q := 2) (pc' := 13) C dX11_widened_12 rfl rfl rfl ?_
  obtain ⟨zz4, hzz4, hr⟩ := ob hr
  obtain ⟨zx5, hzx5, hr⟩ := ob hr
  obtain ⟨fhzz4, hzz4⟩ := rcv_sp hzz4
  refine j_callV (ci := 3) (As := [.int p1]) (rest := []) (st1 := [.int zx5]) (pc' := 16) C ⟨wm_1020, wm_1021⟩ rfl hzz4 (c_X5_hasState (nx := nx) hzx5) yw_X5_hasState wm_1019 rfl rfl (Nat.le_of_ble_eq_true rfl) ⟨by decide, by decide⟩ dX11_widened_13 rfl rfl ?_
  refine j_if_eq (tgt := 27) (pc' := 19) C dX11_widened_16 rfl rfl (fun hc => ?_) (fun hc => ?_)
  · have hr := ifT hc hr
    clear hc
    refine j_iconst (v := -1) (pc' := 28) C dX11_widened_27 kI_m1 rfl ?_
    have hr := Option.some.inj hr
    subst hr
    exact j_iret C hq hret dX11_widened_28
  · have hr := ifF hc hr
    clear hc
    refine j_aload_n (q := 0) (pc' := 20) C dX11_widened_19 rfl rfl rfl ?_
    refine j_iload_n (q := 3) (pc' := 21) C dX11_widened_20 rfl rfl rfl ?_
    obtain ⟨zz6, hzz6, hr⟩ := ob hr
    obtain ⟨zx7, hzx7, hr⟩ := ob hr
    obtain ⟨fhzz6, hzz6⟩ := rcv_sp hzz6
    refine j_callV (ci := 6) (As := [.int p2]) (rest := []) (st1 := [.int zx7]) (pc' := 24) C ⟨wm_822, wm_823⟩ rfl hzz6 (c_X8_hasCubeFrame (nx := nx) hzx7) yw_X8_hasCubeFrame wm_1077 rfl rfl (Nat.le_of_ble_eq_true rfl) ⟨by decide, by decide⟩ dX11_widened_21 rfl rfl ?_
    refine j_if_ne (tgt := 29) (pc' := 27) C dX11_widened_24 rfl rfl (fun hc => ?_) (fun hc => ?_)
    · have hr := ifF hc hr
      clear hc
      refine j_aload_n (q := 0) (pc' := 30) C dX11_widened_29 rfl rfl rfl ?_
      obtain ⟨zx8, hzx8, hr⟩ := ob hr
      refine j_getA (pc' := 33) C dX11_widened_30 fl_X11_125 hzx8 rfl ?_
      obtain ⟨zx9, hzx9, hr⟩ := ob hr
      refine j_getJ (pc' := 36) C dX11_widened_33 fl_X11_237 hzx9 rfl ?_
      refine j_iload_n (q := 2) (pc' := 37) C dX11_widened_36 rfl rfl rfl ?_
      obtain ⟨zx10, hzx10, hr⟩ := ob hr
      refine j_callS (As := [.long zx9, .int p1]) (rest := []) (st1 := [.int zx10]) (pc' := 40) C wm_691 (c_X9_has (nx := nx) (ce := ce) hzx10) yw_X9_has wm_1049 rfl rfl (Nat.le_of_ble_eq_true rfl) ⟨by decide, by decide⟩ dX11_widened_37 rfl rfl ?_
      refine j_if_ne (tgt := 55) (pc' := 43) C dX11_widened_40 rfl rfl (fun hc => ?_) (fun hc => ?_)
      · have hr := ifF hc hr
        clear hc
        refine j_iconst (v := -1) (pc' := 56) C dX11_widened_55 kI_m1 rfl ?_
        have hr := Option.some.inj hr
        subst hr
        exact j_iret C hq hret dX11_widened_56
      · have hr := ifT hc hr
        clear hc
        refine j_aload_n (q := 0) (pc' := 44) C dX11_widened_43 rfl rfl rfl ?_
        refine j_iload_n (q := 2) (pc' := 45) C dX11_widened_44 rfl rfl rfl ?_
        refine j_iload_n (q := 3) (pc' := 46) C dX11_widened_45 rfl rfl rfl ?_
        refine j_iconst (v := 1) (pc' := 47) C dX11_widened_46 kI_1 rfl ?_
        refine j_isub (pc' := 48) C dX11_widened_47 rfl ?_
        obtain ⟨zz11, hzz11, hr⟩ := ob hr
        obtain ⟨zx12, hzx12, hr⟩ := ob hr
        obtain ⟨fhzz11, hzz11⟩ := rcv_sp hzz11
        refine j_callV (ci := 6) (As := [.int p1, .int (p2 - (1 : Int32))]) (rest := []) (st1 := [.int zx12]) (pc' := 51) C ⟨wm_935, wm_936⟩ rfl hzz11 (c_X8_lowestAhead (nx := nx) hzx12) yw_X8_lowestAhead wm_1158 rfl rfl (Nat.le_of_ble_eq_true rfl) ⟨by decide, by decide⟩ dX11_widened_48 rfl rfl ?_
        refine j_iconst (v := -1) (pc' := 52) C dX11_widened_51 kI_m1 rfl ?_
        refine j_ic_eq (tgt := 57) (pc' := 55) C dX11_widened_52 rfl rfl (fun hc => ?_) (fun hc => ?_)
        · have hr := ifT hc hr
          clear hc
          refine j_aload_n (q := 0) (pc' := 58) C dX11_widened_57 rfl rfl rfl ?_
          refine j_iload_n (q := 2) (pc' := 59) C dX11_widened_58 rfl rfl rfl ?_
          refine j_iload_n (q := 3) (pc' := 60) C dX11_widened_59 rfl rfl rfl ?_
          refine j_iconst (v := 0) (pc' := 61) C dX11_widened_60 kI_0 rfl ?_
          obtain ⟨zz13, hzz13, hr⟩ := ob hr
          obtain ⟨zq14, hzq14, hr⟩ := ob hr
          obtain ⟨fhzz13, hzz13⟩ := rcv_sp hzz13
          refine j_callV (ci := 6) (As := [.int p1, .int p2, .int (0 : Int32)]) (rest := []) (st1 := [.int zq14.1]) (pc' := 64) C ⟨wm_953, wm_954⟩ rfl hzz13 (c_X8_widen (nx := nx) hzq14) yw_X8_widen wm_1159 rfl rfl (Nat.le_of_ble_eq_true rfl) ⟨by decide, by decide⟩ dX11_widened_61 rfl rfl ?_
          have hr := Option.some.inj hr
          subst hr
          exact j_iret C hq hret dX11_widened_64
        · have hr := ifF hc hr
          clear hc
          refine j_iconst (v := -1) (pc' := 56) C dX11_widened_55 kI_m1 rfl ?_
          have hr := Option.some.inj hr
          subst hr
          exact j_iret C hq hret dX11_widened_56
    · have hr := ifT hc hr
      clear hc
      refine j_iconst (v := -1) (pc' := 28) C dX11_widened_27 kI_m1 rfl ?_
      have hr := Option.some.inj hr
      subst hr
      exact j_iret C hq hret dX11_widened_28
