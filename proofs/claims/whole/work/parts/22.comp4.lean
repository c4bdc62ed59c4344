def m_X11_ahead (ce : Ce) (this : Nat) (p1 : Int32) (p2 : Int32) : Option (Int32) :=
  (gA ce 8 6 this).bind fun zx1 =>
  (gA ce 7 4 zx1).bind fun zx2 =>
  (gA ce 6 0 zx2).bind fun zx3 =>
  (rcv ce 3 zx3).bind fun zz4 =>
  (m_X5_hasState ce zx3 p1).bind fun zx5 =>
  if zx5 = 0 then
    some (-1 : Int32)
  else
    (rcv ce 6 zx2).bind fun zz6 =>
    (m_X8_hasFrame ce zx2 p2).bind fun zx7 =>
    if zx7 = 0 then
      some (-1 : Int32)
    else
      (rcv ce 6 zx2).bind fun zz8 =>
      (m_X8_lowestAhead ce zx2 p1 p2).bind fun zx9 =>
      some zx9
set_option maxRecDepth 100000 in
set_option maxHeartbeats 4000000 in
theorem c_X11_ahead {nx : Nat} {ce : Ce} {this : Nat} {p1 : Int32} {p2 : Int32} {q : Int32} (hr : m_X11_ahead ce this p1 p2 = some q) : Ct yX11_ahead cX11_ahead 4 (some .int) 4 86 0 0 [.ref this, .int p1, .int p2] nx ce (some (.int q)) ce := by
  unfold m_X11_ahead at hr
  refine ct_of (by decide) (Nat.le_of_ble_eq_true rfl) ?_
  intro G C hq hret hin
  show Jd G 0 0 nx ce 0 [(0, .ref this), (1, .int p1), (2, .int p2)] []
  refine j_aload_n (q := 0) (pc' := 1) C dX11_ahead_0 rfl rfl rfl ?_
  obtain ⟨zx1, hzx1, hr⟩ := ob hr
  refine j_getA (pc' := 4) C dX11_ahead_1 fl_X11_35 hzx1 rfl ?_
  obtain ⟨zx2, hzx2, hr⟩ := ob hr
  refine j_getA (pc' := 7) C dX11_ahead_4 fl_X11_112 hzx2 rfl ?_
  refine j_astore_n (lv' := [(3, .ref zx2), (0, .ref this), (1, .int p1), (2, .int p2)]) (pc' := 8) C dX11_ahead_7 rfl (by decide) rfl rfl ?_
  refine j_aload_n (q := 0) (pc' := 9) C dX11_ahead_8 rfl rfl rfl ?_
  obtain ⟨zx3, hzx3, hr⟩ := ob hr
  refine j_getA (pc' := 12) C dX11_ahead_9 fl_X11_125 hzx3 rfl ?_
  refine j_iload_n (q := 2) (pc' := 13) C dX11_ahead_12 rfl rfl rfl ?_
  obtain ⟨zz4, hzz4, hr⟩ := ob hr
  obtain ⟨zx5, hzx5, hr⟩ := ob hr
  obtain ⟨fhzz4, hzz4⟩ := rcv_sp hzz4
  refine j_callV (ci := 3) (As := [.int p1]) (rest := []) (st1 := [.int zx5]) (pc' := 16) C ⟨wm_1020, wm_1021⟩ rfl hzz4 (c_X5_hasState (nx := nx) hzx5) yw_X5_hasState wm_1019 rfl rfl (Nat.le_of_ble_eq_true rfl) ⟨by decide, by decide⟩ dX11_ahead_13 rfl rfl ?_
  refine j_if_eq (tgt := 27) (pc' := 19) C dX11_ahead_16 rfl rfl (fun hc => ?_) (fun hc => ?_)
  · have hr := ifT hc hr
    clear hc
    refine j_iconst (v := -1) (pc' := 28) C dX11_ahead_27 kI_m1 rfl ?_
    have hr := Option.some.inj hr
    subst hr
    exact j_iret C hq hret dX11_ahead_28
  · have hr := ifF hc hr
    clear hc
    refine j_aload_n (q := 0) (pc' := 20) C dX11_ahead_19 rfl rfl rfl ?_
    refine j_iload_n (q := 3) (pc' := 21) C dX11_ahead_20 rfl rfl rfl ?_
    obtain ⟨zz6, hzz6, hr⟩ := ob hr
    obtain ⟨zx7, hzx7, hr⟩ := ob hr
    obtain ⟨fhzz6, hzz6⟩ := rcv_sp hzz6
    refine j_callV (ci := 6) (As := [.int p2]) (rest := []) (st1 := [.int zx7]) (pc' := 24) C ⟨wm_1055, wm_1056⟩ rfl hzz6 (c_X8_hasFrame (nx := nx) hzx7) yw_X8_hasFrame wm_1054 rfl rfl (Nat.le_of_ble_eq_true rfl) ⟨by decide, by decide⟩ dX11_ahead_21 rfl rfl ?_
    refine j_if_ne (tgt := 29) (pc' := 27) C dX11_ahead_24 rfl rfl (fun hc => ?_) (fun hc => ?_)
    · have hr := ifF hc hr
      clear hc
      refine j_aload_n (q := 0) (pc' := 30) C dX11_ahead_29 rfl rfl rfl ?_
      refine j_iload_n (q := 2) (pc' := 31) C dX11_ahead_30 rfl rfl rfl ?_
      refine j_iload_n (q := 3) (pc' := 32) C dX11_ahead_31 rfl rfl rfl ?_
      obtain ⟨zz8, hzz8, hr⟩ := ob hr
      obtain ⟨zx9, hzx9, hr⟩ := ob hr
      obtain ⟨fhzz8, hzz8⟩ := rcv_sp hzz8
      refine j_callV (ci := 6) (As := [.int p1, .int p2]) (rest := []) (st1 := [.int zx9]) (pc' := 35) C ⟨wm_935, wm_936⟩ rfl hzz8 (c_X8_lowestAhead (nx := nx) hzx9) yw_X8_lowestAhead wm_1158 rfl rfl (Nat.le_of_ble_eq_true rfl) ⟨by decide, by decide⟩ dX11_ahead_32 rfl rfl ?_
      have hr := Option.some.inj hr
      subst hr
      exact j_iret C hq hret dX11_ahead_35
    · have hr := ifT hc hr
      clear hc
      refine j_iconst (v := -1) (pc' := 28) C dX11_ahead_27 kI_m1 rfl ?_
      have hr := Option.some.inj hr
      subst hr
      exact j_iret C hq hret dX11_ahead_28
def m_X11_distanceBy (ce : Ce) (this : Nat) (p1 : Int32) (p2 : Int32) : Option (Int32) :=
  (gA ce 8 6 this).bind fun zx1 =>
  (gA ce 7 4 zx1).bind fun zx2 =>
  (gA ce 6 0 zx2).bind fun zx3 =>
  (rcv ce 3 zx3).bind fun zz4 =>
  (m_X5_hasState ce zx3 p1).bind fun zx5 =>
  if zx5 = 0 then
    some (-1 : Int32)
  else
    if p2 < (1 : Int32) then
      some (-1 : Int32)
    else
      if p2 ≤ (15 : Int32) then
        (rcv ce 3 zx3).bind fun zz6 =>
        (m_X5_stepsTo ce zx3 ((1 : Int64) <<< (Int32.toInt64 p1 &&& 63)) p2).bind fun zx7 =>
        some zx7
      else
        some (-1 : Int32)
set_option maxRecDepth 100000 in
set_option maxHeartbeats 4000000 in
theorem c_X11_distanceBy {nx : Nat} {ce : Ce} {this : Nat} {p1 : Int32} {p2 : Int32} {q : Int32} (hr : m_X11_distanceBy ce this p1 p2 = some q) : Ct yX11_distanceBy cX11_distanceBy 4 (some .int) 3 80 0 0 [.ref this, .int p1, .int p2] nx ce (some (.int q)) ce := by
  unfold m_X11_distanceBy at hr
  refine ct_of (by decide) (Nat.le_of_ble_eq_true rfl) ?_
  intro G C hq hret hin
  show Jd G 0 0 nx ce 0 [(0, .ref this), (1, .int p1), (2, .int p2)] []
  refine j_aload_n (q := 0) (pc' := 1) C dX11_distanceBy_0 rfl rfl rfl ?_
  obtain ⟨zx1, hzx1, hr⟩ := ob hr
  refine j_getA (pc' := 4) C dX11_distanceBy_1 fl_X11_35 hzx1 rfl ?_
  obtain ⟨zx2, hzx2, hr⟩ := ob hr
  refine j_getA (pc' := 7) C dX11_distanceBy_4 fl_X11_112 hzx2 rfl ?_
  obtain ⟨zx3, hzx3, hr⟩ := ob hr
  refine j_getA (pc' := 10) C dX11_distanceBy_7 fl_X11_125 hzx3 rfl ?_
  refine j_astore_n (lv' := [(3, .ref zx3), (0, .ref this), (1, .int p1), (2, .int p2)]) (pc' := 11) C dX11_distanceBy_10 rfl (by decide) rfl rfl ?_
  refine j_aload_n (q := 0) (pc' := 12) C dX11_distanceBy_11 rfl rfl rfl ?_
  refine j_iload_n (q := 2) (pc' := 13) C dX11_distanceBy_12 rfl rfl rfl ?_
  obtain ⟨zz4, hzz4, hr⟩ := ob hr
  obtain ⟨zx5, hzx5, hr⟩ := ob hr
  obtain ⟨fhzz4, hzz4⟩ := rcv_sp hzz4
  refine j_callV (ci := 3) (As := [.int p1]) (rest := []) (st1 := [.int zx5]) (pc' := 16) C ⟨wm_1020, wm_1021⟩ rfl hzz4 (c_X5_hasState (nx := nx) hzx5) yw_X5_hasState wm_1019 rfl rfl (Nat.le_of_ble_eq_true rfl) ⟨by decide, by decide⟩ dX11_distanceBy_13 rfl rfl ?_
  refine j_if_eq (tgt := 30) (pc' := 19) C dX11_distanceBy_16 rfl rfl (fun hc => ?_) (fun hc => ?_)
  · have hr := ifT hc hr
    clear hc
    refine j_iconst (v := -1) (pc' := 31) C dX11_distanceBy_30 kI_m1 rfl ?_
    have hr := Option.some.inj hr
    subst hr
    exact j_iret C hq hret dX11_distanceBy_31
  · have hr := ifF hc hr
    clear hc
    refine j_iload_n (q := 3) (pc' := 20) C dX11_distanceBy_19 rfl rfl rfl ?_
    refine j_iconst (v := 1) (pc' := 21) C dX11_distanceBy_20 kI_1 rfl ?_
    refine j_ic_lt (tgt := 30) (pc' := 24) C dX11_distanceBy_21 rfl rfl (fun hc => ?_) (fun hc => ?_)
    · have hr := ifT hc hr
      clear hc
      refine j_iconst (v := -1) (pc' := 31) C dX11_distanceBy_30 kI_m1 rfl ?_
      have hr := Option.some.inj hr
      subst hr
      exact j_iret C hq hret dX11_distanceBy_31
    · have hr := ifF hc hr
      clear hc
      refine j_iload_n (q := 3) (pc' := 25) C dX11_distanceBy_24 rfl rfl rfl ?_
      refine j_bipush (v := 15) (pc' := 27) C dX11_distanceBy_25 kB_15 rfl ?_
      refine j_ic_le (tgt := 32) (pc' := 30) C dX11_distanceBy_27 rfl rfl (fun hc => ?_) (fun hc => ?_)
      · have hr := ifT hc hr
        clear hc
        refine j_aload_n (q := 0) (pc' := 33) C dX11_distanceBy_32 rfl rfl rfl ?_
        refine j_lconst (v := 1) (pc' := 34) C dX11_distanceBy_33 kL_1 rfl ?_
        refine j_iload_n (q := 2) (pc' := 35) C dX11_distanceBy_34 rfl rfl rfl ?_
        refine j_lshl (pc' := 36) C dX11_distanceBy_35 rfl ?_
        refine j_iload_n (q := 3) (pc' := 37) C dX11_distanceBy_36 rfl rfl rfl ?_
        obtain ⟨zz6, hzz6, hr⟩ := ob hr
        obtain ⟨zx7, hzx7, hr⟩ := ob hr
        obtain ⟨fhzz6, hzz6⟩ := rcv_sp hzz6
        refine j_callV (ci := 3) (As := [.long ((1 : Int64) <<< (Int32.toInt64 p1 &&& 63)), .int p2]) (rest := []) (st1 := [.int zx7]) (pc' := 40) C ⟨wm_1173, wm_1174⟩ rfl hzz6 (c_X5_stepsTo (nx := nx) hzx7) yw_X5_stepsTo wm_1172 rfl rfl (Nat.le_of_ble_eq_true rfl) ⟨by decide, by decide⟩ dX11_distanceBy_37 rfl rfl ?_
        have hr := Option.some.inj hr
        subst hr
        exact j_iret C hq hret dX11_distanceBy_40
      · have hr := ifF hc hr
        clear hc
        refine j_iconst (v := -1) (pc' := 31) C dX11_distanceBy_30 kI_m1 rfl ?_
        have hr := Option.some.inj hr
        subst hr
        exact j_iret C hq hret dX11_distanceBy_31
def m_X11_distance (ce : Ce) (this : Nat) (p1 : Int32) : Option (Int32) :=
  (rcv ce 8 this).bind fun zz1 =>
  (m_X11_distanceBy ce this p1 (15 : Int32)).bind fun zx2 =>
  some zx2
set_option maxRecDepth 100000 in
set_option maxHeartbeats 4000000 in
theorem c_X11_distance {nx : Nat} {ce : Ce} {this : Nat} {p1 : Int32} {q : Int32} (hr : m_X11_distance ce this p1 = some q) : Ct yX11_distance cX11_distance 2 (some .int) 4 103 0 0 [.ref this, .int p1] nx ce (some (.int q)) ce := by
  unfold m_X11_distance at hr
  refine ct_of (by decide) (Nat.le_of_ble_eq_true rfl) ?_
  intro G C hq hret hin
  show Jd G 0 0 nx ce 0 [(0, .ref this), (1, .int p1)] []
  refine j_aload_n (q := 0) (pc' := 1) C dX11_distance_0 rfl rfl rfl ?_
  refine j_iload_n (q := 1) (pc' := 2) C dX11_distance_1 rfl rfl rfl ?_
  refine j_bipush (v := 15) (pc' := 4) C dX11_distance_2 kB_15 rfl ?_
  obtain ⟨zz1, hzz1, hr⟩ := ob hr
  obtain ⟨zx2, hzx2, hr⟩ := ob hr
  obtain ⟨fhzz1, hzz1⟩ := rcv_sp hzz1
  refine j_callV (ci := 8) (As := [.int p1, .int (15 : Int32)]) (rest := []) (st1 := [.int zx2]) (pc' := 7) C ⟨wm_1169, wm_1170⟩ rfl hzz1 (c_X11_distanceBy (nx := nx) hzx2) yw_X11_distanceBy wm_1168 rfl rfl (Nat.le_of_ble_eq_true rfl) ⟨by decide, by decide⟩ dX11_distance_4 rfl rfl ?_
  have hr := Option.some.inj hr
  subst hr
  exact j_iret C hq hret dX11_distance_7
def m_X11_far (ce : Ce) (this : Nat) (p1 : Int32) : Option (Int32) :=
  (gA ce 8 6 this).bind fun zx1 =>
  (gA ce 7 4 zx1).bind fun zx2 =>
  (gA ce 6 0 zx2).bind fun zx3 =>
  (rcv ce 3 zx3).bind fun zz4 =>
  (m_X5_hasState ce zx3 p1).bind fun zx5 =>
  if zx5 = 0 then
    some (-1 : Int32)
  else
    (gA ce 6 0 zx2).bind fun zx6 =>
    (rcv ce 6 zx2).bind fun zz7 =>
    (m_X8_aimStates ce zx2).bind fun zx8 =>
    (rcv ce 3 zx6).bind fun zz9 =>
    (m_X5_stepsBetween ce zx6 ((1 : Int64) <<< (Int32.toInt64 p1 &&& 63)) zx8).bind fun zx10 =>
    some zx10
set_option maxRecDepth 100000 in
set_option maxHeartbeats 4000000 in
theorem c_X11_far {nx : Nat} {ce : Ce} {this : Nat} {p1 : Int32} {q : Int32} (hr : m_X11_far ce this p1 = some q) : Ct yX11_far cX11_far 3 (some .int) 2 56 0 0 [.ref this, .int p1] nx ce (some (.int q)) ce := by
  unfold m_X11_far at hr
  refine ct_of (by decide) (Nat.le_of_ble_eq_true rfl) ?_
  intro G C hq hret hin
  show Jd G 0 0 nx ce 0 [(0, .ref this), (1, .int p1)] []
  refine j_aload_n (q := 0) (pc' := 1) C dX11_far_0 rfl rfl rfl ?_
  obtain ⟨zx1, hzx1, hr⟩ := ob hr
  refine j_getA (pc' := 4) C dX11_far_1 fl_X11_35 hzx1 rfl ?_
  obtain ⟨zx2, hzx2, hr⟩ := ob hr
  refine j_getA (pc' := 7) C dX11_far_4 fl_X11_112 hzx2 rfl ?_
  refine j_astore_n (lv' := [(2, .ref zx2), (0, .ref this), (1, .int p1)]) (pc' := 8) C dX11_far_7 rfl (by decide) rfl rfl ?_
  refine j_aload_n (q := 0) (pc' := 9) C dX11_far_8 rfl rfl rfl ?_
  obtain ⟨zx3, hzx3, hr⟩ := ob hr
  refine j_getA (pc' := 12) C dX11_far_9 fl_X11_125 hzx3 rfl ?_
  refine j_iload_n (q := 2) (pc' := 13) C dX11_far_12 rfl rfl rfl ?_
  obtain ⟨zz4, hzz4, hr⟩ := ob hr
  obtain ⟨zx5, hzx5, hr⟩ := ob hr
  obtain ⟨fhzz4, hzz4⟩ := rcv_sp hzz4
  refine j_callV (ci := 3) (As := [.int p1]) (rest := []) (st1 := [.int zx5]) (pc' := 16) C ⟨wm_1020, wm_1021⟩ rfl hzz4 (c_X5_hasState (nx := nx) hzx5) yw_X5_hasState wm_1019 rfl rfl (Nat.le_of_ble_eq_true rfl) ⟨by decide, by decide⟩ dX11_far_13 rfl rfl ?_
  refine j_if_ne (tgt := 21) (pc' := 19) C dX11_far_16 rfl rfl (fun hc => ?_) (fun hc => ?_)
  · have hr := ifF hc hr
    clear hc
    refine j_aload_n (q := 0) (pc' := 22) C dX11_far_21 rfl rfl rfl ?_
    obtain ⟨zx6, hzx6, hr⟩ := ob hr
    refine j_getA (pc' := 25) C dX11_far_22 fl_X11_125 hzx6 rfl ?_
    refine j_lconst (v := 1) (pc' := 26) C dX11_far_25 kL_1 rfl ?_
    refine j_iload_n (q := 2) (pc' := 27) C dX11_far_26 rfl rfl rfl ?_
    refine j_lshl (pc' := 28) C dX11_far_27 rfl ?_
    refine j_aload_n (q := 0) (pc' := 29) C dX11_far_28 rfl rfl rfl ?_
    obtain ⟨zz7, hzz7, hr⟩ := ob hr
    obtain ⟨zx8, hzx8, hr⟩ := ob hr
    obtain ⟨fhzz7, hzz7⟩ := rcv_sp hzz7
    refine j_callV (ci := 6) (As := []) (rest := [.long ((1 : Int64) <<< (Int32.toInt64 p1 &&& 63)), .ref zx6]) (st1 := [.long zx8, .long ((1 : Int64) <<< (Int32.toInt64 p1 &&& 63)), .ref zx6]) (pc' := 32) C ⟨wm_904, wm_905⟩ rfl hzz7 (c_X8_aimStates (nx := nx) hzx8) yw_X8_aimStates wm_1185 rfl rfl (Nat.le_of_ble_eq_true rfl) ⟨by decide, by decide⟩ dX11_far_29 rfl rfl ?_
    obtain ⟨zz9, hzz9, hr⟩ := ob hr
    obtain ⟨zx10, hzx10, hr⟩ := ob hr
    obtain ⟨fhzz9, hzz9⟩ := rcv_sp hzz9
    refine j_callV (ci := 3) (As := [.long ((1 : Int64) <<< (Int32.toInt64 p1 &&& 63)), .long zx8]) (rest := []) (st1 := [.int zx10]) (pc' := 35) C ⟨wm_1187, wm_1188⟩ rfl hzz9 (c_X5_stepsBetween (nx := nx) hzx10) yw_X5_stepsBetween wm_1186 rfl rfl (Nat.le_of_ble_eq_true rfl) ⟨by decide, by decide⟩ dX11_far_32 rfl rfl ?_
    have hr := Option.some.inj hr
    subst hr
    exact j_iret C hq hret dX11_far_35
  · have hr := ifT hc hr
    clear hc
    refine j_iconst (v := -1) (pc' := 20) C dX11_far_19 kI_m1 rfl ?_
    have hr := Option.some.inj hr
    subst hr
    exact j_iret C hq hret dX11_far_20
def m_X11_doomed (ce : Ce) (this : Nat) (p1 : Int32) : Option (Int32) :=
  (gA ce 8 6 this).bind fun zx1 =>
  (gA ce 7 4 zx1).bind fun zx2 =>
  if 0 ≤ p1 then
    (gA ce 6 0 zx2).bind fun zx3 =>
    (rcv ce 6 zx2).bind fun zz4 =>
    (m_X8_aimStates ce zx2).bind fun zx5 =>
    (rcv ce 3 zx3).bind fun zz6 =>
    (m_X5_comingTo ce zx3 zx5 p1).bind fun zx7 =>
    (m_J13_bitCount_95d88 zx7).bind fun zx8 =>
    some zx8
  else
    some (-1 : Int32)
set_option maxRecDepth 100000 in
set_option maxHeartbeats 4000000 in
theorem c_X11_doomed {nx : Nat} {ce : Ce} {this : Nat} {p1 : Int32} {q : Int32} (hr : m_X11_doomed ce this p1 = some q) : Ct yX11_doomed cX11_doomed 3 (some .int) 2 55 0 0 [.ref this, .int p1] nx ce (some (.int q)) ce := by
  unfold m_X11_doomed at hr
  refine ct_of (by decide) (Nat.le_of_ble_eq_true rfl) ?_
  intro G C hq hret hin
  show Jd G 0 0 nx ce 0 [(0, .ref this), (1, .int p1)] []
  refine j_aload_n (q := 0) (pc' := 1) C dX11_doomed_0 rfl rfl rfl ?_
  obtain ⟨zx1, hzx1, hr⟩ := ob hr
  refine j_getA (pc' := 4) C dX11_doomed_1 fl_X11_35 hzx1 rfl ?_
  obtain ⟨zx2, hzx2, hr⟩ := ob hr
  refine j_getA (pc' := 7) C dX11_doomed_4 fl_X11_112 hzx2 rfl ?_
  refine j_astore_n (lv' := [(2, .ref zx2), (0, .ref this), (1, .int p1)]) (pc' := 8) C dX11_doomed_7 rfl (by decide) rfl rfl ?_
  refine j_iload_n (q := 2) (pc' := 9) C dX11_doomed_8 rfl rfl rfl ?_
  refine j_if_ge (tgt := 16) (pc' := 12) C dX11_doomed_9 rfl rfl (fun hc => ?_) (fun hc => ?_)
  · have hr := ifT hc hr
    clear hc
    refine j_aload_n (q := 0) (pc' := 17) C dX11_doomed_16 rfl rfl rfl ?_
    obtain ⟨zx3, hzx3, hr⟩ := ob hr
    refine j_getA (pc' := 20) C dX11_doomed_17 fl_X11_125 hzx3 rfl ?_
    refine j_aload_n (q := 0) (pc' := 21) C dX11_doomed_20 rfl rfl rfl ?_
    obtain ⟨zz4, hzz4, hr⟩ := ob hr
    obtain ⟨zx5, hzx5, hr⟩ := ob hr
    obtain ⟨fhzz4, hzz4⟩ := rcv_sp hzz4
    refine j_callV (ci := 6) (As := []) (rest := [.ref zx3]) (st1 := [.long zx5, .ref zx3]) (pc' := 24) C ⟨wm_904, wm_905⟩ rfl hzz4 (c_X8_aimStates (nx := nx) hzx5) yw_X8_aimStates wm_1185 rfl rfl (Nat.le_of_ble_eq_true rfl) ⟨by decide, by decide⟩ dX11_doomed_21 rfl rfl ?_
    refine j_iload_n (q := 2) (pc' := 25) C dX11_doomed_24 rfl rfl rfl ?_
    obtain ⟨zz6, hzz6, hr⟩ := ob hr
    obtain ⟨zx7, hzx7, hr⟩ := ob hr
    obtain ⟨fhzz6, hzz6⟩ := rcv_sp hzz6
    refine j_callV (ci := 3) (As := [.long zx5, .int p1]) (rest := []) (st1 := [.long zx7]) (pc' := 28) C ⟨wm_1196, wm_1197⟩ rfl hzz6 (c_X5_comingTo (nx := nx) hzx7) yw_X5_comingTo wm_1195 rfl rfl (Nat.le_of_ble_eq_true rfl) ⟨by decide, by decide⟩ dX11_doomed_25 rfl rfl ?_
    obtain ⟨zx8, hzx8, hr⟩ := ob hr
    refine j_callS (As := [.long zx7]) (rest := []) (st1 := [.int zx8]) (pc' := 31) C wm_1036 (c_J13_bitCount_95d88 (nx := nx) (ce := ce) hzx8) yw_J13_bitCount_95d88 wm_1035 rfl rfl (Nat.le_of_ble_eq_true rfl) ⟨by decide, by decide⟩ dX11_doomed_28 rfl rfl ?_
    have hr := Option.some.inj hr
    subst hr
    exact j_iret C hq hret dX11_doomed_31
  · have hr := ifF hc hr
    clear hc
    refine j_iconst (v := -1) (pc' := 13) C dX11_doomed_12 kI_m1 rfl ?_
    refine j_goto (tgt := 31) C dX11_doomed_13 rfl ?_
    have hr := Option.some.inj hr
    subst hr
    exact j_iret C hq hret dX11_doomed_31
def m_X11_shortest (ce : Ce) (this : Nat) (p1 : Int32) (p2 : Int32) : Option (Int32 × Ce) :=
  (gA ce 8 6 this).bind fun zx1 =>
  (gA ce 7 4 zx1).bind fun zx2 =>
  (gA ce 6 0 zx2).bind fun zx3 =>
  (rcv ce 6 zx2).bind fun zz4 =>
  (m_X8_aimStates ce zx2).bind fun zx5 =>
  (gA ce 8 12 this).bind fun zx6 =>
  (gA ce 8 11 this).bind fun zx7 =>
  (rcv ce 3 zx3).bind fun zz8 =>
  (m_X5_fillShortest ce zx3 zx5 zx6 zx7).bind fun zq9 =>
  (rcv zq9.2 8 this).bind fun zz10 =>
  (m_X11_pathPart zq9.2 this zq9.1 p1 p2).bind fun zx11 =>
  some (zx11, zq9.2)
set_option maxRecDepth 100000 in
set_option maxHeartbeats 4000000 in
theorem c_X11_shortest {nx : Nat} {ce : Ce} {this : Nat} {p1 : Int32} {p2 : Int32} {q : Int32 × Ce} (hr : m_X11_shortest ce this p1 p2 = some q) : Ct yX11_shortest cX11_shortest 4 (some .int) 4 93 0 0 [.ref this, .int p1, .int p2] nx ce (some (.int q.1)) q.2 := by
  unfold m_X11_shortest at hr
  refine ct_of (by decide) (Nat.le_of_ble_eq_true rfl) ?_
  intro G C hq hret hin
  show Jd G 0 0 nx ce 0 [(0, .ref this), (1, .int p1), (2, .int p2)] []
  refine j_aload_n (q := 0) (pc' := 1) C dX11_shortest_0 rfl rfl rfl ?_
  obtain ⟨zx1, hzx1, hr⟩ := ob hr
  refine j_getA (pc' := 4) C dX11_shortest_1 fl_X11_35 hzx1 rfl ?_
  obtain ⟨zx2, hzx2, hr⟩ := ob hr
  refine j_getA (pc' := 7) C dX11_shortest_4 fl_X11_112 hzx2 rfl ?_
  refine j_astore_n (lv' := [(3, .ref zx2), (0, .ref this), (1, .int p1), (2, .int p2)]) (pc' := 8) C dX11_shortest_7 rfl (by decide) rfl rfl ?_
  refine j_aload_n (q := 1) (pc' := 9) C dX11_shortest_8 rfl rfl rfl ?_
  refine j_aload_n (q := 0) (pc' := 10) C dX11_shortest_9 rfl rfl rfl ?_
  obtain ⟨zx3, hzx3, hr⟩ := ob hr
  refine j_getA (pc' := 13) C dX11_shortest_10 fl_X11_125 hzx3 rfl ?_
  refine j_aload_n (q := 0) (pc' := 14) C dX11_shortest_13 rfl rfl rfl ?_
  obtain ⟨zz4, hzz4, hr⟩ := ob hr
  obtain ⟨zx5, hzx5, hr⟩ := ob hr
  obtain ⟨fhzz4, hzz4⟩ := rcv_sp hzz4
  refine j_callV (ci := 6) (As := []) (rest := [.ref zx3, .ref this]) (st1 := [.long zx5, .ref zx3, .ref this]) (pc' := 17) C ⟨wm_904, wm_905⟩ rfl hzz4 (c_X8_aimStates (nx := nx) hzx5) yw_X8_aimStates wm_1185 rfl rfl (Nat.le_of_ble_eq_true rfl) ⟨by decide, by decide⟩ dX11_shortest_14 rfl rfl ?_
  refine j_aload_n (q := 1) (pc' := 18) C dX11_shortest_17 rfl rfl rfl ?_
  obtain ⟨zx6, hzx6, hr⟩ := ob hr
  refine j_getA (pc' := 21) C dX11_shortest_18 fl_X11_67 hzx6 rfl ?_
  refine j_aload_n (q := 1) (pc' := 22) C dX11_shortest_21 rfl rfl rfl ?_
  obtain ⟨zx7, hzx7, hr⟩ := ob hr
  refine j_getA (pc' := 25) C dX11_shortest_22 fl_X11_63 hzx7 rfl ?_
  obtain ⟨zz8, hzz8, hr⟩ := ob hr
  obtain ⟨zq9, hzq9, hr⟩ := ob hr
  obtain ⟨fhzz8, hzz8⟩ := rcv_sp hzz8
  refine j_callV (ci := 3) (As := [.long zx5, .ref zx6, .ref zx7]) (rest := [.ref this]) (st1 := [.int zq9.1, .ref this]) (pc' := 28) C ⟨wm_1204, wm_1205⟩ rfl hzz8 (c_X5_fillShortest (nx := nx) hzq9) yw_X5_fillShortest wm_1203 rfl rfl (Nat.le_of_ble_eq_true rfl) ⟨by decide, by decide⟩ dX11_shortest_25 rfl rfl ?_
  refine j_iload_n (q := 2) (pc' := 29) C dX11_shortest_28 rfl rfl rfl ?_
  refine j_iload_n (q := 3) (pc' := 30) C dX11_shortest_29 rfl rfl rfl ?_
  obtain ⟨zz10, hzz10, hr⟩ := ob hr
  obtain ⟨zx11, hzx11, hr⟩ := ob hr
  obtain ⟨fhzz10, hzz10⟩ := rcv_sp hzz10
  refine j_callV (ci := 8) (As := [.int zq9.1, .int p1, .int p2]) (rest := []) (st1 := [.int zx11]) (pc' := 33) C ⟨wm_1119, wm_30⟩ rfl hzz10 (c_X11_pathPart (nx := nx) hzx11) yw_X11_pathPart wm_1117 rfl rfl (Nat.le_of_ble_eq_true rfl) ⟨by decide, by decide⟩ dX11_shortest_30 rfl rfl ?_
  have hr := Option.some.inj hr
  subst hr
  exact j_iret C hq hret dX11_shortest_33
def m_X11_detour (ce : Ce) (this : Nat) : Option (Int32 × Ce) :=
  (gA ce 8 6 this).bind fun zx1 =>
  (gA ce 7 4 zx1).bind fun zx2 =>
  (gI ce 6 3 zx2).bind fun zx3 =>
  if zx3 = (4 : Int32) then
    (gA ce 6 12 zx2).bind fun zx4 =>
    (gA ce 8 11 this).bind fun zx5 =>
    (rcv ce 4 zx4).bind fun zz6 =>
    (m_X6_fillChain ce zx4 zx5).bind fun zq7 =>
    (gA zq7.2 6 0 zx2).bind fun zx8 =>
    (rcv zq7.2 6 zx2).bind fun zz9 =>
    (m_X8_aimStates zq7.2 zx2).bind fun zx10 =>
    (gA zq7.2 8 12 this).bind fun zx11 =>
    (gA zq7.2 8 11 this).bind fun zx12 =>
    (rcv zq7.2 3 zx8).bind fun zz13 =>
    (m_X5_fillShortest zq7.2 zx8 zx10 zx11 zx12).bind fun zq14 =>
    some ((zq7.1 - zq14.1), zq14.2)
  else
    some ((-1 : Int32), ce)
set_option maxRecDepth 100000 in
set_option maxHeartbeats 4000000 in
theorem c_X11_detour {nx : Nat} {ce : Ce} {this : Nat} {q : Int32 × Ce} (hr : m_X11_detour ce this = some q) : Ct yX11_detour cX11_detour 3 (some .int) 4 93 0 0 [.ref this] nx ce (some (.int q.1)) q.2 := by
  unfold m_X11_detour at hr
  refine ct_of (by decide) (Nat.le_of_ble_eq_true rfl) ?_
  intro G C hq hret hin
  show Jd G 0 0 nx ce 0 [(0, .ref this)] []
  refine j_aload_n (q := 0) (pc' := 1) C dX11_detour_0 rfl rfl rfl ?_
  obtain ⟨zx1, hzx1, hr⟩ := ob hr
  refine j_getA (pc' := 4) C dX11_detour_1 fl_X11_35 hzx1 rfl ?_
  obtain ⟨zx2, hzx2, hr⟩ := ob hr
  refine j_getA (pc' := 7) C dX11_detour_4 fl_X11_112 hzx2 rfl ?_
  refine j_astore_n (lv' := [(1, .ref zx2), (0, .ref this)]) (pc' := 8) C dX11_detour_7 rfl (by decide) rfl rfl ?_
  refine j_aload_n (q := 0) (pc' := 9) C dX11_detour_8 rfl rfl rfl ?_
  obtain ⟨zx3, hzx3, hr⟩ := ob hr
  refine j_getI (pc' := 12) C dX11_detour_9 fl_X11_176 hzx3 rfl ?_
  refine j_iconst (v := 4) (pc' := 13) C dX11_detour_12 kI_4 rfl ?_
  refine j_ic_eq (tgt := 18) (pc' := 16) C dX11_detour_13 rfl rfl (fun hc => ?_) (fun hc => ?_)
  · have hr := ifT hc hr
    clear hc
    refine j_aload_n (q := 0) (pc' := 19) C dX11_detour_18 rfl rfl rfl ?_
    obtain ⟨zx4, hzx4, hr⟩ := ob hr
    refine j_getA (pc' := 22) C dX11_detour_19 fl_X11_188 hzx4 rfl ?_
    refine j_aload_n (q := 1) (pc' := 23) C dX11_detour_22 rfl rfl rfl ?_
    obtain ⟨zx5, hzx5, hr⟩ := ob hr
    refine j_getA (pc' := 26) C dX11_detour_23 fl_X11_63 hzx5 rfl ?_
    obtain ⟨zz6, hzz6, hr⟩ := ob hr
    obtain ⟨zq7, hzq7, hr⟩ := ob hr
    obtain ⟨fhzz6, hzz6⟩ := rcv_sp hzz6
    refine j_callV (ci := 4) (As := [.ref zx5]) (rest := []) (st1 := [.int zq7.1]) (pc' := 29) C ⟨wm_1110, wm_1111⟩ rfl hzz6 (c_X6_fillChain (nx := nx) hzq7) yw_X6_fillChain wm_1109 rfl rfl (Nat.le_of_ble_eq_true rfl) ⟨by decide, by decide⟩ dX11_detour_26 rfl rfl ?_
    refine j_istore_n (lv' := [(2, .int zq7.1), (1, .ref zx2), (0, .ref this)]) (pc' := 30) C dX11_detour_29 rfl (by decide) rfl rfl ?_
    refine j_iload_n (q := 0) (pc' := 31) C dX11_detour_30 rfl rfl rfl ?_
    refine j_aload_n (q := 1) (pc' := 32) C dX11_detour_31 rfl rfl rfl ?_
    obtain ⟨zx8, hzx8, hr⟩ := ob hr
    refine j_getA (pc' := 35) C dX11_detour_32 fl_X11_125 hzx8 rfl ?_
    refine j_aload_n (q := 1) (pc' := 36) C dX11_detour_35 rfl rfl rfl ?_
    obtain ⟨zz9, hzz9, hr⟩ := ob hr
    obtain ⟨zx10, hzx10, hr⟩ := ob hr
    obtain ⟨fhzz9, hzz9⟩ := rcv_sp hzz9
    refine j_callV (ci := 6) (As := []) (rest := [.ref zx8, .int zq7.1]) (st1 := [.long zx10, .ref zx8, .int zq7.1]) (pc' := 39) C ⟨wm_904, wm_905⟩ rfl hzz9 (c_X8_aimStates (nx := nx) hzx10) yw_X8_aimStates wm_1185 rfl rfl (Nat.le_of_ble_eq_true rfl) ⟨by decide, by decide⟩ dX11_detour_36 rfl rfl ?_
    refine j_aload_n (q := 2) (pc' := 40) C dX11_detour_39 rfl rfl rfl ?_
    obtain ⟨zx11, hzx11, hr⟩ := ob hr
    refine j_getA (pc' := 43) C dX11_detour_40 fl_X11_67 hzx11 rfl ?_
    refine j_aload_n (q := 2) (pc' := 44) C dX11_detour_43 rfl rfl rfl ?_
    obtain ⟨zx12, hzx12, hr⟩ := ob hr
    refine j_getA (pc' := 47) C dX11_detour_44 fl_X11_63 hzx12 rfl ?_
    obtain ⟨zz13, hzz13, hr⟩ := ob hr
    obtain ⟨zq14, hzq14, hr⟩ := ob hr
    obtain ⟨fhzz13, hzz13⟩ := rcv_sp hzz13
    refine j_callV (ci := 3) (As := [.long zx10, .ref zx11, .ref zx12]) (rest := [.int zq7.1]) (st1 := [.int zq14.1, .int zq7.1]) (pc' := 50) C ⟨wm_1204, wm_1205⟩ rfl hzz13 (c_X5_fillShortest (nx := nx) hzq14) yw_X5_fillShortest wm_1203 rfl rfl (Nat.le_of_ble_eq_true rfl) ⟨by decide, by decide⟩ dX11_detour_47 rfl rfl ?_
    refine j_isub (pc' := 51) C dX11_detour_50 rfl ?_
    have hr := Option.some.inj hr
    subst hr
    exact j_iret C hq hret dX11_detour_51
  · have hr := ifF hc hr
    clear hc
    refine j_iconst (v := -1) (pc' := 17) C dX11_detour_16 kI_m1 rfl ?_
    have hr := Option.some.inj hr
    subst hr
    exact j_iret C hq hret dX11_detour_17
def m_X11_nearest (ce : Ce) (this : Nat) : Option (Int32) :=
  (gA ce 8 6 this).bind fun zx1 =>
  (gA ce 7 4 zx1).bind fun zx2 =>
  (gA ce 6 0 zx2).bind fun zx3 =>
  (rcv ce 6 zx2).bind fun zz4 =>
  (m_X8_aimStates ce zx2).bind fun zx5 =>
  (rcv ce 3 zx3).bind fun zz6 =>
  (m_X5_stepsTo ce zx3 zx5 (15 : Int32)).bind fun zx7 =>
  some zx7
set_option maxRecDepth 100000 in
set_option maxHeartbeats 4000000 in
theorem c_X11_nearest {nx : Nat} {ce : Ce} {this : Nat} {q : Int32} (hr : m_X11_nearest ce this = some q) : Ct yX11_nearest cX11_nearest 2 (some .int) 3 80 0 0 [.ref this] nx ce (some (.int q)) ce := by
  unfold m_X11_nearest at hr
  refine ct_of (by decide) (Nat.le_of_ble_eq_true rfl) ?_
  intro G C hq hret hin
  show Jd G 0 0 nx ce 0 [(0, .ref this)] []
  refine j_aload_n (q := 0) (pc' := 1) C dX11_nearest_0 rfl rfl rfl ?_
  obtain ⟨zx1, hzx1, hr⟩ := ob hr
  refine j_getA (pc' := 4) C dX11_nearest_1 fl_X11_35 hzx1 rfl ?_
  obtain ⟨zx2, hzx2, hr⟩ := ob hr
  refine j_getA (pc' := 7) C dX11_nearest_4 fl_X11_112 hzx2 rfl ?_
  refine j_astore_n (lv' := [(1, .ref zx2), (0, .ref this)]) (pc' := 8) C dX11_nearest_7 rfl (by decide) rfl rfl ?_
  refine j_aload_n (q := 0) (pc' := 9) C dX11_nearest_8 rfl rfl rfl ?_
  obtain ⟨zx3, hzx3, hr⟩ := ob hr
  refine j_getA (pc' := 12) C dX11_nearest_9 fl_X11_125 hzx3 rfl ?_
  refine j_aload_n (q := 0) (pc' := 13) C dX11_nearest_12 rfl rfl rfl ?_
  obtain ⟨zz4, hzz4, hr⟩ := ob hr
  obtain ⟨zx5, hzx5, hr⟩ := ob hr
  obtain ⟨fhzz4, hzz4⟩ := rcv_sp hzz4
  refine j_callV (ci := 6) (As := []) (rest := [.ref zx3]) (st1 := [.long zx5, .ref zx3]) (pc' := 16) C ⟨wm_904, wm_905⟩ rfl hzz4 (c_X8_aimStates (nx := nx) hzx5) yw_X8_aimStates wm_1185 rfl rfl (Nat.le_of_ble_eq_true rfl) ⟨by decide, by decide⟩ dX11_nearest_13 rfl rfl ?_
  refine j_bipush (v := 15) (pc' := 18) C dX11_nearest_16 kB_15 rfl ?_
  obtain ⟨zz6, hzz6, hr⟩ := ob hr
  obtain ⟨zx7, hzx7, hr⟩ := ob hr
  obtain ⟨fhzz6, hzz6⟩ := rcv_sp hzz6
  refine j_callV (ci := 3) (As := [.long zx5, .int (15 : Int32)]) (rest := []) (st1 := [.int zx7]) (pc' := 21) C ⟨wm_1173, wm_1174⟩ rfl hzz6 (c_X5_stepsTo (nx := nx) hzx7) yw_X5_stepsTo wm_1172 rfl rfl (Nat.le_of_ble_eq_true rfl) ⟨by decide, by decide⟩ dX11_nearest_18 rfl rfl ?_
  have hr := Option.some.inj hr
  subst hr
  exact j_iret C hq hret dX11_nearest_21
def m_X11_reach (ce : Ce) (this : Nat) (p1 : Int32) : Option (Int32) :=
  if 0 ≤ p1 then
    (gA ce 8 6 this).bind fun zx1 =>
    (gA ce 7 4 zx1).bind fun zx2 =>
    (gA ce 6 0 zx2).bind fun zx3 =>
    (rcv ce 3 zx3).bind fun zz4 =>
    (m_X5_comeToBy ce zx3 p1).bind fun zx5 =>
    (m_J13_bitCount_95d88 zx5).bind fun zx6 =>
    some zx6
  else
    some (-1 : Int32)
set_option maxRecDepth 100000 in
set_option maxHeartbeats 4000000 in
theorem c_X11_reach {nx : Nat} {ce : Ce} {this : Nat} {p1 : Int32} {q : Int32} (hr : m_X11_reach ce this p1 = some q) : Ct yX11_reach cX11_reach 2 (some .int) 3 78 0 0 [.ref this, .int p1] nx ce (some (.int q)) ce := by
  unfold m_X11_reach at hr
  refine ct_of (by decide) (Nat.le_of_ble_eq_true rfl) ?_
  intro G C hq hret hin
  show Jd G 0 0 nx ce 0 [(0, .ref this), (1, .int p1)] []
  refine j_iload_n (q := 1) (pc' := 1) C dX11_reach_0 rfl rfl rfl ?_
  refine j_if_ge (tgt := 8) (pc' := 4) C dX11_reach_1 rfl rfl (fun hc => ?_) (fun hc => ?_)
  · have hr := ifT hc hr
    clear hc
    refine j_aload_n (q := 0) (pc' := 9) C dX11_reach_8 rfl rfl rfl ?_
    obtain ⟨zx1, hzx1, hr⟩ := ob hr
    refine j_getA (pc' := 12) C dX11_reach_9 fl_X11_35 hzx1 rfl ?_
    obtain ⟨zx2, hzx2, hr⟩ := ob hr
    refine j_getA (pc' := 15) C dX11_reach_12 fl_X11_112 hzx2 rfl ?_
    obtain ⟨zx3, hzx3, hr⟩ := ob hr
    refine j_getA (pc' := 18) C dX11_reach_15 fl_X11_125 hzx3 rfl ?_
    refine j_iload_n (q := 1) (pc' := 19) C dX11_reach_18 rfl rfl rfl ?_
    obtain ⟨zz4, hzz4, hr⟩ := ob hr
    obtain ⟨zx5, hzx5, hr⟩ := ob hr
    obtain ⟨fhzz4, hzz4⟩ := rcv_sp hzz4
    refine j_callV (ci := 3) (As := [.int p1]) (rest := []) (st1 := [.long zx5]) (pc' := 22) C ⟨wm_1225, wm_1226⟩ rfl hzz4 (c_X5_comeToBy (nx := nx) hzx5) yw_X5_comeToBy wm_1224 rfl rfl (Nat.le_of_ble_eq_true rfl) ⟨by decide, by decide⟩ dX11_reach_19 rfl rfl ?_
    obtain ⟨zx6, hzx6, hr⟩ := ob hr
    refine j_callS (As := [.long zx5]) (rest := []) (st1 := [.int zx6]) (pc' := 25) C wm_1036 (c_J13_bitCount_95d88 (nx := nx) (ce := ce) hzx6) yw_J13_bitCount_95d88 wm_1035 rfl rfl (Nat.le_of_ble_eq_true rfl) ⟨by decide, by decide⟩ dX11_reach_22 rfl rfl ?_
    have hr := Option.some.inj hr
    subst hr
    exact j_iret C hq hret dX11_reach_25
  · have hr := ifF hc hr
    clear hc
    refine j_iconst (v := -1) (pc' := 5) C dX11_reach_4 kI_m1 rfl ?_
    refine j_goto (tgt := 25) C dX11_reach_5 rfl ?_
    have hr := Option.some.inj hr
    subst hr
    exact j_iret C hq hret dX11_reach_25
def m_X11_slack (ce : Ce) (this : Nat) (p1 : Int32) : Option (Int32) :=
  (gA ce 8 6 this).bind fun zx1 =>
  (gA ce 7 4 zx1).bind fun zx2 =>
  (rcv ce 6 zx2).bind fun zz3 =>
  (m_X8_hasFrame ce zx2 p1).bind fun zx4 =>
  if zx4 = 0 then
    some (-1 : Int32)
  else
    (rcv ce 6 zx2).bind fun zz5 =>
    (m_X8_statesWithin ce zx2 p1).bind fun zx6 =>
    (gA ce 6 0 zx2).bind fun zx7 =>
    (rcv ce 3 zx7).bind fun zz8 =>
    (m_X5_comeToBy ce zx7 p1).bind fun zx9 =>
    (m_J13_bitCount_95d88 (zx6 &&& (zx9 ^^^ (-1 : Int64)))).bind fun zx10 =>
    some zx10
set_option maxRecDepth 100000 in
set_option maxHeartbeats 4000000 in
theorem c_X11_slack {nx : Nat} {ce : Ce} {this : Nat} {p1 : Int32} {q : Int32} (hr : m_X11_slack ce this p1 = some q) : Ct yX11_slack cX11_slack 3 (some .int) 3 78 0 0 [.ref this, .int p1] nx ce (some (.int q)) ce := by
  unfold m_X11_slack at hr
  refine ct_of (by decide) (Nat.le_of_ble_eq_true rfl) ?_
  intro G C hq hret hin
  show Jd G 0 0 nx ce 0 [(0, .ref this), (1, .int p1)] []
  refine j_aload_n (q := 0) (pc' := 1) C dX11_slack_0 rfl rfl rfl ?_
  obtain ⟨zx1, hzx1, hr⟩ := ob hr
  refine j_getA (pc' := 4) C dX11_slack_1 fl_X11_35 hzx1 rfl ?_
  obtain ⟨zx2, hzx2, hr⟩ := ob hr
  refine j_getA (pc' := 7) C dX11_slack_4 fl_X11_112 hzx2 rfl ?_
  refine j_astore_n (lv' := [(2, .ref zx2), (0, .ref this), (1, .int p1)]) (pc' := 8) C dX11_slack_7 rfl (by decide) rfl rfl ?_
  refine j_aload_n (q := 0) (pc' := 9) C dX11_slack_8 rfl rfl rfl ?_
  refine j_iload_n (q := 2) (pc' := 10) C dX11_slack_9 rfl rfl rfl ?_
  obtain ⟨zz3, hzz3, hr⟩ := ob hr
  obtain ⟨zx4, hzx4, hr⟩ := ob hr
  obtain ⟨fhzz3, hzz3⟩ := rcv_sp hzz3
  refine j_callV (ci := 6) (As := [.int p1]) (rest := []) (st1 := [.int zx4]) (pc' := 13) C ⟨wm_1055, wm_1056⟩ rfl hzz3 (c_X8_hasFrame (nx := nx) hzx4) yw_X8_hasFrame wm_1054 rfl rfl (Nat.le_of_ble_eq_true rfl) ⟨by decide, by decide⟩ dX11_slack_10 rfl rfl ?_
  refine j_if_ne (tgt := 18) (pc' := 16) C dX11_slack_13 rfl rfl (fun hc => ?_) (fun hc => ?_)
  · have hr := ifF hc hr
    clear hc
    refine j_aload_n (q := 0) (pc' := 19) C dX11_slack_18 rfl rfl rfl ?_
    refine j_iload_n (q := 2) (pc' := 20) C dX11_slack_19 rfl rfl rfl ?_
    obtain ⟨zz5, hzz5, hr⟩ := ob hr
    obtain ⟨zx6, hzx6, hr⟩ := ob hr
    obtain ⟨fhzz5, hzz5⟩ := rcv_sp hzz5
    refine j_callV (ci := 6) (As := [.int p1]) (rest := []) (st1 := [.long zx6]) (pc' := 23) C ⟨wm_841, wm_842⟩ rfl hzz5 (c_X8_statesWithin (nx := nx) hzx6) yw_X8_statesWithin wm_1058 rfl rfl (Nat.le_of_ble_eq_true rfl) ⟨by decide, by decide⟩ dX11_slack_20 rfl rfl ?_
    refine j_aload_n (q := 0) (pc' := 24) C dX11_slack_23 rfl rfl rfl ?_
    obtain ⟨zx7, hzx7, hr⟩ := ob hr
    refine j_getA (pc' := 27) C dX11_slack_24 fl_X11_125 hzx7 rfl ?_
    refine j_iload_n (q := 2) (pc' := 28) C dX11_slack_27 rfl rfl rfl ?_
    obtain ⟨zz8, hzz8, hr⟩ := ob hr
    obtain ⟨zx9, hzx9, hr⟩ := ob hr
    obtain ⟨fhzz8, hzz8⟩ := rcv_sp hzz8
    refine j_callV (ci := 3) (As := [.int p1]) (rest := [.long zx6]) (st1 := [.long zx9, .long zx6]) (pc' := 31) C ⟨wm_1225, wm_1226⟩ rfl hzz8 (c_X5_comeToBy (nx := nx) hzx9) yw_X5_comeToBy wm_1224 rfl rfl (Nat.le_of_ble_eq_true rfl) ⟨by decide, by decide⟩ dX11_slack_28 rfl rfl ?_
    refine j_ldc2 (pc' := 34) C dX11_slack_31 wm_1232 rfl ?_
    refine j_lxor (pc' := 35) C dX11_slack_34 rfl ?_
    refine j_land (pc' := 36) C dX11_slack_35 rfl ?_
    obtain ⟨zx10, hzx10, hr⟩ := ob hr
    refine j_callS (As := [.long (zx6 &&& (zx9 ^^^ (-1 : Int64)))]) (rest := []) (st1 := [.int zx10]) (pc' := 39) C wm_1036 (c_J13_bitCount_95d88 (nx := nx) (ce := ce) hzx10) yw_J13_bitCount_95d88 wm_1035 rfl rfl (Nat.le_of_ble_eq_true rfl) ⟨by decide, by decide⟩ dX11_slack_36 rfl rfl ?_
    have hr := Option.some.inj hr
    subst hr
    exact j_iret C hq hret dX11_slack_39
  · have hr := ifT hc hr
    clear hc
    refine j_iconst (v := -1) (pc' := 17) C dX11_slack_16 kI_m1 rfl ?_
    have hr := Option.some.inj hr
    subst hr
    exact j_iret C hq hret dX11_slack_17
def m_X11_claim (nx : Nat) (ce : Ce) (this : Nat) (p1 : Int32) (p2 : Int32) : Option (Int32 × Ce × Nat × Nat) :=
  (gA ce 8 6 this).bind fun zx1 =>
  (gA ce 7 4 zx1).bind fun zx2 =>
  (gA ce 6 0 zx2).bind fun zx3 =>
  (rcv ce 3 zx3).bind fun zz4 =>
  (m_X5_hasCube ce zx3 p1 p2).bind fun zx5 =>
  if zx5 = 0 then
    some ((-1 : Int32), ce, 0, 0)
  else
    (gA ce 6 14 zx2).bind fun zx10 =>
    (gI ce 2 3 zx10).bind fun zx11 =>
    if zx11 < (12 : Int32) then
      (gA ce 8 6 this).bind fun zx12 =>
      (rcv ce 7 zx12).bind fun zz13 =>
      adcB (m_X10_remember nx ce zx12) fun zq14 =>
      (gA zq14.2.1 6 14 zx2).bind fun zx16 =>
      (m_X3_cubeOf p1 p2).bind fun zx17 =>
      (rcv zq14.2.1 2 zx16).bind fun zz18 =>
      adcB (m_X2_append (nx + zq14.2.2.1) zq14.2.1 zx16 zx17) fun zq19 =>
      (gA zq19.2.1 6 14 zx2).bind fun zx21 =>
      (gI zq19.2.1 2 3 zx21).bind fun zx22 =>
      some (zx22, zq19.2.1, 0, 0)
    else
      some ((-1 : Int32), ce, 0, 0)
set_option maxRecDepth 100000 in
set_option maxHeartbeats 4000000 in
theorem c_X11_claim {nx : Nat} {ce : Ce} {this : Nat} {p1 : Int32} {p2 : Int32} {q : Int32 × Ce × Nat × Nat} (hr : m_X11_claim nx ce this p1 p2 = some q) : Ct yX11_claim cX11_claim 4 (some .int) 6 166 q.2.2.1 q.2.2.2 [.ref this, .int p1, .int p2] nx ce (some (.int q.1)) q.2.1 := by
  unfold m_X11_claim at hr
  refine ct_of (by decide) (Nat.le_of_ble_eq_true rfl) ?_
  intro G C hq hret hin
  show Jd G q.2.2.1 q.2.2.2 nx ce 0 [(0, .ref this), (1, .int p1), (2, .int p2)] []
  refine j_aload_n (q := 0) (pc' := 1) C dX11_claim_0 rfl rfl rfl ?_
  obtain ⟨zx1, hzx1, hr⟩ := ob hr
  refine j_getA (pc' := 4) C dX11_claim_1 fl_X11_35 hzx1 rfl ?_
  obtain ⟨zx2, hzx2, hr⟩ := ob hr
  refine j_getA (pc' := 7) C dX11_claim_4 fl_X11_112 hzx2 rfl ?_
  refine j_astore_n (lv' := [(3, .ref zx2), (0, .ref this), (1, .int p1), (2, .int p2)]) (pc' := 8) C dX11_claim_7 rfl (by decide) rfl rfl ?_
  refine j_aload_n (q := 0) (pc' := 9) C dX11_claim_8 rfl rfl rfl ?_
  obtain ⟨zx3, hzx3, hr⟩ := ob hr
  refine j_getA (pc' := 12) C dX11_claim_9 fl_X11_125 hzx3 rfl ?_
  refine j_iload_n (q := 2) (pc' := 13) C dX11_claim_12 rfl rfl rfl ?_
  refine j_iload_n (q := 3) (pc' := 14) C dX11_claim_13 rfl rfl rfl ?_
  obtain ⟨zz4, hzz4, hr⟩ := ob hr
  obtain ⟨zx5, hzx5, hr⟩ := ob hr
  obtain ⟨fhzz4, hzz4⟩ := rcv_sp hzz4
  refine j_callV (ci := 3) (As := [.int p1, .int p2]) (rest := []) (st1 := [.int zx5]) (pc' := 17) C ⟨wm_811, wm_812⟩ rfl hzz4 (c_X5_hasCube (nx := nx) hzx5) yw_X5_hasCube wm_810 rfl rfl (Nat.le_of_ble_eq_true rfl) ⟨by decide, by decide⟩ dX11_claim_14 rfl rfl ?_
  refine j_if_eq (tgt := 32) (pc' := 20) C dX11_claim_17 rfl rfl (fun hc => ?_) (fun hc => ?_)
  · have hr := ifT hc hr
    clear hc
    refine j_iconst (v := -1) (pc' := 33) C dX11_claim_32 kI_m1 rfl ?_
    obtain ⟨azf6, bzf7, czf8, dzf9⟩ := some4 hr
    refine j_k (kc' := 0) (ks' := 0) (by omega) (by omega) ?_
    rw [show nx + q.2.2.1 = nx by omega, bzf7, azf6] at hq
    exact j_iret C hq hret dX11_claim_33
  · have hr := ifF hc hr
    clear hc
    refine j_aload_n (q := 0) (pc' := 21) C dX11_claim_20 rfl rfl rfl ?_
    obtain ⟨zx10, hzx10, hr⟩ := ob hr
    refine j_getA (pc' := 24) C dX11_claim_21 fl_X11_358 hzx10 rfl ?_
    obtain ⟨zx11, hzx11, hr⟩ := ob hr
    refine j_getI (pc' := 27) C dX11_claim_24 fl_X11_294 hzx11 rfl ?_
    refine j_bipush (v := 12) (pc' := 29) C dX11_claim_27 kB_12 rfl ?_
    refine j_ic_lt (tgt := 34) (pc' := 32) C dX11_claim_29 rfl rfl (fun hc => ?_) (fun hc => ?_)
    · have hr := ifT hc hr
      clear hc
      refine j_aload_n (q := 1) (pc' := 35) C dX11_claim_34 rfl rfl rfl ?_
      obtain ⟨zx12, hzx12, hr⟩ := ob hr
      refine j_getA (pc' := 38) C dX11_claim_35 fl_X11_35 hzx12 rfl ?_
      obtain ⟨zz13, hzz13, hr⟩ := ob hr
      obtain ⟨zq14, zt15, hzq14, hr, azt15, bzt15, czt15, dzt15⟩ := adcB_s hr
      refine j_k (kc' := zt15.2.2.1 + zq14.2.2.1) (ks' := zt15.2.2.2 + zq14.2.2.2) (by omega) (by omega) ?_
      obtain ⟨fhzz13, hzz13⟩ := rcv_sp hzz13
      refine j_callVA (ci := 7) (As := []) (rest := []) (st1 := []) (pc' := 41) C ⟨wm_727, wm_728⟩ rfl hzz13 (c_X10_remember hzq14) yw_X10_remember wm_726 rfl rfl (Nat.le_of_ble_eq_true rfl) ⟨by decide, by decide⟩ dX11_claim_38 rfl rfl ?_
      refine j_aload_n (q := 0) (pc' := 42) C dX11_claim_41 rfl rfl rfl ?_
      obtain ⟨zx16, hzx16, hr⟩ := ob hr
      refine j_getA (pc' := 45) C dX11_claim_42 fl_X11_358 hzx16 rfl ?_
      refine j_iload_n (q := 2) (pc' := 46) C dX11_claim_45 rfl rfl rfl ?_
      refine j_iload_n (q := 3) (pc' := 47) C dX11_claim_46 rfl rfl rfl ?_
      obtain ⟨zx17, hzx17, hr⟩ := ob hr
      refine j_callS (As := [.int p1, .int p2]) (rest := [.ref zx16]) (st1 := [.int zx17, .ref zx16]) (pc' := 50) C wm_815 (c_X3_cubeOf (nx := (nx + zq14.2.2.1)) (ce := zq14.2.1) hzx17) yw_X3_cubeOf wm_814 rfl rfl (Nat.le_of_ble_eq_true rfl) ⟨by decide, by decide⟩ dX11_claim_47 rfl rfl ?_
      obtain ⟨zz18, hzz18, hr⟩ := ob hr
      obtain ⟨zq19, zt20, hzq19, hr, azt20, bzt20, czt20, dzt20⟩ := adcB_s hr
      refine j_k (kc' := zt20.2.2.1 + zq19.2.2.1) (ks' := zt20.2.2.2 + zq19.2.2.2) (by omega) (by omega) ?_
      obtain ⟨fhzz18, hzz18⟩ := rcv_sp hzz18
      refine j_callVA (ci := 2) (As := [.int zx17]) (rest := []) (st1 := []) (pc' := 53) C ⟨wm_1238, wm_1239⟩ rfl hzz18 (c_X2_append hzq19) yw_X2_append wm_1237 rfl rfl (Nat.le_of_ble_eq_true rfl) ⟨by decide, by decide⟩ dX11_claim_50 rfl rfl ?_
      refine j_aload_n (q := 0) (pc' := 54) C dX11_claim_53 rfl rfl rfl ?_
      obtain ⟨zx21, hzx21, hr⟩ := ob hr
      refine j_getA (pc' := 57) C dX11_claim_54 fl_X11_358 hzx21 rfl ?_
      obtain ⟨zx22, hzx22, hr⟩ := ob hr
      refine j_getI (pc' := 60) C dX11_claim_57 fl_X11_294 hzx22 rfl ?_
      obtain ⟨azf23, bzf24, czf25, dzf26⟩ := some4 hr
      refine j_k (kc' := 0) (ks' := 0) (by omega) (by omega) ?_
      rw [show nx + q.2.2.1 = ((nx + zq14.2.2.1) + zq19.2.2.1) by omega, (bzt15.trans (bzt20.trans bzf24)), (azt15.trans (azt20.trans azf23))] at hq
      exact j_iret C hq hret dX11_claim_60
    · have hr := ifF hc hr
      clear hc
      refine j_iconst (v := -1) (pc' := 33) C dX11_claim_32 kI_m1 rfl ?_
      obtain ⟨azf27, bzf28, czf29, dzf30⟩ := some4 hr
      refine j_k (kc' := 0) (ks' := 0) (by omega) (by omega) ?_
      rw [show nx + q.2.2.1 = nx by omega, bzf28, azf27] at hq
      exact j_iret C hq hret dX11_claim_33
def m_X11_adopt (nx : Nat) (ce : Ce) (this : Nat) : Option (Int32 × Ce × Nat × Nat) :=
  (gA ce 8 6 this).bind fun zx1 =>
  (gA ce 7 4 zx1).bind fun zx2 =>
  (gI ce 6 3 zx2).bind fun zx3 =>
  if zx3 = (3 : Int32) then
    (gA ce 6 11 zx2).bind fun zx8 =>
    (gI ce 2 3 zx8).bind fun zx9 =>
    (rcv ce 6 zx2).bind fun zz10 =>
    (m_X8_fenceStart ce zx2).bind fun zx11 =>
    if (zx9 - zx11) ≤ (12 : Int32) then
      (gA ce 8 6 this).bind fun zx12 =>
      (rcv ce 7 zx12).bind fun zz13 =>
      adcB (m_X10_remember nx ce zx12) fun zq14 =>
      (gA zq14.2.1 6 14 zx2).bind fun zx16 =>
      (gA zq14.2.1 6 11 zx2).bind fun zx17 =>
      (rcv zq14.2.1 6 zx2).bind fun zz18 =>
      (m_X8_fenceStart zq14.2.1 zx2).bind fun zx19 =>
      (rcv zq14.2.1 2 zx16).bind fun zz20 =>
      adcB (m_X2_takeFrom (nx + zq14.2.2.1) zq14.2.1 zx16 (some zx17) zx19) fun zq21 =>
      (gA zq21.2.1 6 14 zx2).bind fun zx23 =>
      (gI zq21.2.1 2 3 zx23).bind fun zx24 =>
      some (zx24, zq21.2.1, 0, 0)
    else
      some ((-1 : Int32), ce, 0, 0)
  else
    some ((-1 : Int32), ce, 0, 0)
set_option maxRecDepth 100000 in
set_option maxHeartbeats 4000000 in
theorem c_X11_adopt {nx : Nat} {ce : Ce} {this : Nat} {q : Int32 × Ce × Nat × Nat} (hr : m_X11_adopt nx ce this = some q) : Ct yX11_adopt cX11_adopt 2 (some .int) 6 170 q.2.2.1 q.2.2.2 [.ref this] nx ce (some (.int q.1)) q.2.1 := by
  unfold m_X11_adopt at hr
  refine ct_of (by decide) (Nat.le_of_ble_eq_true rfl) ?_
  intro G C hq hret hin
  show Jd G q.2.2.1 q.2.2.2 nx ce 0 [(0, .ref this)] []
  refine j_aload_n (q := 0) (pc' := 1) C dX11_adopt_0 rfl rfl rfl ?_
  obtain ⟨zx1, hzx1, hr⟩ := ob hr
  refine j_getA (pc' := 4) C dX11_adopt_1 fl_X11_35 hzx1 rfl ?_
  obtain ⟨zx2, hzx2, hr⟩ := ob hr
  refine j_getA (pc' := 7) C dX11_adopt_4 fl_X11_112 hzx2 rfl ?_
  refine j_astore_n (lv' := [(1, .ref zx2), (0, .ref this)]) (pc' := 8) C dX11_adopt_7 rfl (by decide) rfl rfl ?_
  refine j_aload_n (q := 0) (pc' := 9) C dX11_adopt_8 rfl rfl rfl ?_
  obtain ⟨zx3, hzx3, hr⟩ := ob hr
  refine j_getI (pc' := 12) C dX11_adopt_9 fl_X11_176 hzx3 rfl ?_
  refine j_iconst (v := 3) (pc' := 13) C dX11_adopt_12 kI_3 rfl ?_
  refine j_ic_ne (tgt := 33) (pc' := 16) C dX11_adopt_13 rfl rfl (fun hc => ?_) (fun hc => ?_)
  · have hr := ifF hc hr
    clear hc
    refine j_iconst (v := -1) (pc' := 34) C dX11_adopt_33 kI_m1 rfl ?_
    obtain ⟨azf4, bzf5, czf6, dzf7⟩ := some4 hr
    refine j_k (kc' := 0) (ks' := 0) (by omega) (by omega) ?_
    rw [show nx + q.2.2.1 = nx by omega, bzf5, azf4] at hq
    exact j_iret C hq hret dX11_adopt_34
  · have hr := ifT hc hr
    clear hc
    refine j_aload_n (q := 0) (pc' := 17) C dX11_adopt_16 rfl rfl rfl ?_
    obtain ⟨zx8, hzx8, hr⟩ := ob hr
    refine j_getA (pc' := 20) C dX11_adopt_17 fl_X11_151 hzx8 rfl ?_
    obtain ⟨zx9, hzx9, hr⟩ := ob hr
    refine j_getI (pc' := 23) C dX11_adopt_20 fl_X11_294 hzx9 rfl ?_
    refine j_aload_n (q := 0) (pc' := 24) C dX11_adopt_23 rfl rfl rfl ?_
    obtain ⟨zz10, hzz10, hr⟩ := ob hr
    obtain ⟨zx11, hzx11, hr⟩ := ob hr
    obtain ⟨fhzz10, hzz10⟩ := rcv_sp hzz10
    refine j_callV (ci := 6) (As := []) (rest := [.int zx9]) (st1 := [.int zx11, .int zx9]) (pc' := 27) C ⟨wm_1131, wm_1132⟩ rfl hzz10 (c_X8_fenceStart (nx := nx) hzx11) yw_X8_fenceStart wm_1130 rfl rfl (Nat.le_of_ble_eq_true rfl) ⟨by decide, by decide⟩ dX11_adopt_24 rfl rfl ?_
    refine j_isub (pc' := 28) C dX11_adopt_27 rfl ?_
    refine j_bipush (v := 12) (pc' := 30) C dX11_adopt_28 kB_12 rfl ?_
    refine j_ic_le (tgt := 35) (pc' := 33) C dX11_adopt_30 rfl rfl (fun hc => ?_) (fun hc => ?_)
    · have hr := ifT hc hr
      clear hc
      refine j_aload_n (q := 1) (pc' := 36) C dX11_adopt_35 rfl rfl rfl ?_
      obtain ⟨zx12, hzx12, hr⟩ := ob hr
      refine j_getA (pc' := 39) C dX11_adopt_36 fl_X11_35 hzx12 rfl ?_
      obtain ⟨zz13, hzz13, hr⟩ := ob hr
      obtain ⟨zq14, zt15, hzq14, hr, azt15, bzt15, czt15, dzt15⟩ := adcB_s hr
      refine j_k (kc' := zt15.2.2.1 + zq14.2.2.1) (ks' := zt15.2.2.2 + zq14.2.2.2) (by omega) (by omega) ?_
      obtain ⟨fhzz13, hzz13⟩ := rcv_sp hzz13
      refine j_callVA (ci := 7) (As := []) (rest := []) (st1 := []) (pc' := 42) C ⟨wm_727, wm_728⟩ rfl hzz13 (c_X10_remember hzq14) yw_X10_remember wm_726 rfl rfl (Nat.le_of_ble_eq_true rfl) ⟨by decide, by decide⟩ dX11_adopt_39 rfl rfl ?_
      refine j_aload_n (q := 0) (pc' := 43) C dX11_adopt_42 rfl rfl rfl ?_
      obtain ⟨zx16, hzx16, hr⟩ := ob hr
      refine j_getA (pc' := 46) C dX11_adopt_43 fl_X11_358 hzx16 rfl ?_
      refine j_aload_n (q := 0) (pc' := 47) C dX11_adopt_46 rfl rfl rfl ?_
      obtain ⟨zx17, hzx17, hr⟩ := ob hr
      refine j_getA (pc' := 50) C dX11_adopt_47 fl_X11_151 hzx17 rfl ?_
      refine j_aload_n (q := 0) (pc' := 51) C dX11_adopt_50 rfl rfl rfl ?_
      obtain ⟨zz18, hzz18, hr⟩ := ob hr
      obtain ⟨zx19, hzx19, hr⟩ := ob hr
      obtain ⟨fhzz18, hzz18⟩ := rcv_sp hzz18
      refine j_callV (ci := 6) (As := []) (rest := [.ref zx17, .ref zx16]) (st1 := [.int zx19, .ref zx17, .ref zx16]) (pc' := 54) C ⟨wm_1131, wm_1132⟩ rfl hzz18 (c_X8_fenceStart (nx := (nx + zq14.2.2.1)) hzx19) yw_X8_fenceStart wm_1130 rfl rfl (Nat.le_of_ble_eq_true rfl) ⟨by decide, by decide⟩ dX11_adopt_51 rfl rfl ?_
      obtain ⟨zz20, hzz20, hr⟩ := ob hr
      obtain ⟨zq21, zt22, hzq21, hr, azt22, bzt22, czt22, dzt22⟩ := adcB_s hr
      refine j_k (kc' := zt22.2.2.1 + zq21.2.2.1) (ks' := zt22.2.2.2 + zq21.2.2.2) (by omega) (by omega) ?_
      obtain ⟨fhzz20, hzz20⟩ := rcv_sp hzz20
      refine j_callVA (ci := 2) (As := [va_rf (some zx17), .int zx19]) (rest := []) (st1 := []) (pc' := 57) C ⟨wm_1246, wm_1247⟩ rfl hzz20 (c_X2_takeFrom hzq21) yw_X2_takeFrom wm_1245 rfl rfl (Nat.le_of_ble_eq_true rfl) ⟨by decide, by decide⟩ dX11_adopt_54 rfl rfl ?_
      refine j_aload_n (q := 0) (pc' := 58) C dX11_adopt_57 rfl rfl rfl ?_
      obtain ⟨zx23, hzx23, hr⟩ := ob hr
      refine j_getA (pc' := 61) C dX11_adopt_58 fl_X11_358 hzx23 rfl ?_
      obtain ⟨zx24, hzx24, hr⟩ := ob hr
      refine j_getI (pc' := 64) C dX11_adopt_61 fl_X11_294 hzx24 rfl ?_
      obtain ⟨azf25, bzf26, czf27, dzf28⟩ := some4 hr
      refine j_k (kc' := 0) (ks' := 0) (by omega) (by omega) ?_
      rw [show nx + q.2.2.1 = ((nx + zq14.2.2.1) + zq21.2.2.1) by omega, (bzt15.trans (bzt22.trans bzf26)), (azt15.trans (azt22.trans azf25))] at hq
      exact j_iret C hq hret dX11_adopt_64
    · have hr := ifF hc hr
      clear hc
      refine j_iconst (v := -1) (pc' := 34) C dX11_adopt_33 kI_m1 rfl ?_
      obtain ⟨azf29, bzf30, czf31, dzf32⟩ := some4 hr
      refine j_k (kc' := 0) (ks' := 0) (by omega) (by omega) ?_
      rw [show nx + q.2.2.1 = nx by omega, bzf30, azf29] at hq
      exact j_iret C hq hret dX11_adopt_34
def m_X11_unclaim (nx : Nat) (ce : Ce) (this : Nat) (p1 : Int32) : Option (Int32 × Ce × Nat × Nat) :=
  (gA ce 8 6 this).bind fun zx1 =>
  (gA ce 7 4 zx1).bind fun zx2 =>
  (gA ce 6 14 zx2).bind fun zx3 =>
  if p1 < 0 then
    some ((-1 : Int32), ce, 0, 0)
  else
    (gI ce 2 3 zx3).bind fun zx8 =>
    if p1 < zx8 then
      (gA ce 8 6 this).bind fun zx9 =>
      (rcv ce 7 zx9).bind fun zz10 =>
      adcB (m_X10_remember nx ce zx9) fun zq11 =>
      (rcv zq11.2.1 2 zx3).bind fun zz13 =>
      (m_X2_removeAt zq11.2.1 zx3 p1).bind fun zq14 =>
      (gI zq14.2 2 3 zx3).bind fun zx15 =>
      some (zx15, zq14.2, 0, 0)
    else
      some ((-1 : Int32), ce, 0, 0)
set_option maxRecDepth 100000 in
set_option maxHeartbeats 4000000 in
theorem c_X11_unclaim {nx : Nat} {ce : Ce} {this : Nat} {p1 : Int32} {q : Int32 × Ce × Nat × Nat} (hr : m_X11_unclaim nx ce this p1 = some q) : Ct yX11_unclaim cX11_unclaim 3 (some .int) 6 166 q.2.2.1 q.2.2.2 [.ref this, .int p1] nx ce (some (.int q.1)) q.2.1 := by
  unfold m_X11_unclaim at hr
  refine ct_of (by decide) (Nat.le_of_ble_eq_true rfl) ?_
  intro G C hq hret hin
  show Jd G q.2.2.1 q.2.2.2 nx ce 0 [(0, .ref this), (1, .int p1)] []
  refine j_aload_n (q := 0) (pc' := 1) C dX11_unclaim_0 rfl rfl rfl ?_
  obtain ⟨zx1, hzx1, hr⟩ := ob hr
  refine j_getA (pc' := 4) C dX11_unclaim_1 fl_X11_35 hzx1 rfl ?_
  obtain ⟨zx2, hzx2, hr⟩ := ob hr
  refine j_getA (pc' := 7) C dX11_unclaim_4 fl_X11_112 hzx2 rfl ?_
  obtain ⟨zx3, hzx3, hr⟩ := ob hr
  refine j_getA (pc' := 10) C dX11_unclaim_7 fl_X11_358 hzx3 rfl ?_
  refine j_astore_n (lv' := [(2, .ref zx3), (0, .ref this), (1, .int p1)]) (pc' := 11) C dX11_unclaim_10 rfl (by decide) rfl rfl ?_
  refine j_iload_n (q := 2) (pc' := 12) C dX11_unclaim_11 rfl rfl rfl ?_
  refine j_if_lt (tgt := 23) (pc' := 15) C dX11_unclaim_12 rfl rfl (fun hc => ?_) (fun hc => ?_)
  · have hr := ifT hc hr
    clear hc
    refine j_iconst (v := -1) (pc' := 24) C dX11_unclaim_23 kI_m1 rfl ?_
    obtain ⟨azf4, bzf5, czf6, dzf7⟩ := some4 hr
    refine j_k (kc' := 0) (ks' := 0) (by omega) (by omega) ?_
    rw [show nx + q.2.2.1 = nx by omega, bzf5, azf4] at hq
    exact j_iret C hq hret dX11_unclaim_24
  · have hr := ifF hc hr
    clear hc
    refine j_iload_n (q := 2) (pc' := 16) C dX11_unclaim_15 rfl rfl rfl ?_
    refine j_aload_n (q := 0) (pc' := 17) C dX11_unclaim_16 rfl rfl rfl ?_
    obtain ⟨zx8, hzx8, hr⟩ := ob hr
    refine j_getI (pc' := 20) C dX11_unclaim_17 fl_X11_294 hzx8 rfl ?_
    refine j_ic_lt (tgt := 25) (pc' := 23) C dX11_unclaim_20 rfl rfl (fun hc => ?_) (fun hc => ?_)
    · have hr := ifT hc hr
      clear hc
      refine j_aload_n (q := 1) (pc' := 26) C dX11_unclaim_25 rfl rfl rfl ?_
      obtain ⟨zx9, hzx9, hr⟩ := ob hr
      refine j_getA (pc' := 29) C dX11_unclaim_26 fl_X11_35 hzx9 rfl ?_
      obtain ⟨zz10, hzz10, hr⟩ := ob hr
      obtain ⟨zq11, zt12, hzq11, hr, azt12, bzt12, czt12, dzt12⟩ := adcB_s hr
      refine j_k (kc' := zt12.2.2.1 + zq11.2.2.1) (ks' := zt12.2.2.2 + zq11.2.2.2) (by omega) (by omega) ?_
      obtain ⟨fhzz10, hzz10⟩ := rcv_sp hzz10
      refine j_callVA (ci := 7) (As := []) (rest := []) (st1 := []) (pc' := 32) C ⟨wm_727, wm_728⟩ rfl hzz10 (c_X10_remember hzq11) yw_X10_remember wm_726 rfl rfl (Nat.le_of_ble_eq_true rfl) ⟨by decide, by decide⟩ dX11_unclaim_29 rfl rfl ?_
      refine j_aload_n (q := 0) (pc' := 33) C dX11_unclaim_32 rfl rfl rfl ?_
      refine j_iload_n (q := 2) (pc' := 34) C dX11_unclaim_33 rfl rfl rfl ?_
      obtain ⟨zz13, hzz13, hr⟩ := ob hr
      obtain ⟨zq14, hzq14, hr⟩ := ob hr
      obtain ⟨fhzz13, hzz13⟩ := rcv_sp hzz13
      refine j_callV (ci := 2) (As := [.int p1]) (rest := []) (st1 := []) (pc' := 37) C ⟨wm_1256, wm_1257⟩ rfl hzz13 (c_X2_removeAt (nx := (nx + zq11.2.2.1)) hzq14) yw_X2_removeAt wm_1255 rfl rfl (Nat.le_of_ble_eq_true rfl) ⟨by decide, by decide⟩ dX11_unclaim_34 rfl rfl ?_
      refine j_aload_n (q := 0) (pc' := 38) C dX11_unclaim_37 rfl rfl rfl ?_
      obtain ⟨zx15, hzx15, hr⟩ := ob hr
      refine j_getI (pc' := 41) C dX11_unclaim_38 fl_X11_294 hzx15 rfl ?_
      obtain ⟨azf16, bzf17, czf18, dzf19⟩ := some4 hr
      refine j_k (kc' := 0) (ks' := 0) (by omega) (by omega) ?_
      rw [show nx + q.2.2.1 = (nx + zq11.2.2.1) by omega, (bzt12.trans bzf17), (azt12.trans azf16)] at hq
      exact j_iret C hq hret dX11_unclaim_41
    · have hr := ifF hc hr
      clear hc
      refine j_iconst (v := -1) (pc' := 24) C dX11_unclaim_23 kI_m1 rfl ?_
      obtain ⟨azf20, bzf21, czf22, dzf23⟩ := some4 hr
      refine j_k (kc' := 0) (ks' := 0) (by omega) (by omega) ?_
      rw [show nx + q.2.2.1 = nx by omega, bzf21, azf20] at hq
      exact j_iret C hq hret dX11_unclaim_24
def m_X11_rowOf (ce : Ce) (this : Nat) (p1 : Int32) : Option ((Option Nat)) :=
  (gA ce 8 6 this).bind fun zx1 =>
  (gA ce 7 4 zx1).bind fun zx2 =>
  if p1 = (0 : Int32) then
    (gA ce 6 14 zx2).bind fun zx3 =>
    some (some zx3)
  else
  if p1 = (1 : Int32) then
    (gI ce 6 3 zx2).bind fun zx4 =>
    if zx4 = (3 : Int32) then
      (gA ce 6 11 zx2).bind fun zx5 =>
      some (some zx5)
    else
      some none
  else
  if p1 = (2 : Int32) then
    (gA ce 6 11 zx2).bind fun zx6 =>
    some (some zx6)
  else
  some none
set_option maxRecDepth 100000 in
set_option maxHeartbeats 4000000 in
theorem c_X11_rowOf {nx : Nat} {ce : Ce} {this : Nat} {p1 : Int32} {q : (Option Nat)} (hr : m_X11_rowOf ce this p1 = some q) : Ct yX11_rowOf cX11_rowOf 3 (some (.object "FencedStates$CubeRow")) 0 0 0 0 [.ref this, .int p1] nx ce (some (va_rf q)) ce := by
  unfold m_X11_rowOf at hr
  refine ct_of (by decide) (Nat.le_of_ble_eq_true rfl) ?_
  intro G C hq hret hin
  show Jd G 0 0 nx ce 0 [(0, .ref this), (1, .int p1)] []
  refine j_aload_n (q := 0) (pc' := 1) C dX11_rowOf_0 rfl rfl rfl ?_
  obtain ⟨zx1, hzx1, hr⟩ := ob hr
  refine j_getA (pc' := 4) C dX11_rowOf_1 fl_X11_35 hzx1 rfl ?_
  obtain ⟨zx2, hzx2, hr⟩ := ob hr
  refine j_getA (pc' := 7) C dX11_rowOf_4 fl_X11_112 hzx2 rfl ?_
  refine j_astore_n (lv' := [(2, .ref zx2), (0, .ref this), (1, .int p1)]) (pc' := 8) C dX11_rowOf_7 rfl (by decide) rfl rfl ?_
  refine j_iload_n (q := 2) (pc' := 9) C dX11_rowOf_8 rfl rfl rfl ?_
  by_cases hc0 : p1 = (0 : Int32)
  · have hr := ifT hc0 hr
    refine j_tabIn (v := 0) (off := 27) (tgt := 36) C dX11_rowOf_9 hc0 (by decide) rfl ?_
    refine j_aload_n (q := 0) (pc' := 37) C dX11_rowOf_36 rfl rfl rfl ?_
    obtain ⟨zx3, hzx3, hr⟩ := ob hr
    refine j_getA (pc' := 40) C dX11_rowOf_37 fl_X11_358 hzx3 rfl ?_
    have hr := Option.some.inj hr
    subst hr
    exact j_aret C hq hret (by first | exact Or.inl ⟨_, rfl⟩ | exact Or.inr ⟨_, rfl⟩) dX11_rowOf_40
  have hr := ifF hc0 hr
  by_cases hc1 : p1 = (1 : Int32)
  · have hr := ifT hc1 hr
    refine j_tabIn (v := 1) (off := 32) (tgt := 41) C dX11_rowOf_9 hc1 (by decide) rfl ?_
    refine j_aload_n (q := 0) (pc' := 42) C dX11_rowOf_41 rfl rfl rfl ?_
    obtain ⟨zx4, hzx4, hr⟩ := ob hr
    refine j_getI (pc' := 45) C dX11_rowOf_42 fl_X11_176 hzx4 rfl ?_
    refine j_iconst (v := 3) (pc' := 46) C dX11_rowOf_45 kI_3 rfl ?_
    refine j_ic_ne (tgt := 56) (pc' := 49) C dX11_rowOf_46 rfl rfl (fun hc => ?_) (fun hc => ?_)
    · have hr := ifF hc hr
      clear hc
      refine j_null (pc' := 57) C dX11_rowOf_56 rfl ?_
      have hr := Option.some.inj hr
      subst hr
      exact j_aret C hq hret (by first | exact Or.inl ⟨_, rfl⟩ | exact Or.inr ⟨_, rfl⟩) dX11_rowOf_57
    · have hr := ifT hc hr
      clear hc
      refine j_aload_n (q := 0) (pc' := 50) C dX11_rowOf_49 rfl rfl rfl ?_
      obtain ⟨zx5, hzx5, hr⟩ := ob hr
      refine j_getA (pc' := 53) C dX11_rowOf_50 fl_X11_151 hzx5 rfl ?_
      refine j_goto (tgt := 57) C dX11_rowOf_53 rfl ?_
      have hr := Option.some.inj hr
      subst hr
      exact j_aret C hq hret (by first | exact Or.inl ⟨_, rfl⟩ | exact Or.inr ⟨_, rfl⟩) dX11_rowOf_57
  have hr := ifF hc1 hr
  by_cases hc2 : p1 = (2 : Int32)
  · have hr := ifT hc2 hr
    refine j_tabIn (v := 2) (off := 49) (tgt := 58) C dX11_rowOf_9 hc2 (by decide) rfl ?_
    refine j_aload_n (q := 0) (pc' := 59) C dX11_rowOf_58 rfl rfl rfl ?_
    obtain ⟨zx6, hzx6, hr⟩ := ob hr
    refine j_getA (pc' := 62) C dX11_rowOf_59 fl_X11_151 hzx6 rfl ?_
    have hr := Option.some.inj hr
    subst hr
    exact j_aret C hq hret (by first | exact Or.inl ⟨_, rfl⟩ | exact Or.inr ⟨_, rfl⟩) dX11_rowOf_62
  have hr := ifF hc2 hr
  refine j_tabOut (tgt := 63) C dX11_rowOf_9 (tab_out 3 (by decide) (by decide) (by decide) (fun i hi => by
    match i, hi with
    | 0, _ => exact hc0
    | 1, _ => exact hc1
    | 2, _ => exact hc2
    | i + 3, hi => omega)) rfl ?_
  refine j_null (pc' := 64) C dX11_rowOf_63 rfl ?_
  have hr := Option.some.inj hr
  subst hr
  exact j_aret C hq hret (by first | exact Or.inl ⟨_, rfl⟩ | exact Or.inr ⟨_, rfl⟩) dX11_rowOf_64
def m_X11_startIn (ce : Ce) (this : Nat) (p1 : Int32) : Option (Int32) :=
  if p1 = (1 : Int32) then
    (gA ce 8 6 this).bind fun zx1 =>
    (gA ce 7 4 zx1).bind fun zx2 =>
    (rcv ce 6 zx2).bind fun zz3 =>
    (m_X8_fenceStart ce zx2).bind fun zx4 =>
    some zx4
  else
    some (0 : Int32)
set_option maxRecDepth 100000 in
set_option maxHeartbeats 4000000 in
theorem c_X11_startIn {nx : Nat} {ce : Ce} {this : Nat} {p1 : Int32} {q : Int32} (hr : m_X11_startIn ce this p1 = some q) : Ct yX11_startIn cX11_startIn 2 (some .int) 2 42 0 0 [.ref this, .int p1] nx ce (some (.int q)) ce := by
  unfold m_X11_startIn at hr
  refine ct_of (by decide) (Nat.le_of_ble_eq_true rfl) ?_
  intro G C hq hret hin
  show Jd G 0 0 nx ce 0 [(0, .ref this), (1, .int p1)] []
  refine j_iload_n (q := 1) (pc' := 1) C dX11_startIn_0 rfl rfl rfl ?_
  refine j_iconst (v := 1) (pc' := 2) C dX11_startIn_1 kI_1 rfl ?_
  refine j_ic_ne (tgt := 18) (pc' := 5) C dX11_startIn_2 rfl rfl (fun hc => ?_) (fun hc => ?_)
  · have hr := ifF hc hr
    clear hc
    refine j_iconst (v := 0) (pc' := 19) C dX11_startIn_18 kI_0 rfl ?_
    have hr := Option.some.inj hr
    subst hr
    exact j_iret C hq hret dX11_startIn_19
  · have hr := ifT hc hr
    clear hc
    refine j_aload_n (q := 0) (pc' := 6) C dX11_startIn_5 rfl rfl rfl ?_
    obtain ⟨zx1, hzx1, hr⟩ := ob hr
    refine j_getA (pc' := 9) C dX11_startIn_6 fl_X11_35 hzx1 rfl ?_
    obtain ⟨zx2, hzx2, hr⟩ := ob hr
    refine j_getA (pc' := 12) C dX11_startIn_9 fl_X11_112 hzx2 rfl ?_
    obtain ⟨zz3, hzz3, hr⟩ := ob hr
    obtain ⟨zx4, hzx4, hr⟩ := ob hr
    obtain ⟨fhzz3, hzz3⟩ := rcv_sp hzz3
    refine j_callV (ci := 6) (As := []) (rest := []) (st1 := [.int zx4]) (pc' := 15) C ⟨wm_1131, wm_1132⟩ rfl hzz3 (c_X8_fenceStart (nx := nx) hzx4) yw_X8_fenceStart wm_1130 rfl rfl (Nat.le_of_ble_eq_true rfl) ⟨by decide, by decide⟩ dX11_startIn_12 rfl rfl ?_
    refine j_goto (tgt := 19) C dX11_startIn_15 rfl ?_
    have hr := Option.some.inj hr
    subst hr
    exact j_iret C hq hret dX11_startIn_19
def m_X11_judged (ce : Ce) (this : Nat) (p1 : Int32) : Option (Int32) :=
  (rcv ce 8 this).bind fun zz1 =>
  (m_X11_rowOf ce this p1).bind fun zx2 =>
  match zx2 with
  | none =>
    some (-1 : Int32)
  | some za3 =>
    (gA ce 8 6 this).bind fun zx4 =>
    (gA ce 7 4 zx4).bind fun zx5 =>
    (rcv ce 8 this).bind fun zz6 =>
    (m_X11_startIn ce this p1).bind fun zx7 =>
    (rcv ce 2 za3).bind fun zz8 =>
    (m_X2_unionFrom ce za3 zx7).bind fun zx9 =>
    (rcv ce 6 zx5).bind fun zz10 =>
    (m_X8_judgementOf ce zx5 zx9).bind fun zx11 =>
    some zx11
set_option maxRecDepth 100000 in
set_option maxHeartbeats 4000000 in
theorem c_X11_judged {nx : Nat} {ce : Ce} {this : Nat} {p1 : Int32} {q : Int32} (hr : m_X11_judged ce this p1 = some q) : Ct yX11_judged cX11_judged 3 (some .int) 3 63 0 0 [.ref this, .int p1] nx ce (some (.int q)) ce := by
  unfold m_X11_judged at hr
  refine ct_of (by decide) (Nat.le_of_ble_eq_true rfl) ?_
  intro G C hq hret hin
  show Jd G 0 0 nx ce 0 [(0, .ref this), (1, .int p1)] []
  refine j_aload_n (q := 0) (pc' := 1) C dX11_judged_0 rfl rfl rfl ?_
  refine j_iload_n (q := 1) (pc' := 2) C dX11_judged_1 rfl rfl rfl ?_
  obtain ⟨zz1, hzz1, hr⟩ := ob hr
  obtain ⟨zx2, hzx2, hr⟩ := ob hr
  obtain ⟨fhzz1, hzz1⟩ := rcv_sp hzz1
  refine j_callV (ci := 8) (As := [.int p1]) (rest := []) (st1 := [va_rf zx2]) (pc' := 5) C ⟨wm_1269, wm_32⟩ rfl hzz1 (c_X11_rowOf (nx := nx) hzx2) yw_X11_rowOf wm_1267 rfl rfl (Nat.le_of_ble_eq_true rfl) ⟨by decide, by decide⟩ dX11_judged_2 rfl rfl ?_
  refine j_qstore_n (lv' := [(2, va_rf zx2), (0, .ref this), (1, .int p1)]) (pc' := 6) C dX11_judged_5 rfl (by decide) rfl rfl ?_
  refine j_qload_n (q := 0) (pc' := 7) C dX11_judged_6 rfl rfl rfl ?_
  refine j_ifnonnull (tgt := 14) (pc' := 10) C dX11_judged_7 rfl rfl (fun za3 hc => ?_) (fun hc => ?_)
  · subst hc
    refine j_aload_n (q := 1) (pc' := 15) C dX11_judged_14 rfl rfl rfl ?_
    obtain ⟨zx4, hzx4, hr⟩ := ob hr
    refine j_getA (pc' := 18) C dX11_judged_15 fl_X11_35 hzx4 rfl ?_
    obtain ⟨zx5, hzx5, hr⟩ := ob hr
    refine j_getA (pc' := 21) C dX11_judged_18 fl_X11_112 hzx5 rfl ?_
    refine j_aload_n (q := 0) (pc' := 22) C dX11_judged_21 rfl rfl rfl ?_
    refine j_aload_n (q := 1) (pc' := 23) C dX11_judged_22 rfl rfl rfl ?_
    refine j_iload_n (q := 2) (pc' := 24) C dX11_judged_23 rfl rfl rfl ?_
    obtain ⟨zz6, hzz6, hr⟩ := ob hr
    obtain ⟨zx7, hzx7, hr⟩ := ob hr
    obtain ⟨fhzz6, hzz6⟩ := rcv_sp hzz6
    refine j_callV (ci := 8) (As := [.int p1]) (rest := [.ref za3, .ref zx5]) (st1 := [.int zx7, .ref za3, .ref zx5]) (pc' := 27) C ⟨wm_1273, wm_33⟩ rfl hzz6 (c_X11_startIn (nx := nx) hzx7) yw_X11_startIn wm_1271 rfl rfl (Nat.le_of_ble_eq_true rfl) ⟨by decide, by decide⟩ dX11_judged_24 rfl rfl ?_
    obtain ⟨zz8, hzz8, hr⟩ := ob hr
    obtain ⟨zx9, hzx9, hr⟩ := ob hr
    obtain ⟨fhzz8, hzz8⟩ := rcv_sp hzz8
    refine j_callV (ci := 2) (As := [.int zx7]) (rest := [.ref zx5]) (st1 := [.long zx9, .ref zx5]) (pc' := 30) C ⟨wm_849, wm_850⟩ rfl hzz8 (c_X2_unionFrom (nx := nx) hzx9) yw_X2_unionFrom wm_1275 rfl rfl (Nat.le_of_ble_eq_true rfl) ⟨by decide, by decide⟩ dX11_judged_27 rfl rfl ?_
    obtain ⟨zz10, hzz10, hr⟩ := ob hr
    obtain ⟨zx11, hzx11, hr⟩ := ob hr
    obtain ⟨fhzz10, hzz10⟩ := rcv_sp hzz10
    refine j_callV (ci := 6) (As := [.long zx9]) (rest := []) (st1 := [.int zx11]) (pc' := 33) C ⟨wm_1277, wm_1278⟩ rfl hzz10 (c_X8_judgementOf (nx := nx) hzx11) yw_X8_judgementOf wm_1276 rfl rfl (Nat.le_of_ble_eq_true rfl) ⟨by decide, by decide⟩ dX11_judged_30 rfl rfl ?_
    have hr := Option.some.inj hr
    subst hr
    exact j_iret C hq hret dX11_judged_33
  · subst hc
    refine j_iconst (v := -1) (pc' := 11) C dX11_judged_10 kI_m1 rfl ?_
    refine j_goto (tgt := 33) C dX11_judged_11 rfl ?_
    have hr := Option.some.inj hr
    subst hr
    exact j_iret C hq hret dX11_judged_33
def m_X11_loosen (nx : Nat) (ce : Ce) (this : Nat) (p1 : Int32) : Option (Int32 × Ce × Nat × Nat) :=
  (gA ce 8 6 this).bind fun zx1 =>
  (gA ce 7 4 zx1).bind fun zx2 =>
  if p1 < 0 then
    some ((-1 : Int32), ce, 0, 0)
  else
    (gA ce 6 14 zx2).bind fun zx7 =>
    (gI ce 2 3 zx7).bind fun zx8 =>
    if zx8 ≤ p1 then
      some ((-1 : Int32), ce, 0, 0)
    else
      (rcv ce 8 this).bind fun zz13 =>
      (m_X11_judged ce this (0 : Int32)).bind fun zx14 =>
      if zx14 = 0 then
        (gA ce 8 6 this).bind fun zx15 =>
        (rcv ce 7 zx15).bind fun zz16 =>
        adcB (m_X10_remember nx ce zx15) fun zq17 =>
        (rcv zq17.2.1 6 zx2).bind fun zz19 =>
        (m_X8_loosenClaim zq17.2.1 zx2 p1).bind fun zq20 =>
        (m_X3_maskOf zq20.1).bind fun zx21 =>
        some (zx21, zq20.2, 0, 0)
      else
        some ((-1 : Int32), ce, 0, 0)
set_option maxRecDepth 100000 in
set_option maxHeartbeats 4000000 in
theorem c_X11_loosen {nx : Nat} {ce : Ce} {this : Nat} {p1 : Int32} {q : Int32 × Ce × Nat × Nat} (hr : m_X11_loosen nx ce this p1 = some q) : Ct yX11_loosen cX11_loosen 3 (some .int) 6 166 q.2.2.1 q.2.2.2 [.ref this, .int p1] nx ce (some (.int q.1)) q.2.1 := by
  unfold m_X11_loosen at hr
  refine ct_of (by decide) (Nat.le_of_ble_eq_true rfl) ?_
  intro G C hq hret hin
  show Jd G q.2.2.1 q.2.2.2 nx ce 0 [(0, .ref this), (1, .int p1)] []
  refine j_aload_n (q := 0) (pc' := 1) C dX11_loosen_0 rfl rfl rfl ?_
  obtain ⟨zx1, hzx1, hr⟩ := ob hr
  refine j_getA (pc' := 4) C dX11_loosen_1 fl_X11_35 hzx1 rfl ?_
  obtain ⟨zx2, hzx2, hr⟩ := ob hr
  refine j_getA (pc' := 7) C dX11_loosen_4 fl_X11_112 hzx2 rfl ?_
  refine j_astore_n (lv' := [(2, .ref zx2), (0, .ref this), (1, .int p1)]) (pc' := 8) C dX11_loosen_7 rfl (by decide) rfl rfl ?_
  refine j_iload_n (q := 2) (pc' := 9) C dX11_loosen_8 rfl rfl rfl ?_
  refine j_if_lt (tgt := 31) (pc' := 12) C dX11_loosen_9 rfl rfl (fun hc => ?_) (fun hc => ?_)
  · have hr := ifT hc hr
    clear hc
    refine j_iconst (v := -1) (pc' := 32) C dX11_loosen_31 kI_m1 rfl ?_
    obtain ⟨azf3, bzf4, czf5, dzf6⟩ := some4 hr
    refine j_k (kc' := 0) (ks' := 0) (by omega) (by omega) ?_
    rw [show nx + q.2.2.1 = nx by omega, bzf4, azf3] at hq
    exact j_iret C hq hret dX11_loosen_32
  · have hr := ifF hc hr
    clear hc
    refine j_iload_n (q := 2) (pc' := 13) C dX11_loosen_12 rfl rfl rfl ?_
    refine j_aload_n (q := 0) (pc' := 14) C dX11_loosen_13 rfl rfl rfl ?_
    obtain ⟨zx7, hzx7, hr⟩ := ob hr
    refine j_getA (pc' := 17) C dX11_loosen_14 fl_X11_358 hzx7 rfl ?_
    obtain ⟨zx8, hzx8, hr⟩ := ob hr
    refine j_getI (pc' := 20) C dX11_loosen_17 fl_X11_294 hzx8 rfl ?_
    refine j_ic_ge (tgt := 31) (pc' := 23) C dX11_loosen_20 rfl rfl (fun hc => ?_) (fun hc => ?_)
    · have hr := ifT hc hr
      clear hc
      refine j_iconst (v := -1) (pc' := 32) C dX11_loosen_31 kI_m1 rfl ?_
      obtain ⟨azf9, bzf10, czf11, dzf12⟩ := some4 hr
      refine j_k (kc' := 0) (ks' := 0) (by omega) (by omega) ?_
      rw [show nx + q.2.2.1 = nx by omega, bzf10, azf9] at hq
      exact j_iret C hq hret dX11_loosen_32
    · have hr := ifF hc hr
      clear hc
      refine j_aload_n (q := 1) (pc' := 24) C dX11_loosen_23 rfl rfl rfl ?_
      refine j_iconst (v := 0) (pc' := 25) C dX11_loosen_24 kI_0 rfl ?_
      obtain ⟨zz13, hzz13, hr⟩ := ob hr
      obtain ⟨zx14, hzx14, hr⟩ := ob hr
      obtain ⟨fhzz13, hzz13⟩ := rcv_sp hzz13
      refine j_callV (ci := 8) (As := [.int (0 : Int32)]) (rest := []) (st1 := [.int zx14]) (pc' := 28) C ⟨wm_1264, wm_1265⟩ rfl hzz13 (c_X11_judged (nx := nx) hzx14) yw_X11_judged wm_1263 rfl rfl (Nat.le_of_ble_eq_true rfl) ⟨by decide, by decide⟩ dX11_loosen_25 rfl rfl ?_
      refine j_if_eq (tgt := 33) (pc' := 31) C dX11_loosen_28 rfl rfl (fun hc => ?_) (fun hc => ?_)
      · have hr := ifT hc hr
        clear hc
        refine j_aload_n (q := 1) (pc' := 34) C dX11_loosen_33 rfl rfl rfl ?_
        obtain ⟨zx15, hzx15, hr⟩ := ob hr
        refine j_getA (pc' := 37) C dX11_loosen_34 fl_X11_35 hzx15 rfl ?_
        obtain ⟨zz16, hzz16, hr⟩ := ob hr
        obtain ⟨zq17, zt18, hzq17, hr, azt18, bzt18, czt18, dzt18⟩ := adcB_s hr
        refine j_k (kc' := zt18.2.2.1 + zq17.2.2.1) (ks' := zt18.2.2.2 + zq17.2.2.2) (by omega) (by omega) ?_
        obtain ⟨fhzz16, hzz16⟩ := rcv_sp hzz16
        refine j_callVA (ci := 7) (As := []) (rest := []) (st1 := []) (pc' := 40) C ⟨wm_727, wm_728⟩ rfl hzz16 (c_X10_remember hzq17) yw_X10_remember wm_726 rfl rfl (Nat.le_of_ble_eq_true rfl) ⟨by decide, by decide⟩ dX11_loosen_37 rfl rfl ?_
        refine j_aload_n (q := 0) (pc' := 41) C dX11_loosen_40 rfl rfl rfl ?_
        refine j_iload_n (q := 2) (pc' := 42) C dX11_loosen_41 rfl rfl rfl ?_
        obtain ⟨zz19, hzz19, hr⟩ := ob hr
        obtain ⟨zq20, hzq20, hr⟩ := ob hr
        obtain ⟨fhzz19, hzz19⟩ := rcv_sp hzz19
        refine j_callV (ci := 6) (As := [.int p1]) (rest := []) (st1 := [.int zq20.1]) (pc' := 45) C ⟨wm_1281, wm_1282⟩ rfl hzz19 (c_X8_loosenClaim (nx := (nx + zq17.2.2.1)) hzq20) yw_X8_loosenClaim wm_1280 rfl rfl (Nat.le_of_ble_eq_true rfl) ⟨by decide, by decide⟩ dX11_loosen_42 rfl rfl ?_
        obtain ⟨zx21, hzx21, hr⟩ := ob hr
        refine j_callS (As := [.int zq20.1]) (rest := []) (st1 := [.int zx21]) (pc' := 48) C wm_833 (c_X3_maskOf (nx := (nx + zq17.2.2.1)) (ce := zq20.2) hzx21) yw_X3_maskOf wm_1098 rfl rfl (Nat.le_of_ble_eq_true rfl) ⟨by decide, by decide⟩ dX11_loosen_45 rfl rfl ?_
        obtain ⟨azf22, bzf23, czf24, dzf25⟩ := some4 hr
        refine j_k (kc' := 0) (ks' := 0) (by omega) (by omega) ?_
        rw [show nx + q.2.2.1 = (nx + zq17.2.2.1) by omega, (bzt18.trans bzf23), (azt18.trans azf22)] at hq
        exact j_iret C hq hret dX11_loosen_48
      · have hr := ifF hc hr
        clear hc
        refine j_iconst (v := -1) (pc' := 32) C dX11_loosen_31 kI_m1 rfl ?_
        obtain ⟨azf26, bzf27, czf28, dzf29⟩ := some4 hr
        refine j_k (kc' := 0) (ks' := 0) (by omega) (by omega) ?_
        rw [show nx + q.2.2.1 = nx by omega, bzf27, azf26] at hq
        exact j_iret C hq hret dX11_loosen_32
def m_X11_claimed (ce : Ce) (this : Nat) (p1 : Int32) (p2 : Int32) : Option (Int32) :=
  (gA ce 8 6 this).bind fun zx1 =>
  (gA ce 7 4 zx1).bind fun zx2 =>
  (gA ce 6 14 zx2).bind fun zx3 =>
  (gI ce 2 3 zx3).bind fun zx4 =>
  (m_X11_cubePart ce zx3 (0 : Int32) zx4 p1 p2).bind fun zx5 =>
  some zx5
set_option maxRecDepth 100000 in
set_option maxHeartbeats 4000000 in
theorem c_X11_claimed {nx : Nat} {ce : Ce} {this : Nat} {p1 : Int32} {p2 : Int32} {q : Int32} (hr : m_X11_claimed ce this p1 p2 = some q) : Ct yX11_claimed cX11_claimed 4 (some .int) 2 45 0 0 [.ref this, .int p1, .int p2] nx ce (some (.int q)) ce := by
  unfold m_X11_claimed at hr
  refine ct_of (by decide) (Nat.le_of_ble_eq_true rfl) ?_
  intro G C hq hret hin
  show Jd G 0 0 nx ce 0 [(0, .ref this), (1, .int p1), (2, .int p2)] []
  refine j_aload_n (q := 0) (pc' := 1) C dX11_claimed_0 rfl rfl rfl ?_
  obtain ⟨zx1, hzx1, hr⟩ := ob hr
  refine j_getA (pc' := 4) C dX11_claimed_1 fl_X11_35 hzx1 rfl ?_
  obtain ⟨zx2, hzx2, hr⟩ := ob hr
  refine j_getA (pc' := 7) C dX11_claimed_4 fl_X11_112 hzx2 rfl ?_
  obtain ⟨zx3, hzx3, hr⟩ := ob hr
  refine j_getA (pc' := 10) C dX11_claimed_7 fl_X11_358 hzx3 rfl ?_
  refine j_astore_n (lv' := [(3, .ref zx3), (0, .ref this), (1, .int p1), (2, .int p2)]) (pc' := 11) C dX11_claimed_10 rfl (by decide) rfl rfl ?_
  refine j_aload_n (q := 0) (pc' := 12) C dX11_claimed_11 rfl rfl rfl ?_
  refine j_iconst (v := 0) (pc' := 13) C dX11_claimed_12 kI_0 rfl ?_
  refine j_aload_n (q := 0) (pc' := 14) C dX11_claimed_13 rfl rfl rfl ?_
  obtain ⟨zx4, hzx4, hr⟩ := ob hr
  refine j_getI (pc' := 17) C dX11_claimed_14 fl_X11_294 hzx4 rfl ?_
  refine j_iload_n (q := 2) (pc' := 18) C dX11_claimed_17 rfl rfl rfl ?_
  refine j_iload_n (q := 3) (pc' := 19) C dX11_claimed_18 rfl rfl rfl ?_
  obtain ⟨zx5, hzx5, hr⟩ := ob hr
  refine j_callS (As := [.ref zx3, .int (0 : Int32), .int zx4, .int p1, .int p2]) (rest := []) (st1 := [.int zx5]) (pc' := 22) C wm_1095 (c_X11_cubePart (nx := nx) hzx5) yw_X11_cubePart wm_1094 rfl rfl (Nat.le_of_ble_eq_true rfl) ⟨by decide, by decide⟩ dX11_claimed_19 rfl rfl ?_
  have hr := Option.some.inj hr
  subst hr
  exact j_iret C hq hret dX11_claimed_22
def m_X11_witness (ce : Ce) (this : Nat) (p1 : Int32) : Option (Int32) :=
  (rcv ce 8 this).bind fun zz1 =>
  (m_X11_rowOf ce this p1).bind fun zx2 =>
  match zx2 with
  | none =>
    some (-1 : Int32)
  | some za3 =>
    (gA ce 8 6 this).bind fun zx4 =>
    (gA ce 7 4 zx4).bind fun zx5 =>
    (rcv ce 8 this).bind fun zz6 =>
    (m_X11_startIn ce this p1).bind fun zx7 =>
    (rcv ce 2 za3).bind fun zz8 =>
    (m_X2_unionFrom ce za3 zx7).bind fun zx9 =>
    (rcv ce 6 zx5).bind fun zz10 =>
    (m_X8_witnessOf ce zx5 zx9).bind fun zx11 =>
    some zx11
set_option maxRecDepth 100000 in
set_option maxHeartbeats 4000000 in
theorem c_X11_witness {nx : Nat} {ce : Ce} {this : Nat} {p1 : Int32} {q : Int32} (hr : m_X11_witness ce this p1 = some q) : Ct yX11_witness cX11_witness 3 (some .int) 4 86 0 0 [.ref this, .int p1] nx ce (some (.int q)) ce := by
  unfold m_X11_witness at hr
  refine ct_of (by decide) (Nat.le_of_ble_eq_true rfl) ?_
  intro G C hq hret hin
  show Jd G 0 0 nx ce 0 [(0, .ref this), (1, .int p1)] []
  refine j_aload_n (q := 0) (pc' := 1) C dX11_witness_0 rfl rfl rfl ?_
  refine j_iload_n (q := 1) (pc' := 2) C dX11_witness_1 rfl rfl rfl ?_
  obtain ⟨zz1, hzz1, hr⟩ := ob hr
  obtain ⟨zx2, hzx2, hr⟩ := ob hr
  obtain ⟨fhzz1, hzz1⟩ := rcv_sp hzz1
  refine j_callV (ci := 8) (As := [.int p1]) (rest := []) (st1 := [va_rf zx2]) (pc' := 5) C ⟨wm_1269, wm_32⟩ rfl hzz1 (c_X11_rowOf (nx := nx) hzx2) yw_X11_rowOf wm_1267 rfl rfl (Nat.le_of_ble_eq_true rfl) ⟨by decide, by decide⟩ dX11_witness_2 rfl rfl ?_
  refine j_qstore_n (lv' := [(2, va_rf zx2), (0, .ref this), (1, .int p1)]) (pc' := 6) C dX11_witness_5 rfl (by decide) rfl rfl ?_
  refine j_qload_n (q := 0) (pc' := 7) C dX11_witness_6 rfl rfl rfl ?_
  refine j_ifnonnull (tgt := 14) (pc' := 10) C dX11_witness_7 rfl rfl (fun za3 hc => ?_) (fun hc => ?_)
  · subst hc
    refine j_aload_n (q := 1) (pc' := 15) C dX11_witness_14 rfl rfl rfl ?_
    obtain ⟨zx4, hzx4, hr⟩ := ob hr
    refine j_getA (pc' := 18) C dX11_witness_15 fl_X11_35 hzx4 rfl ?_
    obtain ⟨zx5, hzx5, hr⟩ := ob hr
    refine j_getA (pc' := 21) C dX11_witness_18 fl_X11_112 hzx5 rfl ?_
    refine j_aload_n (q := 0) (pc' := 22) C dX11_witness_21 rfl rfl rfl ?_
    refine j_aload_n (q := 1) (pc' := 23) C dX11_witness_22 rfl rfl rfl ?_
    refine j_iload_n (q := 2) (pc' := 24) C dX11_witness_23 rfl rfl rfl ?_
    obtain ⟨zz6, hzz6, hr⟩ := ob hr
    obtain ⟨zx7, hzx7, hr⟩ := ob hr
    obtain ⟨fhzz6, hzz6⟩ := rcv_sp hzz6
    refine j_callV (ci := 8) (As := [.int p1]) (rest := [.ref za3, .ref zx5]) (st1 := [.int zx7, .ref za3, .ref zx5]) (pc' := 27) C ⟨wm_1273, wm_33⟩ rfl hzz6 (c_X11_startIn (nx := nx) hzx7) yw_X11_startIn wm_1271 rfl rfl (Nat.le_of_ble_eq_true rfl) ⟨by decide, by decide⟩ dX11_witness_24 rfl rfl ?_
    obtain ⟨zz8, hzz8, hr⟩ := ob hr
    obtain ⟨zx9, hzx9, hr⟩ := ob hr
    obtain ⟨fhzz8, hzz8⟩ := rcv_sp hzz8
    refine j_callV (ci := 2) (As := [.int zx7]) (rest := [.ref zx5]) (st1 := [.long zx9, .ref zx5]) (pc' := 30) C ⟨wm_849, wm_850⟩ rfl hzz8 (c_X2_unionFrom (nx := nx) hzx9) yw_X2_unionFrom wm_1275 rfl rfl (Nat.le_of_ble_eq_true rfl) ⟨by decide, by decide⟩ dX11_witness_27 rfl rfl ?_
    obtain ⟨zz10, hzz10, hr⟩ := ob hr
    obtain ⟨zx11, hzx11, hr⟩ := ob hr
    obtain ⟨fhzz10, hzz10⟩ := rcv_sp hzz10
    refine j_callV (ci := 6) (As := [.long zx9]) (rest := []) (st1 := [.int zx11]) (pc' := 33) C ⟨wm_1303, wm_1304⟩ rfl hzz10 (c_X8_witnessOf (nx := nx) hzx11) yw_X8_witnessOf wm_1302 rfl rfl (Nat.le_of_ble_eq_true rfl) ⟨by decide, by decide⟩ dX11_witness_30 rfl rfl ?_
    have hr := Option.some.inj hr
    subst hr
    exact j_iret C hq hret dX11_witness_33
  · subst hc
    refine j_iconst (v := -1) (pc' := 11) C dX11_witness_10 kI_m1 rfl ?_
    refine j_goto (tgt := 33) C dX11_witness_11 rfl ?_
    have hr := Option.some.inj hr
    subst hr
    exact j_iret C hq hret dX11_witness_33
def m_X11_leaveOut (ce : Ce) (this : Nat) (p1 : Nat) : Option (Int32 × Ce) :=
  (gI ce 2 3 p1).bind fun zx1 =>
  (it (fun (zs2 : (Int32 × Int32) × Ce) =>
    if zx1 ≤ zs2.1.2 then
      some (Sum.inr ((), zs2.2))
    else
      (gA zs2.2 8 6 this).bind fun zx6 =>
      (gA zs2.2 7 4 zx6).bind fun zx7 =>
      (rcv zs2.2 2 p1).bind fun zz8 =>
      (m_X2_unionBut zs2.2 p1 zs2.1.1).bind fun zx9 =>
      (rcv zs2.2 6 zx7).bind fun zz10 =>
      (m_X8_judgementOf zs2.2 zx7 zx9).bind fun zx11 =>
      if zx11 = 0 then
        (rcv zs2.2 2 p1).bind fun zz12 =>
        (m_X2_removeAt zs2.2 p1 zs2.1.1).bind fun zq13 =>
        some (Sum.inl ((zs2.1.1, (zs2.1.2 + (1 : Int32))), zq13.2))
      else
        some (Sum.inl (((zs2.1.1 + (1 : Int32)), (zs2.1.2 + (1 : Int32))), zs2.2))
  ) FU (((0 : Int32), (0 : Int32)), ce)).bind fun (zo3 : Unit × Ce) =>
  (gI zo3.2 2 3 p1).bind fun zx5 =>
  some ((zx1 - zx5), zo3.2)
set_option maxRecDepth 100000 in
set_option maxHeartbeats 4000000 in
theorem c_X11_leaveOut {nx : Nat} {ce : Ce} {this : Nat} {p1 : Nat} {q : Int32 × Ce} (hr : m_X11_leaveOut ce this p1 = some q) : Ct yX11_leaveOut cX11_leaveOut 5 (some .int) 3 82 0 0 [.ref this, .ref p1] nx ce (some (.int q.1)) q.2 := by
  unfold m_X11_leaveOut at hr
  refine ct_of (by decide) (Nat.le_of_ble_eq_true rfl) ?_
  intro G C hq hret hin
  show Jd G 0 0 nx ce 0 [(0, .ref this), (1, .ref p1)] []
  refine j_aload_n (q := 1) (pc' := 1) C dX11_leaveOut_0 rfl rfl rfl ?_
  obtain ⟨zx1, hzx1, hr⟩ := ob hr
  refine j_getI (pc' := 4) C dX11_leaveOut_1 fl_X11_294 hzx1 rfl ?_
  refine j_istore_n (lv' := [(2, .int zx1), (0, .ref this), (1, .ref p1)]) (pc' := 5) C dX11_leaveOut_4 rfl (by decide) rfl rfl ?_
  refine j_iconst (v := 0) (pc' := 6) C dX11_leaveOut_5 kI_0 rfl ?_
  refine j_istore_n (lv' := [(3, .int (0 : Int32)), (2, .int zx1), (0, .ref this), (1, .ref p1)]) (pc' := 7) C dX11_leaveOut_6 rfl (by decide) rfl rfl ?_
  refine j_iconst (v := 0) (pc' := 8) C dX11_leaveOut_7 kI_0 rfl ?_
  refine j_istore (lv' := [(4, .int (0 : Int32)), (3, .int (0 : Int32)), (2, .int zx1), (0, .ref this), (1, .ref p1)]) (pc' := 10) C dX11_leaveOut_8 (by decide) rfl rfl ?_
  obtain ⟨zo3, hzo3, rzo3⟩ := ob hr
  have kzo3 : Jd G 0 0 nx zo3.2 51 [(1, .ref p1), (2, .int zx1)] [] := by
    have hr := rzo3
    refine j_iload_n (q := 1) (pc' := 52) C dX11_leaveOut_51 rfl rfl rfl ?_
    refine j_aload_n (q := 0) (pc' := 53) C dX11_leaveOut_52 rfl rfl rfl ?_
    obtain ⟨zx5, hzx5, hr⟩ := ob hr
    refine j_getI (pc' := 56) C dX11_leaveOut_53 fl_X11_294 hzx5 rfl ?_
    refine j_isub (pc' := 57) C dX11_leaveOut_56 rfl ?_
    have hr := Option.some.inj hr
    subst hr
    exact j_iret C hq hret dX11_leaveOut_57
  refine j_lv (lv' := [(0, .ref this), (1, .ref p1), (2, .int zx1), (3, .int (0 : Int32)), (4, .int (0 : Int32))]) [3, 4, 2, 1, 0] rfl ?_
  refine it_J (J := (fun (zs2 : (Int32 × Int32) × Ce) => Jd G 0 0 nx zs2.2 10 [(0, .ref this), (1, .ref p1), (2, .int zx1), (3, .int zs2.1.1), (4, .int zs2.1.2)] [])) ?_ hzo3
  clear hzo3
  intro zs2 zr4 hr izs2 ezs2
  refine j_iload (q := 4) (pc' := 12) C dX11_leaveOut_10 rfl rfl ?_
  refine j_iload_n (q := 2) (pc' := 13) C dX11_leaveOut_12 rfl rfl rfl ?_
  refine j_ic_ge (tgt := 51) (pc' := 16) C dX11_leaveOut_13 rfl rfl (fun hc => ?_) (fun hc => ?_)
  · have hr := ifT hc hr
    clear hc
    have hr := ezs2 _ (Option.some.inj hr).symm
    subst hr
    exact j_lv [1, 2] rfl kzo3
  · have hr := ifF hc hr
    clear hc
    refine j_aload_n (q := 0) (pc' := 17) C dX11_leaveOut_16 rfl rfl rfl ?_
    obtain ⟨zx6, hzx6, hr⟩ := ob hr
    refine j_getA (pc' := 20) C dX11_leaveOut_17 fl_X11_35 hzx6 rfl ?_
    obtain ⟨zx7, hzx7, hr⟩ := ob hr
    refine j_getA (pc' := 23) C dX11_leaveOut_20 fl_X11_112 hzx7 rfl ?_
    refine j_aload_n (q := 1) (pc' := 24) C dX11_leaveOut_23 rfl rfl rfl ?_
    refine j_iload_n (q := 3) (pc' := 25) C dX11_leaveOut_24 rfl rfl rfl ?_
    obtain ⟨zz8, hzz8, hr⟩ := ob hr
    obtain ⟨zx9, hzx9, hr⟩ := ob hr
    obtain ⟨fhzz8, hzz8⟩ := rcv_sp hzz8
    refine j_callV (ci := 2) (As := [.int zs2.1.1]) (rest := [.ref zx7]) (st1 := [.long zx9, .ref zx7]) (pc' := 28) C ⟨wm_1285, wm_1286⟩ rfl hzz8 (c_X2_unionBut (nx := nx) hzx9) yw_X2_unionBut wm_1314 rfl rfl (Nat.le_of_ble_eq_true rfl) ⟨by decide, by decide⟩ dX11_leaveOut_25 rfl rfl ?_
    obtain ⟨zz10, hzz10, hr⟩ := ob hr
    obtain ⟨zx11, hzx11, hr⟩ := ob hr
    obtain ⟨fhzz10, hzz10⟩ := rcv_sp hzz10
    refine j_callV (ci := 6) (As := [.long zx9]) (rest := []) (st1 := [.int zx11]) (pc' := 31) C ⟨wm_1277, wm_1278⟩ rfl hzz10 (c_X8_judgementOf (nx := nx) hzx11) yw_X8_judgementOf wm_1276 rfl rfl (Nat.le_of_ble_eq_true rfl) ⟨by decide, by decide⟩ dX11_leaveOut_28 rfl rfl ?_
    refine j_if_ne (tgt := 42) (pc' := 34) C dX11_leaveOut_31 rfl rfl (fun hc => ?_) (fun hc => ?_)
    · have hr := ifF hc hr
      clear hc
      refine j_iinc (q := 3) (v := 1) (lv' := [(3, .int (zs2.1.1 + (1 : Int32))), (0, .ref this), (1, .ref p1), (2, .int zx1), (4, .int zs2.1.2)]) (pc' := 45) C dX11_leaveOut_42 rfl kI_1 (by decide) rfl rfl ?_
      refine j_iinc (q := 4) (v := 1) (lv' := [(4, .int (zs2.1.2 + (1 : Int32))), (3, .int (zs2.1.1 + (1 : Int32))), (0, .ref this), (1, .ref p1), (2, .int zx1)]) (pc' := 48) C dX11_leaveOut_45 rfl kI_1 (by decide) rfl rfl ?_
      refine j_goto (tgt := 10) C dX11_leaveOut_48 rfl ?_
      have hr := izs2 (((zs2.1.1 + (1 : Int32)), (zs2.1.2 + (1 : Int32))), zs2.2) (Option.some.inj hr).symm
      exact j_lv [2, 3, 4, 1, 0] rfl hr
    · have hr := ifT hc hr
      clear hc
      refine j_aload_n (q := 1) (pc' := 35) C dX11_leaveOut_34 rfl rfl rfl ?_
      refine j_iload_n (q := 3) (pc' := 36) C dX11_leaveOut_35 rfl rfl rfl ?_
      obtain ⟨zz12, hzz12, hr⟩ := ob hr
      obtain ⟨zq13, hzq13, hr⟩ := ob hr
      obtain ⟨fhzz12, hzz12⟩ := rcv_sp hzz12
      refine j_callV (ci := 2) (As := [.int zs2.1.1]) (rest := []) (st1 := []) (pc' := 39) C ⟨wm_1256, wm_1257⟩ rfl hzz12 (c_X2_removeAt (nx := nx) hzq13) yw_X2_removeAt wm_1255 rfl rfl (Nat.le_of_ble_eq_true rfl) ⟨by decide, by decide⟩ dX11_leaveOut_36 rfl rfl ?_
      refine j_goto (tgt := 45) C dX11_leaveOut_39 rfl ?_
      refine j_iinc (q := 4) (v := 1) (lv' := [(4, .int (zs2.1.2 + (1 : Int32))), (0, .ref this), (1, .ref p1), (2, .int zx1), (3, .int zs2.1.1)]) (pc' := 48) C dX11_leaveOut_45 rfl kI_1 (by decide) rfl rfl ?_
      refine j_goto (tgt := 10) C dX11_leaveOut_48 rfl ?_
      have hr := izs2 ((zs2.1.1, (zs2.1.2 + (1 : Int32))), zq13.2) (Option.some.inj hr).symm
      exact j_lv [1, 2, 3, 4, 0] rfl hr
def m_X11_spare (nx : Nat) (ce : Ce) (this : Nat) (p1 : Int32) : Option (Int32 × Ce × Nat × Nat) :=
  if p1 = (2 : Int32) then
    some ((-1 : Int32), ce, 0, 0)
  else
    (rcv ce 8 this).bind fun zz5 =>
    (m_X11_judged ce this p1).bind fun zx6 =>
    if zx6 = 0 then
      (gA ce 8 9 this).bind fun zx7 =>
      (rcv ce 8 this).bind fun zz8 =>
      (m_X11_rowOf ce this p1).bind fun zx9 =>
      (rcv ce 8 this).bind fun zz10 =>
      (m_X11_startIn ce this p1).bind fun zx11 =>
      (rcv ce 2 zx7).bind fun zz12 =>
      adcB (m_X2_takeFrom nx ce zx7 zx9 zx11) fun zq13 =>
      (gA zq13.2.1 8 9 this).bind fun zx15 =>
      (rcv zq13.2.1 8 this).bind fun zz16 =>
      (m_X11_leaveOut zq13.2.1 this zx15).bind fun zq17 =>
      some (zq17.1, zq17.2, 0, 0)
    else
      some ((-1 : Int32), ce, 0, 0)
set_option maxRecDepth 100000 in
set_option maxHeartbeats 4000000 in
theorem c_X11_spare {nx : Nat} {ce : Ce} {this : Nat} {p1 : Int32} {q : Int32 × Ce × Nat × Nat} (hr : m_X11_spare nx ce this p1 = some q) : Ct yX11_spare cX11_spare 2 (some .int) 6 170 q.2.2.1 q.2.2.2 [.ref this, .int p1] nx ce (some (.int q.1)) q.2.1 := by
  unfold m_X11_spare at hr
  refine ct_of (by decide) (Nat.le_of_ble_eq_true rfl) ?_
  intro G C hq hret hin
  show Jd G q.2.2.1 q.2.2.2 nx ce 0 [(0, .ref this), (1, .int p1)] []
  refine j_iload_n (q := 1) (pc' := 1) C dX11_spare_0 rfl rfl rfl ?_
  refine j_iconst (v := 2) (pc' := 2) C dX11_spare_1 kI_2 rfl ?_
  refine j_ic_eq (tgt := 13) (pc' := 5) C dX11_spare_2 rfl rfl (fun hc => ?_) (fun hc => ?_)
  · have hr := ifT hc hr
    clear hc
    refine j_iconst (v := -1) (pc' := 14) C dX11_spare_13 kI_m1 rfl ?_
    obtain ⟨azf1, bzf2, czf3, dzf4⟩ := some4 hr
    refine j_k (kc' := 0) (ks' := 0) (by omega) (by omega) ?_
    rw [show nx + q.2.2.1 = nx by omega, bzf2, azf1] at hq
    exact j_iret C hq hret dX11_spare_14
  · have hr := ifF hc hr
    clear hc
    refine j_aload_n (q := 0) (pc' := 6) C dX11_spare_5 rfl rfl rfl ?_
    refine j_iload_n (q := 1) (pc' := 7) C dX11_spare_6 rfl rfl rfl ?_
    obtain ⟨zz5, hzz5, hr⟩ := ob hr
    obtain ⟨zx6, hzx6, hr⟩ := ob hr
    obtain ⟨fhzz5, hzz5⟩ := rcv_sp hzz5
    refine j_callV (ci := 8) (As := [.int p1]) (rest := []) (st1 := [.int zx6]) (pc' := 10) C ⟨wm_1264, wm_1265⟩ rfl hzz5 (c_X11_judged (nx := nx) hzx6) yw_X11_judged wm_1263 rfl rfl (Nat.le_of_ble_eq_true rfl) ⟨by decide, by decide⟩ dX11_spare_7 rfl rfl ?_
    refine j_if_eq (tgt := 15) (pc' := 13) C dX11_spare_10 rfl rfl (fun hc => ?_) (fun hc => ?_)
    · have hr := ifT hc hr
      clear hc
      refine j_aload_n (q := 0) (pc' := 16) C dX11_spare_15 rfl rfl rfl ?_
      obtain ⟨zx7, hzx7, hr⟩ := ob hr
      refine j_getA (pc' := 19) C dX11_spare_16 fl_X11_52 hzx7 rfl ?_
      refine j_aload_n (q := 0) (pc' := 20) C dX11_spare_19 rfl rfl rfl ?_
      refine j_iload_n (q := 1) (pc' := 21) C dX11_spare_20 rfl rfl rfl ?_
      obtain ⟨zz8, hzz8, hr⟩ := ob hr
      obtain ⟨zx9, hzx9, hr⟩ := ob hr
      obtain ⟨fhzz8, hzz8⟩ := rcv_sp hzz8
      refine j_callV (ci := 8) (As := [.int p1]) (rest := [.ref zx7]) (st1 := [va_rf zx9, .ref zx7]) (pc' := 24) C ⟨wm_1269, wm_32⟩ rfl hzz8 (c_X11_rowOf (nx := nx) hzx9) yw_X11_rowOf wm_1267 rfl rfl (Nat.le_of_ble_eq_true rfl) ⟨by decide, by decide⟩ dX11_spare_21 rfl rfl ?_
      refine j_aload_n (q := 0) (pc' := 25) C dX11_spare_24 rfl rfl rfl ?_
      refine j_iload_n (q := 1) (pc' := 26) C dX11_spare_25 rfl rfl rfl ?_
      obtain ⟨zz10, hzz10, hr⟩ := ob hr
      obtain ⟨zx11, hzx11, hr⟩ := ob hr
      obtain ⟨fhzz10, hzz10⟩ := rcv_sp hzz10
      refine j_callV (ci := 8) (As := [.int p1]) (rest := [va_rf zx9, .ref zx7]) (st1 := [.int zx11, va_rf zx9, .ref zx7]) (pc' := 29) C ⟨wm_1273, wm_33⟩ rfl hzz10 (c_X11_startIn (nx := nx) hzx11) yw_X11_startIn wm_1271 rfl rfl (by cases zx9 <;> exact Nat.le_of_ble_eq_true rfl) ⟨by decide, by decide⟩ dX11_spare_26 rfl rfl ?_
      obtain ⟨zz12, hzz12, hr⟩ := ob hr
      obtain ⟨zq13, zt14, hzq13, hr, azt14, bzt14, czt14, dzt14⟩ := adcB_s hr
      refine j_k (kc' := zt14.2.2.1 + zq13.2.2.1) (ks' := zt14.2.2.2 + zq13.2.2.2) (by omega) (by omega) ?_
      obtain ⟨fhzz12, hzz12⟩ := rcv_sp hzz12
      refine j_callVA (ci := 2) (As := [va_rf zx9, .int zx11]) (rest := []) (st1 := []) (pc' := 32) C ⟨wm_1246, wm_1247⟩ rfl hzz12 (c_X2_takeFrom hzq13) yw_X2_takeFrom wm_1245 rfl rfl (Nat.le_of_ble_eq_true rfl) ⟨by decide, by decide⟩ dX11_spare_29 rfl rfl ?_
      refine j_aload_n (q := 0) (pc' := 33) C dX11_spare_32 rfl rfl rfl ?_
      refine j_aload_n (q := 0) (pc' := 34) C dX11_spare_33 rfl rfl rfl ?_
      obtain ⟨zx15, hzx15, hr⟩ := ob hr
      refine j_getA (pc' := 37) C dX11_spare_34 fl_X11_52 hzx15 rfl ?_
      obtain ⟨zz16, hzz16, hr⟩ := ob hr
      obtain ⟨zq17, hzq17, hr⟩ := ob hr
      obtain ⟨fhzz16, hzz16⟩ := rcv_sp hzz16
      refine j_callV (ci := 8) (As := [.ref zx15]) (rest := []) (st1 := [.int zq17.1]) (pc' := 40) C ⟨wm_1312, wm_34⟩ rfl hzz16 (c_X11_leaveOut (nx := (nx + zq13.2.2.1)) hzq17) yw_X11_leaveOut wm_1310 rfl rfl (Nat.le_of_ble_eq_true rfl) ⟨by decide, by decide⟩ dX11_spare_37 rfl rfl ?_
      obtain ⟨azf18, bzf19, czf20, dzf21⟩ := some4 hr
      refine j_k (kc' := 0) (ks' := 0) (by omega) (by omega) ?_
      rw [show nx + q.2.2.1 = (nx + zq13.2.2.1) by omega, (bzt14.trans bzf19), (azt14.trans azf18)] at hq
      exact j_iret C hq hret dX11_spare_40
    · have hr := ifF hc hr
      clear hc
      refine j_iconst (v := -1) (pc' := 14) C dX11_spare_13 kI_m1 rfl ?_
      obtain ⟨azf22, bzf23, czf24, dzf25⟩ := some4 hr
      refine j_k (kc' := 0) (ks' := 0) (by omega) (by omega) ?_
      rw [show nx + q.2.2.1 = nx by omega, bzf23, azf22] at hq
      exact j_iret C hq hret dX11_spare_14
def m_X11_chosen (ce : Ce) (this : Nat) (p1 : Int32) : Option (Int32 × Ce) :=
  if p1 = (2 : Int32) then
    some ((-1 : Int32), ce)
  else
    (rcv ce 8 this).bind fun zz1 =>
    (m_X11_judged ce this p1).bind fun zx2 =>
    if zx2 = 0 then
      (gA ce 8 10 this).bind fun zx3 =>
      (rcv ce 8 this).bind fun zz4 =>
      (m_X11_rowOf ce this p1).bind fun zx5 =>
      (rcv ce 8 this).bind fun zz6 =>
      (m_X11_startIn ce this p1).bind fun zx7 =>
      (gA ce 8 6 this).bind fun zx8 =>
      (gA ce 7 4 zx8).bind fun zx9 =>
      (rcv ce 1 zx3).bind fun zz10 =>
      (m_X1_choose ce zx3 zx5 zx7 zx9).bind fun zq11 =>
      some (zq11.1, zq11.2)
    else
      some ((-1 : Int32), ce)
set_option maxRecDepth 100000 in
set_option maxHeartbeats 4000000 in
theorem c_X11_chosen {nx : Nat} {ce : Ce} {this : Nat} {p1 : Int32} {q : Int32 × Ce} (hr : m_X11_chosen ce this p1 = some q) : Ct yX11_chosen cX11_chosen 2 (some .int) 4 94 0 0 [.ref this, .int p1] nx ce (some (.int q.1)) q.2 := by
  unfold m_X11_chosen at hr
  refine ct_of (by decide) (Nat.le_of_ble_eq_true rfl) ?_
  intro G C hq hret hin
  show Jd G 0 0 nx ce 0 [(0, .ref this), (1, .int p1)] []
  refine j_iload_n (q := 1) (pc' := 1) C dX11_chosen_0 rfl rfl rfl ?_
  refine j_iconst (v := 2) (pc' := 2) C dX11_chosen_1 kI_2 rfl ?_
  refine j_ic_eq (tgt := 13) (pc' := 5) C dX11_chosen_2 rfl rfl (fun hc => ?_) (fun hc => ?_)
  · have hr := ifT hc hr
    clear hc
    refine j_iconst (v := -1) (pc' := 14) C dX11_chosen_13 kI_m1 rfl ?_
    have hr := Option.some.inj hr
    subst hr
    exact j_iret C hq hret dX11_chosen_14
  · have hr := ifF hc hr
    clear hc
    refine j_aload_n (q := 0) (pc' := 6) C dX11_chosen_5 rfl rfl rfl ?_
    refine j_iload_n (q := 1) (pc' := 7) C dX11_chosen_6 rfl rfl rfl ?_
    obtain ⟨zz1, hzz1, hr⟩ := ob hr
    obtain ⟨zx2, hzx2, hr⟩ := ob hr
    obtain ⟨fhzz1, hzz1⟩ := rcv_sp hzz1
    refine j_callV (ci := 8) (As := [.int p1]) (rest := []) (st1 := [.int zx2]) (pc' := 10) C ⟨wm_1264, wm_1265⟩ rfl hzz1 (c_X11_judged (nx := nx) hzx2) yw_X11_judged wm_1263 rfl rfl (Nat.le_of_ble_eq_true rfl) ⟨by decide, by decide⟩ dX11_chosen_7 rfl rfl ?_
    refine j_if_eq (tgt := 15) (pc' := 13) C dX11_chosen_10 rfl rfl (fun hc => ?_) (fun hc => ?_)
    · have hr := ifT hc hr
      clear hc
      refine j_aload_n (q := 0) (pc' := 16) C dX11_chosen_15 rfl rfl rfl ?_
      obtain ⟨zx3, hzx3, hr⟩ := ob hr
      refine j_getA (pc' := 19) C dX11_chosen_16 fl_X11_59 hzx3 rfl ?_
      refine j_aload_n (q := 0) (pc' := 20) C dX11_chosen_19 rfl rfl rfl ?_
      refine j_iload_n (q := 1) (pc' := 21) C dX11_chosen_20 rfl rfl rfl ?_
      obtain ⟨zz4, hzz4, hr⟩ := ob hr
      obtain ⟨zx5, hzx5, hr⟩ := ob hr
      obtain ⟨fhzz4, hzz4⟩ := rcv_sp hzz4
      refine j_callV (ci := 8) (As := [.int p1]) (rest := [.ref zx3]) (st1 := [va_rf zx5, .ref zx3]) (pc' := 24) C ⟨wm_1269, wm_32⟩ rfl hzz4 (c_X11_rowOf (nx := nx) hzx5) yw_X11_rowOf wm_1267 rfl rfl (Nat.le_of_ble_eq_true rfl) ⟨by decide, by decide⟩ dX11_chosen_21 rfl rfl ?_
      refine j_aload_n (q := 0) (pc' := 25) C dX11_chosen_24 rfl rfl rfl ?_
      refine j_iload_n (q := 1) (pc' := 26) C dX11_chosen_25 rfl rfl rfl ?_
      obtain ⟨zz6, hzz6, hr⟩ := ob hr
      obtain ⟨zx7, hzx7, hr⟩ := ob hr
      obtain ⟨fhzz6, hzz6⟩ := rcv_sp hzz6
      refine j_callV (ci := 8) (As := [.int p1]) (rest := [va_rf zx5, .ref zx3]) (st1 := [.int zx7, va_rf zx5, .ref zx3]) (pc' := 29) C ⟨wm_1273, wm_33⟩ rfl hzz6 (c_X11_startIn (nx := nx) hzx7) yw_X11_startIn wm_1271 rfl rfl (by cases zx5 <;> exact Nat.le_of_ble_eq_true rfl) ⟨by decide, by decide⟩ dX11_chosen_26 rfl rfl ?_
      refine j_aload_n (q := 0) (pc' := 30) C dX11_chosen_29 rfl rfl rfl ?_
      obtain ⟨zx8, hzx8, hr⟩ := ob hr
      refine j_getA (pc' := 33) C dX11_chosen_30 fl_X11_35 hzx8 rfl ?_
      obtain ⟨zx9, hzx9, hr⟩ := ob hr
      refine j_getA (pc' := 36) C dX11_chosen_33 fl_X11_112 hzx9 rfl ?_
      obtain ⟨zz10, hzz10, hr⟩ := ob hr
      obtain ⟨zq11, hzq11, hr⟩ := ob hr
      obtain ⟨fhzz10, hzz10⟩ := rcv_sp hzz10
      refine j_callV (ci := 1) (As := [va_rf zx5, .int zx7, .ref zx9]) (rest := []) (st1 := [.int zq11.1]) (pc' := 39) C ⟨wm_1324, wm_1325⟩ rfl hzz10 (c_X1_choose (nx := nx) hzq11) yw_X1_choose wm_1323 rfl rfl (Nat.le_of_ble_eq_true rfl) ⟨by decide, by decide⟩ dX11_chosen_36 rfl rfl ?_
      have hr := Option.some.inj hr
      subst hr
      exact j_iret C hq hret dX11_chosen_39
    · have hr := ifF hc hr
      clear hc
      refine j_iconst (v := -1) (pc' := 14) C dX11_chosen_13 kI_m1 rfl ?_
      have hr := Option.some.inj hr
      subst hr
      exact j_iret C hq hret dX11_chosen_14
def m_X11_fewest (ce : Ce) (this : Nat) (p1 : Int32) : Option (Int32 × Ce) :=
  (rcv ce 8 this).bind fun zz1 =>
  (m_X11_chosen ce this p1).bind fun zq2 =>
  if zq2.1 = (-1 : Int32) then
    some ((-1 : Int32), zq2.2)
  else
    (m_J6_bitCount_0f7a4 zq2.1).bind fun zx3 =>
    some (zx3, zq2.2)
set_option maxRecDepth 100000 in
set_option maxHeartbeats 4000000 in
theorem c_X11_fewest {nx : Nat} {ce : Ce} {this : Nat} {p1 : Int32} {q : Int32 × Ce} (hr : m_X11_fewest ce this p1 = some q) : Ct yX11_fewest cX11_fewest 3 (some .int) 5 115 0 0 [.ref this, .int p1] nx ce (some (.int q.1)) q.2 := by
  unfold m_X11_fewest at hr
  refine ct_of (by decide) (Nat.le_of_ble_eq_true rfl) ?_
  intro G C hq hret hin
  show Jd G 0 0 nx ce 0 [(0, .ref this), (1, .int p1)] []
  refine j_aload_n (q := 0) (pc' := 1) C dX11_fewest_0 rfl rfl rfl ?_
  refine j_iload_n (q := 1) (pc' := 2) C dX11_fewest_1 rfl rfl rfl ?_
  obtain ⟨zz1, hzz1, hr⟩ := ob hr
  obtain ⟨zq2, hzq2, hr⟩ := ob hr
  obtain ⟨fhzz1, hzz1⟩ := rcv_sp hzz1
  refine j_callV (ci := 8) (As := [.int p1]) (rest := []) (st1 := [.int zq2.1]) (pc' := 5) C ⟨wm_1320, wm_1321⟩ rfl hzz1 (c_X11_chosen (nx := nx) hzq2) yw_X11_chosen wm_1319 rfl rfl (Nat.le_of_ble_eq_true rfl) ⟨by decide, by decide⟩ dX11_fewest_2 rfl rfl ?_
  refine j_istore_n (lv' := [(2, .int zq2.1), (0, .ref this), (1, .int p1)]) (pc' := 6) C dX11_fewest_5 rfl (by decide) rfl rfl ?_
  refine j_iload_n (q := 0) (pc' := 7) C dX11_fewest_6 rfl rfl rfl ?_
  refine j_iconst (v := -1) (pc' := 8) C dX11_fewest_7 kI_m1 rfl ?_
  refine j_ic_ne (tgt := 15) (pc' := 11) C dX11_fewest_8 rfl rfl (fun hc => ?_) (fun hc => ?_)
  · have hr := ifF hc hr
    clear hc
    refine j_iload_n (q := 0) (pc' := 16) C dX11_fewest_15 rfl rfl rfl ?_
    obtain ⟨zx3, hzx3, hr⟩ := ob hr
    refine j_callS (As := [.int zq2.1]) (rest := []) (st1 := [.int zx3]) (pc' := 19) C wm_1084 (c_J6_bitCount_0f7a4 (nx := nx) (ce := zq2.2) hzx3) yw_J6_bitCount_0f7a4 wm_1346 rfl rfl (Nat.le_of_ble_eq_true rfl) ⟨by decide, by decide⟩ dX11_fewest_16 rfl rfl ?_
    have hr := Option.some.inj hr
    subst hr
    exact j_iret C hq hret dX11_fewest_19
  · have hr := ifT hc hr
    clear hc
    refine j_iconst (v := -1) (pc' := 12) C dX11_fewest_11 kI_m1 rfl ?_
    refine j_goto (tgt := 19) C dX11_fewest_12 rfl ?_
    have hr := Option.some.inj hr
    subst hr
    exact j_iret C hq hret dX11_fewest_19
def m_X11_inside (ce : Ce) (this : Nat) (p1 : Int32) : Option (Int32) :=
  (rcv ce 8 this).bind fun zz1 =>
  (m_X11_rowOf ce this p1).bind fun zx2 =>
  if p1 = (2 : Int32) then
    some (-1 : Int32)
  else
    match zx2 with
    | none =>
      some (-1 : Int32)
    | some za3 =>
      (gA ce 8 6 this).bind fun zx4 =>
      (gA ce 7 4 zx4).bind fun zx5 =>
      (gA ce 6 0 zx5).bind fun zx6 =>
      (gJ ce 3 2 zx6).bind fun zx7 =>
      (rcv ce 8 this).bind fun zz8 =>
      (m_X11_startIn ce this p1).bind fun zx9 =>
      (rcv ce 2 za3).bind fun zz10 =>
      (m_X2_unionFrom ce za3 zx9).bind fun zx11 =>
      (m_J13_bitCount_95d88 (zx7 &&& (zx11 ^^^ (-1 : Int64)))).bind fun zx12 =>
      some zx12
set_option maxRecDepth 100000 in
set_option maxHeartbeats 4000000 in
theorem c_X11_inside {nx : Nat} {ce : Ce} {this : Nat} {p1 : Int32} {q : Int32} (hr : m_X11_inside ce this p1 = some q) : Ct yX11_inside cX11_inside 3 (some .int) 3 63 0 0 [.ref this, .int p1] nx ce (some (.int q)) ce := by
  unfold m_X11_inside at hr
  refine ct_of (by decide) (Nat.le_of_ble_eq_true rfl) ?_
  intro G C hq hret hin
  show Jd G 0 0 nx ce 0 [(0, .ref this), (1, .int p1)] []
  refine j_aload_n (q := 0) (pc' := 1) C dX11_inside_0 rfl rfl rfl ?_
  refine j_iload_n (q := 1) (pc' := 2) C dX11_inside_1 rfl rfl rfl ?_
  obtain ⟨zz1, hzz1, hr⟩ := ob hr
  obtain ⟨zx2, hzx2, hr⟩ := ob hr
  obtain ⟨fhzz1, hzz1⟩ := rcv_sp hzz1
  refine j_callV (ci := 8) (As := [.int p1]) (rest := []) (st1 := [va_rf zx2]) (pc' := 5) C ⟨wm_1269, wm_32⟩ rfl hzz1 (c_X11_rowOf (nx := nx) hzx2) yw_X11_rowOf wm_1267 rfl rfl (Nat.le_of_ble_eq_true rfl) ⟨by decide, by decide⟩ dX11_inside_2 rfl rfl ?_
  refine j_qstore_n (lv' := [(2, va_rf zx2), (0, .ref this), (1, .int p1)]) (pc' := 6) C dX11_inside_5 rfl (by decide) rfl rfl ?_
  refine j_iload_n (q := 2) (pc' := 7) C dX11_inside_6 rfl rfl rfl ?_
  refine j_iconst (v := 2) (pc' := 8) C dX11_inside_7 kI_2 rfl ?_
  refine j_ic_eq (tgt := 15) (pc' := 11) C dX11_inside_8 rfl rfl (fun hc => ?_) (fun hc => ?_)
  · have hr := ifT hc hr
    clear hc
    refine j_iconst (v := -1) (pc' := 16) C dX11_inside_15 kI_m1 rfl ?_
    have hr := Option.some.inj hr
    subst hr
    exact j_iret C hq hret dX11_inside_16
  · have hr := ifF hc hr
    clear hc
    refine j_qload_n (q := 0) (pc' := 12) C dX11_inside_11 rfl rfl rfl ?_
    refine j_ifnonnull (tgt := 17) (pc' := 15) C dX11_inside_12 rfl rfl (fun za3 hc => ?_) (fun hc => ?_)
    · subst hc
      refine j_aload_n (q := 1) (pc' := 18) C dX11_inside_17 rfl rfl rfl ?_
      obtain ⟨zx4, hzx4, hr⟩ := ob hr
      refine j_getA (pc' := 21) C dX11_inside_18 fl_X11_35 hzx4 rfl ?_
      obtain ⟨zx5, hzx5, hr⟩ := ob hr
      refine j_getA (pc' := 24) C dX11_inside_21 fl_X11_112 hzx5 rfl ?_
      obtain ⟨zx6, hzx6, hr⟩ := ob hr
      refine j_getA (pc' := 27) C dX11_inside_24 fl_X11_125 hzx6 rfl ?_
      obtain ⟨zx7, hzx7, hr⟩ := ob hr
      refine j_getJ (pc' := 30) C dX11_inside_27 fl_X11_411 hzx7 rfl ?_
      refine j_aload_n (q := 0) (pc' := 31) C dX11_inside_30 rfl rfl rfl ?_
      refine j_aload_n (q := 1) (pc' := 32) C dX11_inside_31 rfl rfl rfl ?_
      refine j_iload_n (q := 2) (pc' := 33) C dX11_inside_32 rfl rfl rfl ?_
      obtain ⟨zz8, hzz8, hr⟩ := ob hr
      obtain ⟨zx9, hzx9, hr⟩ := ob hr
      obtain ⟨fhzz8, hzz8⟩ := rcv_sp hzz8
      refine j_callV (ci := 8) (As := [.int p1]) (rest := [.ref za3, .long zx7]) (st1 := [.int zx9, .ref za3, .long zx7]) (pc' := 36) C ⟨wm_1273, wm_33⟩ rfl hzz8 (c_X11_startIn (nx := nx) hzx9) yw_X11_startIn wm_1271 rfl rfl (Nat.le_of_ble_eq_true rfl) ⟨by decide, by decide⟩ dX11_inside_33 rfl rfl ?_
      obtain ⟨zz10, hzz10, hr⟩ := ob hr
      obtain ⟨zx11, hzx11, hr⟩ := ob hr
      obtain ⟨fhzz10, hzz10⟩ := rcv_sp hzz10
      refine j_callV (ci := 2) (As := [.int zx9]) (rest := [.long zx7]) (st1 := [.long zx11, .long zx7]) (pc' := 39) C ⟨wm_849, wm_850⟩ rfl hzz10 (c_X2_unionFrom (nx := nx) hzx11) yw_X2_unionFrom wm_1275 rfl rfl (Nat.le_of_ble_eq_true rfl) ⟨by decide, by decide⟩ dX11_inside_36 rfl rfl ?_
      refine j_ldc2 (pc' := 42) C dX11_inside_39 wm_1232 rfl ?_
      refine j_lxor (pc' := 43) C dX11_inside_42 rfl ?_
      refine j_land (pc' := 44) C dX11_inside_43 rfl ?_
      obtain ⟨zx12, hzx12, hr⟩ := ob hr
      refine j_callS (As := [.long (zx7 &&& (zx11 ^^^ (-1 : Int64)))]) (rest := []) (st1 := [.int zx12]) (pc' := 47) C wm_1036 (c_J13_bitCount_95d88 (nx := nx) (ce := ce) hzx12) yw_J13_bitCount_95d88 wm_1035 rfl rfl (Nat.le_of_ble_eq_true rfl) ⟨by decide, by decide⟩ dX11_inside_44 rfl rfl ?_
      have hr := Option.some.inj hr
      subst hr
      exact j_iret C hq hret dX11_inside_47
    · subst hc
      refine j_iconst (v := -1) (pc' := 16) C dX11_inside_15 kI_m1 rfl ?_
      have hr := Option.some.inj hr
      subst hr
      exact j_iret C hq hret dX11_inside_16
def m_X11_foretold (nx : Nat) (ce : Ce) (this : Nat) (p1 : Int32) : Option (Int32 × Ce × Nat × Nat) :=
  if p1 < (1 : Int32) then
    some ((-1 : Int32), ce, 0, 0)
  else
    if p1 ≤ (500 : Int32) then
      (gA ce 8 8 this).bind fun zx5 =>
      (gA ce 8 6 this).bind fun zx6 =>
      (gA ce 7 4 zx6).bind fun zx7 =>
      (rcv ce 6 zx5).bind fun zz8 =>
      adcB (m_X8_become nx ce zx5 zx7) fun zq9 =>
      (gA zq9.2.1 8 8 this).bind fun zx11 =>
      (rcv zq9.2.1 6 zx11).bind fun zz12 =>
      adcB (m_X8_goOn (nx + zq9.2.2.1) zq9.2.1 zx11 p1) fun zq13 =>
      (gA zq13.2.1 8 8 this).bind fun zx15 =>
      (gI zq13.2.1 6 3 zx15).bind fun zx16 =>
      some (zx16, zq13.2.1, 0, 0)
    else
      some ((-1 : Int32), ce, 0, 0)
set_option maxRecDepth 100000 in
set_option maxHeartbeats 4000000 in
theorem c_X11_foretold {nx : Nat} {ce : Ce} {this : Nat} {p1 : Int32} {q : Int32 × Ce × Nat × Nat} (hr : m_X11_foretold nx ce this p1 = some q) : Ct yX11_foretold cX11_foretold 2 (some .int) 8 218 q.2.2.1 q.2.2.2 [.ref this, .int p1] nx ce (some (.int q.1)) q.2.1 := by
  unfold m_X11_foretold at hr
  refine ct_of (by decide) (Nat.le_of_ble_eq_true rfl) ?_
  intro G C hq hret hin
  show Jd G q.2.2.1 q.2.2.2 nx ce 0 [(0, .ref this), (1, .int p1)] []
  refine j_iload_n (q := 1) (pc' := 1) C dX11_foretold_0 rfl rfl rfl ?_
  refine j_iconst (v := 1) (pc' := 2) C dX11_foretold_1 kI_1 rfl ?_
  refine j_ic_lt (tgt := 12) (pc' := 5) C dX11_foretold_2 rfl rfl (fun hc => ?_) (fun hc => ?_)
  · have hr := ifT hc hr
    clear hc
    refine j_iconst (v := -1) (pc' := 13) C dX11_foretold_12 kI_m1 rfl ?_
    obtain ⟨azf1, bzf2, czf3, dzf4⟩ := some4 hr
    refine j_k (kc' := 0) (ks' := 0) (by omega) (by omega) ?_
    rw [show nx + q.2.2.1 = nx by omega, bzf2, azf1] at hq
    exact j_iret C hq hret dX11_foretold_13
  · have hr := ifF hc hr
    clear hc
    refine j_iload_n (q := 1) (pc' := 6) C dX11_foretold_5 rfl rfl rfl ?_
    refine j_sipush (v := 500) (pc' := 9) C dX11_foretold_6 kS_500 rfl ?_
    refine j_ic_le (tgt := 14) (pc' := 12) C dX11_foretold_9 rfl rfl (fun hc => ?_) (fun hc => ?_)
    · have hr := ifT hc hr
      clear hc
      refine j_aload_n (q := 0) (pc' := 15) C dX11_foretold_14 rfl rfl rfl ?_
      obtain ⟨zx5, hzx5, hr⟩ := ob hr
      refine j_getA (pc' := 18) C dX11_foretold_15 fl_X11_45 hzx5 rfl ?_
      refine j_aload_n (q := 0) (pc' := 19) C dX11_foretold_18 rfl rfl rfl ?_
      obtain ⟨zx6, hzx6, hr⟩ := ob hr
      refine j_getA (pc' := 22) C dX11_foretold_19 fl_X11_35 hzx6 rfl ?_
      obtain ⟨zx7, hzx7, hr⟩ := ob hr
      refine j_getA (pc' := 25) C dX11_foretold_22 fl_X11_112 hzx7 rfl ?_
      obtain ⟨zz8, hzz8, hr⟩ := ob hr
      obtain ⟨zq9, zt10, hzq9, hr, azt10, bzt10, czt10, dzt10⟩ := adcB_s hr
      refine j_k (kc' := zt10.2.2.1 + zq9.2.2.1) (ks' := zt10.2.2.2 + zq9.2.2.2) (by omega) (by omega) ?_
      obtain ⟨fhzz8, hzz8⟩ := rcv_sp hzz8
      refine j_callVA (ci := 6) (As := [.ref zx7]) (rest := []) (st1 := []) (pc' := 28) C ⟨wm_731, wm_732⟩ rfl hzz8 (c_X8_become hzq9) yw_X8_become wm_1356 rfl rfl (Nat.le_of_ble_eq_true rfl) ⟨by decide, by decide⟩ dX11_foretold_25 rfl rfl ?_
      refine j_aload_n (q := 0) (pc' := 29) C dX11_foretold_28 rfl rfl rfl ?_
      obtain ⟨zx11, hzx11, hr⟩ := ob hr
      refine j_getA (pc' := 32) C dX11_foretold_29 fl_X11_45 hzx11 rfl ?_
      refine j_iload_n (q := 1) (pc' := 33) C dX11_foretold_32 rfl rfl rfl ?_
      obtain ⟨zz12, hzz12, hr⟩ := ob hr
      obtain ⟨zq13, zt14, hzq13, hr, azt14, bzt14, czt14, dzt14⟩ := adcB_s hr
      refine j_k (kc' := zt14.2.2.1 + zq13.2.2.1) (ks' := zt14.2.2.2 + zq13.2.2.2) (by omega) (by omega) ?_
      obtain ⟨fhzz12, hzz12⟩ := rcv_sp hzz12
      refine j_callVA (ci := 6) (As := [.int p1]) (rest := []) (st1 := [.int zq13.1]) (pc' := 36) C ⟨wm_887, wm_888⟩ rfl hzz12 (c_X8_goOn hzq13) yw_X8_goOn wm_886 rfl rfl (Nat.le_of_ble_eq_true rfl) ⟨by decide, by decide⟩ dX11_foretold_33 rfl rfl ?_
      refine j_pop (pc' := 37) C dX11_foretold_36 rfl rfl ?_
      refine j_aload_n (q := 0) (pc' := 38) C dX11_foretold_37 rfl rfl rfl ?_
      obtain ⟨zx15, hzx15, hr⟩ := ob hr
      refine j_getA (pc' := 41) C dX11_foretold_38 fl_X11_45 hzx15 rfl ?_
      obtain ⟨zx16, hzx16, hr⟩ := ob hr
      refine j_getI (pc' := 44) C dX11_foretold_41 fl_X11_176 hzx16 rfl ?_
      obtain ⟨azf17, bzf18, czf19, dzf20⟩ := some4 hr
      refine j_k (kc' := 0) (ks' := 0) (by omega) (by omega) ?_
      rw [show nx + q.2.2.1 = ((nx + zq9.2.2.1) + zq13.2.2.1) by omega, (bzt10.trans (bzt14.trans bzf18)), (azt10.trans (azt14.trans azf17))] at hq
      exact j_iret C hq hret dX11_foretold_44
    · have hr := ifF hc hr
      clear hc
      refine j_iconst (v := -1) (pc' := 13) C dX11_foretold_12 kI_m1 rfl ?_
      obtain ⟨azf21, bzf22, czf23, dzf24⟩ := some4 hr
      refine j_k (kc' := 0) (ks' := 0) (by omega) (by omega) ?_
      rw [show nx + q.2.2.1 = nx by omega, bzf22, azf21] at hq
      exact j_iret C hq hret dX11_foretold_13
def m_X11_till (nx : Nat) (ce : Ce) (this : Nat) : Option (Int32 × Ce × Nat × Nat) :=
  (gA ce 8 8 this).bind fun zx1 =>
  (gA ce 8 6 this).bind fun zx2 =>
  (gA ce 7 4 zx2).bind fun zx3 =>
  (rcv ce 6 zx1).bind fun zz4 =>
  adcB (m_X8_become nx ce zx1 zx3) fun zq5 =>
  (gA zq5.2.1 8 8 this).bind fun zx7 =>
  (rcv zq5.2.1 6 zx7).bind fun zz8 =>
  adcB (m_X8_goOn (nx + zq5.2.2.1) zq5.2.1 zx7 (400 : Int32)) fun zq9 =>
  (gA zq9.2.1 8 8 this).bind fun zx11 =>
  (rcv zq9.2.1 6 zx11).bind fun zz12 =>
  (m_X8_isOver zq9.2.1 zx11).bind fun zx13 =>
  if zx13 = 0 then
    some ((-1 : Int32), zq9.2.1, 0, 0)
  else
    some (zq9.1, zq9.2.1, 0, 0)
set_option maxRecDepth 100000 in
set_option maxHeartbeats 4000000 in
theorem c_X11_till {nx : Nat} {ce : Ce} {this : Nat} {q : Int32 × Ce × Nat × Nat} (hr : m_X11_till nx ce this = some q) : Ct yX11_till cX11_till 2 (some .int) 8 218 q.2.2.1 q.2.2.2 [.ref this] nx ce (some (.int q.1)) q.2.1 := by
  unfold m_X11_till at hr
  refine ct_of (by decide) (Nat.le_of_ble_eq_true rfl) ?_
  intro G C hq hret hin
  show Jd G q.2.2.1 q.2.2.2 nx ce 0 [(0, .ref this)] []
  refine j_aload_n (q := 0) (pc' := 1) C dX11_till_0 rfl rfl rfl ?_
  obtain ⟨zx1, hzx1, hr⟩ := ob hr
  refine j_getA (pc' := 4) C dX11_till_1 fl_X11_45 hzx1 rfl ?_
  refine j_aload_n (q := 0) (pc' := 5) C dX11_till_4 rfl rfl rfl ?_
  obtain ⟨zx2, hzx2, hr⟩ := ob hr
  refine j_getA (pc' := 8) C dX11_till_5 fl_X11_35 hzx2 rfl ?_
  obtain ⟨zx3, hzx3, hr⟩ := ob hr
  refine j_getA (pc' := 11) C dX11_till_8 fl_X11_112 hzx3 rfl ?_
  obtain ⟨zz4, hzz4, hr⟩ := ob hr
  obtain ⟨zq5, zt6, hzq5, hr, azt6, bzt6, czt6, dzt6⟩ := adcB_s hr
  refine j_k (kc' := zt6.2.2.1 + zq5.2.2.1) (ks' := zt6.2.2.2 + zq5.2.2.2) (by omega) (by omega) ?_
  obtain ⟨fhzz4, hzz4⟩ := rcv_sp hzz4
  refine j_callVA (ci := 6) (As := [.ref zx3]) (rest := []) (st1 := []) (pc' := 14) C ⟨wm_731, wm_732⟩ rfl hzz4 (c_X8_become hzq5) yw_X8_become wm_1356 rfl rfl (Nat.le_of_ble_eq_true rfl) ⟨by decide, by decide⟩ dX11_till_11 rfl rfl ?_
  refine j_aload_n (q := 0) (pc' := 15) C dX11_till_14 rfl rfl rfl ?_
  obtain ⟨zx7, hzx7, hr⟩ := ob hr
  refine j_getA (pc' := 18) C dX11_till_15 fl_X11_45 hzx7 rfl ?_
  refine j_sipush (v := 400) (pc' := 21) C dX11_till_18 kS_400 rfl ?_
  obtain ⟨zz8, hzz8, hr⟩ := ob hr
  obtain ⟨zq9, zt10, hzq9, hr, azt10, bzt10, czt10, dzt10⟩ := adcB_s hr
  refine j_k (kc' := zt10.2.2.1 + zq9.2.2.1) (ks' := zt10.2.2.2 + zq9.2.2.2) (by omega) (by omega) ?_
  obtain ⟨fhzz8, hzz8⟩ := rcv_sp hzz8
  refine j_callVA (ci := 6) (As := [.int (400 : Int32)]) (rest := []) (st1 := [.int zq9.1]) (pc' := 24) C ⟨wm_887, wm_888⟩ rfl hzz8 (c_X8_goOn hzq9) yw_X8_goOn wm_886 rfl rfl (Nat.le_of_ble_eq_true rfl) ⟨by decide, by decide⟩ dX11_till_21 rfl rfl ?_
  refine j_istore_n (lv' := [(1, .int zq9.1), (0, .ref this)]) (pc' := 25) C dX11_till_24 rfl (by decide) rfl rfl ?_
  refine j_aload_n (q := 1) (pc' := 26) C dX11_till_25 rfl rfl rfl ?_
  obtain ⟨zx11, hzx11, hr⟩ := ob hr
  refine j_getA (pc' := 29) C dX11_till_26 fl_X11_45 hzx11 rfl ?_
  obtain ⟨zz12, hzz12, hr⟩ := ob hr
  obtain ⟨zx13, hzx13, hr⟩ := ob hr
  obtain ⟨fhzz12, hzz12⟩ := rcv_sp hzz12
  refine j_callV (ci := 6) (As := []) (rest := []) (st1 := [.int zx13]) (pc' := 32) C ⟨wm_883, wm_884⟩ rfl hzz12 (c_X8_isOver (nx := ((nx + zq5.2.2.1) + zq9.2.2.1)) hzx13) yw_X8_isOver wm_882 rfl rfl (Nat.le_of_ble_eq_true rfl) ⟨by decide, by decide⟩ dX11_till_29 rfl rfl ?_
  refine j_if_eq (tgt := 39) (pc' := 35) C dX11_till_32 rfl rfl (fun hc => ?_) (fun hc => ?_)
  · have hr := ifT hc hr
    clear hc
    refine j_iconst (v := -1) (pc' := 40) C dX11_till_39 kI_m1 rfl ?_
    obtain ⟨azf14, bzf15, czf16, dzf17⟩ := some4 hr
    refine j_k (kc' := 0) (ks' := 0) (by omega) (by omega) ?_
    rw [show nx + q.2.2.1 = ((nx + zq5.2.2.1) + zq9.2.2.1) by omega, (bzt6.trans (bzt10.trans bzf15)), (azt6.trans (azt10.trans azf14))] at hq
    exact j_iret C hq hret dX11_till_40
  · have hr := ifF hc hr
    clear hc
    refine j_iload_n (q := 0) (pc' := 36) C dX11_till_35 rfl rfl rfl ?_
    refine j_goto (tgt := 40) C dX11_till_36 rfl ?_
    obtain ⟨azf18, bzf19, czf20, dzf21⟩ := some4 hr
    refine j_k (kc' := 0) (ks' := 0) (by omega) (by omega) ?_
    rw [show nx + q.2.2.1 = ((nx + zq5.2.2.1) + zq9.2.2.1) by omega, (bzt6.trans (bzt10.trans bzf19)), (azt6.trans (azt10.trans azf18))] at hq
    exact j_iret C hq hret dX11_till_40
def m_X11_quickest (nx : Nat) (ce : Ce) (this : Nat) : Option (Int32 × Ce × Nat × Nat) :=
  adcB (itA (fun (nzs1 : Nat) (czs1 : Ce) (zs1 : Int32 × Int32 × Int32) =>
    (gA czs1 8 6 this).bind fun zx11 =>
    (gA czs1 7 4 zx11).bind fun zx12 =>
    (gA czs1 6 0 zx12).bind fun zx13 =>
    (gA czs1 3 4 zx13).bind fun zx14 =>
    (alen czs1 zx14).bind fun zx15 =>
    if zx15 ≤ zs1.2.2 then
      some (Sum.inr zs1.1, czs1, 0, 0)
    else
      (gA czs1 8 8 this).bind fun zx25 =>
      (gA czs1 8 6 this).bind fun zx26 =>
      (gA czs1 7 4 zx26).bind fun zx27 =>
      (rcv czs1 6 zx25).bind fun zz28 =>
      adcB (m_X8_become nzs1 czs1 zx25 zx27) fun zq29 =>
      (gA zq29.2.1 8 8 this).bind fun zx31 =>
      (rcv zq29.2.1 6 zx31).bind fun zz32 =>
      (m_X8_tellAim zq29.2.1 zx31 zs1.2.2).bind fun zq33 =>
      (gA zq33.2 8 8 this).bind fun zx34 =>
      (rcv zq33.2 6 zx34).bind fun zz35 =>
      adcB (m_X8_goOn (nzs1 + zq29.2.2.1) zq33.2 zx34 (400 : Int32)) fun zq36 =>
      (gA zq36.2.1 8 8 this).bind fun zx38 =>
      (rcv zq36.2.1 6 zx38).bind fun zz39 =>
      (m_X8_isOver zq36.2.1 zx38).bind fun zx40 =>
      if zx40 = 0 then
        some (Sum.inl (zs1.1, zs1.2.1, (zs1.2.2 + (1 : Int32))), zq36.2.1, 0, 0)
      else
        if zs1.2.1 ≤ zq36.1 then
          some (Sum.inl (zs1.1, zs1.2.1, (zs1.2.2 + (1 : Int32))), zq36.2.1, 0, 0)
        else
          some (Sum.inl (zs1.2.2, zq36.1, (zs1.2.2 + (1 : Int32))), zq36.2.1, 0, 0)
  ) FU nx ce ((-1 : Int32), (401 : Int32), (0 : Int32))) fun (zo2 : Int32 × Ce × Nat × Nat) =>
  some (zo2.1, zo2.2.1, 0, 0)
set_option maxRecDepth 100000 in
set_option maxHeartbeats 4000000 in
theorem c_X11_quickest {nx : Nat} {ce : Ce} {this : Nat} {q : Int32 × Ce × Nat × Nat} (hr : m_X11_quickest nx ce this = some q) : Ct yX11_quickest cX11_quickest 5 (some .int) 8 218 q.2.2.1 q.2.2.2 [.ref this] nx ce (some (.int q.1)) q.2.1 := by
  unfold m_X11_quickest at hr
  refine ct_of (by decide) (Nat.le_of_ble_eq_true rfl) ?_
  intro G C hq hret hin
  show Jd G q.2.2.1 q.2.2.2 nx ce 0 [(0, .ref this)] []
  refine j_iconst (v := -1) (pc' := 1) C dX11_quickest_0 kI_m1 rfl ?_
  refine j_istore_n (lv' := [(1, .int (-1 : Int32)), (0, .ref this)]) (pc' := 2) C dX11_quickest_1 rfl (by decide) rfl rfl ?_
  refine j_sipush (v := 401) (pc' := 5) C dX11_quickest_2 kS_401 rfl ?_
  refine j_istore_n (lv' := [(2, .int (401 : Int32)), (1, .int (-1 : Int32)), (0, .ref this)]) (pc' := 6) C dX11_quickest_5 rfl (by decide) rfl rfl ?_
  refine j_iconst (v := 0) (pc' := 7) C dX11_quickest_6 kI_0 rfl ?_
  refine j_istore_n (lv' := [(3, .int (0 : Int32)), (2, .int (401 : Int32)), (1, .int (-1 : Int32)), (0, .ref this)]) (pc' := 8) C dX11_quickest_7 rfl (by decide) rfl rfl ?_
  obtain ⟨zo2, zt3, hzo2, rzo2, azt3, bzt3, czt3, dzt3⟩ := adcB_s hr
  have kzo2 : ∀ (vzo2 : Int32) (czo2 : Ce) (nzo2 : Nat), zo2.1 = vzo2 → zo2.2.1 = czo2 → nx + zo2.2.2.1 = nzo2 → Jd G (zt3.2.2.1) (zt3.2.2.2) nzo2 czo2 87 [(1, .int vzo2)] [] := by
    rintro _ _ _ rfl rfl rfl
    have hr := rzo2
    refine j_iload_n (q := 0) (pc' := 88) C dX11_quickest_87 rfl rfl rfl ?_
    obtain ⟨azf7, bzf8, czf9, dzf10⟩ := some4 hr
    refine j_k (kc' := 0) (ks' := 0) (by omega) (by omega) ?_
    rw [show nx + q.2.2.1 = (nx + zo2.2.2.1) by omega, (bzt3.trans bzf8), (azt3.trans azf7)] at hq
    exact j_iret C hq hret dX11_quickest_88
  refine j_k (kc' := zt3.2.2.1 + zo2.2.2.1) (ks' := zt3.2.2.2 + zo2.2.2.2) (by omega) (by omega) ?_
  refine j_lv (lv' := [(0, .ref this), (1, .int (-1 : Int32)), (2, .int (401 : Int32)), (3, .int (0 : Int32))]) [3, 2, 1, 0] rfl ?_
  refine itA_Jq (J := fun (nzs1 : Nat) (czs1 : Ce) (zs1 : Int32 × Int32 × Int32) (zK5 zS6 : Nat) => Jd G (zt3.2.2.1 + zK5) (zt3.2.2.2 + zS6) nzs1 czs1 8 [(0, .ref this), (1, .int zs1.1), (2, .int zs1.2.1), (3, .int zs1.2.2)] []) ?_ hzo2
  clear hzo2
  intro nzs1 czs1 zs1 zb4 zK5 zS6 hr izs1 ezs1
  refine j_k (kc' := zt3.2.2.1 + zK5 + zb4.2.2.1) (ks' := zt3.2.2.2 + zS6 + zb4.2.2.2) (by omega) (by omega) ?_
  refine j_iload_n (q := 3) (pc' := 9) C dX11_quickest_8 rfl rfl rfl ?_
  refine j_aload_n (q := 0) (pc' := 10) C dX11_quickest_9 rfl rfl rfl ?_
  obtain ⟨zx11, hzx11, hr⟩ := ob hr
  refine j_getA (pc' := 13) C dX11_quickest_10 fl_X11_35 hzx11 rfl ?_
  obtain ⟨zx12, hzx12, hr⟩ := ob hr
  refine j_getA (pc' := 16) C dX11_quickest_13 fl_X11_112 hzx12 rfl ?_
  obtain ⟨zx13, hzx13, hr⟩ := ob hr
  refine j_getA (pc' := 19) C dX11_quickest_16 fl_X11_125 hzx13 rfl ?_
  obtain ⟨zx14, hzx14, hr⟩ := ob hr
  refine j_getA (pc' := 22) C dX11_quickest_19 fl_X11_182 hzx14 rfl ?_
  obtain ⟨zx15, hzx15, hr⟩ := ob hr
  refine j_alen (pc' := 23) C dX11_quickest_22 hzx15 rfl ?_
  refine j_ic_ge (tgt := 87) (pc' := 26) C dX11_quickest_23 rfl rfl (fun hc => ?_) (fun hc => ?_)
  · have hr := ifT hc hr
    clear hc
    obtain ⟨azf16, bzf17, czf18, dzf19⟩ := some4 hr
    obtain ⟨azg20, bzg21, czg22, dzg23, ezg24⟩ := ezs1 _ azf16
    refine j_k (kc' := zt3.2.2.1) (ks' := zt3.2.2.2) (by omega) (by omega) ?_
    exact j_lv [1] rfl (kzo2 _ _ _ azg20.symm (bzg21.symm.trans bzf17) (by omega))
  · have hr := ifF hc hr
    clear hc
    refine j_aload_n (q := 0) (pc' := 27) C dX11_quickest_26 rfl rfl rfl ?_
    obtain ⟨zx25, hzx25, hr⟩ := ob hr
    refine j_getA (pc' := 30) C dX11_quickest_27 fl_X11_45 hzx25 rfl ?_
    refine j_aload_n (q := 0) (pc' := 31) C dX11_quickest_30 rfl rfl rfl ?_
    obtain ⟨zx26, hzx26, hr⟩ := ob hr
    refine j_getA (pc' := 34) C dX11_quickest_31 fl_X11_35 hzx26 rfl ?_
    obtain ⟨zx27, hzx27, hr⟩ := ob hr
    refine j_getA (pc' := 37) C dX11_quickest_34 fl_X11_112 hzx27 rfl ?_
    obtain ⟨zz28, hzz28, hr⟩ := ob hr
    obtain ⟨zq29, zt30, hzq29, hr, azt30, bzt30, czt30, dzt30⟩ := adcB_s hr
    refine j_k (kc' := zt3.2.2.1 + zK5 + zt30.2.2.1 + zq29.2.2.1) (ks' := zt3.2.2.2 + zS6 + zt30.2.2.2 + zq29.2.2.2) (by omega) (by omega) ?_
    obtain ⟨fhzz28, hzz28⟩ := rcv_sp hzz28
    refine j_callVA (ci := 6) (As := [.ref zx27]) (rest := []) (st1 := []) (pc' := 40) C ⟨wm_731, wm_732⟩ rfl hzz28 (c_X8_become hzq29) yw_X8_become wm_1356 rfl rfl (Nat.le_of_ble_eq_true rfl) ⟨by decide, by decide⟩ dX11_quickest_37 rfl rfl ?_
    refine j_aload_n (q := 0) (pc' := 41) C dX11_quickest_40 rfl rfl rfl ?_
    obtain ⟨zx31, hzx31, hr⟩ := ob hr
    refine j_getA (pc' := 44) C dX11_quickest_41 fl_X11_45 hzx31 rfl ?_
    refine j_iload_n (q := 3) (pc' := 45) C dX11_quickest_44 rfl rfl rfl ?_
    obtain ⟨zz32, hzz32, hr⟩ := ob hr
    obtain ⟨zq33, hzq33, hr⟩ := ob hr
    obtain ⟨fhzz32, hzz32⟩ := rcv_sp hzz32
    refine j_callV (ci := 6) (As := [.int zs1.2.2]) (rest := []) (st1 := []) (pc' := 48) C ⟨wm_794, wm_795⟩ rfl hzz32 (c_X8_tellAim (nx := (nzs1 + zq29.2.2.1)) hzq33) yw_X8_tellAim wm_793 rfl rfl (Nat.le_of_ble_eq_true rfl) ⟨by decide, by decide⟩ dX11_quickest_45 rfl rfl ?_
    refine j_aload_n (q := 0) (pc' := 49) C dX11_quickest_48 rfl rfl rfl ?_
    obtain ⟨zx34, hzx34, hr⟩ := ob hr
    refine j_getA (pc' := 52) C dX11_quickest_49 fl_X11_45 hzx34 rfl ?_
    refine j_sipush (v := 400) (pc' := 55) C dX11_quickest_52 kS_400 rfl ?_
    obtain ⟨zz35, hzz35, hr⟩ := ob hr
    obtain ⟨zq36, zt37, hzq36, hr, azt37, bzt37, czt37, dzt37⟩ := adcB_s hr
    refine j_k (kc' := zt3.2.2.1 + zK5 + zt37.2.2.1 + zq36.2.2.1) (ks' := zt3.2.2.2 + zS6 + zt37.2.2.2 + zq36.2.2.2) (by omega) (by omega) ?_
    obtain ⟨fhzz35, hzz35⟩ := rcv_sp hzz35
    refine j_callVA (ci := 6) (As := [.int (400 : Int32)]) (rest := []) (st1 := [.int zq36.1]) (pc' := 58) C ⟨wm_887, wm_888⟩ rfl hzz35 (c_X8_goOn hzq36) yw_X8_goOn wm_886 rfl rfl (Nat.le_of_ble_eq_true rfl) ⟨by decide, by decide⟩ dX11_quickest_55 rfl rfl ?_
    refine j_istore (lv' := [(4, .int zq36.1), (0, .ref this), (1, .int zs1.1), (2, .int zs1.2.1), (3, .int zs1.2.2)]) (pc' := 60) C dX11_quickest_58 (by decide) rfl rfl ?_
    refine j_aload_n (q := 1) (pc' := 61) C dX11_quickest_60 rfl rfl rfl ?_
    obtain ⟨zx38, hzx38, hr⟩ := ob hr
    refine j_getA (pc' := 64) C dX11_quickest_61 fl_X11_45 hzx38 rfl ?_
    obtain ⟨zz39, hzz39, hr⟩ := ob hr
    obtain ⟨zx40, hzx40, hr⟩ := ob hr
    obtain ⟨fhzz39, hzz39⟩ := rcv_sp hzz39
    refine j_callV (ci := 6) (As := []) (rest := []) (st1 := [.int zx40]) (pc' := 67) C ⟨wm_883, wm_884⟩ rfl hzz39 (c_X8_isOver (nx := ((nzs1 + zq29.2.2.1) + zq36.2.2.1)) hzx40) yw_X8_isOver wm_882 rfl rfl (Nat.le_of_ble_eq_true rfl) ⟨by decide, by decide⟩ dX11_quickest_64 rfl rfl ?_
    refine j_if_eq (tgt := 81) (pc' := 70) C dX11_quickest_67 rfl rfl (fun hc => ?_) (fun hc => ?_)
    · have hr := ifT hc hr
      clear hc
      refine j_iinc (q := 4) (v := 1) (lv' := [(3, .int (zs1.2.2 + (1 : Int32))), (4, .int zq36.1), (0, .ref this), (1, .int zs1.1), (2, .int zs1.2.1)]) (pc' := 84) C dX11_quickest_81 rfl kI_1 (by decide) rfl rfl ?_
      refine j_goto (tgt := 8) C dX11_quickest_84 rfl ?_
      obtain ⟨azf41, bzf42, czf43, dzf44⟩ := some4 hr
      refine j_k (kc' := zt3.2.2.1 + zK5) (ks' := zt3.2.2.2 + zS6) (by omega) (by omega) ?_
      refine j_at (nx' := nzs1 + zb4.2.2.1) (by omega) (bzt30.trans (bzt37.trans bzf42)).symm ?_
      exact j_lv [2, 3, 4, 0] rfl (izs1 _ (azt30.trans (azt37.trans azf41)))
    · have hr := ifF hc hr
      clear hc
      refine j_iload (q := 0) (pc' := 72) C dX11_quickest_70 rfl rfl ?_
      refine j_iload_n (q := 3) (pc' := 73) C dX11_quickest_72 rfl rfl rfl ?_
      refine j_ic_ge (tgt := 81) (pc' := 76) C dX11_quickest_73 rfl rfl (fun hc => ?_) (fun hc => ?_)
      · have hr := ifT hc hr
        clear hc
        refine j_iinc (q := 4) (v := 1) (lv' := [(3, .int (zs1.2.2 + (1 : Int32))), (4, .int zq36.1), (0, .ref this), (1, .int zs1.1), (2, .int zs1.2.1)]) (pc' := 84) C dX11_quickest_81 rfl kI_1 (by decide) rfl rfl ?_
        refine j_goto (tgt := 8) C dX11_quickest_84 rfl ?_
        obtain ⟨azf45, bzf46, czf47, dzf48⟩ := some4 hr
        refine j_k (kc' := zt3.2.2.1 + zK5) (ks' := zt3.2.2.2 + zS6) (by omega) (by omega) ?_
        refine j_at (nx' := nzs1 + zb4.2.2.1) (by omega) (bzt30.trans (bzt37.trans bzf46)).symm ?_
        exact j_lv [2, 3, 4, 0] rfl (izs1 _ (azt30.trans (azt37.trans azf45)))
      · have hr := ifF hc hr
        clear hc
        refine j_iload_n (q := 4) (pc' := 77) C dX11_quickest_76 rfl rfl rfl ?_
        refine j_istore_n (lv' := [(1, .int zs1.2.2), (4, .int zq36.1), (0, .ref this), (2, .int zs1.2.1), (3, .int zs1.2.2)]) (pc' := 78) C dX11_quickest_77 rfl (by decide) rfl rfl ?_
        refine j_iload (q := 1) (pc' := 80) C dX11_quickest_78 rfl rfl ?_
        refine j_istore_n (lv' := [(2, .int zq36.1), (1, .int zs1.2.2), (4, .int zq36.1), (0, .ref this), (3, .int zs1.2.2)]) (pc' := 81) C dX11_quickest_80 rfl (by decide) rfl rfl ?_
        refine j_iinc (q := 4) (v := 1) (lv' := [(3, .int (zs1.2.2 + (1 : Int32))), (2, .int zq36.1), (1, .int zs1.2.2), (4, .int zq36.1), (0, .ref this)]) (pc' := 84) C dX11_quickest_81 rfl kI_1 (by decide) rfl rfl ?_
        refine j_goto (tgt := 8) C dX11_quickest_84 rfl ?_
        obtain ⟨azf49, bzf50, czf51, dzf52⟩ := some4 hr
        refine j_k (kc' := zt3.2.2.1 + zK5) (ks' := zt3.2.2.2 + zS6) (by omega) (by omega) ?_
        refine j_at (nx' := nzs1 + zb4.2.2.1) (by omega) (bzt30.trans (bzt37.trans bzf50)).symm ?_
        exact j_lv [4, 2, 1, 0] rfl (izs1 _ (azt30.trans (azt37.trans azf49)))
def m_X11_bestMode (nx : Nat) (ce : Ce) (this : Nat) : Option (Int32 × Ce × Nat × Nat) :=
  adcB (itA (fun (nzs1 : Nat) (czs1 : Ce) (zs1 : Int32 × Int32 × Int32) =>
    if (3 : Int32) ≤ zs1.2.2 then
      some (Sum.inr zs1.1, czs1, 0, 0)
    else
      (gA czs1 8 8 this).bind fun zx20 =>
      (gA czs1 8 6 this).bind fun zx21 =>
      (gA czs1 7 4 zx21).bind fun zx22 =>
      (gA czs1 6 0 zx22).bind fun zx23 =>
      (rcv czs1 6 zx20).bind fun zz24 =>
      (m_X8_begin czs1 zx20 zx23).bind fun zq25 =>
      (gA zq25.2 8 8 this).bind fun zx26 =>
      (gA zq25.2 8 6 this).bind fun zx27 =>
      (gA zq25.2 7 4 zx27).bind fun zx28 =>
      (gI zq25.2 6 1 zx28).bind fun zx29 =>
      (rcv zq25.2 6 zx26).bind fun zz30 =>
      (m_X8_tellAim zq25.2 zx26 zx29).bind fun zq31 =>
      (gA zq31.2 8 8 this).bind fun zx32 =>
      (pV zq31.2 6 2 zx32 (.int zs1.2.2)).bind fun zc33 =>
      (gA zc33 8 8 this).bind fun zx34 =>
      (rcv zc33 6 zx34).bind fun zz35 =>
      adcB (m_X8_goOn nzs1 zc33 zx34 (400 : Int32)) fun zq36 =>
      (gA zq36.2.1 8 8 this).bind fun zx38 =>
      (rcv zq36.2.1 6 zx38).bind fun zz39 =>
      (m_X8_isOver zq36.2.1 zx38).bind fun zx40 =>
      if zx40 = 0 then
        some (Sum.inl (zs1.1, zs1.2.1, (zs1.2.2 + (1 : Int32))), zq36.2.1, 0, 0)
      else
        if zs1.2.1 ≤ zq36.1 then
          some (Sum.inl (zs1.1, zs1.2.1, (zs1.2.2 + (1 : Int32))), zq36.2.1, 0, 0)
        else
          some (Sum.inl (zs1.2.2, zq36.1, (zs1.2.2 + (1 : Int32))), zq36.2.1, 0, 0)
  ) FU nx ce ((-1 : Int32), (401 : Int32), (0 : Int32))) fun (zo2 : Int32 × Ce × Nat × Nat) =>
  some (zo2.1, zo2.2.1, 0, 0)
set_option maxRecDepth 100000 in
set_option maxHeartbeats 4000000 in
theorem c_X11_bestMode {nx : Nat} {ce : Ce} {this : Nat} {q : Int32 × Ce × Nat × Nat} (hr : m_X11_bestMode nx ce this = some q) : Ct yX11_bestMode cX11_bestMode 5 (some .int) 8 218 q.2.2.1 q.2.2.2 [.ref this] nx ce (some (.int q.1)) q.2.1 := by
  unfold m_X11_bestMode at hr
  refine ct_of (by decide) (Nat.le_of_ble_eq_true rfl) ?_
  intro G C hq hret hin
  show Jd G q.2.2.1 q.2.2.2 nx ce 0 [(0, .ref this)] []
  refine j_iconst (v := -1) (pc' := 1) C dX11_bestMode_0 kI_m1 rfl ?_
  refine j_istore_n (lv' := [(1, .int (-1 : Int32)), (0, .ref this)]) (pc' := 2) C dX11_bestMode_1 rfl (by decide) rfl rfl ?_
  refine j_sipush (v := 401) (pc' := 5) C dX11_bestMode_2 kS_401 rfl ?_
  refine j_istore_n (lv' := [(2, .int (401 : Int32)), (1, .int (-1 : Int32)), (0, .ref this)]) (pc' := 6) C dX11_bestMode_5 rfl (by decide) rfl rfl ?_
  refine j_iconst (v := 0) (pc' := 7) C dX11_bestMode_6 kI_0 rfl ?_
  refine j_istore_n (lv' := [(3, .int (0 : Int32)), (2, .int (401 : Int32)), (1, .int (-1 : Int32)), (0, .ref this)]) (pc' := 8) C dX11_bestMode_7 rfl (by decide) rfl rfl ?_
  obtain ⟨zo2, zt3, hzo2, rzo2, azt3, bzt3, czt3, dzt3⟩ := adcB_s hr
  have kzo2 : ∀ (vzo2 : Int32) (czo2 : Ce) (nzo2 : Nat), zo2.1 = vzo2 → zo2.2.1 = czo2 → nx + zo2.2.2.1 = nzo2 → Jd G (zt3.2.2.1) (zt3.2.2.2) nzo2 czo2 94 [(1, .int vzo2)] [] := by
    rintro _ _ _ rfl rfl rfl
    have hr := rzo2
    refine j_iload_n (q := 0) (pc' := 95) C dX11_bestMode_94 rfl rfl rfl ?_
    obtain ⟨azf7, bzf8, czf9, dzf10⟩ := some4 hr
    refine j_k (kc' := 0) (ks' := 0) (by omega) (by omega) ?_
    rw [show nx + q.2.2.1 = (nx + zo2.2.2.1) by omega, (bzt3.trans bzf8), (azt3.trans azf7)] at hq
    exact j_iret C hq hret dX11_bestMode_95
  refine j_k (kc' := zt3.2.2.1 + zo2.2.2.1) (ks' := zt3.2.2.2 + zo2.2.2.2) (by omega) (by omega) ?_
  refine j_lv (lv' := [(0, .ref this), (1, .int (-1 : Int32)), (2, .int (401 : Int32)), (3, .int (0 : Int32))]) [3, 2, 1, 0] rfl ?_
  refine itA_Jq (J := fun (nzs1 : Nat) (czs1 : Ce) (zs1 : Int32 × Int32 × Int32) (zK5 zS6 : Nat) => Jd G (zt3.2.2.1 + zK5) (zt3.2.2.2 + zS6) nzs1 czs1 8 [(0, .ref this), (1, .int zs1.1), (2, .int zs1.2.1), (3, .int zs1.2.2)] []) ?_ hzo2
  clear hzo2
  intro nzs1 czs1 zs1 zb4 zK5 zS6 hr izs1 ezs1
  refine j_k (kc' := zt3.2.2.1 + zK5 + zb4.2.2.1) (ks' := zt3.2.2.2 + zS6 + zb4.2.2.2) (by omega) (by omega) ?_
  refine j_iload_n (q := 3) (pc' := 9) C dX11_bestMode_8 rfl rfl rfl ?_
  refine j_iconst (v := 3) (pc' := 10) C dX11_bestMode_9 kI_3 rfl ?_
  refine j_ic_ge (tgt := 94) (pc' := 13) C dX11_bestMode_10 rfl rfl (fun hc => ?_) (fun hc => ?_)
  · have hr := ifT hc hr
    clear hc
    obtain ⟨azf11, bzf12, czf13, dzf14⟩ := some4 hr
    obtain ⟨azg15, bzg16, czg17, dzg18, ezg19⟩ := ezs1 _ azf11
    refine j_k (kc' := zt3.2.2.1) (ks' := zt3.2.2.2) (by omega) (by omega) ?_
    exact j_lv [1] rfl (kzo2 _ _ _ azg15.symm (bzg16.symm.trans bzf12) (by omega))
  · have hr := ifF hc hr
    clear hc
    refine j_aload_n (q := 0) (pc' := 14) C dX11_bestMode_13 rfl rfl rfl ?_
    obtain ⟨zx20, hzx20, hr⟩ := ob hr
    refine j_getA (pc' := 17) C dX11_bestMode_14 fl_X11_45 hzx20 rfl ?_
    refine j_aload_n (q := 0) (pc' := 18) C dX11_bestMode_17 rfl rfl rfl ?_
    obtain ⟨zx21, hzx21, hr⟩ := ob hr
    refine j_getA (pc' := 21) C dX11_bestMode_18 fl_X11_35 hzx21 rfl ?_
    obtain ⟨zx22, hzx22, hr⟩ := ob hr
    refine j_getA (pc' := 24) C dX11_bestMode_21 fl_X11_112 hzx22 rfl ?_
    obtain ⟨zx23, hzx23, hr⟩ := ob hr
    refine j_getA (pc' := 27) C dX11_bestMode_24 fl_X11_125 hzx23 rfl ?_
    obtain ⟨zz24, hzz24, hr⟩ := ob hr
    obtain ⟨zq25, hzq25, hr⟩ := ob hr
    obtain ⟨fhzz24, hzz24⟩ := rcv_sp hzz24
    refine j_callV (ci := 6) (As := [.ref zx23]) (rest := []) (st1 := []) (pc' := 30) C ⟨wm_768, wm_769⟩ rfl hzz24 (c_X8_begin (nx := nzs1) hzq25) yw_X8_begin wm_767 rfl rfl (Nat.le_of_ble_eq_true rfl) ⟨by decide, by decide⟩ dX11_bestMode_27 rfl rfl ?_
    refine j_aload_n (q := 0) (pc' := 31) C dX11_bestMode_30 rfl rfl rfl ?_
    obtain ⟨zx26, hzx26, hr⟩ := ob hr
    refine j_getA (pc' := 34) C dX11_bestMode_31 fl_X11_45 hzx26 rfl ?_
    refine j_aload_n (q := 0) (pc' := 35) C dX11_bestMode_34 rfl rfl rfl ?_
    obtain ⟨zx27, hzx27, hr⟩ := ob hr
    refine j_getA (pc' := 38) C dX11_bestMode_35 fl_X11_35 hzx27 rfl ?_
    obtain ⟨zx28, hzx28, hr⟩ := ob hr
    refine j_getA (pc' := 41) C dX11_bestMode_38 fl_X11_112 hzx28 rfl ?_
    obtain ⟨zx29, hzx29, hr⟩ := ob hr
    refine j_getI (pc' := 44) C dX11_bestMode_41 fl_X11_185 hzx29 rfl ?_
    obtain ⟨zz30, hzz30, hr⟩ := ob hr
    obtain ⟨zq31, hzq31, hr⟩ := ob hr
    obtain ⟨fhzz30, hzz30⟩ := rcv_sp hzz30
    refine j_callV (ci := 6) (As := [.int zx29]) (rest := []) (st1 := []) (pc' := 47) C ⟨wm_794, wm_795⟩ rfl hzz30 (c_X8_tellAim (nx := nzs1) hzq31) yw_X8_tellAim wm_793 rfl rfl (Nat.le_of_ble_eq_true rfl) ⟨by decide, by decide⟩ dX11_bestMode_44 rfl rfl ?_
    refine j_aload_n (q := 0) (pc' := 48) C dX11_bestMode_47 rfl rfl rfl ?_
    obtain ⟨zx32, hzx32, hr⟩ := ob hr
    refine j_getA (pc' := 51) C dX11_bestMode_48 fl_X11_45 hzx32 rfl ?_
    refine j_iload_n (q := 3) (pc' := 52) C dX11_bestMode_51 rfl rfl rfl ?_
    obtain ⟨zc33, hzc33, hr⟩ := ob hr
    refine j_put (pc' := 55) C dX11_bestMode_52 fw_X11_135 rfl rfl hzc33 rfl ?_
    refine j_aload_n (q := 0) (pc' := 56) C dX11_bestMode_55 rfl rfl rfl ?_
    obtain ⟨zx34, hzx34, hr⟩ := ob hr
    refine j_getA (pc' := 59) C dX11_bestMode_56 fl_X11_45 hzx34 rfl ?_
    refine j_sipush (v := 400) (pc' := 62) C dX11_bestMode_59 kS_400 rfl ?_
    obtain ⟨zz35, hzz35, hr⟩ := ob hr
    obtain ⟨zq36, zt37, hzq36, hr, azt37, bzt37, czt37, dzt37⟩ := adcB_s hr
    refine j_k (kc' := zt3.2.2.1 + zK5 + zt37.2.2.1 + zq36.2.2.1) (ks' := zt3.2.2.2 + zS6 + zt37.2.2.2 + zq36.2.2.2) (by omega) (by omega) ?_
    obtain ⟨fhzz35, hzz35⟩ := rcv_sp hzz35
    refine j_callVA (ci := 6) (As := [.int (400 : Int32)]) (rest := []) (st1 := [.int zq36.1]) (pc' := 65) C ⟨wm_887, wm_888⟩ rfl hzz35 (c_X8_goOn hzq36) yw_X8_goOn wm_886 rfl rfl (Nat.le_of_ble_eq_true rfl) ⟨by decide, by decide⟩ dX11_bestMode_62 rfl rfl ?_
    refine j_istore (lv' := [(4, .int zq36.1), (0, .ref this), (1, .int zs1.1), (2, .int zs1.2.1), (3, .int zs1.2.2)]) (pc' := 67) C dX11_bestMode_65 (by decide) rfl rfl ?_
    refine j_aload_n (q := 1) (pc' := 68) C dX11_bestMode_67 rfl rfl rfl ?_
    obtain ⟨zx38, hzx38, hr⟩ := ob hr
    refine j_getA (pc' := 71) C dX11_bestMode_68 fl_X11_45 hzx38 rfl ?_
    obtain ⟨zz39, hzz39, hr⟩ := ob hr
    obtain ⟨zx40, hzx40, hr⟩ := ob hr
    obtain ⟨fhzz39, hzz39⟩ := rcv_sp hzz39
    refine j_callV (ci := 6) (As := []) (rest := []) (st1 := [.int zx40]) (pc' := 74) C ⟨wm_883, wm_884⟩ rfl hzz39 (c_X8_isOver (nx := (nzs1 + zq36.2.2.1)) hzx40) yw_X8_isOver wm_882 rfl rfl (Nat.le_of_ble_eq_true rfl) ⟨by decide, by decide⟩ dX11_bestMode_71 rfl rfl ?_
    refine j_if_eq (tgt := 88) (pc' := 77) C dX11_bestMode_74 rfl rfl (fun hc => ?_) (fun hc => ?_)
    · have hr := ifT hc hr
      clear hc
      refine j_iinc (q := 4) (v := 1) (lv' := [(3, .int (zs1.2.2 + (1 : Int32))), (4, .int zq36.1), (0, .ref this), (1, .int zs1.1), (2, .int zs1.2.1)]) (pc' := 91) C dX11_bestMode_88 rfl kI_1 (by decide) rfl rfl ?_
      refine j_goto (tgt := 8) C dX11_bestMode_91 rfl ?_
      obtain ⟨azf41, bzf42, czf43, dzf44⟩ := some4 hr
      refine j_k (kc' := zt3.2.2.1 + zK5) (ks' := zt3.2.2.2 + zS6) (by omega) (by omega) ?_
      refine j_at (nx' := nzs1 + zb4.2.2.1) (by omega) (bzt37.trans bzf42).symm ?_
      exact j_lv [2, 3, 4, 0] rfl (izs1 _ (azt37.trans azf41))
    · have hr := ifF hc hr
      clear hc
      refine j_iload (q := 0) (pc' := 79) C dX11_bestMode_77 rfl rfl ?_
      refine j_iload_n (q := 3) (pc' := 80) C dX11_bestMode_79 rfl rfl rfl ?_
      refine j_ic_ge (tgt := 88) (pc' := 83) C dX11_bestMode_80 rfl rfl (fun hc => ?_) (fun hc => ?_)
      · have hr := ifT hc hr
        clear hc
        refine j_iinc (q := 4) (v := 1) (lv' := [(3, .int (zs1.2.2 + (1 : Int32))), (4, .int zq36.1), (0, .ref this), (1, .int zs1.1), (2, .int zs1.2.1)]) (pc' := 91) C dX11_bestMode_88 rfl kI_1 (by decide) rfl rfl ?_
        refine j_goto (tgt := 8) C dX11_bestMode_91 rfl ?_
        obtain ⟨azf45, bzf46, czf47, dzf48⟩ := some4 hr
        refine j_k (kc' := zt3.2.2.1 + zK5) (ks' := zt3.2.2.2 + zS6) (by omega) (by omega) ?_
        refine j_at (nx' := nzs1 + zb4.2.2.1) (by omega) (bzt37.trans bzf46).symm ?_
        exact j_lv [2, 3, 4, 0] rfl (izs1 _ (azt37.trans azf45))
      · have hr := ifF hc hr
        clear hc
        refine j_iload_n (q := 4) (pc' := 84) C dX11_bestMode_83 rfl rfl rfl ?_
        refine j_istore_n (lv' := [(1, .int zs1.2.2), (4, .int zq36.1), (0, .ref this), (2, .int zs1.2.1), (3, .int zs1.2.2)]) (pc' := 85) C dX11_bestMode_84 rfl (by decide) rfl rfl ?_
        refine j_iload (q := 1) (pc' := 87) C dX11_bestMode_85 rfl rfl ?_
        refine j_istore_n (lv' := [(2, .int zq36.1), (1, .int zs1.2.2), (4, .int zq36.1), (0, .ref this), (3, .int zs1.2.2)]) (pc' := 88) C dX11_bestMode_87 rfl (by decide) rfl rfl ?_
        refine j_iinc (q := 4) (v := 1) (lv' := [(3, .int (zs1.2.2 + (1 : Int32))), (2, .int zq36.1), (1, .int zs1.2.2), (4, .int zq36.1), (0, .ref this)]) (pc' := 91) C dX11_bestMode_88 rfl kI_1 (by decide) rfl rfl ?_
        refine j_goto (tgt := 8) C dX11_bestMode_91 rfl ?_
        obtain ⟨azf49, bzf50, czf51, dzf52⟩ := some4 hr
        refine j_k (kc' := zt3.2.2.1 + zK5) (ks' := zt3.2.2.2 + zS6) (by omega) (by omega) ?_
        refine j_at (nx' := nzs1 + zb4.2.2.1) (by omega) (bzt37.trans bzf50).symm ?_
        exact j_lv [4, 2, 1, 0] rfl (izs1 _ (azt37.trans azf49))
def m_X11_mean (ce : Ce) (this : Nat) : Option (Int64) :=
  (gA ce 8 6 this).bind fun zx1 =>
  (gA ce 7 4 zx1).bind fun zx2 =>
  (gI ce 6 7 zx2).bind fun zx3 =>
  if 0 < zx3 then
    (gI ce 6 8 zx2).bind fun zx4 =>
    (gI ce 6 7 zx2).bind fun zx5 =>
    (dq (FP.ddiv (FP.i2d zx4) (FP.i2d zx5))).bind fun zx6 =>
    (m_X4_ofDouble zx6).bind fun zx7 =>
    some zx7
  else
    some (0 : Int64)
set_option maxRecDepth 100000 in
set_option maxHeartbeats 4000000 in
theorem c_X11_mean {nx : Nat} {ce : Ce} {this : Nat} {q : Int64} (hr : m_X11_mean ce this = some q) : Ct yX11_mean cX11_mean 2 (some .long) 1 26 0 0 [.ref this] nx ce (some (.long q)) ce := by
  unfold m_X11_mean at hr
  refine ct_of (by decide) (Nat.le_of_ble_eq_true rfl) ?_
  intro G C hq hret hin
  show Jd G 0 0 nx ce 0 [(0, .ref this)] []
  refine j_aload_n (q := 0) (pc' := 1) C dX11_mean_0 rfl rfl rfl ?_
  obtain ⟨zx1, hzx1, hr⟩ := ob hr
  refine j_getA (pc' := 4) C dX11_mean_1 fl_X11_35 hzx1 rfl ?_
  obtain ⟨zx2, hzx2, hr⟩ := ob hr
  refine j_getA (pc' := 7) C dX11_mean_4 fl_X11_112 hzx2 rfl ?_
  refine j_astore_n (lv' := [(1, .ref zx2), (0, .ref this)]) (pc' := 8) C dX11_mean_7 rfl (by decide) rfl rfl ?_
  refine j_aload_n (q := 0) (pc' := 9) C dX11_mean_8 rfl rfl rfl ?_
  obtain ⟨zx3, hzx3, hr⟩ := ob hr
  refine j_getI (pc' := 12) C dX11_mean_9 fl_X11_200 hzx3 rfl ?_
  refine j_if_gt (tgt := 17) (pc' := 15) C dX11_mean_12 rfl rfl (fun hc => ?_) (fun hc => ?_)
  · have hr := ifT hc hr
    clear hc
    refine j_aload_n (q := 0) (pc' := 18) C dX11_mean_17 rfl rfl rfl ?_
    obtain ⟨zx4, hzx4, hr⟩ := ob hr
    refine j_getI (pc' := 21) C dX11_mean_18 fl_X11_203 hzx4 rfl ?_
    refine j_i2d (pc' := 22) C dX11_mean_21 rfl ?_
    refine j_aload_n (q := 0) (pc' := 23) C dX11_mean_22 rfl rfl rfl ?_
    obtain ⟨zx5, hzx5, hr⟩ := ob hr
    refine j_getI (pc' := 26) C dX11_mean_23 fl_X11_200 hzx5 rfl ?_
    refine j_i2d (pc' := 27) C dX11_mean_26 rfl ?_
    obtain ⟨zx6, hzx6, hr⟩ := ob hr
    refine j_ddiv (pc' := 28) C dX11_mean_27 hzx6 rfl ?_
    obtain ⟨zx7, hzx7, hr⟩ := ob hr
    refine j_callS (As := [.double zx6]) (rest := []) (st1 := [.long zx7]) (pc' := 31) C wm_1374 (c_X4_ofDouble (nx := nx) (ce := ce) hzx7) yw_X4_ofDouble wm_1373 rfl rfl (Nat.le_of_ble_eq_true rfl) ⟨by decide, by decide⟩ dX11_mean_28 rfl rfl ?_
    have hr := Option.some.inj hr
    subst hr
    exact j_lret C hq hret dX11_mean_31
  · have hr := ifF hc hr
    clear hc
    refine j_lconst (v := 0) (pc' := 16) C dX11_mean_15 kL_0 rfl ?_
    have hr := Option.some.inj hr
    subst hr
    exact j_lret C hq hret dX11_mean_16
def m_X11_image (nx : Nat) (ce : Ce) (this : Nat) : Option (Int32 × Ce × Nat × Nat) :=
  (gA ce 8 7 this).bind fun zx1 =>
  (gA ce 8 6 this).bind fun zx2 =>
  (rcv ce 7 zx1).bind fun zz3 =>
  adcB (m_X10_become nx ce zx1 zx2) fun zq4 =>
  (gA zq4.2.1 8 6 this).bind fun zx6 =>
  (gA zq4.2.1 7 4 zx6).bind fun zx7 =>
  (gI zq4.2.1 6 3 zx7).bind fun zx8 =>
  some (zx8, zq4.2.1, 0, 0)
set_option maxRecDepth 100000 in
set_option maxHeartbeats 4000000 in
theorem c_X11_image {nx : Nat} {ce : Ce} {this : Nat} {q : Int32 × Ce × Nat × Nat} (hr : m_X11_image nx ce this = some q) : Ct yX11_image cX11_image 1 (some .int) 6 167 q.2.2.1 q.2.2.2 [.ref this] nx ce (some (.int q.1)) q.2.1 := by
  unfold m_X11_image at hr
  refine ct_of (by decide) (Nat.le_of_ble_eq_true rfl) ?_
  intro G C hq hret hin
  show Jd G q.2.2.1 q.2.2.2 nx ce 0 [(0, .ref this)] []
  refine j_aload_n (q := 0) (pc' := 1) C dX11_image_0 rfl rfl rfl ?_
  obtain ⟨zx1, hzx1, hr⟩ := ob hr
  refine j_getA (pc' := 4) C dX11_image_1 fl_X11_39 hzx1 rfl ?_
  refine j_aload_n (q := 0) (pc' := 5) C dX11_image_4 rfl rfl rfl ?_
  obtain ⟨zx2, hzx2, hr⟩ := ob hr
  refine j_getA (pc' := 8) C dX11_image_5 fl_X11_35 hzx2 rfl ?_
  obtain ⟨zz3, hzz3, hr⟩ := ob hr
  obtain ⟨zq4, zt5, hzq4, hr, azt5, bzt5, czt5, dzt5⟩ := adcB_s hr
  refine j_k (kc' := zt5.2.2.1 + zq4.2.2.1) (ks' := zt5.2.2.2 + zq4.2.2.2) (by omega) (by omega) ?_
  obtain ⟨fhzz3, hzz3⟩ := rcv_sp hzz3
  refine j_callVA (ci := 7) (As := [.ref zx2]) (rest := []) (st1 := []) (pc' := 11) C ⟨wm_1384, wm_1385⟩ rfl hzz3 (c_X10_become hzq4) yw_X10_become wm_1383 rfl rfl (Nat.le_of_ble_eq_true rfl) ⟨by decide, by decide⟩ dX11_image_8 rfl rfl ?_
  refine j_aload_n (q := 0) (pc' := 12) C dX11_image_11 rfl rfl rfl ?_
  obtain ⟨zx6, hzx6, hr⟩ := ob hr
  refine j_getA (pc' := 15) C dX11_image_12 fl_X11_35 hzx6 rfl ?_
  obtain ⟨zx7, hzx7, hr⟩ := ob hr
  refine j_getA (pc' := 18) C dX11_image_15 fl_X11_112 hzx7 rfl ?_
  obtain ⟨zx8, hzx8, hr⟩ := ob hr
  refine j_getI (pc' := 21) C dX11_image_18 fl_X11_176 hzx8 rfl ?_
  obtain ⟨azf9, bzf10, czf11, dzf12⟩ := some4 hr
  refine j_k (kc' := 0) (ks' := 0) (by omega) (by omega) ?_
  rw [show nx + q.2.2.1 = (nx + zq4.2.2.1) by omega, (bzt5.trans bzf10), (azt5.trans azf9)] at hq
  exact j_iret C hq hret dX11_image_21
def m_X11_back (nx : Nat) (ce : Ce) (this : Nat) : Option (Int32 × Ce × Nat × Nat) :=
  (gA ce 8 6 this).bind fun zx1 =>
  (gA ce 8 7 this).bind fun zx2 =>
  (rcv ce 7 zx1).bind fun zz3 =>
  adcB (m_X10_become nx ce zx1 zx2) fun zq4 =>
  (gA zq4.2.1 8 6 this).bind fun zx6 =>
  (gA zq4.2.1 7 4 zx6).bind fun zx7 =>
  (gI zq4.2.1 6 3 zx7).bind fun zx8 =>
  some (zx8, zq4.2.1, 0, 0)
set_option maxRecDepth 100000 in
set_option maxHeartbeats 4000000 in
theorem c_X11_back {nx : Nat} {ce : Ce} {this : Nat} {q : Int32 × Ce × Nat × Nat} (hr : m_X11_back nx ce this = some q) : Ct yX11_back cX11_back 1 (some .int) 6 167 q.2.2.1 q.2.2.2 [.ref this] nx ce (some (.int q.1)) q.2.1 := by
  unfold m_X11_back at hr
  refine ct_of (by decide) (Nat.le_of_ble_eq_true rfl) ?_
  intro G C hq hret hin
  show Jd G q.2.2.1 q.2.2.2 nx ce 0 [(0, .ref this)] []
  refine j_aload_n (q := 0) (pc' := 1) C dX11_back_0 rfl rfl rfl ?_
  obtain ⟨zx1, hzx1, hr⟩ := ob hr
  refine j_getA (pc' := 4) C dX11_back_1 fl_X11_35 hzx1 rfl ?_
  refine j_aload_n (q := 0) (pc' := 5) C dX11_back_4 rfl rfl rfl ?_
  obtain ⟨zx2, hzx2, hr⟩ := ob hr
  refine j_getA (pc' := 8) C dX11_back_5 fl_X11_39 hzx2 rfl ?_
  obtain ⟨zz3, hzz3, hr⟩ := ob hr
  obtain ⟨zq4, zt5, hzq4, hr, azt5, bzt5, czt5, dzt5⟩ := adcB_s hr
  refine j_k (kc' := zt5.2.2.1 + zq4.2.2.1) (ks' := zt5.2.2.2 + zq4.2.2.2) (by omega) (by omega) ?_
  obtain ⟨fhzz3, hzz3⟩ := rcv_sp hzz3
  refine j_callVA (ci := 7) (As := [.ref zx2]) (rest := []) (st1 := []) (pc' := 11) C ⟨wm_1384, wm_1385⟩ rfl hzz3 (c_X10_become hzq4) yw_X10_become wm_1383 rfl rfl (Nat.le_of_ble_eq_true rfl) ⟨by decide, by decide⟩ dX11_back_8 rfl rfl ?_
  refine j_aload_n (q := 0) (pc' := 12) C dX11_back_11 rfl rfl rfl ?_
  obtain ⟨zx6, hzx6, hr⟩ := ob hr
  refine j_getA (pc' := 15) C dX11_back_12 fl_X11_35 hzx6 rfl ?_
  obtain ⟨zx7, hzx7, hr⟩ := ob hr
  refine j_getA (pc' := 18) C dX11_back_15 fl_X11_112 hzx7 rfl ?_
  obtain ⟨zx8, hzx8, hr⟩ := ob hr
  refine j_getI (pc' := 21) C dX11_back_18 fl_X11_176 hzx8 rfl ?_
  obtain ⟨azf9, bzf10, czf11, dzf12⟩ := some4 hr
  refine j_k (kc' := 0) (ks' := 0) (by omega) (by omega) ?_
  rw [show nx + q.2.2.1 = (nx + zq4.2.2.1) by omega, (bzt5.trans bzf10), (azt5.trans azf9)] at hq
  exact j_iret C hq hret dX11_back_21
def m_X11_about (ce : Ce) (this : Nat) (p1 : Int32) : Option (Int32) :=
  if p1 = (0 : Int32) then
    (gA ce 8 6 this).bind fun zx1 =>
    (gI ce 7 1 zx1).bind fun zx2 =>
    some zx2
  else
  if p1 = (1 : Int32) then
    (gA ce 8 6 this).bind fun zx3 =>
    (gI ce 7 3 zx3).bind fun zx4 =>
    some zx4
  else
  if p1 = (2 : Int32) then
    (gA ce 8 6 this).bind fun zx5 =>
    (gA ce 7 4 zx5).bind fun zx6 =>
    (gA ce 6 14 zx6).bind fun zx7 =>
    (gI ce 2 3 zx7).bind fun zx8 =>
    some zx8
  else
  if p1 = (3 : Int32) then
    (gI ce 8 1 this).bind fun zx9 =>
    some zx9
  else
  if p1 = (4 : Int32) then
    (gA ce 8 6 this).bind fun zx10 =>
    (gA ce 7 4 zx10).bind fun zx11 =>
    (gI ce 6 2 zx11).bind fun zx12 =>
    some zx12
  else
  some (-2 : Int32)
set_option maxRecDepth 100000 in
set_option maxHeartbeats 4000000 in
theorem c_X11_about {nx : Nat} {ce : Ce} {this : Nat} {p1 : Int32} {q : Int32} (hr : m_X11_about ce this p1 = some q) : Ct yX11_about cX11_about 2 (some .int) 0 0 0 0 [.ref this, .int p1] nx ce (some (.int q)) ce := by
  unfold m_X11_about at hr
  refine ct_of (by decide) (Nat.le_of_ble_eq_true rfl) ?_
  intro G C hq hret hin
  show Jd G 0 0 nx ce 0 [(0, .ref this), (1, .int p1)] []
  refine j_iload_n (q := 1) (pc' := 1) C dX11_about_0 rfl rfl rfl ?_
  by_cases hc0 : p1 = (0 : Int32)
  · have hr := ifT hc0 hr
    refine j_tabIn (v := 0) (off := 35) (tgt := 36) C dX11_about_1 hc0 (by decide) rfl ?_
    refine j_aload_n (q := 0) (pc' := 37) C dX11_about_36 rfl rfl rfl ?_
    obtain ⟨zx1, hzx1, hr⟩ := ob hr
    refine j_getA (pc' := 40) C dX11_about_37 fl_X11_35 hzx1 rfl ?_
    obtain ⟨zx2, hzx2, hr⟩ := ob hr
    refine j_getI (pc' := 43) C dX11_about_40 fl_X11_78 hzx2 rfl ?_
    have hr := Option.some.inj hr
    subst hr
    exact j_iret C hq hret dX11_about_43
  have hr := ifF hc0 hr
  by_cases hc1 : p1 = (1 : Int32)
  · have hr := ifT hc1 hr
    refine j_tabIn (v := 1) (off := 43) (tgt := 44) C dX11_about_1 hc1 (by decide) rfl ?_
    refine j_aload_n (q := 0) (pc' := 45) C dX11_about_44 rfl rfl rfl ?_
    obtain ⟨zx3, hzx3, hr⟩ := ob hr
    refine j_getA (pc' := 48) C dX11_about_45 fl_X11_35 hzx3 rfl ?_
    obtain ⟨zx4, hzx4, hr⟩ := ob hr
    refine j_getI (pc' := 51) C dX11_about_48 fl_X11_425 hzx4 rfl ?_
    have hr := Option.some.inj hr
    subst hr
    exact j_iret C hq hret dX11_about_51
  have hr := ifF hc1 hr
  by_cases hc2 : p1 = (2 : Int32)
  · have hr := ifT hc2 hr
    refine j_tabIn (v := 2) (off := 51) (tgt := 52) C dX11_about_1 hc2 (by decide) rfl ?_
    refine j_aload_n (q := 0) (pc' := 53) C dX11_about_52 rfl rfl rfl ?_
    obtain ⟨zx5, hzx5, hr⟩ := ob hr
    refine j_getA (pc' := 56) C dX11_about_53 fl_X11_35 hzx5 rfl ?_
    obtain ⟨zx6, hzx6, hr⟩ := ob hr
    refine j_getA (pc' := 59) C dX11_about_56 fl_X11_112 hzx6 rfl ?_
    obtain ⟨zx7, hzx7, hr⟩ := ob hr
    refine j_getA (pc' := 62) C dX11_about_59 fl_X11_358 hzx7 rfl ?_
    obtain ⟨zx8, hzx8, hr⟩ := ob hr
    refine j_getI (pc' := 65) C dX11_about_62 fl_X11_294 hzx8 rfl ?_
    have hr := Option.some.inj hr
    subst hr
    exact j_iret C hq hret dX11_about_65
  have hr := ifF hc2 hr
  by_cases hc3 : p1 = (3 : Int32)
  · have hr := ifT hc3 hr
    refine j_tabIn (v := 3) (off := 65) (tgt := 66) C dX11_about_1 hc3 (by decide) rfl ?_
    refine j_aload_n (q := 0) (pc' := 67) C dX11_about_66 rfl rfl rfl ?_
    obtain ⟨zx9, hzx9, hr⟩ := ob hr
    refine j_getI (pc' := 70) C dX11_about_67 fl_X11_71 hzx9 rfl ?_
    have hr := Option.some.inj hr
    subst hr
    exact j_iret C hq hret dX11_about_70
  have hr := ifF hc3 hr
  by_cases hc4 : p1 = (4 : Int32)
  · have hr := ifT hc4 hr
    refine j_tabIn (v := 4) (off := 70) (tgt := 71) C dX11_about_1 hc4 (by decide) rfl ?_
    refine j_aload_n (q := 0) (pc' := 72) C dX11_about_71 rfl rfl rfl ?_
    obtain ⟨zx10, hzx10, hr⟩ := ob hr
    refine j_getA (pc' := 75) C dX11_about_72 fl_X11_35 hzx10 rfl ?_
    obtain ⟨zx11, hzx11, hr⟩ := ob hr
    refine j_getA (pc' := 78) C dX11_about_75 fl_X11_112 hzx11 rfl ?_
    obtain ⟨zx12, hzx12, hr⟩ := ob hr
    refine j_getI (pc' := 81) C dX11_about_78 fl_X11_135 hzx12 rfl ?_
    have hr := Option.some.inj hr
    subst hr
    exact j_iret C hq hret dX11_about_81
  have hr := ifF hc4 hr
  refine j_tabOut (tgt := 82) C dX11_about_1 (tab_out 5 (by decide) (by decide) (by decide) (fun i hi => by
    match i, hi with
    | 0, _ => exact hc0
    | 1, _ => exact hc1
    | 2, _ => exact hc2
    | 3, _ => exact hc3
    | 4, _ => exact hc4
    | i + 5, hi => omega)) rfl ?_
  refine j_bipush (v := -2) (pc' := 84) C dX11_about_82 kB_m2 rfl ?_
  have hr := Option.some.inj hr
  subst hr
  exact j_iret C hq hret dX11_about_84
def m_X12_init (nx : Nat) (ce : Ce) (this : Nat) : Option (Unit × Ce × Nat × Nat) :=
  (nwa (113844 : Int32)).bind fun zk3 =>
  adcK 1 zk3 fun _ =>
  (some (gx_up ce nx (.inl (.int, zk3, .inl (fun _ => 0))))).bind fun zc2 =>
  (pV zc2 9 0 this (.ref nx)).bind fun zc4 =>
  (nwa (113844 : Int32)).bind fun zk7 =>
  adcK 1 zk7 fun _ =>
  (some (gx_up zc4 (nx + 1) (.inl (.int, zk7, .inl (fun _ => 0))))).bind fun zc6 =>
  (pV zc6 9 1 this (.ref (nx + 1))).bind fun zc8 =>
  (nwa (147 : Int32)).bind fun zk11 =>
  adcK 1 zk11 fun _ =>
  (some (gx_up zc8 ((nx + 1) + 1) (.inl (.float, zk11, .inr (.inr (.inl (fun _ => 0))))))).bind fun zc10 =>
  (pV zc10 9 2 this (.ref ((nx + 1) + 1))).bind fun zc12 =>
  (nwa (147 : Int32)).bind fun zk15 =>
  adcK 1 zk15 fun _ =>
  (some (gx_up zc12 (((nx + 1) + 1) + 1) (.inl (.float, zk15, .inr (.inr (.inl (fun _ => 0))))))).bind fun zc14 =>
  (pV zc14 9 3 this (.ref (((nx + 1) + 1) + 1))).bind fun zc16 =>
  (nwa (8 : Int32)).bind fun zk19 =>
  adcK 1 zk19 fun _ =>
  (some (gx_up zc16 ((((nx + 1) + 1) + 1) + 1) (.inl (.int, zk19, .inl (fun _ => 0))))).bind fun zc18 =>
  (pV zc18 9 4 this (.ref ((((nx + 1) + 1) + 1) + 1))).bind fun zc20 =>
  (nwa (116 : Int32)).bind fun zk23 =>
  adcK 1 zk23 fun _ =>
  (some (gx_up zc20 (((((nx + 1) + 1) + 1) + 1) + 1) (.inl (.long, zk23, .inr (.inl (fun _ => 0)))))).bind fun zc22 =>
  (pV zc22 9 5 this (.ref (((((nx + 1) + 1) + 1) + 1) + 1))).bind fun zc24 =>
  (nwa (300 : Int32)).bind fun zk27 =>
  adcK 1 zk27 fun _ =>
  (some (gx_up zc24 ((((((nx + 1) + 1) + 1) + 1) + 1) + 1) (.inl (.int, zk27, .inl (fun _ => 0))))).bind fun zc26 =>
  (pV zc26 9 6 this (.ref ((((((nx + 1) + 1) + 1) + 1) + 1) + 1))).bind fun zc28 =>
  (pV zc28 9 8 this (.int (-1 : Int32))).bind fun zc29 =>
  (pV zc29 9 9 this (.int (-1 : Int32))).bind fun zc30 =>
  (nwa (160 : Int32)).bind fun zk33 =>
  adcK 1 zk33 fun _ =>
  (some (gx_up zc30 (((((((nx + 1) + 1) + 1) + 1) + 1) + 1) + 1) (.inl (.long, zk33, .inr (.inl (fun _ => 0)))))).bind fun zc32 =>
  (pV zc32 9 14 this (.ref (((((((nx + 1) + 1) + 1) + 1) + 1) + 1) + 1))).bind fun zc34 =>
  (nwa (80 : Int32)).bind fun zk37 =>
  adcK 1 zk37 fun _ =>
  (some (gx_up zc34 ((((((((nx + 1) + 1) + 1) + 1) + 1) + 1) + 1) + 1) (.inl (.int, zk37, .inl (fun _ => 0))))).bind fun zc36 =>
  (pV zc36 9 15 this (.ref ((((((((nx + 1) + 1) + 1) + 1) + 1) + 1) + 1) + 1))).bind fun zc38 =>
  (nwa (6 : Int32)).bind fun zk41 =>
  adcK 1 zk41 fun _ =>
  (some (gx_up zc38 (((((((((nx + 1) + 1) + 1) + 1) + 1) + 1) + 1) + 1) + 1) (.inl (.int, zk41, .inl (fun _ => 0))))).bind fun zc40 =>
  (pV zc40 9 23 this (.ref (((((((((nx + 1) + 1) + 1) + 1) + 1) + 1) + 1) + 1) + 1))).bind fun zc42 =>
  (nwa (5000 : Int32)).bind fun zk45 =>
  adcK 1 zk45 fun _ =>
  (some (gx_up zc42 ((((((((((nx + 1) + 1) + 1) + 1) + 1) + 1) + 1) + 1) + 1) + 1) (.inl (.int, zk45, .inl (fun _ => 0))))).bind fun zc44 =>
  (pV zc44 9 24 this (.ref ((((((((((nx + 1) + 1) + 1) + 1) + 1) + 1) + 1) + 1) + 1) + 1))).bind fun zc46 =>
  (nwa (5421 : Int32)).bind fun zk49 =>
  adcK 1 zk49 fun _ =>
  (some (gx_up zc46 (((((((((((nx + 1) + 1) + 1) + 1) + 1) + 1) + 1) + 1) + 1) + 1) + 1) (.inl (.int, zk49, .inl (fun _ => 0))))).bind fun zc48 =>
  (pV zc48 9 25 this (.ref (((((((((((nx + 1) + 1) + 1) + 1) + 1) + 1) + 1) + 1) + 1) + 1) + 1))).bind fun zc50 =>
  (nwa (7 : Int32)).bind fun zk53 =>
  adcK 1 zk53 fun _ =>
  (some (gx_up zc50 ((((((((((((nx + 1) + 1) + 1) + 1) + 1) + 1) + 1) + 1) + 1) + 1) + 1) + 1) (.inl (.float, zk53, .inr (.inr (.inl (fun _ => 0))))))).bind fun zc52 =>
  (pV zc52 9 26 this (.ref ((((((((((((nx + 1) + 1) + 1) + 1) + 1) + 1) + 1) + 1) + 1) + 1) + 1) + 1))).bind fun zc54 =>
  (nwa (80 : Int32)).bind fun zk57 =>
  adcK 1 zk57 fun _ =>
  (some (gx_up zc54 (((((((((((((nx + 1) + 1) + 1) + 1) + 1) + 1) + 1) + 1) + 1) + 1) + 1) + 1) + 1) (.inl (.int, zk57, .inl (fun _ => 0))))).bind fun zc56 =>
  (pV zc56 9 27 this (.ref (((((((((((((nx + 1) + 1) + 1) + 1) + 1) + 1) + 1) + 1) + 1) + 1) + 1) + 1) + 1))).bind fun zc58 =>
  (nwa (5000 : Int32)).bind fun zk61 =>
  adcK 1 zk61 fun _ =>
  (some (gx_up zc58 ((((((((((((((nx + 1) + 1) + 1) + 1) + 1) + 1) + 1) + 1) + 1) + 1) + 1) + 1) + 1) + 1) (.inl (.int, zk61, .inl (fun _ => 0))))).bind fun zc60 =>
  (pV zc60 9 29 this (.ref ((((((((((((((nx + 1) + 1) + 1) + 1) + 1) + 1) + 1) + 1) + 1) + 1) + 1) + 1) + 1) + 1))).bind fun zc62 =>
  (nwa (5000 : Int32)).bind fun zk65 =>
  adcK 1 zk65 fun _ =>
  (some (gx_up zc62 (((((((((((((((nx + 1) + 1) + 1) + 1) + 1) + 1) + 1) + 1) + 1) + 1) + 1) + 1) + 1) + 1) + 1) (.inl (.int, zk65, .inl (fun _ => 0))))).bind fun zc64 =>
  (pV zc64 9 30 this (.ref (((((((((((((((nx + 1) + 1) + 1) + 1) + 1) + 1) + 1) + 1) + 1) + 1) + 1) + 1) + 1) + 1) + 1))).bind fun zc66 =>
  (nwa (12 : Int32)).bind fun zk69 =>
  adcK 1 zk69 fun _ =>
  (some (gx_up zc66 ((((((((((((((((nx + 1) + 1) + 1) + 1) + 1) + 1) + 1) + 1) + 1) + 1) + 1) + 1) + 1) + 1) + 1) + 1) (.inl (.long, zk69, .inr (.inl (fun _ => 0)))))).bind fun zc68 =>
  (pV zc68 9 32 this (.ref ((((((((((((((((nx + 1) + 1) + 1) + 1) + 1) + 1) + 1) + 1) + 1) + 1) + 1) + 1) + 1) + 1) + 1) + 1))).bind fun zc70 =>
  (gA zc70 9 0 this).bind fun zx71 =>
  (sI zc70 zx71 (3 : Int32) (3 : Int32)).bind fun zc72 =>
  (gA zc72 9 0 this).bind fun zx73 =>
  (sI zc72 zx73 (7 : Int32) (1 : Int32)).bind fun zc74 =>
  (it (fun (zs75 : Int32 × Ce) =>
    if (8 : Int32) ≤ zs75.1 then
      some (Sum.inr ((), zs75.2))
    else
      (it (fun (zs92 : Int32 × Ce) =>
        if (4 : Int32) ≤ zs92.1 then
          some (Sum.inr ((), zs92.2))
        else
          (gA zs92.2 9 0 this).bind fun zx95 =>
          (aI zs92.2 zx95 ((28 : Int32) + zs75.1)).bind fun zx96 =>
          (sI zs92.2 zx95 ((28 : Int32) + zs75.1) (zx96 ||| (zs75.1 <<< (((6 : Int32) * zs92.1) &&& 31)))).bind fun zc97 =>
          some (Sum.inl ((zs92.1 + (1 : Int32)), zc97))
      ) FU ((0 : Int32), zs75.2)).bind fun (zo93 : Unit × Ce) =>
      some (Sum.inl ((zs75.1 + (1 : Int32)), zo93.2))
  ) FU ((0 : Int32), zc74)).bind fun (zo76 : Unit × Ce) =>
  (rcv zo76.2 9 this).bind fun zz78 =>
  (m_X12_putSet zo76.2 this (0 : Int32) (1 : Int64)).bind fun zq79 =>
  (rcv zq79.2 9 this).bind fun zz80 =>
  (m_X12_anew zq79.2 this).bind fun zq81 =>
  (gA zq81.2 9 0 this).bind fun zx82 =>
  (gA zq81.2 9 1 this).bind fun zx83 =>
  (m_X12_copy zq81.2 zx82 zx83).bind fun zq84 =>
  (gA zq84.2 9 2 this).bind fun zx85 =>
  (gA zq84.2 9 3 this).bind fun zx86 =>
  (m_X12_copyFloats zq84.2 zx85 zx86).bind fun zq87 =>
  some ((), zq87.2, 0, 0)
set_option maxRecDepth 100000 in
set_option maxHeartbeats 4000000 in
theorem c_X12_init {nx : Nat} {ce : Ce} {this : Nat} {q : Unit × Ce × Nat × Nat} (hr : m_X12_init nx ce this = some q) : Ct yX12_init cX12_init 3 none 1 23 q.2.2.1 q.2.2.2 [.ref this] nx ce none q.2.1 := by
  unfold m_X12_init at hr
  refine ct_of (by decide) (Nat.le_of_ble_eq_true rfl) ?_
  intro G C hq hret hin
  show Jd G q.2.2.1 q.2.2.2 nx ce 0 [(0, .ref this)] []
  refine j_aload_n (q := 0) (pc' := 1) C dX12_init_0 rfl rfl rfl ?_
  refine j_objInit (pc' := 4) C dX12_init_1 wm_1400 wm_157 wm_oi ⟨by decide, by decide⟩ (Nat.le_of_ble_eq_true rfl) rfl ?_
  refine j_aload_n (q := 0) (pc' := 5) C dX12_init_4 rfl rfl rfl ?_
  refine j_ldc (pc' := 7) C dX12_init_5 wm_1401 rfl ?_
  obtain ⟨zk3, hzk3, hr⟩ := ob hr
  obtain ⟨nzk3, ezk3, bzk3⟩ := nwa_sp hzk3
  obtain ⟨zt1, hr, azt1, bzt1, czt1, dzt1⟩ := adcK_s hr
  obtain ⟨zc2, hzc2, hr⟩ := ob hr
  have hzc2 := Option.some.inj hzc2
  refine j_k (kc' := zt1.2.2.1 + 1) (ks' := zt1.2.2.2 + zk3) (by omega) (by omega) ?_
  refine j_newa (ty := .int) (t0 := 0) (a0 := (zk3, .inl (fun _ => 0))) (N := zk3) (pc' := 9) C dX12_init_7 rfl (fun _ => rfl) (fun _ _ => rfl) wm_214 (fun _ => rfl) nzk3 ezk3 (Nat.le_trans (Nat.mul_le_mul_left _ (by decide)) bzk3) rfl ?_
  rw [hzc2]
  obtain ⟨zc4, hzc4, hr⟩ := ob hr
  refine j_putF (pc' := 12) C hin dX12_init_9 fw_X12_8 rfl rfl hzc4 rfl ?_
  refine j_aload_n (q := 0) (pc' := 13) C dX12_init_12 rfl rfl rfl ?_
  refine j_ldc (pc' := 15) C dX12_init_13 wm_1401 rfl ?_
  obtain ⟨zk7, hzk7, hr⟩ := ob hr
  obtain ⟨nzk7, ezk7, bzk7⟩ := nwa_sp hzk7
  obtain ⟨zt5, hr, azt5, bzt5, czt5, dzt5⟩ := adcK_s hr
  obtain ⟨zc6, hzc6, hr⟩ := ob hr
  have hzc6 := Option.some.inj hzc6
  refine j_k (kc' := zt5.2.2.1 + 1) (ks' := zt5.2.2.2 + zk7) (by omega) (by omega) ?_
  refine j_newa (ty := .int) (t0 := 0) (a0 := (zk7, .inl (fun _ => 0))) (N := zk7) (pc' := 17) C dX12_init_15 rfl (fun _ => rfl) (fun _ _ => rfl) wm_214 (fun _ => rfl) nzk7 ezk7 (Nat.le_trans (Nat.mul_le_mul_left _ (by decide)) bzk7) rfl ?_
  rw [hzc6]
  obtain ⟨zc8, hzc8, hr⟩ := ob hr
  refine j_putF (pc' := 20) C hin dX12_init_17 fw_X12_14 rfl rfl hzc8 rfl ?_
  refine j_aload_n (q := 0) (pc' := 21) C dX12_init_20 rfl rfl rfl ?_
  refine j_sipush (v := 147) (pc' := 24) C dX12_init_21 kS_147 rfl ?_
  obtain ⟨zk11, hzk11, hr⟩ := ob hr
  obtain ⟨nzk11, ezk11, bzk11⟩ := nwa_sp hzk11
  obtain ⟨zt9, hr, azt9, bzt9, czt9, dzt9⟩ := adcK_s hr
  obtain ⟨zc10, hzc10, hr⟩ := ob hr
  have hzc10 := Option.some.inj hzc10
  refine j_k (kc' := zt9.2.2.1 + 1) (ks' := zt9.2.2.2 + zk11) (by omega) (by omega) ?_
  refine j_newa (ty := .float) (t0 := 2) (a0 := (zk11, .inr (.inr (.inl (fun _ => 0))))) (N := zk11) (pc' := 26) C dX12_init_24 rfl (fun _ => rfl) (fun _ _ => rfl) wm_323 (fun _ => rfl) nzk11 ezk11 (Nat.le_trans (Nat.mul_le_mul_left _ (by decide)) bzk11) rfl ?_
  rw [hzc10]
  obtain ⟨zc12, hzc12, hr⟩ := ob hr
  refine j_putF (pc' := 29) C hin dX12_init_26 fw_X12_17 rfl rfl hzc12 rfl ?_
  refine j_aload_n (q := 0) (pc' := 30) C dX12_init_29 rfl rfl rfl ?_
  refine j_sipush (v := 147) (pc' := 33) C dX12_init_30 kS_147 rfl ?_
  obtain ⟨zk15, hzk15, hr⟩ := ob hr
  obtain ⟨nzk15, ezk15, bzk15⟩ := nwa_sp hzk15
  obtain ⟨zt13, hr, azt13, bzt13, czt13, dzt13⟩ := adcK_s hr
  obtain ⟨zc14, hzc14, hr⟩ := ob hr
  have hzc14 := Option.some.inj hzc14
  refine j_k (kc' := zt13.2.2.1 + 1) (ks' := zt13.2.2.2 + zk15) (by omega) (by omega) ?_
  refine j_newa (ty := .float) (t0 := 2) (a0 := (zk15, .inr (.inr (.inl (fun _ => 0))))) (N := zk15) (pc' := 35) C dX12_init_33 rfl (fun _ => rfl) (fun _ _ => rfl) wm_323 (fun _ => rfl) nzk15 ezk15 (Nat.le_trans (Nat.mul_le_mul_left _ (by decide)) bzk15) rfl ?_
  rw [hzc14]
  obtain ⟨zc16, hzc16, hr⟩ := ob hr
  refine j_putF (pc' := 38) C hin dX12_init_35 fw_X12_21 rfl rfl hzc16 rfl ?_
  refine j_aload_n (q := 0) (pc' := 39) C dX12_init_38 rfl rfl rfl ?_
  refine j_bipush (v := 8) (pc' := 41) C dX12_init_39 kB_8 rfl ?_
  obtain ⟨zk19, hzk19, hr⟩ := ob hr
  obtain ⟨nzk19, ezk19, bzk19⟩ := nwa_sp hzk19
  obtain ⟨zt17, hr, azt17, bzt17, czt17, dzt17⟩ := adcK_s hr
  obtain ⟨zc18, hzc18, hr⟩ := ob hr
  have hzc18 := Option.some.inj hzc18
  refine j_k (kc' := zt17.2.2.1 + 1) (ks' := zt17.2.2.2 + zk19) (by omega) (by omega) ?_
  refine j_newa (ty := .int) (t0 := 0) (a0 := (zk19, .inl (fun _ => 0))) (N := zk19) (pc' := 43) C dX12_init_41 rfl (fun _ => rfl) (fun _ _ => rfl) wm_214 (fun _ => rfl) nzk19 ezk19 (Nat.le_trans (Nat.mul_le_mul_left _ (by decide)) bzk19) rfl ?_
  rw [hzc18]
  obtain ⟨zc20, hzc20, hr⟩ := ob hr
  refine j_putF (pc' := 46) C hin dX12_init_43 fw_X12_24 rfl rfl hzc20 rfl ?_
  refine j_aload_n (q := 0) (pc' := 47) C dX12_init_46 rfl rfl rfl ?_
  refine j_bipush (v := 116) (pc' := 49) C dX12_init_47 kB_116 rfl ?_
  obtain ⟨zk23, hzk23, hr⟩ := ob hr
  obtain ⟨nzk23, ezk23, bzk23⟩ := nwa_sp hzk23
  obtain ⟨zt21, hr, azt21, bzt21, czt21, dzt21⟩ := adcK_s hr
  obtain ⟨zc22, hzc22, hr⟩ := ob hr
  have hzc22 := Option.some.inj hzc22
  refine j_k (kc' := zt21.2.2.1 + 1) (ks' := zt21.2.2.2 + zk23) (by omega) (by omega) ?_
  refine j_newa (ty := .long) (t0 := 1) (a0 := (zk23, .inr (.inl (fun _ => 0)))) (N := zk23) (pc' := 51) C dX12_init_49 rfl (fun _ => rfl) (fun _ _ => rfl) wm_215 (fun _ => rfl) nzk23 ezk23 (Nat.le_trans (Nat.mul_le_mul_left _ (by decide)) bzk23) rfl ?_
  rw [hzc22]
  obtain ⟨zc24, hzc24, hr⟩ := ob hr
  refine j_putF (pc' := 54) C hin dX12_init_51 fw_X12_27 rfl rfl hzc24 rfl ?_
  refine j_aload_n (q := 0) (pc' := 55) C dX12_init_54 rfl rfl rfl ?_
  refine j_sipush (v := 300) (pc' := 58) C dX12_init_55 kS_300 rfl ?_
  obtain ⟨zk27, hzk27, hr⟩ := ob hr
  obtain ⟨nzk27, ezk27, bzk27⟩ := nwa_sp hzk27
  obtain ⟨zt25, hr, azt25, bzt25, czt25, dzt25⟩ := adcK_s hr
  obtain ⟨zc26, hzc26, hr⟩ := ob hr
  have hzc26 := Option.some.inj hzc26
  refine j_k (kc' := zt25.2.2.1 + 1) (ks' := zt25.2.2.2 + zk27) (by omega) (by omega) ?_
  refine j_newa (ty := .int) (t0 := 0) (a0 := (zk27, .inl (fun _ => 0))) (N := zk27) (pc' := 60) C dX12_init_58 rfl (fun _ => rfl) (fun _ _ => rfl) wm_214 (fun _ => rfl) nzk27 ezk27 (Nat.le_trans (Nat.mul_le_mul_left _ (by decide)) bzk27) rfl ?_
  rw [hzc26]
  obtain ⟨zc28, hzc28, hr⟩ := ob hr
  refine j_putF (pc' := 63) C hin dX12_init_60 fw_X12_31 rfl rfl hzc28 rfl ?_
  refine j_aload_n (q := 0) (pc' := 64) C dX12_init_63 rfl rfl rfl ?_
  refine j_iconst (v := -1) (pc' := 65) C dX12_init_64 kI_m1 rfl ?_
  obtain ⟨zc29, hzc29, hr⟩ := ob hr
  refine j_put (pc' := 68) C dX12_init_65 fw_X12_34 rfl rfl hzc29 rfl ?_
  refine j_aload_n (q := 0) (pc' := 69) C dX12_init_68 rfl rfl rfl ?_
  refine j_iconst (v := -1) (pc' := 70) C dX12_init_69 kI_m1 rfl ?_
  obtain ⟨zc30, hzc30, hr⟩ := ob hr
  refine j_put (pc' := 73) C dX12_init_70 fw_X12_38 rfl rfl hzc30 rfl ?_
  refine j_aload_n (q := 0) (pc' := 74) C dX12_init_73 rfl rfl rfl ?_
  refine j_sipush (v := 160) (pc' := 77) C dX12_init_74 kS_160 rfl ?_
  obtain ⟨zk33, hzk33, hr⟩ := ob hr
  obtain ⟨nzk33, ezk33, bzk33⟩ := nwa_sp hzk33
  obtain ⟨zt31, hr, azt31, bzt31, czt31, dzt31⟩ := adcK_s hr
  obtain ⟨zc32, hzc32, hr⟩ := ob hr
  have hzc32 := Option.some.inj hzc32
  refine j_k (kc' := zt31.2.2.1 + 1) (ks' := zt31.2.2.2 + zk33) (by omega) (by omega) ?_
  refine j_newa (ty := .long) (t0 := 1) (a0 := (zk33, .inr (.inl (fun _ => 0)))) (N := zk33) (pc' := 79) C dX12_init_77 rfl (fun _ => rfl) (fun _ _ => rfl) wm_215 (fun _ => rfl) nzk33 ezk33 (Nat.le_trans (Nat.mul_le_mul_left _ (by decide)) bzk33) rfl ?_
  rw [hzc32]
  obtain ⟨zc34, hzc34, hr⟩ := ob hr
  refine j_putF (pc' := 82) C hin dX12_init_79 fw_X12_41 rfl rfl hzc34 rfl ?_
  refine j_aload_n (q := 0) (pc' := 83) C dX12_init_82 rfl rfl rfl ?_
  refine j_bipush (v := 80) (pc' := 85) C dX12_init_83 kB_80 rfl ?_
  obtain ⟨zk37, hzk37, hr⟩ := ob hr
  obtain ⟨nzk37, ezk37, bzk37⟩ := nwa_sp hzk37
  obtain ⟨zt35, hr, azt35, bzt35, czt35, dzt35⟩ := adcK_s hr
  obtain ⟨zc36, hzc36, hr⟩ := ob hr
  have hzc36 := Option.some.inj hzc36
  refine j_k (kc' := zt35.2.2.1 + 1) (ks' := zt35.2.2.2 + zk37) (by omega) (by omega) ?_
  refine j_newa (ty := .int) (t0 := 0) (a0 := (zk37, .inl (fun _ => 0))) (N := zk37) (pc' := 87) C dX12_init_85 rfl (fun _ => rfl) (fun _ _ => rfl) wm_214 (fun _ => rfl) nzk37 ezk37 (Nat.le_trans (Nat.mul_le_mul_left _ (by decide)) bzk37) rfl ?_
  rw [hzc36]
  obtain ⟨zc38, hzc38, hr⟩ := ob hr
  refine j_putF (pc' := 90) C hin dX12_init_87 fw_X12_44 rfl rfl hzc38 rfl ?_
  refine j_aload_n (q := 0) (pc' := 91) C dX12_init_90 rfl rfl rfl ?_
  refine j_bipush (v := 6) (pc' := 93) C dX12_init_91 kB_6 rfl ?_
  obtain ⟨zk41, hzk41, hr⟩ := ob hr
  obtain ⟨nzk41, ezk41, bzk41⟩ := nwa_sp hzk41
  obtain ⟨zt39, hr, azt39, bzt39, czt39, dzt39⟩ := adcK_s hr
  obtain ⟨zc40, hzc40, hr⟩ := ob hr
  have hzc40 := Option.some.inj hzc40
  refine j_k (kc' := zt39.2.2.1 + 1) (ks' := zt39.2.2.2 + zk41) (by omega) (by omega) ?_
  refine j_newa (ty := .int) (t0 := 0) (a0 := (zk41, .inl (fun _ => 0))) (N := zk41) (pc' := 95) C dX12_init_93 rfl (fun _ => rfl) (fun _ _ => rfl) wm_214 (fun _ => rfl) nzk41 ezk41 (Nat.le_trans (Nat.mul_le_mul_left _ (by decide)) bzk41) rfl ?_
  rw [hzc40]
  obtain ⟨zc42, hzc42, hr⟩ := ob hr
  refine j_putF (pc' := 98) C hin dX12_init_95 fw_X12_47 rfl rfl hzc42 rfl ?_
  refine j_aload_n (q := 0) (pc' := 99) C dX12_init_98 rfl rfl rfl ?_
  refine j_sipush (v := 5000) (pc' := 102) C dX12_init_99 kS_5000 rfl ?_
  obtain ⟨zk45, hzk45, hr⟩ := ob hr
  obtain ⟨nzk45, ezk45, bzk45⟩ := nwa_sp hzk45
  obtain ⟨zt43, hr, azt43, bzt43, czt43, dzt43⟩ := adcK_s hr
  obtain ⟨zc44, hzc44, hr⟩ := ob hr
  have hzc44 := Option.some.inj hzc44
  refine j_k (kc' := zt43.2.2.1 + 1) (ks' := zt43.2.2.2 + zk45) (by omega) (by omega) ?_
  refine j_newa (ty := .int) (t0 := 0) (a0 := (zk45, .inl (fun _ => 0))) (N := zk45) (pc' := 104) C dX12_init_102 rfl (fun _ => rfl) (fun _ _ => rfl) wm_214 (fun _ => rfl) nzk45 ezk45 (Nat.le_trans (Nat.mul_le_mul_left _ (by decide)) bzk45) rfl ?_
  rw [hzc44]
  obtain ⟨zc46, hzc46, hr⟩ := ob hr
  refine j_putF (pc' := 107) C hin dX12_init_104 fw_X12_50 rfl rfl hzc46 rfl ?_
  refine j_aload_n (q := 0) (pc' := 108) C dX12_init_107 rfl rfl rfl ?_
  refine j_sipush (v := 5421) (pc' := 111) C dX12_init_108 kS_5421 rfl ?_
  obtain ⟨zk49, hzk49, hr⟩ := ob hr
  obtain ⟨nzk49, ezk49, bzk49⟩ := nwa_sp hzk49
  obtain ⟨zt47, hr, azt47, bzt47, czt47, dzt47⟩ := adcK_s hr
  obtain ⟨zc48, hzc48, hr⟩ := ob hr
  have hzc48 := Option.some.inj hzc48
  refine j_k (kc' := zt47.2.2.1 + 1) (ks' := zt47.2.2.2 + zk49) (by omega) (by omega) ?_
  refine j_newa (ty := .int) (t0 := 0) (a0 := (zk49, .inl (fun _ => 0))) (N := zk49) (pc' := 113) C dX12_init_111 rfl (fun _ => rfl) (fun _ _ => rfl) wm_214 (fun _ => rfl) nzk49 ezk49 (Nat.le_trans (Nat.mul_le_mul_left _ (by decide)) bzk49) rfl ?_
  rw [hzc48]
  obtain ⟨zc50, hzc50, hr⟩ := ob hr
  refine j_putF (pc' := 116) C hin dX12_init_113 fw_X12_53 rfl rfl hzc50 rfl ?_
  refine j_aload_n (q := 0) (pc' := 117) C dX12_init_116 rfl rfl rfl ?_
  refine j_bipush (v := 7) (pc' := 119) C dX12_init_117 kB_7 rfl ?_
  obtain ⟨zk53, hzk53, hr⟩ := ob hr
  obtain ⟨nzk53, ezk53, bzk53⟩ := nwa_sp hzk53
  obtain ⟨zt51, hr, azt51, bzt51, czt51, dzt51⟩ := adcK_s hr
  obtain ⟨zc52, hzc52, hr⟩ := ob hr
  have hzc52 := Option.some.inj hzc52
  refine j_k (kc' := zt51.2.2.1 + 1) (ks' := zt51.2.2.2 + zk53) (by omega) (by omega) ?_
  refine j_newa (ty := .float) (t0 := 2) (a0 := (zk53, .inr (.inr (.inl (fun _ => 0))))) (N := zk53) (pc' := 121) C dX12_init_119 rfl (fun _ => rfl) (fun _ _ => rfl) wm_323 (fun _ => rfl) nzk53 ezk53 (Nat.le_trans (Nat.mul_le_mul_left _ (by decide)) bzk53) rfl ?_
  rw [hzc52]
  obtain ⟨zc54, hzc54, hr⟩ := ob hr
  refine j_putF (pc' := 124) C hin dX12_init_121 fw_X12_56 rfl rfl hzc54 rfl ?_
  refine j_aload_n (q := 0) (pc' := 125) C dX12_init_124 rfl rfl rfl ?_
  refine j_bipush (v := 80) (pc' := 127) C dX12_init_125 kB_80 rfl ?_
  obtain ⟨zk57, hzk57, hr⟩ := ob hr
  obtain ⟨nzk57, ezk57, bzk57⟩ := nwa_sp hzk57
  obtain ⟨zt55, hr, azt55, bzt55, czt55, dzt55⟩ := adcK_s hr
  obtain ⟨zc56, hzc56, hr⟩ := ob hr
  have hzc56 := Option.some.inj hzc56
  refine j_k (kc' := zt55.2.2.1 + 1) (ks' := zt55.2.2.2 + zk57) (by omega) (by omega) ?_
  refine j_newa (ty := .int) (t0 := 0) (a0 := (zk57, .inl (fun _ => 0))) (N := zk57) (pc' := 129) C dX12_init_127 rfl (fun _ => rfl) (fun _ _ => rfl) wm_214 (fun _ => rfl) nzk57 ezk57 (Nat.le_trans (Nat.mul_le_mul_left _ (by decide)) bzk57) rfl ?_
  rw [hzc56]
  obtain ⟨zc58, hzc58, hr⟩ := ob hr
  refine j_putF (pc' := 132) C hin dX12_init_129 fw_X12_59 rfl rfl hzc58 rfl ?_
  refine j_aload_n (q := 0) (pc' := 133) C dX12_init_132 rfl rfl rfl ?_
  refine j_sipush (v := 5000) (pc' := 136) C dX12_init_133 kS_5000 rfl ?_
  obtain ⟨zk61, hzk61, hr⟩ := ob hr
  obtain ⟨nzk61, ezk61, bzk61⟩ := nwa_sp hzk61
  obtain ⟨zt59, hr, azt59, bzt59, czt59, dzt59⟩ := adcK_s hr
  obtain ⟨zc60, hzc60, hr⟩ := ob hr
  have hzc60 := Option.some.inj hzc60
  refine j_k (kc' := zt59.2.2.1 + 1) (ks' := zt59.2.2.2 + zk61) (by omega) (by omega) ?_
  refine j_newa (ty := .int) (t0 := 0) (a0 := (zk61, .inl (fun _ => 0))) (N := zk61) (pc' := 138) C dX12_init_136 rfl (fun _ => rfl) (fun _ _ => rfl) wm_214 (fun _ => rfl) nzk61 ezk61 (Nat.le_trans (Nat.mul_le_mul_left _ (by decide)) bzk61) rfl ?_
  rw [hzc60]
  obtain ⟨zc62, hzc62, hr⟩ := ob hr
  refine j_putF (pc' := 141) C hin dX12_init_138 fw_X12_62 rfl rfl hzc62 rfl ?_
  refine j_aload_n (q := 0) (pc' := 142) C dX12_init_141 rfl rfl rfl ?_
  refine j_sipush (v := 5000) (pc' := 145) C dX12_init_142 kS_5000 rfl ?_
  obtain ⟨zk65, hzk65, hr⟩ := ob hr
  obtain ⟨nzk65, ezk65, bzk65⟩ := nwa_sp hzk65
  obtain ⟨zt63, hr, azt63, bzt63, czt63, dzt63⟩ := adcK_s hr
  obtain ⟨zc64, hzc64, hr⟩ := ob hr
  have hzc64 := Option.some.inj hzc64
  refine j_k (kc' := zt63.2.2.1 + 1) (ks' := zt63.2.2.2 + zk65) (by omega) (by omega) ?_
  refine j_newa (ty := .int) (t0 := 0) (a0 := (zk65, .inl (fun _ => 0))) (N := zk65) (pc' := 147) C dX12_init_145 rfl (fun _ => rfl) (fun _ _ => rfl) wm_214 (fun _ => rfl) nzk65 ezk65 (Nat.le_trans (Nat.mul_le_mul_left _ (by decide)) bzk65) rfl ?_
  rw [hzc64]
  obtain ⟨zc66, hzc66, hr⟩ := ob hr
  refine j_putF (pc' := 150) C hin dX12_init_147 fw_X12_65 rfl rfl hzc66 rfl ?_
  refine j_aload_n (q := 0) (pc' := 151) C dX12_init_150 rfl rfl rfl ?_
  refine j_bipush (v := 12) (pc' := 153) C dX12_init_151 kB_12 rfl ?_
  obtain ⟨zk69, hzk69, hr⟩ := ob hr
  obtain ⟨nzk69, ezk69, bzk69⟩ := nwa_sp hzk69
  obtain ⟨zt67, hr, azt67, bzt67, czt67, dzt67⟩ := adcK_s hr
  obtain ⟨zc68, hzc68, hr⟩ := ob hr
  have hzc68 := Option.some.inj hzc68
  refine j_k (kc' := zt67.2.2.1 + 1) (ks' := zt67.2.2.2 + zk69) (by omega) (by omega) ?_
  refine j_newa (ty := .long) (t0 := 1) (a0 := (zk69, .inr (.inl (fun _ => 0)))) (N := zk69) (pc' := 155) C dX12_init_153 rfl (fun _ => rfl) (fun _ _ => rfl) wm_215 (fun _ => rfl) nzk69 ezk69 (Nat.le_trans (Nat.mul_le_mul_left _ (by decide)) bzk69) rfl ?_
  rw [hzc68]
  obtain ⟨zc70, hzc70, hr⟩ := ob hr
  refine j_putF (pc' := 158) C hin dX12_init_155 fw_X12_68 rfl rfl hzc70 rfl ?_
  refine j_aload_n (q := 0) (pc' := 159) C dX12_init_158 rfl rfl rfl ?_
  obtain ⟨zx71, hzx71, hr⟩ := ob hr
  refine j_getA (pc' := 162) C dX12_init_159 fl_X12_8 hzx71 rfl ?_
  refine j_iconst (v := 3) (pc' := 163) C dX12_init_162 kI_3 rfl ?_
  refine j_iconst (v := 3) (pc' := 164) C dX12_init_163 kI_3 rfl ?_
  obtain ⟨zc72, hzc72, hr⟩ := ob hr
  refine j_iast (pc' := 165) C dX12_init_164 hzc72 rfl ?_
  refine j_aload_n (q := 0) (pc' := 166) C dX12_init_165 rfl rfl rfl ?_
  obtain ⟨zx73, hzx73, hr⟩ := ob hr
  refine j_getA (pc' := 169) C dX12_init_166 fl_X12_8 hzx73 rfl ?_
  refine j_bipush (v := 7) (pc' := 171) C dX12_init_169 kB_7 rfl ?_
  refine j_iconst (v := 1) (pc' := 172) C dX12_init_171 kI_1 rfl ?_
  obtain ⟨zc74, hzc74, hr⟩ := ob hr
  refine j_iast (pc' := 173) C dX12_init_172 hzc74 rfl ?_
  refine j_iconst (v := 0) (pc' := 174) C dX12_init_173 kI_0 rfl ?_
  refine j_istore_n (lv' := [(1, .int (0 : Int32)), (0, .ref this)]) (pc' := 175) C dX12_init_174 rfl (by decide) rfl rfl ?_
  obtain ⟨zo76, hzo76, rzo76⟩ := ob hr
  have kzo76 : Jd G zt67.2.2.1 zt67.2.2.2 (((((((((((((((((nx + 1) + 1) + 1) + 1) + 1) + 1) + 1) + 1) + 1) + 1) + 1) + 1) + 1) + 1) + 1) + 1) + 1) zo76.2 218 [(0, .ref this)] [] := by
    have hr := rzo76
    refine j_aload_n (q := 0) (pc' := 219) C dX12_init_218 rfl rfl rfl ?_
    refine j_iconst (v := 0) (pc' := 220) C dX12_init_219 kI_0 rfl ?_
    refine j_lconst (v := 1) (pc' := 221) C dX12_init_220 kL_1 rfl ?_
    obtain ⟨zz78, hzz78, hr⟩ := ob hr
    obtain ⟨zq79, hzq79, hr⟩ := ob hr
    obtain ⟨fhzz78, hzz78⟩ := rcv_sp hzz78
    refine j_callV (ci := 9) (As := [.int (0 : Int32), .long (1 : Int64)]) (rest := []) (st1 := []) (pc' := 224) C ⟨wm_1404, wm_37⟩ rfl hzz78 (c_X12_putSet (nx := (((((((((((((((((nx + 1) + 1) + 1) + 1) + 1) + 1) + 1) + 1) + 1) + 1) + 1) + 1) + 1) + 1) + 1) + 1) + 1)) hzq79) yw_X12_putSet wm_1402 rfl rfl (Nat.le_of_ble_eq_true rfl) ⟨by decide, by decide⟩ dX12_init_221 rfl rfl ?_
    refine j_aload_n (q := 0) (pc' := 225) C dX12_init_224 rfl rfl rfl ?_
    obtain ⟨zz80, hzz80, hr⟩ := ob hr
    obtain ⟨zq81, hzq81, hr⟩ := ob hr
    obtain ⟨fhzz80, hzz80⟩ := rcv_sp hzz80
    refine j_callV (ci := 9) (As := []) (rest := []) (st1 := []) (pc' := 228) C ⟨wm_1408, wm_38⟩ rfl hzz80 (c_X12_anew (nx := (((((((((((((((((nx + 1) + 1) + 1) + 1) + 1) + 1) + 1) + 1) + 1) + 1) + 1) + 1) + 1) + 1) + 1) + 1) + 1)) hzq81) yw_X12_anew wm_1406 rfl rfl (Nat.le_of_ble_eq_true rfl) ⟨by decide, by decide⟩ dX12_init_225 rfl rfl ?_
    refine j_aload_n (q := 0) (pc' := 229) C dX12_init_228 rfl rfl rfl ?_
    obtain ⟨zx82, hzx82, hr⟩ := ob hr
    refine j_getA (pc' := 232) C dX12_init_229 fl_X12_8 hzx82 rfl ?_
    refine j_aload_n (q := 0) (pc' := 233) C dX12_init_232 rfl rfl rfl ?_
    obtain ⟨zx83, hzx83, hr⟩ := ob hr
    refine j_getA (pc' := 236) C dX12_init_233 fl_X12_14 hzx83 rfl ?_
    obtain ⟨zq84, hzq84, hr⟩ := ob hr
    refine j_callS (As := [.ref zx82, .ref zx83]) (rest := []) (st1 := []) (pc' := 239) C wm_1411 (c_X12_copy (nx := (((((((((((((((((nx + 1) + 1) + 1) + 1) + 1) + 1) + 1) + 1) + 1) + 1) + 1) + 1) + 1) + 1) + 1) + 1) + 1)) hzq84) yw_X12_copy wm_1410 rfl rfl (Nat.le_of_ble_eq_true rfl) ⟨by decide, by decide⟩ dX12_init_236 rfl rfl ?_
    refine j_aload_n (q := 0) (pc' := 240) C dX12_init_239 rfl rfl rfl ?_
    obtain ⟨zx85, hzx85, hr⟩ := ob hr
    refine j_getA (pc' := 243) C dX12_init_240 fl_X12_17 hzx85 rfl ?_
    refine j_aload_n (q := 0) (pc' := 244) C dX12_init_243 rfl rfl rfl ?_
    obtain ⟨zx86, hzx86, hr⟩ := ob hr
    refine j_getA (pc' := 247) C dX12_init_244 fl_X12_21 hzx86 rfl ?_
    obtain ⟨zq87, hzq87, hr⟩ := ob hr
    refine j_callS (As := [.ref zx85, .ref zx86]) (rest := []) (st1 := []) (pc' := 250) C wm_1414 (c_X12_copyFloats (nx := (((((((((((((((((nx + 1) + 1) + 1) + 1) + 1) + 1) + 1) + 1) + 1) + 1) + 1) + 1) + 1) + 1) + 1) + 1) + 1)) hzq87) yw_X12_copyFloats wm_1413 rfl rfl (Nat.le_of_ble_eq_true rfl) ⟨by decide, by decide⟩ dX12_init_247 rfl rfl ?_
    obtain ⟨azf88, bzf89, czf90, dzf91⟩ := some4 hr
    refine j_k (kc' := 0) (ks' := 0) (by omega) (by omega) ?_
    rw [show nx + q.2.2.1 = (((((((((((((((((nx + 1) + 1) + 1) + 1) + 1) + 1) + 1) + 1) + 1) + 1) + 1) + 1) + 1) + 1) + 1) + 1) + 1) by omega, (bzt1.trans (bzt5.trans (bzt9.trans (bzt13.trans (bzt17.trans (bzt21.trans (bzt25.trans (bzt31.trans (bzt35.trans (bzt39.trans (bzt43.trans (bzt47.trans (bzt51.trans (bzt55.trans (bzt59.trans (bzt63.trans (bzt67.trans bzf89)))))))))))))))))] at hq
    exact j_vret C hq hret dX12_init_250
  refine j_lv (lv' := [(0, .ref this), (1, .int (0 : Int32))]) [1, 0] rfl ?_
  refine it_J (J := (fun (zs75 : Int32 × Ce) => Jd G zt67.2.2.1 zt67.2.2.2 (((((((((((((((((nx + 1) + 1) + 1) + 1) + 1) + 1) + 1) + 1) + 1) + 1) + 1) + 1) + 1) + 1) + 1) + 1) + 1) zs75.2 175 [(0, .ref this), (1, .int zs75.1)] [])) ?_ hzo76
  clear hzo76
  intro zs75 zr77 hr izs75 ezs75
  refine j_iload_n (q := 1) (pc' := 176) C dX12_init_175 rfl rfl rfl ?_
  refine j_bipush (v := 8) (pc' := 178) C dX12_init_176 kB_8 rfl ?_
  refine j_ic_ge (tgt := 218) (pc' := 181) C dX12_init_178 rfl rfl (fun hc => ?_) (fun hc => ?_)
  · have hr := ifT hc hr
    clear hc
    have hr := ezs75 _ (Option.some.inj hr).symm
    subst hr
    exact j_lv [0] rfl kzo76
  · have hr := ifF hc hr
    clear hc
    refine j_iconst (v := 0) (pc' := 182) C dX12_init_181 kI_0 rfl ?_
    refine j_istore_n (lv' := [(2, .int (0 : Int32)), (0, .ref this), (1, .int zs75.1)]) (pc' := 183) C dX12_init_182 rfl (by decide) rfl rfl ?_
    obtain ⟨zo93, hzo93, rzo93⟩ := ob hr
    have kzo93 : Jd G zt67.2.2.1 zt67.2.2.2 (((((((((((((((((nx + 1) + 1) + 1) + 1) + 1) + 1) + 1) + 1) + 1) + 1) + 1) + 1) + 1) + 1) + 1) + 1) + 1) zo93.2 212 [(0, .ref this), (1, .int zs75.1)] [] := by
      have hr := rzo93
      refine j_iinc (q := 1) (v := 1) (lv' := [(1, .int (zs75.1 + (1 : Int32))), (0, .ref this)]) (pc' := 215) C dX12_init_212 rfl kI_1 (by decide) rfl rfl ?_
      refine j_goto (tgt := 175) C dX12_init_215 rfl ?_
      have hr := izs75 ((zs75.1 + (1 : Int32)), zo93.2) (Option.some.inj hr).symm
      exact j_lv [1, 0] rfl hr
    refine j_lv (lv' := [(0, .ref this), (1, .int zs75.1), (2, .int (0 : Int32))]) [1, 2, 0] rfl ?_
    refine it_J (J := (fun (zs92 : Int32 × Ce) => Jd G zt67.2.2.1 zt67.2.2.2 (((((((((((((((((nx + 1) + 1) + 1) + 1) + 1) + 1) + 1) + 1) + 1) + 1) + 1) + 1) + 1) + 1) + 1) + 1) + 1) zs92.2 183 [(0, .ref this), (1, .int zs75.1), (2, .int zs92.1)] [])) ?_ hzo93
    clear hzo93
    intro zs92 zr94 hr izs92 ezs92
    refine j_iload_n (q := 2) (pc' := 184) C dX12_init_183 rfl rfl rfl ?_
    refine j_iconst (v := 4) (pc' := 185) C dX12_init_184 kI_4 rfl ?_
    refine j_ic_ge (tgt := 212) (pc' := 188) C dX12_init_185 rfl rfl (fun hc => ?_) (fun hc => ?_)
    · have hr := ifT hc hr
      clear hc
      have hr := ezs92 _ (Option.some.inj hr).symm
      subst hr
      exact j_lv [0, 1] rfl kzo93
    · have hr := ifF hc hr
      clear hc
      refine j_aload_n (q := 0) (pc' := 189) C dX12_init_188 rfl rfl rfl ?_
      obtain ⟨zx95, hzx95, hr⟩ := ob hr
      refine j_getA (pc' := 192) C dX12_init_189 fl_X12_8 hzx95 rfl ?_
      refine j_bipush (v := 28) (pc' := 194) C dX12_init_192 kB_28 rfl ?_
      refine j_iload_n (q := 1) (pc' := 195) C dX12_init_194 rfl rfl rfl ?_
      refine j_iadd (pc' := 196) C dX12_init_195 rfl ?_
      refine j_dup2 (pc' := 197) C dX12_init_196 rfl rfl rfl ?_
      obtain ⟨zx96, hzx96, hr⟩ := ob hr
      refine j_iald (pc' := 198) C dX12_init_197 hzx96 rfl ?_
      refine j_iload_n (q := 1) (pc' := 199) C dX12_init_198 rfl rfl rfl ?_
      refine j_bipush (v := 6) (pc' := 201) C dX12_init_199 kB_6 rfl ?_
      refine j_iload_n (q := 2) (pc' := 202) C dX12_init_201 rfl rfl rfl ?_
      refine j_imul (pc' := 203) C dX12_init_202 rfl ?_
      refine j_ishl (pc' := 204) C dX12_init_203 rfl ?_
      refine j_ior (pc' := 205) C dX12_init_204 rfl ?_
      obtain ⟨zc97, hzc97, hr⟩ := ob hr
      refine j_iast (pc' := 206) C dX12_init_205 hzc97 rfl ?_
      refine j_iinc (q := 2) (v := 1) (lv' := [(2, .int (zs92.1 + (1 : Int32))), (0, .ref this), (1, .int zs75.1)]) (pc' := 209) C dX12_init_206 rfl kI_1 (by decide) rfl rfl ?_
      refine j_goto (tgt := 183) C dX12_init_209 rfl ?_
      have hr := izs92 ((zs92.1 + (1 : Int32)), zc97) (Option.some.inj hr).symm
      exact j_lv [1, 2, 0] rfl hr
