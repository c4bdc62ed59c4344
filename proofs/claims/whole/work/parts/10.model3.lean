def m_X12_farOf (ce : Ce) (this : Nat) (p1 : Int32) : Option (Int32) :=
  (it (fun (zs1 : Int32) =>
    if (64 : Int32) ≤ zs1 then
      some (Sum.inr (Sum.inr ()))
    else
      (rcv ce 9 this).bind fun zz4 =>
      (m_X12_nearing ce this zs1).bind fun zx5 =>
      (m_X12_has zx5 p1).bind fun zx6 =>
      if zx6 = 0 then
        some (Sum.inl (zs1 + (1 : Int32)))
      else
        some (Sum.inr (Sum.inl zs1))
  ) FU (0 : Int32)).bind fun (zo2 : Int32 ⊕ Unit) =>
  Sum.elim (fun wzo2 => some wzo2) (fun vzo2 =>
    some (-1 : Int32)
  ) zo2
set_option maxRecDepth 100000 in
set_option maxHeartbeats 4000000 in
theorem c_X12_farOf {nx : Nat} {ce : Ce} {this : Nat} {p1 : Int32} {q : Int32} (hr : m_X12_farOf ce this p1 = some q) : Ct yX12_farOf cX12_farOf 3 (some .int) 4 95 0 0 [.ref this, .int p1] nx ce (some (.int q)) ce := by
  unfold m_X12_farOf at hr
  refine ct_of (by decide) (Nat.le_of_ble_eq_true rfl) ?_
  intro G C hq hret hin
  show Jd G 0 0 nx ce 0 [(0, .ref this), (1, .int p1)] []
  refine j_iconst (v := 0) (pc' := 1) C dX12_farOf_0 kI_0 rfl ?_
  refine j_istore_n (lv' := [(2, .int (0 : Int32)), (0, .ref this), (1, .int p1)]) (pc' := 2) C dX12_farOf_1 rfl (by decide) rfl rfl ?_
  obtain ⟨zo2, hzo2, rzo2⟩ := ob hr
  have kzo2 : ∀ vzo2, zo2 = Sum.inr vzo2 → Jd G 0 0 nx ce 28 [] [] := by
    intro vzo2 ezo2
    rw [ezo2] at rzo2
    have hr := elR rzo2
    refine j_iconst (v := -1) (pc' := 29) C dX12_farOf_28 kI_m1 rfl ?_
    have hr := Option.some.inj hr
    subst hr
    exact j_iret C hq hret dX12_farOf_29
  refine j_lv (lv' := [(0, .ref this), (1, .int p1), (2, .int (0 : Int32))]) [1, 2, 0] rfl ?_
  refine it_J (J := (fun (zs1 : Int32) => Jd G 0 0 nx ce 2 [(0, .ref this), (1, .int p1), (2, .int zs1)] [])) ?_ hzo2
  clear hzo2
  intro zs1 zr3 hr izs1 ezs1
  refine j_iload_n (q := 2) (pc' := 3) C dX12_farOf_2 rfl rfl rfl ?_
  refine j_bipush (v := 64) (pc' := 5) C dX12_farOf_3 kB_64 rfl ?_
  refine j_ic_ge (tgt := 28) (pc' := 8) C dX12_farOf_5 rfl rfl (fun hc => ?_) (fun hc => ?_)
  · have hr := ifT hc hr
    clear hc
    have hr := ezs1 _ (Option.some.inj hr).symm
    subst hr
    exact j_lv [] rfl (kzo2 _ rfl)
  · have hr := ifF hc hr
    clear hc
    refine j_aload_n (q := 0) (pc' := 9) C dX12_farOf_8 rfl rfl rfl ?_
    refine j_iload_n (q := 2) (pc' := 10) C dX12_farOf_9 rfl rfl rfl ?_
    obtain ⟨zz4, hzz4, hr⟩ := ob hr
    obtain ⟨zx5, hzx5, hr⟩ := ob hr
    obtain ⟨fhzz4, hzz4⟩ := rcv_sp hzz4
    refine j_callV (ci := 9) (As := [.int zs1]) (rest := []) (st1 := [.long zx5]) (pc' := 13) C ⟨wm_1996, wm_110⟩ rfl hzz4 (c_X12_nearing (nx := nx) hzx5) yw_X12_nearing wm_1994 rfl rfl (Nat.le_of_ble_eq_true rfl) ⟨by decide, by decide⟩ dX12_farOf_10 rfl rfl ?_
    refine j_iload_n (q := 1) (pc' := 14) C dX12_farOf_13 rfl rfl rfl ?_
    obtain ⟨zx6, hzx6, hr⟩ := ob hr
    refine j_callS (As := [.long zx5, .int p1]) (rest := []) (st1 := [.int zx6]) (pc' := 17) C wm_1645 (c_X12_has (nx := nx) (ce := ce) hzx6) yw_X12_has wm_1644 rfl rfl (Nat.le_of_ble_eq_true rfl) ⟨by decide, by decide⟩ dX12_farOf_14 rfl rfl ?_
    refine j_if_eq (tgt := 22) (pc' := 20) C dX12_farOf_17 rfl rfl (fun hc => ?_) (fun hc => ?_)
    · have hr := ifT hc hr
      clear hc
      refine j_iinc (q := 2) (v := 1) (lv' := [(2, .int (zs1 + (1 : Int32))), (0, .ref this), (1, .int p1)]) (pc' := 25) C dX12_farOf_22 rfl kI_1 (by decide) rfl rfl ?_
      refine j_goto (tgt := 2) C dX12_farOf_25 rfl ?_
      have hr := izs1 (zs1 + (1 : Int32)) (Option.some.inj hr).symm
      exact j_lv [1, 2, 0] rfl hr
    · have hr := ifF hc hr
      clear hc
      refine j_iload_n (q := 2) (pc' := 21) C dX12_farOf_20 rfl rfl rfl ?_
      have hr := ezs1 _ (Option.some.inj hr).symm
      subst hr
      have hr := elL rzo2
      have hr := Option.some.inj hr
      subst hr
      exact j_iret C hq hret dX12_farOf_21
def m_X12_far (ce : Ce) (this : Nat) (p1 : Int32) : Option (Int32) :=
  (rcv ce 9 this).bind fun zz1 =>
  (m_X12_isState ce this p1).bind fun zx2 =>
  if zx2 = 0 then
    some (-1 : Int32)
  else
    (rcv ce 9 this).bind fun zz3 =>
    (m_X12_farOf ce this p1).bind fun zx4 =>
    some zx4
set_option maxRecDepth 100000 in
set_option maxHeartbeats 4000000 in
theorem c_X12_far {nx : Nat} {ce : Ce} {this : Nat} {p1 : Int32} {q : Int32} (hr : m_X12_far ce this p1 = some q) : Ct yX12_far cX12_far 2 (some .int) 5 117 0 0 [.ref this, .int p1] nx ce (some (.int q)) ce := by
  unfold m_X12_far at hr
  refine ct_of (by decide) (Nat.le_of_ble_eq_true rfl) ?_
  intro G C hq hret hin
  show Jd G 0 0 nx ce 0 [(0, .ref this), (1, .int p1)] []
  refine j_aload_n (q := 0) (pc' := 1) C dX12_far_0 rfl rfl rfl ?_
  refine j_iload_n (q := 1) (pc' := 2) C dX12_far_1 rfl rfl rfl ?_
  obtain ⟨zz1, hzz1, hr⟩ := ob hr
  obtain ⟨zx2, hzx2, hr⟩ := ob hr
  obtain ⟨fhzz1, hzz1⟩ := rcv_sp hzz1
  refine j_callV (ci := 9) (As := [.int p1]) (rest := []) (st1 := [.int zx2]) (pc' := 5) C ⟨wm_1843, wm_97⟩ rfl hzz1 (c_X12_isState (nx := nx) hzx2) yw_X12_isState wm_1841 rfl rfl (Nat.le_of_ble_eq_true rfl) ⟨by decide, by decide⟩ dX12_far_2 rfl rfl ?_
  refine j_if_eq (tgt := 16) (pc' := 8) C dX12_far_5 rfl rfl (fun hc => ?_) (fun hc => ?_)
  · have hr := ifT hc hr
    clear hc
    refine j_iconst (v := -1) (pc' := 17) C dX12_far_16 kI_m1 rfl ?_
    have hr := Option.some.inj hr
    subst hr
    exact j_iret C hq hret dX12_far_17
  · have hr := ifF hc hr
    clear hc
    refine j_aload_n (q := 0) (pc' := 9) C dX12_far_8 rfl rfl rfl ?_
    refine j_iload_n (q := 1) (pc' := 10) C dX12_far_9 rfl rfl rfl ?_
    obtain ⟨zz3, hzz3, hr⟩ := ob hr
    obtain ⟨zx4, hzx4, hr⟩ := ob hr
    obtain ⟨fhzz3, hzz3⟩ := rcv_sp hzz3
    refine j_callV (ci := 9) (As := [.int p1]) (rest := []) (st1 := [.int zx4]) (pc' := 13) C ⟨wm_1992, wm_109⟩ rfl hzz3 (c_X12_farOf (nx := nx) hzx4) yw_X12_farOf wm_1990 rfl rfl (Nat.le_of_ble_eq_true rfl) ⟨by decide, by decide⟩ dX12_far_10 rfl rfl ?_
    refine j_goto (tgt := 17) C dX12_far_13 rfl ?_
    have hr := Option.some.inj hr
    subst hr
    exact j_iret C hq hret dX12_far_17
def m_X12_doomed (ce : Ce) (this : Nat) (p1 : Int32) : Option (Int32) :=
  if 0 ≤ p1 then
    (rcv ce 9 this).bind fun zz1 =>
    (m_X12_nearing ce this p1).bind fun zx2 =>
    (m_X12_many zx2).bind fun zx3 =>
    some zx3
  else
    some (-1 : Int32)
set_option maxRecDepth 100000 in
set_option maxHeartbeats 4000000 in
theorem c_X12_doomed {nx : Nat} {ce : Ce} {this : Nat} {p1 : Int32} {q : Int32} (hr : m_X12_doomed ce this p1 = some q) : Ct yX12_doomed cX12_doomed 2 (some .int) 4 95 0 0 [.ref this, .int p1] nx ce (some (.int q)) ce := by
  unfold m_X12_doomed at hr
  refine ct_of (by decide) (Nat.le_of_ble_eq_true rfl) ?_
  intro G C hq hret hin
  show Jd G 0 0 nx ce 0 [(0, .ref this), (1, .int p1)] []
  refine j_iload_n (q := 1) (pc' := 1) C dX12_doomed_0 rfl rfl rfl ?_
  refine j_if_ge (tgt := 8) (pc' := 4) C dX12_doomed_1 rfl rfl (fun hc => ?_) (fun hc => ?_)
  · have hr := ifT hc hr
    clear hc
    refine j_aload_n (q := 0) (pc' := 9) C dX12_doomed_8 rfl rfl rfl ?_
    refine j_iload_n (q := 1) (pc' := 10) C dX12_doomed_9 rfl rfl rfl ?_
    obtain ⟨zz1, hzz1, hr⟩ := ob hr
    obtain ⟨zx2, hzx2, hr⟩ := ob hr
    obtain ⟨fhzz1, hzz1⟩ := rcv_sp hzz1
    refine j_callV (ci := 9) (As := [.int p1]) (rest := []) (st1 := [.long zx2]) (pc' := 13) C ⟨wm_1996, wm_110⟩ rfl hzz1 (c_X12_nearing (nx := nx) hzx2) yw_X12_nearing wm_1994 rfl rfl (Nat.le_of_ble_eq_true rfl) ⟨by decide, by decide⟩ dX12_doomed_10 rfl rfl ?_
    obtain ⟨zx3, hzx3, hr⟩ := ob hr
    refine j_callS (As := [.long zx2]) (rest := []) (st1 := [.int zx3]) (pc' := 16) C wm_1866 (c_X12_many (nx := nx) (ce := ce) hzx3) yw_X12_many wm_1865 rfl rfl (Nat.le_of_ble_eq_true rfl) ⟨by decide, by decide⟩ dX12_doomed_13 rfl rfl ?_
    have hr := Option.some.inj hr
    subst hr
    exact j_iret C hq hret dX12_doomed_16
  · have hr := ifF hc hr
    clear hc
    refine j_iconst (v := -1) (pc' := 5) C dX12_doomed_4 kI_m1 rfl ?_
    refine j_goto (tgt := 16) C dX12_doomed_5 rfl ?_
    have hr := Option.some.inj hr
    subst hr
    exact j_iret C hq hret dX12_doomed_16
def m_X12_layShortest (ce : Ce) (this : Nat) : Option (Unit × Ce) :=
  (pV ce 9 28 this (.int (0 : Int32))).bind fun zc1 =>
  (it (fun (zs2 : Int32) =>
    if (64 : Int32) ≤ zs2 then
      some (Sum.inr zs2)
    else
      (rcv zc1 9 this).bind fun zz29 =>
      (m_X12_nearing zc1 this zs2).bind fun zx30 =>
      (rcv zc1 9 this).bind fun zz31 =>
      (m_X12_starts zc1 this).bind fun zx32 =>
      if (lg_cmp (zx30 &&& zx32) (0 : Int64)) = 0 then
        some (Sum.inl (zs2 + (1 : Int32)))
      else
        some (Sum.inr zs2)
  ) FU (0 : Int32)).bind fun (zo3 : Int32) =>
  if zo3 = (64 : Int32) then
    some ((), zc1)
  else
    (gA zc1 9 27 this).bind fun zx5 =>
    (rcv zc1 9 this).bind fun zz6 =>
    (m_X12_nearing zc1 this zo3).bind fun zx7 =>
    (rcv zc1 9 this).bind fun zz8 =>
    (m_X12_starts zc1 this).bind fun zx9 =>
    (m_X12_lowest (zx7 &&& zx9)).bind fun zx10 =>
    (sI zc1 zx5 (0 : Int32) zx10).bind fun zc11 =>
    (pV zc11 9 28 this (.int (1 : Int32))).bind fun zc12 =>
    (it (fun (zs13 : Int32 × Ce) =>
      if zs13.1 ≤ 0 then
        some (Sum.inr ((), zs13.2))
      else
        (gA zs13.2 9 27 this).bind fun zx16 =>
        (gI zs13.2 9 28 this).bind fun zx17 =>
        (gA zs13.2 9 27 this).bind fun zx18 =>
        (gI zs13.2 9 28 this).bind fun zx19 =>
        (aI zs13.2 zx18 (zx19 - (1 : Int32))).bind fun zx20 =>
        (rcv zs13.2 9 this).bind fun zz21 =>
        (m_X12_after zs13.2 this zx20).bind fun zx22 =>
        (rcv zs13.2 9 this).bind fun zz23 =>
        (m_X12_nearing zs13.2 this (zs13.1 + (-1 : Int32))).bind fun zx24 =>
        (m_X12_lowest (zx22 &&& zx24)).bind fun zx25 =>
        (sI zs13.2 zx16 zx17 zx25).bind fun zc26 =>
        (gI zc26 9 28 this).bind fun zx27 =>
        (pV zc26 9 28 this (.int (zx27 + (1 : Int32)))).bind fun zc28 =>
        some (Sum.inl ((zs13.1 + (-1 : Int32)), zc28))
    ) FU (zo3, zc12)).bind fun (zo14 : Unit × Ce) =>
    some ((), zo14.2)
set_option maxRecDepth 100000 in
set_option maxHeartbeats 4000000 in
theorem c_X12_layShortest {nx : Nat} {ce : Ce} {this : Nat} {q : Unit × Ce} (hr : m_X12_layShortest ce this = some q) : Ct yX12_layShortest cX12_layShortest 2 none 4 95 0 0 [.ref this] nx ce none q.2 := by
  unfold m_X12_layShortest at hr
  refine ct_of (by decide) (Nat.le_of_ble_eq_true rfl) ?_
  intro G C hq hret hin
  show Jd G 0 0 nx ce 0 [(0, .ref this)] []
  refine j_aload_n (q := 0) (pc' := 1) C dX12_layShortest_0 rfl rfl rfl ?_
  refine j_iconst (v := 0) (pc' := 2) C dX12_layShortest_1 kI_0 rfl ?_
  obtain ⟨zc1, hzc1, hr⟩ := ob hr
  refine j_put (pc' := 5) C dX12_layShortest_2 fw_X12_378 rfl rfl hzc1 rfl ?_
  refine j_iconst (v := 0) (pc' := 6) C dX12_layShortest_5 kI_0 rfl ?_
  refine j_istore_n (lv' := [(1, .int (0 : Int32)), (0, .ref this)]) (pc' := 7) C dX12_layShortest_6 rfl (by decide) rfl rfl ?_
  obtain ⟨zo3, hzo3, rzo3⟩ := ob hr
  have kzo3 : Jd G 0 0 nx zc1 34 [(0, .ref this), (1, .int zo3)] [] := by
    have hr := rzo3
    refine j_iload_n (q := 1) (pc' := 35) C dX12_layShortest_34 rfl rfl rfl ?_
    refine j_bipush (v := 64) (pc' := 37) C dX12_layShortest_35 kB_64 rfl ?_
    refine j_ic_ne (tgt := 41) (pc' := 40) C dX12_layShortest_37 rfl rfl (fun hc => ?_) (fun hc => ?_)
    · have hr := ifF hc hr
      clear hc
      refine j_aload_n (q := 0) (pc' := 42) C dX12_layShortest_41 rfl rfl rfl ?_
      obtain ⟨zx5, hzx5, hr⟩ := ob hr
      refine j_getA (pc' := 45) C dX12_layShortest_42 fl_X12_59 hzx5 rfl ?_
      refine j_iconst (v := 0) (pc' := 46) C dX12_layShortest_45 kI_0 rfl ?_
      refine j_aload_n (q := 0) (pc' := 47) C dX12_layShortest_46 rfl rfl rfl ?_
      refine j_iload_n (q := 1) (pc' := 48) C dX12_layShortest_47 rfl rfl rfl ?_
      obtain ⟨zz6, hzz6, hr⟩ := ob hr
      obtain ⟨zx7, hzx7, hr⟩ := ob hr
      obtain ⟨fhzz6, hzz6⟩ := rcv_sp hzz6
      refine j_callV (ci := 9) (As := [.int zo3]) (rest := [.int (0 : Int32), .ref zx5]) (st1 := [.long zx7, .int (0 : Int32), .ref zx5]) (pc' := 51) C ⟨wm_1996, wm_110⟩ rfl hzz6 (c_X12_nearing (nx := nx) hzx7) yw_X12_nearing wm_1994 rfl rfl (Nat.le_of_ble_eq_true rfl) ⟨by decide, by decide⟩ dX12_layShortest_48 rfl rfl ?_
      refine j_aload_n (q := 0) (pc' := 52) C dX12_layShortest_51 rfl rfl rfl ?_
      obtain ⟨zz8, hzz8, hr⟩ := ob hr
      obtain ⟨zx9, hzx9, hr⟩ := ob hr
      obtain ⟨fhzz8, hzz8⟩ := rcv_sp hzz8
      refine j_callV (ci := 9) (As := []) (rest := [.long zx7, .int (0 : Int32), .ref zx5]) (st1 := [.long zx9, .long zx7, .int (0 : Int32), .ref zx5]) (pc' := 55) C ⟨wm_1710, wm_69⟩ rfl hzz8 (c_X12_starts (nx := nx) hzx9) yw_X12_starts wm_1708 rfl rfl (Nat.le_of_ble_eq_true rfl) ⟨by decide, by decide⟩ dX12_layShortest_52 rfl rfl ?_
      refine j_land (pc' := 56) C dX12_layShortest_55 rfl ?_
      obtain ⟨zx10, hzx10, hr⟩ := ob hr
      refine j_callS (As := [.long (zx7 &&& zx9)]) (rest := [.int (0 : Int32), .ref zx5]) (st1 := [.int zx10, .int (0 : Int32), .ref zx5]) (pc' := 59) C wm_1729 (c_X12_lowest (nx := nx) (ce := zc1) hzx10) yw_X12_lowest wm_1728 rfl rfl (Nat.le_of_ble_eq_true rfl) ⟨by decide, by decide⟩ dX12_layShortest_56 rfl rfl ?_
      obtain ⟨zc11, hzc11, hr⟩ := ob hr
      refine j_iast (pc' := 60) C dX12_layShortest_59 hzc11 rfl ?_
      refine j_aload_n (q := 0) (pc' := 61) C dX12_layShortest_60 rfl rfl rfl ?_
      refine j_iconst (v := 1) (pc' := 62) C dX12_layShortest_61 kI_1 rfl ?_
      obtain ⟨zc12, hzc12, hr⟩ := ob hr
      refine j_put (pc' := 65) C dX12_layShortest_62 fw_X12_378 rfl rfl hzc12 rfl ?_
      obtain ⟨zo14, hzo14, rzo14⟩ := ob hr
      have kzo14 : Jd G 0 0 nx zo14.2 118 [] [] := by
        have hr := rzo14
        have hr := Option.some.inj hr
        subst hr
        exact j_vret C hq hret dX12_layShortest_118
      refine j_lv (lv' := [(0, .ref this), (1, .int zo3)]) [0, 1] rfl ?_
      refine it_J (J := (fun (zs13 : Int32 × Ce) => Jd G 0 0 nx zs13.2 65 [(0, .ref this), (1, .int zs13.1)] [])) ?_ hzo14
      clear hzo14
      intro zs13 zr15 hr izs13 ezs13
      refine j_iload_n (q := 1) (pc' := 66) C dX12_layShortest_65 rfl rfl rfl ?_
      refine j_if_le (tgt := 118) (pc' := 69) C dX12_layShortest_66 rfl rfl (fun hc => ?_) (fun hc => ?_)
      · have hr := ifT hc hr
        clear hc
        have hr := ezs13 _ (Option.some.inj hr).symm
        subst hr
        exact j_lv [] rfl kzo14
      · have hr := ifF hc hr
        clear hc
        refine j_iinc (q := 1) (v := -1) (lv' := [(1, .int (zs13.1 + (-1 : Int32))), (0, .ref this)]) (pc' := 72) C dX12_layShortest_69 rfl kI_m1 (by decide) rfl rfl ?_
        refine j_aload_n (q := 1) (pc' := 73) C dX12_layShortest_72 rfl rfl rfl ?_
        obtain ⟨zx16, hzx16, hr⟩ := ob hr
        refine j_getA (pc' := 76) C dX12_layShortest_73 fl_X12_59 hzx16 rfl ?_
        refine j_aload_n (q := 1) (pc' := 77) C dX12_layShortest_76 rfl rfl rfl ?_
        obtain ⟨zx17, hzx17, hr⟩ := ob hr
        refine j_getI (pc' := 80) C dX12_layShortest_77 fl_X12_378 hzx17 rfl ?_
        refine j_aload_n (q := 1) (pc' := 81) C dX12_layShortest_80 rfl rfl rfl ?_
        refine j_aload_n (q := 1) (pc' := 82) C dX12_layShortest_81 rfl rfl rfl ?_
        obtain ⟨zx18, hzx18, hr⟩ := ob hr
        refine j_getA (pc' := 85) C dX12_layShortest_82 fl_X12_59 hzx18 rfl ?_
        refine j_aload_n (q := 1) (pc' := 86) C dX12_layShortest_85 rfl rfl rfl ?_
        obtain ⟨zx19, hzx19, hr⟩ := ob hr
        refine j_getI (pc' := 89) C dX12_layShortest_86 fl_X12_378 hzx19 rfl ?_
        refine j_iconst (v := 1) (pc' := 90) C dX12_layShortest_89 kI_1 rfl ?_
        refine j_isub (pc' := 91) C dX12_layShortest_90 rfl ?_
        obtain ⟨zx20, hzx20, hr⟩ := ob hr
        refine j_iald (pc' := 92) C dX12_layShortest_91 hzx20 rfl ?_
        obtain ⟨zz21, hzz21, hr⟩ := ob hr
        obtain ⟨zx22, hzx22, hr⟩ := ob hr
        obtain ⟨fhzz21, hzz21⟩ := rcv_sp hzz21
        refine j_callV (ci := 9) (As := [.int zx20]) (rest := [.int zx17, .ref zx16]) (st1 := [.long zx22, .int zx17, .ref zx16]) (pc' := 95) C ⟨wm_1761, wm_81⟩ rfl hzz21 (c_X12_after (nx := nx) hzx22) yw_X12_after wm_1759 rfl rfl (Nat.le_of_ble_eq_true rfl) ⟨by decide, by decide⟩ dX12_layShortest_92 rfl rfl ?_
        refine j_aload_n (q := 1) (pc' := 96) C dX12_layShortest_95 rfl rfl rfl ?_
        refine j_iload_n (q := 0) (pc' := 97) C dX12_layShortest_96 rfl rfl rfl ?_
        obtain ⟨zz23, hzz23, hr⟩ := ob hr
        obtain ⟨zx24, hzx24, hr⟩ := ob hr
        obtain ⟨fhzz23, hzz23⟩ := rcv_sp hzz23
        refine j_callV (ci := 9) (As := [.int (zs13.1 + (-1 : Int32))]) (rest := [.long zx22, .int zx17, .ref zx16]) (st1 := [.long zx24, .long zx22, .int zx17, .ref zx16]) (pc' := 100) C ⟨wm_1996, wm_110⟩ rfl hzz23 (c_X12_nearing (nx := nx) hzx24) yw_X12_nearing wm_1994 rfl rfl (Nat.le_of_ble_eq_true rfl) ⟨by decide, by decide⟩ dX12_layShortest_97 rfl rfl ?_
        refine j_land (pc' := 101) C dX12_layShortest_100 rfl ?_
        obtain ⟨zx25, hzx25, hr⟩ := ob hr
        refine j_callS (As := [.long (zx22 &&& zx24)]) (rest := [.int zx17, .ref zx16]) (st1 := [.int zx25, .int zx17, .ref zx16]) (pc' := 104) C wm_1729 (c_X12_lowest (nx := nx) (ce := zs13.2) hzx25) yw_X12_lowest wm_1728 rfl rfl (Nat.le_of_ble_eq_true rfl) ⟨by decide, by decide⟩ dX12_layShortest_101 rfl rfl ?_
        obtain ⟨zc26, hzc26, hr⟩ := ob hr
        refine j_iast (pc' := 105) C dX12_layShortest_104 hzc26 rfl ?_
        refine j_aload_n (q := 1) (pc' := 106) C dX12_layShortest_105 rfl rfl rfl ?_
        refine j_dup (pc' := 107) C dX12_layShortest_106 rfl rfl ?_
        obtain ⟨zx27, hzx27, hr⟩ := ob hr
        refine j_getI (pc' := 110) C dX12_layShortest_107 fl_X12_378 hzx27 rfl ?_
        refine j_iconst (v := 1) (pc' := 111) C dX12_layShortest_110 kI_1 rfl ?_
        refine j_iadd (pc' := 112) C dX12_layShortest_111 rfl ?_
        obtain ⟨zc28, hzc28, hr⟩ := ob hr
        refine j_put (pc' := 115) C dX12_layShortest_112 fw_X12_378 rfl rfl hzc28 rfl ?_
        refine j_goto (tgt := 65) C dX12_layShortest_115 rfl ?_
        have hr := izs13 ((zs13.1 + (-1 : Int32)), zc28) (Option.some.inj hr).symm
        exact j_lv [1, 0] rfl hr
    · have hr := ifT hc hr
      clear hc
      have hr := Option.some.inj hr
      subst hr
      exact j_vret C hq hret dX12_layShortest_40
  refine j_lv (lv' := [(0, .ref this), (1, .int (0 : Int32))]) [1, 0] rfl ?_
  refine it_J (J := (fun (zs2 : Int32) => Jd G 0 0 nx zc1 7 [(0, .ref this), (1, .int zs2)] [])) ?_ hzo3
  clear hzo3
  intro zs2 zr4 hr izs2 ezs2
  refine j_iload_n (q := 1) (pc' := 8) C dX12_layShortest_7 rfl rfl rfl ?_
  refine j_bipush (v := 64) (pc' := 10) C dX12_layShortest_8 kB_64 rfl ?_
  refine j_ic_ge (tgt := 34) (pc' := 13) C dX12_layShortest_10 rfl rfl (fun hc => ?_) (fun hc => ?_)
  · have hr := ifT hc hr
    clear hc
    have hr := ezs2 _ (Option.some.inj hr).symm
    subst hr
    exact j_lv [0, 1] rfl kzo3
  · have hr := ifF hc hr
    clear hc
    refine j_aload_n (q := 0) (pc' := 14) C dX12_layShortest_13 rfl rfl rfl ?_
    refine j_iload_n (q := 1) (pc' := 15) C dX12_layShortest_14 rfl rfl rfl ?_
    obtain ⟨zz29, hzz29, hr⟩ := ob hr
    obtain ⟨zx30, hzx30, hr⟩ := ob hr
    obtain ⟨fhzz29, hzz29⟩ := rcv_sp hzz29
    refine j_callV (ci := 9) (As := [.int zs2]) (rest := []) (st1 := [.long zx30]) (pc' := 18) C ⟨wm_1996, wm_110⟩ rfl hzz29 (c_X12_nearing (nx := nx) hzx30) yw_X12_nearing wm_1994 rfl rfl (Nat.le_of_ble_eq_true rfl) ⟨by decide, by decide⟩ dX12_layShortest_15 rfl rfl ?_
    refine j_aload_n (q := 0) (pc' := 19) C dX12_layShortest_18 rfl rfl rfl ?_
    obtain ⟨zz31, hzz31, hr⟩ := ob hr
    obtain ⟨zx32, hzx32, hr⟩ := ob hr
    obtain ⟨fhzz31, hzz31⟩ := rcv_sp hzz31
    refine j_callV (ci := 9) (As := []) (rest := [.long zx30]) (st1 := [.long zx32, .long zx30]) (pc' := 22) C ⟨wm_1710, wm_69⟩ rfl hzz31 (c_X12_starts (nx := nx) hzx32) yw_X12_starts wm_1708 rfl rfl (Nat.le_of_ble_eq_true rfl) ⟨by decide, by decide⟩ dX12_layShortest_19 rfl rfl ?_
    refine j_land (pc' := 23) C dX12_layShortest_22 rfl ?_
    refine j_lconst (v := 0) (pc' := 24) C dX12_layShortest_23 kL_0 rfl ?_
    refine j_lcmp (pc' := 25) C dX12_layShortest_24 rfl ?_
    refine j_if_ne (tgt := 34) (pc' := 28) C dX12_layShortest_25 rfl rfl (fun hc => ?_) (fun hc => ?_)
    · have hr := ifF hc hr
      clear hc
      have hr := ezs2 _ (Option.some.inj hr).symm
      subst hr
      exact j_lv [0, 1] rfl kzo3
    · have hr := ifT hc hr
      clear hc
      refine j_iinc (q := 1) (v := 1) (lv' := [(1, .int (zs2 + (1 : Int32))), (0, .ref this)]) (pc' := 31) C dX12_layShortest_28 rfl kI_1 (by decide) rfl rfl ?_
      refine j_goto (tgt := 7) C dX12_layShortest_31 rfl ?_
      have hr := izs2 (zs2 + (1 : Int32)) (Option.some.inj hr).symm
      exact j_lv [1, 0] rfl hr
def m_X12_shortest (ce : Ce) (this : Nat) (p1 : Int32) (p2 : Int32) : Option (Int32 × Ce) :=
  (rcv ce 9 this).bind fun zz1 =>
  (m_X12_layShortest ce this).bind fun zq2 =>
  (rcv zq2.2 9 this).bind fun zz3 =>
  (m_X12_ofWay zq2.2 this p1 p2).bind fun zx4 =>
  some (zx4, zq2.2)
set_option maxRecDepth 100000 in
set_option maxHeartbeats 4000000 in
theorem c_X12_shortest {nx : Nat} {ce : Ce} {this : Nat} {p1 : Int32} {p2 : Int32} {q : Int32 × Ce} (hr : m_X12_shortest ce this p1 p2 = some q) : Ct yX12_shortest cX12_shortest 3 (some .int) 5 116 0 0 [.ref this, .int p1, .int p2] nx ce (some (.int q.1)) q.2 := by
  unfold m_X12_shortest at hr
  refine ct_of (by decide) (Nat.le_of_ble_eq_true rfl) ?_
  intro G C hq hret hin
  show Jd G 0 0 nx ce 0 [(0, .ref this), (1, .int p1), (2, .int p2)] []
  refine j_aload_n (q := 0) (pc' := 1) C dX12_shortest_0 rfl rfl rfl ?_
  obtain ⟨zz1, hzz1, hr⟩ := ob hr
  obtain ⟨zq2, hzq2, hr⟩ := ob hr
  obtain ⟨fhzz1, hzz1⟩ := rcv_sp hzz1
  refine j_callV (ci := 9) (As := []) (rest := []) (st1 := []) (pc' := 4) C ⟨wm_2008, wm_111⟩ rfl hzz1 (c_X12_layShortest (nx := nx) hzq2) yw_X12_layShortest wm_2006 rfl rfl (Nat.le_of_ble_eq_true rfl) ⟨by decide, by decide⟩ dX12_shortest_1 rfl rfl ?_
  refine j_aload_n (q := 0) (pc' := 5) C dX12_shortest_4 rfl rfl rfl ?_
  refine j_iload_n (q := 1) (pc' := 6) C dX12_shortest_5 rfl rfl rfl ?_
  refine j_iload_n (q := 2) (pc' := 7) C dX12_shortest_6 rfl rfl rfl ?_
  obtain ⟨zz3, hzz3, hr⟩ := ob hr
  obtain ⟨zx4, hzx4, hr⟩ := ob hr
  obtain ⟨fhzz3, hzz3⟩ := rcv_sp hzz3
  refine j_callV (ci := 9) (As := [.int p1, .int p2]) (rest := []) (st1 := [.int zx4]) (pc' := 10) C ⟨wm_1914, wm_104⟩ rfl hzz3 (c_X12_ofWay (nx := nx) hzx4) yw_X12_ofWay wm_1912 rfl rfl (Nat.le_of_ble_eq_true rfl) ⟨by decide, by decide⟩ dX12_shortest_7 rfl rfl ?_
  have hr := Option.some.inj hr
  subst hr
  exact j_iret C hq hret dX12_shortest_10
def m_X12_detour (ce : Ce) (this : Nat) : Option (Int32 × Ce) :=
  (gA ce 9 0 this).bind fun zx1 =>
  (aI ce zx1 (5 : Int32)).bind fun zx2 =>
  if zx2 = (4 : Int32) then
    (rcv ce 9 this).bind fun zz3 =>
    (m_X12_layTrace ce this).bind fun zq4 =>
    (gI zq4.2 9 28 this).bind fun zx5 =>
    (rcv zq4.2 9 this).bind fun zz6 =>
    (m_X12_layShortest zq4.2 this).bind fun zq7 =>
    (gI zq7.2 9 28 this).bind fun zx8 =>
    some ((zx5 - zx8), zq7.2)
  else
    some ((-1 : Int32), ce)
set_option maxRecDepth 100000 in
set_option maxHeartbeats 4000000 in
theorem c_X12_detour {nx : Nat} {ce : Ce} {this : Nat} {q : Int32 × Ce} (hr : m_X12_detour ce this = some q) : Ct yX12_detour cX12_detour 2 (some .int) 5 116 0 0 [.ref this] nx ce (some (.int q.1)) q.2 := by
  unfold m_X12_detour at hr
  refine ct_of (by decide) (Nat.le_of_ble_eq_true rfl) ?_
  intro G C hq hret hin
  show Jd G 0 0 nx ce 0 [(0, .ref this)] []
  refine j_aload_n (q := 0) (pc' := 1) C dX12_detour_0 rfl rfl rfl ?_
  obtain ⟨zx1, hzx1, hr⟩ := ob hr
  refine j_getA (pc' := 4) C dX12_detour_1 fl_X12_8 hzx1 rfl ?_
  refine j_iconst (v := 5) (pc' := 5) C dX12_detour_4 kI_5 rfl ?_
  obtain ⟨zx2, hzx2, hr⟩ := ob hr
  refine j_iald (pc' := 6) C dX12_detour_5 hzx2 rfl ?_
  refine j_iconst (v := 4) (pc' := 7) C dX12_detour_6 kI_4 rfl ?_
  refine j_ic_eq (tgt := 12) (pc' := 10) C dX12_detour_7 rfl rfl (fun hc => ?_) (fun hc => ?_)
  · have hr := ifT hc hr
    clear hc
    refine j_aload_n (q := 0) (pc' := 13) C dX12_detour_12 rfl rfl rfl ?_
    obtain ⟨zz3, hzz3, hr⟩ := ob hr
    obtain ⟨zq4, hzq4, hr⟩ := ob hr
    obtain ⟨fhzz3, hzz3⟩ := rcv_sp hzz3
    refine j_callV (ci := 9) (As := []) (rest := []) (st1 := []) (pc' := 16) C ⟨wm_1906, wm_102⟩ rfl hzz3 (c_X12_layTrace (nx := nx) hzq4) yw_X12_layTrace wm_1904 rfl rfl (Nat.le_of_ble_eq_true rfl) ⟨by decide, by decide⟩ dX12_detour_13 rfl rfl ?_
    refine j_aload_n (q := 0) (pc' := 17) C dX12_detour_16 rfl rfl rfl ?_
    obtain ⟨zx5, hzx5, hr⟩ := ob hr
    refine j_getI (pc' := 20) C dX12_detour_17 fl_X12_378 hzx5 rfl ?_
    refine j_istore_n (lv' := [(1, .int zx5), (0, .ref this)]) (pc' := 21) C dX12_detour_20 rfl (by decide) rfl rfl ?_
    refine j_aload_n (q := 1) (pc' := 22) C dX12_detour_21 rfl rfl rfl ?_
    obtain ⟨zz6, hzz6, hr⟩ := ob hr
    obtain ⟨zq7, hzq7, hr⟩ := ob hr
    obtain ⟨fhzz6, hzz6⟩ := rcv_sp hzz6
    refine j_callV (ci := 9) (As := []) (rest := []) (st1 := []) (pc' := 25) C ⟨wm_2008, wm_111⟩ rfl hzz6 (c_X12_layShortest (nx := nx) hzq7) yw_X12_layShortest wm_2006 rfl rfl (Nat.le_of_ble_eq_true rfl) ⟨by decide, by decide⟩ dX12_detour_22 rfl rfl ?_
    refine j_iload_n (q := 0) (pc' := 26) C dX12_detour_25 rfl rfl rfl ?_
    refine j_aload_n (q := 1) (pc' := 27) C dX12_detour_26 rfl rfl rfl ?_
    obtain ⟨zx8, hzx8, hr⟩ := ob hr
    refine j_getI (pc' := 30) C dX12_detour_27 fl_X12_378 hzx8 rfl ?_
    refine j_isub (pc' := 31) C dX12_detour_30 rfl ?_
    have hr := Option.some.inj hr
    subst hr
    exact j_iret C hq hret dX12_detour_31
  · have hr := ifF hc hr
    clear hc
    refine j_iconst (v := -1) (pc' := 11) C dX12_detour_10 kI_m1 rfl ?_
    have hr := Option.some.inj hr
    subst hr
    exact j_iret C hq hret dX12_detour_11
def m_X12_ofClaim (ce : Ce) (this : Nat) (p1 : Int32) (p2 : Int32) : Option (Int32) :=
  if p2 = 0 then
    (gA ce 9 0 this).bind fun zx3 =>
    (aI ce zx3 ((92 : Int32) + p1)).bind fun zx4 =>
    some (zx4 >>> ((6 : Int32) &&& 31))
  else
    (gA ce 9 0 this).bind fun zx1 =>
    (aI ce zx1 ((92 : Int32) + p1)).bind fun zx2 =>
    some (zx2 &&& (63 : Int32))
set_option maxRecDepth 100000 in
set_option maxHeartbeats 4000000 in
theorem c_X12_ofClaim {nx : Nat} {ce : Ce} {this : Nat} {p1 : Int32} {p2 : Int32} {q : Int32} (hr : m_X12_ofClaim ce this p1 p2 = some q) : Ct yX12_ofClaim cX12_ofClaim 3 (some .int) 0 0 0 0 [.ref this, .int p1, .int p2] nx ce (some (.int q)) ce := by
  unfold m_X12_ofClaim at hr
  refine ct_of (by decide) (Nat.le_of_ble_eq_true rfl) ?_
  intro G C hq hret hin
  show Jd G 0 0 nx ce 0 [(0, .ref this), (1, .int p1), (2, .int p2)] []
  refine j_iload_n (q := 2) (pc' := 1) C dX12_ofClaim_0 rfl rfl rfl ?_
  refine j_if_ne (tgt := 19) (pc' := 4) C dX12_ofClaim_1 rfl rfl (fun hc => ?_) (fun hc => ?_)
  · have hr := ifF hc hr
    clear hc
    refine j_aload_n (q := 0) (pc' := 20) C dX12_ofClaim_19 rfl rfl rfl ?_
    obtain ⟨zx1, hzx1, hr⟩ := ob hr
    refine j_getA (pc' := 23) C dX12_ofClaim_20 fl_X12_8 hzx1 rfl ?_
    refine j_bipush (v := 92) (pc' := 25) C dX12_ofClaim_23 kB_92 rfl ?_
    refine j_iload_n (q := 1) (pc' := 26) C dX12_ofClaim_25 rfl rfl rfl ?_
    refine j_iadd (pc' := 27) C dX12_ofClaim_26 rfl ?_
    obtain ⟨zx2, hzx2, hr⟩ := ob hr
    refine j_iald (pc' := 28) C dX12_ofClaim_27 hzx2 rfl ?_
    refine j_bipush (v := 63) (pc' := 30) C dX12_ofClaim_28 kB_63 rfl ?_
    refine j_iand (pc' := 31) C dX12_ofClaim_30 rfl ?_
    have hr := Option.some.inj hr
    subst hr
    exact j_iret C hq hret dX12_ofClaim_31
  · have hr := ifT hc hr
    clear hc
    refine j_aload_n (q := 0) (pc' := 5) C dX12_ofClaim_4 rfl rfl rfl ?_
    obtain ⟨zx3, hzx3, hr⟩ := ob hr
    refine j_getA (pc' := 8) C dX12_ofClaim_5 fl_X12_8 hzx3 rfl ?_
    refine j_bipush (v := 92) (pc' := 10) C dX12_ofClaim_8 kB_92 rfl ?_
    refine j_iload_n (q := 1) (pc' := 11) C dX12_ofClaim_10 rfl rfl rfl ?_
    refine j_iadd (pc' := 12) C dX12_ofClaim_11 rfl ?_
    obtain ⟨zx4, hzx4, hr⟩ := ob hr
    refine j_iald (pc' := 13) C dX12_ofClaim_12 hzx4 rfl ?_
    refine j_bipush (v := 6) (pc' := 15) C dX12_ofClaim_13 kB_6 rfl ?_
    refine j_ishr (pc' := 16) C dX12_ofClaim_15 rfl ?_
    refine j_goto (tgt := 31) C dX12_ofClaim_16 rfl ?_
    have hr := Option.some.inj hr
    subst hr
    exact j_iret C hq hret dX12_ofClaim_31
def m_X12_layClaims (ce : Ce) (this : Nat) : Option (Unit × Ce) :=
  (pV ce 9 31 this (.int (0 : Int32))).bind fun zc1 =>
  (it (fun (zs2 : Int32 × Ce) =>
    (gA zs2.2 9 0 this).bind fun zx5 =>
    (aI zs2.2 zx5 (16 : Int32)).bind fun zx6 =>
    if zx6 ≤ zs2.1 then
      some (Sum.inr ((), zs2.2))
    else
      (rcv zs2.2 9 this).bind fun zz7 =>
      (m_X12_ofClaim zs2.2 this zs2.1 (0 : Int32)).bind fun zx8 =>
      (rcv zs2.2 9 this).bind fun zz9 =>
      (m_X12_ofClaim zs2.2 this zs2.1 (1 : Int32)).bind fun zx10 =>
      (rcv zs2.2 9 this).bind fun zz11 =>
      (m_X12_addJudged zs2.2 this zx8 zx10).bind fun zq12 =>
      some (Sum.inl ((zs2.1 + (1 : Int32)), zq12.2))
  ) FU ((0 : Int32), zc1)).bind fun (zo3 : Unit × Ce) =>
  some ((), zo3.2)
set_option maxRecDepth 100000 in
set_option maxHeartbeats 4000000 in
theorem c_X12_layClaims {nx : Nat} {ce : Ce} {this : Nat} {q : Unit × Ce} (hr : m_X12_layClaims ce this = some q) : Ct yX12_layClaims cX12_layClaims 2 none 1 22 0 0 [.ref this] nx ce none q.2 := by
  unfold m_X12_layClaims at hr
  refine ct_of (by decide) (Nat.le_of_ble_eq_true rfl) ?_
  intro G C hq hret hin
  show Jd G 0 0 nx ce 0 [(0, .ref this)] []
  refine j_aload_n (q := 0) (pc' := 1) C dX12_layClaims_0 rfl rfl rfl ?_
  refine j_iconst (v := 0) (pc' := 2) C dX12_layClaims_1 kI_0 rfl ?_
  obtain ⟨zc1, hzc1, hr⟩ := ob hr
  refine j_put (pc' := 5) C dX12_layClaims_2 fw_X12_390 rfl rfl hzc1 rfl ?_
  refine j_iconst (v := 0) (pc' := 6) C dX12_layClaims_5 kI_0 rfl ?_
  refine j_istore_n (lv' := [(1, .int (0 : Int32)), (0, .ref this)]) (pc' := 7) C dX12_layClaims_6 rfl (by decide) rfl rfl ?_
  obtain ⟨zo3, hzo3, rzo3⟩ := ob hr
  have kzo3 : Jd G 0 0 nx zo3.2 40 [] [] := by
    have hr := rzo3
    have hr := Option.some.inj hr
    subst hr
    exact j_vret C hq hret dX12_layClaims_40
  refine j_lv (lv' := [(0, .ref this), (1, .int (0 : Int32))]) [1, 0] rfl ?_
  refine it_J (J := (fun (zs2 : Int32 × Ce) => Jd G 0 0 nx zs2.2 7 [(0, .ref this), (1, .int zs2.1)] [])) ?_ hzo3
  clear hzo3
  intro zs2 zr4 hr izs2 ezs2
  refine j_iload_n (q := 1) (pc' := 8) C dX12_layClaims_7 rfl rfl rfl ?_
  refine j_aload_n (q := 0) (pc' := 9) C dX12_layClaims_8 rfl rfl rfl ?_
  obtain ⟨zx5, hzx5, hr⟩ := ob hr
  refine j_getA (pc' := 12) C dX12_layClaims_9 fl_X12_8 hzx5 rfl ?_
  refine j_bipush (v := 16) (pc' := 14) C dX12_layClaims_12 kB_16 rfl ?_
  obtain ⟨zx6, hzx6, hr⟩ := ob hr
  refine j_iald (pc' := 15) C dX12_layClaims_14 hzx6 rfl ?_
  refine j_ic_ge (tgt := 40) (pc' := 18) C dX12_layClaims_15 rfl rfl (fun hc => ?_) (fun hc => ?_)
  · have hr := ifT hc hr
    clear hc
    have hr := ezs2 _ (Option.some.inj hr).symm
    subst hr
    exact j_lv [] rfl kzo3
  · have hr := ifF hc hr
    clear hc
    refine j_aload_n (q := 0) (pc' := 19) C dX12_layClaims_18 rfl rfl rfl ?_
    refine j_aload_n (q := 0) (pc' := 20) C dX12_layClaims_19 rfl rfl rfl ?_
    refine j_iload_n (q := 1) (pc' := 21) C dX12_layClaims_20 rfl rfl rfl ?_
    refine j_iconst (v := 0) (pc' := 22) C dX12_layClaims_21 kI_0 rfl ?_
    obtain ⟨zz7, hzz7, hr⟩ := ob hr
    obtain ⟨zx8, hzx8, hr⟩ := ob hr
    obtain ⟨fhzz7, hzz7⟩ := rcv_sp hzz7
    refine j_callV (ci := 9) (As := [.int zs2.1, .int (0 : Int32)]) (rest := [.ref this]) (st1 := [.int zx8, .ref this]) (pc' := 25) C ⟨wm_2036, wm_113⟩ rfl hzz7 (c_X12_ofClaim (nx := nx) hzx8) yw_X12_ofClaim wm_2034 rfl rfl (Nat.le_of_ble_eq_true rfl) ⟨by decide, by decide⟩ dX12_layClaims_22 rfl rfl ?_
    refine j_aload_n (q := 0) (pc' := 26) C dX12_layClaims_25 rfl rfl rfl ?_
    refine j_iload_n (q := 1) (pc' := 27) C dX12_layClaims_26 rfl rfl rfl ?_
    refine j_iconst (v := 1) (pc' := 28) C dX12_layClaims_27 kI_1 rfl ?_
    obtain ⟨zz9, hzz9, hr⟩ := ob hr
    obtain ⟨zx10, hzx10, hr⟩ := ob hr
    obtain ⟨fhzz9, hzz9⟩ := rcv_sp hzz9
    refine j_callV (ci := 9) (As := [.int zs2.1, .int (1 : Int32)]) (rest := [.int zx8, .ref this]) (st1 := [.int zx10, .int zx8, .ref this]) (pc' := 31) C ⟨wm_2036, wm_113⟩ rfl hzz9 (c_X12_ofClaim (nx := nx) hzx10) yw_X12_ofClaim wm_2034 rfl rfl (Nat.le_of_ble_eq_true rfl) ⟨by decide, by decide⟩ dX12_layClaims_28 rfl rfl ?_
    obtain ⟨zz11, hzz11, hr⟩ := ob hr
    obtain ⟨zq12, hzq12, hr⟩ := ob hr
    obtain ⟨fhzz11, hzz11⟩ := rcv_sp hzz11
    refine j_callV (ci := 9) (As := [.int zx8, .int zx10]) (rest := []) (st1 := []) (pc' := 34) C ⟨wm_1926, wm_106⟩ rfl hzz11 (c_X12_addJudged (nx := nx) hzq12) yw_X12_addJudged wm_1924 rfl rfl (Nat.le_of_ble_eq_true rfl) ⟨by decide, by decide⟩ dX12_layClaims_31 rfl rfl ?_
    refine j_iinc (q := 1) (v := 1) (lv' := [(1, .int (zs2.1 + (1 : Int32))), (0, .ref this)]) (pc' := 37) C dX12_layClaims_34 rfl kI_1 (by decide) rfl rfl ?_
    refine j_goto (tgt := 7) C dX12_layClaims_37 rfl ?_
    have hr := izs2 ((zs2.1 + (1 : Int32)), zq12.2) (Option.some.inj hr).symm
    exact j_lv [1, 0] rfl hr
def m_X12_isLaid (ce : Ce) (this : Nat) (p1 : Int32) : Option (Int32 × Ce) :=
  (pV ce 9 31 this (.int (0 : Int32))).bind fun zc1 =>
  (
    if p1 = 0 then
      (rcv zc1 9 this).bind fun zz18 =>
      (m_X12_layClaims zc1 this).bind fun zq19 =>
      some ((), zq19.2)
    else
      if p1 = (1 : Int32) then
        (rcv zc1 9 this).bind fun zz16 =>
        (m_X12_layFence zc1 this).bind fun zq17 =>
        some ((), zq17.2)
      else
        some ((), zc1)
  ).bind fun (zj2 : Unit × Ce) =>
  (it (fun (zs3 : Int32 × Ce) =>
    (gA zs3.2 9 0 this).bind fun zx8 =>
    (aI zs3.2 zx8 (17 : Int32)).bind fun zx9 =>
    if zx9 ≤ zs3.1 then
      some (Sum.inr ((), zs3.2))
    else
      if p1 = (2 : Int32) then
        (rcv zs3.2 9 this).bind fun zz10 =>
        (m_X12_maskOf zs3.2 this zs3.1).bind fun zx11 =>
        (rcv zs3.2 9 this).bind fun zz12 =>
        (m_X12_bitsOf zs3.2 this zs3.1).bind fun zx13 =>
        (rcv zs3.2 9 this).bind fun zz14 =>
        (m_X12_addJudged zs3.2 this zx11 zx13).bind fun zq15 =>
        some (Sum.inl ((zs3.1 + (1 : Int32)), zq15.2))
      else
        some (Sum.inr ((), zs3.2))
  ) FU ((0 : Int32), zj2.2)).bind fun (zo4 : Unit × Ce) =>
  if p1 = 0 then
    some ((1 : Int32), zo4.2)
  else
    if p1 = (2 : Int32) then
      some ((1 : Int32), zo4.2)
    else
      if p1 = (1 : Int32) then
        (gA zo4.2 9 0 this).bind fun zx6 =>
        (aI zo4.2 zx6 (5 : Int32)).bind fun zx7 =>
        if zx7 = (3 : Int32) then
          some ((1 : Int32), zo4.2)
        else
          some ((0 : Int32), zo4.2)
      else
        some ((0 : Int32), zo4.2)
set_option maxRecDepth 100000 in
set_option maxHeartbeats 4000000 in
theorem c_X12_isLaid {nx : Nat} {ce : Ce} {this : Nat} {p1 : Int32} {q : Int32 × Ce} (hr : m_X12_isLaid ce this p1 = some q) : Ct yX12_isLaid cX12_isLaid 3 (some .boolean) 2 44 0 0 [.ref this, .int p1] nx ce (some (.int q.1)) q.2 := by
  unfold m_X12_isLaid at hr
  refine ct_of (by decide) (Nat.le_of_ble_eq_true rfl) ?_
  intro G C hq hret hin
  show Jd G 0 0 nx ce 0 [(0, .ref this), (1, .int p1)] []
  refine j_aload_n (q := 0) (pc' := 1) C dX12_isLaid_0 rfl rfl rfl ?_
  refine j_iconst (v := 0) (pc' := 2) C dX12_isLaid_1 kI_0 rfl ?_
  obtain ⟨zc1, hzc1, hr⟩ := ob hr
  refine j_put (pc' := 5) C dX12_isLaid_2 fw_X12_390 rfl rfl hzc1 rfl ?_
  refine j_iload_n (q := 1) (pc' := 6) C dX12_isLaid_5 rfl rfl rfl ?_
  obtain ⟨zj2, hzj2, rzj2⟩ := ob hr
  have kzj2 : Jd G 0 0 nx zj2.2 25 [(0, .ref this), (1, .int p1)] [] := by
    have hr := rzj2
    refine j_iconst (v := 0) (pc' := 26) C dX12_isLaid_25 kI_0 rfl ?_
    refine j_istore_n (lv' := [(2, .int (0 : Int32)), (0, .ref this), (1, .int p1)]) (pc' := 27) C dX12_isLaid_26 rfl (by decide) rfl rfl ?_
    obtain ⟨zo4, hzo4, rzo4⟩ := ob hr
    have kzo4 : Jd G 0 0 nx zo4.2 63 [(0, .ref this), (1, .int p1)] [] := by
      have hr := rzo4
      refine j_iload_n (q := 1) (pc' := 64) C dX12_isLaid_63 rfl rfl rfl ?_
      refine j_if_eq (tgt := 87) (pc' := 67) C dX12_isLaid_64 rfl rfl (fun hc => ?_) (fun hc => ?_)
      · have hr := ifT hc hr
        clear hc
        refine j_iconst (v := 1) (pc' := 88) C dX12_isLaid_87 kI_1 rfl ?_
        refine j_goto (tgt := 92) C dX12_isLaid_88 rfl ?_
        have hr := Option.some.inj hr
        subst hr
        exact j_zret C hq hret rfl dX12_isLaid_92
      · have hr := ifF hc hr
        clear hc
        refine j_iload_n (q := 1) (pc' := 68) C dX12_isLaid_67 rfl rfl rfl ?_
        refine j_iconst (v := 2) (pc' := 69) C dX12_isLaid_68 kI_2 rfl ?_
        refine j_ic_eq (tgt := 87) (pc' := 72) C dX12_isLaid_69 rfl rfl (fun hc => ?_) (fun hc => ?_)
        · have hr := ifT hc hr
          clear hc
          refine j_iconst (v := 1) (pc' := 88) C dX12_isLaid_87 kI_1 rfl ?_
          refine j_goto (tgt := 92) C dX12_isLaid_88 rfl ?_
          have hr := Option.some.inj hr
          subst hr
          exact j_zret C hq hret rfl dX12_isLaid_92
        · have hr := ifF hc hr
          clear hc
          refine j_iload_n (q := 1) (pc' := 73) C dX12_isLaid_72 rfl rfl rfl ?_
          refine j_iconst (v := 1) (pc' := 74) C dX12_isLaid_73 kI_1 rfl ?_
          refine j_ic_ne (tgt := 91) (pc' := 77) C dX12_isLaid_74 rfl rfl (fun hc => ?_) (fun hc => ?_)
          · have hr := ifF hc hr
            clear hc
            refine j_iconst (v := 0) (pc' := 92) C dX12_isLaid_91 kI_0 rfl ?_
            have hr := Option.some.inj hr
            subst hr
            exact j_zret C hq hret rfl dX12_isLaid_92
          · have hr := ifT hc hr
            clear hc
            refine j_aload_n (q := 0) (pc' := 78) C dX12_isLaid_77 rfl rfl rfl ?_
            obtain ⟨zx6, hzx6, hr⟩ := ob hr
            refine j_getA (pc' := 81) C dX12_isLaid_78 fl_X12_8 hzx6 rfl ?_
            refine j_iconst (v := 5) (pc' := 82) C dX12_isLaid_81 kI_5 rfl ?_
            obtain ⟨zx7, hzx7, hr⟩ := ob hr
            refine j_iald (pc' := 83) C dX12_isLaid_82 hzx7 rfl ?_
            refine j_iconst (v := 3) (pc' := 84) C dX12_isLaid_83 kI_3 rfl ?_
            refine j_ic_ne (tgt := 91) (pc' := 87) C dX12_isLaid_84 rfl rfl (fun hc => ?_) (fun hc => ?_)
            · have hr := ifF hc hr
              clear hc
              refine j_iconst (v := 0) (pc' := 92) C dX12_isLaid_91 kI_0 rfl ?_
              have hr := Option.some.inj hr
              subst hr
              exact j_zret C hq hret rfl dX12_isLaid_92
            · have hr := ifT hc hr
              clear hc
              refine j_iconst (v := 1) (pc' := 88) C dX12_isLaid_87 kI_1 rfl ?_
              refine j_goto (tgt := 92) C dX12_isLaid_88 rfl ?_
              have hr := Option.some.inj hr
              subst hr
              exact j_zret C hq hret rfl dX12_isLaid_92
    refine j_lv (lv' := [(0, .ref this), (1, .int p1), (2, .int (0 : Int32))]) [1, 2, 0] rfl ?_
    refine it_J (J := (fun (zs3 : Int32 × Ce) => Jd G 0 0 nx zs3.2 27 [(0, .ref this), (1, .int p1), (2, .int zs3.1)] [])) ?_ hzo4
    clear hzo4
    intro zs3 zr5 hr izs3 ezs3
    refine j_iload_n (q := 2) (pc' := 28) C dX12_isLaid_27 rfl rfl rfl ?_
    refine j_aload_n (q := 0) (pc' := 29) C dX12_isLaid_28 rfl rfl rfl ?_
    obtain ⟨zx8, hzx8, hr⟩ := ob hr
    refine j_getA (pc' := 32) C dX12_isLaid_29 fl_X12_8 hzx8 rfl ?_
    refine j_bipush (v := 17) (pc' := 34) C dX12_isLaid_32 kB_17 rfl ?_
    obtain ⟨zx9, hzx9, hr⟩ := ob hr
    refine j_iald (pc' := 35) C dX12_isLaid_34 hzx9 rfl ?_
    refine j_ic_ge (tgt := 63) (pc' := 38) C dX12_isLaid_35 rfl rfl (fun hc => ?_) (fun hc => ?_)
    · have hr := ifT hc hr
      clear hc
      have hr := ezs3 _ (Option.some.inj hr).symm
      subst hr
      exact j_lv [0, 1] rfl kzo4
    · have hr := ifF hc hr
      clear hc
      refine j_iload_n (q := 1) (pc' := 39) C dX12_isLaid_38 rfl rfl rfl ?_
      refine j_iconst (v := 2) (pc' := 40) C dX12_isLaid_39 kI_2 rfl ?_
      refine j_ic_ne (tgt := 63) (pc' := 43) C dX12_isLaid_40 rfl rfl (fun hc => ?_) (fun hc => ?_)
      · have hr := ifF hc hr
        clear hc
        have hr := ezs3 _ (Option.some.inj hr).symm
        subst hr
        exact j_lv [0, 1] rfl kzo4
      · have hr := ifT hc hr
        clear hc
        refine j_aload_n (q := 0) (pc' := 44) C dX12_isLaid_43 rfl rfl rfl ?_
        refine j_aload_n (q := 0) (pc' := 45) C dX12_isLaid_44 rfl rfl rfl ?_
        refine j_iload_n (q := 2) (pc' := 46) C dX12_isLaid_45 rfl rfl rfl ?_
        obtain ⟨zz10, hzz10, hr⟩ := ob hr
        obtain ⟨zx11, hzx11, hr⟩ := ob hr
        obtain ⟨fhzz10, hzz10⟩ := rcv_sp hzz10
        refine j_callV (ci := 9) (As := [.int zs3.1]) (rest := [.ref this]) (st1 := [.int zx11, .ref this]) (pc' := 49) C ⟨wm_1718, wm_71⟩ rfl hzz10 (c_X12_maskOf (nx := nx) hzx11) yw_X12_maskOf wm_1716 rfl rfl (Nat.le_of_ble_eq_true rfl) ⟨by decide, by decide⟩ dX12_isLaid_46 rfl rfl ?_
        refine j_aload_n (q := 0) (pc' := 50) C dX12_isLaid_49 rfl rfl rfl ?_
        refine j_iload_n (q := 2) (pc' := 51) C dX12_isLaid_50 rfl rfl rfl ?_
        obtain ⟨zz12, hzz12, hr⟩ := ob hr
        obtain ⟨zx13, hzx13, hr⟩ := ob hr
        obtain ⟨fhzz12, hzz12⟩ := rcv_sp hzz12
        refine j_callV (ci := 9) (As := [.int zs3.1]) (rest := [.int zx11, .ref this]) (st1 := [.int zx13, .int zx11, .ref this]) (pc' := 54) C ⟨wm_1722, wm_72⟩ rfl hzz12 (c_X12_bitsOf (nx := nx) hzx13) yw_X12_bitsOf wm_1720 rfl rfl (Nat.le_of_ble_eq_true rfl) ⟨by decide, by decide⟩ dX12_isLaid_51 rfl rfl ?_
        obtain ⟨zz14, hzz14, hr⟩ := ob hr
        obtain ⟨zq15, hzq15, hr⟩ := ob hr
        obtain ⟨fhzz14, hzz14⟩ := rcv_sp hzz14
        refine j_callV (ci := 9) (As := [.int zx11, .int zx13]) (rest := []) (st1 := []) (pc' := 57) C ⟨wm_1926, wm_106⟩ rfl hzz14 (c_X12_addJudged (nx := nx) hzq15) yw_X12_addJudged wm_1924 rfl rfl (Nat.le_of_ble_eq_true rfl) ⟨by decide, by decide⟩ dX12_isLaid_54 rfl rfl ?_
        refine j_iinc (q := 2) (v := 1) (lv' := [(2, .int (zs3.1 + (1 : Int32))), (0, .ref this), (1, .int p1)]) (pc' := 60) C dX12_isLaid_57 rfl kI_1 (by decide) rfl rfl ?_
        refine j_goto (tgt := 27) C dX12_isLaid_60 rfl ?_
        have hr := izs3 ((zs3.1 + (1 : Int32)), zq15.2) (Option.some.inj hr).symm
        exact j_lv [1, 2, 0] rfl hr
  clear rzj2
  have hr := hzj2
  clear hzj2
  refine j_if_ne (tgt := 16) (pc' := 9) C dX12_isLaid_6 rfl rfl (fun hc => ?_) (fun hc => ?_)
  · have hr := ifF hc hr
    clear hc
    refine j_iload_n (q := 1) (pc' := 17) C dX12_isLaid_16 rfl rfl rfl ?_
    refine j_iconst (v := 1) (pc' := 18) C dX12_isLaid_17 kI_1 rfl ?_
    refine j_ic_ne (tgt := 25) (pc' := 21) C dX12_isLaid_18 rfl rfl (fun hc => ?_) (fun hc => ?_)
    · have hr := ifF hc hr
      clear hc
      have hr := Option.some.inj hr
      subst hr
      exact j_lv [0, 1] rfl kzj2
    · have hr := ifT hc hr
      clear hc
      refine j_aload_n (q := 0) (pc' := 22) C dX12_isLaid_21 rfl rfl rfl ?_
      obtain ⟨zz16, hzz16, hr⟩ := ob hr
      obtain ⟨zq17, hzq17, hr⟩ := ob hr
      obtain ⟨fhzz16, hzz16⟩ := rcv_sp hzz16
      refine j_callV (ci := 9) (As := []) (rest := []) (st1 := []) (pc' := 25) C ⟨wm_1922, wm_105⟩ rfl hzz16 (c_X12_layFence (nx := nx) hzq17) yw_X12_layFence wm_1920 rfl rfl (Nat.le_of_ble_eq_true rfl) ⟨by decide, by decide⟩ dX12_isLaid_22 rfl rfl ?_
      have hr := Option.some.inj hr
      subst hr
      exact j_lv [0, 1] rfl kzj2
  · have hr := ifT hc hr
    clear hc
    refine j_aload_n (q := 0) (pc' := 10) C dX12_isLaid_9 rfl rfl rfl ?_
    obtain ⟨zz18, hzz18, hr⟩ := ob hr
    obtain ⟨zq19, hzq19, hr⟩ := ob hr
    obtain ⟨fhzz18, hzz18⟩ := rcv_sp hzz18
    refine j_callV (ci := 9) (As := []) (rest := []) (st1 := []) (pc' := 13) C ⟨wm_2032, wm_112⟩ rfl hzz18 (c_X12_layClaims (nx := nx) hzq19) yw_X12_layClaims wm_2030 rfl rfl (Nat.le_of_ble_eq_true rfl) ⟨by decide, by decide⟩ dX12_isLaid_10 rfl rfl ?_
    refine j_goto (tgt := 25) C dX12_isLaid_13 rfl ?_
    have hr := Option.some.inj hr
    subst hr
    exact j_lv [0, 1] rfl kzj2
def m_X12_barredBy (ce : Ce) (this : Nat) (p1 : Int32) : Option (Int64) :=
  (gA ce 9 29 this).bind fun zx1 =>
  (aI ce zx1 p1).bind fun zx2 =>
  (gA ce 9 30 this).bind fun zx3 =>
  (aI ce zx3 p1).bind fun zx4 =>
  (rcv ce 9 this).bind fun zz5 =>
  (m_X12_cubeSet ce this zx2 zx4).bind fun zx6 =>
  some zx6
set_option maxRecDepth 100000 in
set_option maxHeartbeats 4000000 in
theorem c_X12_barredBy {nx : Nat} {ce : Ce} {this : Nat} {p1 : Int32} {q : Int64} (hr : m_X12_barredBy ce this p1 = some q) : Ct yX12_barredBy cX12_barredBy 2 (some .long) 3 65 0 0 [.ref this, .int p1] nx ce (some (.long q)) ce := by
  unfold m_X12_barredBy at hr
  refine ct_of (by decide) (Nat.le_of_ble_eq_true rfl) ?_
  intro G C hq hret hin
  show Jd G 0 0 nx ce 0 [(0, .ref this), (1, .int p1)] []
  refine j_aload_n (q := 0) (pc' := 1) C dX12_barredBy_0 rfl rfl rfl ?_
  refine j_aload_n (q := 0) (pc' := 2) C dX12_barredBy_1 rfl rfl rfl ?_
  obtain ⟨zx1, hzx1, hr⟩ := ob hr
  refine j_getA (pc' := 5) C dX12_barredBy_2 fl_X12_62 hzx1 rfl ?_
  refine j_iload_n (q := 1) (pc' := 6) C dX12_barredBy_5 rfl rfl rfl ?_
  obtain ⟨zx2, hzx2, hr⟩ := ob hr
  refine j_iald (pc' := 7) C dX12_barredBy_6 hzx2 rfl ?_
  refine j_aload_n (q := 0) (pc' := 8) C dX12_barredBy_7 rfl rfl rfl ?_
  obtain ⟨zx3, hzx3, hr⟩ := ob hr
  refine j_getA (pc' := 11) C dX12_barredBy_8 fl_X12_65 hzx3 rfl ?_
  refine j_iload_n (q := 1) (pc' := 12) C dX12_barredBy_11 rfl rfl rfl ?_
  obtain ⟨zx4, hzx4, hr⟩ := ob hr
  refine j_iald (pc' := 13) C dX12_barredBy_12 hzx4 rfl ?_
  obtain ⟨zz5, hzz5, hr⟩ := ob hr
  obtain ⟨zx6, hzx6, hr⟩ := ob hr
  obtain ⟨fhzz5, hzz5⟩ := rcv_sp hzz5
  refine j_callV (ci := 9) (As := [.int zx2, .int zx4]) (rest := []) (st1 := [.long zx6]) (pc' := 16) C ⟨wm_1726, wm_73⟩ rfl hzz5 (c_X12_cubeSet (nx := nx) hzx6) yw_X12_cubeSet wm_1724 rfl rfl (Nat.le_of_ble_eq_true rfl) ⟨by decide, by decide⟩ dX12_barredBy_13 rfl rfl ?_
  have hr := Option.some.inj hr
  subst hr
  exact j_lret C hq hret dX12_barredBy_16
def m_X12_barredAll (ce : Ce) (this : Nat) : Option (Int64) :=
  (it (fun (zs1 : Int64 × Int32) =>
    (gI ce 9 31 this).bind fun zx4 =>
    if zx4 ≤ zs1.2 then
      some (Sum.inr zs1.1)
    else
      (rcv ce 9 this).bind fun zz5 =>
      (m_X12_barredBy ce this zs1.2).bind fun zx6 =>
      some (Sum.inl ((zs1.1 ||| zx6), (zs1.2 + (1 : Int32))))
  ) FU ((0 : Int64), (0 : Int32))).bind fun (zo2 : Int64) =>
  some zo2
set_option maxRecDepth 100000 in
set_option maxHeartbeats 4000000 in
theorem c_X12_barredAll {nx : Nat} {ce : Ce} {this : Nat} {q : Int64} (hr : m_X12_barredAll ce this = some q) : Ct yX12_barredAll cX12_barredAll 4 (some .long) 4 86 0 0 [.ref this] nx ce (some (.long q)) ce := by
  unfold m_X12_barredAll at hr
  refine ct_of (by decide) (Nat.le_of_ble_eq_true rfl) ?_
  intro G C hq hret hin
  show Jd G 0 0 nx ce 0 [(0, .ref this)] []
  refine j_lconst (v := 0) (pc' := 1) C dX12_barredAll_0 kL_0 rfl ?_
  refine j_lstore_n (lv' := [(1, .long (0 : Int64)), (0, .ref this)]) (pc' := 2) C dX12_barredAll_1 rfl (by decide) rfl rfl ?_
  refine j_iconst (v := 0) (pc' := 3) C dX12_barredAll_2 kI_0 rfl ?_
  refine j_istore_n (lv' := [(3, .int (0 : Int32)), (1, .long (0 : Int64)), (0, .ref this)]) (pc' := 4) C dX12_barredAll_3 rfl (by decide) rfl rfl ?_
  obtain ⟨zo2, hzo2, rzo2⟩ := ob hr
  have kzo2 : Jd G 0 0 nx ce 26 [(1, .long zo2)] [] := by
    have hr := rzo2
    refine j_lload_n (q := 0) (pc' := 27) C dX12_barredAll_26 rfl rfl rfl ?_
    have hr := Option.some.inj hr
    subst hr
    exact j_lret C hq hret dX12_barredAll_27
  refine j_lv (lv' := [(0, .ref this), (1, .long (0 : Int64)), (3, .int (0 : Int32))]) [2, 1, 0] rfl ?_
  refine it_J (J := (fun (zs1 : Int64 × Int32) => Jd G 0 0 nx ce 4 [(0, .ref this), (1, .long zs1.1), (3, .int zs1.2)] [])) ?_ hzo2
  clear hzo2
  intro zs1 zr3 hr izs1 ezs1
  refine j_iload_n (q := 2) (pc' := 5) C dX12_barredAll_4 rfl rfl rfl ?_
  refine j_aload_n (q := 0) (pc' := 6) C dX12_barredAll_5 rfl rfl rfl ?_
  obtain ⟨zx4, hzx4, hr⟩ := ob hr
  refine j_getI (pc' := 9) C dX12_barredAll_6 fl_X12_390 hzx4 rfl ?_
  refine j_ic_ge (tgt := 26) (pc' := 12) C dX12_barredAll_9 rfl rfl (fun hc => ?_) (fun hc => ?_)
  · have hr := ifT hc hr
    clear hc
    have hr := ezs1 _ (Option.some.inj hr).symm
    subst hr
    exact j_lv [1] rfl kzo2
  · have hr := ifF hc hr
    clear hc
    refine j_lload_n (q := 1) (pc' := 13) C dX12_barredAll_12 rfl rfl rfl ?_
    refine j_aload_n (q := 0) (pc' := 14) C dX12_barredAll_13 rfl rfl rfl ?_
    refine j_iload_n (q := 2) (pc' := 15) C dX12_barredAll_14 rfl rfl rfl ?_
    obtain ⟨zz5, hzz5, hr⟩ := ob hr
    obtain ⟨zx6, hzx6, hr⟩ := ob hr
    obtain ⟨fhzz5, hzz5⟩ := rcv_sp hzz5
    refine j_callV (ci := 9) (As := [.int zs1.2]) (rest := [.long zs1.1]) (st1 := [.long zx6, .long zs1.1]) (pc' := 18) C ⟨wm_2044, wm_115⟩ rfl hzz5 (c_X12_barredBy (nx := nx) hzx6) yw_X12_barredBy wm_2042 rfl rfl (Nat.le_of_ble_eq_true rfl) ⟨by decide, by decide⟩ dX12_barredAll_15 rfl rfl ?_
    refine j_lor (pc' := 19) C dX12_barredAll_18 rfl ?_
    refine j_lstore_n (lv' := [(1, .long (zs1.1 ||| zx6)), (0, .ref this), (3, .int zs1.2)]) (pc' := 20) C dX12_barredAll_19 rfl (by decide) rfl rfl ?_
    refine j_iinc (q := 2) (v := 1) (lv' := [(3, .int (zs1.2 + (1 : Int32))), (1, .long (zs1.1 ||| zx6)), (0, .ref this)]) (pc' := 23) C dX12_barredAll_20 rfl kI_1 (by decide) rfl rfl ?_
    refine j_goto (tgt := 4) C dX12_barredAll_23 rfl ?_
    have hr := izs1 ((zs1.1 ||| zx6), (zs1.2 + (1 : Int32))) (Option.some.inj hr).symm
    exact j_lv [2, 1, 0] rfl hr
def m_X12_leadIn (ce : Ce) (this : Nat) (p1 : Int64) : Option (Int32) :=
  (it (fun (zs1 : Int32) =>
    (rcv ce 9 this).bind fun zz4 =>
    (m_X12_states ce this).bind fun zx5 =>
    if zx5 ≤ zs1 then
      some (Sum.inr (Sum.inr ()))
    else
      (m_X12_has p1 zs1).bind fun zx6 =>
      if zx6 = 0 then
        (rcv ce 9 this).bind fun zz7 =>
        (m_X12_after ce this zs1).bind fun zx8 =>
        if (lg_cmp (zx8 &&& p1) (0 : Int64)) = 0 then
          some (Sum.inl (zs1 + (1 : Int32)))
        else
          some (Sum.inr (Sum.inl zs1))
      else
        some (Sum.inl (zs1 + (1 : Int32)))
  ) FU (0 : Int32)).bind fun (zo2 : Int32 ⊕ Unit) =>
  Sum.elim (fun wzo2 => some wzo2) (fun vzo2 =>
    some (-1 : Int32)
  ) zo2
set_option maxRecDepth 100000 in
set_option maxHeartbeats 4000000 in
theorem c_X12_leadIn {nx : Nat} {ce : Ce} {this : Nat} {p1 : Int64} {q : Int32} (hr : m_X12_leadIn ce this p1 = some q) : Ct yX12_leadIn cX12_leadIn 4 (some .int) 3 68 0 0 [.ref this, .long p1] nx ce (some (.int q)) ce := by
  unfold m_X12_leadIn at hr
  refine ct_of (by decide) (Nat.le_of_ble_eq_true rfl) ?_
  intro G C hq hret hin
  show Jd G 0 0 nx ce 0 [(0, .ref this), (1, .long p1)] []
  refine j_iconst (v := 0) (pc' := 1) C dX12_leadIn_0 kI_0 rfl ?_
  refine j_istore_n (lv' := [(3, .int (0 : Int32)), (0, .ref this), (1, .long p1)]) (pc' := 2) C dX12_leadIn_1 rfl (by decide) rfl rfl ?_
  obtain ⟨zo2, hzo2, rzo2⟩ := ob hr
  have kzo2 : ∀ vzo2, zo2 = Sum.inr vzo2 → Jd G 0 0 nx ce 38 [] [] := by
    intro vzo2 ezo2
    rw [ezo2] at rzo2
    have hr := elR rzo2
    refine j_iconst (v := -1) (pc' := 39) C dX12_leadIn_38 kI_m1 rfl ?_
    have hr := Option.some.inj hr
    subst hr
    exact j_iret C hq hret dX12_leadIn_39
  refine j_lv (lv' := [(0, .ref this), (1, .long p1), (3, .int (0 : Int32))]) [1, 2, 0] rfl ?_
  refine it_J (J := (fun (zs1 : Int32) => Jd G 0 0 nx ce 2 [(0, .ref this), (1, .long p1), (3, .int zs1)] [])) ?_ hzo2
  clear hzo2
  intro zs1 zr3 hr izs1 ezs1
  refine j_iload_n (q := 2) (pc' := 3) C dX12_leadIn_2 rfl rfl rfl ?_
  refine j_aload_n (q := 0) (pc' := 4) C dX12_leadIn_3 rfl rfl rfl ?_
  obtain ⟨zz4, hzz4, hr⟩ := ob hr
  obtain ⟨zx5, hzx5, hr⟩ := ob hr
  obtain ⟨fhzz4, hzz4⟩ := rcv_sp hzz4
  refine j_callV (ci := 9) (As := []) (rest := [.int zs1]) (st1 := [.int zx5, .int zs1]) (pc' := 7) C ⟨wm_1642, wm_58⟩ rfl hzz4 (c_X12_states (nx := nx) hzx5) yw_X12_states wm_1640 rfl rfl (Nat.le_of_ble_eq_true rfl) ⟨by decide, by decide⟩ dX12_leadIn_4 rfl rfl ?_
  refine j_ic_ge (tgt := 38) (pc' := 10) C dX12_leadIn_7 rfl rfl (fun hc => ?_) (fun hc => ?_)
  · have hr := ifT hc hr
    clear hc
    have hr := ezs1 _ (Option.some.inj hr).symm
    subst hr
    exact j_lv [] rfl (kzo2 _ rfl)
  · have hr := ifF hc hr
    clear hc
    refine j_lload_n (q := 1) (pc' := 11) C dX12_leadIn_10 rfl rfl rfl ?_
    refine j_iload_n (q := 2) (pc' := 12) C dX12_leadIn_11 rfl rfl rfl ?_
    obtain ⟨zx6, hzx6, hr⟩ := ob hr
    refine j_callS (As := [.long p1, .int zs1]) (rest := []) (st1 := [.int zx6]) (pc' := 15) C wm_1645 (c_X12_has (nx := nx) (ce := ce) hzx6) yw_X12_has wm_1644 rfl rfl (Nat.le_of_ble_eq_true rfl) ⟨by decide, by decide⟩ dX12_leadIn_12 rfl rfl ?_
    refine j_if_ne (tgt := 32) (pc' := 18) C dX12_leadIn_15 rfl rfl (fun hc => ?_) (fun hc => ?_)
    · have hr := ifF hc hr
      clear hc
      refine j_iinc (q := 2) (v := 1) (lv' := [(3, .int (zs1 + (1 : Int32))), (0, .ref this), (1, .long p1)]) (pc' := 35) C dX12_leadIn_32 rfl kI_1 (by decide) rfl rfl ?_
      refine j_goto (tgt := 2) C dX12_leadIn_35 rfl ?_
      have hr := izs1 (zs1 + (1 : Int32)) (Option.some.inj hr).symm
      exact j_lv [1, 2, 0] rfl hr
    · have hr := ifT hc hr
      clear hc
      refine j_aload_n (q := 0) (pc' := 19) C dX12_leadIn_18 rfl rfl rfl ?_
      refine j_iload_n (q := 2) (pc' := 20) C dX12_leadIn_19 rfl rfl rfl ?_
      obtain ⟨zz7, hzz7, hr⟩ := ob hr
      obtain ⟨zx8, hzx8, hr⟩ := ob hr
      obtain ⟨fhzz7, hzz7⟩ := rcv_sp hzz7
      refine j_callV (ci := 9) (As := [.int zs1]) (rest := []) (st1 := [.long zx8]) (pc' := 23) C ⟨wm_1761, wm_81⟩ rfl hzz7 (c_X12_after (nx := nx) hzx8) yw_X12_after wm_1759 rfl rfl (Nat.le_of_ble_eq_true rfl) ⟨by decide, by decide⟩ dX12_leadIn_20 rfl rfl ?_
      refine j_lload_n (q := 1) (pc' := 24) C dX12_leadIn_23 rfl rfl rfl ?_
      refine j_land (pc' := 25) C dX12_leadIn_24 rfl ?_
      refine j_lconst (v := 0) (pc' := 26) C dX12_leadIn_25 kL_0 rfl ?_
      refine j_lcmp (pc' := 27) C dX12_leadIn_26 rfl ?_
      refine j_if_eq (tgt := 32) (pc' := 30) C dX12_leadIn_27 rfl rfl (fun hc => ?_) (fun hc => ?_)
      · have hr := ifT hc hr
        clear hc
        refine j_iinc (q := 2) (v := 1) (lv' := [(3, .int (zs1 + (1 : Int32))), (0, .ref this), (1, .long p1)]) (pc' := 35) C dX12_leadIn_32 rfl kI_1 (by decide) rfl rfl ?_
        refine j_goto (tgt := 2) C dX12_leadIn_35 rfl ?_
        have hr := izs1 (zs1 + (1 : Int32)) (Option.some.inj hr).symm
        exact j_lv [1, 2, 0] rfl hr
      · have hr := ifF hc hr
        clear hc
        refine j_iload_n (q := 2) (pc' := 31) C dX12_leadIn_30 rfl rfl rfl ?_
        have hr := ezs1 _ (Option.some.inj hr).symm
        subst hr
        have hr := elL rzo2
        have hr := Option.some.inj hr
        subst hr
        exact j_iret C hq hret dX12_leadIn_31
def m_X12_judge (ce : Ce) (this : Nat) (p1 : Int64) : Option (Int32) :=
  (rcv ce 9 this).bind fun zz1 =>
  (m_X12_starts ce this).bind fun zx2 =>
  if (lg_cmp (p1 &&& zx2) (0 : Int64)) = 0 then
    (rcv ce 9 this).bind fun zz3 =>
    (m_X12_leadIn ce this p1).bind fun zx4 =>
    if zx4 = (-1 : Int32) then
      (rcv ce 9 this).bind fun zz5 =>
      (m_X12_aims ce this).bind fun zx6 =>
      if (lg_cmp (zx6 &&& (p1 ^^^ (-1 : Int64))) (0 : Int64)) = 0 then
        some (0 : Int32)
      else
        some (3 : Int32)
    else
      some (2 : Int32)
  else
    some (1 : Int32)
set_option maxRecDepth 100000 in
set_option maxHeartbeats 4000000 in
theorem c_X12_judge {nx : Nat} {ce : Ce} {this : Nat} {p1 : Int64} {q : Int32} (hr : m_X12_judge ce this p1 = some q) : Ct yX12_judge cX12_judge 3 (some .int) 4 91 0 0 [.ref this, .long p1] nx ce (some (.int q)) ce := by
  unfold m_X12_judge at hr
  refine ct_of (by decide) (Nat.le_of_ble_eq_true rfl) ?_
  intro G C hq hret hin
  show Jd G 0 0 nx ce 0 [(0, .ref this), (1, .long p1)] []
  refine j_lload_n (q := 1) (pc' := 1) C dX12_judge_0 rfl rfl rfl ?_
  refine j_aload_n (q := 0) (pc' := 2) C dX12_judge_1 rfl rfl rfl ?_
  obtain ⟨zz1, hzz1, hr⟩ := ob hr
  obtain ⟨zx2, hzx2, hr⟩ := ob hr
  obtain ⟨fhzz1, hzz1⟩ := rcv_sp hzz1
  refine j_callV (ci := 9) (As := []) (rest := [.long p1]) (st1 := [.long zx2, .long p1]) (pc' := 5) C ⟨wm_1710, wm_69⟩ rfl hzz1 (c_X12_starts (nx := nx) hzx2) yw_X12_starts wm_1708 rfl rfl (Nat.le_of_ble_eq_true rfl) ⟨by decide, by decide⟩ dX12_judge_2 rfl rfl ?_
  refine j_land (pc' := 6) C dX12_judge_5 rfl ?_
  refine j_lconst (v := 0) (pc' := 7) C dX12_judge_6 kL_0 rfl ?_
  refine j_lcmp (pc' := 8) C dX12_judge_7 rfl ?_
  refine j_if_eq (tgt := 13) (pc' := 11) C dX12_judge_8 rfl rfl (fun hc => ?_) (fun hc => ?_)
  · have hr := ifT hc hr
    clear hc
    refine j_aload_n (q := 0) (pc' := 14) C dX12_judge_13 rfl rfl rfl ?_
    refine j_lload_n (q := 1) (pc' := 15) C dX12_judge_14 rfl rfl rfl ?_
    obtain ⟨zz3, hzz3, hr⟩ := ob hr
    obtain ⟨zx4, hzx4, hr⟩ := ob hr
    obtain ⟨fhzz3, hzz3⟩ := rcv_sp hzz3
    refine j_callV (ci := 9) (As := [.long p1]) (rest := []) (st1 := [.int zx4]) (pc' := 18) C ⟨wm_2052, wm_117⟩ rfl hzz3 (c_X12_leadIn (nx := nx) hzx4) yw_X12_leadIn wm_2050 rfl rfl (Nat.le_of_ble_eq_true rfl) ⟨by decide, by decide⟩ dX12_judge_15 rfl rfl ?_
    refine j_iconst (v := -1) (pc' := 19) C dX12_judge_18 kI_m1 rfl ?_
    refine j_ic_eq (tgt := 24) (pc' := 22) C dX12_judge_19 rfl rfl (fun hc => ?_) (fun hc => ?_)
    · have hr := ifT hc hr
      clear hc
      refine j_aload_n (q := 0) (pc' := 25) C dX12_judge_24 rfl rfl rfl ?_
      obtain ⟨zz5, hzz5, hr⟩ := ob hr
      obtain ⟨zx6, hzx6, hr⟩ := ob hr
      obtain ⟨fhzz5, hzz5⟩ := rcv_sp hzz5
      refine j_callV (ci := 9) (As := []) (rest := []) (st1 := [.long zx6]) (pc' := 28) C ⟨wm_1697, wm_66⟩ rfl hzz5 (c_X12_aims (nx := nx) hzx6) yw_X12_aims wm_1695 rfl rfl (Nat.le_of_ble_eq_true rfl) ⟨by decide, by decide⟩ dX12_judge_25 rfl rfl ?_
      refine j_lload_n (q := 1) (pc' := 29) C dX12_judge_28 rfl rfl rfl ?_
      refine j_ldc2 (pc' := 32) C dX12_judge_29 wm_1598 rfl ?_
      refine j_lxor (pc' := 33) C dX12_judge_32 rfl ?_
      refine j_land (pc' := 34) C dX12_judge_33 rfl ?_
      refine j_lconst (v := 0) (pc' := 35) C dX12_judge_34 kL_0 rfl ?_
      refine j_lcmp (pc' := 36) C dX12_judge_35 rfl ?_
      refine j_if_eq (tgt := 43) (pc' := 39) C dX12_judge_36 rfl rfl (fun hc => ?_) (fun hc => ?_)
      · have hr := ifT hc hr
        clear hc
        refine j_iconst (v := 0) (pc' := 44) C dX12_judge_43 kI_0 rfl ?_
        have hr := Option.some.inj hr
        subst hr
        exact j_iret C hq hret dX12_judge_44
      · have hr := ifF hc hr
        clear hc
        refine j_iconst (v := 3) (pc' := 40) C dX12_judge_39 kI_3 rfl ?_
        refine j_goto (tgt := 44) C dX12_judge_40 rfl ?_
        have hr := Option.some.inj hr
        subst hr
        exact j_iret C hq hret dX12_judge_44
    · have hr := ifF hc hr
      clear hc
      refine j_iconst (v := 2) (pc' := 23) C dX12_judge_22 kI_2 rfl ?_
      have hr := Option.some.inj hr
      subst hr
      exact j_iret C hq hret dX12_judge_23
  · have hr := ifF hc hr
    clear hc
    refine j_iconst (v := 1) (pc' := 12) C dX12_judge_11 kI_1 rfl ?_
    have hr := Option.some.inj hr
    subst hr
    exact j_iret C hq hret dX12_judge_12
def m_X12_claim (ce : Ce) (this : Nat) (p1 : Int32) (p2 : Int32) : Option (Int32 × Ce) :=
  (rcv ce 9 this).bind fun zz1 =>
  (m_X12_isMask ce this p1 p2).bind fun zx2 =>
  if zx2 = 0 then
    some ((-1 : Int32), ce)
  else
    (gA ce 9 0 this).bind fun zx3 =>
    (aI ce zx3 (16 : Int32)).bind fun zx4 =>
    if zx4 = (12 : Int32) then
      some ((-1 : Int32), ce)
    else
      (rcv ce 9 this).bind fun zz5 =>
      (m_X12_keep ce this).bind fun zq6 =>
      (gA zq6.2 9 0 this).bind fun zx7 =>
      (gA zq6.2 9 0 this).bind fun zx8 =>
      (aI zq6.2 zx8 (16 : Int32)).bind fun zx9 =>
      (sI zq6.2 zx7 ((92 : Int32) + zx9) ((p1 <<< ((6 : Int32) &&& 31)) ||| p2)).bind fun zc10 =>
      (gA zc10 9 0 this).bind fun zx11 =>
      (aI zc10 zx11 (16 : Int32)).bind fun zx12 =>
      (sI zc10 zx11 (16 : Int32) (zx12 + (1 : Int32))).bind fun zc13 =>
      (gA zc13 9 0 this).bind fun zx14 =>
      (aI zc13 zx14 (16 : Int32)).bind fun zx15 =>
      some (zx15, zc13)
set_option maxRecDepth 100000 in
set_option maxHeartbeats 4000000 in
theorem c_X12_claim {nx : Nat} {ce : Ce} {this : Nat} {p1 : Int32} {p2 : Int32} {q : Int32 × Ce} (hr : m_X12_claim ce this p1 p2 = some q) : Ct yX12_claim cX12_claim 3 (some .int) 2 44 0 0 [.ref this, .int p1, .int p2] nx ce (some (.int q.1)) q.2 := by
  unfold m_X12_claim at hr
  refine ct_of (by decide) (Nat.le_of_ble_eq_true rfl) ?_
  intro G C hq hret hin
  show Jd G 0 0 nx ce 0 [(0, .ref this), (1, .int p1), (2, .int p2)] []
  refine j_aload_n (q := 0) (pc' := 1) C dX12_claim_0 rfl rfl rfl ?_
  refine j_iload_n (q := 1) (pc' := 2) C dX12_claim_1 rfl rfl rfl ?_
  refine j_iload_n (q := 2) (pc' := 3) C dX12_claim_2 rfl rfl rfl ?_
  obtain ⟨zz1, hzz1, hr⟩ := ob hr
  obtain ⟨zx2, hzx2, hr⟩ := ob hr
  obtain ⟨fhzz1, hzz1⟩ := rcv_sp hzz1
  refine j_callV (ci := 9) (As := [.int p1, .int p2]) (rest := []) (st1 := [.int zx2]) (pc' := 6) C ⟨wm_1831, wm_96⟩ rfl hzz1 (c_X12_isMask (nx := nx) hzx2) yw_X12_isMask wm_1829 rfl rfl (Nat.le_of_ble_eq_true rfl) ⟨by decide, by decide⟩ dX12_claim_3 rfl rfl ?_
  refine j_if_eq (tgt := 21) (pc' := 9) C dX12_claim_6 rfl rfl (fun hc => ?_) (fun hc => ?_)
  · have hr := ifT hc hr
    clear hc
    refine j_iconst (v := -1) (pc' := 22) C dX12_claim_21 kI_m1 rfl ?_
    have hr := Option.some.inj hr
    subst hr
    exact j_iret C hq hret dX12_claim_22
  · have hr := ifF hc hr
    clear hc
    refine j_aload_n (q := 0) (pc' := 10) C dX12_claim_9 rfl rfl rfl ?_
    obtain ⟨zx3, hzx3, hr⟩ := ob hr
    refine j_getA (pc' := 13) C dX12_claim_10 fl_X12_8 hzx3 rfl ?_
    refine j_bipush (v := 16) (pc' := 15) C dX12_claim_13 kB_16 rfl ?_
    obtain ⟨zx4, hzx4, hr⟩ := ob hr
    refine j_iald (pc' := 16) C dX12_claim_15 hzx4 rfl ?_
    refine j_bipush (v := 12) (pc' := 18) C dX12_claim_16 kB_12 rfl ?_
    refine j_ic_ne (tgt := 23) (pc' := 21) C dX12_claim_18 rfl rfl (fun hc => ?_) (fun hc => ?_)
    · have hr := ifF hc hr
      clear hc
      refine j_aload_n (q := 0) (pc' := 24) C dX12_claim_23 rfl rfl rfl ?_
      obtain ⟨zz5, hzz5, hr⟩ := ob hr
      obtain ⟨zq6, hzq6, hr⟩ := ob hr
      obtain ⟨fhzz5, hzz5⟩ := rcv_sp hzz5
      refine j_callV (ci := 9) (As := []) (rest := []) (st1 := []) (pc' := 27) C ⟨wm_1628, wm_56⟩ rfl hzz5 (c_X12_keep (nx := nx) hzq6) yw_X12_keep wm_1626 rfl rfl (Nat.le_of_ble_eq_true rfl) ⟨by decide, by decide⟩ dX12_claim_24 rfl rfl ?_
      refine j_aload_n (q := 0) (pc' := 28) C dX12_claim_27 rfl rfl rfl ?_
      obtain ⟨zx7, hzx7, hr⟩ := ob hr
      refine j_getA (pc' := 31) C dX12_claim_28 fl_X12_8 hzx7 rfl ?_
      refine j_bipush (v := 92) (pc' := 33) C dX12_claim_31 kB_92 rfl ?_
      refine j_aload_n (q := 0) (pc' := 34) C dX12_claim_33 rfl rfl rfl ?_
      obtain ⟨zx8, hzx8, hr⟩ := ob hr
      refine j_getA (pc' := 37) C dX12_claim_34 fl_X12_8 hzx8 rfl ?_
      refine j_bipush (v := 16) (pc' := 39) C dX12_claim_37 kB_16 rfl ?_
      obtain ⟨zx9, hzx9, hr⟩ := ob hr
      refine j_iald (pc' := 40) C dX12_claim_39 hzx9 rfl ?_
      refine j_iadd (pc' := 41) C dX12_claim_40 rfl ?_
      refine j_iload_n (q := 1) (pc' := 42) C dX12_claim_41 rfl rfl rfl ?_
      refine j_bipush (v := 6) (pc' := 44) C dX12_claim_42 kB_6 rfl ?_
      refine j_ishl (pc' := 45) C dX12_claim_44 rfl ?_
      refine j_iload_n (q := 2) (pc' := 46) C dX12_claim_45 rfl rfl rfl ?_
      refine j_ior (pc' := 47) C dX12_claim_46 rfl ?_
      obtain ⟨zc10, hzc10, hr⟩ := ob hr
      refine j_iast (pc' := 48) C dX12_claim_47 hzc10 rfl ?_
      refine j_aload_n (q := 0) (pc' := 49) C dX12_claim_48 rfl rfl rfl ?_
      obtain ⟨zx11, hzx11, hr⟩ := ob hr
      refine j_getA (pc' := 52) C dX12_claim_49 fl_X12_8 hzx11 rfl ?_
      refine j_bipush (v := 16) (pc' := 54) C dX12_claim_52 kB_16 rfl ?_
      refine j_dup2 (pc' := 55) C dX12_claim_54 rfl rfl rfl ?_
      obtain ⟨zx12, hzx12, hr⟩ := ob hr
      refine j_iald (pc' := 56) C dX12_claim_55 hzx12 rfl ?_
      refine j_iconst (v := 1) (pc' := 57) C dX12_claim_56 kI_1 rfl ?_
      refine j_iadd (pc' := 58) C dX12_claim_57 rfl ?_
      obtain ⟨zc13, hzc13, hr⟩ := ob hr
      refine j_iast (pc' := 59) C dX12_claim_58 hzc13 rfl ?_
      refine j_aload_n (q := 0) (pc' := 60) C dX12_claim_59 rfl rfl rfl ?_
      obtain ⟨zx14, hzx14, hr⟩ := ob hr
      refine j_getA (pc' := 63) C dX12_claim_60 fl_X12_8 hzx14 rfl ?_
      refine j_bipush (v := 16) (pc' := 65) C dX12_claim_63 kB_16 rfl ?_
      obtain ⟨zx15, hzx15, hr⟩ := ob hr
      refine j_iald (pc' := 66) C dX12_claim_65 hzx15 rfl ?_
      have hr := Option.some.inj hr
      subst hr
      exact j_iret C hq hret dX12_claim_66
    · have hr := ifT hc hr
      clear hc
      refine j_iconst (v := -1) (pc' := 22) C dX12_claim_21 kI_m1 rfl ?_
      have hr := Option.some.inj hr
      subst hr
      exact j_iret C hq hret dX12_claim_22
def m_X12_adopt (ce : Ce) (this : Nat) : Option (Int32 × Ce) :=
  (rcv ce 9 this).bind fun zz1 =>
  (m_X12_layFence ce this).bind fun zq2 =>
  (gA zq2.2 9 0 this).bind fun zx3 =>
  (aI zq2.2 zx3 (5 : Int32)).bind fun zx4 =>
  if zx4 = (3 : Int32) then
    (gI zq2.2 9 31 this).bind fun zx5 =>
    if zx5 ≤ (12 : Int32) then
      (rcv zq2.2 9 this).bind fun zz6 =>
      (m_X12_keep zq2.2 this).bind fun zq7 =>
      (it (fun (zs8 : Int32 × Ce) =>
        (gI zs8.2 9 31 this).bind fun zx15 =>
        if zx15 ≤ zs8.1 then
          some (Sum.inr ((), zs8.2))
        else
          (gA zs8.2 9 0 this).bind fun zx16 =>
          (gA zs8.2 9 29 this).bind fun zx17 =>
          (aI zs8.2 zx17 zs8.1).bind fun zx18 =>
          (gA zs8.2 9 30 this).bind fun zx19 =>
          (aI zs8.2 zx19 zs8.1).bind fun zx20 =>
          (sI zs8.2 zx16 ((92 : Int32) + zs8.1) ((zx18 <<< ((6 : Int32) &&& 31)) ||| zx20)).bind fun zc21 =>
          some (Sum.inl ((zs8.1 + (1 : Int32)), zc21))
      ) FU ((0 : Int32), zq7.2)).bind fun (zo9 : Unit × Ce) =>
      (gA zo9.2 9 0 this).bind fun zx11 =>
      (gI zo9.2 9 31 this).bind fun zx12 =>
      (sI zo9.2 zx11 (16 : Int32) zx12).bind fun zc13 =>
      (gI zc13 9 31 this).bind fun zx14 =>
      some (zx14, zc13)
    else
      some ((-1 : Int32), zq2.2)
  else
    some ((-1 : Int32), zq2.2)
set_option maxRecDepth 100000 in
set_option maxHeartbeats 4000000 in
theorem c_X12_adopt {nx : Nat} {ce : Ce} {this : Nat} {q : Int32 × Ce} (hr : m_X12_adopt ce this = some q) : Ct yX12_adopt cX12_adopt 2 (some .int) 2 44 0 0 [.ref this] nx ce (some (.int q.1)) q.2 := by
  unfold m_X12_adopt at hr
  refine ct_of (by decide) (Nat.le_of_ble_eq_true rfl) ?_
  intro G C hq hret hin
  show Jd G 0 0 nx ce 0 [(0, .ref this)] []
  refine j_aload_n (q := 0) (pc' := 1) C dX12_adopt_0 rfl rfl rfl ?_
  obtain ⟨zz1, hzz1, hr⟩ := ob hr
  obtain ⟨zq2, hzq2, hr⟩ := ob hr
  obtain ⟨fhzz1, hzz1⟩ := rcv_sp hzz1
  refine j_callV (ci := 9) (As := []) (rest := []) (st1 := []) (pc' := 4) C ⟨wm_1922, wm_105⟩ rfl hzz1 (c_X12_layFence (nx := nx) hzq2) yw_X12_layFence wm_1920 rfl rfl (Nat.le_of_ble_eq_true rfl) ⟨by decide, by decide⟩ dX12_adopt_1 rfl rfl ?_
  refine j_aload_n (q := 0) (pc' := 5) C dX12_adopt_4 rfl rfl rfl ?_
  obtain ⟨zx3, hzx3, hr⟩ := ob hr
  refine j_getA (pc' := 8) C dX12_adopt_5 fl_X12_8 hzx3 rfl ?_
  refine j_iconst (v := 5) (pc' := 9) C dX12_adopt_8 kI_5 rfl ?_
  obtain ⟨zx4, hzx4, hr⟩ := ob hr
  refine j_iald (pc' := 10) C dX12_adopt_9 hzx4 rfl ?_
  refine j_iconst (v := 3) (pc' := 11) C dX12_adopt_10 kI_3 rfl ?_
  refine j_ic_ne (tgt := 23) (pc' := 14) C dX12_adopt_11 rfl rfl (fun hc => ?_) (fun hc => ?_)
  · have hr := ifF hc hr
    clear hc
    refine j_iconst (v := -1) (pc' := 24) C dX12_adopt_23 kI_m1 rfl ?_
    have hr := Option.some.inj hr
    subst hr
    exact j_iret C hq hret dX12_adopt_24
  · have hr := ifT hc hr
    clear hc
    refine j_aload_n (q := 0) (pc' := 15) C dX12_adopt_14 rfl rfl rfl ?_
    obtain ⟨zx5, hzx5, hr⟩ := ob hr
    refine j_getI (pc' := 18) C dX12_adopt_15 fl_X12_390 hzx5 rfl ?_
    refine j_bipush (v := 12) (pc' := 20) C dX12_adopt_18 kB_12 rfl ?_
    refine j_ic_le (tgt := 25) (pc' := 23) C dX12_adopt_20 rfl rfl (fun hc => ?_) (fun hc => ?_)
    · have hr := ifT hc hr
      clear hc
      refine j_aload_n (q := 0) (pc' := 26) C dX12_adopt_25 rfl rfl rfl ?_
      obtain ⟨zz6, hzz6, hr⟩ := ob hr
      obtain ⟨zq7, hzq7, hr⟩ := ob hr
      obtain ⟨fhzz6, hzz6⟩ := rcv_sp hzz6
      refine j_callV (ci := 9) (As := []) (rest := []) (st1 := []) (pc' := 29) C ⟨wm_1628, wm_56⟩ rfl hzz6 (c_X12_keep (nx := nx) hzq7) yw_X12_keep wm_1626 rfl rfl (Nat.le_of_ble_eq_true rfl) ⟨by decide, by decide⟩ dX12_adopt_26 rfl rfl ?_
      refine j_iconst (v := 0) (pc' := 30) C dX12_adopt_29 kI_0 rfl ?_
      refine j_istore_n (lv' := [(1, .int (0 : Int32)), (0, .ref this)]) (pc' := 31) C dX12_adopt_30 rfl (by decide) rfl rfl ?_
      obtain ⟨zo9, hzo9, rzo9⟩ := ob hr
      have kzo9 : Jd G 0 0 nx zo9.2 70 [(0, .ref this)] [] := by
        have hr := rzo9
        refine j_aload_n (q := 0) (pc' := 71) C dX12_adopt_70 rfl rfl rfl ?_
        obtain ⟨zx11, hzx11, hr⟩ := ob hr
        refine j_getA (pc' := 74) C dX12_adopt_71 fl_X12_8 hzx11 rfl ?_
        refine j_bipush (v := 16) (pc' := 76) C dX12_adopt_74 kB_16 rfl ?_
        refine j_aload_n (q := 0) (pc' := 77) C dX12_adopt_76 rfl rfl rfl ?_
        obtain ⟨zx12, hzx12, hr⟩ := ob hr
        refine j_getI (pc' := 80) C dX12_adopt_77 fl_X12_390 hzx12 rfl ?_
        obtain ⟨zc13, hzc13, hr⟩ := ob hr
        refine j_iast (pc' := 81) C dX12_adopt_80 hzc13 rfl ?_
        refine j_aload_n (q := 0) (pc' := 82) C dX12_adopt_81 rfl rfl rfl ?_
        obtain ⟨zx14, hzx14, hr⟩ := ob hr
        refine j_getI (pc' := 85) C dX12_adopt_82 fl_X12_390 hzx14 rfl ?_
        have hr := Option.some.inj hr
        subst hr
        exact j_iret C hq hret dX12_adopt_85
      refine j_lv (lv' := [(0, .ref this), (1, .int (0 : Int32))]) [1, 0] rfl ?_
      refine it_J (J := (fun (zs8 : Int32 × Ce) => Jd G 0 0 nx zs8.2 31 [(0, .ref this), (1, .int zs8.1)] [])) ?_ hzo9
      clear hzo9
      intro zs8 zr10 hr izs8 ezs8
      refine j_iload_n (q := 1) (pc' := 32) C dX12_adopt_31 rfl rfl rfl ?_
      refine j_aload_n (q := 0) (pc' := 33) C dX12_adopt_32 rfl rfl rfl ?_
      obtain ⟨zx15, hzx15, hr⟩ := ob hr
      refine j_getI (pc' := 36) C dX12_adopt_33 fl_X12_390 hzx15 rfl ?_
      refine j_ic_ge (tgt := 70) (pc' := 39) C dX12_adopt_36 rfl rfl (fun hc => ?_) (fun hc => ?_)
      · have hr := ifT hc hr
        clear hc
        have hr := ezs8 _ (Option.some.inj hr).symm
        subst hr
        exact j_lv [0] rfl kzo9
      · have hr := ifF hc hr
        clear hc
        refine j_aload_n (q := 0) (pc' := 40) C dX12_adopt_39 rfl rfl rfl ?_
        obtain ⟨zx16, hzx16, hr⟩ := ob hr
        refine j_getA (pc' := 43) C dX12_adopt_40 fl_X12_8 hzx16 rfl ?_
        refine j_bipush (v := 92) (pc' := 45) C dX12_adopt_43 kB_92 rfl ?_
        refine j_iload_n (q := 1) (pc' := 46) C dX12_adopt_45 rfl rfl rfl ?_
        refine j_iadd (pc' := 47) C dX12_adopt_46 rfl ?_
        refine j_aload_n (q := 0) (pc' := 48) C dX12_adopt_47 rfl rfl rfl ?_
        obtain ⟨zx17, hzx17, hr⟩ := ob hr
        refine j_getA (pc' := 51) C dX12_adopt_48 fl_X12_62 hzx17 rfl ?_
        refine j_iload_n (q := 1) (pc' := 52) C dX12_adopt_51 rfl rfl rfl ?_
        obtain ⟨zx18, hzx18, hr⟩ := ob hr
        refine j_iald (pc' := 53) C dX12_adopt_52 hzx18 rfl ?_
        refine j_bipush (v := 6) (pc' := 55) C dX12_adopt_53 kB_6 rfl ?_
        refine j_ishl (pc' := 56) C dX12_adopt_55 rfl ?_
        refine j_aload_n (q := 0) (pc' := 57) C dX12_adopt_56 rfl rfl rfl ?_
        obtain ⟨zx19, hzx19, hr⟩ := ob hr
        refine j_getA (pc' := 60) C dX12_adopt_57 fl_X12_65 hzx19 rfl ?_
        refine j_iload_n (q := 1) (pc' := 61) C dX12_adopt_60 rfl rfl rfl ?_
        obtain ⟨zx20, hzx20, hr⟩ := ob hr
        refine j_iald (pc' := 62) C dX12_adopt_61 hzx20 rfl ?_
        refine j_ior (pc' := 63) C dX12_adopt_62 rfl ?_
        obtain ⟨zc21, hzc21, hr⟩ := ob hr
        refine j_iast (pc' := 64) C dX12_adopt_63 hzc21 rfl ?_
        refine j_iinc (q := 1) (v := 1) (lv' := [(1, .int (zs8.1 + (1 : Int32))), (0, .ref this)]) (pc' := 67) C dX12_adopt_64 rfl kI_1 (by decide) rfl rfl ?_
        refine j_goto (tgt := 31) C dX12_adopt_67 rfl ?_
        have hr := izs8 ((zs8.1 + (1 : Int32)), zc21) (Option.some.inj hr).symm
        exact j_lv [1, 0] rfl hr
    · have hr := ifF hc hr
      clear hc
      refine j_iconst (v := -1) (pc' := 24) C dX12_adopt_23 kI_m1 rfl ?_
      have hr := Option.some.inj hr
      subst hr
      exact j_iret C hq hret dX12_adopt_24
def m_X12_unclaim (ce : Ce) (this : Nat) (p1 : Int32) : Option (Int32 × Ce) :=
  (gA ce 9 0 this).bind fun zx1 =>
  (aI ce zx1 (16 : Int32)).bind fun zx2 =>
  (m_X12_isIn p1 (0 : Int32) (zx2 - (1 : Int32))).bind fun zx3 =>
  if zx3 = 0 then
    some ((-1 : Int32), ce)
  else
    (rcv ce 9 this).bind fun zz4 =>
    (m_X12_keep ce this).bind fun zq5 =>
    (it (fun (zs6 : Int32 × Ce) =>
      (gA zs6.2 9 0 this).bind fun zx14 =>
      (aI zs6.2 zx14 (16 : Int32)).bind fun zx15 =>
      if (zx15 - (1 : Int32)) ≤ zs6.1 then
        some (Sum.inr ((), zs6.2))
      else
        (gA zs6.2 9 0 this).bind fun zx16 =>
        (gA zs6.2 9 0 this).bind fun zx17 =>
        (aI zs6.2 zx17 (((92 : Int32) + zs6.1) + (1 : Int32))).bind fun zx18 =>
        (sI zs6.2 zx16 ((92 : Int32) + zs6.1) zx18).bind fun zc19 =>
        some (Sum.inl ((zs6.1 + (1 : Int32)), zc19))
    ) FU (p1, zq5.2)).bind fun (zo7 : Unit × Ce) =>
    (gA zo7.2 9 0 this).bind fun zx9 =>
    (aI zo7.2 zx9 (16 : Int32)).bind fun zx10 =>
    (sI zo7.2 zx9 (16 : Int32) (zx10 - (1 : Int32))).bind fun zc11 =>
    (gA zc11 9 0 this).bind fun zx12 =>
    (aI zc11 zx12 (16 : Int32)).bind fun zx13 =>
    some (zx13, zc11)
set_option maxRecDepth 100000 in
set_option maxHeartbeats 4000000 in
theorem c_X12_unclaim {nx : Nat} {ce : Ce} {this : Nat} {p1 : Int32} {q : Int32 × Ce} (hr : m_X12_unclaim ce this p1 = some q) : Ct yX12_unclaim cX12_unclaim 3 (some .int) 2 43 0 0 [.ref this, .int p1] nx ce (some (.int q.1)) q.2 := by
  unfold m_X12_unclaim at hr
  refine ct_of (by decide) (Nat.le_of_ble_eq_true rfl) ?_
  intro G C hq hret hin
  show Jd G 0 0 nx ce 0 [(0, .ref this), (1, .int p1)] []
  refine j_iload_n (q := 1) (pc' := 1) C dX12_unclaim_0 rfl rfl rfl ?_
  refine j_iconst (v := 0) (pc' := 2) C dX12_unclaim_1 kI_0 rfl ?_
  refine j_aload_n (q := 0) (pc' := 3) C dX12_unclaim_2 rfl rfl rfl ?_
  obtain ⟨zx1, hzx1, hr⟩ := ob hr
  refine j_getA (pc' := 6) C dX12_unclaim_3 fl_X12_8 hzx1 rfl ?_
  refine j_bipush (v := 16) (pc' := 8) C dX12_unclaim_6 kB_16 rfl ?_
  obtain ⟨zx2, hzx2, hr⟩ := ob hr
  refine j_iald (pc' := 9) C dX12_unclaim_8 hzx2 rfl ?_
  refine j_iconst (v := 1) (pc' := 10) C dX12_unclaim_9 kI_1 rfl ?_
  refine j_isub (pc' := 11) C dX12_unclaim_10 rfl ?_
  obtain ⟨zx3, hzx3, hr⟩ := ob hr
  refine j_callS (As := [.int p1, .int (0 : Int32), .int (zx2 - (1 : Int32))]) (rest := []) (st1 := [.int zx3]) (pc' := 14) C wm_1529 (c_X12_isIn (nx := nx) (ce := ce) hzx3) yw_X12_isIn wm_1528 rfl rfl (Nat.le_of_ble_eq_true rfl) ⟨by decide, by decide⟩ dX12_unclaim_11 rfl rfl ?_
  refine j_if_ne (tgt := 19) (pc' := 17) C dX12_unclaim_14 rfl rfl (fun hc => ?_) (fun hc => ?_)
  · have hr := ifF hc hr
    clear hc
    refine j_aload_n (q := 0) (pc' := 20) C dX12_unclaim_19 rfl rfl rfl ?_
    obtain ⟨zz4, hzz4, hr⟩ := ob hr
    obtain ⟨zq5, hzq5, hr⟩ := ob hr
    obtain ⟨fhzz4, hzz4⟩ := rcv_sp hzz4
    refine j_callV (ci := 9) (As := []) (rest := []) (st1 := []) (pc' := 23) C ⟨wm_1628, wm_56⟩ rfl hzz4 (c_X12_keep (nx := nx) hzq5) yw_X12_keep wm_1626 rfl rfl (Nat.le_of_ble_eq_true rfl) ⟨by decide, by decide⟩ dX12_unclaim_20 rfl rfl ?_
    refine j_iload_n (q := 1) (pc' := 24) C dX12_unclaim_23 rfl rfl rfl ?_
    refine j_istore_n (lv' := [(2, .int p1), (0, .ref this), (1, .int p1)]) (pc' := 25) C dX12_unclaim_24 rfl (by decide) rfl rfl ?_
    obtain ⟨zo7, hzo7, rzo7⟩ := ob hr
    have kzo7 : Jd G 0 0 nx zo7.2 64 [(0, .ref this)] [] := by
      have hr := rzo7
      refine j_aload_n (q := 0) (pc' := 65) C dX12_unclaim_64 rfl rfl rfl ?_
      obtain ⟨zx9, hzx9, hr⟩ := ob hr
      refine j_getA (pc' := 68) C dX12_unclaim_65 fl_X12_8 hzx9 rfl ?_
      refine j_bipush (v := 16) (pc' := 70) C dX12_unclaim_68 kB_16 rfl ?_
      refine j_dup2 (pc' := 71) C dX12_unclaim_70 rfl rfl rfl ?_
      obtain ⟨zx10, hzx10, hr⟩ := ob hr
      refine j_iald (pc' := 72) C dX12_unclaim_71 hzx10 rfl ?_
      refine j_iconst (v := 1) (pc' := 73) C dX12_unclaim_72 kI_1 rfl ?_
      refine j_isub (pc' := 74) C dX12_unclaim_73 rfl ?_
      obtain ⟨zc11, hzc11, hr⟩ := ob hr
      refine j_iast (pc' := 75) C dX12_unclaim_74 hzc11 rfl ?_
      refine j_aload_n (q := 0) (pc' := 76) C dX12_unclaim_75 rfl rfl rfl ?_
      obtain ⟨zx12, hzx12, hr⟩ := ob hr
      refine j_getA (pc' := 79) C dX12_unclaim_76 fl_X12_8 hzx12 rfl ?_
      refine j_bipush (v := 16) (pc' := 81) C dX12_unclaim_79 kB_16 rfl ?_
      obtain ⟨zx13, hzx13, hr⟩ := ob hr
      refine j_iald (pc' := 82) C dX12_unclaim_81 hzx13 rfl ?_
      have hr := Option.some.inj hr
      subst hr
      exact j_iret C hq hret dX12_unclaim_82
    refine j_lv (lv' := [(0, .ref this), (2, .int p1)]) [1, 0] rfl ?_
    refine it_J (J := (fun (zs6 : Int32 × Ce) => Jd G 0 0 nx zs6.2 25 [(0, .ref this), (2, .int zs6.1)] [])) ?_ hzo7
    clear hzo7
    intro zs6 zr8 hr izs6 ezs6
    refine j_iload_n (q := 1) (pc' := 26) C dX12_unclaim_25 rfl rfl rfl ?_
    refine j_aload_n (q := 0) (pc' := 27) C dX12_unclaim_26 rfl rfl rfl ?_
    obtain ⟨zx14, hzx14, hr⟩ := ob hr
    refine j_getA (pc' := 30) C dX12_unclaim_27 fl_X12_8 hzx14 rfl ?_
    refine j_bipush (v := 16) (pc' := 32) C dX12_unclaim_30 kB_16 rfl ?_
    obtain ⟨zx15, hzx15, hr⟩ := ob hr
    refine j_iald (pc' := 33) C dX12_unclaim_32 hzx15 rfl ?_
    refine j_iconst (v := 1) (pc' := 34) C dX12_unclaim_33 kI_1 rfl ?_
    refine j_isub (pc' := 35) C dX12_unclaim_34 rfl ?_
    refine j_ic_ge (tgt := 64) (pc' := 38) C dX12_unclaim_35 rfl rfl (fun hc => ?_) (fun hc => ?_)
    · have hr := ifT hc hr
      clear hc
      have hr := ezs6 _ (Option.some.inj hr).symm
      subst hr
      exact j_lv [0] rfl kzo7
    · have hr := ifF hc hr
      clear hc
      refine j_aload_n (q := 0) (pc' := 39) C dX12_unclaim_38 rfl rfl rfl ?_
      obtain ⟨zx16, hzx16, hr⟩ := ob hr
      refine j_getA (pc' := 42) C dX12_unclaim_39 fl_X12_8 hzx16 rfl ?_
      refine j_bipush (v := 92) (pc' := 44) C dX12_unclaim_42 kB_92 rfl ?_
      refine j_iload_n (q := 1) (pc' := 45) C dX12_unclaim_44 rfl rfl rfl ?_
      refine j_iadd (pc' := 46) C dX12_unclaim_45 rfl ?_
      refine j_aload_n (q := 0) (pc' := 47) C dX12_unclaim_46 rfl rfl rfl ?_
      obtain ⟨zx17, hzx17, hr⟩ := ob hr
      refine j_getA (pc' := 50) C dX12_unclaim_47 fl_X12_8 hzx17 rfl ?_
      refine j_bipush (v := 92) (pc' := 52) C dX12_unclaim_50 kB_92 rfl ?_
      refine j_iload_n (q := 1) (pc' := 53) C dX12_unclaim_52 rfl rfl rfl ?_
      refine j_iadd (pc' := 54) C dX12_unclaim_53 rfl ?_
      refine j_iconst (v := 1) (pc' := 55) C dX12_unclaim_54 kI_1 rfl ?_
      refine j_iadd (pc' := 56) C dX12_unclaim_55 rfl ?_
      obtain ⟨zx18, hzx18, hr⟩ := ob hr
      refine j_iald (pc' := 57) C dX12_unclaim_56 hzx18 rfl ?_
      obtain ⟨zc19, hzc19, hr⟩ := ob hr
      refine j_iast (pc' := 58) C dX12_unclaim_57 hzc19 rfl ?_
      refine j_iinc (q := 1) (v := 1) (lv' := [(2, .int (zs6.1 + (1 : Int32))), (0, .ref this)]) (pc' := 61) C dX12_unclaim_58 rfl kI_1 (by decide) rfl rfl ?_
      refine j_goto (tgt := 25) C dX12_unclaim_61 rfl ?_
      have hr := izs6 ((zs6.1 + (1 : Int32)), zc19) (Option.some.inj hr).symm
      exact j_lv [1, 0] rfl hr
  · have hr := ifT hc hr
    clear hc
    refine j_iconst (v := -1) (pc' := 18) C dX12_unclaim_17 kI_m1 rfl ?_
    have hr := Option.some.inj hr
    subst hr
    exact j_iret C hq hret dX12_unclaim_18
def m_X12_loosen (ce : Ce) (this : Nat) (p1 : Int32) : Option (Int32 × Ce) :=
  (rcv ce 9 this).bind fun zz1 =>
  (m_X12_layClaims ce this).bind fun zq2 =>
  (gA zq2.2 9 0 this).bind fun zx3 =>
  (aI zq2.2 zx3 (16 : Int32)).bind fun zx4 =>
  (m_X12_isIn p1 (0 : Int32) (zx4 - (1 : Int32))).bind fun zx5 =>
  if zx5 = 0 then
    some ((-1 : Int32), zq2.2)
  else
    (rcv zq2.2 9 this).bind fun zz6 =>
    (m_X12_barredAll zq2.2 this).bind fun zx7 =>
    (rcv zq2.2 9 this).bind fun zz8 =>
    (m_X12_judge zq2.2 this zx7).bind fun zx9 =>
    if zx9 = 0 then
      (rcv zq2.2 9 this).bind fun zz10 =>
      (m_X12_keep zq2.2 this).bind fun zq11 =>
      (rcv zq11.2 9 this).bind fun zz12 =>
      (m_X12_layOrder zq11.2 this).bind fun zq13 =>
      (it (fun (zs14 : Int32 × Ce) =>
        (gA zs14.2 9 0 this).bind fun zx25 =>
        (aI zs14.2 zx25 (3 : Int32)).bind fun zx26 =>
        if zx26 ≤ zs14.1 then
          some (Sum.inr ((), zs14.2))
        else
          (gA zs14.2 9 29 this).bind fun zx27 =>
          (aI zs14.2 zx27 p1).bind fun zx28 =>
          (gA zs14.2 9 30 this).bind fun zx29 =>
          (aI zs14.2 zx29 p1).bind fun zx30 =>
          (gA zs14.2 9 29 this).bind fun zx31 =>
          (aI zs14.2 zx31 p1).bind fun zx32 =>
          (gA zs14.2 9 23 this).bind fun zx33 =>
          (aI zs14.2 zx33 zs14.1).bind fun zx34 =>
          (sI zs14.2 zx31 p1 (zx32 &&& (((1 : Int32) <<< (zx34 &&& 31)) ^^^ (-1 : Int32)))).bind fun zc35 =>
          (gA zc35 9 30 this).bind fun zx36 =>
          (aI zc35 zx36 p1).bind fun zx37 =>
          (gA zc35 9 29 this).bind fun zx38 =>
          (aI zc35 zx38 p1).bind fun zx39 =>
          (sI zc35 zx36 p1 (zx37 &&& zx39)).bind fun zc40 =>
          (rcv zc40 9 this).bind fun zz41 =>
          (m_X12_barredAll zc40 this).bind fun zx42 =>
          (rcv zc40 9 this).bind fun zz43 =>
          (m_X12_judge zc40 this zx42).bind fun zx44 =>
          if zx44 = 0 then
            some (Sum.inl ((zs14.1 + (1 : Int32)), zc40))
          else
            (gA zc40 9 29 this).bind fun zx45 =>
            (sI zc40 zx45 p1 zx28).bind fun zc46 =>
            (gA zc46 9 30 this).bind fun zx47 =>
            (sI zc46 zx47 p1 zx30).bind fun zc48 =>
            some (Sum.inl ((zs14.1 + (1 : Int32)), zc48))
      ) FU ((0 : Int32), zq13.2)).bind fun (zo15 : Unit × Ce) =>
      (gA zo15.2 9 0 this).bind fun zx17 =>
      (gA zo15.2 9 29 this).bind fun zx18 =>
      (aI zo15.2 zx18 p1).bind fun zx19 =>
      (gA zo15.2 9 30 this).bind fun zx20 =>
      (aI zo15.2 zx20 p1).bind fun zx21 =>
      (sI zo15.2 zx17 ((92 : Int32) + p1) ((zx19 <<< ((6 : Int32) &&& 31)) ||| zx21)).bind fun zc22 =>
      (gA zc22 9 29 this).bind fun zx23 =>
      (aI zc22 zx23 p1).bind fun zx24 =>
      some (zx24, zc22)
    else
      some ((-1 : Int32), zq2.2)
set_option maxRecDepth 100000 in
set_option maxHeartbeats 4000000 in
theorem c_X12_loosen {nx : Nat} {ce : Ce} {this : Nat} {p1 : Int32} {q : Int32 × Ce} (hr : m_X12_loosen ce this p1 = some q) : Ct yX12_loosen cX12_loosen 5 (some .int) 5 113 0 0 [.ref this, .int p1] nx ce (some (.int q.1)) q.2 := by
  unfold m_X12_loosen at hr
  refine ct_of (by decide) (Nat.le_of_ble_eq_true rfl) ?_
  intro G C hq hret hin
  show Jd G 0 0 nx ce 0 [(0, .ref this), (1, .int p1)] []
  refine j_aload_n (q := 0) (pc' := 1) C dX12_loosen_0 rfl rfl rfl ?_
  obtain ⟨zz1, hzz1, hr⟩ := ob hr
  obtain ⟨zq2, hzq2, hr⟩ := ob hr
  obtain ⟨fhzz1, hzz1⟩ := rcv_sp hzz1
  refine j_callV (ci := 9) (As := []) (rest := []) (st1 := []) (pc' := 4) C ⟨wm_2032, wm_112⟩ rfl hzz1 (c_X12_layClaims (nx := nx) hzq2) yw_X12_layClaims wm_2030 rfl rfl (Nat.le_of_ble_eq_true rfl) ⟨by decide, by decide⟩ dX12_loosen_1 rfl rfl ?_
  refine j_iload_n (q := 1) (pc' := 5) C dX12_loosen_4 rfl rfl rfl ?_
  refine j_iconst (v := 0) (pc' := 6) C dX12_loosen_5 kI_0 rfl ?_
  refine j_aload_n (q := 0) (pc' := 7) C dX12_loosen_6 rfl rfl rfl ?_
  obtain ⟨zx3, hzx3, hr⟩ := ob hr
  refine j_getA (pc' := 10) C dX12_loosen_7 fl_X12_8 hzx3 rfl ?_
  refine j_bipush (v := 16) (pc' := 12) C dX12_loosen_10 kB_16 rfl ?_
  obtain ⟨zx4, hzx4, hr⟩ := ob hr
  refine j_iald (pc' := 13) C dX12_loosen_12 hzx4 rfl ?_
  refine j_iconst (v := 1) (pc' := 14) C dX12_loosen_13 kI_1 rfl ?_
  refine j_isub (pc' := 15) C dX12_loosen_14 rfl ?_
  obtain ⟨zx5, hzx5, hr⟩ := ob hr
  refine j_callS (As := [.int p1, .int (0 : Int32), .int (zx4 - (1 : Int32))]) (rest := []) (st1 := [.int zx5]) (pc' := 18) C wm_1529 (c_X12_isIn (nx := nx) (ce := zq2.2) hzx5) yw_X12_isIn wm_1528 rfl rfl (Nat.le_of_ble_eq_true rfl) ⟨by decide, by decide⟩ dX12_loosen_15 rfl rfl ?_
  refine j_if_eq (tgt := 32) (pc' := 21) C dX12_loosen_18 rfl rfl (fun hc => ?_) (fun hc => ?_)
  · have hr := ifT hc hr
    clear hc
    refine j_iconst (v := -1) (pc' := 33) C dX12_loosen_32 kI_m1 rfl ?_
    have hr := Option.some.inj hr
    subst hr
    exact j_iret C hq hret dX12_loosen_33
  · have hr := ifF hc hr
    clear hc
    refine j_aload_n (q := 0) (pc' := 22) C dX12_loosen_21 rfl rfl rfl ?_
    refine j_aload_n (q := 0) (pc' := 23) C dX12_loosen_22 rfl rfl rfl ?_
    obtain ⟨zz6, hzz6, hr⟩ := ob hr
    obtain ⟨zx7, hzx7, hr⟩ := ob hr
    obtain ⟨fhzz6, hzz6⟩ := rcv_sp hzz6
    refine j_callV (ci := 9) (As := []) (rest := [.ref this]) (st1 := [.long zx7, .ref this]) (pc' := 26) C ⟨wm_2040, wm_114⟩ rfl hzz6 (c_X12_barredAll (nx := nx) hzx7) yw_X12_barredAll wm_2038 rfl rfl (Nat.le_of_ble_eq_true rfl) ⟨by decide, by decide⟩ dX12_loosen_23 rfl rfl ?_
    obtain ⟨zz8, hzz8, hr⟩ := ob hr
    obtain ⟨zx9, hzx9, hr⟩ := ob hr
    obtain ⟨fhzz8, hzz8⟩ := rcv_sp hzz8
    refine j_callV (ci := 9) (As := [.long zx7]) (rest := []) (st1 := [.int zx9]) (pc' := 29) C ⟨wm_2048, wm_116⟩ rfl hzz8 (c_X12_judge (nx := nx) hzx9) yw_X12_judge wm_2046 rfl rfl (Nat.le_of_ble_eq_true rfl) ⟨by decide, by decide⟩ dX12_loosen_26 rfl rfl ?_
    refine j_if_eq (tgt := 34) (pc' := 32) C dX12_loosen_29 rfl rfl (fun hc => ?_) (fun hc => ?_)
    · have hr := ifT hc hr
      clear hc
      refine j_aload_n (q := 0) (pc' := 35) C dX12_loosen_34 rfl rfl rfl ?_
      obtain ⟨zz10, hzz10, hr⟩ := ob hr
      obtain ⟨zq11, hzq11, hr⟩ := ob hr
      obtain ⟨fhzz10, hzz10⟩ := rcv_sp hzz10
      refine j_callV (ci := 9) (As := []) (rest := []) (st1 := []) (pc' := 38) C ⟨wm_1628, wm_56⟩ rfl hzz10 (c_X12_keep (nx := nx) hzq11) yw_X12_keep wm_1626 rfl rfl (Nat.le_of_ble_eq_true rfl) ⟨by decide, by decide⟩ dX12_loosen_35 rfl rfl ?_
      refine j_aload_n (q := 0) (pc' := 39) C dX12_loosen_38 rfl rfl rfl ?_
      obtain ⟨zz12, hzz12, hr⟩ := ob hr
      obtain ⟨zq13, hzq13, hr⟩ := ob hr
      obtain ⟨fhzz12, hzz12⟩ := rcv_sp hzz12
      refine j_callV (ci := 9) (As := []) (rest := []) (st1 := []) (pc' := 42) C ⟨wm_1781, wm_86⟩ rfl hzz12 (c_X12_layOrder (nx := nx) hzq13) yw_X12_layOrder wm_1779 rfl rfl (Nat.le_of_ble_eq_true rfl) ⟨by decide, by decide⟩ dX12_loosen_39 rfl rfl ?_
      refine j_iconst (v := 0) (pc' := 43) C dX12_loosen_42 kI_0 rfl ?_
      refine j_istore_n (lv' := [(2, .int (0 : Int32)), (0, .ref this), (1, .int p1)]) (pc' := 44) C dX12_loosen_43 rfl (by decide) rfl rfl ?_
      obtain ⟨zo15, hzo15, rzo15⟩ := ob hr
      have kzo15 : Jd G 0 0 nx zo15.2 138 [(0, .ref this), (1, .int p1)] [] := by
        have hr := rzo15
        refine j_aload_n (q := 0) (pc' := 139) C dX12_loosen_138 rfl rfl rfl ?_
        obtain ⟨zx17, hzx17, hr⟩ := ob hr
        refine j_getA (pc' := 142) C dX12_loosen_139 fl_X12_8 hzx17 rfl ?_
        refine j_bipush (v := 92) (pc' := 144) C dX12_loosen_142 kB_92 rfl ?_
        refine j_iload_n (q := 1) (pc' := 145) C dX12_loosen_144 rfl rfl rfl ?_
        refine j_iadd (pc' := 146) C dX12_loosen_145 rfl ?_
        refine j_aload_n (q := 0) (pc' := 147) C dX12_loosen_146 rfl rfl rfl ?_
        obtain ⟨zx18, hzx18, hr⟩ := ob hr
        refine j_getA (pc' := 150) C dX12_loosen_147 fl_X12_62 hzx18 rfl ?_
        refine j_iload_n (q := 1) (pc' := 151) C dX12_loosen_150 rfl rfl rfl ?_
        obtain ⟨zx19, hzx19, hr⟩ := ob hr
        refine j_iald (pc' := 152) C dX12_loosen_151 hzx19 rfl ?_
        refine j_bipush (v := 6) (pc' := 154) C dX12_loosen_152 kB_6 rfl ?_
        refine j_ishl (pc' := 155) C dX12_loosen_154 rfl ?_
        refine j_aload_n (q := 0) (pc' := 156) C dX12_loosen_155 rfl rfl rfl ?_
        obtain ⟨zx20, hzx20, hr⟩ := ob hr
        refine j_getA (pc' := 159) C dX12_loosen_156 fl_X12_65 hzx20 rfl ?_
        refine j_iload_n (q := 1) (pc' := 160) C dX12_loosen_159 rfl rfl rfl ?_
        obtain ⟨zx21, hzx21, hr⟩ := ob hr
        refine j_iald (pc' := 161) C dX12_loosen_160 hzx21 rfl ?_
        refine j_ior (pc' := 162) C dX12_loosen_161 rfl ?_
        obtain ⟨zc22, hzc22, hr⟩ := ob hr
        refine j_iast (pc' := 163) C dX12_loosen_162 hzc22 rfl ?_
        refine j_aload_n (q := 0) (pc' := 164) C dX12_loosen_163 rfl rfl rfl ?_
        obtain ⟨zx23, hzx23, hr⟩ := ob hr
        refine j_getA (pc' := 167) C dX12_loosen_164 fl_X12_62 hzx23 rfl ?_
        refine j_iload_n (q := 1) (pc' := 168) C dX12_loosen_167 rfl rfl rfl ?_
        obtain ⟨zx24, hzx24, hr⟩ := ob hr
        refine j_iald (pc' := 169) C dX12_loosen_168 hzx24 rfl ?_
        have hr := Option.some.inj hr
        subst hr
        exact j_iret C hq hret dX12_loosen_169
      refine j_lv (lv' := [(0, .ref this), (1, .int p1), (2, .int (0 : Int32))]) [1, 2, 0] rfl ?_
      refine it_J (J := (fun (zs14 : Int32 × Ce) => Jd G 0 0 nx zs14.2 44 [(0, .ref this), (1, .int p1), (2, .int zs14.1)] [])) ?_ hzo15
      clear hzo15
      intro zs14 zr16 hr izs14 ezs14
      refine j_iload_n (q := 2) (pc' := 45) C dX12_loosen_44 rfl rfl rfl ?_
      refine j_aload_n (q := 0) (pc' := 46) C dX12_loosen_45 rfl rfl rfl ?_
      obtain ⟨zx25, hzx25, hr⟩ := ob hr
      refine j_getA (pc' := 49) C dX12_loosen_46 fl_X12_8 hzx25 rfl ?_
      refine j_iconst (v := 3) (pc' := 50) C dX12_loosen_49 kI_3 rfl ?_
      obtain ⟨zx26, hzx26, hr⟩ := ob hr
      refine j_iald (pc' := 51) C dX12_loosen_50 hzx26 rfl ?_
      refine j_ic_ge (tgt := 138) (pc' := 54) C dX12_loosen_51 rfl rfl (fun hc => ?_) (fun hc => ?_)
      · have hr := ifT hc hr
        clear hc
        have hr := ezs14 _ (Option.some.inj hr).symm
        subst hr
        exact j_lv [0, 1] rfl kzo15
      · have hr := ifF hc hr
        clear hc
        refine j_aload_n (q := 0) (pc' := 55) C dX12_loosen_54 rfl rfl rfl ?_
        obtain ⟨zx27, hzx27, hr⟩ := ob hr
        refine j_getA (pc' := 58) C dX12_loosen_55 fl_X12_62 hzx27 rfl ?_
        refine j_iload_n (q := 1) (pc' := 59) C dX12_loosen_58 rfl rfl rfl ?_
        obtain ⟨zx28, hzx28, hr⟩ := ob hr
        refine j_iald (pc' := 60) C dX12_loosen_59 hzx28 rfl ?_
        refine j_istore_n (lv' := [(3, .int zx28), (0, .ref this), (1, .int p1), (2, .int zs14.1)]) (pc' := 61) C dX12_loosen_60 rfl (by decide) rfl rfl ?_
        refine j_aload_n (q := 1) (pc' := 62) C dX12_loosen_61 rfl rfl rfl ?_
        obtain ⟨zx29, hzx29, hr⟩ := ob hr
        refine j_getA (pc' := 65) C dX12_loosen_62 fl_X12_65 hzx29 rfl ?_
        refine j_iload_n (q := 2) (pc' := 66) C dX12_loosen_65 rfl rfl rfl ?_
        obtain ⟨zx30, hzx30, hr⟩ := ob hr
        refine j_iald (pc' := 67) C dX12_loosen_66 hzx30 rfl ?_
        refine j_istore (lv' := [(4, .int zx30), (3, .int zx28), (0, .ref this), (1, .int p1), (2, .int zs14.1)]) (pc' := 69) C dX12_loosen_67 (by decide) rfl rfl ?_
        refine j_aload_n (q := 2) (pc' := 70) C dX12_loosen_69 rfl rfl rfl ?_
        obtain ⟨zx31, hzx31, hr⟩ := ob hr
        refine j_getA (pc' := 73) C dX12_loosen_70 fl_X12_62 hzx31 rfl ?_
        refine j_iload_n (q := 3) (pc' := 74) C dX12_loosen_73 rfl rfl rfl ?_
        refine j_dup2 (pc' := 75) C dX12_loosen_74 rfl rfl rfl ?_
        obtain ⟨zx32, hzx32, hr⟩ := ob hr
        refine j_iald (pc' := 76) C dX12_loosen_75 hzx32 rfl ?_
        refine j_iconst (v := 1) (pc' := 77) C dX12_loosen_76 kI_1 rfl ?_
        refine j_aload_n (q := 2) (pc' := 78) C dX12_loosen_77 rfl rfl rfl ?_
        obtain ⟨zx33, hzx33, hr⟩ := ob hr
        refine j_getA (pc' := 81) C dX12_loosen_78 fl_X12_47 hzx33 rfl ?_
        refine j_iload_n (q := 4) (pc' := 82) C dX12_loosen_81 rfl rfl rfl ?_
        obtain ⟨zx34, hzx34, hr⟩ := ob hr
        refine j_iald (pc' := 83) C dX12_loosen_82 hzx34 rfl ?_
        refine j_ishl (pc' := 84) C dX12_loosen_83 rfl ?_
        refine j_iconst (v := -1) (pc' := 85) C dX12_loosen_84 kI_m1 rfl ?_
        refine j_ixor (pc' := 86) C dX12_loosen_85 rfl ?_
        refine j_iand (pc' := 87) C dX12_loosen_86 rfl ?_
        obtain ⟨zc35, hzc35, hr⟩ := ob hr
        refine j_iast (pc' := 88) C dX12_loosen_87 hzc35 rfl ?_
        refine j_aload_n (q := 2) (pc' := 89) C dX12_loosen_88 rfl rfl rfl ?_
        obtain ⟨zx36, hzx36, hr⟩ := ob hr
        refine j_getA (pc' := 92) C dX12_loosen_89 fl_X12_65 hzx36 rfl ?_
        refine j_iload_n (q := 3) (pc' := 93) C dX12_loosen_92 rfl rfl rfl ?_
        refine j_dup2 (pc' := 94) C dX12_loosen_93 rfl rfl rfl ?_
        obtain ⟨zx37, hzx37, hr⟩ := ob hr
        refine j_iald (pc' := 95) C dX12_loosen_94 hzx37 rfl ?_
        refine j_aload_n (q := 2) (pc' := 96) C dX12_loosen_95 rfl rfl rfl ?_
        obtain ⟨zx38, hzx38, hr⟩ := ob hr
        refine j_getA (pc' := 99) C dX12_loosen_96 fl_X12_62 hzx38 rfl ?_
        refine j_iload_n (q := 3) (pc' := 100) C dX12_loosen_99 rfl rfl rfl ?_
        obtain ⟨zx39, hzx39, hr⟩ := ob hr
        refine j_iald (pc' := 101) C dX12_loosen_100 hzx39 rfl ?_
        refine j_iand (pc' := 102) C dX12_loosen_101 rfl ?_
        obtain ⟨zc40, hzc40, hr⟩ := ob hr
        refine j_iast (pc' := 103) C dX12_loosen_102 hzc40 rfl ?_
        refine j_aload_n (q := 2) (pc' := 104) C dX12_loosen_103 rfl rfl rfl ?_
        refine j_aload_n (q := 2) (pc' := 105) C dX12_loosen_104 rfl rfl rfl ?_
        obtain ⟨zz41, hzz41, hr⟩ := ob hr
        obtain ⟨zx42, hzx42, hr⟩ := ob hr
        obtain ⟨fhzz41, hzz41⟩ := rcv_sp hzz41
        refine j_callV (ci := 9) (As := []) (rest := [.ref this]) (st1 := [.long zx42, .ref this]) (pc' := 108) C ⟨wm_2040, wm_114⟩ rfl hzz41 (c_X12_barredAll (nx := nx) hzx42) yw_X12_barredAll wm_2038 rfl rfl (Nat.le_of_ble_eq_true rfl) ⟨by decide, by decide⟩ dX12_loosen_105 rfl rfl ?_
        obtain ⟨zz43, hzz43, hr⟩ := ob hr
        obtain ⟨zx44, hzx44, hr⟩ := ob hr
        obtain ⟨fhzz43, hzz43⟩ := rcv_sp hzz43
        refine j_callV (ci := 9) (As := [.long zx42]) (rest := []) (st1 := [.int zx44]) (pc' := 111) C ⟨wm_2048, wm_116⟩ rfl hzz43 (c_X12_judge (nx := nx) hzx44) yw_X12_judge wm_2046 rfl rfl (Nat.le_of_ble_eq_true rfl) ⟨by decide, by decide⟩ dX12_loosen_108 rfl rfl ?_
        refine j_if_ne (tgt := 117) (pc' := 114) C dX12_loosen_111 rfl rfl (fun hc => ?_) (fun hc => ?_)
        · have hr := ifF hc hr
          clear hc
          refine j_aload_n (q := 2) (pc' := 118) C dX12_loosen_117 rfl rfl rfl ?_
          obtain ⟨zx45, hzx45, hr⟩ := ob hr
          refine j_getA (pc' := 121) C dX12_loosen_118 fl_X12_62 hzx45 rfl ?_
          refine j_iload_n (q := 3) (pc' := 122) C dX12_loosen_121 rfl rfl rfl ?_
          refine j_iload_n (q := 1) (pc' := 123) C dX12_loosen_122 rfl rfl rfl ?_
          obtain ⟨zc46, hzc46, hr⟩ := ob hr
          refine j_iast (pc' := 124) C dX12_loosen_123 hzc46 rfl ?_
          refine j_aload_n (q := 2) (pc' := 125) C dX12_loosen_124 rfl rfl rfl ?_
          obtain ⟨zx47, hzx47, hr⟩ := ob hr
          refine j_getA (pc' := 128) C dX12_loosen_125 fl_X12_65 hzx47 rfl ?_
          refine j_iload_n (q := 3) (pc' := 129) C dX12_loosen_128 rfl rfl rfl ?_
          refine j_iload (q := 0) (pc' := 131) C dX12_loosen_129 rfl rfl ?_
          obtain ⟨zc48, hzc48, hr⟩ := ob hr
          refine j_iast (pc' := 132) C dX12_loosen_131 hzc48 rfl ?_
          refine j_iinc (q := 4) (v := 1) (lv' := [(2, .int (zs14.1 + (1 : Int32))), (4, .int zx30), (3, .int zx28), (0, .ref this), (1, .int p1)]) (pc' := 135) C dX12_loosen_132 rfl kI_1 (by decide) rfl rfl ?_
          refine j_goto (tgt := 44) C dX12_loosen_135 rfl ?_
          have hr := izs14 ((zs14.1 + (1 : Int32)), zc48) (Option.some.inj hr).symm
          exact j_lv [3, 4, 0] rfl hr
        · have hr := ifT hc hr
          clear hc
          refine j_goto (tgt := 132) C dX12_loosen_114 rfl ?_
          refine j_iinc (q := 4) (v := 1) (lv' := [(2, .int (zs14.1 + (1 : Int32))), (4, .int zx30), (3, .int zx28), (0, .ref this), (1, .int p1)]) (pc' := 135) C dX12_loosen_132 rfl kI_1 (by decide) rfl rfl ?_
          refine j_goto (tgt := 44) C dX12_loosen_135 rfl ?_
          have hr := izs14 ((zs14.1 + (1 : Int32)), zc40) (Option.some.inj hr).symm
          exact j_lv [3, 4, 0] rfl hr
    · have hr := ifF hc hr
      clear hc
      refine j_iconst (v := -1) (pc' := 33) C dX12_loosen_32 kI_m1 rfl ?_
      have hr := Option.some.inj hr
      subst hr
      exact j_iret C hq hret dX12_loosen_33
def m_X12_claimed (ce : Ce) (this : Nat) (p1 : Int32) (p2 : Int32) : Option (Int32) :=
  if p1 = (-1 : Int32) then
    (gA ce 9 0 this).bind fun zx7 =>
    (aI ce zx7 (16 : Int32)).bind fun zx8 =>
    some zx8
  else
    (gA ce 9 0 this).bind fun zx1 =>
    (aI ce zx1 (16 : Int32)).bind fun zx2 =>
    (m_X12_isIn p1 (0 : Int32) (zx2 - (1 : Int32))).bind fun zx3 =>
    if zx3 = 0 then
      some (-2 : Int32)
    else
      (m_X12_isIn p2 (0 : Int32) (1 : Int32)).bind fun zx4 =>
      if zx4 = 0 then
        some (-2 : Int32)
      else
        (rcv ce 9 this).bind fun zz5 =>
        (m_X12_ofClaim ce this p1 p2).bind fun zx6 =>
        some zx6
set_option maxRecDepth 100000 in
set_option maxHeartbeats 4000000 in
theorem c_X12_claimed {nx : Nat} {ce : Ce} {this : Nat} {p1 : Int32} {p2 : Int32} {q : Int32} (hr : m_X12_claimed ce this p1 p2 = some q) : Ct yX12_claimed cX12_claimed 3 (some .int) 1 22 0 0 [.ref this, .int p1, .int p2] nx ce (some (.int q)) ce := by
  unfold m_X12_claimed at hr
  refine ct_of (by decide) (Nat.le_of_ble_eq_true rfl) ?_
  intro G C hq hret hin
  show Jd G 0 0 nx ce 0 [(0, .ref this), (1, .int p1), (2, .int p2)] []
  refine j_iload_n (q := 1) (pc' := 1) C dX12_claimed_0 rfl rfl rfl ?_
  refine j_iconst (v := -1) (pc' := 2) C dX12_claimed_1 kI_m1 rfl ?_
  refine j_ic_ne (tgt := 13) (pc' := 5) C dX12_claimed_2 rfl rfl (fun hc => ?_) (fun hc => ?_)
  · have hr := ifF hc hr
    clear hc
    refine j_iload_n (q := 1) (pc' := 14) C dX12_claimed_13 rfl rfl rfl ?_
    refine j_iconst (v := 0) (pc' := 15) C dX12_claimed_14 kI_0 rfl ?_
    refine j_aload_n (q := 0) (pc' := 16) C dX12_claimed_15 rfl rfl rfl ?_
    obtain ⟨zx1, hzx1, hr⟩ := ob hr
    refine j_getA (pc' := 19) C dX12_claimed_16 fl_X12_8 hzx1 rfl ?_
    refine j_bipush (v := 16) (pc' := 21) C dX12_claimed_19 kB_16 rfl ?_
    obtain ⟨zx2, hzx2, hr⟩ := ob hr
    refine j_iald (pc' := 22) C dX12_claimed_21 hzx2 rfl ?_
    refine j_iconst (v := 1) (pc' := 23) C dX12_claimed_22 kI_1 rfl ?_
    refine j_isub (pc' := 24) C dX12_claimed_23 rfl ?_
    obtain ⟨zx3, hzx3, hr⟩ := ob hr
    refine j_callS (As := [.int p1, .int (0 : Int32), .int (zx2 - (1 : Int32))]) (rest := []) (st1 := [.int zx3]) (pc' := 27) C wm_1529 (c_X12_isIn (nx := nx) (ce := ce) hzx3) yw_X12_isIn wm_1528 rfl rfl (Nat.le_of_ble_eq_true rfl) ⟨by decide, by decide⟩ dX12_claimed_24 rfl rfl ?_
    refine j_if_eq (tgt := 48) (pc' := 30) C dX12_claimed_27 rfl rfl (fun hc => ?_) (fun hc => ?_)
    · have hr := ifT hc hr
      clear hc
      refine j_bipush (v := -2) (pc' := 50) C dX12_claimed_48 kB_m2 rfl ?_
      have hr := Option.some.inj hr
      subst hr
      exact j_iret C hq hret dX12_claimed_50
    · have hr := ifF hc hr
      clear hc
      refine j_iload_n (q := 2) (pc' := 31) C dX12_claimed_30 rfl rfl rfl ?_
      refine j_iconst (v := 0) (pc' := 32) C dX12_claimed_31 kI_0 rfl ?_
      refine j_iconst (v := 1) (pc' := 33) C dX12_claimed_32 kI_1 rfl ?_
      obtain ⟨zx4, hzx4, hr⟩ := ob hr
      refine j_callS (As := [.int p2, .int (0 : Int32), .int (1 : Int32)]) (rest := []) (st1 := [.int zx4]) (pc' := 36) C wm_1529 (c_X12_isIn (nx := nx) (ce := ce) hzx4) yw_X12_isIn wm_1528 rfl rfl (Nat.le_of_ble_eq_true rfl) ⟨by decide, by decide⟩ dX12_claimed_33 rfl rfl ?_
      refine j_if_eq (tgt := 48) (pc' := 39) C dX12_claimed_36 rfl rfl (fun hc => ?_) (fun hc => ?_)
      · have hr := ifT hc hr
        clear hc
        refine j_bipush (v := -2) (pc' := 50) C dX12_claimed_48 kB_m2 rfl ?_
        have hr := Option.some.inj hr
        subst hr
        exact j_iret C hq hret dX12_claimed_50
      · have hr := ifF hc hr
        clear hc
        refine j_aload_n (q := 0) (pc' := 40) C dX12_claimed_39 rfl rfl rfl ?_
        refine j_iload_n (q := 1) (pc' := 41) C dX12_claimed_40 rfl rfl rfl ?_
        refine j_iload_n (q := 2) (pc' := 42) C dX12_claimed_41 rfl rfl rfl ?_
        obtain ⟨zz5, hzz5, hr⟩ := ob hr
        obtain ⟨zx6, hzx6, hr⟩ := ob hr
        obtain ⟨fhzz5, hzz5⟩ := rcv_sp hzz5
        refine j_callV (ci := 9) (As := [.int p1, .int p2]) (rest := []) (st1 := [.int zx6]) (pc' := 45) C ⟨wm_2036, wm_113⟩ rfl hzz5 (c_X12_ofClaim (nx := nx) hzx6) yw_X12_ofClaim wm_2034 rfl rfl (Nat.le_of_ble_eq_true rfl) ⟨by decide, by decide⟩ dX12_claimed_42 rfl rfl ?_
        refine j_goto (tgt := 50) C dX12_claimed_45 rfl ?_
        have hr := Option.some.inj hr
        subst hr
        exact j_iret C hq hret dX12_claimed_50
  · have hr := ifT hc hr
    clear hc
    refine j_aload_n (q := 0) (pc' := 6) C dX12_claimed_5 rfl rfl rfl ?_
    obtain ⟨zx7, hzx7, hr⟩ := ob hr
    refine j_getA (pc' := 9) C dX12_claimed_6 fl_X12_8 hzx7 rfl ?_
    refine j_bipush (v := 16) (pc' := 11) C dX12_claimed_9 kB_16 rfl ?_
    obtain ⟨zx8, hzx8, hr⟩ := ob hr
    refine j_iald (pc' := 12) C dX12_claimed_11 hzx8 rfl ?_
    have hr := Option.some.inj hr
    subst hr
    exact j_iret C hq hret dX12_claimed_12
def m_X12_judged (ce : Ce) (this : Nat) (p1 : Int32) : Option (Int32 × Ce) :=
  (rcv ce 9 this).bind fun zz1 =>
  (m_X12_isLaid ce this p1).bind fun zq2 =>
  if zq2.1 = 0 then
    some ((-1 : Int32), zq2.2)
  else
    (rcv zq2.2 9 this).bind fun zz3 =>
    (m_X12_barredAll zq2.2 this).bind fun zx4 =>
    (rcv zq2.2 9 this).bind fun zz5 =>
    (m_X12_judge zq2.2 this zx4).bind fun zx6 =>
    some (zx6, zq2.2)
set_option maxRecDepth 100000 in
set_option maxHeartbeats 4000000 in
theorem c_X12_judged {nx : Nat} {ce : Ce} {this : Nat} {p1 : Int32} {q : Int32 × Ce} (hr : m_X12_judged ce this p1 = some q) : Ct yX12_judged cX12_judged 2 (some .int) 5 113 0 0 [.ref this, .int p1] nx ce (some (.int q.1)) q.2 := by
  unfold m_X12_judged at hr
  refine ct_of (by decide) (Nat.le_of_ble_eq_true rfl) ?_
  intro G C hq hret hin
  show Jd G 0 0 nx ce 0 [(0, .ref this), (1, .int p1)] []
  refine j_aload_n (q := 0) (pc' := 1) C dX12_judged_0 rfl rfl rfl ?_
  refine j_iload_n (q := 1) (pc' := 2) C dX12_judged_1 rfl rfl rfl ?_
  obtain ⟨zz1, hzz1, hr⟩ := ob hr
  obtain ⟨zq2, hzq2, hr⟩ := ob hr
  obtain ⟨fhzz1, hzz1⟩ := rcv_sp hzz1
  refine j_callV (ci := 9) (As := [.int p1]) (rest := []) (st1 := [.int zq2.1]) (pc' := 5) C ⟨wm_2064, wm_118⟩ rfl hzz1 (c_X12_isLaid (nx := nx) hzq2) yw_X12_isLaid wm_2062 rfl rfl (Nat.le_of_ble_eq_true rfl) ⟨by decide, by decide⟩ dX12_judged_2 rfl rfl ?_
  refine j_if_eq (tgt := 19) (pc' := 8) C dX12_judged_5 rfl rfl (fun hc => ?_) (fun hc => ?_)
  · have hr := ifT hc hr
    clear hc
    refine j_iconst (v := -1) (pc' := 20) C dX12_judged_19 kI_m1 rfl ?_
    have hr := Option.some.inj hr
    subst hr
    exact j_iret C hq hret dX12_judged_20
  · have hr := ifF hc hr
    clear hc
    refine j_aload_n (q := 0) (pc' := 9) C dX12_judged_8 rfl rfl rfl ?_
    refine j_aload_n (q := 0) (pc' := 10) C dX12_judged_9 rfl rfl rfl ?_
    obtain ⟨zz3, hzz3, hr⟩ := ob hr
    obtain ⟨zx4, hzx4, hr⟩ := ob hr
    obtain ⟨fhzz3, hzz3⟩ := rcv_sp hzz3
    refine j_callV (ci := 9) (As := []) (rest := [.ref this]) (st1 := [.long zx4, .ref this]) (pc' := 13) C ⟨wm_2040, wm_114⟩ rfl hzz3 (c_X12_barredAll (nx := nx) hzx4) yw_X12_barredAll wm_2038 rfl rfl (Nat.le_of_ble_eq_true rfl) ⟨by decide, by decide⟩ dX12_judged_10 rfl rfl ?_
    obtain ⟨zz5, hzz5, hr⟩ := ob hr
    obtain ⟨zx6, hzx6, hr⟩ := ob hr
    obtain ⟨fhzz5, hzz5⟩ := rcv_sp hzz5
    refine j_callV (ci := 9) (As := [.long zx4]) (rest := []) (st1 := [.int zx6]) (pc' := 16) C ⟨wm_2048, wm_116⟩ rfl hzz5 (c_X12_judge (nx := nx) hzx6) yw_X12_judge wm_2046 rfl rfl (Nat.le_of_ble_eq_true rfl) ⟨by decide, by decide⟩ dX12_judged_13 rfl rfl ?_
    refine j_goto (tgt := 20) C dX12_judged_16 rfl ?_
    have hr := Option.some.inj hr
    subst hr
    exact j_iret C hq hret dX12_judged_20
def m_X12_witness (ce : Ce) (this : Nat) (p1 : Int32) : Option (Int32 × Ce) :=
  (rcv ce 9 this).bind fun zz1 =>
  (m_X12_isLaid ce this p1).bind fun zq2 =>
  if zq2.1 = 0 then
    some ((-1 : Int32), zq2.2)
  else
    (rcv zq2.2 9 this).bind fun zz3 =>
    (m_X12_barredAll zq2.2 this).bind fun zx4 =>
    (rcv zq2.2 9 this).bind fun zz5 =>
    (m_X12_judge zq2.2 this zx4).bind fun zx6 =>
    if zx6 = (1 : Int32) then
      (rcv zq2.2 9 this).bind fun zz7 =>
      (m_X12_starts zq2.2 this).bind fun zx8 =>
      (m_X12_lowest (zx4 &&& zx8)).bind fun zx9 =>
      some (zx9, zq2.2)
    else
    if zx6 = (2 : Int32) then
      (rcv zq2.2 9 this).bind fun zz10 =>
      (m_X12_leadIn zq2.2 this zx4).bind fun zx11 =>
      some (zx11, zq2.2)
    else
    if zx6 = (3 : Int32) then
      (rcv zq2.2 9 this).bind fun zz12 =>
      (m_X12_aims zq2.2 this).bind fun zx13 =>
      (m_X12_lowest (zx13 &&& (zx4 ^^^ (-1 : Int64)))).bind fun zx14 =>
      some (zx14, zq2.2)
    else
    some ((-1 : Int32), zq2.2)
set_option maxRecDepth 100000 in
set_option maxHeartbeats 4000000 in
theorem c_X12_witness {nx : Nat} {ce : Ce} {this : Nat} {p1 : Int32} {q : Int32 × Ce} (hr : m_X12_witness ce this p1 = some q) : Ct yX12_witness cX12_witness 4 (some .int) 5 113 0 0 [.ref this, .int p1] nx ce (some (.int q.1)) q.2 := by
  unfold m_X12_witness at hr
  refine ct_of (by decide) (Nat.le_of_ble_eq_true rfl) ?_
  intro G C hq hret hin
  show Jd G 0 0 nx ce 0 [(0, .ref this), (1, .int p1)] []
  refine j_aload_n (q := 0) (pc' := 1) C dX12_witness_0 rfl rfl rfl ?_
  refine j_iload_n (q := 1) (pc' := 2) C dX12_witness_1 rfl rfl rfl ?_
  obtain ⟨zz1, hzz1, hr⟩ := ob hr
  obtain ⟨zq2, hzq2, hr⟩ := ob hr
  obtain ⟨fhzz1, hzz1⟩ := rcv_sp hzz1
  refine j_callV (ci := 9) (As := [.int p1]) (rest := []) (st1 := [.int zq2.1]) (pc' := 5) C ⟨wm_2064, wm_118⟩ rfl hzz1 (c_X12_isLaid (nx := nx) hzq2) yw_X12_isLaid wm_2062 rfl rfl (Nat.le_of_ble_eq_true rfl) ⟨by decide, by decide⟩ dX12_witness_2 rfl rfl ?_
  refine j_if_ne (tgt := 10) (pc' := 8) C dX12_witness_5 rfl rfl (fun hc => ?_) (fun hc => ?_)
  · have hr := ifF hc hr
    clear hc
    refine j_aload_n (q := 0) (pc' := 11) C dX12_witness_10 rfl rfl rfl ?_
    obtain ⟨zz3, hzz3, hr⟩ := ob hr
    obtain ⟨zx4, hzx4, hr⟩ := ob hr
    obtain ⟨fhzz3, hzz3⟩ := rcv_sp hzz3
    refine j_callV (ci := 9) (As := []) (rest := []) (st1 := [.long zx4]) (pc' := 14) C ⟨wm_2040, wm_114⟩ rfl hzz3 (c_X12_barredAll (nx := nx) hzx4) yw_X12_barredAll wm_2038 rfl rfl (Nat.le_of_ble_eq_true rfl) ⟨by decide, by decide⟩ dX12_witness_11 rfl rfl ?_
    refine j_lstore_n (lv' := [(2, .long zx4), (0, .ref this), (1, .int p1)]) (pc' := 15) C dX12_witness_14 rfl (by decide) rfl rfl ?_
    refine j_aload_n (q := 1) (pc' := 16) C dX12_witness_15 rfl rfl rfl ?_
    refine j_lload_n (q := 0) (pc' := 17) C dX12_witness_16 rfl rfl rfl ?_
    obtain ⟨zz5, hzz5, hr⟩ := ob hr
    obtain ⟨zx6, hzx6, hr⟩ := ob hr
    obtain ⟨fhzz5, hzz5⟩ := rcv_sp hzz5
    refine j_callV (ci := 9) (As := [.long zx4]) (rest := []) (st1 := [.int zx6]) (pc' := 20) C ⟨wm_2048, wm_116⟩ rfl hzz5 (c_X12_judge (nx := nx) hzx6) yw_X12_judge wm_2046 rfl rfl (Nat.le_of_ble_eq_true rfl) ⟨by decide, by decide⟩ dX12_witness_17 rfl rfl ?_
    by_cases hc0 : zx6 = (1 : Int32)
    · have hr := ifT hc0 hr
      refine j_tabIn (v := 1) (off := 28) (tgt := 48) C dX12_witness_20 hc0 (by decide) rfl ?_
      refine j_lload_n (q := 0) (pc' := 49) C dX12_witness_48 rfl rfl rfl ?_
      refine j_aload_n (q := 1) (pc' := 50) C dX12_witness_49 rfl rfl rfl ?_
      obtain ⟨zz7, hzz7, hr⟩ := ob hr
      obtain ⟨zx8, hzx8, hr⟩ := ob hr
      obtain ⟨fhzz7, hzz7⟩ := rcv_sp hzz7
      refine j_callV (ci := 9) (As := []) (rest := [.long zx4]) (st1 := [.long zx8, .long zx4]) (pc' := 53) C ⟨wm_1710, wm_69⟩ rfl hzz7 (c_X12_starts (nx := nx) hzx8) yw_X12_starts wm_1708 rfl rfl (Nat.le_of_ble_eq_true rfl) ⟨by decide, by decide⟩ dX12_witness_50 rfl rfl ?_
      refine j_land (pc' := 54) C dX12_witness_53 rfl ?_
      obtain ⟨zx9, hzx9, hr⟩ := ob hr
      refine j_callS (As := [.long (zx4 &&& zx8)]) (rest := []) (st1 := [.int zx9]) (pc' := 57) C wm_1729 (c_X12_lowest (nx := nx) (ce := zq2.2) hzx9) yw_X12_lowest wm_1728 rfl rfl (Nat.le_of_ble_eq_true rfl) ⟨by decide, by decide⟩ dX12_witness_54 rfl rfl ?_
      have hr := Option.some.inj hr
      subst hr
      exact j_iret C hq hret dX12_witness_57
    have hr := ifF hc0 hr
    by_cases hc1 : zx6 = (2 : Int32)
    · have hr := ifT hc1 hr
      refine j_tabIn (v := 2) (off := 38) (tgt := 58) C dX12_witness_20 hc1 (by decide) rfl ?_
      refine j_aload_n (q := 1) (pc' := 59) C dX12_witness_58 rfl rfl rfl ?_
      refine j_lload_n (q := 0) (pc' := 60) C dX12_witness_59 rfl rfl rfl ?_
      obtain ⟨zz10, hzz10, hr⟩ := ob hr
      obtain ⟨zx11, hzx11, hr⟩ := ob hr
      obtain ⟨fhzz10, hzz10⟩ := rcv_sp hzz10
      refine j_callV (ci := 9) (As := [.long zx4]) (rest := []) (st1 := [.int zx11]) (pc' := 63) C ⟨wm_2052, wm_117⟩ rfl hzz10 (c_X12_leadIn (nx := nx) hzx11) yw_X12_leadIn wm_2050 rfl rfl (Nat.le_of_ble_eq_true rfl) ⟨by decide, by decide⟩ dX12_witness_60 rfl rfl ?_
      have hr := Option.some.inj hr
      subst hr
      exact j_iret C hq hret dX12_witness_63
    have hr := ifF hc1 hr
    by_cases hc2 : zx6 = (3 : Int32)
    · have hr := ifT hc2 hr
      refine j_tabIn (v := 3) (off := 44) (tgt := 64) C dX12_witness_20 hc2 (by decide) rfl ?_
      refine j_aload_n (q := 1) (pc' := 65) C dX12_witness_64 rfl rfl rfl ?_
      obtain ⟨zz12, hzz12, hr⟩ := ob hr
      obtain ⟨zx13, hzx13, hr⟩ := ob hr
      obtain ⟨fhzz12, hzz12⟩ := rcv_sp hzz12
      refine j_callV (ci := 9) (As := []) (rest := []) (st1 := [.long zx13]) (pc' := 68) C ⟨wm_1697, wm_66⟩ rfl hzz12 (c_X12_aims (nx := nx) hzx13) yw_X12_aims wm_1695 rfl rfl (Nat.le_of_ble_eq_true rfl) ⟨by decide, by decide⟩ dX12_witness_65 rfl rfl ?_
      refine j_lload_n (q := 0) (pc' := 69) C dX12_witness_68 rfl rfl rfl ?_
      refine j_ldc2 (pc' := 72) C dX12_witness_69 wm_1598 rfl ?_
      refine j_lxor (pc' := 73) C dX12_witness_72 rfl ?_
      refine j_land (pc' := 74) C dX12_witness_73 rfl ?_
      obtain ⟨zx14, hzx14, hr⟩ := ob hr
      refine j_callS (As := [.long (zx13 &&& (zx4 ^^^ (-1 : Int64)))]) (rest := []) (st1 := [.int zx14]) (pc' := 77) C wm_1729 (c_X12_lowest (nx := nx) (ce := zq2.2) hzx14) yw_X12_lowest wm_1728 rfl rfl (Nat.le_of_ble_eq_true rfl) ⟨by decide, by decide⟩ dX12_witness_74 rfl rfl ?_
      have hr := Option.some.inj hr
      subst hr
      exact j_iret C hq hret dX12_witness_77
    have hr := ifF hc2 hr
    refine j_tabOut (tgt := 78) C dX12_witness_20 (tab_out 3 (by decide) (by decide) (by decide) (fun i hi => by
      match i, hi with
      | 0, _ => exact hc0
      | 1, _ => exact hc1
      | 2, _ => exact hc2
      | i + 3, hi => omega)) rfl ?_
    refine j_iconst (v := -1) (pc' := 79) C dX12_witness_78 kI_m1 rfl ?_
    have hr := Option.some.inj hr
    subst hr
    exact j_iret C hq hret dX12_witness_79
  · have hr := ifT hc hr
    clear hc
    refine j_iconst (v := -1) (pc' := 9) C dX12_witness_8 kI_m1 rfl ?_
    have hr := Option.some.inj hr
    subst hr
    exact j_iret C hq hret dX12_witness_9
def m_X12_isFine (ce : Ce) (this : Nat) (p1 : Int32) : Option (Int32 × Ce) :=
  if p1 = (2 : Int32) then
    some ((0 : Int32), ce)
  else
    (rcv ce 9 this).bind fun zz1 =>
    (m_X12_isLaid ce this p1).bind fun zq2 =>
    if zq2.1 = 0 then
      some ((0 : Int32), zq2.2)
    else
      (rcv zq2.2 9 this).bind fun zz3 =>
      (m_X12_barredAll zq2.2 this).bind fun zx4 =>
      (rcv zq2.2 9 this).bind fun zz5 =>
      (m_X12_judge zq2.2 this zx4).bind fun zx6 =>
      if zx6 = 0 then
        some ((1 : Int32), zq2.2)
      else
        some ((0 : Int32), zq2.2)
set_option maxRecDepth 100000 in
set_option maxHeartbeats 4000000 in
theorem c_X12_isFine {nx : Nat} {ce : Ce} {this : Nat} {p1 : Int32} {q : Int32 × Ce} (hr : m_X12_isFine ce this p1 = some q) : Ct yX12_isFine cX12_isFine 2 (some .boolean) 5 113 0 0 [.ref this, .int p1] nx ce (some (.int q.1)) q.2 := by
  unfold m_X12_isFine at hr
  refine ct_of (by decide) (Nat.le_of_ble_eq_true rfl) ?_
  intro G C hq hret hin
  show Jd G 0 0 nx ce 0 [(0, .ref this), (1, .int p1)] []
  refine j_iload_n (q := 1) (pc' := 1) C dX12_isFine_0 rfl rfl rfl ?_
  refine j_iconst (v := 2) (pc' := 2) C dX12_isFine_1 kI_2 rfl ?_
  refine j_ic_eq (tgt := 28) (pc' := 5) C dX12_isFine_2 rfl rfl (fun hc => ?_) (fun hc => ?_)
  · have hr := ifT hc hr
    clear hc
    refine j_iconst (v := 0) (pc' := 29) C dX12_isFine_28 kI_0 rfl ?_
    have hr := Option.some.inj hr
    subst hr
    exact j_zret C hq hret rfl dX12_isFine_29
  · have hr := ifF hc hr
    clear hc
    refine j_aload_n (q := 0) (pc' := 6) C dX12_isFine_5 rfl rfl rfl ?_
    refine j_iload_n (q := 1) (pc' := 7) C dX12_isFine_6 rfl rfl rfl ?_
    obtain ⟨zz1, hzz1, hr⟩ := ob hr
    obtain ⟨zq2, hzq2, hr⟩ := ob hr
    obtain ⟨fhzz1, hzz1⟩ := rcv_sp hzz1
    refine j_callV (ci := 9) (As := [.int p1]) (rest := []) (st1 := [.int zq2.1]) (pc' := 10) C ⟨wm_2064, wm_118⟩ rfl hzz1 (c_X12_isLaid (nx := nx) hzq2) yw_X12_isLaid wm_2062 rfl rfl (Nat.le_of_ble_eq_true rfl) ⟨by decide, by decide⟩ dX12_isFine_7 rfl rfl ?_
    refine j_if_eq (tgt := 28) (pc' := 13) C dX12_isFine_10 rfl rfl (fun hc => ?_) (fun hc => ?_)
    · have hr := ifT hc hr
      clear hc
      refine j_iconst (v := 0) (pc' := 29) C dX12_isFine_28 kI_0 rfl ?_
      have hr := Option.some.inj hr
      subst hr
      exact j_zret C hq hret rfl dX12_isFine_29
    · have hr := ifF hc hr
      clear hc
      refine j_aload_n (q := 0) (pc' := 14) C dX12_isFine_13 rfl rfl rfl ?_
      refine j_aload_n (q := 0) (pc' := 15) C dX12_isFine_14 rfl rfl rfl ?_
      obtain ⟨zz3, hzz3, hr⟩ := ob hr
      obtain ⟨zx4, hzx4, hr⟩ := ob hr
      obtain ⟨fhzz3, hzz3⟩ := rcv_sp hzz3
      refine j_callV (ci := 9) (As := []) (rest := [.ref this]) (st1 := [.long zx4, .ref this]) (pc' := 18) C ⟨wm_2040, wm_114⟩ rfl hzz3 (c_X12_barredAll (nx := nx) hzx4) yw_X12_barredAll wm_2038 rfl rfl (Nat.le_of_ble_eq_true rfl) ⟨by decide, by decide⟩ dX12_isFine_15 rfl rfl ?_
      obtain ⟨zz5, hzz5, hr⟩ := ob hr
      obtain ⟨zx6, hzx6, hr⟩ := ob hr
      obtain ⟨fhzz5, hzz5⟩ := rcv_sp hzz5
      refine j_callV (ci := 9) (As := [.long zx4]) (rest := []) (st1 := [.int zx6]) (pc' := 21) C ⟨wm_2048, wm_116⟩ rfl hzz5 (c_X12_judge (nx := nx) hzx6) yw_X12_judge wm_2046 rfl rfl (Nat.le_of_ble_eq_true rfl) ⟨by decide, by decide⟩ dX12_isFine_18 rfl rfl ?_
      refine j_if_ne (tgt := 28) (pc' := 24) C dX12_isFine_21 rfl rfl (fun hc => ?_) (fun hc => ?_)
      · have hr := ifF hc hr
        clear hc
        refine j_iconst (v := 0) (pc' := 29) C dX12_isFine_28 kI_0 rfl ?_
        have hr := Option.some.inj hr
        subst hr
        exact j_zret C hq hret rfl dX12_isFine_29
      · have hr := ifT hc hr
        clear hc
        refine j_iconst (v := 1) (pc' := 25) C dX12_isFine_24 kI_1 rfl ?_
        refine j_goto (tgt := 29) C dX12_isFine_25 rfl ?_
        have hr := Option.some.inj hr
        subst hr
        exact j_zret C hq hret rfl dX12_isFine_29
def m_X12_spare (ce : Ce) (this : Nat) (p1 : Int32) : Option (Int32 × Ce) :=
  (rcv ce 9 this).bind fun zz1 =>
  (m_X12_isFine ce this p1).bind fun zq2 =>
  if zq2.1 = 0 then
    some ((-1 : Int32), zq2.2)
  else
    (it (fun (zs3 : (Int32 × Int32) × Ce) =>
      (gI zs3.2 9 31 this).bind fun zx6 =>
      if zx6 ≤ zs3.1.2 then
        some (Sum.inr (zs3.1.1, zs3.2))
      else
        (it (fun (zs7 : Int64 × Int32) =>
          (gI zs3.2 9 31 this).bind fun zx26 =>
          if zx26 ≤ zs7.2 then
            some (Sum.inr zs7.1)
          else
            if zs7.2 = zs3.1.2 then
              some (Sum.inl (zs7.1, (zs7.2 + (1 : Int32))))
            else
              (rcv zs3.2 9 this).bind fun zz27 =>
              (m_X12_barredBy zs3.2 this zs7.2).bind fun zx28 =>
              some (Sum.inl ((zs7.1 ||| zx28), (zs7.2 + (1 : Int32))))
        ) FU ((0 : Int64), (0 : Int32))).bind fun (zo8 : Int64) =>
        (rcv zs3.2 9 this).bind fun zz10 =>
        (m_X12_judge zs3.2 this zo8).bind fun zx11 =>
        if zx11 = 0 then
          (it (fun (zs12 : Int32 × Ce) =>
            (gI zs12.2 9 31 this).bind fun zx17 =>
            if (zx17 - (1 : Int32)) ≤ zs12.1 then
              some (Sum.inr ((), zs12.2))
            else
              (gA zs12.2 9 29 this).bind fun zx18 =>
              (gA zs12.2 9 29 this).bind fun zx19 =>
              (aI zs12.2 zx19 (zs12.1 + (1 : Int32))).bind fun zx20 =>
              (sI zs12.2 zx18 zs12.1 zx20).bind fun zc21 =>
              (gA zc21 9 30 this).bind fun zx22 =>
              (gA zc21 9 30 this).bind fun zx23 =>
              (aI zc21 zx23 (zs12.1 + (1 : Int32))).bind fun zx24 =>
              (sI zc21 zx22 zs12.1 zx24).bind fun zc25 =>
              some (Sum.inl ((zs12.1 + (1 : Int32)), zc25))
          ) FU (zs3.1.2, zs3.2)).bind fun (zo13 : Unit × Ce) =>
          (gI zo13.2 9 31 this).bind fun zx15 =>
          (pV zo13.2 9 31 this (.int (zx15 - (1 : Int32)))).bind fun zc16 =>
          some (Sum.inl (((zs3.1.1 + (1 : Int32)), zs3.1.2), zc16))
        else
          some (Sum.inl ((zs3.1.1, (zs3.1.2 + (1 : Int32))), zs3.2))
    ) FU (((0 : Int32), (0 : Int32)), zq2.2)).bind fun (zo4 : Int32 × Ce) =>
    some (zo4.1, zo4.2)
set_option maxRecDepth 100000 in
set_option maxHeartbeats 4000000 in
theorem c_X12_spare {nx : Nat} {ce : Ce} {this : Nat} {p1 : Int32} {q : Int32 × Ce} (hr : m_X12_spare ce this p1 = some q) : Ct yX12_spare cX12_spare 7 (some .int) 6 134 0 0 [.ref this, .int p1] nx ce (some (.int q.1)) q.2 := by
  unfold m_X12_spare at hr
  refine ct_of (by decide) (Nat.le_of_ble_eq_true rfl) ?_
  intro G C hq hret hin
  show Jd G 0 0 nx ce 0 [(0, .ref this), (1, .int p1)] []
  refine j_aload_n (q := 0) (pc' := 1) C dX12_spare_0 rfl rfl rfl ?_
  refine j_iload_n (q := 1) (pc' := 2) C dX12_spare_1 rfl rfl rfl ?_
  obtain ⟨zz1, hzz1, hr⟩ := ob hr
  obtain ⟨zq2, hzq2, hr⟩ := ob hr
  obtain ⟨fhzz1, hzz1⟩ := rcv_sp hzz1
  refine j_callV (ci := 9) (As := [.int p1]) (rest := []) (st1 := [.int zq2.1]) (pc' := 5) C ⟨wm_2076, wm_119⟩ rfl hzz1 (c_X12_isFine (nx := nx) hzq2) yw_X12_isFine wm_2074 rfl rfl (Nat.le_of_ble_eq_true rfl) ⟨by decide, by decide⟩ dX12_spare_2 rfl rfl ?_
  refine j_if_ne (tgt := 10) (pc' := 8) C dX12_spare_5 rfl rfl (fun hc => ?_) (fun hc => ?_)
  · have hr := ifF hc hr
    clear hc
    refine j_iconst (v := 0) (pc' := 11) C dX12_spare_10 kI_0 rfl ?_
    refine j_istore_n (lv' := [(2, .int (0 : Int32)), (0, .ref this), (1, .int p1)]) (pc' := 12) C dX12_spare_11 rfl (by decide) rfl rfl ?_
    refine j_iconst (v := 0) (pc' := 13) C dX12_spare_12 kI_0 rfl ?_
    refine j_istore_n (lv' := [(3, .int (0 : Int32)), (2, .int (0 : Int32)), (0, .ref this), (1, .int p1)]) (pc' := 14) C dX12_spare_13 rfl (by decide) rfl rfl ?_
    obtain ⟨zo4, hzo4, rzo4⟩ := ob hr
    have kzo4 : Jd G 0 0 nx zo4.2 143 [(2, .int zo4.1)] [] := by
      have hr := rzo4
      refine j_iload_n (q := 0) (pc' := 144) C dX12_spare_143 rfl rfl rfl ?_
      have hr := Option.some.inj hr
      subst hr
      exact j_iret C hq hret dX12_spare_144
    refine j_lv (lv' := [(0, .ref this), (2, .int (0 : Int32)), (3, .int (0 : Int32))]) [2, 1, 0] rfl ?_
    refine it_J (J := (fun (zs3 : (Int32 × Int32) × Ce) => Jd G 0 0 nx zs3.2 14 [(0, .ref this), (2, .int zs3.1.1), (3, .int zs3.1.2)] [])) ?_ hzo4
    clear hzo4
    intro zs3 zr5 hr izs3 ezs3
    refine j_iload_n (q := 2) (pc' := 15) C dX12_spare_14 rfl rfl rfl ?_
    refine j_aload_n (q := 0) (pc' := 16) C dX12_spare_15 rfl rfl rfl ?_
    obtain ⟨zx6, hzx6, hr⟩ := ob hr
    refine j_getI (pc' := 19) C dX12_spare_16 fl_X12_390 hzx6 rfl ?_
    refine j_ic_ge (tgt := 143) (pc' := 22) C dX12_spare_19 rfl rfl (fun hc => ?_) (fun hc => ?_)
    · have hr := ifT hc hr
      clear hc
      have hr := ezs3 _ (Option.some.inj hr).symm
      subst hr
      exact j_lv [1] rfl kzo4
    · have hr := ifF hc hr
      clear hc
      refine j_lconst (v := 0) (pc' := 23) C dX12_spare_22 kL_0 rfl ?_
      refine j_lstore (lv' := [(4, .long (0 : Int64)), (0, .ref this), (2, .int zs3.1.1), (3, .int zs3.1.2)]) (pc' := 25) C dX12_spare_23 (by decide) rfl rfl ?_
      refine j_iconst (v := 0) (pc' := 26) C dX12_spare_25 kI_0 rfl ?_
      refine j_istore (lv' := [(6, .int (0 : Int32)), (4, .long (0 : Int64)), (0, .ref this), (2, .int zs3.1.1), (3, .int zs3.1.2)]) (pc' := 28) C dX12_spare_26 (by decide) rfl rfl ?_
      obtain ⟨zo8, hzo8, rzo8⟩ := ob hr
      have kzo8 : Jd G 0 0 nx zs3.2 60 [(0, .ref this), (2, .int zs3.1.1), (3, .int zs3.1.2), (4, .long zo8)] [] := by
        have hr := rzo8
        refine j_aload_n (q := 0) (pc' := 61) C dX12_spare_60 rfl rfl rfl ?_
        refine j_lload (q := 3) (pc' := 63) C dX12_spare_61 rfl rfl ?_
        obtain ⟨zz10, hzz10, hr⟩ := ob hr
        obtain ⟨zx11, hzx11, hr⟩ := ob hr
        obtain ⟨fhzz10, hzz10⟩ := rcv_sp hzz10
        refine j_callV (ci := 9) (As := [.long zo8]) (rest := []) (st1 := [.int zx11]) (pc' := 66) C ⟨wm_2048, wm_116⟩ rfl hzz10 (c_X12_judge (nx := nx) hzx11) yw_X12_judge wm_2046 rfl rfl (Nat.le_of_ble_eq_true rfl) ⟨by decide, by decide⟩ dX12_spare_63 rfl rfl ?_
        refine j_if_eq (tgt := 75) (pc' := 69) C dX12_spare_66 rfl rfl (fun hc => ?_) (fun hc => ?_)
        · have hr := ifT hc hr
          clear hc
          refine j_iinc (q := 1) (v := 1) (lv' := [(2, .int (zs3.1.1 + (1 : Int32))), (0, .ref this), (3, .int zs3.1.2), (4, .long zo8)]) (pc' := 78) C dX12_spare_75 rfl kI_1 (by decide) rfl rfl ?_
          refine j_iload_n (q := 2) (pc' := 79) C dX12_spare_78 rfl rfl rfl ?_
          refine j_istore (lv' := [(6, .int zs3.1.2), (2, .int (zs3.1.1 + (1 : Int32))), (0, .ref this), (3, .int zs3.1.2), (4, .long zo8)]) (pc' := 81) C dX12_spare_79 (by decide) rfl rfl ?_
          obtain ⟨zo13, hzo13, rzo13⟩ := ob hr
          have kzo13 : Jd G 0 0 nx zo13.2 130 [(0, .ref this), (2, .int (zs3.1.1 + (1 : Int32))), (3, .int zs3.1.2)] [] := by
            have hr := rzo13
            refine j_aload_n (q := 0) (pc' := 131) C dX12_spare_130 rfl rfl rfl ?_
            refine j_dup (pc' := 132) C dX12_spare_131 rfl rfl ?_
            obtain ⟨zx15, hzx15, hr⟩ := ob hr
            refine j_getI (pc' := 135) C dX12_spare_132 fl_X12_390 hzx15 rfl ?_
            refine j_iconst (v := 1) (pc' := 136) C dX12_spare_135 kI_1 rfl ?_
            refine j_isub (pc' := 137) C dX12_spare_136 rfl ?_
            obtain ⟨zc16, hzc16, hr⟩ := ob hr
            refine j_put (pc' := 140) C dX12_spare_137 fw_X12_390 rfl rfl hzc16 rfl ?_
            refine j_goto (tgt := 14) C dX12_spare_140 rfl ?_
            have hr := izs3 (((zs3.1.1 + (1 : Int32)), zs3.1.2), zc16) (Option.some.inj hr).symm
            exact j_lv [0, 1, 2] rfl hr
          refine j_lv (lv' := [(0, .ref this), (2, .int (zs3.1.1 + (1 : Int32))), (3, .int zs3.1.2), (6, .int zs3.1.2)]) [2, 1, 3, 0] rfl ?_
          refine it_J (J := (fun (zs12 : Int32 × Ce) => Jd G 0 0 nx zs12.2 81 [(0, .ref this), (2, .int (zs3.1.1 + (1 : Int32))), (3, .int zs3.1.2), (6, .int zs12.1)] [])) ?_ hzo13
          clear hzo13
          intro zs12 zr14 hr izs12 ezs12
          refine j_iload (q := 3) (pc' := 83) C dX12_spare_81 rfl rfl ?_
          refine j_aload_n (q := 0) (pc' := 84) C dX12_spare_83 rfl rfl rfl ?_
          obtain ⟨zx17, hzx17, hr⟩ := ob hr
          refine j_getI (pc' := 87) C dX12_spare_84 fl_X12_390 hzx17 rfl ?_
          refine j_iconst (v := 1) (pc' := 88) C dX12_spare_87 kI_1 rfl ?_
          refine j_isub (pc' := 89) C dX12_spare_88 rfl ?_
          refine j_ic_ge (tgt := 130) (pc' := 92) C dX12_spare_89 rfl rfl (fun hc => ?_) (fun hc => ?_)
          · have hr := ifT hc hr
            clear hc
            have hr := ezs12 _ (Option.some.inj hr).symm
            subst hr
            exact j_lv [0, 1, 2] rfl kzo13
          · have hr := ifF hc hr
            clear hc
            refine j_aload_n (q := 0) (pc' := 93) C dX12_spare_92 rfl rfl rfl ?_
            obtain ⟨zx18, hzx18, hr⟩ := ob hr
            refine j_getA (pc' := 96) C dX12_spare_93 fl_X12_62 hzx18 rfl ?_
            refine j_iload (q := 3) (pc' := 98) C dX12_spare_96 rfl rfl ?_
            refine j_aload_n (q := 0) (pc' := 99) C dX12_spare_98 rfl rfl rfl ?_
            obtain ⟨zx19, hzx19, hr⟩ := ob hr
            refine j_getA (pc' := 102) C dX12_spare_99 fl_X12_62 hzx19 rfl ?_
            refine j_iload (q := 3) (pc' := 104) C dX12_spare_102 rfl rfl ?_
            refine j_iconst (v := 1) (pc' := 105) C dX12_spare_104 kI_1 rfl ?_
            refine j_iadd (pc' := 106) C dX12_spare_105 rfl ?_
            obtain ⟨zx20, hzx20, hr⟩ := ob hr
            refine j_iald (pc' := 107) C dX12_spare_106 hzx20 rfl ?_
            obtain ⟨zc21, hzc21, hr⟩ := ob hr
            refine j_iast (pc' := 108) C dX12_spare_107 hzc21 rfl ?_
            refine j_aload_n (q := 0) (pc' := 109) C dX12_spare_108 rfl rfl rfl ?_
            obtain ⟨zx22, hzx22, hr⟩ := ob hr
            refine j_getA (pc' := 112) C dX12_spare_109 fl_X12_65 hzx22 rfl ?_
            refine j_iload (q := 3) (pc' := 114) C dX12_spare_112 rfl rfl ?_
            refine j_aload_n (q := 0) (pc' := 115) C dX12_spare_114 rfl rfl rfl ?_
            obtain ⟨zx23, hzx23, hr⟩ := ob hr
            refine j_getA (pc' := 118) C dX12_spare_115 fl_X12_65 hzx23 rfl ?_
            refine j_iload (q := 3) (pc' := 120) C dX12_spare_118 rfl rfl ?_
            refine j_iconst (v := 1) (pc' := 121) C dX12_spare_120 kI_1 rfl ?_
            refine j_iadd (pc' := 122) C dX12_spare_121 rfl ?_
            obtain ⟨zx24, hzx24, hr⟩ := ob hr
            refine j_iald (pc' := 123) C dX12_spare_122 hzx24 rfl ?_
            obtain ⟨zc25, hzc25, hr⟩ := ob hr
            refine j_iast (pc' := 124) C dX12_spare_123 hzc25 rfl ?_
            refine j_iinc (q := 3) (v := 1) (lv' := [(6, .int (zs12.1 + (1 : Int32))), (0, .ref this), (2, .int (zs3.1.1 + (1 : Int32))), (3, .int zs3.1.2)]) (pc' := 127) C dX12_spare_124 rfl kI_1 (by decide) rfl rfl ?_
            refine j_goto (tgt := 81) C dX12_spare_127 rfl ?_
            have hr := izs12 ((zs12.1 + (1 : Int32)), zc25) (Option.some.inj hr).symm
            exact j_lv [1, 2, 3, 0] rfl hr
        · have hr := ifF hc hr
          clear hc
          refine j_iinc (q := 2) (v := 1) (lv' := [(3, .int (zs3.1.2 + (1 : Int32))), (0, .ref this), (2, .int zs3.1.1), (4, .long zo8)]) (pc' := 72) C dX12_spare_69 rfl kI_1 (by decide) rfl rfl ?_
          refine j_goto (tgt := 14) C dX12_spare_72 rfl ?_
          have hr := izs3 ((zs3.1.1, (zs3.1.2 + (1 : Int32))), zs3.2) (Option.some.inj hr).symm
          exact j_lv [1, 2, 0] rfl hr
      refine j_lv (lv' := [(0, .ref this), (2, .int zs3.1.1), (3, .int zs3.1.2), (4, .long (0 : Int64)), (6, .int (0 : Int32))]) [2, 3, 4, 1, 0] rfl ?_
      refine it_J (J := (fun (zs7 : Int64 × Int32) => Jd G 0 0 nx zs3.2 28 [(0, .ref this), (2, .int zs3.1.1), (3, .int zs3.1.2), (4, .long zs7.1), (6, .int zs7.2)] [])) ?_ hzo8
      clear hzo8
      intro zs7 zr9 hr izs7 ezs7
      refine j_iload (q := 4) (pc' := 30) C dX12_spare_28 rfl rfl ?_
      refine j_aload_n (q := 0) (pc' := 31) C dX12_spare_30 rfl rfl rfl ?_
      obtain ⟨zx26, hzx26, hr⟩ := ob hr
      refine j_getI (pc' := 34) C dX12_spare_31 fl_X12_390 hzx26 rfl ?_
      refine j_ic_ge (tgt := 60) (pc' := 37) C dX12_spare_34 rfl rfl (fun hc => ?_) (fun hc => ?_)
      · have hr := ifT hc hr
        clear hc
        have hr := ezs7 _ (Option.some.inj hr).symm
        subst hr
        exact j_lv [0, 1, 2, 3] rfl kzo8
      · have hr := ifF hc hr
        clear hc
        refine j_iload (q := 4) (pc' := 39) C dX12_spare_37 rfl rfl ?_
        refine j_iload_n (q := 2) (pc' := 40) C dX12_spare_39 rfl rfl rfl ?_
        refine j_ic_eq (tgt := 54) (pc' := 43) C dX12_spare_40 rfl rfl (fun hc => ?_) (fun hc => ?_)
        · have hr := ifT hc hr
          clear hc
          refine j_iinc (q := 4) (v := 1) (lv' := [(6, .int (zs7.2 + (1 : Int32))), (0, .ref this), (2, .int zs3.1.1), (3, .int zs3.1.2), (4, .long zs7.1)]) (pc' := 57) C dX12_spare_54 rfl kI_1 (by decide) rfl rfl ?_
          refine j_goto (tgt := 28) C dX12_spare_57 rfl ?_
          have hr := izs7 (zs7.1, (zs7.2 + (1 : Int32))) (Option.some.inj hr).symm
          exact j_lv [1, 2, 3, 4, 0] rfl hr
        · have hr := ifF hc hr
          clear hc
          refine j_lload (q := 3) (pc' := 45) C dX12_spare_43 rfl rfl ?_
          refine j_aload_n (q := 0) (pc' := 46) C dX12_spare_45 rfl rfl rfl ?_
          refine j_iload (q := 4) (pc' := 48) C dX12_spare_46 rfl rfl ?_
          obtain ⟨zz27, hzz27, hr⟩ := ob hr
          obtain ⟨zx28, hzx28, hr⟩ := ob hr
          obtain ⟨fhzz27, hzz27⟩ := rcv_sp hzz27
          refine j_callV (ci := 9) (As := [.int zs7.2]) (rest := [.long zs7.1]) (st1 := [.long zx28, .long zs7.1]) (pc' := 51) C ⟨wm_2044, wm_115⟩ rfl hzz27 (c_X12_barredBy (nx := nx) hzx28) yw_X12_barredBy wm_2042 rfl rfl (Nat.le_of_ble_eq_true rfl) ⟨by decide, by decide⟩ dX12_spare_48 rfl rfl ?_
          refine j_lor (pc' := 52) C dX12_spare_51 rfl ?_
          refine j_lstore (lv' := [(4, .long (zs7.1 ||| zx28)), (0, .ref this), (2, .int zs3.1.1), (3, .int zs3.1.2), (6, .int zs7.2)]) (pc' := 54) C dX12_spare_52 (by decide) rfl rfl ?_
          refine j_iinc (q := 4) (v := 1) (lv' := [(6, .int (zs7.2 + (1 : Int32))), (4, .long (zs7.1 ||| zx28)), (0, .ref this), (2, .int zs3.1.1), (3, .int zs3.1.2)]) (pc' := 57) C dX12_spare_54 rfl kI_1 (by decide) rfl rfl ?_
          refine j_goto (tgt := 28) C dX12_spare_57 rfl ?_
          have hr := izs7 ((zs7.1 ||| zx28), (zs7.2 + (1 : Int32))) (Option.some.inj hr).symm
          exact j_lv [2, 3, 4, 1, 0] rfl hr
  · have hr := ifT hc hr
    clear hc
    refine j_iconst (v := -1) (pc' := 9) C dX12_spare_8 kI_m1 rfl ?_
    have hr := Option.some.inj hr
    subst hr
    exact j_iret C hq hret dX12_spare_9
def m_X12_fewestOf (ce : Ce) (this : Nat) (p1 : Int32) : Option (Int32 × Ce) :=
  (rcv ce 9 this).bind fun zz1 =>
  (m_X12_isFine ce this p1).bind fun zq2 =>
  if zq2.1 = 0 then
    some ((-1 : Int32), zq2.2)
  else
    (gI zq2.2 9 31 this).bind fun zx3 =>
    if zx3 ≤ (12 : Int32) then
      (it (fun (zs4 : Int32 × Ce) =>
        (gI zs4.2 9 31 this).bind fun zx22 =>
        if zx22 ≤ zs4.1 then
          some (Sum.inr ((), zs4.2))
        else
          (gA zs4.2 9 32 this).bind fun zx23 =>
          (rcv zs4.2 9 this).bind fun zz24 =>
          (m_X12_barredBy zs4.2 this zs4.1).bind fun zx25 =>
          (sL zs4.2 zx23 zs4.1 zx25).bind fun zc26 =>
          some (Sum.inl ((zs4.1 + (1 : Int32)), zc26))
      ) FU ((0 : Int32), zq2.2)).bind fun (zo5 : Unit × Ce) =>
      (it (fun (zs7 : Int32 × Int32) =>
        (gI zo5.2 9 31 this).bind fun zx10 =>
        if ((1 : Int32) <<< (zx10 &&& 31)) ≤ zs7.2 then
          some (Sum.inr zs7.1)
        else
          (
            if zs7.1 = (-1 : Int32) then
              some (Sum.inr zs7.2)
            else
              (m_X12_many (Int32.toInt64 zs7.2)).bind fun zx20 =>
              (m_X12_many (Int32.toInt64 zs7.1)).bind fun zx21 =>
              if zx20 < zx21 then
                some (Sum.inr zs7.2)
              else
                some (Sum.inl (Sum.inl (zs7.1, (zs7.2 + (1 : Int32)))))
          ).bind fun (zj11 : ((Int32 × Int32) ⊕ Int32) ⊕ Int32) => Sum.elim (fun wzj11 => some wzj11) (fun vzj11 =>
            (it (fun (zs12 : Int64 × Int32) =>
              (gI zo5.2 9 31 this).bind fun zx17 =>
              if zx17 ≤ zs12.2 then
                some (Sum.inr zs12.1)
              else
                if ((vzj11 >>> (zs12.2 &&& 31)) &&& (1 : Int32)) = (1 : Int32) then
                  (gA zo5.2 9 32 this).bind fun zx18 =>
                  (aL zo5.2 zx18 zs12.2).bind fun zx19 =>
                  some (Sum.inl ((zs12.1 ||| zx19), (zs12.2 + (1 : Int32))))
                else
                  some (Sum.inl (zs12.1, (zs12.2 + (1 : Int32))))
            ) FU ((0 : Int64), (0 : Int32))).bind fun (zo13 : Int64) =>
            (rcv zo5.2 9 this).bind fun zz15 =>
            (m_X12_judge zo5.2 this zo13).bind fun zx16 =>
            if zx16 = 0 then
              some (Sum.inl (vzj11, (vzj11 + (1 : Int32))))
            else
              some (Sum.inl (zs7.1, (vzj11 + (1 : Int32))))
          ) zj11
      ) FU ((-1 : Int32), (0 : Int32))).bind fun (zo8 : Int32) =>
      some (zo8, zo5.2)
    else
      some ((-1 : Int32), zq2.2)
set_option maxRecDepth 100000 in
set_option maxHeartbeats 4000000 in
theorem c_X12_fewestOf {nx : Nat} {ce : Ce} {this : Nat} {p1 : Int32} {q : Int32 × Ce} (hr : m_X12_fewestOf ce this p1 = some q) : Ct yX12_fewestOf cX12_fewestOf 7 (some .int) 6 134 0 0 [.ref this, .int p1] nx ce (some (.int q.1)) q.2 := by
  unfold m_X12_fewestOf at hr
  refine ct_of (by decide) (Nat.le_of_ble_eq_true rfl) ?_
  intro G C hq hret hin
  show Jd G 0 0 nx ce 0 [(0, .ref this), (1, .int p1)] []
  refine j_aload_n (q := 0) (pc' := 1) C dX12_fewestOf_0 rfl rfl rfl ?_
  refine j_iload_n (q := 1) (pc' := 2) C dX12_fewestOf_1 rfl rfl rfl ?_
  obtain ⟨zz1, hzz1, hr⟩ := ob hr
  obtain ⟨zq2, hzq2, hr⟩ := ob hr
  obtain ⟨fhzz1, hzz1⟩ := rcv_sp hzz1
  refine j_callV (ci := 9) (As := [.int p1]) (rest := []) (st1 := [.int zq2.1]) (pc' := 5) C ⟨wm_2076, wm_119⟩ rfl hzz1 (c_X12_isFine (nx := nx) hzq2) yw_X12_isFine wm_2074 rfl rfl (Nat.le_of_ble_eq_true rfl) ⟨by decide, by decide⟩ dX12_fewestOf_2 rfl rfl ?_
  refine j_if_eq (tgt := 17) (pc' := 8) C dX12_fewestOf_5 rfl rfl (fun hc => ?_) (fun hc => ?_)
  · have hr := ifT hc hr
    clear hc
    refine j_iconst (v := -1) (pc' := 18) C dX12_fewestOf_17 kI_m1 rfl ?_
    have hr := Option.some.inj hr
    subst hr
    exact j_iret C hq hret dX12_fewestOf_18
  · have hr := ifF hc hr
    clear hc
    refine j_aload_n (q := 0) (pc' := 9) C dX12_fewestOf_8 rfl rfl rfl ?_
    obtain ⟨zx3, hzx3, hr⟩ := ob hr
    refine j_getI (pc' := 12) C dX12_fewestOf_9 fl_X12_390 hzx3 rfl ?_
    refine j_bipush (v := 12) (pc' := 14) C dX12_fewestOf_12 kB_12 rfl ?_
    refine j_ic_le (tgt := 19) (pc' := 17) C dX12_fewestOf_14 rfl rfl (fun hc => ?_) (fun hc => ?_)
    · have hr := ifT hc hr
      clear hc
      refine j_iconst (v := 0) (pc' := 20) C dX12_fewestOf_19 kI_0 rfl ?_
      refine j_istore_n (lv' := [(2, .int (0 : Int32)), (0, .ref this), (1, .int p1)]) (pc' := 21) C dX12_fewestOf_20 rfl (by decide) rfl rfl ?_
      obtain ⟨zo5, hzo5, rzo5⟩ := ob hr
      have kzo5 : Jd G 0 0 nx zo5.2 46 [(0, .ref this)] [] := by
        have hr := rzo5
        refine j_iconst (v := -1) (pc' := 47) C dX12_fewestOf_46 kI_m1 rfl ?_
        refine j_istore_n (lv' := [(2, .int (-1 : Int32)), (0, .ref this)]) (pc' := 48) C dX12_fewestOf_47 rfl (by decide) rfl rfl ?_
        refine j_iconst (v := 0) (pc' := 49) C dX12_fewestOf_48 kI_0 rfl ?_
        refine j_istore_n (lv' := [(3, .int (0 : Int32)), (2, .int (-1 : Int32)), (0, .ref this)]) (pc' := 50) C dX12_fewestOf_49 rfl (by decide) rfl rfl ?_
        obtain ⟨zo8, hzo8, rzo8⟩ := ob hr
        have kzo8 : Jd G 0 0 nx zo5.2 141 [(2, .int zo8)] [] := by
          have hr := rzo8
          refine j_iload_n (q := 0) (pc' := 142) C dX12_fewestOf_141 rfl rfl rfl ?_
          have hr := Option.some.inj hr
          subst hr
          exact j_iret C hq hret dX12_fewestOf_142
        refine j_lv (lv' := [(0, .ref this), (2, .int (-1 : Int32)), (3, .int (0 : Int32))]) [2, 1, 0] rfl ?_
        refine it_J (J := (fun (zs7 : Int32 × Int32) => Jd G 0 0 nx zo5.2 50 [(0, .ref this), (2, .int zs7.1), (3, .int zs7.2)] [])) ?_ hzo8
        clear hzo8
        intro zs7 zr9 hr izs7 ezs7
        refine j_iload_n (q := 2) (pc' := 51) C dX12_fewestOf_50 rfl rfl rfl ?_
        refine j_iconst (v := 1) (pc' := 52) C dX12_fewestOf_51 kI_1 rfl ?_
        refine j_aload_n (q := 0) (pc' := 53) C dX12_fewestOf_52 rfl rfl rfl ?_
        obtain ⟨zx10, hzx10, hr⟩ := ob hr
        refine j_getI (pc' := 56) C dX12_fewestOf_53 fl_X12_390 hzx10 rfl ?_
        refine j_ishl (pc' := 57) C dX12_fewestOf_56 rfl ?_
        refine j_ic_ge (tgt := 141) (pc' := 60) C dX12_fewestOf_57 rfl rfl (fun hc => ?_) (fun hc => ?_)
        · have hr := ifT hc hr
          clear hc
          have hr := ezs7 _ (Option.some.inj hr).symm
          subst hr
          exact j_lv [1] rfl kzo8
        · have hr := ifF hc hr
          clear hc
          refine j_iload_n (q := 1) (pc' := 61) C dX12_fewestOf_60 rfl rfl rfl ?_
          refine j_iconst (v := -1) (pc' := 62) C dX12_fewestOf_61 kI_m1 rfl ?_
          obtain ⟨zj11, hzj11, rzj11⟩ := ob hr
          have kzj11 : ∀ vzj11, zj11 = Sum.inr vzj11 → Jd G 0 0 nx zo5.2 81 [(0, .ref this), (2, .int zs7.1), (3, .int vzj11)] [] := by
            intro vzj11 ezj11
            rw [ezj11] at rzj11
            have hr := elR rzj11
            refine j_lconst (v := 0) (pc' := 82) C dX12_fewestOf_81 kL_0 rfl ?_
            refine j_lstore (lv' := [(4, .long (0 : Int64)), (0, .ref this), (2, .int zs7.1), (3, .int vzj11)]) (pc' := 84) C dX12_fewestOf_82 (by decide) rfl rfl ?_
            refine j_iconst (v := 0) (pc' := 85) C dX12_fewestOf_84 kI_0 rfl ?_
            refine j_istore (lv' := [(6, .int (0 : Int32)), (4, .long (0 : Int64)), (0, .ref this), (2, .int zs7.1), (3, .int vzj11)]) (pc' := 87) C dX12_fewestOf_85 (by decide) rfl rfl ?_
            obtain ⟨zo13, hzo13, rzo13⟩ := ob hr
            have kzo13 : Jd G 0 0 nx zo5.2 124 [(0, .ref this), (2, .int zs7.1), (3, .int vzj11), (4, .long zo13)] [] := by
              have hr := rzo13
              refine j_aload_n (q := 0) (pc' := 125) C dX12_fewestOf_124 rfl rfl rfl ?_
              refine j_lload (q := 3) (pc' := 127) C dX12_fewestOf_125 rfl rfl ?_
              obtain ⟨zz15, hzz15, hr⟩ := ob hr
              obtain ⟨zx16, hzx16, hr⟩ := ob hr
              obtain ⟨fhzz15, hzz15⟩ := rcv_sp hzz15
              refine j_callV (ci := 9) (As := [.long zo13]) (rest := []) (st1 := [.int zx16]) (pc' := 130) C ⟨wm_2048, wm_116⟩ rfl hzz15 (c_X12_judge (nx := nx) hzx16) yw_X12_judge wm_2046 rfl rfl (Nat.le_of_ble_eq_true rfl) ⟨by decide, by decide⟩ dX12_fewestOf_127 rfl rfl ?_
              refine j_if_ne (tgt := 135) (pc' := 133) C dX12_fewestOf_130 rfl rfl (fun hc => ?_) (fun hc => ?_)
              · have hr := ifF hc hr
                clear hc
                refine j_iinc (q := 2) (v := 1) (lv' := [(3, .int (vzj11 + (1 : Int32))), (0, .ref this), (2, .int zs7.1), (4, .long zo13)]) (pc' := 138) C dX12_fewestOf_135 rfl kI_1 (by decide) rfl rfl ?_
                refine j_goto (tgt := 50) C dX12_fewestOf_138 rfl ?_
                have hr := izs7 (zs7.1, (vzj11 + (1 : Int32))) (Option.some.inj hr).symm
                exact j_lv [1, 2, 0] rfl hr
              · have hr := ifT hc hr
                clear hc
                refine j_iload_n (q := 2) (pc' := 134) C dX12_fewestOf_133 rfl rfl rfl ?_
                refine j_istore_n (lv' := [(2, .int vzj11), (0, .ref this), (3, .int vzj11), (4, .long zo13)]) (pc' := 135) C dX12_fewestOf_134 rfl (by decide) rfl rfl ?_
                refine j_iinc (q := 2) (v := 1) (lv' := [(3, .int (vzj11 + (1 : Int32))), (2, .int vzj11), (0, .ref this), (4, .long zo13)]) (pc' := 138) C dX12_fewestOf_135 rfl kI_1 (by decide) rfl rfl ?_
                refine j_goto (tgt := 50) C dX12_fewestOf_138 rfl ?_
                have hr := izs7 (vzj11, (vzj11 + (1 : Int32))) (Option.some.inj hr).symm
                exact j_lv [2, 1, 0] rfl hr
            refine j_lv (lv' := [(0, .ref this), (2, .int zs7.1), (3, .int vzj11), (4, .long (0 : Int64)), (6, .int (0 : Int32))]) [2, 3, 4, 1, 0] rfl ?_
            refine it_J (J := (fun (zs12 : Int64 × Int32) => Jd G 0 0 nx zo5.2 87 [(0, .ref this), (2, .int zs7.1), (3, .int vzj11), (4, .long zs12.1), (6, .int zs12.2)] [])) ?_ hzo13
            clear hzo13
            intro zs12 zr14 hr izs12 ezs12
            refine j_iload (q := 4) (pc' := 89) C dX12_fewestOf_87 rfl rfl ?_
            refine j_aload_n (q := 0) (pc' := 90) C dX12_fewestOf_89 rfl rfl rfl ?_
            obtain ⟨zx17, hzx17, hr⟩ := ob hr
            refine j_getI (pc' := 93) C dX12_fewestOf_90 fl_X12_390 hzx17 rfl ?_
            refine j_ic_ge (tgt := 124) (pc' := 96) C dX12_fewestOf_93 rfl rfl (fun hc => ?_) (fun hc => ?_)
            · have hr := ifT hc hr
              clear hc
              have hr := ezs12 _ (Option.some.inj hr).symm
              subst hr
              exact j_lv [0, 1, 2, 3] rfl kzo13
            · have hr := ifF hc hr
              clear hc
              refine j_iload_n (q := 2) (pc' := 97) C dX12_fewestOf_96 rfl rfl rfl ?_
              refine j_iload (q := 4) (pc' := 99) C dX12_fewestOf_97 rfl rfl ?_
              refine j_ishr (pc' := 100) C dX12_fewestOf_99 rfl ?_
              refine j_iconst (v := 1) (pc' := 101) C dX12_fewestOf_100 kI_1 rfl ?_
              refine j_iand (pc' := 102) C dX12_fewestOf_101 rfl ?_
              refine j_iconst (v := 1) (pc' := 103) C dX12_fewestOf_102 kI_1 rfl ?_
              refine j_ic_ne (tgt := 118) (pc' := 106) C dX12_fewestOf_103 rfl rfl (fun hc => ?_) (fun hc => ?_)
              · have hr := ifF hc hr
                clear hc
                refine j_iinc (q := 4) (v := 1) (lv' := [(6, .int (zs12.2 + (1 : Int32))), (0, .ref this), (2, .int zs7.1), (3, .int vzj11), (4, .long zs12.1)]) (pc' := 121) C dX12_fewestOf_118 rfl kI_1 (by decide) rfl rfl ?_
                refine j_goto (tgt := 87) C dX12_fewestOf_121 rfl ?_
                have hr := izs12 (zs12.1, (zs12.2 + (1 : Int32))) (Option.some.inj hr).symm
                exact j_lv [1, 2, 3, 4, 0] rfl hr
              · have hr := ifT hc hr
                clear hc
                refine j_lload (q := 3) (pc' := 108) C dX12_fewestOf_106 rfl rfl ?_
                refine j_aload_n (q := 0) (pc' := 109) C dX12_fewestOf_108 rfl rfl rfl ?_
                obtain ⟨zx18, hzx18, hr⟩ := ob hr
                refine j_getA (pc' := 112) C dX12_fewestOf_109 fl_X12_68 hzx18 rfl ?_
                refine j_iload (q := 4) (pc' := 114) C dX12_fewestOf_112 rfl rfl ?_
                obtain ⟨zx19, hzx19, hr⟩ := ob hr
                refine j_lald (pc' := 115) C dX12_fewestOf_114 hzx19 rfl ?_
                refine j_lor (pc' := 116) C dX12_fewestOf_115 rfl ?_
                refine j_lstore (lv' := [(4, .long (zs12.1 ||| zx19)), (0, .ref this), (2, .int zs7.1), (3, .int vzj11), (6, .int zs12.2)]) (pc' := 118) C dX12_fewestOf_116 (by decide) rfl rfl ?_
                refine j_iinc (q := 4) (v := 1) (lv' := [(6, .int (zs12.2 + (1 : Int32))), (4, .long (zs12.1 ||| zx19)), (0, .ref this), (2, .int zs7.1), (3, .int vzj11)]) (pc' := 121) C dX12_fewestOf_118 rfl kI_1 (by decide) rfl rfl ?_
                refine j_goto (tgt := 87) C dX12_fewestOf_121 rfl ?_
                have hr := izs12 ((zs12.1 ||| zx19), (zs12.2 + (1 : Int32))) (Option.some.inj hr).symm
                exact j_lv [2, 3, 4, 1, 0] rfl hr
          have hr := hzj11
          clear hzj11
          refine j_ic_eq (tgt := 81) (pc' := 65) C dX12_fewestOf_62 rfl rfl (fun hc => ?_) (fun hc => ?_)
          · have hr := ifT hc hr
            clear hc
            have hr := Option.some.inj hr
            subst hr
            exact j_lv [0, 1, 2] rfl (kzj11 _ rfl)
          · have hr := ifF hc hr
            clear hc
            refine j_iload_n (q := 2) (pc' := 66) C dX12_fewestOf_65 rfl rfl rfl ?_
            refine j_i2l (pc' := 67) C dX12_fewestOf_66 rfl ?_
            obtain ⟨zx20, hzx20, hr⟩ := ob hr
            refine j_callS (As := [.long (Int32.toInt64 zs7.2)]) (rest := []) (st1 := [.int zx20]) (pc' := 70) C wm_1866 (c_X12_many (nx := nx) (ce := zo5.2) hzx20) yw_X12_many wm_1865 rfl rfl (Nat.le_of_ble_eq_true rfl) ⟨by decide, by decide⟩ dX12_fewestOf_67 rfl rfl ?_
            refine j_iload_n (q := 1) (pc' := 71) C dX12_fewestOf_70 rfl rfl rfl ?_
            refine j_i2l (pc' := 72) C dX12_fewestOf_71 rfl ?_
            obtain ⟨zx21, hzx21, hr⟩ := ob hr
            refine j_callS (As := [.long (Int32.toInt64 zs7.1)]) (rest := [.int zx20]) (st1 := [.int zx21, .int zx20]) (pc' := 75) C wm_1866 (c_X12_many (nx := nx) (ce := zo5.2) hzx21) yw_X12_many wm_1865 rfl rfl (Nat.le_of_ble_eq_true rfl) ⟨by decide, by decide⟩ dX12_fewestOf_72 rfl rfl ?_
            refine j_ic_lt (tgt := 81) (pc' := 78) C dX12_fewestOf_75 rfl rfl (fun hc => ?_) (fun hc => ?_)
            · have hr := ifT hc hr
              clear hc
              have hr := Option.some.inj hr
              subst hr
              exact j_lv [0, 1, 2] rfl (kzj11 _ rfl)
            · have hr := ifF hc hr
              clear hc
              refine j_goto (tgt := 135) C dX12_fewestOf_78 rfl ?_
              refine j_iinc (q := 2) (v := 1) (lv' := [(3, .int (zs7.2 + (1 : Int32))), (0, .ref this), (2, .int zs7.1)]) (pc' := 138) C dX12_fewestOf_135 rfl kI_1 (by decide) rfl rfl ?_
              refine j_goto (tgt := 50) C dX12_fewestOf_138 rfl ?_
              have hr := Option.some.inj hr
              subst hr
              have hr := elL rzj11
              have hr := izs7 (zs7.1, (zs7.2 + (1 : Int32))) (Option.some.inj hr).symm
              exact j_lv [1, 2, 0] rfl hr
      refine j_lv (lv' := [(0, .ref this), (2, .int (0 : Int32))]) [1, 0] rfl ?_
      refine it_J (J := (fun (zs4 : Int32 × Ce) => Jd G 0 0 nx zs4.2 21 [(0, .ref this), (2, .int zs4.1)] [])) ?_ hzo5
      clear hzo5
      intro zs4 zr6 hr izs4 ezs4
      refine j_iload_n (q := 1) (pc' := 22) C dX12_fewestOf_21 rfl rfl rfl ?_
      refine j_aload_n (q := 0) (pc' := 23) C dX12_fewestOf_22 rfl rfl rfl ?_
      obtain ⟨zx22, hzx22, hr⟩ := ob hr
      refine j_getI (pc' := 26) C dX12_fewestOf_23 fl_X12_390 hzx22 rfl ?_
      refine j_ic_ge (tgt := 46) (pc' := 29) C dX12_fewestOf_26 rfl rfl (fun hc => ?_) (fun hc => ?_)
      · have hr := ifT hc hr
        clear hc
        have hr := ezs4 _ (Option.some.inj hr).symm
        subst hr
        exact j_lv [0] rfl kzo5
      · have hr := ifF hc hr
        clear hc
        refine j_aload_n (q := 0) (pc' := 30) C dX12_fewestOf_29 rfl rfl rfl ?_
        obtain ⟨zx23, hzx23, hr⟩ := ob hr
        refine j_getA (pc' := 33) C dX12_fewestOf_30 fl_X12_68 hzx23 rfl ?_
        refine j_iload_n (q := 1) (pc' := 34) C dX12_fewestOf_33 rfl rfl rfl ?_
        refine j_aload_n (q := 0) (pc' := 35) C dX12_fewestOf_34 rfl rfl rfl ?_
        refine j_iload_n (q := 1) (pc' := 36) C dX12_fewestOf_35 rfl rfl rfl ?_
        obtain ⟨zz24, hzz24, hr⟩ := ob hr
        obtain ⟨zx25, hzx25, hr⟩ := ob hr
        obtain ⟨fhzz24, hzz24⟩ := rcv_sp hzz24
        refine j_callV (ci := 9) (As := [.int zs4.1]) (rest := [.int zs4.1, .ref zx23]) (st1 := [.long zx25, .int zs4.1, .ref zx23]) (pc' := 39) C ⟨wm_2044, wm_115⟩ rfl hzz24 (c_X12_barredBy (nx := nx) hzx25) yw_X12_barredBy wm_2042 rfl rfl (Nat.le_of_ble_eq_true rfl) ⟨by decide, by decide⟩ dX12_fewestOf_36 rfl rfl ?_
        obtain ⟨zc26, hzc26, hr⟩ := ob hr
        refine j_last (pc' := 40) C dX12_fewestOf_39 hzc26 rfl ?_
        refine j_iinc (q := 1) (v := 1) (lv' := [(2, .int (zs4.1 + (1 : Int32))), (0, .ref this)]) (pc' := 43) C dX12_fewestOf_40 rfl kI_1 (by decide) rfl rfl ?_
        refine j_goto (tgt := 21) C dX12_fewestOf_43 rfl ?_
        have hr := izs4 ((zs4.1 + (1 : Int32)), zc26) (Option.some.inj hr).symm
        exact j_lv [1, 0] rfl hr
    · have hr := ifF hc hr
      clear hc
      refine j_iconst (v := -1) (pc' := 18) C dX12_fewestOf_17 kI_m1 rfl ?_
      have hr := Option.some.inj hr
      subst hr
      exact j_iret C hq hret dX12_fewestOf_18
def m_X12_fewest (ce : Ce) (this : Nat) (p1 : Int32) : Option (Int32 × Ce) :=
  (rcv ce 9 this).bind fun zz1 =>
  (m_X12_fewestOf ce this p1).bind fun zq2 =>
  if zq2.1 = (-1 : Int32) then
    some ((-1 : Int32), zq2.2)
  else
    (m_X12_many (Int32.toInt64 zq2.1)).bind fun zx3 =>
    some (zx3, zq2.2)
set_option maxRecDepth 100000 in
set_option maxHeartbeats 4000000 in
theorem c_X12_fewest {nx : Nat} {ce : Ce} {this : Nat} {p1 : Int32} {q : Int32 × Ce} (hr : m_X12_fewest ce this p1 = some q) : Ct yX12_fewest cX12_fewest 3 (some .int) 7 160 0 0 [.ref this, .int p1] nx ce (some (.int q.1)) q.2 := by
  unfold m_X12_fewest at hr
  refine ct_of (by decide) (Nat.le_of_ble_eq_true rfl) ?_
  intro G C hq hret hin
  show Jd G 0 0 nx ce 0 [(0, .ref this), (1, .int p1)] []
  refine j_aload_n (q := 0) (pc' := 1) C dX12_fewest_0 rfl rfl rfl ?_
  refine j_iload_n (q := 1) (pc' := 2) C dX12_fewest_1 rfl rfl rfl ?_
  obtain ⟨zz1, hzz1, hr⟩ := ob hr
  obtain ⟨zq2, hzq2, hr⟩ := ob hr
  obtain ⟨fhzz1, hzz1⟩ := rcv_sp hzz1
  refine j_callV (ci := 9) (As := [.int p1]) (rest := []) (st1 := [.int zq2.1]) (pc' := 5) C ⟨wm_2084, wm_120⟩ rfl hzz1 (c_X12_fewestOf (nx := nx) hzq2) yw_X12_fewestOf wm_2082 rfl rfl (Nat.le_of_ble_eq_true rfl) ⟨by decide, by decide⟩ dX12_fewest_2 rfl rfl ?_
  refine j_istore_n (lv' := [(2, .int zq2.1), (0, .ref this), (1, .int p1)]) (pc' := 6) C dX12_fewest_5 rfl (by decide) rfl rfl ?_
  refine j_iload_n (q := 0) (pc' := 7) C dX12_fewest_6 rfl rfl rfl ?_
  refine j_iconst (v := -1) (pc' := 8) C dX12_fewest_7 kI_m1 rfl ?_
  refine j_ic_ne (tgt := 15) (pc' := 11) C dX12_fewest_8 rfl rfl (fun hc => ?_) (fun hc => ?_)
  · have hr := ifF hc hr
    clear hc
    refine j_iload_n (q := 0) (pc' := 16) C dX12_fewest_15 rfl rfl rfl ?_
    refine j_i2l (pc' := 17) C dX12_fewest_16 rfl ?_
    obtain ⟨zx3, hzx3, hr⟩ := ob hr
    refine j_callS (As := [.long (Int32.toInt64 zq2.1)]) (rest := []) (st1 := [.int zx3]) (pc' := 20) C wm_1866 (c_X12_many (nx := nx) (ce := zq2.2) hzx3) yw_X12_many wm_1865 rfl rfl (Nat.le_of_ble_eq_true rfl) ⟨by decide, by decide⟩ dX12_fewest_17 rfl rfl ?_
    have hr := Option.some.inj hr
    subst hr
    exact j_iret C hq hret dX12_fewest_20
  · have hr := ifT hc hr
    clear hc
    refine j_iconst (v := -1) (pc' := 12) C dX12_fewest_11 kI_m1 rfl ?_
    refine j_goto (tgt := 20) C dX12_fewest_12 rfl ?_
    have hr := Option.some.inj hr
    subst hr
    exact j_iret C hq hret dX12_fewest_20
def m_X12_chosen (ce : Ce) (this : Nat) (p1 : Int32) : Option (Int32 × Ce) :=
  (rcv ce 9 this).bind fun zz1 =>
  (m_X12_fewestOf ce this p1).bind fun zq2 =>
  some (zq2.1, zq2.2)
set_option maxRecDepth 100000 in
set_option maxHeartbeats 4000000 in
theorem c_X12_chosen {nx : Nat} {ce : Ce} {this : Nat} {p1 : Int32} {q : Int32 × Ce} (hr : m_X12_chosen ce this p1 = some q) : Ct yX12_chosen cX12_chosen 2 (some .int) 7 160 0 0 [.ref this, .int p1] nx ce (some (.int q.1)) q.2 := by
  unfold m_X12_chosen at hr
  refine ct_of (by decide) (Nat.le_of_ble_eq_true rfl) ?_
  intro G C hq hret hin
  show Jd G 0 0 nx ce 0 [(0, .ref this), (1, .int p1)] []
  refine j_aload_n (q := 0) (pc' := 1) C dX12_chosen_0 rfl rfl rfl ?_
  refine j_iload_n (q := 1) (pc' := 2) C dX12_chosen_1 rfl rfl rfl ?_
  obtain ⟨zz1, hzz1, hr⟩ := ob hr
  obtain ⟨zq2, hzq2, hr⟩ := ob hr
  obtain ⟨fhzz1, hzz1⟩ := rcv_sp hzz1
  refine j_callV (ci := 9) (As := [.int p1]) (rest := []) (st1 := [.int zq2.1]) (pc' := 5) C ⟨wm_2084, wm_120⟩ rfl hzz1 (c_X12_fewestOf (nx := nx) hzq2) yw_X12_fewestOf wm_2082 rfl rfl (Nat.le_of_ble_eq_true rfl) ⟨by decide, by decide⟩ dX12_chosen_2 rfl rfl ?_
  have hr := Option.some.inj hr
  subst hr
  exact j_iret C hq hret dX12_chosen_5
def m_X12_inside (ce : Ce) (this : Nat) (p1 : Int32) : Option (Int32 × Ce) :=
  if p1 = (2 : Int32) then
    some ((-1 : Int32), ce)
  else
    (rcv ce 9 this).bind fun zz1 =>
    (m_X12_isLaid ce this p1).bind fun zq2 =>
    if zq2.1 = 0 then
      some ((-1 : Int32), zq2.2)
    else
      (rcv zq2.2 9 this).bind fun zz3 =>
      (m_X12_all zq2.2 this).bind fun zx4 =>
      (rcv zq2.2 9 this).bind fun zz5 =>
      (m_X12_barredAll zq2.2 this).bind fun zx6 =>
      (m_X12_many (zx4 &&& (zx6 ^^^ (-1 : Int64)))).bind fun zx7 =>
      some (zx7, zq2.2)
set_option maxRecDepth 100000 in
set_option maxHeartbeats 4000000 in
theorem c_X12_inside {nx : Nat} {ce : Ce} {this : Nat} {p1 : Int32} {q : Int32 × Ce} (hr : m_X12_inside ce this p1 = some q) : Ct yX12_inside cX12_inside 2 (some .int) 5 109 0 0 [.ref this, .int p1] nx ce (some (.int q.1)) q.2 := by
  unfold m_X12_inside at hr
  refine ct_of (by decide) (Nat.le_of_ble_eq_true rfl) ?_
  intro G C hq hret hin
  show Jd G 0 0 nx ce 0 [(0, .ref this), (1, .int p1)] []
  refine j_iload_n (q := 1) (pc' := 1) C dX12_inside_0 rfl rfl rfl ?_
  refine j_iconst (v := 2) (pc' := 2) C dX12_inside_1 kI_2 rfl ?_
  refine j_ic_eq (tgt := 32) (pc' := 5) C dX12_inside_2 rfl rfl (fun hc => ?_) (fun hc => ?_)
  · have hr := ifT hc hr
    clear hc
    refine j_iconst (v := -1) (pc' := 33) C dX12_inside_32 kI_m1 rfl ?_
    have hr := Option.some.inj hr
    subst hr
    exact j_iret C hq hret dX12_inside_33
  · have hr := ifF hc hr
    clear hc
    refine j_aload_n (q := 0) (pc' := 6) C dX12_inside_5 rfl rfl rfl ?_
    refine j_iload_n (q := 1) (pc' := 7) C dX12_inside_6 rfl rfl rfl ?_
    obtain ⟨zz1, hzz1, hr⟩ := ob hr
    obtain ⟨zq2, hzq2, hr⟩ := ob hr
    obtain ⟨fhzz1, hzz1⟩ := rcv_sp hzz1
    refine j_callV (ci := 9) (As := [.int p1]) (rest := []) (st1 := [.int zq2.1]) (pc' := 10) C ⟨wm_2064, wm_118⟩ rfl hzz1 (c_X12_isLaid (nx := nx) hzq2) yw_X12_isLaid wm_2062 rfl rfl (Nat.le_of_ble_eq_true rfl) ⟨by decide, by decide⟩ dX12_inside_7 rfl rfl ?_
    refine j_if_eq (tgt := 32) (pc' := 13) C dX12_inside_10 rfl rfl (fun hc => ?_) (fun hc => ?_)
    · have hr := ifT hc hr
      clear hc
      refine j_iconst (v := -1) (pc' := 33) C dX12_inside_32 kI_m1 rfl ?_
      have hr := Option.some.inj hr
      subst hr
      exact j_iret C hq hret dX12_inside_33
    · have hr := ifF hc hr
      clear hc
      refine j_aload_n (q := 0) (pc' := 14) C dX12_inside_13 rfl rfl rfl ?_
      obtain ⟨zz3, hzz3, hr⟩ := ob hr
      obtain ⟨zx4, hzx4, hr⟩ := ob hr
      obtain ⟨fhzz3, hzz3⟩ := rcv_sp hzz3
      refine j_callV (ci := 9) (As := []) (rest := []) (st1 := [.long zx4]) (pc' := 17) C ⟨wm_1635, wm_57⟩ rfl hzz3 (c_X12_all (nx := nx) hzx4) yw_X12_all wm_1633 rfl rfl (Nat.le_of_ble_eq_true rfl) ⟨by decide, by decide⟩ dX12_inside_14 rfl rfl ?_
      refine j_aload_n (q := 0) (pc' := 18) C dX12_inside_17 rfl rfl rfl ?_
      obtain ⟨zz5, hzz5, hr⟩ := ob hr
      obtain ⟨zx6, hzx6, hr⟩ := ob hr
      obtain ⟨fhzz5, hzz5⟩ := rcv_sp hzz5
      refine j_callV (ci := 9) (As := []) (rest := [.long zx4]) (st1 := [.long zx6, .long zx4]) (pc' := 21) C ⟨wm_2040, wm_114⟩ rfl hzz5 (c_X12_barredAll (nx := nx) hzx6) yw_X12_barredAll wm_2038 rfl rfl (Nat.le_of_ble_eq_true rfl) ⟨by decide, by decide⟩ dX12_inside_18 rfl rfl ?_
      refine j_ldc2 (pc' := 24) C dX12_inside_21 wm_1598 rfl ?_
      refine j_lxor (pc' := 25) C dX12_inside_24 rfl ?_
      refine j_land (pc' := 26) C dX12_inside_25 rfl ?_
      obtain ⟨zx7, hzx7, hr⟩ := ob hr
      refine j_callS (As := [.long (zx4 &&& (zx6 ^^^ (-1 : Int64)))]) (rest := []) (st1 := [.int zx7]) (pc' := 29) C wm_1866 (c_X12_many (nx := nx) (ce := zq2.2) hzx7) yw_X12_many wm_1865 rfl rfl (Nat.le_of_ble_eq_true rfl) ⟨by decide, by decide⟩ dX12_inside_26 rfl rfl ?_
      refine j_goto (tgt := 33) C dX12_inside_29 rfl ?_
      have hr := Option.some.inj hr
      subst hr
      exact j_iret C hq hret dX12_inside_33
def m_X12_foretold (ce : Ce) (this : Nat) (p1 : Int32) : Option (Int32 × Ce) :=
  (m_X12_isIn p1 (1 : Int32) (500 : Int32)).bind fun zx1 =>
  if zx1 = 0 then
    some ((-1 : Int32), ce)
  else
    (rcv ce 9 this).bind fun zz2 =>
    (m_X12_putAside ce this).bind fun zq3 =>
    (rcv zq3.2 9 this).bind fun zz4 =>
    (m_X12_stepsNow zq3.2 this p1).bind fun zq5 =>
    (gA zq5.2 9 0 this).bind fun zx6 =>
    (aI zq5.2 zx6 (5 : Int32)).bind fun zx7 =>
    (rcv zq5.2 9 this).bind fun zz8 =>
    (m_X12_bringBack zq5.2 this).bind fun zq9 =>
    some (zx7, zq9.2)
set_option maxRecDepth 100000 in
set_option maxHeartbeats 4000000 in
theorem c_X12_foretold {nx : Nat} {ce : Ce} {this : Nat} {p1 : Int32} {q : Int32 × Ce} (hr : m_X12_foretold ce this p1 = some q) : Ct yX12_foretold cX12_foretold 3 (some .int) 12 272 0 0 [.ref this, .int p1] nx ce (some (.int q.1)) q.2 := by
  unfold m_X12_foretold at hr
  refine ct_of (by decide) (Nat.le_of_ble_eq_true rfl) ?_
  intro G C hq hret hin
  show Jd G 0 0 nx ce 0 [(0, .ref this), (1, .int p1)] []
  refine j_iload_n (q := 1) (pc' := 1) C dX12_foretold_0 rfl rfl rfl ?_
  refine j_iconst (v := 1) (pc' := 2) C dX12_foretold_1 kI_1 rfl ?_
  refine j_sipush (v := 500) (pc' := 5) C dX12_foretold_2 kS_500 rfl ?_
  obtain ⟨zx1, hzx1, hr⟩ := ob hr
  refine j_callS (As := [.int p1, .int (1 : Int32), .int (500 : Int32)]) (rest := []) (st1 := [.int zx1]) (pc' := 8) C wm_1529 (c_X12_isIn (nx := nx) (ce := ce) hzx1) yw_X12_isIn wm_1528 rfl rfl (Nat.le_of_ble_eq_true rfl) ⟨by decide, by decide⟩ dX12_foretold_5 rfl rfl ?_
  refine j_if_ne (tgt := 13) (pc' := 11) C dX12_foretold_8 rfl rfl (fun hc => ?_) (fun hc => ?_)
  · have hr := ifF hc hr
    clear hc
    refine j_aload_n (q := 0) (pc' := 14) C dX12_foretold_13 rfl rfl rfl ?_
    obtain ⟨zz2, hzz2, hr⟩ := ob hr
    obtain ⟨zq3, hzq3, hr⟩ := ob hr
    obtain ⟨fhzz2, hzz2⟩ := rcv_sp hzz2
    refine j_callV (ci := 9) (As := []) (rest := []) (st1 := []) (pc' := 17) C ⟨wm_2100, wm_121⟩ rfl hzz2 (c_X12_putAside (nx := nx) hzq3) yw_X12_putAside wm_2098 rfl rfl (Nat.le_of_ble_eq_true rfl) ⟨by decide, by decide⟩ dX12_foretold_14 rfl rfl ?_
    refine j_aload_n (q := 0) (pc' := 18) C dX12_foretold_17 rfl rfl rfl ?_
    refine j_iload_n (q := 1) (pc' := 19) C dX12_foretold_18 rfl rfl rfl ?_
    obtain ⟨zz4, hzz4, hr⟩ := ob hr
    obtain ⟨zq5, hzq5, hr⟩ := ob hr
    obtain ⟨fhzz4, hzz4⟩ := rcv_sp hzz4
    refine j_callV (ci := 9) (As := [.int p1]) (rest := []) (st1 := [.int zq5.1]) (pc' := 22) C ⟨wm_1685, wm_63⟩ rfl hzz4 (c_X12_stepsNow (nx := nx) hzq5) yw_X12_stepsNow wm_1683 rfl rfl (Nat.le_of_ble_eq_true rfl) ⟨by decide, by decide⟩ dX12_foretold_19 rfl rfl ?_
    refine j_pop (pc' := 23) C dX12_foretold_22 rfl rfl ?_
    refine j_aload_n (q := 0) (pc' := 24) C dX12_foretold_23 rfl rfl rfl ?_
    obtain ⟨zx6, hzx6, hr⟩ := ob hr
    refine j_getA (pc' := 27) C dX12_foretold_24 fl_X12_8 hzx6 rfl ?_
    refine j_iconst (v := 5) (pc' := 28) C dX12_foretold_27 kI_5 rfl ?_
    obtain ⟨zx7, hzx7, hr⟩ := ob hr
    refine j_iald (pc' := 29) C dX12_foretold_28 hzx7 rfl ?_
    refine j_istore_n (lv' := [(2, .int zx7), (0, .ref this), (1, .int p1)]) (pc' := 30) C dX12_foretold_29 rfl (by decide) rfl rfl ?_
    refine j_aload_n (q := 1) (pc' := 31) C dX12_foretold_30 rfl rfl rfl ?_
    obtain ⟨zz8, hzz8, hr⟩ := ob hr
    obtain ⟨zq9, hzq9, hr⟩ := ob hr
    obtain ⟨fhzz8, hzz8⟩ := rcv_sp hzz8
    refine j_callV (ci := 9) (As := []) (rest := []) (st1 := []) (pc' := 34) C ⟨wm_2104, wm_122⟩ rfl hzz8 (c_X12_bringBack (nx := nx) hzq9) yw_X12_bringBack wm_2102 rfl rfl (Nat.le_of_ble_eq_true rfl) ⟨by decide, by decide⟩ dX12_foretold_31 rfl rfl ?_
    refine j_iload_n (q := 0) (pc' := 35) C dX12_foretold_34 rfl rfl rfl ?_
    have hr := Option.some.inj hr
    subst hr
    exact j_iret C hq hret dX12_foretold_35
  · have hr := ifT hc hr
    clear hc
    refine j_iconst (v := -1) (pc' := 12) C dX12_foretold_11 kI_m1 rfl ?_
    have hr := Option.some.inj hr
    subst hr
    exact j_iret C hq hret dX12_foretold_12
def m_X12_tillOver (ce : Ce) (this : Nat) : Option (Int32 × Ce) :=
  (rcv ce 9 this).bind fun zz1 =>
  (m_X12_stepsNow ce this (400 : Int32)).bind fun zq2 =>
  (rcv zq2.2 9 this).bind fun zz3 =>
  (m_X12_isOver zq2.2 this).bind fun zx4 =>
  (rcv zq2.2 9 this).bind fun zz5 =>
  (m_X12_bringBack zq2.2 this).bind fun zq6 =>
  if zx4 = 0 then
    some ((-1 : Int32), zq6.2)
  else
    some (zq2.1, zq6.2)
set_option maxRecDepth 100000 in
set_option maxHeartbeats 4000000 in
theorem c_X12_tillOver {nx : Nat} {ce : Ce} {this : Nat} {q : Int32 × Ce} (hr : m_X12_tillOver ce this = some q) : Ct yX12_tillOver cX12_tillOver 3 (some .int) 12 272 0 0 [.ref this] nx ce (some (.int q.1)) q.2 := by
  unfold m_X12_tillOver at hr
  refine ct_of (by decide) (Nat.le_of_ble_eq_true rfl) ?_
  intro G C hq hret hin
  show Jd G 0 0 nx ce 0 [(0, .ref this)] []
  refine j_aload_n (q := 0) (pc' := 1) C dX12_tillOver_0 rfl rfl rfl ?_
  refine j_sipush (v := 400) (pc' := 4) C dX12_tillOver_1 kS_400 rfl ?_
  obtain ⟨zz1, hzz1, hr⟩ := ob hr
  obtain ⟨zq2, hzq2, hr⟩ := ob hr
  obtain ⟨fhzz1, hzz1⟩ := rcv_sp hzz1
  refine j_callV (ci := 9) (As := [.int (400 : Int32)]) (rest := []) (st1 := [.int zq2.1]) (pc' := 7) C ⟨wm_1685, wm_63⟩ rfl hzz1 (c_X12_stepsNow (nx := nx) hzq2) yw_X12_stepsNow wm_1683 rfl rfl (Nat.le_of_ble_eq_true rfl) ⟨by decide, by decide⟩ dX12_tillOver_4 rfl rfl ?_
  refine j_istore_n (lv' := [(1, .int zq2.1), (0, .ref this)]) (pc' := 8) C dX12_tillOver_7 rfl (by decide) rfl rfl ?_
  refine j_aload_n (q := 1) (pc' := 9) C dX12_tillOver_8 rfl rfl rfl ?_
  obtain ⟨zz3, hzz3, hr⟩ := ob hr
  obtain ⟨zx4, hzx4, hr⟩ := ob hr
  obtain ⟨fhzz3, hzz3⟩ := rcv_sp hzz3
  refine j_callV (ci := 9) (As := []) (rest := []) (st1 := [.int zx4]) (pc' := 12) C ⟨wm_1681, wm_62⟩ rfl hzz3 (c_X12_isOver (nx := nx) hzx4) yw_X12_isOver wm_1679 rfl rfl (Nat.le_of_ble_eq_true rfl) ⟨by decide, by decide⟩ dX12_tillOver_9 rfl rfl ?_
  refine j_istore_n (lv' := [(2, .int zx4), (1, .int zq2.1), (0, .ref this)]) (pc' := 13) C dX12_tillOver_12 rfl (by decide) rfl rfl ?_
  refine j_aload_n (q := 2) (pc' := 14) C dX12_tillOver_13 rfl rfl rfl ?_
  obtain ⟨zz5, hzz5, hr⟩ := ob hr
  obtain ⟨zq6, hzq6, hr⟩ := ob hr
  obtain ⟨fhzz5, hzz5⟩ := rcv_sp hzz5
  refine j_callV (ci := 9) (As := []) (rest := []) (st1 := []) (pc' := 17) C ⟨wm_2104, wm_122⟩ rfl hzz5 (c_X12_bringBack (nx := nx) hzq6) yw_X12_bringBack wm_2102 rfl rfl (Nat.le_of_ble_eq_true rfl) ⟨by decide, by decide⟩ dX12_tillOver_14 rfl rfl ?_
  refine j_iload_n (q := 0) (pc' := 18) C dX12_tillOver_17 rfl rfl rfl ?_
  refine j_if_eq (tgt := 25) (pc' := 21) C dX12_tillOver_18 rfl rfl (fun hc => ?_) (fun hc => ?_)
  · have hr := ifT hc hr
    clear hc
    refine j_iconst (v := -1) (pc' := 26) C dX12_tillOver_25 kI_m1 rfl ?_
    have hr := Option.some.inj hr
    subst hr
    exact j_iret C hq hret dX12_tillOver_26
  · have hr := ifF hc hr
    clear hc
    refine j_iload_n (q := 1) (pc' := 22) C dX12_tillOver_21 rfl rfl rfl ?_
    refine j_goto (tgt := 26) C dX12_tillOver_22 rfl ?_
    have hr := Option.some.inj hr
    subst hr
    exact j_iret C hq hret dX12_tillOver_26
def m_X12_till (ce : Ce) (this : Nat) : Option (Int32 × Ce) :=
  (rcv ce 9 this).bind fun zz1 =>
  (m_X12_putAside ce this).bind fun zq2 =>
  (rcv zq2.2 9 this).bind fun zz3 =>
  (m_X12_tillOver zq2.2 this).bind fun zq4 =>
  some (zq4.1, zq4.2)
set_option maxRecDepth 100000 in
set_option maxHeartbeats 4000000 in
theorem c_X12_till {nx : Nat} {ce : Ce} {this : Nat} {q : Int32 × Ce} (hr : m_X12_till ce this = some q) : Ct yX12_till cX12_till 1 (some .int) 13 294 0 0 [.ref this] nx ce (some (.int q.1)) q.2 := by
  unfold m_X12_till at hr
  refine ct_of (by decide) (Nat.le_of_ble_eq_true rfl) ?_
  intro G C hq hret hin
  show Jd G 0 0 nx ce 0 [(0, .ref this)] []
  refine j_aload_n (q := 0) (pc' := 1) C dX12_till_0 rfl rfl rfl ?_
  obtain ⟨zz1, hzz1, hr⟩ := ob hr
  obtain ⟨zq2, hzq2, hr⟩ := ob hr
  obtain ⟨fhzz1, hzz1⟩ := rcv_sp hzz1
  refine j_callV (ci := 9) (As := []) (rest := []) (st1 := []) (pc' := 4) C ⟨wm_2100, wm_121⟩ rfl hzz1 (c_X12_putAside (nx := nx) hzq2) yw_X12_putAside wm_2098 rfl rfl (Nat.le_of_ble_eq_true rfl) ⟨by decide, by decide⟩ dX12_till_1 rfl rfl ?_
  refine j_aload_n (q := 0) (pc' := 5) C dX12_till_4 rfl rfl rfl ?_
  obtain ⟨zz3, hzz3, hr⟩ := ob hr
  obtain ⟨zq4, hzq4, hr⟩ := ob hr
  obtain ⟨fhzz3, hzz3⟩ := rcv_sp hzz3
  refine j_callV (ci := 9) (As := []) (rest := []) (st1 := [.int zq4.1]) (pc' := 8) C ⟨wm_2112, wm_123⟩ rfl hzz3 (c_X12_tillOver (nx := nx) hzq4) yw_X12_tillOver wm_2110 rfl rfl (Nat.le_of_ble_eq_true rfl) ⟨by decide, by decide⟩ dX12_till_5 rfl rfl ?_
  have hr := Option.some.inj hr
  subst hr
  exact j_iret C hq hret dX12_till_8
def m_X12_quickest (ce : Ce) (this : Nat) : Option (Int32 × Ce) :=
  (rcv ce 9 this).bind fun zz1 =>
  (m_X12_putAside ce this).bind fun zq2 =>
  (it (fun (zs3 : (Int32 × Int32 × Int32) × Ce) =>
    (gA zs3.2 9 0 this).bind fun zx6 =>
    (aI zs3.2 zx6 (7 : Int32)).bind fun zx7 =>
    if zx7 ≤ zs3.1.2.2 then
      some (Sum.inr (zs3.1.1, zs3.2))
    else
      (rcv zs3.2 9 this).bind fun zz8 =>
      (m_X12_aimAt zs3.2 this zs3.1.2.2).bind fun zq9 =>
      (rcv zq9.2 9 this).bind fun zz10 =>
      (m_X12_tillOver zq9.2 this).bind fun zq11 =>
      if zq11.1 = (-1 : Int32) then
        some (Sum.inl ((zs3.1.1, zs3.1.2.1, (zs3.1.2.2 + (1 : Int32))), zq11.2))
      else
        (
          if zs3.1.1 = (-1 : Int32) then
            some (Sum.inr zs3.1.2.2)
          else
            if zq11.1 < zs3.1.2.1 then
              some (Sum.inr zs3.1.2.2)
            else
              some (Sum.inl (Sum.inl ((zs3.1.1, zs3.1.2.1, (zs3.1.2.2 + (1 : Int32))), zq11.2)))
        ).bind fun (zj12 : (((Int32 × Int32 × Int32) × Ce) ⊕ (Int32 × Ce)) ⊕ Int32) => Sum.elim (fun wzj12 => some wzj12) (fun vzj12 =>
          some (Sum.inl ((vzj12, zq11.1, (vzj12 + (1 : Int32))), zq11.2))
        ) zj12
  ) FU (((-1 : Int32), (0 : Int32), (0 : Int32)), zq2.2)).bind fun (zo4 : Int32 × Ce) =>
  some (zo4.1, zo4.2)
set_option maxRecDepth 100000 in
set_option maxHeartbeats 4000000 in
theorem c_X12_quickest {nx : Nat} {ce : Ce} {this : Nat} {q : Int32 × Ce} (hr : m_X12_quickest ce this = some q) : Ct yX12_quickest cX12_quickest 5 (some .int) 13 294 0 0 [.ref this] nx ce (some (.int q.1)) q.2 := by
  unfold m_X12_quickest at hr
  refine ct_of (by decide) (Nat.le_of_ble_eq_true rfl) ?_
  intro G C hq hret hin
  show Jd G 0 0 nx ce 0 [(0, .ref this)] []
  refine j_iconst (v := -1) (pc' := 1) C dX12_quickest_0 kI_m1 rfl ?_
  refine j_istore_n (lv' := [(1, .int (-1 : Int32)), (0, .ref this)]) (pc' := 2) C dX12_quickest_1 rfl (by decide) rfl rfl ?_
  refine j_iconst (v := 0) (pc' := 3) C dX12_quickest_2 kI_0 rfl ?_
  refine j_istore_n (lv' := [(2, .int (0 : Int32)), (1, .int (-1 : Int32)), (0, .ref this)]) (pc' := 4) C dX12_quickest_3 rfl (by decide) rfl rfl ?_
  refine j_aload_n (q := 2) (pc' := 5) C dX12_quickest_4 rfl rfl rfl ?_
  obtain ⟨zz1, hzz1, hr⟩ := ob hr
  obtain ⟨zq2, hzq2, hr⟩ := ob hr
  obtain ⟨fhzz1, hzz1⟩ := rcv_sp hzz1
  refine j_callV (ci := 9) (As := []) (rest := []) (st1 := []) (pc' := 8) C ⟨wm_2100, wm_121⟩ rfl hzz1 (c_X12_putAside (nx := nx) hzq2) yw_X12_putAside wm_2098 rfl rfl (Nat.le_of_ble_eq_true rfl) ⟨by decide, by decide⟩ dX12_quickest_5 rfl rfl ?_
  refine j_iconst (v := 0) (pc' := 9) C dX12_quickest_8 kI_0 rfl ?_
  refine j_istore_n (lv' := [(3, .int (0 : Int32)), (2, .int (0 : Int32)), (1, .int (-1 : Int32)), (0, .ref this)]) (pc' := 10) C dX12_quickest_9 rfl (by decide) rfl rfl ?_
  obtain ⟨zo4, hzo4, rzo4⟩ := ob hr
  have kzo4 : Jd G 0 0 nx zo4.2 63 [(1, .int zo4.1)] [] := by
    have hr := rzo4
    refine j_iload_n (q := 0) (pc' := 64) C dX12_quickest_63 rfl rfl rfl ?_
    have hr := Option.some.inj hr
    subst hr
    exact j_iret C hq hret dX12_quickest_64
  refine j_lv (lv' := [(0, .ref this), (1, .int (-1 : Int32)), (2, .int (0 : Int32)), (3, .int (0 : Int32))]) [3, 2, 1, 0] rfl ?_
  refine it_J (J := (fun (zs3 : (Int32 × Int32 × Int32) × Ce) => Jd G 0 0 nx zs3.2 10 [(0, .ref this), (1, .int zs3.1.1), (2, .int zs3.1.2.1), (3, .int zs3.1.2.2)] [])) ?_ hzo4
  clear hzo4
  intro zs3 zr5 hr izs3 ezs3
  refine j_iload_n (q := 3) (pc' := 11) C dX12_quickest_10 rfl rfl rfl ?_
  refine j_aload_n (q := 0) (pc' := 12) C dX12_quickest_11 rfl rfl rfl ?_
  obtain ⟨zx6, hzx6, hr⟩ := ob hr
  refine j_getA (pc' := 15) C dX12_quickest_12 fl_X12_8 hzx6 rfl ?_
  refine j_bipush (v := 7) (pc' := 17) C dX12_quickest_15 kB_7 rfl ?_
  obtain ⟨zx7, hzx7, hr⟩ := ob hr
  refine j_iald (pc' := 18) C dX12_quickest_17 hzx7 rfl ?_
  refine j_ic_ge (tgt := 63) (pc' := 21) C dX12_quickest_18 rfl rfl (fun hc => ?_) (fun hc => ?_)
  · have hr := ifT hc hr
    clear hc
    have hr := ezs3 _ (Option.some.inj hr).symm
    subst hr
    exact j_lv [1] rfl kzo4
  · have hr := ifF hc hr
    clear hc
    refine j_aload_n (q := 0) (pc' := 22) C dX12_quickest_21 rfl rfl rfl ?_
    refine j_iload_n (q := 3) (pc' := 23) C dX12_quickest_22 rfl rfl rfl ?_
    obtain ⟨zz8, hzz8, hr⟩ := ob hr
    obtain ⟨zq9, hzq9, hr⟩ := ob hr
    obtain ⟨fhzz8, hzz8⟩ := rcv_sp hzz8
    refine j_callV (ci := 9) (As := [.int zs3.1.2.2]) (rest := []) (st1 := []) (pc' := 26) C ⟨wm_1657, wm_59⟩ rfl hzz8 (c_X12_aimAt (nx := nx) hzq9) yw_X12_aimAt wm_1655 rfl rfl (Nat.le_of_ble_eq_true rfl) ⟨by decide, by decide⟩ dX12_quickest_23 rfl rfl ?_
    refine j_aload_n (q := 0) (pc' := 27) C dX12_quickest_26 rfl rfl rfl ?_
    obtain ⟨zz10, hzz10, hr⟩ := ob hr
    obtain ⟨zq11, hzq11, hr⟩ := ob hr
    obtain ⟨fhzz10, hzz10⟩ := rcv_sp hzz10
    refine j_callV (ci := 9) (As := []) (rest := []) (st1 := [.int zq11.1]) (pc' := 30) C ⟨wm_2112, wm_123⟩ rfl hzz10 (c_X12_tillOver (nx := nx) hzq11) yw_X12_tillOver wm_2110 rfl rfl (Nat.le_of_ble_eq_true rfl) ⟨by decide, by decide⟩ dX12_quickest_27 rfl rfl ?_
    refine j_istore (lv' := [(4, .int zq11.1), (0, .ref this), (1, .int zs3.1.1), (2, .int zs3.1.2.1), (3, .int zs3.1.2.2)]) (pc' := 32) C dX12_quickest_30 (by decide) rfl rfl ?_
    refine j_iload (q := 0) (pc' := 34) C dX12_quickest_32 rfl rfl ?_
    refine j_iconst (v := -1) (pc' := 35) C dX12_quickest_34 kI_m1 rfl ?_
    refine j_ic_eq (tgt := 57) (pc' := 38) C dX12_quickest_35 rfl rfl (fun hc => ?_) (fun hc => ?_)
    · have hr := ifT hc hr
      clear hc
      refine j_iinc (q := 4) (v := 1) (lv' := [(3, .int (zs3.1.2.2 + (1 : Int32))), (4, .int zq11.1), (0, .ref this), (1, .int zs3.1.1), (2, .int zs3.1.2.1)]) (pc' := 60) C dX12_quickest_57 rfl kI_1 (by decide) rfl rfl ?_
      refine j_goto (tgt := 10) C dX12_quickest_60 rfl ?_
      have hr := izs3 ((zs3.1.1, zs3.1.2.1, (zs3.1.2.2 + (1 : Int32))), zq11.2) (Option.some.inj hr).symm
      exact j_lv [2, 3, 4, 0] rfl hr
    · have hr := ifF hc hr
      clear hc
      refine j_iload_n (q := 2) (pc' := 39) C dX12_quickest_38 rfl rfl rfl ?_
      refine j_iconst (v := -1) (pc' := 40) C dX12_quickest_39 kI_m1 rfl ?_
      obtain ⟨zj12, hzj12, rzj12⟩ := ob hr
      have kzj12 : ∀ vzj12, zj12 = Sum.inr vzj12 → Jd G 0 0 nx zq11.2 52 [(0, .ref this), (3, .int vzj12), (4, .int zq11.1)] [] := by
        intro vzj12 ezj12
        rw [ezj12] at rzj12
        have hr := elR rzj12
        refine j_iload_n (q := 1) (pc' := 53) C dX12_quickest_52 rfl rfl rfl ?_
        refine j_istore_n (lv' := [(1, .int vzj12), (0, .ref this), (3, .int vzj12), (4, .int zq11.1)]) (pc' := 54) C dX12_quickest_53 rfl (by decide) rfl rfl ?_
        refine j_iload (q := 3) (pc' := 56) C dX12_quickest_54 rfl rfl ?_
        refine j_istore_n (lv' := [(2, .int zq11.1), (1, .int vzj12), (0, .ref this), (3, .int vzj12), (4, .int zq11.1)]) (pc' := 57) C dX12_quickest_56 rfl (by decide) rfl rfl ?_
        refine j_iinc (q := 3) (v := 1) (lv' := [(3, .int (vzj12 + (1 : Int32))), (2, .int zq11.1), (1, .int vzj12), (0, .ref this), (4, .int zq11.1)]) (pc' := 60) C dX12_quickest_57 rfl kI_1 (by decide) rfl rfl ?_
        refine j_goto (tgt := 10) C dX12_quickest_60 rfl ?_
        have hr := izs3 ((vzj12, zq11.1, (vzj12 + (1 : Int32))), zq11.2) (Option.some.inj hr).symm
        exact j_lv [3, 2, 1, 0] rfl hr
      have hr := hzj12
      clear hzj12
      refine j_ic_eq (tgt := 52) (pc' := 43) C dX12_quickest_40 rfl rfl (fun hc => ?_) (fun hc => ?_)
      · have hr := ifT hc hr
        clear hc
        have hr := Option.some.inj hr
        subst hr
        exact j_lv [1, 4, 0] rfl (kzj12 _ rfl)
      · have hr := ifF hc hr
        clear hc
        refine j_iload (q := 0) (pc' := 45) C dX12_quickest_43 rfl rfl ?_
        refine j_iload_n (q := 3) (pc' := 46) C dX12_quickest_45 rfl rfl rfl ?_
        refine j_ic_lt (tgt := 52) (pc' := 49) C dX12_quickest_46 rfl rfl (fun hc => ?_) (fun hc => ?_)
        · have hr := ifT hc hr
          clear hc
          have hr := Option.some.inj hr
          subst hr
          exact j_lv [1, 4, 0] rfl (kzj12 _ rfl)
        · have hr := ifF hc hr
          clear hc
          refine j_goto (tgt := 57) C dX12_quickest_49 rfl ?_
          refine j_iinc (q := 4) (v := 1) (lv' := [(3, .int (zs3.1.2.2 + (1 : Int32))), (4, .int zq11.1), (0, .ref this), (1, .int zs3.1.1), (2, .int zs3.1.2.1)]) (pc' := 60) C dX12_quickest_57 rfl kI_1 (by decide) rfl rfl ?_
          refine j_goto (tgt := 10) C dX12_quickest_60 rfl ?_
          have hr := Option.some.inj hr
          subst hr
          have hr := elL rzj12
          have hr := izs3 ((zs3.1.1, zs3.1.2.1, (zs3.1.2.2 + (1 : Int32))), zq11.2) (Option.some.inj hr).symm
          exact j_lv [2, 3, 4, 0] rfl hr
def m_X12_bestMode (ce : Ce) (this : Nat) : Option (Int32 × Ce) :=
  (rcv ce 9 this).bind fun zz1 =>
  (m_X12_putAside ce this).bind fun zq2 =>
  (it (fun (zs3 : (Int32 × Int32 × Int32) × Ce) =>
    if (3 : Int32) ≤ zs3.1.2.2 then
      some (Sum.inr (zs3.1.1, zs3.2))
    else
      (gA zs3.2 9 0 this).bind fun zx6 =>
      (aI zs3.2 zx6 (8 : Int32)).bind fun zx7 =>
      (rcv zs3.2 9 this).bind fun zz8 =>
      (m_X12_anew zs3.2 this).bind fun zq9 =>
      (gA zq9.2 9 0 this).bind fun zx10 =>
      (sI zq9.2 zx10 (8 : Int32) zx7).bind fun zc11 =>
      (gA zc11 9 0 this).bind fun zx12 =>
      (sI zc11 zx12 (15 : Int32) zs3.1.2.2).bind fun zc13 =>
      (rcv zc13 9 this).bind fun zz14 =>
      (m_X12_tillOver zc13 this).bind fun zq15 =>
      if zq15.1 = (-1 : Int32) then
        some (Sum.inl ((zs3.1.1, zs3.1.2.1, (zs3.1.2.2 + (1 : Int32))), zq15.2))
      else
        (
          if zs3.1.1 = (-1 : Int32) then
            some (Sum.inr zs3.1.2.2)
          else
            if zq15.1 < zs3.1.2.1 then
              some (Sum.inr zs3.1.2.2)
            else
              some (Sum.inl (Sum.inl ((zs3.1.1, zs3.1.2.1, (zs3.1.2.2 + (1 : Int32))), zq15.2)))
        ).bind fun (zj16 : (((Int32 × Int32 × Int32) × Ce) ⊕ (Int32 × Ce)) ⊕ Int32) => Sum.elim (fun wzj16 => some wzj16) (fun vzj16 =>
          some (Sum.inl ((vzj16, zq15.1, (vzj16 + (1 : Int32))), zq15.2))
        ) zj16
  ) FU (((-1 : Int32), (0 : Int32), (0 : Int32)), zq2.2)).bind fun (zo4 : Int32 × Ce) =>
  some (zo4.1, zo4.2)
set_option maxRecDepth 100000 in
set_option maxHeartbeats 4000000 in
theorem c_X12_bestMode {nx : Nat} {ce : Ce} {this : Nat} {q : Int32 × Ce} (hr : m_X12_bestMode ce this = some q) : Ct yX12_bestMode cX12_bestMode 6 (some .int) 13 294 0 0 [.ref this] nx ce (some (.int q.1)) q.2 := by
  unfold m_X12_bestMode at hr
  refine ct_of (by decide) (Nat.le_of_ble_eq_true rfl) ?_
  intro G C hq hret hin
  show Jd G 0 0 nx ce 0 [(0, .ref this)] []
  refine j_iconst (v := -1) (pc' := 1) C dX12_bestMode_0 kI_m1 rfl ?_
  refine j_istore_n (lv' := [(1, .int (-1 : Int32)), (0, .ref this)]) (pc' := 2) C dX12_bestMode_1 rfl (by decide) rfl rfl ?_
  refine j_iconst (v := 0) (pc' := 3) C dX12_bestMode_2 kI_0 rfl ?_
  refine j_istore_n (lv' := [(2, .int (0 : Int32)), (1, .int (-1 : Int32)), (0, .ref this)]) (pc' := 4) C dX12_bestMode_3 rfl (by decide) rfl rfl ?_
  refine j_aload_n (q := 2) (pc' := 5) C dX12_bestMode_4 rfl rfl rfl ?_
  obtain ⟨zz1, hzz1, hr⟩ := ob hr
  obtain ⟨zq2, hzq2, hr⟩ := ob hr
  obtain ⟨fhzz1, hzz1⟩ := rcv_sp hzz1
  refine j_callV (ci := 9) (As := []) (rest := []) (st1 := []) (pc' := 8) C ⟨wm_2100, wm_121⟩ rfl hzz1 (c_X12_putAside (nx := nx) hzq2) yw_X12_putAside wm_2098 rfl rfl (Nat.le_of_ble_eq_true rfl) ⟨by decide, by decide⟩ dX12_bestMode_5 rfl rfl ?_
  refine j_iconst (v := 0) (pc' := 9) C dX12_bestMode_8 kI_0 rfl ?_
  refine j_istore_n (lv' := [(3, .int (0 : Int32)), (2, .int (0 : Int32)), (1, .int (-1 : Int32)), (0, .ref this)]) (pc' := 10) C dX12_bestMode_9 rfl (by decide) rfl rfl ?_
  obtain ⟨zo4, hzo4, rzo4⟩ := ob hr
  have kzo4 : Jd G 0 0 nx zo4.2 82 [(1, .int zo4.1)] [] := by
    have hr := rzo4
    refine j_iload_n (q := 0) (pc' := 83) C dX12_bestMode_82 rfl rfl rfl ?_
    have hr := Option.some.inj hr
    subst hr
    exact j_iret C hq hret dX12_bestMode_83
  refine j_lv (lv' := [(0, .ref this), (1, .int (-1 : Int32)), (2, .int (0 : Int32)), (3, .int (0 : Int32))]) [3, 2, 1, 0] rfl ?_
  refine it_J (J := (fun (zs3 : (Int32 × Int32 × Int32) × Ce) => Jd G 0 0 nx zs3.2 10 [(0, .ref this), (1, .int zs3.1.1), (2, .int zs3.1.2.1), (3, .int zs3.1.2.2)] [])) ?_ hzo4
  clear hzo4
  intro zs3 zr5 hr izs3 ezs3
  refine j_iload_n (q := 3) (pc' := 11) C dX12_bestMode_10 rfl rfl rfl ?_
  refine j_iconst (v := 3) (pc' := 12) C dX12_bestMode_11 kI_3 rfl ?_
  refine j_ic_ge (tgt := 82) (pc' := 15) C dX12_bestMode_12 rfl rfl (fun hc => ?_) (fun hc => ?_)
  · have hr := ifT hc hr
    clear hc
    have hr := ezs3 _ (Option.some.inj hr).symm
    subst hr
    exact j_lv [1] rfl kzo4
  · have hr := ifF hc hr
    clear hc
    refine j_aload_n (q := 0) (pc' := 16) C dX12_bestMode_15 rfl rfl rfl ?_
    obtain ⟨zx6, hzx6, hr⟩ := ob hr
    refine j_getA (pc' := 19) C dX12_bestMode_16 fl_X12_8 hzx6 rfl ?_
    refine j_bipush (v := 8) (pc' := 21) C dX12_bestMode_19 kB_8 rfl ?_
    obtain ⟨zx7, hzx7, hr⟩ := ob hr
    refine j_iald (pc' := 22) C dX12_bestMode_21 hzx7 rfl ?_
    refine j_istore (lv' := [(4, .int zx7), (0, .ref this), (1, .int zs3.1.1), (2, .int zs3.1.2.1), (3, .int zs3.1.2.2)]) (pc' := 24) C dX12_bestMode_22 (by decide) rfl rfl ?_
    refine j_aload_n (q := 1) (pc' := 25) C dX12_bestMode_24 rfl rfl rfl ?_
    obtain ⟨zz8, hzz8, hr⟩ := ob hr
    obtain ⟨zq9, hzq9, hr⟩ := ob hr
    obtain ⟨fhzz8, hzz8⟩ := rcv_sp hzz8
    refine j_callV (ci := 9) (As := []) (rest := []) (st1 := []) (pc' := 28) C ⟨wm_1408, wm_38⟩ rfl hzz8 (c_X12_anew (nx := nx) hzq9) yw_X12_anew wm_1406 rfl rfl (Nat.le_of_ble_eq_true rfl) ⟨by decide, by decide⟩ dX12_bestMode_25 rfl rfl ?_
    refine j_aload_n (q := 1) (pc' := 29) C dX12_bestMode_28 rfl rfl rfl ?_
    obtain ⟨zx10, hzx10, hr⟩ := ob hr
    refine j_getA (pc' := 32) C dX12_bestMode_29 fl_X12_8 hzx10 rfl ?_
    refine j_bipush (v := 8) (pc' := 34) C dX12_bestMode_32 kB_8 rfl ?_
    refine j_iload (q := 0) (pc' := 36) C dX12_bestMode_34 rfl rfl ?_
    obtain ⟨zc11, hzc11, hr⟩ := ob hr
    refine j_iast (pc' := 37) C dX12_bestMode_36 hzc11 rfl ?_
    refine j_aload_n (q := 1) (pc' := 38) C dX12_bestMode_37 rfl rfl rfl ?_
    obtain ⟨zx12, hzx12, hr⟩ := ob hr
    refine j_getA (pc' := 41) C dX12_bestMode_38 fl_X12_8 hzx12 rfl ?_
    refine j_bipush (v := 15) (pc' := 43) C dX12_bestMode_41 kB_15 rfl ?_
    refine j_iload_n (q := 4) (pc' := 44) C dX12_bestMode_43 rfl rfl rfl ?_
    obtain ⟨zc13, hzc13, hr⟩ := ob hr
    refine j_iast (pc' := 45) C dX12_bestMode_44 hzc13 rfl ?_
    refine j_aload_n (q := 1) (pc' := 46) C dX12_bestMode_45 rfl rfl rfl ?_
    obtain ⟨zz14, hzz14, hr⟩ := ob hr
    obtain ⟨zq15, hzq15, hr⟩ := ob hr
    obtain ⟨fhzz14, hzz14⟩ := rcv_sp hzz14
    refine j_callV (ci := 9) (As := []) (rest := []) (st1 := [.int zq15.1]) (pc' := 49) C ⟨wm_2112, wm_123⟩ rfl hzz14 (c_X12_tillOver (nx := nx) hzq15) yw_X12_tillOver wm_2110 rfl rfl (Nat.le_of_ble_eq_true rfl) ⟨by decide, by decide⟩ dX12_bestMode_46 rfl rfl ?_
    refine j_istore (lv' := [(5, .int zq15.1), (4, .int zx7), (0, .ref this), (1, .int zs3.1.1), (2, .int zs3.1.2.1), (3, .int zs3.1.2.2)]) (pc' := 51) C dX12_bestMode_49 (by decide) rfl rfl ?_
    refine j_iload (q := 0) (pc' := 53) C dX12_bestMode_51 rfl rfl ?_
    refine j_iconst (v := -1) (pc' := 54) C dX12_bestMode_53 kI_m1 rfl ?_
    refine j_ic_eq (tgt := 76) (pc' := 57) C dX12_bestMode_54 rfl rfl (fun hc => ?_) (fun hc => ?_)
    · have hr := ifT hc hr
      clear hc
      refine j_iinc (q := 5) (v := 1) (lv' := [(3, .int (zs3.1.2.2 + (1 : Int32))), (5, .int zq15.1), (4, .int zx7), (0, .ref this), (1, .int zs3.1.1), (2, .int zs3.1.2.1)]) (pc' := 79) C dX12_bestMode_76 rfl kI_1 (by decide) rfl rfl ?_
      refine j_goto (tgt := 10) C dX12_bestMode_79 rfl ?_
      have hr := izs3 ((zs3.1.1, zs3.1.2.1, (zs3.1.2.2 + (1 : Int32))), zq15.2) (Option.some.inj hr).symm
      exact j_lv [3, 4, 5, 0] rfl hr
    · have hr := ifF hc hr
      clear hc
      refine j_iload_n (q := 3) (pc' := 58) C dX12_bestMode_57 rfl rfl rfl ?_
      refine j_iconst (v := -1) (pc' := 59) C dX12_bestMode_58 kI_m1 rfl ?_
      obtain ⟨zj16, hzj16, rzj16⟩ := ob hr
      have kzj16 : ∀ vzj16, zj16 = Sum.inr vzj16 → Jd G 0 0 nx zq15.2 71 [(0, .ref this), (3, .int vzj16), (5, .int zq15.1)] [] := by
        intro vzj16 ezj16
        rw [ezj16] at rzj16
        have hr := elR rzj16
        refine j_iload_n (q := 1) (pc' := 72) C dX12_bestMode_71 rfl rfl rfl ?_
        refine j_istore_n (lv' := [(1, .int vzj16), (0, .ref this), (3, .int vzj16), (5, .int zq15.1)]) (pc' := 73) C dX12_bestMode_72 rfl (by decide) rfl rfl ?_
        refine j_iload (q := 3) (pc' := 75) C dX12_bestMode_73 rfl rfl ?_
        refine j_istore_n (lv' := [(2, .int zq15.1), (1, .int vzj16), (0, .ref this), (3, .int vzj16), (5, .int zq15.1)]) (pc' := 76) C dX12_bestMode_75 rfl (by decide) rfl rfl ?_
        refine j_iinc (q := 3) (v := 1) (lv' := [(3, .int (vzj16 + (1 : Int32))), (2, .int zq15.1), (1, .int vzj16), (0, .ref this), (5, .int zq15.1)]) (pc' := 79) C dX12_bestMode_76 rfl kI_1 (by decide) rfl rfl ?_
        refine j_goto (tgt := 10) C dX12_bestMode_79 rfl ?_
        have hr := izs3 ((vzj16, zq15.1, (vzj16 + (1 : Int32))), zq15.2) (Option.some.inj hr).symm
        exact j_lv [3, 2, 1, 0] rfl hr
      have hr := hzj16
      clear hzj16
      refine j_ic_eq (tgt := 71) (pc' := 62) C dX12_bestMode_59 rfl rfl (fun hc => ?_) (fun hc => ?_)
      · have hr := ifT hc hr
        clear hc
        have hr := Option.some.inj hr
        subst hr
        exact j_lv [2, 5, 0] rfl (kzj16 _ rfl)
      · have hr := ifF hc hr
        clear hc
        refine j_iload (q := 0) (pc' := 64) C dX12_bestMode_62 rfl rfl ?_
        refine j_iload_n (q := 4) (pc' := 65) C dX12_bestMode_64 rfl rfl rfl ?_
        refine j_ic_lt (tgt := 71) (pc' := 68) C dX12_bestMode_65 rfl rfl (fun hc => ?_) (fun hc => ?_)
        · have hr := ifT hc hr
          clear hc
          have hr := Option.some.inj hr
          subst hr
          exact j_lv [2, 5, 0] rfl (kzj16 _ rfl)
        · have hr := ifF hc hr
          clear hc
          refine j_goto (tgt := 76) C dX12_bestMode_68 rfl ?_
          refine j_iinc (q := 5) (v := 1) (lv' := [(3, .int (zs3.1.2.2 + (1 : Int32))), (5, .int zq15.1), (4, .int zx7), (0, .ref this), (1, .int zs3.1.1), (2, .int zs3.1.2.1)]) (pc' := 79) C dX12_bestMode_76 rfl kI_1 (by decide) rfl rfl ?_
          refine j_goto (tgt := 10) C dX12_bestMode_79 rfl ?_
          have hr := Option.some.inj hr
          subst hr
          have hr := elL rzj16
          have hr := izs3 ((zs3.1.1, zs3.1.2.1, (zs3.1.2.2 + (1 : Int32))), zq15.2) (Option.some.inj hr).symm
          exact j_lv [3, 4, 5, 0] rfl hr
def m_Jxe99ae_isNaN_b9ae7 (p0 : UInt64) : Option (Int32) :=
  if (Op.cmpValue (FP.dcmp p0 p0) .l) = 0 then
    some (0 : Int32)
  else
    some (1 : Int32)
set_option maxRecDepth 100000 in
set_option maxHeartbeats 4000000 in
theorem c_Jxe99ae_isNaN_b9ae7 {nx : Nat} {ce : Ce} {p0 : UInt64} {q : Int32} (hr : m_Jxe99ae_isNaN_b9ae7 p0 = some q) : Ct yJxe99ae_isNaN_b9ae7 cJxe99ae_isNaN_b9ae7 2 (some .boolean) 0 0 0 0 [.double p0] nx ce (some (.int q)) ce := by
  unfold m_Jxe99ae_isNaN_b9ae7 at hr
  refine ct_of (by decide) (Nat.le_of_ble_eq_true rfl) ?_
  intro G C hq hret hin
  show Jd G 0 0 nx ce 0 [(0, .double p0)] []
  refine j_dload_n (q := 0) (pc' := 1) C dJxe99ae_isNaN_b9ae7_0 rfl rfl rfl ?_
  refine j_dload_n (q := 0) (pc' := 2) C dJxe99ae_isNaN_b9ae7_1 rfl rfl rfl ?_
  refine j_dcmp (pc' := 3) C dJxe99ae_isNaN_b9ae7_2 rfl ?_
  refine j_if_eq (tgt := 10) (pc' := 6) C dJxe99ae_isNaN_b9ae7_3 rfl rfl (fun hc => ?_) (fun hc => ?_)
  · have hr := ifT hc hr
    clear hc
    refine j_iconst (v := 0) (pc' := 11) C dJxe99ae_isNaN_b9ae7_10 kI_0 rfl ?_
    have hr := Option.some.inj hr
    subst hr
    exact j_zret C hq hret rfl dJxe99ae_isNaN_b9ae7_11
  · have hr := ifF hc hr
    clear hc
    refine j_iconst (v := 1) (pc' := 7) C dJxe99ae_isNaN_b9ae7_6 kI_1 rfl ?_
    refine j_goto (tgt := 11) C dJxe99ae_isNaN_b9ae7_7 rfl ?_
    have hr := Option.some.inj hr
    subst hr
    exact j_zret C hq hret rfl dJxe99ae_isNaN_b9ae7_11
def m_Jxe99ae_doubleToLongBits_ccdee (p0 : UInt64) : Option (Int64) :=
  (m_Jxe99ae_isNaN_b9ae7 p0).bind fun zx1 =>
  if zx1 = 0 then
    some (UInt64.toInt64 p0)
  else
    some (9221120237041090560 : Int64)
set_option maxRecDepth 100000 in
set_option maxHeartbeats 4000000 in
theorem c_Jxe99ae_doubleToLongBits_ccdee {nx : Nat} {ce : Ce} {p0 : UInt64} {q : Int64} (hr : m_Jxe99ae_doubleToLongBits_ccdee p0 = some q) : Ct yJxe99ae_doubleToLongBits_ccdee cJxe99ae_doubleToLongBits_ccdee 2 (some .long) 1 60 0 0 [.double p0] nx ce (some (.long q)) ce := by
  unfold m_Jxe99ae_doubleToLongBits_ccdee at hr
  refine ct_of (by decide) (Nat.le_of_ble_eq_true rfl) ?_
  intro G C hq hret hin
  show Jd G 0 0 nx ce 0 [(0, .double p0)] []
  refine j_dload_n (q := 0) (pc' := 1) C dJxe99ae_doubleToLongBits_ccdee_0 rfl rfl rfl ?_
  obtain ⟨zx1, hzx1, hr⟩ := ob hr
  refine j_callS (As := [.double p0]) (rest := []) (st1 := [.int zx1]) (pc' := 4) C wm_2130 (c_Jxe99ae_isNaN_b9ae7 (nx := nx) (ce := ce) hzx1) yw_Jxe99ae_isNaN_b9ae7 wm_2129 rfl rfl (Nat.le_of_ble_eq_true rfl) ⟨by decide, by decide⟩ dJxe99ae_doubleToLongBits_ccdee_1 rfl rfl ?_
  refine j_if_ne (tgt := 12) (pc' := 7) C dJxe99ae_doubleToLongBits_ccdee_4 rfl rfl (fun hc => ?_) (fun hc => ?_)
  · have hr := ifF hc hr
    clear hc
    refine j_ldc2 (pc' := 15) C dJxe99ae_doubleToLongBits_ccdee_12 wm_2135 rfl ?_
    have hr := Option.some.inj hr
    subst hr
    exact j_lret C hq hret dJxe99ae_doubleToLongBits_ccdee_15
  · have hr := ifT hc hr
    clear hc
    refine j_dload_n (q := 0) (pc' := 8) C dJxe99ae_doubleToLongBits_ccdee_7 rfl rfl rfl ?_
    refine j_d2raw (pc' := 11) C dJxe99ae_doubleToLongBits_ccdee_8 wm_2132 wm_2134 wm_2133 wm_150 ⟨by decide, by decide⟩ (Nat.le_of_ble_eq_true rfl) rfl ?_
    have hr := Option.some.inj hr
    subst hr
    exact j_lret C hq hret dJxe99ae_doubleToLongBits_ccdee_11
def m_X12_mean (ce : Ce) (this : Nat) : Option (Int64) :=
  (gA ce 9 0 this).bind fun zx1 =>
  (aI ce zx1 (11 : Int32)).bind fun zx2 =>
  if zx2 = 0 then
    some (0 : Int64)
  else
    (gA ce 9 0 this).bind fun zx3 =>
    (aI ce zx3 (12 : Int32)).bind fun zx4 =>
    (gA ce 9 0 this).bind fun zx5 =>
    (aI ce zx5 (11 : Int32)).bind fun zx6 =>
    (dq (FP.ddiv (FP.i2d zx4) (FP.i2d zx6))).bind fun zx7 =>
    (m_Jxe99ae_doubleToLongBits_ccdee zx7).bind fun zx8 =>
    some zx8
set_option maxRecDepth 100000 in
set_option maxHeartbeats 4000000 in
theorem c_X12_mean {nx : Nat} {ce : Ce} {this : Nat} {q : Int64} (hr : m_X12_mean ce this = some q) : Ct yX12_mean cX12_mean 1 (some .long) 2 81 0 0 [.ref this] nx ce (some (.long q)) ce := by
  unfold m_X12_mean at hr
  refine ct_of (by decide) (Nat.le_of_ble_eq_true rfl) ?_
  intro G C hq hret hin
  show Jd G 0 0 nx ce 0 [(0, .ref this)] []
  refine j_aload_n (q := 0) (pc' := 1) C dX12_mean_0 rfl rfl rfl ?_
  obtain ⟨zx1, hzx1, hr⟩ := ob hr
  refine j_getA (pc' := 4) C dX12_mean_1 fl_X12_8 hzx1 rfl ?_
  refine j_bipush (v := 11) (pc' := 6) C dX12_mean_4 kB_11 rfl ?_
  obtain ⟨zx2, hzx2, hr⟩ := ob hr
  refine j_iald (pc' := 7) C dX12_mean_6 hzx2 rfl ?_
  refine j_if_ne (tgt := 14) (pc' := 10) C dX12_mean_7 rfl rfl (fun hc => ?_) (fun hc => ?_)
  · have hr := ifF hc hr
    clear hc
    refine j_aload_n (q := 0) (pc' := 15) C dX12_mean_14 rfl rfl rfl ?_
    obtain ⟨zx3, hzx3, hr⟩ := ob hr
    refine j_getA (pc' := 18) C dX12_mean_15 fl_X12_8 hzx3 rfl ?_
    refine j_bipush (v := 12) (pc' := 20) C dX12_mean_18 kB_12 rfl ?_
    obtain ⟨zx4, hzx4, hr⟩ := ob hr
    refine j_iald (pc' := 21) C dX12_mean_20 hzx4 rfl ?_
    refine j_i2d (pc' := 22) C dX12_mean_21 rfl ?_
    refine j_aload_n (q := 0) (pc' := 23) C dX12_mean_22 rfl rfl rfl ?_
    obtain ⟨zx5, hzx5, hr⟩ := ob hr
    refine j_getA (pc' := 26) C dX12_mean_23 fl_X12_8 hzx5 rfl ?_
    refine j_bipush (v := 11) (pc' := 28) C dX12_mean_26 kB_11 rfl ?_
    obtain ⟨zx6, hzx6, hr⟩ := ob hr
    refine j_iald (pc' := 29) C dX12_mean_28 hzx6 rfl ?_
    refine j_i2d (pc' := 30) C dX12_mean_29 rfl ?_
    obtain ⟨zx7, hzx7, hr⟩ := ob hr
    refine j_ddiv (pc' := 31) C dX12_mean_30 hzx7 rfl ?_
    obtain ⟨zx8, hzx8, hr⟩ := ob hr
    refine j_callS (As := [.double zx7]) (rest := []) (st1 := [.long zx8]) (pc' := 34) C wm_2127 (c_Jxe99ae_doubleToLongBits_ccdee (nx := nx) (ce := ce) hzx8) yw_Jxe99ae_doubleToLongBits_ccdee wm_2126 rfl rfl (Nat.le_of_ble_eq_true rfl) ⟨by decide, by decide⟩ dX12_mean_31 rfl rfl ?_
    have hr := Option.some.inj hr
    subst hr
    exact j_lret C hq hret dX12_mean_34
  · have hr := ifT hc hr
    clear hc
    refine j_lconst (v := 0) (pc' := 11) C dX12_mean_10 kL_0 rfl ?_
    refine j_goto (tgt := 34) C dX12_mean_11 rfl ?_
    have hr := Option.some.inj hr
    subst hr
    exact j_lret C hq hret dX12_mean_34
def m_X12_image (ce : Ce) (this : Nat) : Option (Int32 × Ce) :=
  (gA ce 9 0 this).bind fun zx1 =>
  (gA ce 9 1 this).bind fun zx2 =>
  (m_X12_copy ce zx1 zx2).bind fun zq3 =>
  (gA zq3.2 9 2 this).bind fun zx4 =>
  (gA zq3.2 9 3 this).bind fun zx5 =>
  (m_X12_copyFloats zq3.2 zx4 zx5).bind fun zq6 =>
  (gA zq6.2 9 0 this).bind fun zx7 =>
  (aI zq6.2 zx7 (5 : Int32)).bind fun zx8 =>
  some (zx8, zq6.2)
set_option maxRecDepth 100000 in
set_option maxHeartbeats 4000000 in
theorem c_X12_image {nx : Nat} {ce : Ce} {this : Nat} {q : Int32 × Ce} (hr : m_X12_image ce this = some q) : Ct yX12_image cX12_image 1 (some .int) 1 22 0 0 [.ref this] nx ce (some (.int q.1)) q.2 := by
  unfold m_X12_image at hr
  refine ct_of (by decide) (Nat.le_of_ble_eq_true rfl) ?_
  intro G C hq hret hin
  show Jd G 0 0 nx ce 0 [(0, .ref this)] []
  refine j_aload_n (q := 0) (pc' := 1) C dX12_image_0 rfl rfl rfl ?_
  obtain ⟨zx1, hzx1, hr⟩ := ob hr
  refine j_getA (pc' := 4) C dX12_image_1 fl_X12_8 hzx1 rfl ?_
  refine j_aload_n (q := 0) (pc' := 5) C dX12_image_4 rfl rfl rfl ?_
  obtain ⟨zx2, hzx2, hr⟩ := ob hr
  refine j_getA (pc' := 8) C dX12_image_5 fl_X12_14 hzx2 rfl ?_
  obtain ⟨zq3, hzq3, hr⟩ := ob hr
  refine j_callS (As := [.ref zx1, .ref zx2]) (rest := []) (st1 := []) (pc' := 11) C wm_1411 (c_X12_copy (nx := nx) hzq3) yw_X12_copy wm_1410 rfl rfl (Nat.le_of_ble_eq_true rfl) ⟨by decide, by decide⟩ dX12_image_8 rfl rfl ?_
  refine j_aload_n (q := 0) (pc' := 12) C dX12_image_11 rfl rfl rfl ?_
  obtain ⟨zx4, hzx4, hr⟩ := ob hr
  refine j_getA (pc' := 15) C dX12_image_12 fl_X12_17 hzx4 rfl ?_
  refine j_aload_n (q := 0) (pc' := 16) C dX12_image_15 rfl rfl rfl ?_
  obtain ⟨zx5, hzx5, hr⟩ := ob hr
  refine j_getA (pc' := 19) C dX12_image_16 fl_X12_21 hzx5 rfl ?_
  obtain ⟨zq6, hzq6, hr⟩ := ob hr
  refine j_callS (As := [.ref zx4, .ref zx5]) (rest := []) (st1 := []) (pc' := 22) C wm_1414 (c_X12_copyFloats (nx := nx) hzq6) yw_X12_copyFloats wm_1413 rfl rfl (Nat.le_of_ble_eq_true rfl) ⟨by decide, by decide⟩ dX12_image_19 rfl rfl ?_
  refine j_aload_n (q := 0) (pc' := 23) C dX12_image_22 rfl rfl rfl ?_
  obtain ⟨zx7, hzx7, hr⟩ := ob hr
  refine j_getA (pc' := 26) C dX12_image_23 fl_X12_8 hzx7 rfl ?_
  refine j_iconst (v := 5) (pc' := 27) C dX12_image_26 kI_5 rfl ?_
  obtain ⟨zx8, hzx8, hr⟩ := ob hr
  refine j_iald (pc' := 28) C dX12_image_27 hzx8 rfl ?_
  have hr := Option.some.inj hr
  subst hr
  exact j_iret C hq hret dX12_image_28
def m_X12_back (ce : Ce) (this : Nat) : Option (Int32 × Ce) :=
  (gA ce 9 1 this).bind fun zx1 =>
  (gA ce 9 0 this).bind fun zx2 =>
  (m_X12_copy ce zx1 zx2).bind fun zq3 =>
  (gA zq3.2 9 3 this).bind fun zx4 =>
  (gA zq3.2 9 2 this).bind fun zx5 =>
  (m_X12_copyFloats zq3.2 zx4 zx5).bind fun zq6 =>
  (gA zq6.2 9 0 this).bind fun zx7 =>
  (aI zq6.2 zx7 (5 : Int32)).bind fun zx8 =>
  some (zx8, zq6.2)
set_option maxRecDepth 100000 in
set_option maxHeartbeats 4000000 in
theorem c_X12_back {nx : Nat} {ce : Ce} {this : Nat} {q : Int32 × Ce} (hr : m_X12_back ce this = some q) : Ct yX12_back cX12_back 1 (some .int) 1 22 0 0 [.ref this] nx ce (some (.int q.1)) q.2 := by
  unfold m_X12_back at hr
  refine ct_of (by decide) (Nat.le_of_ble_eq_true rfl) ?_
  intro G C hq hret hin
  show Jd G 0 0 nx ce 0 [(0, .ref this)] []
  refine j_aload_n (q := 0) (pc' := 1) C dX12_back_0 rfl rfl rfl ?_
  obtain ⟨zx1, hzx1, hr⟩ := ob hr
  refine j_getA (pc' := 4) C dX12_back_1 fl_X12_14 hzx1 rfl ?_
  refine j_aload_n (q := 0) (pc' := 5) C dX12_back_4 rfl rfl rfl ?_
  obtain ⟨zx2, hzx2, hr⟩ := ob hr
  refine j_getA (pc' := 8) C dX12_back_5 fl_X12_8 hzx2 rfl ?_
  obtain ⟨zq3, hzq3, hr⟩ := ob hr
  refine j_callS (As := [.ref zx1, .ref zx2]) (rest := []) (st1 := []) (pc' := 11) C wm_1411 (c_X12_copy (nx := nx) hzq3) yw_X12_copy wm_1410 rfl rfl (Nat.le_of_ble_eq_true rfl) ⟨by decide, by decide⟩ dX12_back_8 rfl rfl ?_
  refine j_aload_n (q := 0) (pc' := 12) C dX12_back_11 rfl rfl rfl ?_
  obtain ⟨zx4, hzx4, hr⟩ := ob hr
  refine j_getA (pc' := 15) C dX12_back_12 fl_X12_21 hzx4 rfl ?_
  refine j_aload_n (q := 0) (pc' := 16) C dX12_back_15 rfl rfl rfl ?_
  obtain ⟨zx5, hzx5, hr⟩ := ob hr
  refine j_getA (pc' := 19) C dX12_back_16 fl_X12_17 hzx5 rfl ?_
  obtain ⟨zq6, hzq6, hr⟩ := ob hr
  refine j_callS (As := [.ref zx4, .ref zx5]) (rest := []) (st1 := []) (pc' := 22) C wm_1414 (c_X12_copyFloats (nx := nx) hzq6) yw_X12_copyFloats wm_1413 rfl rfl (Nat.le_of_ble_eq_true rfl) ⟨by decide, by decide⟩ dX12_back_19 rfl rfl ?_
  refine j_aload_n (q := 0) (pc' := 23) C dX12_back_22 rfl rfl rfl ?_
  obtain ⟨zx7, hzx7, hr⟩ := ob hr
  refine j_getA (pc' := 26) C dX12_back_23 fl_X12_8 hzx7 rfl ?_
  refine j_iconst (v := 5) (pc' := 27) C dX12_back_26 kI_5 rfl ?_
  obtain ⟨zx8, hzx8, hr⟩ := ob hr
  refine j_iald (pc' := 28) C dX12_back_27 hzx8 rfl ?_
  have hr := Option.some.inj hr
  subst hr
  exact j_iret C hq hret dX12_back_28
def m_X12_about (ce : Ce) (this : Nat) (p1 : Int32) : Option (Int32) :=
  if p1 = (0 : Int32) then
    (gA ce 9 0 this).bind fun zx1 =>
    (aI ce zx1 (0 : Int32)).bind fun zx2 =>
    some zx2
  else
  if p1 = (1 : Int32) then
    (gA ce 9 0 this).bind fun zx3 =>
    (aI ce zx3 (1 : Int32)).bind fun zx4 =>
    some zx4
  else
  if p1 = (2 : Int32) then
    (gA ce 9 0 this).bind fun zx5 =>
    (aI ce zx5 (16 : Int32)).bind fun zx6 =>
    some zx6
  else
  if p1 = (3 : Int32) then
    (gI ce 9 7 this).bind fun zx7 =>
    some zx7
  else
  if p1 = (4 : Int32) then
    (gA ce 9 0 this).bind fun zx8 =>
    (aI ce zx8 (15 : Int32)).bind fun zx9 =>
    some zx9
  else
  some (-2 : Int32)
set_option maxRecDepth 100000 in
set_option maxHeartbeats 4000000 in
theorem c_X12_about {nx : Nat} {ce : Ce} {this : Nat} {p1 : Int32} {q : Int32} (hr : m_X12_about ce this p1 = some q) : Ct yX12_about cX12_about 2 (some .int) 0 0 0 0 [.ref this, .int p1] nx ce (some (.int q)) ce := by
  unfold m_X12_about at hr
  refine ct_of (by decide) (Nat.le_of_ble_eq_true rfl) ?_
  intro G C hq hret hin
  show Jd G 0 0 nx ce 0 [(0, .ref this), (1, .int p1)] []
  refine j_iload_n (q := 1) (pc' := 1) C dX12_about_0 rfl rfl rfl ?_
  by_cases hc0 : p1 = (0 : Int32)
  · have hr := ifT hc0 hr
    refine j_tabIn (v := 0) (off := 35) (tgt := 36) C dX12_about_1 hc0 (by decide) rfl ?_
    refine j_aload_n (q := 0) (pc' := 37) C dX12_about_36 rfl rfl rfl ?_
    obtain ⟨zx1, hzx1, hr⟩ := ob hr
    refine j_getA (pc' := 40) C dX12_about_37 fl_X12_8 hzx1 rfl ?_
    refine j_iconst (v := 0) (pc' := 41) C dX12_about_40 kI_0 rfl ?_
    obtain ⟨zx2, hzx2, hr⟩ := ob hr
    refine j_iald (pc' := 42) C dX12_about_41 hzx2 rfl ?_
    have hr := Option.some.inj hr
    subst hr
    exact j_iret C hq hret dX12_about_42
  have hr := ifF hc0 hr
  by_cases hc1 : p1 = (1 : Int32)
  · have hr := ifT hc1 hr
    refine j_tabIn (v := 1) (off := 42) (tgt := 43) C dX12_about_1 hc1 (by decide) rfl ?_
    refine j_aload_n (q := 0) (pc' := 44) C dX12_about_43 rfl rfl rfl ?_
    obtain ⟨zx3, hzx3, hr⟩ := ob hr
    refine j_getA (pc' := 47) C dX12_about_44 fl_X12_8 hzx3 rfl ?_
    refine j_iconst (v := 1) (pc' := 48) C dX12_about_47 kI_1 rfl ?_
    obtain ⟨zx4, hzx4, hr⟩ := ob hr
    refine j_iald (pc' := 49) C dX12_about_48 hzx4 rfl ?_
    have hr := Option.some.inj hr
    subst hr
    exact j_iret C hq hret dX12_about_49
  have hr := ifF hc1 hr
  by_cases hc2 : p1 = (2 : Int32)
  · have hr := ifT hc2 hr
    refine j_tabIn (v := 2) (off := 49) (tgt := 50) C dX12_about_1 hc2 (by decide) rfl ?_
    refine j_aload_n (q := 0) (pc' := 51) C dX12_about_50 rfl rfl rfl ?_
    obtain ⟨zx5, hzx5, hr⟩ := ob hr
    refine j_getA (pc' := 54) C dX12_about_51 fl_X12_8 hzx5 rfl ?_
    refine j_bipush (v := 16) (pc' := 56) C dX12_about_54 kB_16 rfl ?_
    obtain ⟨zx6, hzx6, hr⟩ := ob hr
    refine j_iald (pc' := 57) C dX12_about_56 hzx6 rfl ?_
    have hr := Option.some.inj hr
    subst hr
    exact j_iret C hq hret dX12_about_57
  have hr := ifF hc2 hr
  by_cases hc3 : p1 = (3 : Int32)
  · have hr := ifT hc3 hr
    refine j_tabIn (v := 3) (off := 57) (tgt := 58) C dX12_about_1 hc3 (by decide) rfl ?_
    refine j_aload_n (q := 0) (pc' := 59) C dX12_about_58 rfl rfl rfl ?_
    obtain ⟨zx7, hzx7, hr⟩ := ob hr
    refine j_getI (pc' := 62) C dX12_about_59 fl_X12_124 hzx7 rfl ?_
    have hr := Option.some.inj hr
    subst hr
    exact j_iret C hq hret dX12_about_62
  have hr := ifF hc3 hr
  by_cases hc4 : p1 = (4 : Int32)
  · have hr := ifT hc4 hr
    refine j_tabIn (v := 4) (off := 62) (tgt := 63) C dX12_about_1 hc4 (by decide) rfl ?_
    refine j_aload_n (q := 0) (pc' := 64) C dX12_about_63 rfl rfl rfl ?_
    obtain ⟨zx8, hzx8, hr⟩ := ob hr
    refine j_getA (pc' := 67) C dX12_about_64 fl_X12_8 hzx8 rfl ?_
    refine j_bipush (v := 15) (pc' := 69) C dX12_about_67 kB_15 rfl ?_
    obtain ⟨zx9, hzx9, hr⟩ := ob hr
    refine j_iald (pc' := 70) C dX12_about_69 hzx9 rfl ?_
    have hr := Option.some.inj hr
    subst hr
    exact j_iret C hq hret dX12_about_70
  have hr := ifF hc4 hr
  refine j_tabOut (tgt := 71) C dX12_about_1 (tab_out 5 (by decide) (by decide) (by decide) (fun i hi => by
    match i, hi with
    | 0, _ => exact hc0
    | 1, _ => exact hc1
    | 2, _ => exact hc2
    | 3, _ => exact hc3
    | 4, _ => exact hc4
    | i + 5, hi => omega)) rfl ?_
  refine j_bipush (v := -2) (pc' := 73) C dX12_about_71 kB_m2 rfl ?_
  have hr := Option.some.inj hr
  subst hr
  exact j_iret C hq hret dX12_about_73
