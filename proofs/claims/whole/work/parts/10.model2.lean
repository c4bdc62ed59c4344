def m_X12_stepNow (ce : Ce) (this : Nat) : Option (Unit × Ce) :=
  (gA ce 9 0 this).bind fun zx1 =>
  (aI ce zx1 (11 : Int32)).bind fun zx2 =>
  (sI ce zx1 (11 : Int32) (zx2 + (1 : Int32))).bind fun zc3 =>
  (gA zc3 9 0 this).bind fun zx4 =>
  (aI zc3 zx4 (5 : Int32)).bind fun zx5 =>
  if zx5 = 0 then
    (rcv zc3 9 this).bind fun zz12 =>
    (m_X12_seek zc3 this).bind fun zq13 =>
    some ((), zq13.2)
  else
    (gA zc3 9 0 this).bind fun zx6 =>
    (aI zc3 zx6 (5 : Int32)).bind fun zx7 =>
    if zx7 = (1 : Int32) then
      (rcv zc3 9 this).bind fun zz10 =>
      (m_X12_obligeOne zc3 this).bind fun zq11 =>
      some ((), zq11.2)
    else
      (rcv zc3 9 this).bind fun zz8 =>
      (m_X12_pushAll zc3 this).bind fun zq9 =>
      some ((), zq9.2)
set_option maxRecDepth 100000 in
set_option maxHeartbeats 4000000 in
theorem c_X12_stepNow {nx : Nat} {ce : Ce} {this : Nat} {q : Unit × Ce} (hr : m_X12_stepNow ce this = some q) : Ct yX12_stepNow cX12_stepNow 1 none 10 230 0 0 [.ref this] nx ce none q.2 := by
  unfold m_X12_stepNow at hr
  refine ct_of (by decide) (Nat.le_of_ble_eq_true rfl) ?_
  intro G C hq hret hin
  show Jd G 0 0 nx ce 0 [(0, .ref this)] []
  refine j_aload_n (q := 0) (pc' := 1) C dX12_stepNow_0 rfl rfl rfl ?_
  obtain ⟨zx1, hzx1, hr⟩ := ob hr
  refine j_getA (pc' := 4) C dX12_stepNow_1 fl_X12_8 hzx1 rfl ?_
  refine j_bipush (v := 11) (pc' := 6) C dX12_stepNow_4 kB_11 rfl ?_
  refine j_dup2 (pc' := 7) C dX12_stepNow_6 rfl rfl rfl ?_
  obtain ⟨zx2, hzx2, hr⟩ := ob hr
  refine j_iald (pc' := 8) C dX12_stepNow_7 hzx2 rfl ?_
  refine j_iconst (v := 1) (pc' := 9) C dX12_stepNow_8 kI_1 rfl ?_
  refine j_iadd (pc' := 10) C dX12_stepNow_9 rfl ?_
  obtain ⟨zc3, hzc3, hr⟩ := ob hr
  refine j_iast (pc' := 11) C dX12_stepNow_10 hzc3 rfl ?_
  refine j_aload_n (q := 0) (pc' := 12) C dX12_stepNow_11 rfl rfl rfl ?_
  obtain ⟨zx4, hzx4, hr⟩ := ob hr
  refine j_getA (pc' := 15) C dX12_stepNow_12 fl_X12_8 hzx4 rfl ?_
  refine j_iconst (v := 5) (pc' := 16) C dX12_stepNow_15 kI_5 rfl ?_
  obtain ⟨zx5, hzx5, hr⟩ := ob hr
  refine j_iald (pc' := 17) C dX12_stepNow_16 hzx5 rfl ?_
  refine j_if_ne (tgt := 27) (pc' := 20) C dX12_stepNow_17 rfl rfl (fun hc => ?_) (fun hc => ?_)
  · have hr := ifF hc hr
    clear hc
    refine j_aload_n (q := 0) (pc' := 28) C dX12_stepNow_27 rfl rfl rfl ?_
    obtain ⟨zx6, hzx6, hr⟩ := ob hr
    refine j_getA (pc' := 31) C dX12_stepNow_28 fl_X12_8 hzx6 rfl ?_
    refine j_iconst (v := 5) (pc' := 32) C dX12_stepNow_31 kI_5 rfl ?_
    obtain ⟨zx7, hzx7, hr⟩ := ob hr
    refine j_iald (pc' := 33) C dX12_stepNow_32 hzx7 rfl ?_
    refine j_iconst (v := 1) (pc' := 34) C dX12_stepNow_33 kI_1 rfl ?_
    refine j_ic_ne (tgt := 44) (pc' := 37) C dX12_stepNow_34 rfl rfl (fun hc => ?_) (fun hc => ?_)
    · have hr := ifF hc hr
      clear hc
      refine j_aload_n (q := 0) (pc' := 45) C dX12_stepNow_44 rfl rfl rfl ?_
      obtain ⟨zz8, hzz8, hr⟩ := ob hr
      obtain ⟨zq9, hzq9, hr⟩ := ob hr
      obtain ⟨fhzz8, hzz8⟩ := rcv_sp hzz8
      refine j_callV (ci := 9) (As := []) (rest := []) (st1 := []) (pc' := 48) C ⟨wm_1819, wm_94⟩ rfl hzz8 (c_X12_pushAll (nx := nx) hzq9) yw_X12_pushAll wm_1817 rfl rfl (Nat.le_of_ble_eq_true rfl) ⟨by decide, by decide⟩ dX12_stepNow_45 rfl rfl ?_
      have hr := Option.some.inj hr
      subst hr
      exact j_vret C hq hret dX12_stepNow_48
    · have hr := ifT hc hr
      clear hc
      refine j_aload_n (q := 0) (pc' := 38) C dX12_stepNow_37 rfl rfl rfl ?_
      obtain ⟨zz10, hzz10, hr⟩ := ob hr
      obtain ⟨zq11, hzq11, hr⟩ := ob hr
      obtain ⟨fhzz10, hzz10⟩ := rcv_sp hzz10
      refine j_callV (ci := 9) (As := []) (rest := []) (st1 := []) (pc' := 41) C ⟨wm_1737, wm_75⟩ rfl hzz10 (c_X12_obligeOne (nx := nx) hzq11) yw_X12_obligeOne wm_1735 rfl rfl (Nat.le_of_ble_eq_true rfl) ⟨by decide, by decide⟩ dX12_stepNow_38 rfl rfl ?_
      refine j_goto (tgt := 48) C dX12_stepNow_41 rfl ?_
      have hr := Option.some.inj hr
      subst hr
      exact j_vret C hq hret dX12_stepNow_48
  · have hr := ifT hc hr
    clear hc
    refine j_aload_n (q := 0) (pc' := 21) C dX12_stepNow_20 rfl rfl rfl ?_
    obtain ⟨zz12, hzz12, hr⟩ := ob hr
    obtain ⟨zq13, hzq13, hr⟩ := ob hr
    obtain ⟨fhzz12, hzz12⟩ := rcv_sp hzz12
    refine j_callV (ci := 9) (As := []) (rest := []) (st1 := []) (pc' := 24) C ⟨wm_1693, wm_65⟩ rfl hzz12 (c_X12_seek (nx := nx) hzq13) yw_X12_seek wm_1691 rfl rfl (Nat.le_of_ble_eq_true rfl) ⟨by decide, by decide⟩ dX12_stepNow_21 rfl rfl ?_
    refine j_goto (tgt := 48) C dX12_stepNow_24 rfl ?_
    have hr := Option.some.inj hr
    subst hr
    exact j_vret C hq hret dX12_stepNow_48
def m_X12_stepsNow (ce : Ce) (this : Nat) (p1 : Int32) : Option (Int32 × Ce) :=
  (it (fun (zs1 : Int32 × Ce) =>
    if p1 ≤ zs1.1 then
      some (Sum.inr (zs1.1, zs1.2))
    else
      (rcv zs1.2 9 this).bind fun zz4 =>
      (m_X12_isOver zs1.2 this).bind fun zx5 =>
      if zx5 = 0 then
        (rcv zs1.2 9 this).bind fun zz6 =>
        (m_X12_stepNow zs1.2 this).bind fun zq7 =>
        some (Sum.inl ((zs1.1 + (1 : Int32)), zq7.2))
      else
        some (Sum.inr (zs1.1, zs1.2))
  ) FU ((0 : Int32), ce)).bind fun (zo2 : Int32 × Ce) =>
  some (zo2.1, zo2.2)
set_option maxRecDepth 100000 in
set_option maxHeartbeats 4000000 in
theorem c_X12_stepsNow {nx : Nat} {ce : Ce} {this : Nat} {p1 : Int32} {q : Int32 × Ce} (hr : m_X12_stepsNow ce this p1 = some q) : Ct yX12_stepsNow cX12_stepsNow 3 (some .int) 11 250 0 0 [.ref this, .int p1] nx ce (some (.int q.1)) q.2 := by
  unfold m_X12_stepsNow at hr
  refine ct_of (by decide) (Nat.le_of_ble_eq_true rfl) ?_
  intro G C hq hret hin
  show Jd G 0 0 nx ce 0 [(0, .ref this), (1, .int p1)] []
  refine j_iconst (v := 0) (pc' := 1) C dX12_stepsNow_0 kI_0 rfl ?_
  refine j_istore_n (lv' := [(2, .int (0 : Int32)), (0, .ref this), (1, .int p1)]) (pc' := 2) C dX12_stepsNow_1 rfl (by decide) rfl rfl ?_
  obtain ⟨zo2, hzo2, rzo2⟩ := ob hr
  have kzo2 : Jd G 0 0 nx zo2.2 24 [(2, .int zo2.1)] [] := by
    have hr := rzo2
    refine j_iload_n (q := 0) (pc' := 25) C dX12_stepsNow_24 rfl rfl rfl ?_
    have hr := Option.some.inj hr
    subst hr
    exact j_iret C hq hret dX12_stepsNow_25
  refine j_lv (lv' := [(0, .ref this), (1, .int p1), (2, .int (0 : Int32))]) [1, 2, 0] rfl ?_
  refine it_J (J := (fun (zs1 : Int32 × Ce) => Jd G 0 0 nx zs1.2 2 [(0, .ref this), (1, .int p1), (2, .int zs1.1)] [])) ?_ hzo2
  clear hzo2
  intro zs1 zr3 hr izs1 ezs1
  refine j_iload_n (q := 2) (pc' := 3) C dX12_stepsNow_2 rfl rfl rfl ?_
  refine j_iload_n (q := 1) (pc' := 4) C dX12_stepsNow_3 rfl rfl rfl ?_
  refine j_ic_ge (tgt := 24) (pc' := 7) C dX12_stepsNow_4 rfl rfl (fun hc => ?_) (fun hc => ?_)
  · have hr := ifT hc hr
    clear hc
    have hr := ezs1 _ (Option.some.inj hr).symm
    subst hr
    exact j_lv [2] rfl kzo2
  · have hr := ifF hc hr
    clear hc
    refine j_aload_n (q := 0) (pc' := 8) C dX12_stepsNow_7 rfl rfl rfl ?_
    obtain ⟨zz4, hzz4, hr⟩ := ob hr
    obtain ⟨zx5, hzx5, hr⟩ := ob hr
    obtain ⟨fhzz4, hzz4⟩ := rcv_sp hzz4
    refine j_callV (ci := 9) (As := []) (rest := []) (st1 := [.int zx5]) (pc' := 11) C ⟨wm_1681, wm_62⟩ rfl hzz4 (c_X12_isOver (nx := nx) hzx5) yw_X12_isOver wm_1679 rfl rfl (Nat.le_of_ble_eq_true rfl) ⟨by decide, by decide⟩ dX12_stepsNow_8 rfl rfl ?_
    refine j_if_ne (tgt := 24) (pc' := 14) C dX12_stepsNow_11 rfl rfl (fun hc => ?_) (fun hc => ?_)
    · have hr := ifF hc hr
      clear hc
      have hr := ezs1 _ (Option.some.inj hr).symm
      subst hr
      exact j_lv [2] rfl kzo2
    · have hr := ifT hc hr
      clear hc
      refine j_aload_n (q := 0) (pc' := 15) C dX12_stepsNow_14 rfl rfl rfl ?_
      obtain ⟨zz6, hzz6, hr⟩ := ob hr
      obtain ⟨zq7, hzq7, hr⟩ := ob hr
      obtain ⟨fhzz6, hzz6⟩ := rcv_sp hzz6
      refine j_callV (ci := 9) (As := []) (rest := []) (st1 := []) (pc' := 18) C ⟨wm_1689, wm_64⟩ rfl hzz6 (c_X12_stepNow (nx := nx) hzq7) yw_X12_stepNow wm_1687 rfl rfl (Nat.le_of_ble_eq_true rfl) ⟨by decide, by decide⟩ dX12_stepsNow_15 rfl rfl ?_
      refine j_iinc (q := 2) (v := 1) (lv' := [(2, .int (zs1.1 + (1 : Int32))), (0, .ref this), (1, .int p1)]) (pc' := 21) C dX12_stepsNow_18 rfl kI_1 (by decide) rfl rfl ?_
      refine j_goto (tgt := 2) C dX12_stepsNow_21 rfl ?_
      have hr := izs1 ((zs1.1 + (1 : Int32)), zq7.2) (Option.some.inj hr).symm
      exact j_lv [1, 2, 0] rfl hr
def m_X12_putAside (ce : Ce) (this : Nat) : Option (Unit × Ce) :=
  (it (fun (zs1 : Int32 × Ce) =>
    if (5421 : Int32) ≤ zs1.1 then
      some (Sum.inr ((), zs1.2))
    else
      (gA zs1.2 9 25 this).bind fun zx11 =>
      (gA zs1.2 9 0 this).bind fun zx12 =>
      (aI zs1.2 zx12 ((3 : Int32) + zs1.1)).bind fun zx13 =>
      (sI zs1.2 zx11 zs1.1 zx13).bind fun zc14 =>
      some (Sum.inl ((zs1.1 + (1 : Int32)), zc14))
  ) FU ((0 : Int32), ce)).bind fun (zo2 : Unit × Ce) =>
  (it (fun (zs4 : Int32 × Ce) =>
    if (7 : Int32) ≤ zs4.1 then
      some (Sum.inr ((), zs4.2))
    else
      (gA zs4.2 9 26 this).bind fun zx7 =>
      (gA zs4.2 9 2 this).bind fun zx8 =>
      (aG zs4.2 zx8 zs4.1).bind fun zx9 =>
      (sG zs4.2 zx7 zs4.1 zx9).bind fun zc10 =>
      some (Sum.inl ((zs4.1 + (1 : Int32)), zc10))
  ) FU ((0 : Int32), zo2.2)).bind fun (zo5 : Unit × Ce) =>
  some ((), zo5.2)
set_option maxRecDepth 100000 in
set_option maxHeartbeats 4000000 in
theorem c_X12_putAside {nx : Nat} {ce : Ce} {this : Nat} {q : Unit × Ce} (hr : m_X12_putAside ce this = some q) : Ct yX12_putAside cX12_putAside 2 none 0 0 0 0 [.ref this] nx ce none q.2 := by
  unfold m_X12_putAside at hr
  refine ct_of (by decide) (Nat.le_of_ble_eq_true rfl) ?_
  intro G C hq hret hin
  show Jd G 0 0 nx ce 0 [(0, .ref this)] []
  refine j_iconst (v := 0) (pc' := 1) C dX12_putAside_0 kI_0 rfl ?_
  refine j_istore_n (lv' := [(1, .int (0 : Int32)), (0, .ref this)]) (pc' := 2) C dX12_putAside_1 rfl (by decide) rfl rfl ?_
  obtain ⟨zo2, hzo2, rzo2⟩ := ob hr
  have kzo2 : Jd G 0 0 nx zo2.2 29 [(0, .ref this)] [] := by
    have hr := rzo2
    refine j_iconst (v := 0) (pc' := 30) C dX12_putAside_29 kI_0 rfl ?_
    refine j_istore_n (lv' := [(1, .int (0 : Int32)), (0, .ref this)]) (pc' := 31) C dX12_putAside_30 rfl (by decide) rfl rfl ?_
    obtain ⟨zo5, hzo5, rzo5⟩ := ob hr
    have kzo5 : Jd G 0 0 nx zo5.2 55 [] [] := by
      have hr := rzo5
      have hr := Option.some.inj hr
      subst hr
      exact j_vret C hq hret dX12_putAside_55
    refine j_lv (lv' := [(0, .ref this), (1, .int (0 : Int32))]) [1, 0] rfl ?_
    refine it_J (J := (fun (zs4 : Int32 × Ce) => Jd G 0 0 nx zs4.2 31 [(0, .ref this), (1, .int zs4.1)] [])) ?_ hzo5
    clear hzo5
    intro zs4 zr6 hr izs4 ezs4
    refine j_iload_n (q := 1) (pc' := 32) C dX12_putAside_31 rfl rfl rfl ?_
    refine j_bipush (v := 7) (pc' := 34) C dX12_putAside_32 kB_7 rfl ?_
    refine j_ic_ge (tgt := 55) (pc' := 37) C dX12_putAside_34 rfl rfl (fun hc => ?_) (fun hc => ?_)
    · have hr := ifT hc hr
      clear hc
      have hr := ezs4 _ (Option.some.inj hr).symm
      subst hr
      exact j_lv [] rfl kzo5
    · have hr := ifF hc hr
      clear hc
      refine j_aload_n (q := 0) (pc' := 38) C dX12_putAside_37 rfl rfl rfl ?_
      obtain ⟨zx7, hzx7, hr⟩ := ob hr
      refine j_getA (pc' := 41) C dX12_putAside_38 fl_X12_56 hzx7 rfl ?_
      refine j_iload_n (q := 1) (pc' := 42) C dX12_putAside_41 rfl rfl rfl ?_
      refine j_aload_n (q := 0) (pc' := 43) C dX12_putAside_42 rfl rfl rfl ?_
      obtain ⟨zx8, hzx8, hr⟩ := ob hr
      refine j_getA (pc' := 46) C dX12_putAside_43 fl_X12_17 hzx8 rfl ?_
      refine j_iload_n (q := 1) (pc' := 47) C dX12_putAside_46 rfl rfl rfl ?_
      obtain ⟨zx9, hzx9, hr⟩ := ob hr
      refine j_fald (pc' := 48) C dX12_putAside_47 hzx9 rfl ?_
      obtain ⟨zc10, hzc10, hr⟩ := ob hr
      refine j_fast (pc' := 49) C dX12_putAside_48 hzc10 rfl ?_
      refine j_iinc (q := 1) (v := 1) (lv' := [(1, .int (zs4.1 + (1 : Int32))), (0, .ref this)]) (pc' := 52) C dX12_putAside_49 rfl kI_1 (by decide) rfl rfl ?_
      refine j_goto (tgt := 31) C dX12_putAside_52 rfl ?_
      have hr := izs4 ((zs4.1 + (1 : Int32)), zc10) (Option.some.inj hr).symm
      exact j_lv [1, 0] rfl hr
  refine j_lv (lv' := [(0, .ref this), (1, .int (0 : Int32))]) [1, 0] rfl ?_
  refine it_J (J := (fun (zs1 : Int32 × Ce) => Jd G 0 0 nx zs1.2 2 [(0, .ref this), (1, .int zs1.1)] [])) ?_ hzo2
  clear hzo2
  intro zs1 zr3 hr izs1 ezs1
  refine j_iload_n (q := 1) (pc' := 3) C dX12_putAside_2 rfl rfl rfl ?_
  refine j_sipush (v := 5421) (pc' := 6) C dX12_putAside_3 kS_5421 rfl ?_
  refine j_ic_ge (tgt := 29) (pc' := 9) C dX12_putAside_6 rfl rfl (fun hc => ?_) (fun hc => ?_)
  · have hr := ifT hc hr
    clear hc
    have hr := ezs1 _ (Option.some.inj hr).symm
    subst hr
    exact j_lv [0] rfl kzo2
  · have hr := ifF hc hr
    clear hc
    refine j_aload_n (q := 0) (pc' := 10) C dX12_putAside_9 rfl rfl rfl ?_
    obtain ⟨zx11, hzx11, hr⟩ := ob hr
    refine j_getA (pc' := 13) C dX12_putAside_10 fl_X12_53 hzx11 rfl ?_
    refine j_iload_n (q := 1) (pc' := 14) C dX12_putAside_13 rfl rfl rfl ?_
    refine j_aload_n (q := 0) (pc' := 15) C dX12_putAside_14 rfl rfl rfl ?_
    obtain ⟨zx12, hzx12, hr⟩ := ob hr
    refine j_getA (pc' := 18) C dX12_putAside_15 fl_X12_8 hzx12 rfl ?_
    refine j_iconst (v := 3) (pc' := 19) C dX12_putAside_18 kI_3 rfl ?_
    refine j_iload_n (q := 1) (pc' := 20) C dX12_putAside_19 rfl rfl rfl ?_
    refine j_iadd (pc' := 21) C dX12_putAside_20 rfl ?_
    obtain ⟨zx13, hzx13, hr⟩ := ob hr
    refine j_iald (pc' := 22) C dX12_putAside_21 hzx13 rfl ?_
    obtain ⟨zc14, hzc14, hr⟩ := ob hr
    refine j_iast (pc' := 23) C dX12_putAside_22 hzc14 rfl ?_
    refine j_iinc (q := 1) (v := 1) (lv' := [(1, .int (zs1.1 + (1 : Int32))), (0, .ref this)]) (pc' := 26) C dX12_putAside_23 rfl kI_1 (by decide) rfl rfl ?_
    refine j_goto (tgt := 2) C dX12_putAside_26 rfl ?_
    have hr := izs1 ((zs1.1 + (1 : Int32)), zc14) (Option.some.inj hr).symm
    exact j_lv [1, 0] rfl hr
def m_X12_bringBack (ce : Ce) (this : Nat) : Option (Unit × Ce) :=
  (it (fun (zs1 : Int32 × Ce) =>
    if (5421 : Int32) ≤ zs1.1 then
      some (Sum.inr ((), zs1.2))
    else
      (gA zs1.2 9 0 this).bind fun zx11 =>
      (gA zs1.2 9 25 this).bind fun zx12 =>
      (aI zs1.2 zx12 zs1.1).bind fun zx13 =>
      (sI zs1.2 zx11 ((3 : Int32) + zs1.1) zx13).bind fun zc14 =>
      some (Sum.inl ((zs1.1 + (1 : Int32)), zc14))
  ) FU ((0 : Int32), ce)).bind fun (zo2 : Unit × Ce) =>
  (it (fun (zs4 : Int32 × Ce) =>
    if (7 : Int32) ≤ zs4.1 then
      some (Sum.inr ((), zs4.2))
    else
      (gA zs4.2 9 2 this).bind fun zx7 =>
      (gA zs4.2 9 26 this).bind fun zx8 =>
      (aG zs4.2 zx8 zs4.1).bind fun zx9 =>
      (sG zs4.2 zx7 zs4.1 zx9).bind fun zc10 =>
      some (Sum.inl ((zs4.1 + (1 : Int32)), zc10))
  ) FU ((0 : Int32), zo2.2)).bind fun (zo5 : Unit × Ce) =>
  some ((), zo5.2)
set_option maxRecDepth 100000 in
set_option maxHeartbeats 4000000 in
theorem c_X12_bringBack {nx : Nat} {ce : Ce} {this : Nat} {q : Unit × Ce} (hr : m_X12_bringBack ce this = some q) : Ct yX12_bringBack cX12_bringBack 2 none 0 0 0 0 [.ref this] nx ce none q.2 := by
  unfold m_X12_bringBack at hr
  refine ct_of (by decide) (Nat.le_of_ble_eq_true rfl) ?_
  intro G C hq hret hin
  show Jd G 0 0 nx ce 0 [(0, .ref this)] []
  refine j_iconst (v := 0) (pc' := 1) C dX12_bringBack_0 kI_0 rfl ?_
  refine j_istore_n (lv' := [(1, .int (0 : Int32)), (0, .ref this)]) (pc' := 2) C dX12_bringBack_1 rfl (by decide) rfl rfl ?_
  obtain ⟨zo2, hzo2, rzo2⟩ := ob hr
  have kzo2 : Jd G 0 0 nx zo2.2 29 [(0, .ref this)] [] := by
    have hr := rzo2
    refine j_iconst (v := 0) (pc' := 30) C dX12_bringBack_29 kI_0 rfl ?_
    refine j_istore_n (lv' := [(1, .int (0 : Int32)), (0, .ref this)]) (pc' := 31) C dX12_bringBack_30 rfl (by decide) rfl rfl ?_
    obtain ⟨zo5, hzo5, rzo5⟩ := ob hr
    have kzo5 : Jd G 0 0 nx zo5.2 55 [] [] := by
      have hr := rzo5
      have hr := Option.some.inj hr
      subst hr
      exact j_vret C hq hret dX12_bringBack_55
    refine j_lv (lv' := [(0, .ref this), (1, .int (0 : Int32))]) [1, 0] rfl ?_
    refine it_J (J := (fun (zs4 : Int32 × Ce) => Jd G 0 0 nx zs4.2 31 [(0, .ref this), (1, .int zs4.1)] [])) ?_ hzo5
    clear hzo5
    intro zs4 zr6 hr izs4 ezs4
    refine j_iload_n (q := 1) (pc' := 32) C dX12_bringBack_31 rfl rfl rfl ?_
    refine j_bipush (v := 7) (pc' := 34) C dX12_bringBack_32 kB_7 rfl ?_
    refine j_ic_ge (tgt := 55) (pc' := 37) C dX12_bringBack_34 rfl rfl (fun hc => ?_) (fun hc => ?_)
    · have hr := ifT hc hr
      clear hc
      have hr := ezs4 _ (Option.some.inj hr).symm
      subst hr
      exact j_lv [] rfl kzo5
    · have hr := ifF hc hr
      clear hc
      refine j_aload_n (q := 0) (pc' := 38) C dX12_bringBack_37 rfl rfl rfl ?_
      obtain ⟨zx7, hzx7, hr⟩ := ob hr
      refine j_getA (pc' := 41) C dX12_bringBack_38 fl_X12_17 hzx7 rfl ?_
      refine j_iload_n (q := 1) (pc' := 42) C dX12_bringBack_41 rfl rfl rfl ?_
      refine j_aload_n (q := 0) (pc' := 43) C dX12_bringBack_42 rfl rfl rfl ?_
      obtain ⟨zx8, hzx8, hr⟩ := ob hr
      refine j_getA (pc' := 46) C dX12_bringBack_43 fl_X12_56 hzx8 rfl ?_
      refine j_iload_n (q := 1) (pc' := 47) C dX12_bringBack_46 rfl rfl rfl ?_
      obtain ⟨zx9, hzx9, hr⟩ := ob hr
      refine j_fald (pc' := 48) C dX12_bringBack_47 hzx9 rfl ?_
      obtain ⟨zc10, hzc10, hr⟩ := ob hr
      refine j_fast (pc' := 49) C dX12_bringBack_48 hzc10 rfl ?_
      refine j_iinc (q := 1) (v := 1) (lv' := [(1, .int (zs4.1 + (1 : Int32))), (0, .ref this)]) (pc' := 52) C dX12_bringBack_49 rfl kI_1 (by decide) rfl rfl ?_
      refine j_goto (tgt := 31) C dX12_bringBack_52 rfl ?_
      have hr := izs4 ((zs4.1 + (1 : Int32)), zc10) (Option.some.inj hr).symm
      exact j_lv [1, 0] rfl hr
  refine j_lv (lv' := [(0, .ref this), (1, .int (0 : Int32))]) [1, 0] rfl ?_
  refine it_J (J := (fun (zs1 : Int32 × Ce) => Jd G 0 0 nx zs1.2 2 [(0, .ref this), (1, .int zs1.1)] [])) ?_ hzo2
  clear hzo2
  intro zs1 zr3 hr izs1 ezs1
  refine j_iload_n (q := 1) (pc' := 3) C dX12_bringBack_2 rfl rfl rfl ?_
  refine j_sipush (v := 5421) (pc' := 6) C dX12_bringBack_3 kS_5421 rfl ?_
  refine j_ic_ge (tgt := 29) (pc' := 9) C dX12_bringBack_6 rfl rfl (fun hc => ?_) (fun hc => ?_)
  · have hr := ifT hc hr
    clear hc
    have hr := ezs1 _ (Option.some.inj hr).symm
    subst hr
    exact j_lv [0] rfl kzo2
  · have hr := ifF hc hr
    clear hc
    refine j_aload_n (q := 0) (pc' := 10) C dX12_bringBack_9 rfl rfl rfl ?_
    obtain ⟨zx11, hzx11, hr⟩ := ob hr
    refine j_getA (pc' := 13) C dX12_bringBack_10 fl_X12_8 hzx11 rfl ?_
    refine j_iconst (v := 3) (pc' := 14) C dX12_bringBack_13 kI_3 rfl ?_
    refine j_iload_n (q := 1) (pc' := 15) C dX12_bringBack_14 rfl rfl rfl ?_
    refine j_iadd (pc' := 16) C dX12_bringBack_15 rfl ?_
    refine j_aload_n (q := 0) (pc' := 17) C dX12_bringBack_16 rfl rfl rfl ?_
    obtain ⟨zx12, hzx12, hr⟩ := ob hr
    refine j_getA (pc' := 20) C dX12_bringBack_17 fl_X12_53 hzx12 rfl ?_
    refine j_iload_n (q := 1) (pc' := 21) C dX12_bringBack_20 rfl rfl rfl ?_
    obtain ⟨zx13, hzx13, hr⟩ := ob hr
    refine j_iald (pc' := 22) C dX12_bringBack_21 hzx13 rfl ?_
    obtain ⟨zc14, hzc14, hr⟩ := ob hr
    refine j_iast (pc' := 23) C dX12_bringBack_22 hzc14 rfl ?_
    refine j_iinc (q := 1) (v := 1) (lv' := [(1, .int (zs1.1 + (1 : Int32))), (0, .ref this)]) (pc' := 26) C dX12_bringBack_23 rfl kI_1 (by decide) rfl rfl ?_
    refine j_goto (tgt := 2) C dX12_bringBack_26 rfl ?_
    have hr := izs1 ((zs1.1 + (1 : Int32)), zc14) (Option.some.inj hr).symm
    exact j_lv [1, 0] rfl hr
def m_X12_undo (ce : Ce) (this : Nat) : Option (Int32 × Ce) :=
  (gA ce 9 0 this).bind fun zx1 =>
  (aI ce zx1 (1 : Int32)).bind fun zx2 =>
  if zx2 = 0 then
    some ((-1 : Int32), ce)
  else
    (gA ce 9 0 this).bind fun zx3 =>
    (aI ce zx3 (1 : Int32)).bind fun zx4 =>
    (sI ce zx3 (1 : Int32) (zx4 - (1 : Int32))).bind fun zc5 =>
    (gA zc5 9 0 this).bind fun zx6 =>
    (aI zc5 zx6 (2 : Int32)).bind fun zx7 =>
    (gA zc5 9 0 this).bind fun zx8 =>
    (aI zc5 zx8 (1 : Int32)).bind fun zx9 =>
    (m_X12_stepAt zx7 zx9).bind fun zx10 =>
    (it (fun (zs11 : Int32 × Ce) =>
      if (5421 : Int32) ≤ zs11.1 then
        some (Sum.inr ((), zs11.2))
      else
        (gA zs11.2 9 0 this).bind fun zx23 =>
        (gA zs11.2 9 0 this).bind fun zx24 =>
        (aI zs11.2 zx24 (((5424 : Int32) + ((5421 : Int32) * zx10)) + zs11.1)).bind fun zx25 =>
        (sI zs11.2 zx23 ((3 : Int32) + zs11.1) zx25).bind fun zc26 =>
        some (Sum.inl ((zs11.1 + (1 : Int32)), zc26))
    ) FU ((0 : Int32), zc5)).bind fun (zo12 : Unit × Ce) =>
    (it (fun (zs14 : Int32 × Ce) =>
      if (7 : Int32) ≤ zs14.1 then
        some (Sum.inr ((), zs14.2))
      else
        (gA zs14.2 9 2 this).bind fun zx19 =>
        (gA zs14.2 9 2 this).bind fun zx20 =>
        (aG zs14.2 zx20 (((7 : Int32) + ((7 : Int32) * zx10)) + zs14.1)).bind fun zx21 =>
        (sG zs14.2 zx19 zs14.1 zx21).bind fun zc22 =>
        some (Sum.inl ((zs14.1 + (1 : Int32)), zc22))
    ) FU ((0 : Int32), zo12.2)).bind fun (zo15 : Unit × Ce) =>
    (gA zo15.2 9 0 this).bind fun zx17 =>
    (aI zo15.2 zx17 (1 : Int32)).bind fun zx18 =>
    some (zx18, zo15.2)
set_option maxRecDepth 100000 in
set_option maxHeartbeats 4000000 in
theorem c_X12_undo {nx : Nat} {ce : Ce} {this : Nat} {q : Int32 × Ce} (hr : m_X12_undo ce this = some q) : Ct yX12_undo cX12_undo 3 (some .int) 1 21 0 0 [.ref this] nx ce (some (.int q.1)) q.2 := by
  unfold m_X12_undo at hr
  refine ct_of (by decide) (Nat.le_of_ble_eq_true rfl) ?_
  intro G C hq hret hin
  show Jd G 0 0 nx ce 0 [(0, .ref this)] []
  refine j_aload_n (q := 0) (pc' := 1) C dX12_undo_0 rfl rfl rfl ?_
  obtain ⟨zx1, hzx1, hr⟩ := ob hr
  refine j_getA (pc' := 4) C dX12_undo_1 fl_X12_8 hzx1 rfl ?_
  refine j_iconst (v := 1) (pc' := 5) C dX12_undo_4 kI_1 rfl ?_
  obtain ⟨zx2, hzx2, hr⟩ := ob hr
  refine j_iald (pc' := 6) C dX12_undo_5 hzx2 rfl ?_
  refine j_if_ne (tgt := 11) (pc' := 9) C dX12_undo_6 rfl rfl (fun hc => ?_) (fun hc => ?_)
  · have hr := ifF hc hr
    clear hc
    refine j_aload_n (q := 0) (pc' := 12) C dX12_undo_11 rfl rfl rfl ?_
    obtain ⟨zx3, hzx3, hr⟩ := ob hr
    refine j_getA (pc' := 15) C dX12_undo_12 fl_X12_8 hzx3 rfl ?_
    refine j_iconst (v := 1) (pc' := 16) C dX12_undo_15 kI_1 rfl ?_
    refine j_dup2 (pc' := 17) C dX12_undo_16 rfl rfl rfl ?_
    obtain ⟨zx4, hzx4, hr⟩ := ob hr
    refine j_iald (pc' := 18) C dX12_undo_17 hzx4 rfl ?_
    refine j_iconst (v := 1) (pc' := 19) C dX12_undo_18 kI_1 rfl ?_
    refine j_isub (pc' := 20) C dX12_undo_19 rfl ?_
    obtain ⟨zc5, hzc5, hr⟩ := ob hr
    refine j_iast (pc' := 21) C dX12_undo_20 hzc5 rfl ?_
    refine j_aload_n (q := 0) (pc' := 22) C dX12_undo_21 rfl rfl rfl ?_
    obtain ⟨zx6, hzx6, hr⟩ := ob hr
    refine j_getA (pc' := 25) C dX12_undo_22 fl_X12_8 hzx6 rfl ?_
    refine j_iconst (v := 2) (pc' := 26) C dX12_undo_25 kI_2 rfl ?_
    obtain ⟨zx7, hzx7, hr⟩ := ob hr
    refine j_iald (pc' := 27) C dX12_undo_26 hzx7 rfl ?_
    refine j_aload_n (q := 0) (pc' := 28) C dX12_undo_27 rfl rfl rfl ?_
    obtain ⟨zx8, hzx8, hr⟩ := ob hr
    refine j_getA (pc' := 31) C dX12_undo_28 fl_X12_8 hzx8 rfl ?_
    refine j_iconst (v := 1) (pc' := 32) C dX12_undo_31 kI_1 rfl ?_
    obtain ⟨zx9, hzx9, hr⟩ := ob hr
    refine j_iald (pc' := 33) C dX12_undo_32 hzx9 rfl ?_
    obtain ⟨zx10, hzx10, hr⟩ := ob hr
    refine j_callS (As := [.int zx7, .int zx9]) (rest := []) (st1 := [.int zx10]) (pc' := 36) C wm_1631 (c_X12_stepAt (nx := nx) (ce := zc5) hzx10) yw_X12_stepAt wm_1630 rfl rfl (Nat.le_of_ble_eq_true rfl) ⟨by decide, by decide⟩ dX12_undo_33 rfl rfl ?_
    refine j_istore_n (lv' := [(1, .int zx10), (0, .ref this)]) (pc' := 37) C dX12_undo_36 rfl (by decide) rfl rfl ?_
    refine j_iconst (v := 0) (pc' := 38) C dX12_undo_37 kI_0 rfl ?_
    refine j_istore_n (lv' := [(2, .int (0 : Int32)), (1, .int zx10), (0, .ref this)]) (pc' := 39) C dX12_undo_38 rfl (by decide) rfl rfl ?_
    obtain ⟨zo12, hzo12, rzo12⟩ := ob hr
    have kzo12 : Jd G 0 0 nx zo12.2 76 [(0, .ref this), (1, .int zx10)] [] := by
      have hr := rzo12
      refine j_iconst (v := 0) (pc' := 77) C dX12_undo_76 kI_0 rfl ?_
      refine j_istore_n (lv' := [(2, .int (0 : Int32)), (0, .ref this), (1, .int zx10)]) (pc' := 78) C dX12_undo_77 rfl (by decide) rfl rfl ?_
      obtain ⟨zo15, hzo15, rzo15⟩ := ob hr
      have kzo15 : Jd G 0 0 nx zo15.2 110 [(0, .ref this)] [] := by
        have hr := rzo15
        refine j_aload_n (q := 0) (pc' := 111) C dX12_undo_110 rfl rfl rfl ?_
        obtain ⟨zx17, hzx17, hr⟩ := ob hr
        refine j_getA (pc' := 114) C dX12_undo_111 fl_X12_8 hzx17 rfl ?_
        refine j_iconst (v := 1) (pc' := 115) C dX12_undo_114 kI_1 rfl ?_
        obtain ⟨zx18, hzx18, hr⟩ := ob hr
        refine j_iald (pc' := 116) C dX12_undo_115 hzx18 rfl ?_
        have hr := Option.some.inj hr
        subst hr
        exact j_iret C hq hret dX12_undo_116
      refine j_lv (lv' := [(0, .ref this), (1, .int zx10), (2, .int (0 : Int32))]) [1, 2, 0] rfl ?_
      refine it_J (J := (fun (zs14 : Int32 × Ce) => Jd G 0 0 nx zs14.2 78 [(0, .ref this), (1, .int zx10), (2, .int zs14.1)] [])) ?_ hzo15
      clear hzo15
      intro zs14 zr16 hr izs14 ezs14
      refine j_iload_n (q := 2) (pc' := 79) C dX12_undo_78 rfl rfl rfl ?_
      refine j_bipush (v := 7) (pc' := 81) C dX12_undo_79 kB_7 rfl ?_
      refine j_ic_ge (tgt := 110) (pc' := 84) C dX12_undo_81 rfl rfl (fun hc => ?_) (fun hc => ?_)
      · have hr := ifT hc hr
        clear hc
        have hr := ezs14 _ (Option.some.inj hr).symm
        subst hr
        exact j_lv [0] rfl kzo15
      · have hr := ifF hc hr
        clear hc
        refine j_aload_n (q := 0) (pc' := 85) C dX12_undo_84 rfl rfl rfl ?_
        obtain ⟨zx19, hzx19, hr⟩ := ob hr
        refine j_getA (pc' := 88) C dX12_undo_85 fl_X12_17 hzx19 rfl ?_
        refine j_iload_n (q := 2) (pc' := 89) C dX12_undo_88 rfl rfl rfl ?_
        refine j_aload_n (q := 0) (pc' := 90) C dX12_undo_89 rfl rfl rfl ?_
        obtain ⟨zx20, hzx20, hr⟩ := ob hr
        refine j_getA (pc' := 93) C dX12_undo_90 fl_X12_17 hzx20 rfl ?_
        refine j_bipush (v := 7) (pc' := 95) C dX12_undo_93 kB_7 rfl ?_
        refine j_bipush (v := 7) (pc' := 97) C dX12_undo_95 kB_7 rfl ?_
        refine j_iload_n (q := 1) (pc' := 98) C dX12_undo_97 rfl rfl rfl ?_
        refine j_imul (pc' := 99) C dX12_undo_98 rfl ?_
        refine j_iadd (pc' := 100) C dX12_undo_99 rfl ?_
        refine j_iload_n (q := 2) (pc' := 101) C dX12_undo_100 rfl rfl rfl ?_
        refine j_iadd (pc' := 102) C dX12_undo_101 rfl ?_
        obtain ⟨zx21, hzx21, hr⟩ := ob hr
        refine j_fald (pc' := 103) C dX12_undo_102 hzx21 rfl ?_
        obtain ⟨zc22, hzc22, hr⟩ := ob hr
        refine j_fast (pc' := 104) C dX12_undo_103 hzc22 rfl ?_
        refine j_iinc (q := 2) (v := 1) (lv' := [(2, .int (zs14.1 + (1 : Int32))), (0, .ref this), (1, .int zx10)]) (pc' := 107) C dX12_undo_104 rfl kI_1 (by decide) rfl rfl ?_
        refine j_goto (tgt := 78) C dX12_undo_107 rfl ?_
        have hr := izs14 ((zs14.1 + (1 : Int32)), zc22) (Option.some.inj hr).symm
        exact j_lv [1, 2, 0] rfl hr
    refine j_lv (lv' := [(0, .ref this), (1, .int zx10), (2, .int (0 : Int32))]) [2, 1, 0] rfl ?_
    refine it_J (J := (fun (zs11 : Int32 × Ce) => Jd G 0 0 nx zs11.2 39 [(0, .ref this), (1, .int zx10), (2, .int zs11.1)] [])) ?_ hzo12
    clear hzo12
    intro zs11 zr13 hr izs11 ezs11
    refine j_iload_n (q := 2) (pc' := 40) C dX12_undo_39 rfl rfl rfl ?_
    refine j_sipush (v := 5421) (pc' := 43) C dX12_undo_40 kS_5421 rfl ?_
    refine j_ic_ge (tgt := 76) (pc' := 46) C dX12_undo_43 rfl rfl (fun hc => ?_) (fun hc => ?_)
    · have hr := ifT hc hr
      clear hc
      have hr := ezs11 _ (Option.some.inj hr).symm
      subst hr
      exact j_lv [0, 1] rfl kzo12
    · have hr := ifF hc hr
      clear hc
      refine j_aload_n (q := 0) (pc' := 47) C dX12_undo_46 rfl rfl rfl ?_
      obtain ⟨zx23, hzx23, hr⟩ := ob hr
      refine j_getA (pc' := 50) C dX12_undo_47 fl_X12_8 hzx23 rfl ?_
      refine j_iconst (v := 3) (pc' := 51) C dX12_undo_50 kI_3 rfl ?_
      refine j_iload_n (q := 2) (pc' := 52) C dX12_undo_51 rfl rfl rfl ?_
      refine j_iadd (pc' := 53) C dX12_undo_52 rfl ?_
      refine j_aload_n (q := 0) (pc' := 54) C dX12_undo_53 rfl rfl rfl ?_
      obtain ⟨zx24, hzx24, hr⟩ := ob hr
      refine j_getA (pc' := 57) C dX12_undo_54 fl_X12_8 hzx24 rfl ?_
      refine j_sipush (v := 5424) (pc' := 60) C dX12_undo_57 kS_5424 rfl ?_
      refine j_sipush (v := 5421) (pc' := 63) C dX12_undo_60 kS_5421 rfl ?_
      refine j_iload_n (q := 1) (pc' := 64) C dX12_undo_63 rfl rfl rfl ?_
      refine j_imul (pc' := 65) C dX12_undo_64 rfl ?_
      refine j_iadd (pc' := 66) C dX12_undo_65 rfl ?_
      refine j_iload_n (q := 2) (pc' := 67) C dX12_undo_66 rfl rfl rfl ?_
      refine j_iadd (pc' := 68) C dX12_undo_67 rfl ?_
      obtain ⟨zx25, hzx25, hr⟩ := ob hr
      refine j_iald (pc' := 69) C dX12_undo_68 hzx25 rfl ?_
      obtain ⟨zc26, hzc26, hr⟩ := ob hr
      refine j_iast (pc' := 70) C dX12_undo_69 hzc26 rfl ?_
      refine j_iinc (q := 2) (v := 1) (lv' := [(2, .int (zs11.1 + (1 : Int32))), (0, .ref this), (1, .int zx10)]) (pc' := 73) C dX12_undo_70 rfl kI_1 (by decide) rfl rfl ?_
      refine j_goto (tgt := 39) C dX12_undo_73 rfl ?_
      have hr := izs11 ((zs11.1 + (1 : Int32)), zc26) (Option.some.inj hr).symm
      exact j_lv [1, 2, 0] rfl hr
  · have hr := ifT hc hr
    clear hc
    refine j_iconst (v := -1) (pc' := 10) C dX12_undo_9 kI_m1 rfl ?_
    have hr := Option.some.inj hr
    subst hr
    exact j_iret C hq hret dX12_undo_10
def m_X12_step (ce : Ce) (this : Nat) (p1 : Int32) : Option (Int32 × Ce) :=
  (m_X12_isIn p1 (1 : Int32) (500 : Int32)).bind fun zx1 =>
  if zx1 = 0 then
    some ((-1 : Int32), ce)
  else
    (rcv ce 9 this).bind fun zz2 =>
    (m_X12_isOver ce this).bind fun zx3 =>
    if zx3 = 0 then
      (rcv ce 9 this).bind fun zz4 =>
      (m_X12_keep ce this).bind fun zq5 =>
      (rcv zq5.2 9 this).bind fun zz6 =>
      (m_X12_stepsNow zq5.2 this p1).bind fun zq7 =>
      some (zq7.1, zq7.2)
    else
      some ((-1 : Int32), ce)
set_option maxRecDepth 100000 in
set_option maxHeartbeats 4000000 in
theorem c_X12_step {nx : Nat} {ce : Ce} {this : Nat} {p1 : Int32} {q : Int32 × Ce} (hr : m_X12_step ce this p1 = some q) : Ct yX12_step cX12_step 2 (some .int) 12 272 0 0 [.ref this, .int p1] nx ce (some (.int q.1)) q.2 := by
  unfold m_X12_step at hr
  refine ct_of (by decide) (Nat.le_of_ble_eq_true rfl) ?_
  intro G C hq hret hin
  show Jd G 0 0 nx ce 0 [(0, .ref this), (1, .int p1)] []
  refine j_iload_n (q := 1) (pc' := 1) C dX12_step_0 rfl rfl rfl ?_
  refine j_iconst (v := 1) (pc' := 2) C dX12_step_1 kI_1 rfl ?_
  refine j_sipush (v := 500) (pc' := 5) C dX12_step_2 kS_500 rfl ?_
  obtain ⟨zx1, hzx1, hr⟩ := ob hr
  refine j_callS (As := [.int p1, .int (1 : Int32), .int (500 : Int32)]) (rest := []) (st1 := [.int zx1]) (pc' := 8) C wm_1529 (c_X12_isIn (nx := nx) (ce := ce) hzx1) yw_X12_isIn wm_1528 rfl rfl (Nat.le_of_ble_eq_true rfl) ⟨by decide, by decide⟩ dX12_step_5 rfl rfl ?_
  refine j_if_eq (tgt := 18) (pc' := 11) C dX12_step_8 rfl rfl (fun hc => ?_) (fun hc => ?_)
  · have hr := ifT hc hr
    clear hc
    refine j_iconst (v := -1) (pc' := 19) C dX12_step_18 kI_m1 rfl ?_
    have hr := Option.some.inj hr
    subst hr
    exact j_iret C hq hret dX12_step_19
  · have hr := ifF hc hr
    clear hc
    refine j_aload_n (q := 0) (pc' := 12) C dX12_step_11 rfl rfl rfl ?_
    obtain ⟨zz2, hzz2, hr⟩ := ob hr
    obtain ⟨zx3, hzx3, hr⟩ := ob hr
    obtain ⟨fhzz2, hzz2⟩ := rcv_sp hzz2
    refine j_callV (ci := 9) (As := []) (rest := []) (st1 := [.int zx3]) (pc' := 15) C ⟨wm_1681, wm_62⟩ rfl hzz2 (c_X12_isOver (nx := nx) hzx3) yw_X12_isOver wm_1679 rfl rfl (Nat.le_of_ble_eq_true rfl) ⟨by decide, by decide⟩ dX12_step_12 rfl rfl ?_
    refine j_if_eq (tgt := 20) (pc' := 18) C dX12_step_15 rfl rfl (fun hc => ?_) (fun hc => ?_)
    · have hr := ifT hc hr
      clear hc
      refine j_aload_n (q := 0) (pc' := 21) C dX12_step_20 rfl rfl rfl ?_
      obtain ⟨zz4, hzz4, hr⟩ := ob hr
      obtain ⟨zq5, hzq5, hr⟩ := ob hr
      obtain ⟨fhzz4, hzz4⟩ := rcv_sp hzz4
      refine j_callV (ci := 9) (As := []) (rest := []) (st1 := []) (pc' := 24) C ⟨wm_1628, wm_56⟩ rfl hzz4 (c_X12_keep (nx := nx) hzq5) yw_X12_keep wm_1626 rfl rfl (Nat.le_of_ble_eq_true rfl) ⟨by decide, by decide⟩ dX12_step_21 rfl rfl ?_
      refine j_aload_n (q := 0) (pc' := 25) C dX12_step_24 rfl rfl rfl ?_
      refine j_iload_n (q := 1) (pc' := 26) C dX12_step_25 rfl rfl rfl ?_
      obtain ⟨zz6, hzz6, hr⟩ := ob hr
      obtain ⟨zq7, hzq7, hr⟩ := ob hr
      obtain ⟨fhzz6, hzz6⟩ := rcv_sp hzz6
      refine j_callV (ci := 9) (As := [.int p1]) (rest := []) (st1 := [.int zq7.1]) (pc' := 29) C ⟨wm_1685, wm_63⟩ rfl hzz6 (c_X12_stepsNow (nx := nx) hzq7) yw_X12_stepsNow wm_1683 rfl rfl (Nat.le_of_ble_eq_true rfl) ⟨by decide, by decide⟩ dX12_step_26 rfl rfl ?_
      have hr := Option.some.inj hr
      subst hr
      exact j_iret C hq hret dX12_step_29
    · have hr := ifF hc hr
      clear hc
      refine j_iconst (v := -1) (pc' := 19) C dX12_step_18 kI_m1 rfl ?_
      have hr := Option.some.inj hr
      subst hr
      exact j_iret C hq hret dX12_step_19
def m_X12_bar (ce : Ce) (this : Nat) (p1 : Int32) (p2 : Int32) (p3 : Int32) : Option (Int32 × Ce) :=
  (gA ce 9 0 this).bind fun zx1 =>
  (aI ce zx1 (5 : Int32)).bind fun zx2 =>
  if (1 : Int32) < zx2 then
    some ((-1 : Int32), ce)
  else
    (rcv ce 9 this).bind fun zz3 =>
    (m_X12_isMask ce this p1 p2).bind fun zx4 =>
    if zx4 = 0 then
      some ((-1 : Int32), ce)
    else
      (gA ce 9 0 this).bind fun zx5 =>
      (aI ce zx5 (4 : Int32)).bind fun zx6 =>
      (m_X12_isIn p3 (1 : Int32) zx6).bind fun zx7 =>
      if zx7 = 0 then
        some ((-1 : Int32), ce)
      else
        (rcv ce 9 this).bind fun zz8 =>
        (m_X12_cubeSet ce this p1 p2).bind fun zx9 =>
        (rcv ce 9 this).bind fun zz10 =>
        (m_X12_starts ce this).bind fun zx11 =>
        if (lg_cmp (zx9 &&& zx11) (0 : Int64)) = 0 then
          (rcv ce 9 this).bind fun zz12 =>
          (m_X12_doesHold ce this p1 p2 (p3 - (1 : Int32))).bind fun zx13 =>
          if zx13 = 0 then
            some ((-1 : Int32), ce)
          else
            (rcv ce 9 this).bind fun zz14 =>
            (m_X12_keep ce this).bind fun zq15 =>
            (rcv zq15.2 9 this).bind fun zz16 =>
            (m_X12_addCube zq15.2 this p1 p2 p3).bind fun zq17 =>
            (rcv zq17.2 9 this).bind fun zz18 =>
            (m_X12_manyOf zq17.2 this p3).bind fun zx19 =>
            some (zx19, zq17.2)
        else
          some ((-1 : Int32), ce)
set_option maxRecDepth 100000 in
set_option maxHeartbeats 4000000 in
theorem c_X12_bar {nx : Nat} {ce : Ce} {this : Nat} {p1 : Int32} {p2 : Int32} {p3 : Int32} {q : Int32 × Ce} (hr : m_X12_bar ce this p1 p2 p3 = some q) : Ct yX12_bar cX12_bar 4 (some .int) 6 133 0 0 [.ref this, .int p1, .int p2, .int p3] nx ce (some (.int q.1)) q.2 := by
  unfold m_X12_bar at hr
  refine ct_of (by decide) (Nat.le_of_ble_eq_true rfl) ?_
  intro G C hq hret hin
  show Jd G 0 0 nx ce 0 [(0, .ref this), (1, .int p1), (2, .int p2), (3, .int p3)] []
  refine j_aload_n (q := 0) (pc' := 1) C dX12_bar_0 rfl rfl rfl ?_
  obtain ⟨zx1, hzx1, hr⟩ := ob hr
  refine j_getA (pc' := 4) C dX12_bar_1 fl_X12_8 hzx1 rfl ?_
  refine j_iconst (v := 5) (pc' := 5) C dX12_bar_4 kI_5 rfl ?_
  obtain ⟨zx2, hzx2, hr⟩ := ob hr
  refine j_iald (pc' := 6) C dX12_bar_5 hzx2 rfl ?_
  refine j_iconst (v := 1) (pc' := 7) C dX12_bar_6 kI_1 rfl ?_
  refine j_ic_gt (tgt := 33) (pc' := 10) C dX12_bar_7 rfl rfl (fun hc => ?_) (fun hc => ?_)
  · have hr := ifT hc hr
    clear hc
    refine j_iconst (v := -1) (pc' := 34) C dX12_bar_33 kI_m1 rfl ?_
    have hr := Option.some.inj hr
    subst hr
    exact j_iret C hq hret dX12_bar_34
  · have hr := ifF hc hr
    clear hc
    refine j_aload_n (q := 0) (pc' := 11) C dX12_bar_10 rfl rfl rfl ?_
    refine j_iload_n (q := 1) (pc' := 12) C dX12_bar_11 rfl rfl rfl ?_
    refine j_iload_n (q := 2) (pc' := 13) C dX12_bar_12 rfl rfl rfl ?_
    obtain ⟨zz3, hzz3, hr⟩ := ob hr
    obtain ⟨zx4, hzx4, hr⟩ := ob hr
    obtain ⟨fhzz3, hzz3⟩ := rcv_sp hzz3
    refine j_callV (ci := 9) (As := [.int p1, .int p2]) (rest := []) (st1 := [.int zx4]) (pc' := 16) C ⟨wm_1831, wm_96⟩ rfl hzz3 (c_X12_isMask (nx := nx) hzx4) yw_X12_isMask wm_1829 rfl rfl (Nat.le_of_ble_eq_true rfl) ⟨by decide, by decide⟩ dX12_bar_13 rfl rfl ?_
    refine j_if_eq (tgt := 33) (pc' := 19) C dX12_bar_16 rfl rfl (fun hc => ?_) (fun hc => ?_)
    · have hr := ifT hc hr
      clear hc
      refine j_iconst (v := -1) (pc' := 34) C dX12_bar_33 kI_m1 rfl ?_
      have hr := Option.some.inj hr
      subst hr
      exact j_iret C hq hret dX12_bar_34
    · have hr := ifF hc hr
      clear hc
      refine j_iload_n (q := 3) (pc' := 20) C dX12_bar_19 rfl rfl rfl ?_
      refine j_iconst (v := 1) (pc' := 21) C dX12_bar_20 kI_1 rfl ?_
      refine j_aload_n (q := 0) (pc' := 22) C dX12_bar_21 rfl rfl rfl ?_
      obtain ⟨zx5, hzx5, hr⟩ := ob hr
      refine j_getA (pc' := 25) C dX12_bar_22 fl_X12_8 hzx5 rfl ?_
      refine j_iconst (v := 4) (pc' := 26) C dX12_bar_25 kI_4 rfl ?_
      obtain ⟨zx6, hzx6, hr⟩ := ob hr
      refine j_iald (pc' := 27) C dX12_bar_26 hzx6 rfl ?_
      obtain ⟨zx7, hzx7, hr⟩ := ob hr
      refine j_callS (As := [.int p3, .int (1 : Int32), .int zx6]) (rest := []) (st1 := [.int zx7]) (pc' := 30) C wm_1529 (c_X12_isIn (nx := nx) (ce := ce) hzx7) yw_X12_isIn wm_1528 rfl rfl (Nat.le_of_ble_eq_true rfl) ⟨by decide, by decide⟩ dX12_bar_27 rfl rfl ?_
      refine j_if_ne (tgt := 35) (pc' := 33) C dX12_bar_30 rfl rfl (fun hc => ?_) (fun hc => ?_)
      · have hr := ifF hc hr
        clear hc
        refine j_aload_n (q := 0) (pc' := 36) C dX12_bar_35 rfl rfl rfl ?_
        refine j_iload_n (q := 1) (pc' := 37) C dX12_bar_36 rfl rfl rfl ?_
        refine j_iload_n (q := 2) (pc' := 38) C dX12_bar_37 rfl rfl rfl ?_
        obtain ⟨zz8, hzz8, hr⟩ := ob hr
        obtain ⟨zx9, hzx9, hr⟩ := ob hr
        obtain ⟨fhzz8, hzz8⟩ := rcv_sp hzz8
        refine j_callV (ci := 9) (As := [.int p1, .int p2]) (rest := []) (st1 := [.long zx9]) (pc' := 41) C ⟨wm_1726, wm_73⟩ rfl hzz8 (c_X12_cubeSet (nx := nx) hzx9) yw_X12_cubeSet wm_1724 rfl rfl (Nat.le_of_ble_eq_true rfl) ⟨by decide, by decide⟩ dX12_bar_38 rfl rfl ?_
        refine j_aload_n (q := 0) (pc' := 42) C dX12_bar_41 rfl rfl rfl ?_
        obtain ⟨zz10, hzz10, hr⟩ := ob hr
        obtain ⟨zx11, hzx11, hr⟩ := ob hr
        obtain ⟨fhzz10, hzz10⟩ := rcv_sp hzz10
        refine j_callV (ci := 9) (As := []) (rest := [.long zx9]) (st1 := [.long zx11, .long zx9]) (pc' := 45) C ⟨wm_1710, wm_69⟩ rfl hzz10 (c_X12_starts (nx := nx) hzx11) yw_X12_starts wm_1708 rfl rfl (Nat.le_of_ble_eq_true rfl) ⟨by decide, by decide⟩ dX12_bar_42 rfl rfl ?_
        refine j_land (pc' := 46) C dX12_bar_45 rfl ?_
        refine j_lconst (v := 0) (pc' := 47) C dX12_bar_46 kL_0 rfl ?_
        refine j_lcmp (pc' := 48) C dX12_bar_47 rfl ?_
        refine j_if_ne (tgt := 63) (pc' := 51) C dX12_bar_48 rfl rfl (fun hc => ?_) (fun hc => ?_)
        · have hr := ifF hc hr
          clear hc
          refine j_iconst (v := -1) (pc' := 64) C dX12_bar_63 kI_m1 rfl ?_
          have hr := Option.some.inj hr
          subst hr
          exact j_iret C hq hret dX12_bar_64
        · have hr := ifT hc hr
          clear hc
          refine j_aload_n (q := 0) (pc' := 52) C dX12_bar_51 rfl rfl rfl ?_
          refine j_iload_n (q := 1) (pc' := 53) C dX12_bar_52 rfl rfl rfl ?_
          refine j_iload_n (q := 2) (pc' := 54) C dX12_bar_53 rfl rfl rfl ?_
          refine j_iload_n (q := 3) (pc' := 55) C dX12_bar_54 rfl rfl rfl ?_
          refine j_iconst (v := 1) (pc' := 56) C dX12_bar_55 kI_1 rfl ?_
          refine j_isub (pc' := 57) C dX12_bar_56 rfl ?_
          obtain ⟨zz12, hzz12, hr⟩ := ob hr
          obtain ⟨zx13, hzx13, hr⟩ := ob hr
          obtain ⟨fhzz12, hzz12⟩ := rcv_sp hzz12
          refine j_callV (ci := 9) (As := [.int p1, .int p2, .int (p3 - (1 : Int32))]) (rest := []) (st1 := [.int zx13]) (pc' := 60) C ⟨wm_1793, wm_89⟩ rfl hzz12 (c_X12_doesHold (nx := nx) hzx13) yw_X12_doesHold wm_1791 rfl rfl (Nat.le_of_ble_eq_true rfl) ⟨by decide, by decide⟩ dX12_bar_57 rfl rfl ?_
          refine j_if_ne (tgt := 65) (pc' := 63) C dX12_bar_60 rfl rfl (fun hc => ?_) (fun hc => ?_)
          · have hr := ifF hc hr
            clear hc
            refine j_aload_n (q := 0) (pc' := 66) C dX12_bar_65 rfl rfl rfl ?_
            obtain ⟨zz14, hzz14, hr⟩ := ob hr
            obtain ⟨zq15, hzq15, hr⟩ := ob hr
            obtain ⟨fhzz14, hzz14⟩ := rcv_sp hzz14
            refine j_callV (ci := 9) (As := []) (rest := []) (st1 := []) (pc' := 69) C ⟨wm_1628, wm_56⟩ rfl hzz14 (c_X12_keep (nx := nx) hzq15) yw_X12_keep wm_1626 rfl rfl (Nat.le_of_ble_eq_true rfl) ⟨by decide, by decide⟩ dX12_bar_66 rfl rfl ?_
            refine j_aload_n (q := 0) (pc' := 70) C dX12_bar_69 rfl rfl rfl ?_
            refine j_iload_n (q := 1) (pc' := 71) C dX12_bar_70 rfl rfl rfl ?_
            refine j_iload_n (q := 2) (pc' := 72) C dX12_bar_71 rfl rfl rfl ?_
            refine j_iload_n (q := 3) (pc' := 73) C dX12_bar_72 rfl rfl rfl ?_
            obtain ⟨zz16, hzz16, hr⟩ := ob hr
            obtain ⟨zq17, hzq17, hr⟩ := ob hr
            obtain ⟨fhzz16, hzz16⟩ := rcv_sp hzz16
            refine j_callV (ci := 9) (As := [.int p1, .int p2, .int p3]) (rest := []) (st1 := []) (pc' := 76) C ⟨wm_1801, wm_91⟩ rfl hzz16 (c_X12_addCube (nx := nx) hzq17) yw_X12_addCube wm_1799 rfl rfl (Nat.le_of_ble_eq_true rfl) ⟨by decide, by decide⟩ dX12_bar_73 rfl rfl ?_
            refine j_aload_n (q := 0) (pc' := 77) C dX12_bar_76 rfl rfl rfl ?_
            refine j_iload_n (q := 3) (pc' := 78) C dX12_bar_77 rfl rfl rfl ?_
            obtain ⟨zz18, hzz18, hr⟩ := ob hr
            obtain ⟨zx19, hzx19, hr⟩ := ob hr
            obtain ⟨fhzz18, hzz18⟩ := rcv_sp hzz18
            refine j_callV (ci := 9) (As := [.int p3]) (rest := []) (st1 := [.int zx19]) (pc' := 81) C ⟨wm_1823, wm_95⟩ rfl hzz18 (c_X12_manyOf (nx := nx) hzx19) yw_X12_manyOf wm_1821 rfl rfl (Nat.le_of_ble_eq_true rfl) ⟨by decide, by decide⟩ dX12_bar_78 rfl rfl ?_
            have hr := Option.some.inj hr
            subst hr
            exact j_iret C hq hret dX12_bar_81
          · have hr := ifT hc hr
            clear hc
            refine j_iconst (v := -1) (pc' := 64) C dX12_bar_63 kI_m1 rfl ?_
            have hr := Option.some.inj hr
            subst hr
            exact j_iret C hq hret dX12_bar_64
      · have hr := ifT hc hr
        clear hc
        refine j_iconst (v := -1) (pc' := 34) C dX12_bar_33 kI_m1 rfl ?_
        have hr := Option.some.inj hr
        subst hr
        exact j_iret C hq hret dX12_bar_34
def m_X12_is (ce : Ce) (this : Nat) (p1 : Int32) : Option (Int32) :=
  if p1 = (0 : Int32) then
    (gA ce 9 0 this).bind fun zx1 =>
    (aI ce zx1 (3 : Int32)).bind fun zx2 =>
    some zx2
  else
  if p1 = (1 : Int32) then
    (gA ce 9 0 this).bind fun zx3 =>
    (aI ce zx3 (4 : Int32)).bind fun zx4 =>
    some zx4
  else
  if p1 = (2 : Int32) then
    (gA ce 9 0 this).bind fun zx5 =>
    (aI ce zx5 (5 : Int32)).bind fun zx6 =>
    some zx6
  else
  if p1 = (3 : Int32) then
    (gA ce 9 0 this).bind fun zx7 =>
    (aI ce zx7 (5 : Int32)).bind fun zx8 =>
    if zx8 = (2 : Int32) then
      (gA ce 9 0 this).bind fun zx9 =>
      (aI ce zx9 (6 : Int32)).bind fun zx10 =>
      some zx10
    else
      some (-1 : Int32)
  else
  if p1 = (4 : Int32) then
    (gA ce 9 0 this).bind fun zx11 =>
    (aI ce zx11 (7 : Int32)).bind fun zx12 =>
    some zx12
  else
  if p1 = (5 : Int32) then
    (gA ce 9 0 this).bind fun zx13 =>
    (aI ce zx13 (8 : Int32)).bind fun zx14 =>
    some zx14
  else
  if p1 = (6 : Int32) then
    (gA ce 9 0 this).bind fun zx15 =>
    (aI ce zx15 (9 : Int32)).bind fun zx16 =>
    some zx16
  else
  if p1 = (7 : Int32) then
    (gA ce 9 0 this).bind fun zx17 =>
    (aI ce zx17 (10 : Int32)).bind fun zx18 =>
    some zx18
  else
  if p1 = (8 : Int32) then
    (gA ce 9 0 this).bind fun zx19 =>
    (aI ce zx19 (11 : Int32)).bind fun zx20 =>
    some zx20
  else
  if p1 = (9 : Int32) then
    (gA ce 9 0 this).bind fun zx21 =>
    (aI ce zx21 (12 : Int32)).bind fun zx22 =>
    some zx22
  else
  if p1 = (10 : Int32) then
    (gA ce 9 0 this).bind fun zx23 =>
    (aI ce zx23 (13 : Int32)).bind fun zx24 =>
    some zx24
  else
  if p1 = (11 : Int32) then
    (gA ce 9 0 this).bind fun zx25 =>
    (aI ce zx25 (14 : Int32)).bind fun zx26 =>
    some zx26
  else
  some (-1 : Int32)
set_option maxRecDepth 100000 in
set_option maxHeartbeats 4000000 in
theorem c_X12_is {nx : Nat} {ce : Ce} {this : Nat} {p1 : Int32} {q : Int32} (hr : m_X12_is ce this p1 = some q) : Ct yX12_is cX12_is 2 (some .int) 0 0 0 0 [.ref this, .int p1] nx ce (some (.int q)) ce := by
  unfold m_X12_is at hr
  refine ct_of (by decide) (Nat.le_of_ble_eq_true rfl) ?_
  intro G C hq hret hin
  show Jd G 0 0 nx ce 0 [(0, .ref this), (1, .int p1)] []
  refine j_iload_n (q := 1) (pc' := 1) C dX12_is_0 rfl rfl rfl ?_
  by_cases hc0 : p1 = (0 : Int32)
  · have hr := ifT hc0 hr
    refine j_tabIn (v := 0) (off := 63) (tgt := 64) C dX12_is_1 hc0 (by decide) rfl ?_
    refine j_aload_n (q := 0) (pc' := 65) C dX12_is_64 rfl rfl rfl ?_
    obtain ⟨zx1, hzx1, hr⟩ := ob hr
    refine j_getA (pc' := 68) C dX12_is_65 fl_X12_8 hzx1 rfl ?_
    refine j_iconst (v := 3) (pc' := 69) C dX12_is_68 kI_3 rfl ?_
    obtain ⟨zx2, hzx2, hr⟩ := ob hr
    refine j_iald (pc' := 70) C dX12_is_69 hzx2 rfl ?_
    have hr := Option.some.inj hr
    subst hr
    exact j_iret C hq hret dX12_is_70
  have hr := ifF hc0 hr
  by_cases hc1 : p1 = (1 : Int32)
  · have hr := ifT hc1 hr
    refine j_tabIn (v := 1) (off := 70) (tgt := 71) C dX12_is_1 hc1 (by decide) rfl ?_
    refine j_aload_n (q := 0) (pc' := 72) C dX12_is_71 rfl rfl rfl ?_
    obtain ⟨zx3, hzx3, hr⟩ := ob hr
    refine j_getA (pc' := 75) C dX12_is_72 fl_X12_8 hzx3 rfl ?_
    refine j_iconst (v := 4) (pc' := 76) C dX12_is_75 kI_4 rfl ?_
    obtain ⟨zx4, hzx4, hr⟩ := ob hr
    refine j_iald (pc' := 77) C dX12_is_76 hzx4 rfl ?_
    have hr := Option.some.inj hr
    subst hr
    exact j_iret C hq hret dX12_is_77
  have hr := ifF hc1 hr
  by_cases hc2 : p1 = (2 : Int32)
  · have hr := ifT hc2 hr
    refine j_tabIn (v := 2) (off := 77) (tgt := 78) C dX12_is_1 hc2 (by decide) rfl ?_
    refine j_aload_n (q := 0) (pc' := 79) C dX12_is_78 rfl rfl rfl ?_
    obtain ⟨zx5, hzx5, hr⟩ := ob hr
    refine j_getA (pc' := 82) C dX12_is_79 fl_X12_8 hzx5 rfl ?_
    refine j_iconst (v := 5) (pc' := 83) C dX12_is_82 kI_5 rfl ?_
    obtain ⟨zx6, hzx6, hr⟩ := ob hr
    refine j_iald (pc' := 84) C dX12_is_83 hzx6 rfl ?_
    have hr := Option.some.inj hr
    subst hr
    exact j_iret C hq hret dX12_is_84
  have hr := ifF hc2 hr
  by_cases hc3 : p1 = (3 : Int32)
  · have hr := ifT hc3 hr
    refine j_tabIn (v := 3) (off := 84) (tgt := 85) C dX12_is_1 hc3 (by decide) rfl ?_
    refine j_aload_n (q := 0) (pc' := 86) C dX12_is_85 rfl rfl rfl ?_
    obtain ⟨zx7, hzx7, hr⟩ := ob hr
    refine j_getA (pc' := 89) C dX12_is_86 fl_X12_8 hzx7 rfl ?_
    refine j_iconst (v := 5) (pc' := 90) C dX12_is_89 kI_5 rfl ?_
    obtain ⟨zx8, hzx8, hr⟩ := ob hr
    refine j_iald (pc' := 91) C dX12_is_90 hzx8 rfl ?_
    refine j_iconst (v := 2) (pc' := 92) C dX12_is_91 kI_2 rfl ?_
    refine j_ic_ne (tgt := 105) (pc' := 95) C dX12_is_92 rfl rfl (fun hc => ?_) (fun hc => ?_)
    · have hr := ifF hc hr
      clear hc
      refine j_iconst (v := -1) (pc' := 106) C dX12_is_105 kI_m1 rfl ?_
      have hr := Option.some.inj hr
      subst hr
      exact j_iret C hq hret dX12_is_106
    · have hr := ifT hc hr
      clear hc
      refine j_aload_n (q := 0) (pc' := 96) C dX12_is_95 rfl rfl rfl ?_
      obtain ⟨zx9, hzx9, hr⟩ := ob hr
      refine j_getA (pc' := 99) C dX12_is_96 fl_X12_8 hzx9 rfl ?_
      refine j_bipush (v := 6) (pc' := 101) C dX12_is_99 kB_6 rfl ?_
      obtain ⟨zx10, hzx10, hr⟩ := ob hr
      refine j_iald (pc' := 102) C dX12_is_101 hzx10 rfl ?_
      refine j_goto (tgt := 106) C dX12_is_102 rfl ?_
      have hr := Option.some.inj hr
      subst hr
      exact j_iret C hq hret dX12_is_106
  have hr := ifF hc3 hr
  by_cases hc4 : p1 = (4 : Int32)
  · have hr := ifT hc4 hr
    refine j_tabIn (v := 4) (off := 106) (tgt := 107) C dX12_is_1 hc4 (by decide) rfl ?_
    refine j_aload_n (q := 0) (pc' := 108) C dX12_is_107 rfl rfl rfl ?_
    obtain ⟨zx11, hzx11, hr⟩ := ob hr
    refine j_getA (pc' := 111) C dX12_is_108 fl_X12_8 hzx11 rfl ?_
    refine j_bipush (v := 7) (pc' := 113) C dX12_is_111 kB_7 rfl ?_
    obtain ⟨zx12, hzx12, hr⟩ := ob hr
    refine j_iald (pc' := 114) C dX12_is_113 hzx12 rfl ?_
    have hr := Option.some.inj hr
    subst hr
    exact j_iret C hq hret dX12_is_114
  have hr := ifF hc4 hr
  by_cases hc5 : p1 = (5 : Int32)
  · have hr := ifT hc5 hr
    refine j_tabIn (v := 5) (off := 114) (tgt := 115) C dX12_is_1 hc5 (by decide) rfl ?_
    refine j_aload_n (q := 0) (pc' := 116) C dX12_is_115 rfl rfl rfl ?_
    obtain ⟨zx13, hzx13, hr⟩ := ob hr
    refine j_getA (pc' := 119) C dX12_is_116 fl_X12_8 hzx13 rfl ?_
    refine j_bipush (v := 8) (pc' := 121) C dX12_is_119 kB_8 rfl ?_
    obtain ⟨zx14, hzx14, hr⟩ := ob hr
    refine j_iald (pc' := 122) C dX12_is_121 hzx14 rfl ?_
    have hr := Option.some.inj hr
    subst hr
    exact j_iret C hq hret dX12_is_122
  have hr := ifF hc5 hr
  by_cases hc6 : p1 = (6 : Int32)
  · have hr := ifT hc6 hr
    refine j_tabIn (v := 6) (off := 122) (tgt := 123) C dX12_is_1 hc6 (by decide) rfl ?_
    refine j_aload_n (q := 0) (pc' := 124) C dX12_is_123 rfl rfl rfl ?_
    obtain ⟨zx15, hzx15, hr⟩ := ob hr
    refine j_getA (pc' := 127) C dX12_is_124 fl_X12_8 hzx15 rfl ?_
    refine j_bipush (v := 9) (pc' := 129) C dX12_is_127 kB_9 rfl ?_
    obtain ⟨zx16, hzx16, hr⟩ := ob hr
    refine j_iald (pc' := 130) C dX12_is_129 hzx16 rfl ?_
    have hr := Option.some.inj hr
    subst hr
    exact j_iret C hq hret dX12_is_130
  have hr := ifF hc6 hr
  by_cases hc7 : p1 = (7 : Int32)
  · have hr := ifT hc7 hr
    refine j_tabIn (v := 7) (off := 130) (tgt := 131) C dX12_is_1 hc7 (by decide) rfl ?_
    refine j_aload_n (q := 0) (pc' := 132) C dX12_is_131 rfl rfl rfl ?_
    obtain ⟨zx17, hzx17, hr⟩ := ob hr
    refine j_getA (pc' := 135) C dX12_is_132 fl_X12_8 hzx17 rfl ?_
    refine j_bipush (v := 10) (pc' := 137) C dX12_is_135 kB_10 rfl ?_
    obtain ⟨zx18, hzx18, hr⟩ := ob hr
    refine j_iald (pc' := 138) C dX12_is_137 hzx18 rfl ?_
    have hr := Option.some.inj hr
    subst hr
    exact j_iret C hq hret dX12_is_138
  have hr := ifF hc7 hr
  by_cases hc8 : p1 = (8 : Int32)
  · have hr := ifT hc8 hr
    refine j_tabIn (v := 8) (off := 138) (tgt := 139) C dX12_is_1 hc8 (by decide) rfl ?_
    refine j_aload_n (q := 0) (pc' := 140) C dX12_is_139 rfl rfl rfl ?_
    obtain ⟨zx19, hzx19, hr⟩ := ob hr
    refine j_getA (pc' := 143) C dX12_is_140 fl_X12_8 hzx19 rfl ?_
    refine j_bipush (v := 11) (pc' := 145) C dX12_is_143 kB_11 rfl ?_
    obtain ⟨zx20, hzx20, hr⟩ := ob hr
    refine j_iald (pc' := 146) C dX12_is_145 hzx20 rfl ?_
    have hr := Option.some.inj hr
    subst hr
    exact j_iret C hq hret dX12_is_146
  have hr := ifF hc8 hr
  by_cases hc9 : p1 = (9 : Int32)
  · have hr := ifT hc9 hr
    refine j_tabIn (v := 9) (off := 146) (tgt := 147) C dX12_is_1 hc9 (by decide) rfl ?_
    refine j_aload_n (q := 0) (pc' := 148) C dX12_is_147 rfl rfl rfl ?_
    obtain ⟨zx21, hzx21, hr⟩ := ob hr
    refine j_getA (pc' := 151) C dX12_is_148 fl_X12_8 hzx21 rfl ?_
    refine j_bipush (v := 12) (pc' := 153) C dX12_is_151 kB_12 rfl ?_
    obtain ⟨zx22, hzx22, hr⟩ := ob hr
    refine j_iald (pc' := 154) C dX12_is_153 hzx22 rfl ?_
    have hr := Option.some.inj hr
    subst hr
    exact j_iret C hq hret dX12_is_154
  have hr := ifF hc9 hr
  by_cases hc10 : p1 = (10 : Int32)
  · have hr := ifT hc10 hr
    refine j_tabIn (v := 10) (off := 154) (tgt := 155) C dX12_is_1 hc10 (by decide) rfl ?_
    refine j_aload_n (q := 0) (pc' := 156) C dX12_is_155 rfl rfl rfl ?_
    obtain ⟨zx23, hzx23, hr⟩ := ob hr
    refine j_getA (pc' := 159) C dX12_is_156 fl_X12_8 hzx23 rfl ?_
    refine j_bipush (v := 13) (pc' := 161) C dX12_is_159 kB_13 rfl ?_
    obtain ⟨zx24, hzx24, hr⟩ := ob hr
    refine j_iald (pc' := 162) C dX12_is_161 hzx24 rfl ?_
    have hr := Option.some.inj hr
    subst hr
    exact j_iret C hq hret dX12_is_162
  have hr := ifF hc10 hr
  by_cases hc11 : p1 = (11 : Int32)
  · have hr := ifT hc11 hr
    refine j_tabIn (v := 11) (off := 162) (tgt := 163) C dX12_is_1 hc11 (by decide) rfl ?_
    refine j_aload_n (q := 0) (pc' := 164) C dX12_is_163 rfl rfl rfl ?_
    obtain ⟨zx25, hzx25, hr⟩ := ob hr
    refine j_getA (pc' := 167) C dX12_is_164 fl_X12_8 hzx25 rfl ?_
    refine j_bipush (v := 14) (pc' := 169) C dX12_is_167 kB_14 rfl ?_
    obtain ⟨zx26, hzx26, hr⟩ := ob hr
    refine j_iald (pc' := 170) C dX12_is_169 hzx26 rfl ?_
    have hr := Option.some.inj hr
    subst hr
    exact j_iret C hq hret dX12_is_170
  have hr := ifF hc11 hr
  refine j_tabOut (tgt := 171) C dX12_is_1 (tab_out 12 (by decide) (by decide) (by decide) (fun i hi => by
    match i, hi with
    | 0, _ => exact hc0
    | 1, _ => exact hc1
    | 2, _ => exact hc2
    | 3, _ => exact hc3
    | 4, _ => exact hc4
    | 5, _ => exact hc5
    | 6, _ => exact hc6
    | 7, _ => exact hc7
    | 8, _ => exact hc8
    | 9, _ => exact hc9
    | 10, _ => exact hc10
    | 11, _ => exact hc11
    | i + 12, hi => omega)) rfl ?_
  refine j_iconst (v := -1) (pc' := 172) C dX12_is_171 kI_m1 rfl ?_
  have hr := Option.some.inj hr
  subst hr
  exact j_iret C hq hret dX12_is_172
def m_X12_successor (ce : Ce) (this : Nat) (p1 : Int32) (p2 : Int32) : Option (Int32) :=
  (rcv ce 9 this).bind fun zz1 =>
  (m_X12_isState ce this p1).bind fun zx2 =>
  if zx2 = 0 then
    some (-1 : Int32)
  else
    (m_X12_isIn p2 (0 : Int32) (3 : Int32)).bind fun zx3 =>
    if zx3 = 0 then
      some (-1 : Int32)
    else
      (rcv ce 9 this).bind fun zz4 =>
      (m_X12_succOf ce this p1 p2).bind fun zx5 =>
      some zx5
set_option maxRecDepth 100000 in
set_option maxHeartbeats 4000000 in
theorem c_X12_successor {nx : Nat} {ce : Ce} {this : Nat} {p1 : Int32} {p2 : Int32} {q : Int32} (hr : m_X12_successor ce this p1 p2 = some q) : Ct yX12_successor cX12_successor 3 (some .int) 2 43 0 0 [.ref this, .int p1, .int p2] nx ce (some (.int q)) ce := by
  unfold m_X12_successor at hr
  refine ct_of (by decide) (Nat.le_of_ble_eq_true rfl) ?_
  intro G C hq hret hin
  show Jd G 0 0 nx ce 0 [(0, .ref this), (1, .int p1), (2, .int p2)] []
  refine j_aload_n (q := 0) (pc' := 1) C dX12_successor_0 rfl rfl rfl ?_
  refine j_iload_n (q := 1) (pc' := 2) C dX12_successor_1 rfl rfl rfl ?_
  obtain ⟨zz1, hzz1, hr⟩ := ob hr
  obtain ⟨zx2, hzx2, hr⟩ := ob hr
  obtain ⟨fhzz1, hzz1⟩ := rcv_sp hzz1
  refine j_callV (ci := 9) (As := [.int p1]) (rest := []) (st1 := [.int zx2]) (pc' := 5) C ⟨wm_1843, wm_97⟩ rfl hzz1 (c_X12_isState (nx := nx) hzx2) yw_X12_isState wm_1841 rfl rfl (Nat.le_of_ble_eq_true rfl) ⟨by decide, by decide⟩ dX12_successor_2 rfl rfl ?_
  refine j_if_eq (tgt := 26) (pc' := 8) C dX12_successor_5 rfl rfl (fun hc => ?_) (fun hc => ?_)
  · have hr := ifT hc hr
    clear hc
    refine j_iconst (v := -1) (pc' := 27) C dX12_successor_26 kI_m1 rfl ?_
    have hr := Option.some.inj hr
    subst hr
    exact j_iret C hq hret dX12_successor_27
  · have hr := ifF hc hr
    clear hc
    refine j_iload_n (q := 2) (pc' := 9) C dX12_successor_8 rfl rfl rfl ?_
    refine j_iconst (v := 0) (pc' := 10) C dX12_successor_9 kI_0 rfl ?_
    refine j_iconst (v := 3) (pc' := 11) C dX12_successor_10 kI_3 rfl ?_
    obtain ⟨zx3, hzx3, hr⟩ := ob hr
    refine j_callS (As := [.int p2, .int (0 : Int32), .int (3 : Int32)]) (rest := []) (st1 := [.int zx3]) (pc' := 14) C wm_1529 (c_X12_isIn (nx := nx) (ce := ce) hzx3) yw_X12_isIn wm_1528 rfl rfl (Nat.le_of_ble_eq_true rfl) ⟨by decide, by decide⟩ dX12_successor_11 rfl rfl ?_
    refine j_if_eq (tgt := 26) (pc' := 17) C dX12_successor_14 rfl rfl (fun hc => ?_) (fun hc => ?_)
    · have hr := ifT hc hr
      clear hc
      refine j_iconst (v := -1) (pc' := 27) C dX12_successor_26 kI_m1 rfl ?_
      have hr := Option.some.inj hr
      subst hr
      exact j_iret C hq hret dX12_successor_27
    · have hr := ifF hc hr
      clear hc
      refine j_aload_n (q := 0) (pc' := 18) C dX12_successor_17 rfl rfl rfl ?_
      refine j_iload_n (q := 1) (pc' := 19) C dX12_successor_18 rfl rfl rfl ?_
      refine j_iload_n (q := 2) (pc' := 20) C dX12_successor_19 rfl rfl rfl ?_
      obtain ⟨zz4, hzz4, hr⟩ := ob hr
      obtain ⟨zx5, hzx5, hr⟩ := ob hr
      obtain ⟨fhzz4, hzz4⟩ := rcv_sp hzz4
      refine j_callV (ci := 9) (As := [.int p1, .int p2]) (rest := []) (st1 := [.int zx5]) (pc' := 23) C ⟨wm_1769, wm_83⟩ rfl hzz4 (c_X12_succOf (nx := nx) hzx5) yw_X12_succOf wm_1767 rfl rfl (Nat.le_of_ble_eq_true rfl) ⟨by decide, by decide⟩ dX12_successor_20 rfl rfl ?_
      refine j_goto (tgt := 27) C dX12_successor_23 rfl ?_
      have hr := Option.some.inj hr
      subst hr
      exact j_iret C hq hret dX12_successor_27
def m_X12_leads (ce : Ce) (this : Nat) (p1 : Int32) (p2 : Int32) : Option (Int32) :=
  (rcv ce 9 this).bind fun zz1 =>
  (m_X12_isState ce this p1).bind fun zx2 =>
  if zx2 = 0 then
    some (-1 : Int32)
  else
    if (-1 : Int32) ≤ p2 then
      (it (fun (zs3 : Int32 × Int32) =>
        (rcv ce 9 this).bind fun zz6 =>
        (m_X12_states ce this).bind fun zx7 =>
        if zx7 ≤ zs3.2 then
          some (Sum.inr (Sum.inr zs3.1))
        else
          (rcv ce 9 this).bind fun zz8 =>
          (m_X12_after ce this zs3.2).bind fun zx9 =>
          (m_X12_has zx9 p1).bind fun zx10 =>
          if zx10 = 0 then
            some (Sum.inl (zs3.1, (zs3.2 + (1 : Int32))))
          else
            if zs3.1 = p2 then
              some (Sum.inr (Sum.inl zs3.2))
            else
              some (Sum.inl ((zs3.1 + (1 : Int32)), (zs3.2 + (1 : Int32))))
      ) FU ((0 : Int32), (0 : Int32))).bind fun (zo4 : Int32 ⊕ Int32) =>
      Sum.elim (fun wzo4 => some wzo4) (fun vzo4 =>
        if p2 = (-1 : Int32) then
          some vzo4
        else
          some (-1 : Int32)
      ) zo4
    else
      some (-1 : Int32)
set_option maxRecDepth 100000 in
set_option maxHeartbeats 4000000 in
theorem c_X12_leads {nx : Nat} {ce : Ce} {this : Nat} {p1 : Int32} {p2 : Int32} {q : Int32} (hr : m_X12_leads ce this p1 p2 = some q) : Ct yX12_leads cX12_leads 5 (some .int) 3 68 0 0 [.ref this, .int p1, .int p2] nx ce (some (.int q)) ce := by
  unfold m_X12_leads at hr
  refine ct_of (by decide) (Nat.le_of_ble_eq_true rfl) ?_
  intro G C hq hret hin
  show Jd G 0 0 nx ce 0 [(0, .ref this), (1, .int p1), (2, .int p2)] []
  refine j_aload_n (q := 0) (pc' := 1) C dX12_leads_0 rfl rfl rfl ?_
  refine j_iload_n (q := 1) (pc' := 2) C dX12_leads_1 rfl rfl rfl ?_
  obtain ⟨zz1, hzz1, hr⟩ := ob hr
  obtain ⟨zx2, hzx2, hr⟩ := ob hr
  obtain ⟨fhzz1, hzz1⟩ := rcv_sp hzz1
  refine j_callV (ci := 9) (As := [.int p1]) (rest := []) (st1 := [.int zx2]) (pc' := 5) C ⟨wm_1843, wm_97⟩ rfl hzz1 (c_X12_isState (nx := nx) hzx2) yw_X12_isState wm_1841 rfl rfl (Nat.le_of_ble_eq_true rfl) ⟨by decide, by decide⟩ dX12_leads_2 rfl rfl ?_
  refine j_if_eq (tgt := 13) (pc' := 8) C dX12_leads_5 rfl rfl (fun hc => ?_) (fun hc => ?_)
  · have hr := ifT hc hr
    clear hc
    refine j_iconst (v := -1) (pc' := 14) C dX12_leads_13 kI_m1 rfl ?_
    have hr := Option.some.inj hr
    subst hr
    exact j_iret C hq hret dX12_leads_14
  · have hr := ifF hc hr
    clear hc
    refine j_iload_n (q := 2) (pc' := 9) C dX12_leads_8 rfl rfl rfl ?_
    refine j_iconst (v := -1) (pc' := 10) C dX12_leads_9 kI_m1 rfl ?_
    refine j_ic_ge (tgt := 15) (pc' := 13) C dX12_leads_10 rfl rfl (fun hc => ?_) (fun hc => ?_)
    · have hr := ifT hc hr
      clear hc
      refine j_iconst (v := 0) (pc' := 16) C dX12_leads_15 kI_0 rfl ?_
      refine j_istore_n (lv' := [(3, .int (0 : Int32)), (0, .ref this), (1, .int p1), (2, .int p2)]) (pc' := 17) C dX12_leads_16 rfl (by decide) rfl rfl ?_
      refine j_iconst (v := 0) (pc' := 18) C dX12_leads_17 kI_0 rfl ?_
      refine j_istore (lv' := [(4, .int (0 : Int32)), (3, .int (0 : Int32)), (0, .ref this), (1, .int p1), (2, .int p2)]) (pc' := 20) C dX12_leads_18 (by decide) rfl rfl ?_
      obtain ⟨zo4, hzo4, rzo4⟩ := ob hr
      have kzo4 : ∀ vzo4, zo4 = Sum.inr vzo4 → Jd G 0 0 nx ce 62 [(2, .int p2), (3, .int vzo4)] [] := by
        intro vzo4 ezo4
        rw [ezo4] at rzo4
        have hr := elR rzo4
        refine j_iload_n (q := 0) (pc' := 63) C dX12_leads_62 rfl rfl rfl ?_
        refine j_iconst (v := -1) (pc' := 64) C dX12_leads_63 kI_m1 rfl ?_
        refine j_ic_ne (tgt := 71) (pc' := 67) C dX12_leads_64 rfl rfl (fun hc => ?_) (fun hc => ?_)
        · have hr := ifF hc hr
          clear hc
          refine j_iconst (v := -1) (pc' := 72) C dX12_leads_71 kI_m1 rfl ?_
          have hr := Option.some.inj hr
          subst hr
          exact j_iret C hq hret dX12_leads_72
        · have hr := ifT hc hr
          clear hc
          refine j_iload_n (q := 1) (pc' := 68) C dX12_leads_67 rfl rfl rfl ?_
          refine j_goto (tgt := 72) C dX12_leads_68 rfl ?_
          have hr := Option.some.inj hr
          subst hr
          exact j_iret C hq hret dX12_leads_72
      refine j_lv (lv' := [(0, .ref this), (1, .int p1), (2, .int p2), (3, .int (0 : Int32)), (4, .int (0 : Int32))]) [2, 3, 4, 1, 0] rfl ?_
      refine it_J (J := (fun (zs3 : Int32 × Int32) => Jd G 0 0 nx ce 20 [(0, .ref this), (1, .int p1), (2, .int p2), (3, .int zs3.1), (4, .int zs3.2)] [])) ?_ hzo4
      clear hzo4
      intro zs3 zr5 hr izs3 ezs3
      refine j_iload (q := 4) (pc' := 22) C dX12_leads_20 rfl rfl ?_
      refine j_aload_n (q := 0) (pc' := 23) C dX12_leads_22 rfl rfl rfl ?_
      obtain ⟨zz6, hzz6, hr⟩ := ob hr
      obtain ⟨zx7, hzx7, hr⟩ := ob hr
      obtain ⟨fhzz6, hzz6⟩ := rcv_sp hzz6
      refine j_callV (ci := 9) (As := []) (rest := [.int zs3.2]) (st1 := [.int zx7, .int zs3.2]) (pc' := 26) C ⟨wm_1642, wm_58⟩ rfl hzz6 (c_X12_states (nx := nx) hzx7) yw_X12_states wm_1640 rfl rfl (Nat.le_of_ble_eq_true rfl) ⟨by decide, by decide⟩ dX12_leads_23 rfl rfl ?_
      refine j_ic_ge (tgt := 62) (pc' := 29) C dX12_leads_26 rfl rfl (fun hc => ?_) (fun hc => ?_)
      · have hr := ifT hc hr
        clear hc
        have hr := ezs3 _ (Option.some.inj hr).symm
        subst hr
        exact j_lv [2, 3] rfl (kzo4 _ rfl)
      · have hr := ifF hc hr
        clear hc
        refine j_aload_n (q := 0) (pc' := 30) C dX12_leads_29 rfl rfl rfl ?_
        refine j_iload (q := 4) (pc' := 32) C dX12_leads_30 rfl rfl ?_
        obtain ⟨zz8, hzz8, hr⟩ := ob hr
        obtain ⟨zx9, hzx9, hr⟩ := ob hr
        obtain ⟨fhzz8, hzz8⟩ := rcv_sp hzz8
        refine j_callV (ci := 9) (As := [.int zs3.2]) (rest := []) (st1 := [.long zx9]) (pc' := 35) C ⟨wm_1761, wm_81⟩ rfl hzz8 (c_X12_after (nx := nx) hzx9) yw_X12_after wm_1759 rfl rfl (Nat.le_of_ble_eq_true rfl) ⟨by decide, by decide⟩ dX12_leads_32 rfl rfl ?_
        refine j_iload_n (q := 1) (pc' := 36) C dX12_leads_35 rfl rfl rfl ?_
        obtain ⟨zx10, hzx10, hr⟩ := ob hr
        refine j_callS (As := [.long zx9, .int p1]) (rest := []) (st1 := [.int zx10]) (pc' := 39) C wm_1645 (c_X12_has (nx := nx) (ce := ce) hzx10) yw_X12_has wm_1644 rfl rfl (Nat.le_of_ble_eq_true rfl) ⟨by decide, by decide⟩ dX12_leads_36 rfl rfl ?_
        refine j_if_ne (tgt := 45) (pc' := 42) C dX12_leads_39 rfl rfl (fun hc => ?_) (fun hc => ?_)
        · have hr := ifF hc hr
          clear hc
          refine j_iload_n (q := 3) (pc' := 46) C dX12_leads_45 rfl rfl rfl ?_
          refine j_iload_n (q := 2) (pc' := 47) C dX12_leads_46 rfl rfl rfl ?_
          refine j_ic_ne (tgt := 53) (pc' := 50) C dX12_leads_47 rfl rfl (fun hc => ?_) (fun hc => ?_)
          · have hr := ifF hc hr
            clear hc
            refine j_iinc (q := 3) (v := 1) (lv' := [(3, .int (zs3.1 + (1 : Int32))), (0, .ref this), (1, .int p1), (2, .int p2), (4, .int zs3.2)]) (pc' := 56) C dX12_leads_53 rfl kI_1 (by decide) rfl rfl ?_
            refine j_iinc (q := 4) (v := 1) (lv' := [(4, .int (zs3.2 + (1 : Int32))), (3, .int (zs3.1 + (1 : Int32))), (0, .ref this), (1, .int p1), (2, .int p2)]) (pc' := 59) C dX12_leads_56 rfl kI_1 (by decide) rfl rfl ?_
            refine j_goto (tgt := 20) C dX12_leads_59 rfl ?_
            have hr := izs3 ((zs3.1 + (1 : Int32)), (zs3.2 + (1 : Int32))) (Option.some.inj hr).symm
            exact j_lv [2, 3, 4, 1, 0] rfl hr
          · have hr := ifT hc hr
            clear hc
            refine j_iload (q := 4) (pc' := 52) C dX12_leads_50 rfl rfl ?_
            have hr := ezs3 _ (Option.some.inj hr).symm
            subst hr
            have hr := elL rzo4
            have hr := Option.some.inj hr
            subst hr
            exact j_iret C hq hret dX12_leads_52
        · have hr := ifT hc hr
          clear hc
          refine j_goto (tgt := 56) C dX12_leads_42 rfl ?_
          refine j_iinc (q := 4) (v := 1) (lv' := [(4, .int (zs3.2 + (1 : Int32))), (0, .ref this), (1, .int p1), (2, .int p2), (3, .int zs3.1)]) (pc' := 59) C dX12_leads_56 rfl kI_1 (by decide) rfl rfl ?_
          refine j_goto (tgt := 20) C dX12_leads_59 rfl ?_
          have hr := izs3 (zs3.1, (zs3.2 + (1 : Int32))) (Option.some.inj hr).symm
          exact j_lv [1, 2, 3, 4, 0] rfl hr
    · have hr := ifF hc hr
      clear hc
      refine j_iconst (v := -1) (pc' := 14) C dX12_leads_13 kI_m1 rfl ?_
      have hr := Option.some.inj hr
      subst hr
      exact j_iret C hq hret dX12_leads_14
def m_X12_of (ce : Ce) (this : Nat) (p1 : Int32) (p2 : Int32) : Option (Int32) :=
  (rcv ce 9 this).bind fun zz1 =>
  (m_X12_isState ce this p1).bind fun zx2 =>
  if zx2 = 0 then
    some (0 : Int32)
  else
    (gA ce 9 0 this).bind fun zx3 =>
    (aI ce zx3 (7 : Int32)).bind fun zx4 =>
    (m_X12_isIn p2 (-1 : Int32) (zx4 - (1 : Int32))).bind fun zx5 =>
    if zx5 = 0 then
      some (0 : Int32)
    else
      (rcv ce 9 this).bind fun zz6 =>
      (m_X12_setOf ce this ((1 : Int32) + p2)).bind fun zx7 =>
      (m_X12_has zx7 p1).bind fun zx8 =>
      if zx8 = 0 then
        some (0 : Int32)
      else
        some (1 : Int32)
set_option maxRecDepth 100000 in
set_option maxHeartbeats 4000000 in
theorem c_X12_of {nx : Nat} {ce : Ce} {this : Nat} {p1 : Int32} {p2 : Int32} {q : Int32} (hr : m_X12_of ce this p1 p2 = some q) : Ct yX12_of cX12_of 3 (some .boolean) 2 43 0 0 [.ref this, .int p1, .int p2] nx ce (some (.int q)) ce := by
  unfold m_X12_of at hr
  refine ct_of (by decide) (Nat.le_of_ble_eq_true rfl) ?_
  intro G C hq hret hin
  show Jd G 0 0 nx ce 0 [(0, .ref this), (1, .int p1), (2, .int p2)] []
  refine j_aload_n (q := 0) (pc' := 1) C dX12_of_0 rfl rfl rfl ?_
  refine j_iload_n (q := 1) (pc' := 2) C dX12_of_1 rfl rfl rfl ?_
  obtain ⟨zz1, hzz1, hr⟩ := ob hr
  obtain ⟨zx2, hzx2, hr⟩ := ob hr
  obtain ⟨fhzz1, hzz1⟩ := rcv_sp hzz1
  refine j_callV (ci := 9) (As := [.int p1]) (rest := []) (st1 := [.int zx2]) (pc' := 5) C ⟨wm_1843, wm_97⟩ rfl hzz1 (c_X12_isState (nx := nx) hzx2) yw_X12_isState wm_1841 rfl rfl (Nat.le_of_ble_eq_true rfl) ⟨by decide, by decide⟩ dX12_of_2 rfl rfl ?_
  refine j_if_eq (tgt := 43) (pc' := 8) C dX12_of_5 rfl rfl (fun hc => ?_) (fun hc => ?_)
  · have hr := ifT hc hr
    clear hc
    refine j_iconst (v := 0) (pc' := 44) C dX12_of_43 kI_0 rfl ?_
    have hr := Option.some.inj hr
    subst hr
    exact j_zret C hq hret rfl dX12_of_44
  · have hr := ifF hc hr
    clear hc
    refine j_iload_n (q := 2) (pc' := 9) C dX12_of_8 rfl rfl rfl ?_
    refine j_iconst (v := -1) (pc' := 10) C dX12_of_9 kI_m1 rfl ?_
    refine j_aload_n (q := 0) (pc' := 11) C dX12_of_10 rfl rfl rfl ?_
    obtain ⟨zx3, hzx3, hr⟩ := ob hr
    refine j_getA (pc' := 14) C dX12_of_11 fl_X12_8 hzx3 rfl ?_
    refine j_bipush (v := 7) (pc' := 16) C dX12_of_14 kB_7 rfl ?_
    obtain ⟨zx4, hzx4, hr⟩ := ob hr
    refine j_iald (pc' := 17) C dX12_of_16 hzx4 rfl ?_
    refine j_iconst (v := 1) (pc' := 18) C dX12_of_17 kI_1 rfl ?_
    refine j_isub (pc' := 19) C dX12_of_18 rfl ?_
    obtain ⟨zx5, hzx5, hr⟩ := ob hr
    refine j_callS (As := [.int p2, .int (-1 : Int32), .int (zx4 - (1 : Int32))]) (rest := []) (st1 := [.int zx5]) (pc' := 22) C wm_1529 (c_X12_isIn (nx := nx) (ce := ce) hzx5) yw_X12_isIn wm_1528 rfl rfl (Nat.le_of_ble_eq_true rfl) ⟨by decide, by decide⟩ dX12_of_19 rfl rfl ?_
    refine j_if_eq (tgt := 43) (pc' := 25) C dX12_of_22 rfl rfl (fun hc => ?_) (fun hc => ?_)
    · have hr := ifT hc hr
      clear hc
      refine j_iconst (v := 0) (pc' := 44) C dX12_of_43 kI_0 rfl ?_
      have hr := Option.some.inj hr
      subst hr
      exact j_zret C hq hret rfl dX12_of_44
    · have hr := ifF hc hr
      clear hc
      refine j_aload_n (q := 0) (pc' := 26) C dX12_of_25 rfl rfl rfl ?_
      refine j_iconst (v := 1) (pc' := 27) C dX12_of_26 kI_1 rfl ?_
      refine j_iload_n (q := 2) (pc' := 28) C dX12_of_27 rfl rfl rfl ?_
      refine j_iadd (pc' := 29) C dX12_of_28 rfl ?_
      obtain ⟨zz6, hzz6, hr⟩ := ob hr
      obtain ⟨zx7, hzx7, hr⟩ := ob hr
      obtain ⟨fhzz6, hzz6⟩ := rcv_sp hzz6
      refine j_callV (ci := 9) (As := [.int ((1 : Int32) + p2)]) (rest := []) (st1 := [.long zx7]) (pc' := 32) C ⟨wm_1701, wm_67⟩ rfl hzz6 (c_X12_setOf (nx := nx) hzx7) yw_X12_setOf wm_1699 rfl rfl (Nat.le_of_ble_eq_true rfl) ⟨by decide, by decide⟩ dX12_of_29 rfl rfl ?_
      refine j_iload_n (q := 1) (pc' := 33) C dX12_of_32 rfl rfl rfl ?_
      obtain ⟨zx8, hzx8, hr⟩ := ob hr
      refine j_callS (As := [.long zx7, .int p1]) (rest := []) (st1 := [.int zx8]) (pc' := 36) C wm_1645 (c_X12_has (nx := nx) (ce := ce) hzx8) yw_X12_has wm_1644 rfl rfl (Nat.le_of_ble_eq_true rfl) ⟨by decide, by decide⟩ dX12_of_33 rfl rfl ?_
      refine j_if_eq (tgt := 43) (pc' := 39) C dX12_of_36 rfl rfl (fun hc => ?_) (fun hc => ?_)
      · have hr := ifT hc hr
        clear hc
        refine j_iconst (v := 0) (pc' := 44) C dX12_of_43 kI_0 rfl ?_
        have hr := Option.some.inj hr
        subst hr
        exact j_zret C hq hret rfl dX12_of_44
      · have hr := ifF hc hr
        clear hc
        refine j_iconst (v := 1) (pc' := 40) C dX12_of_39 kI_1 rfl ?_
        refine j_goto (tgt := 44) C dX12_of_40 rfl ?_
        have hr := Option.some.inj hr
        subst hr
        exact j_zret C hq hret rfl dX12_of_44
def m_X12_isFrame (ce : Ce) (this : Nat) (p1 : Int32) : Option (Int32) :=
  (gA ce 9 0 this).bind fun zx1 =>
  (aI ce zx1 (4 : Int32)).bind fun zx2 =>
  (m_X12_isIn p1 (0 : Int32) zx2).bind fun zx3 =>
  (bz zx3).bind fun zx4 =>
  some zx3
set_option maxRecDepth 100000 in
set_option maxHeartbeats 4000000 in
theorem c_X12_isFrame {nx : Nat} {ce : Ce} {this : Nat} {p1 : Int32} {q : Int32} (hr : m_X12_isFrame ce this p1 = some q) : Ct yX12_isFrame cX12_isFrame 2 (some .boolean) 1 22 0 0 [.ref this, .int p1] nx ce (some (.int q)) ce := by
  unfold m_X12_isFrame at hr
  refine ct_of (by decide) (Nat.le_of_ble_eq_true rfl) ?_
  intro G C hq hret hin
  show Jd G 0 0 nx ce 0 [(0, .ref this), (1, .int p1)] []
  refine j_iload_n (q := 1) (pc' := 1) C dX12_isFrame_0 rfl rfl rfl ?_
  refine j_iconst (v := 0) (pc' := 2) C dX12_isFrame_1 kI_0 rfl ?_
  refine j_aload_n (q := 0) (pc' := 3) C dX12_isFrame_2 rfl rfl rfl ?_
  obtain ⟨zx1, hzx1, hr⟩ := ob hr
  refine j_getA (pc' := 6) C dX12_isFrame_3 fl_X12_8 hzx1 rfl ?_
  refine j_iconst (v := 4) (pc' := 7) C dX12_isFrame_6 kI_4 rfl ?_
  obtain ⟨zx2, hzx2, hr⟩ := ob hr
  refine j_iald (pc' := 8) C dX12_isFrame_7 hzx2 rfl ?_
  obtain ⟨zx3, hzx3, hr⟩ := ob hr
  refine j_callS (As := [.int p1, .int (0 : Int32), .int zx2]) (rest := []) (st1 := [.int zx3]) (pc' := 11) C wm_1529 (c_X12_isIn (nx := nx) (ce := ce) hzx3) yw_X12_isIn wm_1528 rfl rfl (Nat.le_of_ble_eq_true rfl) ⟨by decide, by decide⟩ dX12_isFrame_8 rfl rfl ?_
  obtain ⟨zx4, hzx4, hr⟩ := ob hr
  obtain ⟨rfl, nhzx4⟩ := bz_sp hzx4
  have hr := Option.some.inj hr
  subst hr
  exact j_zret C hq hret nhzx4 dX12_isFrame_11
def m_X12_within (ce : Ce) (this : Nat) (p1 : Int32) (p2 : Int32) : Option (Int32) :=
  (rcv ce 9 this).bind fun zz1 =>
  (m_X12_isState ce this p1).bind fun zx2 =>
  if zx2 = 0 then
    some (0 : Int32)
  else
    (rcv ce 9 this).bind fun zz3 =>
    (m_X12_isFrame ce this p2).bind fun zx4 =>
    if zx4 = 0 then
      some (0 : Int32)
    else
      (rcv ce 9 this).bind fun zz5 =>
      (m_X12_openAt ce this p2).bind fun zx6 =>
      (m_X12_has zx6 p1).bind fun zx7 =>
      if zx7 = 0 then
        some (0 : Int32)
      else
        some (1 : Int32)
set_option maxRecDepth 100000 in
set_option maxHeartbeats 4000000 in
theorem c_X12_within {nx : Nat} {ce : Ce} {this : Nat} {p1 : Int32} {p2 : Int32} {q : Int32} (hr : m_X12_within ce this p1 p2 = some q) : Ct yX12_within cX12_within 3 (some .boolean) 5 110 0 0 [.ref this, .int p1, .int p2] nx ce (some (.int q)) ce := by
  unfold m_X12_within at hr
  refine ct_of (by decide) (Nat.le_of_ble_eq_true rfl) ?_
  intro G C hq hret hin
  show Jd G 0 0 nx ce 0 [(0, .ref this), (1, .int p1), (2, .int p2)] []
  refine j_aload_n (q := 0) (pc' := 1) C dX12_within_0 rfl rfl rfl ?_
  refine j_iload_n (q := 1) (pc' := 2) C dX12_within_1 rfl rfl rfl ?_
  obtain ⟨zz1, hzz1, hr⟩ := ob hr
  obtain ⟨zx2, hzx2, hr⟩ := ob hr
  obtain ⟨fhzz1, hzz1⟩ := rcv_sp hzz1
  refine j_callV (ci := 9) (As := [.int p1]) (rest := []) (st1 := [.int zx2]) (pc' := 5) C ⟨wm_1843, wm_97⟩ rfl hzz1 (c_X12_isState (nx := nx) hzx2) yw_X12_isState wm_1841 rfl rfl (Nat.le_of_ble_eq_true rfl) ⟨by decide, by decide⟩ dX12_within_2 rfl rfl ?_
  refine j_if_eq (tgt := 32) (pc' := 8) C dX12_within_5 rfl rfl (fun hc => ?_) (fun hc => ?_)
  · have hr := ifT hc hr
    clear hc
    refine j_iconst (v := 0) (pc' := 33) C dX12_within_32 kI_0 rfl ?_
    have hr := Option.some.inj hr
    subst hr
    exact j_zret C hq hret rfl dX12_within_33
  · have hr := ifF hc hr
    clear hc
    refine j_aload_n (q := 0) (pc' := 9) C dX12_within_8 rfl rfl rfl ?_
    refine j_iload_n (q := 2) (pc' := 10) C dX12_within_9 rfl rfl rfl ?_
    obtain ⟨zz3, hzz3, hr⟩ := ob hr
    obtain ⟨zx4, hzx4, hr⟩ := ob hr
    obtain ⟨fhzz3, hzz3⟩ := rcv_sp hzz3
    refine j_callV (ci := 9) (As := [.int p2]) (rest := []) (st1 := [.int zx4]) (pc' := 13) C ⟨wm_1859, wm_98⟩ rfl hzz3 (c_X12_isFrame (nx := nx) hzx4) yw_X12_isFrame wm_1857 rfl rfl (Nat.le_of_ble_eq_true rfl) ⟨by decide, by decide⟩ dX12_within_10 rfl rfl ?_
    refine j_if_eq (tgt := 32) (pc' := 16) C dX12_within_13 rfl rfl (fun hc => ?_) (fun hc => ?_)
    · have hr := ifT hc hr
      clear hc
      refine j_iconst (v := 0) (pc' := 33) C dX12_within_32 kI_0 rfl ?_
      have hr := Option.some.inj hr
      subst hr
      exact j_zret C hq hret rfl dX12_within_33
    · have hr := ifF hc hr
      clear hc
      refine j_aload_n (q := 0) (pc' := 17) C dX12_within_16 rfl rfl rfl ?_
      refine j_iload_n (q := 2) (pc' := 18) C dX12_within_17 rfl rfl rfl ?_
      obtain ⟨zz5, hzz5, hr⟩ := ob hr
      obtain ⟨zx6, hzx6, hr⟩ := ob hr
      obtain ⟨fhzz5, hzz5⟩ := rcv_sp hzz5
      refine j_callV (ci := 9) (As := [.int p2]) (rest := []) (st1 := [.long zx6]) (pc' := 21) C ⟨wm_1706, wm_68⟩ rfl hzz5 (c_X12_openAt (nx := nx) hzx6) yw_X12_openAt wm_1704 rfl rfl (Nat.le_of_ble_eq_true rfl) ⟨by decide, by decide⟩ dX12_within_18 rfl rfl ?_
      refine j_iload_n (q := 1) (pc' := 22) C dX12_within_21 rfl rfl rfl ?_
      obtain ⟨zx7, hzx7, hr⟩ := ob hr
      refine j_callS (As := [.long zx6, .int p1]) (rest := []) (st1 := [.int zx7]) (pc' := 25) C wm_1645 (c_X12_has (nx := nx) (ce := ce) hzx7) yw_X12_has wm_1644 rfl rfl (Nat.le_of_ble_eq_true rfl) ⟨by decide, by decide⟩ dX12_within_22 rfl rfl ?_
      refine j_if_eq (tgt := 32) (pc' := 28) C dX12_within_25 rfl rfl (fun hc => ?_) (fun hc => ?_)
      · have hr := ifT hc hr
        clear hc
        refine j_iconst (v := 0) (pc' := 33) C dX12_within_32 kI_0 rfl ?_
        have hr := Option.some.inj hr
        subst hr
        exact j_zret C hq hret rfl dX12_within_33
      · have hr := ifF hc hr
        clear hc
        refine j_iconst (v := 1) (pc' := 29) C dX12_within_28 kI_1 rfl ?_
        refine j_goto (tgt := 33) C dX12_within_29 rfl ?_
        have hr := Option.some.inj hr
        subst hr
        exact j_zret C hq hret rfl dX12_within_33
def m_X12_wide (ce : Ce) (this : Nat) (p1 : Int32) : Option (Int32) :=
  (rcv ce 9 this).bind fun zz1 =>
  (m_X12_isFrame ce this p1).bind fun zx2 =>
  if zx2 = 0 then
    some (-1 : Int32)
  else
    (rcv ce 9 this).bind fun zz3 =>
    (m_X12_openAt ce this p1).bind fun zx4 =>
    (m_X12_many zx4).bind fun zx5 =>
    some zx5
set_option maxRecDepth 100000 in
set_option maxHeartbeats 4000000 in
theorem c_X12_wide {nx : Nat} {ce : Ce} {this : Nat} {p1 : Int32} {q : Int32} (hr : m_X12_wide ce this p1 = some q) : Ct yX12_wide cX12_wide 2 (some .int) 5 110 0 0 [.ref this, .int p1] nx ce (some (.int q)) ce := by
  unfold m_X12_wide at hr
  refine ct_of (by decide) (Nat.le_of_ble_eq_true rfl) ?_
  intro G C hq hret hin
  show Jd G 0 0 nx ce 0 [(0, .ref this), (1, .int p1)] []
  refine j_aload_n (q := 0) (pc' := 1) C dX12_wide_0 rfl rfl rfl ?_
  refine j_iload_n (q := 1) (pc' := 2) C dX12_wide_1 rfl rfl rfl ?_
  obtain ⟨zz1, hzz1, hr⟩ := ob hr
  obtain ⟨zx2, hzx2, hr⟩ := ob hr
  obtain ⟨fhzz1, hzz1⟩ := rcv_sp hzz1
  refine j_callV (ci := 9) (As := [.int p1]) (rest := []) (st1 := [.int zx2]) (pc' := 5) C ⟨wm_1859, wm_98⟩ rfl hzz1 (c_X12_isFrame (nx := nx) hzx2) yw_X12_isFrame wm_1857 rfl rfl (Nat.le_of_ble_eq_true rfl) ⟨by decide, by decide⟩ dX12_wide_2 rfl rfl ?_
  refine j_if_eq (tgt := 19) (pc' := 8) C dX12_wide_5 rfl rfl (fun hc => ?_) (fun hc => ?_)
  · have hr := ifT hc hr
    clear hc
    refine j_iconst (v := -1) (pc' := 20) C dX12_wide_19 kI_m1 rfl ?_
    have hr := Option.some.inj hr
    subst hr
    exact j_iret C hq hret dX12_wide_20
  · have hr := ifF hc hr
    clear hc
    refine j_aload_n (q := 0) (pc' := 9) C dX12_wide_8 rfl rfl rfl ?_
    refine j_iload_n (q := 1) (pc' := 10) C dX12_wide_9 rfl rfl rfl ?_
    obtain ⟨zz3, hzz3, hr⟩ := ob hr
    obtain ⟨zx4, hzx4, hr⟩ := ob hr
    obtain ⟨fhzz3, hzz3⟩ := rcv_sp hzz3
    refine j_callV (ci := 9) (As := [.int p1]) (rest := []) (st1 := [.long zx4]) (pc' := 13) C ⟨wm_1706, wm_68⟩ rfl hzz3 (c_X12_openAt (nx := nx) hzx4) yw_X12_openAt wm_1704 rfl rfl (Nat.le_of_ble_eq_true rfl) ⟨by decide, by decide⟩ dX12_wide_10 rfl rfl ?_
    obtain ⟨zx5, hzx5, hr⟩ := ob hr
    refine j_callS (As := [.long zx4]) (rest := []) (st1 := [.int zx5]) (pc' := 16) C wm_1866 (c_X12_many (nx := nx) (ce := ce) hzx5) yw_X12_many wm_1865 rfl rfl (Nat.le_of_ble_eq_true rfl) ⟨by decide, by decide⟩ dX12_wide_13 rfl rfl ?_
    refine j_goto (tgt := 20) C dX12_wide_16 rfl ?_
    have hr := Option.some.inj hr
    subst hr
    exact j_iret C hq hret dX12_wide_20
def m_X12_bad (ce : Ce) (this : Nat) (p1 : Int32) : Option (Int32) :=
  (rcv ce 9 this).bind fun zz1 =>
  (m_X12_isFrame ce this p1).bind fun zx2 =>
  if zx2 = 0 then
    some (-1 : Int32)
  else
    (rcv ce 9 this).bind fun zz3 =>
    (m_X12_openAt ce this p1).bind fun zx4 =>
    (rcv ce 9 this).bind fun zz5 =>
    (m_X12_aims ce this).bind fun zx6 =>
    (m_X12_many (zx4 &&& zx6)).bind fun zx7 =>
    some zx7
set_option maxRecDepth 100000 in
set_option maxHeartbeats 4000000 in
theorem c_X12_bad {nx : Nat} {ce : Ce} {this : Nat} {p1 : Int32} {q : Int32} (hr : m_X12_bad ce this p1 = some q) : Ct yX12_bad cX12_bad 2 (some .int) 5 110 0 0 [.ref this, .int p1] nx ce (some (.int q)) ce := by
  unfold m_X12_bad at hr
  refine ct_of (by decide) (Nat.le_of_ble_eq_true rfl) ?_
  intro G C hq hret hin
  show Jd G 0 0 nx ce 0 [(0, .ref this), (1, .int p1)] []
  refine j_aload_n (q := 0) (pc' := 1) C dX12_bad_0 rfl rfl rfl ?_
  refine j_iload_n (q := 1) (pc' := 2) C dX12_bad_1 rfl rfl rfl ?_
  obtain ⟨zz1, hzz1, hr⟩ := ob hr
  obtain ⟨zx2, hzx2, hr⟩ := ob hr
  obtain ⟨fhzz1, hzz1⟩ := rcv_sp hzz1
  refine j_callV (ci := 9) (As := [.int p1]) (rest := []) (st1 := [.int zx2]) (pc' := 5) C ⟨wm_1859, wm_98⟩ rfl hzz1 (c_X12_isFrame (nx := nx) hzx2) yw_X12_isFrame wm_1857 rfl rfl (Nat.le_of_ble_eq_true rfl) ⟨by decide, by decide⟩ dX12_bad_2 rfl rfl ?_
  refine j_if_eq (tgt := 24) (pc' := 8) C dX12_bad_5 rfl rfl (fun hc => ?_) (fun hc => ?_)
  · have hr := ifT hc hr
    clear hc
    refine j_iconst (v := -1) (pc' := 25) C dX12_bad_24 kI_m1 rfl ?_
    have hr := Option.some.inj hr
    subst hr
    exact j_iret C hq hret dX12_bad_25
  · have hr := ifF hc hr
    clear hc
    refine j_aload_n (q := 0) (pc' := 9) C dX12_bad_8 rfl rfl rfl ?_
    refine j_iload_n (q := 1) (pc' := 10) C dX12_bad_9 rfl rfl rfl ?_
    obtain ⟨zz3, hzz3, hr⟩ := ob hr
    obtain ⟨zx4, hzx4, hr⟩ := ob hr
    obtain ⟨fhzz3, hzz3⟩ := rcv_sp hzz3
    refine j_callV (ci := 9) (As := [.int p1]) (rest := []) (st1 := [.long zx4]) (pc' := 13) C ⟨wm_1706, wm_68⟩ rfl hzz3 (c_X12_openAt (nx := nx) hzx4) yw_X12_openAt wm_1704 rfl rfl (Nat.le_of_ble_eq_true rfl) ⟨by decide, by decide⟩ dX12_bad_10 rfl rfl ?_
    refine j_aload_n (q := 0) (pc' := 14) C dX12_bad_13 rfl rfl rfl ?_
    obtain ⟨zz5, hzz5, hr⟩ := ob hr
    obtain ⟨zx6, hzx6, hr⟩ := ob hr
    obtain ⟨fhzz5, hzz5⟩ := rcv_sp hzz5
    refine j_callV (ci := 9) (As := []) (rest := [.long zx4]) (st1 := [.long zx6, .long zx4]) (pc' := 17) C ⟨wm_1697, wm_66⟩ rfl hzz5 (c_X12_aims (nx := nx) hzx6) yw_X12_aims wm_1695 rfl rfl (Nat.le_of_ble_eq_true rfl) ⟨by decide, by decide⟩ dX12_bad_14 rfl rfl ?_
    refine j_land (pc' := 18) C dX12_bad_17 rfl ?_
    obtain ⟨zx7, hzx7, hr⟩ := ob hr
    refine j_callS (As := [.long (zx4 &&& zx6)]) (rest := []) (st1 := [.int zx7]) (pc' := 21) C wm_1866 (c_X12_many (nx := nx) (ce := ce) hzx7) yw_X12_many wm_1865 rfl rfl (Nat.le_of_ble_eq_true rfl) ⟨by decide, by decide⟩ dX12_bad_18 rfl rfl ?_
    refine j_goto (tgt := 25) C dX12_bad_21 rfl ?_
    have hr := Option.some.inj hr
    subst hr
    exact j_iret C hq hret dX12_bad_25
def m_X12_sought (ce : Ce) (this : Nat) (p1 : Int32) : Option (Int32) :=
  (rcv ce 9 this).bind fun zz1 =>
  (m_X12_aims ce this).bind fun zx2 =>
  (gA ce 9 0 this).bind fun zx3 =>
  (aI ce zx3 (4 : Int32)).bind fun zx4 =>
  (rcv ce 9 this).bind fun zz5 =>
  (m_X12_openAt ce this zx4).bind fun zx6 =>
  (m_X12_many (zx2 &&& zx6)).bind fun zx7 =>
  (
    if zx7 ≤ (8 : Int32) then
      (m_X12_many (zx2 &&& zx6)).bind fun zx14 =>
      some zx14
    else
      some (8 : Int32)
  ).bind fun (zj8 : Int32) =>
  if p1 = (-1 : Int32) then
    some zj8
  else
    (m_X12_isIn p1 (0 : Int32) (zj8 - (1 : Int32))).bind fun zx9 =>
    if zx9 = 0 then
      some (-1 : Int32)
    else
      (it (fun (zs10 : Int64 × Int32) =>
        if p1 ≤ zs10.2 then
          some (Sum.inr zs10.1)
        else
          some (Sum.inl ((zs10.1 &&& (zs10.1 - (1 : Int64))), (zs10.2 + (1 : Int32))))
      ) FU ((zx2 &&& zx6), (0 : Int32))).bind fun (zo11 : Int64) =>
      (m_X12_lowest zo11).bind fun zx13 =>
      some zx13
set_option maxRecDepth 100000 in
set_option maxHeartbeats 4000000 in
theorem c_X12_sought {nx : Nat} {ce : Ce} {this : Nat} {p1 : Int32} {q : Int32} (hr : m_X12_sought ce this p1 = some q) : Ct yX12_sought cX12_sought 6 (some .int) 5 110 0 0 [.ref this, .int p1] nx ce (some (.int q)) ce := by
  unfold m_X12_sought at hr
  refine ct_of (by decide) (Nat.le_of_ble_eq_true rfl) ?_
  intro G C hq hret hin
  show Jd G 0 0 nx ce 0 [(0, .ref this), (1, .int p1)] []
  refine j_aload_n (q := 0) (pc' := 1) C dX12_sought_0 rfl rfl rfl ?_
  obtain ⟨zz1, hzz1, hr⟩ := ob hr
  obtain ⟨zx2, hzx2, hr⟩ := ob hr
  obtain ⟨fhzz1, hzz1⟩ := rcv_sp hzz1
  refine j_callV (ci := 9) (As := []) (rest := []) (st1 := [.long zx2]) (pc' := 4) C ⟨wm_1697, wm_66⟩ rfl hzz1 (c_X12_aims (nx := nx) hzx2) yw_X12_aims wm_1695 rfl rfl (Nat.le_of_ble_eq_true rfl) ⟨by decide, by decide⟩ dX12_sought_1 rfl rfl ?_
  refine j_aload_n (q := 0) (pc' := 5) C dX12_sought_4 rfl rfl rfl ?_
  refine j_aload_n (q := 0) (pc' := 6) C dX12_sought_5 rfl rfl rfl ?_
  obtain ⟨zx3, hzx3, hr⟩ := ob hr
  refine j_getA (pc' := 9) C dX12_sought_6 fl_X12_8 hzx3 rfl ?_
  refine j_iconst (v := 4) (pc' := 10) C dX12_sought_9 kI_4 rfl ?_
  obtain ⟨zx4, hzx4, hr⟩ := ob hr
  refine j_iald (pc' := 11) C dX12_sought_10 hzx4 rfl ?_
  obtain ⟨zz5, hzz5, hr⟩ := ob hr
  obtain ⟨zx6, hzx6, hr⟩ := ob hr
  obtain ⟨fhzz5, hzz5⟩ := rcv_sp hzz5
  refine j_callV (ci := 9) (As := [.int zx4]) (rest := [.long zx2]) (st1 := [.long zx6, .long zx2]) (pc' := 14) C ⟨wm_1706, wm_68⟩ rfl hzz5 (c_X12_openAt (nx := nx) hzx6) yw_X12_openAt wm_1704 rfl rfl (Nat.le_of_ble_eq_true rfl) ⟨by decide, by decide⟩ dX12_sought_11 rfl rfl ?_
  refine j_land (pc' := 15) C dX12_sought_14 rfl ?_
  refine j_lstore_n (lv' := [(2, .long (zx2 &&& zx6)), (0, .ref this), (1, .int p1)]) (pc' := 16) C dX12_sought_15 rfl (by decide) rfl rfl ?_
  refine j_lload_n (q := 0) (pc' := 17) C dX12_sought_16 rfl rfl rfl ?_
  obtain ⟨zx7, hzx7, hr⟩ := ob hr
  refine j_callS (As := [.long (zx2 &&& zx6)]) (rest := []) (st1 := [.int zx7]) (pc' := 20) C wm_1866 (c_X12_many (nx := nx) (ce := ce) hzx7) yw_X12_many wm_1865 rfl rfl (Nat.le_of_ble_eq_true rfl) ⟨by decide, by decide⟩ dX12_sought_17 rfl rfl ?_
  refine j_bipush (v := 8) (pc' := 22) C dX12_sought_20 kB_8 rfl ?_
  obtain ⟨zj8, hzj8, rzj8⟩ := ob hr
  have kzj8 : Jd G 0 0 nx ce 34 [(1, .int p1), (2, .long (zx2 &&& zx6))] [.int zj8] := by
    have hr := rzj8
    refine j_istore (lv' := [(4, .int zj8), (1, .int p1), (2, .long (zx2 &&& zx6))]) (pc' := 36) C dX12_sought_34 (by decide) rfl rfl ?_
    refine j_iload_n (q := 1) (pc' := 37) C dX12_sought_36 rfl rfl rfl ?_
    refine j_iconst (v := -1) (pc' := 38) C dX12_sought_37 kI_m1 rfl ?_
    refine j_ic_ne (tgt := 44) (pc' := 41) C dX12_sought_38 rfl rfl (fun hc => ?_) (fun hc => ?_)
    · have hr := ifF hc hr
      clear hc
      refine j_iload_n (q := 1) (pc' := 45) C dX12_sought_44 rfl rfl rfl ?_
      refine j_iconst (v := 0) (pc' := 46) C dX12_sought_45 kI_0 rfl ?_
      refine j_iload (q := 0) (pc' := 48) C dX12_sought_46 rfl rfl ?_
      refine j_iconst (v := 1) (pc' := 49) C dX12_sought_48 kI_1 rfl ?_
      refine j_isub (pc' := 50) C dX12_sought_49 rfl ?_
      obtain ⟨zx9, hzx9, hr⟩ := ob hr
      refine j_callS (As := [.int p1, .int (0 : Int32), .int (zj8 - (1 : Int32))]) (rest := []) (st1 := [.int zx9]) (pc' := 53) C wm_1529 (c_X12_isIn (nx := nx) (ce := ce) hzx9) yw_X12_isIn wm_1528 rfl rfl (Nat.le_of_ble_eq_true rfl) ⟨by decide, by decide⟩ dX12_sought_50 rfl rfl ?_
      refine j_if_ne (tgt := 58) (pc' := 56) C dX12_sought_53 rfl rfl (fun hc => ?_) (fun hc => ?_)
      · have hr := ifF hc hr
        clear hc
        refine j_iconst (v := 0) (pc' := 59) C dX12_sought_58 kI_0 rfl ?_
        refine j_istore (lv' := [(5, .int (0 : Int32)), (4, .int zj8), (1, .int p1), (2, .long (zx2 &&& zx6))]) (pc' := 61) C dX12_sought_59 (by decide) rfl rfl ?_
        obtain ⟨zo11, hzo11, rzo11⟩ := ob hr
        have kzo11 : Jd G 0 0 nx ce 79 [(2, .long zo11)] [] := by
          have hr := rzo11
          refine j_lload_n (q := 0) (pc' := 80) C dX12_sought_79 rfl rfl rfl ?_
          obtain ⟨zx13, hzx13, hr⟩ := ob hr
          refine j_callS (As := [.long zo11]) (rest := []) (st1 := [.int zx13]) (pc' := 83) C wm_1729 (c_X12_lowest (nx := nx) (ce := ce) hzx13) yw_X12_lowest wm_1728 rfl rfl (Nat.le_of_ble_eq_true rfl) ⟨by decide, by decide⟩ dX12_sought_80 rfl rfl ?_
          have hr := Option.some.inj hr
          subst hr
          exact j_iret C hq hret dX12_sought_83
        refine j_lv (lv' := [(1, .int p1), (2, .long (zx2 &&& zx6)), (5, .int (0 : Int32))]) [2, 3, 0] rfl ?_
        refine it_J (J := (fun (zs10 : Int64 × Int32) => Jd G 0 0 nx ce 61 [(1, .int p1), (2, .long zs10.1), (5, .int zs10.2)] [])) ?_ hzo11
        clear hzo11
        intro zs10 zr12 hr izs10 ezs10
        refine j_iload (q := 2) (pc' := 63) C dX12_sought_61 rfl rfl ?_
        refine j_iload_n (q := 0) (pc' := 64) C dX12_sought_63 rfl rfl rfl ?_
        refine j_ic_ge (tgt := 79) (pc' := 67) C dX12_sought_64 rfl rfl (fun hc => ?_) (fun hc => ?_)
        · have hr := ifT hc hr
          clear hc
          have hr := ezs10 _ (Option.some.inj hr).symm
          subst hr
          exact j_lv [1] rfl kzo11
        · have hr := ifF hc hr
          clear hc
          refine j_lload_n (q := 1) (pc' := 68) C dX12_sought_67 rfl rfl rfl ?_
          refine j_lload_n (q := 1) (pc' := 69) C dX12_sought_68 rfl rfl rfl ?_
          refine j_lconst (v := 1) (pc' := 70) C dX12_sought_69 kL_1 rfl ?_
          refine j_lsub (pc' := 71) C dX12_sought_70 rfl ?_
          refine j_land (pc' := 72) C dX12_sought_71 rfl ?_
          refine j_lstore_n (lv' := [(2, .long (zs10.1 &&& (zs10.1 - (1 : Int64)))), (1, .int p1), (5, .int zs10.2)]) (pc' := 73) C dX12_sought_72 rfl (by decide) rfl rfl ?_
          refine j_iinc (q := 2) (v := 1) (lv' := [(5, .int (zs10.2 + (1 : Int32))), (2, .long (zs10.1 &&& (zs10.1 - (1 : Int64)))), (1, .int p1)]) (pc' := 76) C dX12_sought_73 rfl kI_1 (by decide) rfl rfl ?_
          refine j_goto (tgt := 61) C dX12_sought_76 rfl ?_
          have hr := izs10 ((zs10.1 &&& (zs10.1 - (1 : Int64))), (zs10.2 + (1 : Int32))) (Option.some.inj hr).symm
          exact j_lv [2, 1, 0] rfl hr
      · have hr := ifT hc hr
        clear hc
        refine j_iconst (v := -1) (pc' := 57) C dX12_sought_56 kI_m1 rfl ?_
        have hr := Option.some.inj hr
        subst hr
        exact j_iret C hq hret dX12_sought_57
    · have hr := ifT hc hr
      clear hc
      refine j_iload (q := 0) (pc' := 43) C dX12_sought_41 rfl rfl ?_
      have hr := Option.some.inj hr
      subst hr
      exact j_iret C hq hret dX12_sought_43
  clear rzj8
  have hr := hzj8
  clear hzj8
  refine j_ic_le (tgt := 30) (pc' := 25) C dX12_sought_22 rfl rfl (fun hc => ?_) (fun hc => ?_)
  · have hr := ifT hc hr
    clear hc
    refine j_lload_n (q := 0) (pc' := 31) C dX12_sought_30 rfl rfl rfl ?_
    obtain ⟨zx14, hzx14, hr⟩ := ob hr
    refine j_callS (As := [.long (zx2 &&& zx6)]) (rest := []) (st1 := [.int zx14]) (pc' := 34) C wm_1866 (c_X12_many (nx := nx) (ce := ce) hzx14) yw_X12_many wm_1865 rfl rfl (Nat.le_of_ble_eq_true rfl) ⟨by decide, by decide⟩ dX12_sought_31 rfl rfl ?_
    have hr := Option.some.inj hr
    subst hr
    exact j_lv [2, 0] rfl kzj8
  · have hr := ifF hc hr
    clear hc
    refine j_bipush (v := 8) (pc' := 27) C dX12_sought_25 kB_8 rfl ?_
    refine j_goto (tgt := 34) C dX12_sought_27 rfl ?_
    have hr := Option.some.inj hr
    subst hr
    exact j_lv [2, 0] rfl kzj8
def m_X12_weight (ce : Ce) (this : Nat) (p1 : Int32) : Option (Int32) :=
  (gA ce 9 0 this).bind fun zx1 =>
  (aI ce zx1 (4 : Int32)).bind fun zx2 =>
  (m_X12_isIn p1 (1 : Int32) zx2).bind fun zx3 =>
  if zx3 = 0 then
    some (-1 : Int32)
  else
    (it (fun (zs4 : Int32 × Int32) =>
      (gA ce 9 0 this).bind fun zx7 =>
      (aI ce zx7 (17 : Int32)).bind fun zx8 =>
      if zx8 ≤ zs4.2 then
        some (Sum.inr zs4.1)
      else
        (rcv ce 9 this).bind fun zz9 =>
        (m_X12_frameOf ce this zs4.2).bind fun zx10 =>
        if zx10 = p1 then
          (rcv ce 9 this).bind fun zz11 =>
          (m_X12_maskOf ce this zs4.2).bind fun zx12 =>
          (m_X12_many (Int32.toInt64 zx12)).bind fun zx13 =>
          some (Sum.inl ((zs4.1 + zx13), (zs4.2 + (1 : Int32))))
        else
          some (Sum.inl ((zs4.1 + (0 : Int32)), (zs4.2 + (1 : Int32))))
    ) FU ((0 : Int32), (0 : Int32))).bind fun (zo5 : Int32) =>
    some zo5
set_option maxRecDepth 100000 in
set_option maxHeartbeats 4000000 in
theorem c_X12_weight {nx : Nat} {ce : Ce} {this : Nat} {p1 : Int32} {q : Int32} (hr : m_X12_weight ce this p1 = some q) : Ct yX12_weight cX12_weight 4 (some .int) 1 24 0 0 [.ref this, .int p1] nx ce (some (.int q)) ce := by
  unfold m_X12_weight at hr
  refine ct_of (by decide) (Nat.le_of_ble_eq_true rfl) ?_
  intro G C hq hret hin
  show Jd G 0 0 nx ce 0 [(0, .ref this), (1, .int p1)] []
  refine j_iload_n (q := 1) (pc' := 1) C dX12_weight_0 rfl rfl rfl ?_
  refine j_iconst (v := 1) (pc' := 2) C dX12_weight_1 kI_1 rfl ?_
  refine j_aload_n (q := 0) (pc' := 3) C dX12_weight_2 rfl rfl rfl ?_
  obtain ⟨zx1, hzx1, hr⟩ := ob hr
  refine j_getA (pc' := 6) C dX12_weight_3 fl_X12_8 hzx1 rfl ?_
  refine j_iconst (v := 4) (pc' := 7) C dX12_weight_6 kI_4 rfl ?_
  obtain ⟨zx2, hzx2, hr⟩ := ob hr
  refine j_iald (pc' := 8) C dX12_weight_7 hzx2 rfl ?_
  obtain ⟨zx3, hzx3, hr⟩ := ob hr
  refine j_callS (As := [.int p1, .int (1 : Int32), .int zx2]) (rest := []) (st1 := [.int zx3]) (pc' := 11) C wm_1529 (c_X12_isIn (nx := nx) (ce := ce) hzx3) yw_X12_isIn wm_1528 rfl rfl (Nat.le_of_ble_eq_true rfl) ⟨by decide, by decide⟩ dX12_weight_8 rfl rfl ?_
  refine j_if_ne (tgt := 16) (pc' := 14) C dX12_weight_11 rfl rfl (fun hc => ?_) (fun hc => ?_)
  · have hr := ifF hc hr
    clear hc
    refine j_iconst (v := 0) (pc' := 17) C dX12_weight_16 kI_0 rfl ?_
    refine j_istore_n (lv' := [(2, .int (0 : Int32)), (0, .ref this), (1, .int p1)]) (pc' := 18) C dX12_weight_17 rfl (by decide) rfl rfl ?_
    refine j_iconst (v := 0) (pc' := 19) C dX12_weight_18 kI_0 rfl ?_
    refine j_istore_n (lv' := [(3, .int (0 : Int32)), (2, .int (0 : Int32)), (0, .ref this), (1, .int p1)]) (pc' := 20) C dX12_weight_19 rfl (by decide) rfl rfl ?_
    obtain ⟨zo5, hzo5, rzo5⟩ := ob hr
    have kzo5 : Jd G 0 0 nx ce 62 [(2, .int zo5)] [] := by
      have hr := rzo5
      refine j_iload_n (q := 0) (pc' := 63) C dX12_weight_62 rfl rfl rfl ?_
      have hr := Option.some.inj hr
      subst hr
      exact j_iret C hq hret dX12_weight_63
    refine j_lv (lv' := [(0, .ref this), (1, .int p1), (2, .int (0 : Int32)), (3, .int (0 : Int32))]) [2, 3, 1, 0] rfl ?_
    refine it_J (J := (fun (zs4 : Int32 × Int32) => Jd G 0 0 nx ce 20 [(0, .ref this), (1, .int p1), (2, .int zs4.1), (3, .int zs4.2)] [])) ?_ hzo5
    clear hzo5
    intro zs4 zr6 hr izs4 ezs4
    refine j_iload_n (q := 3) (pc' := 21) C dX12_weight_20 rfl rfl rfl ?_
    refine j_aload_n (q := 0) (pc' := 22) C dX12_weight_21 rfl rfl rfl ?_
    obtain ⟨zx7, hzx7, hr⟩ := ob hr
    refine j_getA (pc' := 25) C dX12_weight_22 fl_X12_8 hzx7 rfl ?_
    refine j_bipush (v := 17) (pc' := 27) C dX12_weight_25 kB_17 rfl ?_
    obtain ⟨zx8, hzx8, hr⟩ := ob hr
    refine j_iald (pc' := 28) C dX12_weight_27 hzx8 rfl ?_
    refine j_ic_ge (tgt := 62) (pc' := 31) C dX12_weight_28 rfl rfl (fun hc => ?_) (fun hc => ?_)
    · have hr := ifT hc hr
      clear hc
      have hr := ezs4 _ (Option.some.inj hr).symm
      subst hr
      exact j_lv [2] rfl kzo5
    · have hr := ifF hc hr
      clear hc
      refine j_iload_n (q := 2) (pc' := 32) C dX12_weight_31 rfl rfl rfl ?_
      refine j_aload_n (q := 0) (pc' := 33) C dX12_weight_32 rfl rfl rfl ?_
      refine j_iload_n (q := 3) (pc' := 34) C dX12_weight_33 rfl rfl rfl ?_
      obtain ⟨zz9, hzz9, hr⟩ := ob hr
      obtain ⟨zx10, hzx10, hr⟩ := ob hr
      obtain ⟨fhzz9, hzz9⟩ := rcv_sp hzz9
      refine j_callV (ci := 9) (As := [.int zs4.2]) (rest := [.int zs4.1]) (st1 := [.int zx10, .int zs4.1]) (pc' := 37) C ⟨wm_1665, wm_61⟩ rfl hzz9 (c_X12_frameOf (nx := nx) hzx10) yw_X12_frameOf wm_1663 rfl rfl (Nat.le_of_ble_eq_true rfl) ⟨by decide, by decide⟩ dX12_weight_34 rfl rfl ?_
      refine j_iload_n (q := 1) (pc' := 38) C dX12_weight_37 rfl rfl rfl ?_
      refine j_ic_ne (tgt := 53) (pc' := 41) C dX12_weight_38 rfl rfl (fun hc => ?_) (fun hc => ?_)
      · have hr := ifF hc hr
        clear hc
        refine j_iconst (v := 0) (pc' := 54) C dX12_weight_53 kI_0 rfl ?_
        refine j_iadd (pc' := 55) C dX12_weight_54 rfl ?_
        refine j_istore_n (lv' := [(2, .int (zs4.1 + (0 : Int32))), (0, .ref this), (1, .int p1), (3, .int zs4.2)]) (pc' := 56) C dX12_weight_55 rfl (by decide) rfl rfl ?_
        refine j_iinc (q := 3) (v := 1) (lv' := [(3, .int (zs4.2 + (1 : Int32))), (2, .int (zs4.1 + (0 : Int32))), (0, .ref this), (1, .int p1)]) (pc' := 59) C dX12_weight_56 rfl kI_1 (by decide) rfl rfl ?_
        refine j_goto (tgt := 20) C dX12_weight_59 rfl ?_
        have hr := izs4 ((zs4.1 + (0 : Int32)), (zs4.2 + (1 : Int32))) (Option.some.inj hr).symm
        exact j_lv [2, 3, 1, 0] rfl hr
      · have hr := ifT hc hr
        clear hc
        refine j_aload_n (q := 0) (pc' := 42) C dX12_weight_41 rfl rfl rfl ?_
        refine j_iload_n (q := 3) (pc' := 43) C dX12_weight_42 rfl rfl rfl ?_
        obtain ⟨zz11, hzz11, hr⟩ := ob hr
        obtain ⟨zx12, hzx12, hr⟩ := ob hr
        obtain ⟨fhzz11, hzz11⟩ := rcv_sp hzz11
        refine j_callV (ci := 9) (As := [.int zs4.2]) (rest := [.int zs4.1]) (st1 := [.int zx12, .int zs4.1]) (pc' := 46) C ⟨wm_1718, wm_71⟩ rfl hzz11 (c_X12_maskOf (nx := nx) hzx12) yw_X12_maskOf wm_1716 rfl rfl (Nat.le_of_ble_eq_true rfl) ⟨by decide, by decide⟩ dX12_weight_43 rfl rfl ?_
        refine j_i2l (pc' := 47) C dX12_weight_46 rfl ?_
        obtain ⟨zx13, hzx13, hr⟩ := ob hr
        refine j_callS (As := [.long (Int32.toInt64 zx12)]) (rest := [.int zs4.1]) (st1 := [.int zx13, .int zs4.1]) (pc' := 50) C wm_1866 (c_X12_many (nx := nx) (ce := ce) hzx13) yw_X12_many wm_1865 rfl rfl (Nat.le_of_ble_eq_true rfl) ⟨by decide, by decide⟩ dX12_weight_47 rfl rfl ?_
        refine j_goto (tgt := 54) C dX12_weight_50 rfl ?_
        refine j_iadd (pc' := 55) C dX12_weight_54 rfl ?_
        refine j_istore_n (lv' := [(2, .int (zs4.1 + zx13)), (0, .ref this), (1, .int p1), (3, .int zs4.2)]) (pc' := 56) C dX12_weight_55 rfl (by decide) rfl rfl ?_
        refine j_iinc (q := 3) (v := 1) (lv' := [(3, .int (zs4.2 + (1 : Int32))), (2, .int (zs4.1 + zx13)), (0, .ref this), (1, .int p1)]) (pc' := 59) C dX12_weight_56 rfl kI_1 (by decide) rfl rfl ?_
        refine j_goto (tgt := 20) C dX12_weight_59 rfl ?_
        have hr := izs4 ((zs4.1 + zx13), (zs4.2 + (1 : Int32))) (Option.some.inj hr).symm
        exact j_lv [2, 3, 1, 0] rfl hr
  · have hr := ifT hc hr
    clear hc
    refine j_iconst (v := -1) (pc' := 15) C dX12_weight_14 kI_m1 rfl ?_
    have hr := Option.some.inj hr
    subst hr
    exact j_iret C hq hret dX12_weight_15
def m_X12_cubeAt (ce : Ce) (this : Nat) (p1 : Int32) (p2 : Int32) : Option (Int32) :=
  if p2 = 0 then
    (rcv ce 9 this).bind fun zz3 =>
    (m_X12_maskOf ce this p1).bind fun zx4 =>
    some zx4
  else
    (rcv ce 9 this).bind fun zz1 =>
    (m_X12_bitsOf ce this p1).bind fun zx2 =>
    some zx2
set_option maxRecDepth 100000 in
set_option maxHeartbeats 4000000 in
theorem c_X12_cubeAt {nx : Nat} {ce : Ce} {this : Nat} {p1 : Int32} {p2 : Int32} {q : Int32} (hr : m_X12_cubeAt ce this p1 p2 = some q) : Ct yX12_cubeAt cX12_cubeAt 3 (some .int) 1 21 0 0 [.ref this, .int p1, .int p2] nx ce (some (.int q)) ce := by
  unfold m_X12_cubeAt at hr
  refine ct_of (by decide) (Nat.le_of_ble_eq_true rfl) ?_
  intro G C hq hret hin
  show Jd G 0 0 nx ce 0 [(0, .ref this), (1, .int p1), (2, .int p2)] []
  refine j_iload_n (q := 2) (pc' := 1) C dX12_cubeAt_0 rfl rfl rfl ?_
  refine j_if_ne (tgt := 12) (pc' := 4) C dX12_cubeAt_1 rfl rfl (fun hc => ?_) (fun hc => ?_)
  · have hr := ifF hc hr
    clear hc
    refine j_aload_n (q := 0) (pc' := 13) C dX12_cubeAt_12 rfl rfl rfl ?_
    refine j_iload_n (q := 1) (pc' := 14) C dX12_cubeAt_13 rfl rfl rfl ?_
    obtain ⟨zz1, hzz1, hr⟩ := ob hr
    obtain ⟨zx2, hzx2, hr⟩ := ob hr
    obtain ⟨fhzz1, hzz1⟩ := rcv_sp hzz1
    refine j_callV (ci := 9) (As := [.int p1]) (rest := []) (st1 := [.int zx2]) (pc' := 17) C ⟨wm_1722, wm_72⟩ rfl hzz1 (c_X12_bitsOf (nx := nx) hzx2) yw_X12_bitsOf wm_1720 rfl rfl (Nat.le_of_ble_eq_true rfl) ⟨by decide, by decide⟩ dX12_cubeAt_14 rfl rfl ?_
    have hr := Option.some.inj hr
    subst hr
    exact j_iret C hq hret dX12_cubeAt_17
  · have hr := ifT hc hr
    clear hc
    refine j_aload_n (q := 0) (pc' := 5) C dX12_cubeAt_4 rfl rfl rfl ?_
    refine j_iload_n (q := 1) (pc' := 6) C dX12_cubeAt_5 rfl rfl rfl ?_
    obtain ⟨zz3, hzz3, hr⟩ := ob hr
    obtain ⟨zx4, hzx4, hr⟩ := ob hr
    obtain ⟨fhzz3, hzz3⟩ := rcv_sp hzz3
    refine j_callV (ci := 9) (As := [.int p1]) (rest := []) (st1 := [.int zx4]) (pc' := 9) C ⟨wm_1718, wm_71⟩ rfl hzz3 (c_X12_maskOf (nx := nx) hzx4) yw_X12_maskOf wm_1716 rfl rfl (Nat.le_of_ble_eq_true rfl) ⟨by decide, by decide⟩ dX12_cubeAt_6 rfl rfl ?_
    refine j_goto (tgt := 17) C dX12_cubeAt_9 rfl ?_
    have hr := Option.some.inj hr
    subst hr
    exact j_iret C hq hret dX12_cubeAt_17
def m_X12_cube (ce : Ce) (this : Nat) (p1 : Int32) (p2 : Int32) (p3 : Int32) : Option (Int32) :=
  (gA ce 9 0 this).bind fun zx1 =>
  (aI ce zx1 (4 : Int32)).bind fun zx2 =>
  (m_X12_isIn p1 (1 : Int32) zx2).bind fun zx3 =>
  if zx3 = 0 then
    some (-2 : Int32)
  else
    if p2 = (-1 : Int32) then
      (rcv ce 9 this).bind fun zz10 =>
      (m_X12_manyOf ce this p1).bind fun zx11 =>
      some zx11
    else
      (
        if 0 ≤ p2 then
          (rcv ce 9 this).bind fun zz8 =>
          (m_X12_cubeBy ce this p1 p2).bind fun zx9 =>
          some zx9
        else
          some (-1 : Int32)
      ).bind fun (zj4 : Int32) =>
      if zj4 = (-1 : Int32) then
        some (-2 : Int32)
      else
        (m_X12_isIn p3 (0 : Int32) (1 : Int32)).bind fun zx5 =>
        if zx5 = 0 then
          some (-2 : Int32)
        else
          (rcv ce 9 this).bind fun zz6 =>
          (m_X12_cubeAt ce this zj4 p3).bind fun zx7 =>
          some zx7
set_option maxRecDepth 100000 in
set_option maxHeartbeats 4000000 in
theorem c_X12_cube {nx : Nat} {ce : Ce} {this : Nat} {p1 : Int32} {p2 : Int32} {p3 : Int32} {q : Int32} (hr : m_X12_cube ce this p1 p2 p3 = some q) : Ct yX12_cube cX12_cube 5 (some .int) 2 45 0 0 [.ref this, .int p1, .int p2, .int p3] nx ce (some (.int q)) ce := by
  unfold m_X12_cube at hr
  refine ct_of (by decide) (Nat.le_of_ble_eq_true rfl) ?_
  intro G C hq hret hin
  show Jd G 0 0 nx ce 0 [(0, .ref this), (1, .int p1), (2, .int p2), (3, .int p3)] []
  refine j_iload_n (q := 1) (pc' := 1) C dX12_cube_0 rfl rfl rfl ?_
  refine j_iconst (v := 1) (pc' := 2) C dX12_cube_1 kI_1 rfl ?_
  refine j_aload_n (q := 0) (pc' := 3) C dX12_cube_2 rfl rfl rfl ?_
  obtain ⟨zx1, hzx1, hr⟩ := ob hr
  refine j_getA (pc' := 6) C dX12_cube_3 fl_X12_8 hzx1 rfl ?_
  refine j_iconst (v := 4) (pc' := 7) C dX12_cube_6 kI_4 rfl ?_
  obtain ⟨zx2, hzx2, hr⟩ := ob hr
  refine j_iald (pc' := 8) C dX12_cube_7 hzx2 rfl ?_
  obtain ⟨zx3, hzx3, hr⟩ := ob hr
  refine j_callS (As := [.int p1, .int (1 : Int32), .int zx2]) (rest := []) (st1 := [.int zx3]) (pc' := 11) C wm_1529 (c_X12_isIn (nx := nx) (ce := ce) hzx3) yw_X12_isIn wm_1528 rfl rfl (Nat.le_of_ble_eq_true rfl) ⟨by decide, by decide⟩ dX12_cube_8 rfl rfl ?_
  refine j_if_ne (tgt := 17) (pc' := 14) C dX12_cube_11 rfl rfl (fun hc => ?_) (fun hc => ?_)
  · have hr := ifF hc hr
    clear hc
    refine j_iload_n (q := 2) (pc' := 18) C dX12_cube_17 rfl rfl rfl ?_
    refine j_iconst (v := -1) (pc' := 19) C dX12_cube_18 kI_m1 rfl ?_
    refine j_ic_ne (tgt := 28) (pc' := 22) C dX12_cube_19 rfl rfl (fun hc => ?_) (fun hc => ?_)
    · have hr := ifF hc hr
      clear hc
      refine j_iload_n (q := 2) (pc' := 29) C dX12_cube_28 rfl rfl rfl ?_
      obtain ⟨zj4, hzj4, rzj4⟩ := ob hr
      have kzj4 : Jd G 0 0 nx ce 42 [(0, .ref this), (3, .int p3)] [.int zj4] := by
        have hr := rzj4
        refine j_istore (lv' := [(4, .int zj4), (0, .ref this), (3, .int p3)]) (pc' := 44) C dX12_cube_42 (by decide) rfl rfl ?_
        refine j_iload (q := 0) (pc' := 46) C dX12_cube_44 rfl rfl ?_
        refine j_iconst (v := -1) (pc' := 47) C dX12_cube_46 kI_m1 rfl ?_
        refine j_ic_eq (tgt := 59) (pc' := 50) C dX12_cube_47 rfl rfl (fun hc => ?_) (fun hc => ?_)
        · have hr := ifT hc hr
          clear hc
          refine j_bipush (v := -2) (pc' := 61) C dX12_cube_59 kB_m2 rfl ?_
          refine j_goto (tgt := 71) C dX12_cube_61 rfl ?_
          have hr := Option.some.inj hr
          subst hr
          exact j_iret C hq hret dX12_cube_71
        · have hr := ifF hc hr
          clear hc
          refine j_iload_n (q := 2) (pc' := 51) C dX12_cube_50 rfl rfl rfl ?_
          refine j_iconst (v := 0) (pc' := 52) C dX12_cube_51 kI_0 rfl ?_
          refine j_iconst (v := 1) (pc' := 53) C dX12_cube_52 kI_1 rfl ?_
          obtain ⟨zx5, hzx5, hr⟩ := ob hr
          refine j_callS (As := [.int p3, .int (0 : Int32), .int (1 : Int32)]) (rest := []) (st1 := [.int zx5]) (pc' := 56) C wm_1529 (c_X12_isIn (nx := nx) (ce := ce) hzx5) yw_X12_isIn wm_1528 rfl rfl (Nat.le_of_ble_eq_true rfl) ⟨by decide, by decide⟩ dX12_cube_53 rfl rfl ?_
          refine j_if_ne (tgt := 64) (pc' := 59) C dX12_cube_56 rfl rfl (fun hc => ?_) (fun hc => ?_)
          · have hr := ifF hc hr
            clear hc
            refine j_aload_n (q := 1) (pc' := 65) C dX12_cube_64 rfl rfl rfl ?_
            refine j_iload (q := 0) (pc' := 67) C dX12_cube_65 rfl rfl ?_
            refine j_iload_n (q := 2) (pc' := 68) C dX12_cube_67 rfl rfl rfl ?_
            obtain ⟨zz6, hzz6, hr⟩ := ob hr
            obtain ⟨zx7, hzx7, hr⟩ := ob hr
            obtain ⟨fhzz6, hzz6⟩ := rcv_sp hzz6
            refine j_callV (ci := 9) (As := [.int zj4, .int p3]) (rest := []) (st1 := [.int zx7]) (pc' := 71) C ⟨wm_1890, wm_100⟩ rfl hzz6 (c_X12_cubeAt (nx := nx) hzx7) yw_X12_cubeAt wm_1888 rfl rfl (Nat.le_of_ble_eq_true rfl) ⟨by decide, by decide⟩ dX12_cube_68 rfl rfl ?_
            have hr := Option.some.inj hr
            subst hr
            exact j_iret C hq hret dX12_cube_71
          · have hr := ifT hc hr
            clear hc
            refine j_bipush (v := -2) (pc' := 61) C dX12_cube_59 kB_m2 rfl ?_
            refine j_goto (tgt := 71) C dX12_cube_61 rfl ?_
            have hr := Option.some.inj hr
            subst hr
            exact j_iret C hq hret dX12_cube_71
      clear rzj4
      have hr := hzj4
      clear hzj4
      refine j_if_ge (tgt := 36) (pc' := 32) C dX12_cube_29 rfl rfl (fun hc => ?_) (fun hc => ?_)
      · have hr := ifT hc hr
        clear hc
        refine j_aload_n (q := 0) (pc' := 37) C dX12_cube_36 rfl rfl rfl ?_
        refine j_iload_n (q := 1) (pc' := 38) C dX12_cube_37 rfl rfl rfl ?_
        refine j_iload_n (q := 2) (pc' := 39) C dX12_cube_38 rfl rfl rfl ?_
        obtain ⟨zz8, hzz8, hr⟩ := ob hr
        obtain ⟨zx9, hzx9, hr⟩ := ob hr
        obtain ⟨fhzz8, hzz8⟩ := rcv_sp hzz8
        refine j_callV (ci := 9) (As := [.int p1, .int p2]) (rest := []) (st1 := [.int zx9]) (pc' := 42) C ⟨wm_1886, wm_99⟩ rfl hzz8 (c_X12_cubeBy (nx := nx) hzx9) yw_X12_cubeBy wm_1884 rfl rfl (Nat.le_of_ble_eq_true rfl) ⟨by decide, by decide⟩ dX12_cube_39 rfl rfl ?_
        have hr := Option.some.inj hr
        subst hr
        exact j_lv [0, 3] rfl kzj4
      · have hr := ifF hc hr
        clear hc
        refine j_iconst (v := -1) (pc' := 33) C dX12_cube_32 kI_m1 rfl ?_
        refine j_goto (tgt := 42) C dX12_cube_33 rfl ?_
        have hr := Option.some.inj hr
        subst hr
        exact j_lv [0, 3] rfl kzj4
    · have hr := ifT hc hr
      clear hc
      refine j_aload_n (q := 0) (pc' := 23) C dX12_cube_22 rfl rfl rfl ?_
      refine j_iload_n (q := 1) (pc' := 24) C dX12_cube_23 rfl rfl rfl ?_
      obtain ⟨zz10, hzz10, hr⟩ := ob hr
      obtain ⟨zx11, hzx11, hr⟩ := ob hr
      obtain ⟨fhzz10, hzz10⟩ := rcv_sp hzz10
      refine j_callV (ci := 9) (As := [.int p1]) (rest := []) (st1 := [.int zx11]) (pc' := 27) C ⟨wm_1823, wm_95⟩ rfl hzz10 (c_X12_manyOf (nx := nx) hzx11) yw_X12_manyOf wm_1821 rfl rfl (Nat.le_of_ble_eq_true rfl) ⟨by decide, by decide⟩ dX12_cube_24 rfl rfl ?_
      have hr := Option.some.inj hr
      subst hr
      exact j_iret C hq hret dX12_cube_27
  · have hr := ifT hc hr
    clear hc
    refine j_bipush (v := -2) (pc' := 16) C dX12_cube_14 kB_m2 rfl ?_
    have hr := Option.some.inj hr
    subst hr
    exact j_iret C hq hret dX12_cube_16
def m_X12_lineBy (ce : Ce) (this : Nat) (p1 : Int32) : Option (Int32) :=
  (rcv ce 9 this).bind fun zz1 =>
  (m_X12_nextLine ce this (-1 : Int32)).bind fun zx2 =>
  (it (fun (zs3 : Int32 × Int32) =>
    if p1 ≤ zs3.2 then
      some (Sum.inr zs3.1)
    else
      if zs3.1 = (-1 : Int32) then
        some (Sum.inr zs3.1)
      else
        (rcv ce 9 this).bind fun zz6 =>
        (m_X12_nextLine ce this zs3.1).bind fun zx7 =>
        some (Sum.inl (zx7, (zs3.2 + (1 : Int32))))
  ) FU (zx2, (0 : Int32))).bind fun (zo4 : Int32) =>
  some zo4
set_option maxRecDepth 100000 in
set_option maxHeartbeats 4000000 in
theorem c_X12_lineBy {nx : Nat} {ce : Ce} {this : Nat} {p1 : Int32} {q : Int32} (hr : m_X12_lineBy ce this p1 = some q) : Ct yX12_lineBy cX12_lineBy 4 (some .int) 3 68 0 0 [.ref this, .int p1] nx ce (some (.int q)) ce := by
  unfold m_X12_lineBy at hr
  refine ct_of (by decide) (Nat.le_of_ble_eq_true rfl) ?_
  intro G C hq hret hin
  show Jd G 0 0 nx ce 0 [(0, .ref this), (1, .int p1)] []
  refine j_aload_n (q := 0) (pc' := 1) C dX12_lineBy_0 rfl rfl rfl ?_
  refine j_iconst (v := -1) (pc' := 2) C dX12_lineBy_1 kI_m1 rfl ?_
  obtain ⟨zz1, hzz1, hr⟩ := ob hr
  obtain ⟨zx2, hzx2, hr⟩ := ob hr
  obtain ⟨fhzz1, hzz1⟩ := rcv_sp hzz1
  refine j_callV (ci := 9) (As := [.int (-1 : Int32)]) (rest := []) (st1 := [.int zx2]) (pc' := 5) C ⟨wm_1741, wm_76⟩ rfl hzz1 (c_X12_nextLine (nx := nx) hzx2) yw_X12_nextLine wm_1739 rfl rfl (Nat.le_of_ble_eq_true rfl) ⟨by decide, by decide⟩ dX12_lineBy_2 rfl rfl ?_
  refine j_istore_n (lv' := [(2, .int zx2), (0, .ref this), (1, .int p1)]) (pc' := 6) C dX12_lineBy_5 rfl (by decide) rfl rfl ?_
  refine j_iconst (v := 0) (pc' := 7) C dX12_lineBy_6 kI_0 rfl ?_
  refine j_istore_n (lv' := [(3, .int (0 : Int32)), (2, .int zx2), (0, .ref this), (1, .int p1)]) (pc' := 8) C dX12_lineBy_7 rfl (by decide) rfl rfl ?_
  obtain ⟨zo4, hzo4, rzo4⟩ := ob hr
  have kzo4 : Jd G 0 0 nx ce 30 [(2, .int zo4)] [] := by
    have hr := rzo4
    refine j_iload_n (q := 0) (pc' := 31) C dX12_lineBy_30 rfl rfl rfl ?_
    have hr := Option.some.inj hr
    subst hr
    exact j_iret C hq hret dX12_lineBy_31
  refine j_lv (lv' := [(0, .ref this), (1, .int p1), (2, .int zx2), (3, .int (0 : Int32))]) [2, 3, 1, 0] rfl ?_
  refine it_J (J := (fun (zs3 : Int32 × Int32) => Jd G 0 0 nx ce 8 [(0, .ref this), (1, .int p1), (2, .int zs3.1), (3, .int zs3.2)] [])) ?_ hzo4
  clear hzo4
  intro zs3 zr5 hr izs3 ezs3
  refine j_iload_n (q := 3) (pc' := 9) C dX12_lineBy_8 rfl rfl rfl ?_
  refine j_iload_n (q := 1) (pc' := 10) C dX12_lineBy_9 rfl rfl rfl ?_
  refine j_ic_ge (tgt := 30) (pc' := 13) C dX12_lineBy_10 rfl rfl (fun hc => ?_) (fun hc => ?_)
  · have hr := ifT hc hr
    clear hc
    have hr := ezs3 _ (Option.some.inj hr).symm
    subst hr
    exact j_lv [2] rfl kzo4
  · have hr := ifF hc hr
    clear hc
    refine j_iload_n (q := 2) (pc' := 14) C dX12_lineBy_13 rfl rfl rfl ?_
    refine j_iconst (v := -1) (pc' := 15) C dX12_lineBy_14 kI_m1 rfl ?_
    refine j_ic_eq (tgt := 30) (pc' := 18) C dX12_lineBy_15 rfl rfl (fun hc => ?_) (fun hc => ?_)
    · have hr := ifT hc hr
      clear hc
      have hr := ezs3 _ (Option.some.inj hr).symm
      subst hr
      exact j_lv [2] rfl kzo4
    · have hr := ifF hc hr
      clear hc
      refine j_aload_n (q := 0) (pc' := 19) C dX12_lineBy_18 rfl rfl rfl ?_
      refine j_iload_n (q := 2) (pc' := 20) C dX12_lineBy_19 rfl rfl rfl ?_
      obtain ⟨zz6, hzz6, hr⟩ := ob hr
      obtain ⟨zx7, hzx7, hr⟩ := ob hr
      obtain ⟨fhzz6, hzz6⟩ := rcv_sp hzz6
      refine j_callV (ci := 9) (As := [.int zs3.1]) (rest := []) (st1 := [.int zx7]) (pc' := 23) C ⟨wm_1741, wm_76⟩ rfl hzz6 (c_X12_nextLine (nx := nx) hzx7) yw_X12_nextLine wm_1739 rfl rfl (Nat.le_of_ble_eq_true rfl) ⟨by decide, by decide⟩ dX12_lineBy_20 rfl rfl ?_
      refine j_istore_n (lv' := [(2, .int zx7), (0, .ref this), (1, .int p1), (3, .int zs3.2)]) (pc' := 24) C dX12_lineBy_23 rfl (by decide) rfl rfl ?_
      refine j_iinc (q := 3) (v := 1) (lv' := [(3, .int (zs3.2 + (1 : Int32))), (2, .int zx7), (0, .ref this), (1, .int p1)]) (pc' := 27) C dX12_lineBy_24 rfl kI_1 (by decide) rfl rfl ?_
      refine j_goto (tgt := 8) C dX12_lineBy_27 rfl ?_
      have hr := izs3 (zx7, (zs3.2 + (1 : Int32))) (Option.some.inj hr).symm
      exact j_lv [2, 3, 1, 0] rfl hr
def m_X12_obligation (ce : Ce) (this : Nat) (p1 : Int32) (p2 : Int32) : Option (Int32) :=
  if p1 = (-1 : Int32) then
    (gA ce 9 0 this).bind fun zx9 =>
    (aI ce zx9 (9 : Int32)).bind fun zx10 =>
    some zx10
  else
    (gA ce 9 0 this).bind fun zx1 =>
    (aI ce zx1 (9 : Int32)).bind fun zx2 =>
    (m_X12_isIn p1 (0 : Int32) (zx2 - (1 : Int32))).bind fun zx3 =>
    if zx3 = 0 then
      some (-2 : Int32)
    else
      (m_X12_isIn p2 (0 : Int32) (3 : Int32)).bind fun zx4 =>
      if zx4 = 0 then
        some (-2 : Int32)
      else
        (rcv ce 9 this).bind fun zz5 =>
        (m_X12_lineBy ce this p1).bind fun zx6 =>
        (rcv ce 9 this).bind fun zz7 =>
        (m_X12_ofLine ce this zx6 p2).bind fun zx8 =>
        some zx8
set_option maxRecDepth 100000 in
set_option maxHeartbeats 4000000 in
theorem c_X12_obligation {nx : Nat} {ce : Ce} {this : Nat} {p1 : Int32} {p2 : Int32} {q : Int32} (hr : m_X12_obligation ce this p1 p2 = some q) : Ct yX12_obligation cX12_obligation 3 (some .int) 4 91 0 0 [.ref this, .int p1, .int p2] nx ce (some (.int q)) ce := by
  unfold m_X12_obligation at hr
  refine ct_of (by decide) (Nat.le_of_ble_eq_true rfl) ?_
  intro G C hq hret hin
  show Jd G 0 0 nx ce 0 [(0, .ref this), (1, .int p1), (2, .int p2)] []
  refine j_iload_n (q := 1) (pc' := 1) C dX12_obligation_0 rfl rfl rfl ?_
  refine j_iconst (v := -1) (pc' := 2) C dX12_obligation_1 kI_m1 rfl ?_
  refine j_ic_ne (tgt := 13) (pc' := 5) C dX12_obligation_2 rfl rfl (fun hc => ?_) (fun hc => ?_)
  · have hr := ifF hc hr
    clear hc
    refine j_iload_n (q := 1) (pc' := 14) C dX12_obligation_13 rfl rfl rfl ?_
    refine j_iconst (v := 0) (pc' := 15) C dX12_obligation_14 kI_0 rfl ?_
    refine j_aload_n (q := 0) (pc' := 16) C dX12_obligation_15 rfl rfl rfl ?_
    obtain ⟨zx1, hzx1, hr⟩ := ob hr
    refine j_getA (pc' := 19) C dX12_obligation_16 fl_X12_8 hzx1 rfl ?_
    refine j_bipush (v := 9) (pc' := 21) C dX12_obligation_19 kB_9 rfl ?_
    obtain ⟨zx2, hzx2, hr⟩ := ob hr
    refine j_iald (pc' := 22) C dX12_obligation_21 hzx2 rfl ?_
    refine j_iconst (v := 1) (pc' := 23) C dX12_obligation_22 kI_1 rfl ?_
    refine j_isub (pc' := 24) C dX12_obligation_23 rfl ?_
    obtain ⟨zx3, hzx3, hr⟩ := ob hr
    refine j_callS (As := [.int p1, .int (0 : Int32), .int (zx2 - (1 : Int32))]) (rest := []) (st1 := [.int zx3]) (pc' := 27) C wm_1529 (c_X12_isIn (nx := nx) (ce := ce) hzx3) yw_X12_isIn wm_1528 rfl rfl (Nat.le_of_ble_eq_true rfl) ⟨by decide, by decide⟩ dX12_obligation_24 rfl rfl ?_
    refine j_if_eq (tgt := 52) (pc' := 30) C dX12_obligation_27 rfl rfl (fun hc => ?_) (fun hc => ?_)
    · have hr := ifT hc hr
      clear hc
      refine j_bipush (v := -2) (pc' := 54) C dX12_obligation_52 kB_m2 rfl ?_
      have hr := Option.some.inj hr
      subst hr
      exact j_iret C hq hret dX12_obligation_54
    · have hr := ifF hc hr
      clear hc
      refine j_iload_n (q := 2) (pc' := 31) C dX12_obligation_30 rfl rfl rfl ?_
      refine j_iconst (v := 0) (pc' := 32) C dX12_obligation_31 kI_0 rfl ?_
      refine j_iconst (v := 3) (pc' := 33) C dX12_obligation_32 kI_3 rfl ?_
      obtain ⟨zx4, hzx4, hr⟩ := ob hr
      refine j_callS (As := [.int p2, .int (0 : Int32), .int (3 : Int32)]) (rest := []) (st1 := [.int zx4]) (pc' := 36) C wm_1529 (c_X12_isIn (nx := nx) (ce := ce) hzx4) yw_X12_isIn wm_1528 rfl rfl (Nat.le_of_ble_eq_true rfl) ⟨by decide, by decide⟩ dX12_obligation_33 rfl rfl ?_
      refine j_if_eq (tgt := 52) (pc' := 39) C dX12_obligation_36 rfl rfl (fun hc => ?_) (fun hc => ?_)
      · have hr := ifT hc hr
        clear hc
        refine j_bipush (v := -2) (pc' := 54) C dX12_obligation_52 kB_m2 rfl ?_
        have hr := Option.some.inj hr
        subst hr
        exact j_iret C hq hret dX12_obligation_54
      · have hr := ifF hc hr
        clear hc
        refine j_aload_n (q := 0) (pc' := 40) C dX12_obligation_39 rfl rfl rfl ?_
        refine j_aload_n (q := 0) (pc' := 41) C dX12_obligation_40 rfl rfl rfl ?_
        refine j_iload_n (q := 1) (pc' := 42) C dX12_obligation_41 rfl rfl rfl ?_
        obtain ⟨zz5, hzz5, hr⟩ := ob hr
        obtain ⟨zx6, hzx6, hr⟩ := ob hr
        obtain ⟨fhzz5, hzz5⟩ := rcv_sp hzz5
        refine j_callV (ci := 9) (As := [.int p1]) (rest := [.ref this]) (st1 := [.int zx6, .ref this]) (pc' := 45) C ⟨wm_1898, wm_101⟩ rfl hzz5 (c_X12_lineBy (nx := nx) hzx6) yw_X12_lineBy wm_1896 rfl rfl (Nat.le_of_ble_eq_true rfl) ⟨by decide, by decide⟩ dX12_obligation_42 rfl rfl ?_
        refine j_iload_n (q := 2) (pc' := 46) C dX12_obligation_45 rfl rfl rfl ?_
        obtain ⟨zz7, hzz7, hr⟩ := ob hr
        obtain ⟨zx8, hzx8, hr⟩ := ob hr
        obtain ⟨fhzz7, hzz7⟩ := rcv_sp hzz7
        refine j_callV (ci := 9) (As := [.int zx6, .int p2]) (rest := []) (st1 := [.int zx8]) (pc' := 49) C ⟨wm_1749, wm_78⟩ rfl hzz7 (c_X12_ofLine (nx := nx) hzx8) yw_X12_ofLine wm_1747 rfl rfl (Nat.le_of_ble_eq_true rfl) ⟨by decide, by decide⟩ dX12_obligation_46 rfl rfl ?_
        refine j_goto (tgt := 54) C dX12_obligation_49 rfl ?_
        have hr := Option.some.inj hr
        subst hr
        exact j_iret C hq hret dX12_obligation_54
  · have hr := ifT hc hr
    clear hc
    refine j_aload_n (q := 0) (pc' := 6) C dX12_obligation_5 rfl rfl rfl ?_
    obtain ⟨zx9, hzx9, hr⟩ := ob hr
    refine j_getA (pc' := 9) C dX12_obligation_6 fl_X12_8 hzx9 rfl ?_
    refine j_bipush (v := 9) (pc' := 11) C dX12_obligation_9 kB_9 rfl ?_
    obtain ⟨zx10, hzx10, hr⟩ := ob hr
    refine j_iald (pc' := 12) C dX12_obligation_11 hzx10 rfl ?_
    have hr := Option.some.inj hr
    subst hr
    exact j_iret C hq hret dX12_obligation_12
def m_X12_layTrace (ce : Ce) (this : Nat) : Option (Unit × Ce) :=
  (pV ce 9 28 this (.int (0 : Int32))).bind fun zc1 =>
  (gA zc1 9 0 this).bind fun zx2 =>
  (aI zc1 zx2 (5 : Int32)).bind fun zx3 =>
  (
    if zx3 = (4 : Int32) then
      (rcv zc1 9 this).bind fun zz19 =>
      (m_X12_nextLine zc1 this (-1 : Int32)).bind fun zx20 =>
      some zx20
    else
      some (-1 : Int32)
  ).bind fun (zj4 : Int32) =>
  (it (fun (zs5 : Int32 × Ce) =>
    if zs5.1 = (-1 : Int32) then
      some (Sum.inr ((), zs5.2))
    else
      (gA zs5.2 9 27 this).bind fun zx8 =>
      (gI zs5.2 9 28 this).bind fun zx9 =>
      (rcv zs5.2 9 this).bind fun zz10 =>
      (m_X12_ofLine zs5.2 this zs5.1 (0 : Int32)).bind fun zx11 =>
      (sI zs5.2 zx8 zx9 zx11).bind fun zc12 =>
      (gI zc12 9 28 this).bind fun zx13 =>
      (pV zc12 9 28 this (.int (zx13 + (1 : Int32)))).bind fun zc14 =>
      (rcv zc14 9 this).bind fun zz15 =>
      (m_X12_ofLine zc14 this zs5.1 (3 : Int32)).bind fun zx16 =>
      (rcv zc14 9 this).bind fun zz17 =>
      (m_X12_lineOf zc14 this zx16).bind fun zx18 =>
      some (Sum.inl (zx18, zc14))
  ) FU (zj4, zc1)).bind fun (zo6 : Unit × Ce) =>
  some ((), zo6.2)
set_option maxRecDepth 100000 in
set_option maxHeartbeats 4000000 in
theorem c_X12_layTrace {nx : Nat} {ce : Ce} {this : Nat} {q : Unit × Ce} (hr : m_X12_layTrace ce this = some q) : Ct yX12_layTrace cX12_layTrace 2 none 3 68 0 0 [.ref this] nx ce none q.2 := by
  unfold m_X12_layTrace at hr
  refine ct_of (by decide) (Nat.le_of_ble_eq_true rfl) ?_
  intro G C hq hret hin
  show Jd G 0 0 nx ce 0 [(0, .ref this)] []
  refine j_aload_n (q := 0) (pc' := 1) C dX12_layTrace_0 rfl rfl rfl ?_
  refine j_iconst (v := 0) (pc' := 2) C dX12_layTrace_1 kI_0 rfl ?_
  obtain ⟨zc1, hzc1, hr⟩ := ob hr
  refine j_put (pc' := 5) C dX12_layTrace_2 fw_X12_378 rfl rfl hzc1 rfl ?_
  refine j_aload_n (q := 0) (pc' := 6) C dX12_layTrace_5 rfl rfl rfl ?_
  obtain ⟨zx2, hzx2, hr⟩ := ob hr
  refine j_getA (pc' := 9) C dX12_layTrace_6 fl_X12_8 hzx2 rfl ?_
  refine j_iconst (v := 5) (pc' := 10) C dX12_layTrace_9 kI_5 rfl ?_
  obtain ⟨zx3, hzx3, hr⟩ := ob hr
  refine j_iald (pc' := 11) C dX12_layTrace_10 hzx3 rfl ?_
  refine j_iconst (v := 4) (pc' := 12) C dX12_layTrace_11 kI_4 rfl ?_
  obtain ⟨zj4, hzj4, rzj4⟩ := ob hr
  have kzj4 : Jd G 0 0 nx zc1 24 [(0, .ref this)] [.int zj4] := by
    have hr := rzj4
    refine j_istore_n (lv' := [(1, .int zj4), (0, .ref this)]) (pc' := 25) C dX12_layTrace_24 rfl (by decide) rfl rfl ?_
    obtain ⟨zo6, hzo6, rzo6⟩ := ob hr
    have kzo6 : Jd G 0 0 nx zo6.2 69 [] [] := by
      have hr := rzo6
      have hr := Option.some.inj hr
      subst hr
      exact j_vret C hq hret dX12_layTrace_69
    refine j_lv (lv' := [(0, .ref this), (1, .int zj4)]) [1, 0] rfl ?_
    refine it_J (J := (fun (zs5 : Int32 × Ce) => Jd G 0 0 nx zs5.2 25 [(0, .ref this), (1, .int zs5.1)] [])) ?_ hzo6
    clear hzo6
    intro zs5 zr7 hr izs5 ezs5
    refine j_iload_n (q := 1) (pc' := 26) C dX12_layTrace_25 rfl rfl rfl ?_
    refine j_iconst (v := -1) (pc' := 27) C dX12_layTrace_26 kI_m1 rfl ?_
    refine j_ic_eq (tgt := 69) (pc' := 30) C dX12_layTrace_27 rfl rfl (fun hc => ?_) (fun hc => ?_)
    · have hr := ifT hc hr
      clear hc
      have hr := ezs5 _ (Option.some.inj hr).symm
      subst hr
      exact j_lv [] rfl kzo6
    · have hr := ifF hc hr
      clear hc
      refine j_aload_n (q := 0) (pc' := 31) C dX12_layTrace_30 rfl rfl rfl ?_
      obtain ⟨zx8, hzx8, hr⟩ := ob hr
      refine j_getA (pc' := 34) C dX12_layTrace_31 fl_X12_59 hzx8 rfl ?_
      refine j_aload_n (q := 0) (pc' := 35) C dX12_layTrace_34 rfl rfl rfl ?_
      obtain ⟨zx9, hzx9, hr⟩ := ob hr
      refine j_getI (pc' := 38) C dX12_layTrace_35 fl_X12_378 hzx9 rfl ?_
      refine j_aload_n (q := 0) (pc' := 39) C dX12_layTrace_38 rfl rfl rfl ?_
      refine j_iload_n (q := 1) (pc' := 40) C dX12_layTrace_39 rfl rfl rfl ?_
      refine j_iconst (v := 0) (pc' := 41) C dX12_layTrace_40 kI_0 rfl ?_
      obtain ⟨zz10, hzz10, hr⟩ := ob hr
      obtain ⟨zx11, hzx11, hr⟩ := ob hr
      obtain ⟨fhzz10, hzz10⟩ := rcv_sp hzz10
      refine j_callV (ci := 9) (As := [.int zs5.1, .int (0 : Int32)]) (rest := [.int zx9, .ref zx8]) (st1 := [.int zx11, .int zx9, .ref zx8]) (pc' := 44) C ⟨wm_1749, wm_78⟩ rfl hzz10 (c_X12_ofLine (nx := nx) hzx11) yw_X12_ofLine wm_1747 rfl rfl (Nat.le_of_ble_eq_true rfl) ⟨by decide, by decide⟩ dX12_layTrace_41 rfl rfl ?_
      obtain ⟨zc12, hzc12, hr⟩ := ob hr
      refine j_iast (pc' := 45) C dX12_layTrace_44 hzc12 rfl ?_
      refine j_aload_n (q := 0) (pc' := 46) C dX12_layTrace_45 rfl rfl rfl ?_
      refine j_dup (pc' := 47) C dX12_layTrace_46 rfl rfl ?_
      obtain ⟨zx13, hzx13, hr⟩ := ob hr
      refine j_getI (pc' := 50) C dX12_layTrace_47 fl_X12_378 hzx13 rfl ?_
      refine j_iconst (v := 1) (pc' := 51) C dX12_layTrace_50 kI_1 rfl ?_
      refine j_iadd (pc' := 52) C dX12_layTrace_51 rfl ?_
      obtain ⟨zc14, hzc14, hr⟩ := ob hr
      refine j_put (pc' := 55) C dX12_layTrace_52 fw_X12_378 rfl rfl hzc14 rfl ?_
      refine j_aload_n (q := 0) (pc' := 56) C dX12_layTrace_55 rfl rfl rfl ?_
      refine j_aload_n (q := 0) (pc' := 57) C dX12_layTrace_56 rfl rfl rfl ?_
      refine j_iload_n (q := 1) (pc' := 58) C dX12_layTrace_57 rfl rfl rfl ?_
      refine j_iconst (v := 3) (pc' := 59) C dX12_layTrace_58 kI_3 rfl ?_
      obtain ⟨zz15, hzz15, hr⟩ := ob hr
      obtain ⟨zx16, hzx16, hr⟩ := ob hr
      obtain ⟨fhzz15, hzz15⟩ := rcv_sp hzz15
      refine j_callV (ci := 9) (As := [.int zs5.1, .int (3 : Int32)]) (rest := [.ref this]) (st1 := [.int zx16, .ref this]) (pc' := 62) C ⟨wm_1749, wm_78⟩ rfl hzz15 (c_X12_ofLine (nx := nx) hzx16) yw_X12_ofLine wm_1747 rfl rfl (Nat.le_of_ble_eq_true rfl) ⟨by decide, by decide⟩ dX12_layTrace_59 rfl rfl ?_
      obtain ⟨zz17, hzz17, hr⟩ := ob hr
      obtain ⟨zx18, hzx18, hr⟩ := ob hr
      obtain ⟨fhzz17, hzz17⟩ := rcv_sp hzz17
      refine j_callV (ci := 9) (As := [.int zx16]) (rest := []) (st1 := [.int zx18]) (pc' := 65) C ⟨wm_1910, wm_103⟩ rfl hzz17 (c_X12_lineOf (nx := nx) hzx18) yw_X12_lineOf wm_1908 rfl rfl (Nat.le_of_ble_eq_true rfl) ⟨by decide, by decide⟩ dX12_layTrace_62 rfl rfl ?_
      refine j_istore_n (lv' := [(1, .int zx18), (0, .ref this)]) (pc' := 66) C dX12_layTrace_65 rfl (by decide) rfl rfl ?_
      refine j_goto (tgt := 25) C dX12_layTrace_66 rfl ?_
      have hr := izs5 (zx18, zc14) (Option.some.inj hr).symm
      exact j_lv [1, 0] rfl hr
  clear rzj4
  have hr := hzj4
  clear hzj4
  refine j_ic_ne (tgt := 23) (pc' := 15) C dX12_layTrace_12 rfl rfl (fun hc => ?_) (fun hc => ?_)
  · have hr := ifF hc hr
    clear hc
    refine j_iconst (v := -1) (pc' := 24) C dX12_layTrace_23 kI_m1 rfl ?_
    have hr := Option.some.inj hr
    subst hr
    exact j_lv [0] rfl kzj4
  · have hr := ifT hc hr
    clear hc
    refine j_aload_n (q := 0) (pc' := 16) C dX12_layTrace_15 rfl rfl rfl ?_
    refine j_iconst (v := -1) (pc' := 17) C dX12_layTrace_16 kI_m1 rfl ?_
    obtain ⟨zz19, hzz19, hr⟩ := ob hr
    obtain ⟨zx20, hzx20, hr⟩ := ob hr
    obtain ⟨fhzz19, hzz19⟩ := rcv_sp hzz19
    refine j_callV (ci := 9) (As := [.int (-1 : Int32)]) (rest := []) (st1 := [.int zx20]) (pc' := 20) C ⟨wm_1741, wm_76⟩ rfl hzz19 (c_X12_nextLine (nx := nx) hzx20) yw_X12_nextLine wm_1739 rfl rfl (Nat.le_of_ble_eq_true rfl) ⟨by decide, by decide⟩ dX12_layTrace_17 rfl rfl ?_
    refine j_goto (tgt := 24) C dX12_layTrace_20 rfl ?_
    have hr := Option.some.inj hr
    subst hr
    exact j_lv [0] rfl kzj4
def m_X12_ofWay (ce : Ce) (this : Nat) (p1 : Int32) (p2 : Int32) : Option (Int32) :=
  if p1 = (-1 : Int32) then
    (gI ce 9 28 this).bind fun zx16 =>
    some zx16
  else
    (gI ce 9 28 this).bind fun zx1 =>
    (m_X12_isIn p1 (0 : Int32) (zx1 - (1 : Int32))).bind fun zx2 =>
    if zx2 = 0 then
      some (-2 : Int32)
    else
      (m_X12_isIn p2 (0 : Int32) (1 : Int32)).bind fun zx3 =>
      if zx3 = 0 then
        some (-2 : Int32)
      else
        if p2 = 0 then
          (gA ce 9 27 this).bind fun zx14 =>
          (aI ce zx14 p1).bind fun zx15 =>
          some zx15
        else
          (it (fun (zs4 : Int32) =>
            if (4 : Int32) ≤ zs4 then
              some (Sum.inr (Sum.inr ()))
            else
              (gI ce 9 28 this).bind fun zx7 =>
              if zx7 ≤ (p1 + (1 : Int32)) then
                some (Sum.inr (Sum.inr ()))
              else
                (gA ce 9 27 this).bind fun zx8 =>
                (aI ce zx8 p1).bind fun zx9 =>
                (rcv ce 9 this).bind fun zz10 =>
                (m_X12_succOf ce this zx9 zs4).bind fun zx11 =>
                (gA ce 9 27 this).bind fun zx12 =>
                (aI ce zx12 (p1 + (1 : Int32))).bind fun zx13 =>
                if zx11 = zx13 then
                  some (Sum.inr (Sum.inl zs4))
                else
                  some (Sum.inl (zs4 + (1 : Int32)))
          ) FU (0 : Int32)).bind fun (zo5 : Int32 ⊕ Unit) =>
          Sum.elim (fun wzo5 => some wzo5) (fun vzo5 =>
            some (-1 : Int32)
          ) zo5
set_option maxRecDepth 100000 in
set_option maxHeartbeats 4000000 in
theorem c_X12_ofWay {nx : Nat} {ce : Ce} {this : Nat} {p1 : Int32} {p2 : Int32} {q : Int32} (hr : m_X12_ofWay ce this p1 p2 = some q) : Ct yX12_ofWay cX12_ofWay 4 (some .int) 1 22 0 0 [.ref this, .int p1, .int p2] nx ce (some (.int q)) ce := by
  unfold m_X12_ofWay at hr
  refine ct_of (by decide) (Nat.le_of_ble_eq_true rfl) ?_
  intro G C hq hret hin
  show Jd G 0 0 nx ce 0 [(0, .ref this), (1, .int p1), (2, .int p2)] []
  refine j_iload_n (q := 1) (pc' := 1) C dX12_ofWay_0 rfl rfl rfl ?_
  refine j_iconst (v := -1) (pc' := 2) C dX12_ofWay_1 kI_m1 rfl ?_
  refine j_ic_ne (tgt := 10) (pc' := 5) C dX12_ofWay_2 rfl rfl (fun hc => ?_) (fun hc => ?_)
  · have hr := ifF hc hr
    clear hc
    refine j_iload_n (q := 1) (pc' := 11) C dX12_ofWay_10 rfl rfl rfl ?_
    refine j_iconst (v := 0) (pc' := 12) C dX12_ofWay_11 kI_0 rfl ?_
    refine j_aload_n (q := 0) (pc' := 13) C dX12_ofWay_12 rfl rfl rfl ?_
    obtain ⟨zx1, hzx1, hr⟩ := ob hr
    refine j_getI (pc' := 16) C dX12_ofWay_13 fl_X12_378 hzx1 rfl ?_
    refine j_iconst (v := 1) (pc' := 17) C dX12_ofWay_16 kI_1 rfl ?_
    refine j_isub (pc' := 18) C dX12_ofWay_17 rfl ?_
    obtain ⟨zx2, hzx2, hr⟩ := ob hr
    refine j_callS (As := [.int p1, .int (0 : Int32), .int (zx1 - (1 : Int32))]) (rest := []) (st1 := [.int zx2]) (pc' := 21) C wm_1529 (c_X12_isIn (nx := nx) (ce := ce) hzx2) yw_X12_isIn wm_1528 rfl rfl (Nat.le_of_ble_eq_true rfl) ⟨by decide, by decide⟩ dX12_ofWay_18 rfl rfl ?_
    refine j_if_eq (tgt := 33) (pc' := 24) C dX12_ofWay_21 rfl rfl (fun hc => ?_) (fun hc => ?_)
    · have hr := ifT hc hr
      clear hc
      refine j_bipush (v := -2) (pc' := 35) C dX12_ofWay_33 kB_m2 rfl ?_
      have hr := Option.some.inj hr
      subst hr
      exact j_iret C hq hret dX12_ofWay_35
    · have hr := ifF hc hr
      clear hc
      refine j_iload_n (q := 2) (pc' := 25) C dX12_ofWay_24 rfl rfl rfl ?_
      refine j_iconst (v := 0) (pc' := 26) C dX12_ofWay_25 kI_0 rfl ?_
      refine j_iconst (v := 1) (pc' := 27) C dX12_ofWay_26 kI_1 rfl ?_
      obtain ⟨zx3, hzx3, hr⟩ := ob hr
      refine j_callS (As := [.int p2, .int (0 : Int32), .int (1 : Int32)]) (rest := []) (st1 := [.int zx3]) (pc' := 30) C wm_1529 (c_X12_isIn (nx := nx) (ce := ce) hzx3) yw_X12_isIn wm_1528 rfl rfl (Nat.le_of_ble_eq_true rfl) ⟨by decide, by decide⟩ dX12_ofWay_27 rfl rfl ?_
      refine j_if_ne (tgt := 36) (pc' := 33) C dX12_ofWay_30 rfl rfl (fun hc => ?_) (fun hc => ?_)
      · have hr := ifF hc hr
        clear hc
        refine j_iload_n (q := 2) (pc' := 37) C dX12_ofWay_36 rfl rfl rfl ?_
        refine j_if_ne (tgt := 47) (pc' := 40) C dX12_ofWay_37 rfl rfl (fun hc => ?_) (fun hc => ?_)
        · have hr := ifF hc hr
          clear hc
          refine j_iconst (v := 0) (pc' := 48) C dX12_ofWay_47 kI_0 rfl ?_
          refine j_istore_n (lv' := [(3, .int (0 : Int32)), (0, .ref this), (1, .int p1), (2, .int p2)]) (pc' := 49) C dX12_ofWay_48 rfl (by decide) rfl rfl ?_
          obtain ⟨zo5, hzo5, rzo5⟩ := ob hr
          have kzo5 : ∀ vzo5, zo5 = Sum.inr vzo5 → Jd G 0 0 nx ce 94 [] [] := by
            intro vzo5 ezo5
            rw [ezo5] at rzo5
            have hr := elR rzo5
            refine j_iconst (v := -1) (pc' := 95) C dX12_ofWay_94 kI_m1 rfl ?_
            have hr := Option.some.inj hr
            subst hr
            exact j_iret C hq hret dX12_ofWay_95
          refine j_lv (lv' := [(0, .ref this), (1, .int p1), (3, .int (0 : Int32))]) [1, 2, 0] rfl ?_
          refine it_J (J := (fun (zs4 : Int32) => Jd G 0 0 nx ce 49 [(0, .ref this), (1, .int p1), (3, .int zs4)] [])) ?_ hzo5
          clear hzo5
          intro zs4 zr6 hr izs4 ezs4
          refine j_iload_n (q := 2) (pc' := 50) C dX12_ofWay_49 rfl rfl rfl ?_
          refine j_iconst (v := 4) (pc' := 51) C dX12_ofWay_50 kI_4 rfl ?_
          refine j_ic_ge (tgt := 94) (pc' := 54) C dX12_ofWay_51 rfl rfl (fun hc => ?_) (fun hc => ?_)
          · have hr := ifT hc hr
            clear hc
            have hr := ezs4 _ (Option.some.inj hr).symm
            subst hr
            exact j_lv [] rfl (kzo5 _ rfl)
          · have hr := ifF hc hr
            clear hc
            refine j_iload_n (q := 1) (pc' := 55) C dX12_ofWay_54 rfl rfl rfl ?_
            refine j_iconst (v := 1) (pc' := 56) C dX12_ofWay_55 kI_1 rfl ?_
            refine j_iadd (pc' := 57) C dX12_ofWay_56 rfl ?_
            refine j_aload_n (q := 0) (pc' := 58) C dX12_ofWay_57 rfl rfl rfl ?_
            obtain ⟨zx7, hzx7, hr⟩ := ob hr
            refine j_getI (pc' := 61) C dX12_ofWay_58 fl_X12_378 hzx7 rfl ?_
            refine j_ic_ge (tgt := 94) (pc' := 64) C dX12_ofWay_61 rfl rfl (fun hc => ?_) (fun hc => ?_)
            · have hr := ifT hc hr
              clear hc
              have hr := ezs4 _ (Option.some.inj hr).symm
              subst hr
              exact j_lv [] rfl (kzo5 _ rfl)
            · have hr := ifF hc hr
              clear hc
              refine j_aload_n (q := 0) (pc' := 65) C dX12_ofWay_64 rfl rfl rfl ?_
              refine j_aload_n (q := 0) (pc' := 66) C dX12_ofWay_65 rfl rfl rfl ?_
              obtain ⟨zx8, hzx8, hr⟩ := ob hr
              refine j_getA (pc' := 69) C dX12_ofWay_66 fl_X12_59 hzx8 rfl ?_
              refine j_iload_n (q := 1) (pc' := 70) C dX12_ofWay_69 rfl rfl rfl ?_
              obtain ⟨zx9, hzx9, hr⟩ := ob hr
              refine j_iald (pc' := 71) C dX12_ofWay_70 hzx9 rfl ?_
              refine j_iload_n (q := 2) (pc' := 72) C dX12_ofWay_71 rfl rfl rfl ?_
              obtain ⟨zz10, hzz10, hr⟩ := ob hr
              obtain ⟨zx11, hzx11, hr⟩ := ob hr
              obtain ⟨fhzz10, hzz10⟩ := rcv_sp hzz10
              refine j_callV (ci := 9) (As := [.int zx9, .int zs4]) (rest := []) (st1 := [.int zx11]) (pc' := 75) C ⟨wm_1769, wm_83⟩ rfl hzz10 (c_X12_succOf (nx := nx) hzx11) yw_X12_succOf wm_1767 rfl rfl (Nat.le_of_ble_eq_true rfl) ⟨by decide, by decide⟩ dX12_ofWay_72 rfl rfl ?_
              refine j_aload_n (q := 0) (pc' := 76) C dX12_ofWay_75 rfl rfl rfl ?_
              obtain ⟨zx12, hzx12, hr⟩ := ob hr
              refine j_getA (pc' := 79) C dX12_ofWay_76 fl_X12_59 hzx12 rfl ?_
              refine j_iload_n (q := 1) (pc' := 80) C dX12_ofWay_79 rfl rfl rfl ?_
              refine j_iconst (v := 1) (pc' := 81) C dX12_ofWay_80 kI_1 rfl ?_
              refine j_iadd (pc' := 82) C dX12_ofWay_81 rfl ?_
              obtain ⟨zx13, hzx13, hr⟩ := ob hr
              refine j_iald (pc' := 83) C dX12_ofWay_82 hzx13 rfl ?_
              refine j_ic_ne (tgt := 88) (pc' := 86) C dX12_ofWay_83 rfl rfl (fun hc => ?_) (fun hc => ?_)
              · have hr := ifF hc hr
                clear hc
                refine j_iinc (q := 2) (v := 1) (lv' := [(3, .int (zs4 + (1 : Int32))), (0, .ref this), (1, .int p1)]) (pc' := 91) C dX12_ofWay_88 rfl kI_1 (by decide) rfl rfl ?_
                refine j_goto (tgt := 49) C dX12_ofWay_91 rfl ?_
                have hr := izs4 (zs4 + (1 : Int32)) (Option.some.inj hr).symm
                exact j_lv [1, 2, 0] rfl hr
              · have hr := ifT hc hr
                clear hc
                refine j_iload_n (q := 2) (pc' := 87) C dX12_ofWay_86 rfl rfl rfl ?_
                have hr := ezs4 _ (Option.some.inj hr).symm
                subst hr
                have hr := elL rzo5
                have hr := Option.some.inj hr
                subst hr
                exact j_iret C hq hret dX12_ofWay_87
        · have hr := ifT hc hr
          clear hc
          refine j_aload_n (q := 0) (pc' := 41) C dX12_ofWay_40 rfl rfl rfl ?_
          obtain ⟨zx14, hzx14, hr⟩ := ob hr
          refine j_getA (pc' := 44) C dX12_ofWay_41 fl_X12_59 hzx14 rfl ?_
          refine j_iload_n (q := 1) (pc' := 45) C dX12_ofWay_44 rfl rfl rfl ?_
          obtain ⟨zx15, hzx15, hr⟩ := ob hr
          refine j_iald (pc' := 46) C dX12_ofWay_45 hzx15 rfl ?_
          have hr := Option.some.inj hr
          subst hr
          exact j_iret C hq hret dX12_ofWay_46
      · have hr := ifT hc hr
        clear hc
        refine j_bipush (v := -2) (pc' := 35) C dX12_ofWay_33 kB_m2 rfl ?_
        have hr := Option.some.inj hr
        subst hr
        exact j_iret C hq hret dX12_ofWay_35
  · have hr := ifT hc hr
    clear hc
    refine j_aload_n (q := 0) (pc' := 6) C dX12_ofWay_5 rfl rfl rfl ?_
    obtain ⟨zx16, hzx16, hr⟩ := ob hr
    refine j_getI (pc' := 9) C dX12_ofWay_6 fl_X12_378 hzx16 rfl ?_
    have hr := Option.some.inj hr
    subst hr
    exact j_iret C hq hret dX12_ofWay_9
def m_X12_trace (ce : Ce) (this : Nat) (p1 : Int32) (p2 : Int32) : Option (Int32 × Ce) :=
  (rcv ce 9 this).bind fun zz1 =>
  (m_X12_layTrace ce this).bind fun zq2 =>
  (rcv zq2.2 9 this).bind fun zz3 =>
  (m_X12_ofWay zq2.2 this p1 p2).bind fun zx4 =>
  some (zx4, zq2.2)
set_option maxRecDepth 100000 in
set_option maxHeartbeats 4000000 in
theorem c_X12_trace {nx : Nat} {ce : Ce} {this : Nat} {p1 : Int32} {p2 : Int32} {q : Int32 × Ce} (hr : m_X12_trace ce this p1 p2 = some q) : Ct yX12_trace cX12_trace 3 (some .int) 4 89 0 0 [.ref this, .int p1, .int p2] nx ce (some (.int q.1)) q.2 := by
  unfold m_X12_trace at hr
  refine ct_of (by decide) (Nat.le_of_ble_eq_true rfl) ?_
  intro G C hq hret hin
  show Jd G 0 0 nx ce 0 [(0, .ref this), (1, .int p1), (2, .int p2)] []
  refine j_aload_n (q := 0) (pc' := 1) C dX12_trace_0 rfl rfl rfl ?_
  obtain ⟨zz1, hzz1, hr⟩ := ob hr
  obtain ⟨zq2, hzq2, hr⟩ := ob hr
  obtain ⟨fhzz1, hzz1⟩ := rcv_sp hzz1
  refine j_callV (ci := 9) (As := []) (rest := []) (st1 := []) (pc' := 4) C ⟨wm_1906, wm_102⟩ rfl hzz1 (c_X12_layTrace (nx := nx) hzq2) yw_X12_layTrace wm_1904 rfl rfl (Nat.le_of_ble_eq_true rfl) ⟨by decide, by decide⟩ dX12_trace_1 rfl rfl ?_
  refine j_aload_n (q := 0) (pc' := 5) C dX12_trace_4 rfl rfl rfl ?_
  refine j_iload_n (q := 1) (pc' := 6) C dX12_trace_5 rfl rfl rfl ?_
  refine j_iload_n (q := 2) (pc' := 7) C dX12_trace_6 rfl rfl rfl ?_
  obtain ⟨zz3, hzz3, hr⟩ := ob hr
  obtain ⟨zx4, hzx4, hr⟩ := ob hr
  obtain ⟨fhzz3, hzz3⟩ := rcv_sp hzz3
  refine j_callV (ci := 9) (As := [.int p1, .int p2]) (rest := []) (st1 := [.int zx4]) (pc' := 10) C ⟨wm_1914, wm_104⟩ rfl hzz3 (c_X12_ofWay (nx := nx) hzx4) yw_X12_ofWay wm_1912 rfl rfl (Nat.le_of_ble_eq_true rfl) ⟨by decide, by decide⟩ dX12_trace_7 rfl rfl ?_
  have hr := Option.some.inj hr
  subst hr
  exact j_iret C hq hret dX12_trace_10
def m_X12_addJudged (ce : Ce) (this : Nat) (p1 : Int32) (p2 : Int32) : Option (Unit × Ce) :=
  (gA ce 9 29 this).bind fun zx1 =>
  (gI ce 9 31 this).bind fun zx2 =>
  (sI ce zx1 zx2 p1).bind fun zc3 =>
  (gA zc3 9 30 this).bind fun zx4 =>
  (gI zc3 9 31 this).bind fun zx5 =>
  (sI zc3 zx4 zx5 p2).bind fun zc6 =>
  (gI zc6 9 31 this).bind fun zx7 =>
  (pV zc6 9 31 this (.int (zx7 + (1 : Int32)))).bind fun zc8 =>
  some ((), zc8)
set_option maxRecDepth 100000 in
set_option maxHeartbeats 4000000 in
theorem c_X12_addJudged {nx : Nat} {ce : Ce} {this : Nat} {p1 : Int32} {p2 : Int32} {q : Unit × Ce} (hr : m_X12_addJudged ce this p1 p2 = some q) : Ct yX12_addJudged cX12_addJudged 3 none 0 0 0 0 [.ref this, .int p1, .int p2] nx ce none q.2 := by
  unfold m_X12_addJudged at hr
  refine ct_of (by decide) (Nat.le_of_ble_eq_true rfl) ?_
  intro G C hq hret hin
  show Jd G 0 0 nx ce 0 [(0, .ref this), (1, .int p1), (2, .int p2)] []
  refine j_aload_n (q := 0) (pc' := 1) C dX12_addJudged_0 rfl rfl rfl ?_
  obtain ⟨zx1, hzx1, hr⟩ := ob hr
  refine j_getA (pc' := 4) C dX12_addJudged_1 fl_X12_62 hzx1 rfl ?_
  refine j_aload_n (q := 0) (pc' := 5) C dX12_addJudged_4 rfl rfl rfl ?_
  obtain ⟨zx2, hzx2, hr⟩ := ob hr
  refine j_getI (pc' := 8) C dX12_addJudged_5 fl_X12_390 hzx2 rfl ?_
  refine j_iload_n (q := 1) (pc' := 9) C dX12_addJudged_8 rfl rfl rfl ?_
  obtain ⟨zc3, hzc3, hr⟩ := ob hr
  refine j_iast (pc' := 10) C dX12_addJudged_9 hzc3 rfl ?_
  refine j_aload_n (q := 0) (pc' := 11) C dX12_addJudged_10 rfl rfl rfl ?_
  obtain ⟨zx4, hzx4, hr⟩ := ob hr
  refine j_getA (pc' := 14) C dX12_addJudged_11 fl_X12_65 hzx4 rfl ?_
  refine j_aload_n (q := 0) (pc' := 15) C dX12_addJudged_14 rfl rfl rfl ?_
  obtain ⟨zx5, hzx5, hr⟩ := ob hr
  refine j_getI (pc' := 18) C dX12_addJudged_15 fl_X12_390 hzx5 rfl ?_
  refine j_iload_n (q := 2) (pc' := 19) C dX12_addJudged_18 rfl rfl rfl ?_
  obtain ⟨zc6, hzc6, hr⟩ := ob hr
  refine j_iast (pc' := 20) C dX12_addJudged_19 hzc6 rfl ?_
  refine j_aload_n (q := 0) (pc' := 21) C dX12_addJudged_20 rfl rfl rfl ?_
  refine j_dup (pc' := 22) C dX12_addJudged_21 rfl rfl ?_
  obtain ⟨zx7, hzx7, hr⟩ := ob hr
  refine j_getI (pc' := 25) C dX12_addJudged_22 fl_X12_390 hzx7 rfl ?_
  refine j_iconst (v := 1) (pc' := 26) C dX12_addJudged_25 kI_1 rfl ?_
  refine j_iadd (pc' := 27) C dX12_addJudged_26 rfl ?_
  obtain ⟨zc8, hzc8, hr⟩ := ob hr
  refine j_put (pc' := 30) C dX12_addJudged_27 fw_X12_390 rfl rfl hzc8 rfl ?_
  have hr := Option.some.inj hr
  subst hr
  exact j_vret C hq hret dX12_addJudged_30
def m_X12_layFence (ce : Ce) (this : Nat) : Option (Unit × Ce) :=
  (pV ce 9 31 this (.int (0 : Int32))).bind fun zc1 =>
  (gA zc1 9 0 this).bind fun zx2 =>
  (aI zc1 zx2 (6 : Int32)).bind fun zx3 =>
  (it (fun (zs4 : Int32 × Ce) =>
    (gA zs4.2 9 0 this).bind fun zx7 =>
    (aI zs4.2 zx7 (4 : Int32)).bind fun zx8 =>
    if zx8 < zs4.1 then
      some (Sum.inr ((), zs4.2))
    else
      (gA zs4.2 9 0 this).bind fun zx9 =>
      (aI zs4.2 zx9 (5 : Int32)).bind fun zx10 =>
      if zx10 = (3 : Int32) then
        (it (fun (zs11 : Int32 × Ce) =>
          (gA zs11.2 9 0 this).bind fun zx14 =>
          (aI zs11.2 zx14 (17 : Int32)).bind fun zx15 =>
          if zx15 ≤ zs11.1 then
            some (Sum.inr ((), zs11.2))
          else
            (rcv zs11.2 9 this).bind fun zz16 =>
            (m_X12_frameOf zs11.2 this zs11.1).bind fun zx17 =>
            if zx17 = zs4.1 then
              (rcv zs11.2 9 this).bind fun zz18 =>
              (m_X12_maskOf zs11.2 this zs11.1).bind fun zx19 =>
              (rcv zs11.2 9 this).bind fun zz20 =>
              (m_X12_bitsOf zs11.2 this zs11.1).bind fun zx21 =>
              (rcv zs11.2 9 this).bind fun zz22 =>
              (m_X12_addJudged zs11.2 this zx19 zx21).bind fun zq23 =>
              some (Sum.inl ((zs11.1 + (1 : Int32)), zq23.2))
            else
              some (Sum.inl ((zs11.1 + (1 : Int32)), zs11.2))
        ) FU ((0 : Int32), zs4.2)).bind fun (zo12 : Unit × Ce) =>
        some (Sum.inl ((zs4.1 + (1 : Int32)), zo12.2))
      else
        some (Sum.inr ((), zs4.2))
  ) FU ((zx3 + (1 : Int32)), zc1)).bind fun (zo5 : Unit × Ce) =>
  some ((), zo5.2)
set_option maxRecDepth 100000 in
set_option maxHeartbeats 4000000 in
theorem c_X12_layFence {nx : Nat} {ce : Ce} {this : Nat} {q : Unit × Ce} (hr : m_X12_layFence ce this = some q) : Ct yX12_layFence cX12_layFence 3 none 1 22 0 0 [.ref this] nx ce none q.2 := by
  unfold m_X12_layFence at hr
  refine ct_of (by decide) (Nat.le_of_ble_eq_true rfl) ?_
  intro G C hq hret hin
  show Jd G 0 0 nx ce 0 [(0, .ref this)] []
  refine j_aload_n (q := 0) (pc' := 1) C dX12_layFence_0 rfl rfl rfl ?_
  refine j_iconst (v := 0) (pc' := 2) C dX12_layFence_1 kI_0 rfl ?_
  obtain ⟨zc1, hzc1, hr⟩ := ob hr
  refine j_put (pc' := 5) C dX12_layFence_2 fw_X12_390 rfl rfl hzc1 rfl ?_
  refine j_aload_n (q := 0) (pc' := 6) C dX12_layFence_5 rfl rfl rfl ?_
  obtain ⟨zx2, hzx2, hr⟩ := ob hr
  refine j_getA (pc' := 9) C dX12_layFence_6 fl_X12_8 hzx2 rfl ?_
  refine j_bipush (v := 6) (pc' := 11) C dX12_layFence_9 kB_6 rfl ?_
  obtain ⟨zx3, hzx3, hr⟩ := ob hr
  refine j_iald (pc' := 12) C dX12_layFence_11 hzx3 rfl ?_
  refine j_iconst (v := 1) (pc' := 13) C dX12_layFence_12 kI_1 rfl ?_
  refine j_iadd (pc' := 14) C dX12_layFence_13 rfl ?_
  refine j_istore_n (lv' := [(1, .int (zx3 + (1 : Int32))), (0, .ref this)]) (pc' := 15) C dX12_layFence_14 rfl (by decide) rfl rfl ?_
  obtain ⟨zo5, hzo5, rzo5⟩ := ob hr
  have kzo5 : Jd G 0 0 nx zo5.2 83 [] [] := by
    have hr := rzo5
    have hr := Option.some.inj hr
    subst hr
    exact j_vret C hq hret dX12_layFence_83
  refine j_lv (lv' := [(0, .ref this), (1, .int (zx3 + (1 : Int32)))]) [1, 0] rfl ?_
  refine it_J (J := (fun (zs4 : Int32 × Ce) => Jd G 0 0 nx zs4.2 15 [(0, .ref this), (1, .int zs4.1)] [])) ?_ hzo5
  clear hzo5
  intro zs4 zr6 hr izs4 ezs4
  refine j_iload_n (q := 1) (pc' := 16) C dX12_layFence_15 rfl rfl rfl ?_
  refine j_aload_n (q := 0) (pc' := 17) C dX12_layFence_16 rfl rfl rfl ?_
  obtain ⟨zx7, hzx7, hr⟩ := ob hr
  refine j_getA (pc' := 20) C dX12_layFence_17 fl_X12_8 hzx7 rfl ?_
  refine j_iconst (v := 4) (pc' := 21) C dX12_layFence_20 kI_4 rfl ?_
  obtain ⟨zx8, hzx8, hr⟩ := ob hr
  refine j_iald (pc' := 22) C dX12_layFence_21 hzx8 rfl ?_
  refine j_ic_gt (tgt := 83) (pc' := 25) C dX12_layFence_22 rfl rfl (fun hc => ?_) (fun hc => ?_)
  · have hr := ifT hc hr
    clear hc
    have hr := ezs4 _ (Option.some.inj hr).symm
    subst hr
    exact j_lv [] rfl kzo5
  · have hr := ifF hc hr
    clear hc
    refine j_aload_n (q := 0) (pc' := 26) C dX12_layFence_25 rfl rfl rfl ?_
    obtain ⟨zx9, hzx9, hr⟩ := ob hr
    refine j_getA (pc' := 29) C dX12_layFence_26 fl_X12_8 hzx9 rfl ?_
    refine j_iconst (v := 5) (pc' := 30) C dX12_layFence_29 kI_5 rfl ?_
    obtain ⟨zx10, hzx10, hr⟩ := ob hr
    refine j_iald (pc' := 31) C dX12_layFence_30 hzx10 rfl ?_
    refine j_iconst (v := 3) (pc' := 32) C dX12_layFence_31 kI_3 rfl ?_
    refine j_ic_ne (tgt := 83) (pc' := 35) C dX12_layFence_32 rfl rfl (fun hc => ?_) (fun hc => ?_)
    · have hr := ifF hc hr
      clear hc
      have hr := ezs4 _ (Option.some.inj hr).symm
      subst hr
      exact j_lv [] rfl kzo5
    · have hr := ifT hc hr
      clear hc
      refine j_iconst (v := 0) (pc' := 36) C dX12_layFence_35 kI_0 rfl ?_
      refine j_istore_n (lv' := [(2, .int (0 : Int32)), (0, .ref this), (1, .int zs4.1)]) (pc' := 37) C dX12_layFence_36 rfl (by decide) rfl rfl ?_
      obtain ⟨zo12, hzo12, rzo12⟩ := ob hr
      have kzo12 : Jd G 0 0 nx zo12.2 77 [(0, .ref this), (1, .int zs4.1)] [] := by
        have hr := rzo12
        refine j_iinc (q := 1) (v := 1) (lv' := [(1, .int (zs4.1 + (1 : Int32))), (0, .ref this)]) (pc' := 80) C dX12_layFence_77 rfl kI_1 (by decide) rfl rfl ?_
        refine j_goto (tgt := 15) C dX12_layFence_80 rfl ?_
        have hr := izs4 ((zs4.1 + (1 : Int32)), zo12.2) (Option.some.inj hr).symm
        exact j_lv [1, 0] rfl hr
      refine j_lv (lv' := [(0, .ref this), (1, .int zs4.1), (2, .int (0 : Int32))]) [1, 2, 0] rfl ?_
      refine it_J (J := (fun (zs11 : Int32 × Ce) => Jd G 0 0 nx zs11.2 37 [(0, .ref this), (1, .int zs4.1), (2, .int zs11.1)] [])) ?_ hzo12
      clear hzo12
      intro zs11 zr13 hr izs11 ezs11
      refine j_iload_n (q := 2) (pc' := 38) C dX12_layFence_37 rfl rfl rfl ?_
      refine j_aload_n (q := 0) (pc' := 39) C dX12_layFence_38 rfl rfl rfl ?_
      obtain ⟨zx14, hzx14, hr⟩ := ob hr
      refine j_getA (pc' := 42) C dX12_layFence_39 fl_X12_8 hzx14 rfl ?_
      refine j_bipush (v := 17) (pc' := 44) C dX12_layFence_42 kB_17 rfl ?_
      obtain ⟨zx15, hzx15, hr⟩ := ob hr
      refine j_iald (pc' := 45) C dX12_layFence_44 hzx15 rfl ?_
      refine j_ic_ge (tgt := 77) (pc' := 48) C dX12_layFence_45 rfl rfl (fun hc => ?_) (fun hc => ?_)
      · have hr := ifT hc hr
        clear hc
        have hr := ezs11 _ (Option.some.inj hr).symm
        subst hr
        exact j_lv [0, 1] rfl kzo12
      · have hr := ifF hc hr
        clear hc
        refine j_aload_n (q := 0) (pc' := 49) C dX12_layFence_48 rfl rfl rfl ?_
        refine j_iload_n (q := 2) (pc' := 50) C dX12_layFence_49 rfl rfl rfl ?_
        obtain ⟨zz16, hzz16, hr⟩ := ob hr
        obtain ⟨zx17, hzx17, hr⟩ := ob hr
        obtain ⟨fhzz16, hzz16⟩ := rcv_sp hzz16
        refine j_callV (ci := 9) (As := [.int zs11.1]) (rest := []) (st1 := [.int zx17]) (pc' := 53) C ⟨wm_1665, wm_61⟩ rfl hzz16 (c_X12_frameOf (nx := nx) hzx17) yw_X12_frameOf wm_1663 rfl rfl (Nat.le_of_ble_eq_true rfl) ⟨by decide, by decide⟩ dX12_layFence_50 rfl rfl ?_
        refine j_iload_n (q := 1) (pc' := 54) C dX12_layFence_53 rfl rfl rfl ?_
        refine j_ic_ne (tgt := 71) (pc' := 57) C dX12_layFence_54 rfl rfl (fun hc => ?_) (fun hc => ?_)
        · have hr := ifF hc hr
          clear hc
          refine j_iinc (q := 2) (v := 1) (lv' := [(2, .int (zs11.1 + (1 : Int32))), (0, .ref this), (1, .int zs4.1)]) (pc' := 74) C dX12_layFence_71 rfl kI_1 (by decide) rfl rfl ?_
          refine j_goto (tgt := 37) C dX12_layFence_74 rfl ?_
          have hr := izs11 ((zs11.1 + (1 : Int32)), zs11.2) (Option.some.inj hr).symm
          exact j_lv [1, 2, 0] rfl hr
        · have hr := ifT hc hr
          clear hc
          refine j_aload_n (q := 0) (pc' := 58) C dX12_layFence_57 rfl rfl rfl ?_
          refine j_aload_n (q := 0) (pc' := 59) C dX12_layFence_58 rfl rfl rfl ?_
          refine j_iload_n (q := 2) (pc' := 60) C dX12_layFence_59 rfl rfl rfl ?_
          obtain ⟨zz18, hzz18, hr⟩ := ob hr
          obtain ⟨zx19, hzx19, hr⟩ := ob hr
          obtain ⟨fhzz18, hzz18⟩ := rcv_sp hzz18
          refine j_callV (ci := 9) (As := [.int zs11.1]) (rest := [.ref this]) (st1 := [.int zx19, .ref this]) (pc' := 63) C ⟨wm_1718, wm_71⟩ rfl hzz18 (c_X12_maskOf (nx := nx) hzx19) yw_X12_maskOf wm_1716 rfl rfl (Nat.le_of_ble_eq_true rfl) ⟨by decide, by decide⟩ dX12_layFence_60 rfl rfl ?_
          refine j_aload_n (q := 0) (pc' := 64) C dX12_layFence_63 rfl rfl rfl ?_
          refine j_iload_n (q := 2) (pc' := 65) C dX12_layFence_64 rfl rfl rfl ?_
          obtain ⟨zz20, hzz20, hr⟩ := ob hr
          obtain ⟨zx21, hzx21, hr⟩ := ob hr
          obtain ⟨fhzz20, hzz20⟩ := rcv_sp hzz20
          refine j_callV (ci := 9) (As := [.int zs11.1]) (rest := [.int zx19, .ref this]) (st1 := [.int zx21, .int zx19, .ref this]) (pc' := 68) C ⟨wm_1722, wm_72⟩ rfl hzz20 (c_X12_bitsOf (nx := nx) hzx21) yw_X12_bitsOf wm_1720 rfl rfl (Nat.le_of_ble_eq_true rfl) ⟨by decide, by decide⟩ dX12_layFence_65 rfl rfl ?_
          obtain ⟨zz22, hzz22, hr⟩ := ob hr
          obtain ⟨zq23, hzq23, hr⟩ := ob hr
          obtain ⟨fhzz22, hzz22⟩ := rcv_sp hzz22
          refine j_callV (ci := 9) (As := [.int zx19, .int zx21]) (rest := []) (st1 := []) (pc' := 71) C ⟨wm_1926, wm_106⟩ rfl hzz22 (c_X12_addJudged (nx := nx) hzq23) yw_X12_addJudged wm_1924 rfl rfl (Nat.le_of_ble_eq_true rfl) ⟨by decide, by decide⟩ dX12_layFence_68 rfl rfl ?_
          refine j_iinc (q := 2) (v := 1) (lv' := [(2, .int (zs11.1 + (1 : Int32))), (0, .ref this), (1, .int zs4.1)]) (pc' := 74) C dX12_layFence_71 rfl kI_1 (by decide) rfl rfl ?_
          refine j_goto (tgt := 37) C dX12_layFence_74 rfl ?_
          have hr := izs11 ((zs11.1 + (1 : Int32)), zq23.2) (Option.some.inj hr).symm
          exact j_lv [1, 2, 0] rfl hr
def m_X12_fence (ce : Ce) (this : Nat) (p1 : Int32) (p2 : Int32) : Option (Int32 × Ce) :=
  (rcv ce 9 this).bind fun zz1 =>
  (m_X12_layFence ce this).bind fun zq2 =>
  if p1 = (-1 : Int32) then
    (gI zq2.2 9 31 this).bind fun zx10 =>
    some (zx10, zq2.2)
  else
    (gI zq2.2 9 31 this).bind fun zx3 =>
    (m_X12_isIn p1 (0 : Int32) (zx3 - (1 : Int32))).bind fun zx4 =>
    if zx4 = 0 then
      some ((-2 : Int32), zq2.2)
    else
      (m_X12_isIn p2 (0 : Int32) (1 : Int32)).bind fun zx5 =>
      if zx5 = 0 then
        some ((-2 : Int32), zq2.2)
      else
        if p2 = 0 then
          (gA zq2.2 9 29 this).bind fun zx8 =>
          (aI zq2.2 zx8 p1).bind fun zx9 =>
          some (zx9, zq2.2)
        else
          (gA zq2.2 9 30 this).bind fun zx6 =>
          (aI zq2.2 zx6 p1).bind fun zx7 =>
          some (zx7, zq2.2)
set_option maxRecDepth 100000 in
set_option maxHeartbeats 4000000 in
theorem c_X12_fence {nx : Nat} {ce : Ce} {this : Nat} {p1 : Int32} {p2 : Int32} {q : Int32 × Ce} (hr : m_X12_fence ce this p1 p2 = some q) : Ct yX12_fence cX12_fence 3 (some .int) 2 44 0 0 [.ref this, .int p1, .int p2] nx ce (some (.int q.1)) q.2 := by
  unfold m_X12_fence at hr
  refine ct_of (by decide) (Nat.le_of_ble_eq_true rfl) ?_
  intro G C hq hret hin
  show Jd G 0 0 nx ce 0 [(0, .ref this), (1, .int p1), (2, .int p2)] []
  refine j_aload_n (q := 0) (pc' := 1) C dX12_fence_0 rfl rfl rfl ?_
  obtain ⟨zz1, hzz1, hr⟩ := ob hr
  obtain ⟨zq2, hzq2, hr⟩ := ob hr
  obtain ⟨fhzz1, hzz1⟩ := rcv_sp hzz1
  refine j_callV (ci := 9) (As := []) (rest := []) (st1 := []) (pc' := 4) C ⟨wm_1922, wm_105⟩ rfl hzz1 (c_X12_layFence (nx := nx) hzq2) yw_X12_layFence wm_1920 rfl rfl (Nat.le_of_ble_eq_true rfl) ⟨by decide, by decide⟩ dX12_fence_1 rfl rfl ?_
  refine j_iload_n (q := 1) (pc' := 5) C dX12_fence_4 rfl rfl rfl ?_
  refine j_iconst (v := -1) (pc' := 6) C dX12_fence_5 kI_m1 rfl ?_
  refine j_ic_ne (tgt := 14) (pc' := 9) C dX12_fence_6 rfl rfl (fun hc => ?_) (fun hc => ?_)
  · have hr := ifF hc hr
    clear hc
    refine j_iload_n (q := 1) (pc' := 15) C dX12_fence_14 rfl rfl rfl ?_
    refine j_iconst (v := 0) (pc' := 16) C dX12_fence_15 kI_0 rfl ?_
    refine j_aload_n (q := 0) (pc' := 17) C dX12_fence_16 rfl rfl rfl ?_
    obtain ⟨zx3, hzx3, hr⟩ := ob hr
    refine j_getI (pc' := 20) C dX12_fence_17 fl_X12_390 hzx3 rfl ?_
    refine j_iconst (v := 1) (pc' := 21) C dX12_fence_20 kI_1 rfl ?_
    refine j_isub (pc' := 22) C dX12_fence_21 rfl ?_
    obtain ⟨zx4, hzx4, hr⟩ := ob hr
    refine j_callS (As := [.int p1, .int (0 : Int32), .int (zx3 - (1 : Int32))]) (rest := []) (st1 := [.int zx4]) (pc' := 25) C wm_1529 (c_X12_isIn (nx := nx) (ce := zq2.2) hzx4) yw_X12_isIn wm_1528 rfl rfl (Nat.le_of_ble_eq_true rfl) ⟨by decide, by decide⟩ dX12_fence_22 rfl rfl ?_
    refine j_if_eq (tgt := 59) (pc' := 28) C dX12_fence_25 rfl rfl (fun hc => ?_) (fun hc => ?_)
    · have hr := ifT hc hr
      clear hc
      refine j_bipush (v := -2) (pc' := 61) C dX12_fence_59 kB_m2 rfl ?_
      have hr := Option.some.inj hr
      subst hr
      exact j_iret C hq hret dX12_fence_61
    · have hr := ifF hc hr
      clear hc
      refine j_iload_n (q := 2) (pc' := 29) C dX12_fence_28 rfl rfl rfl ?_
      refine j_iconst (v := 0) (pc' := 30) C dX12_fence_29 kI_0 rfl ?_
      refine j_iconst (v := 1) (pc' := 31) C dX12_fence_30 kI_1 rfl ?_
      obtain ⟨zx5, hzx5, hr⟩ := ob hr
      refine j_callS (As := [.int p2, .int (0 : Int32), .int (1 : Int32)]) (rest := []) (st1 := [.int zx5]) (pc' := 34) C wm_1529 (c_X12_isIn (nx := nx) (ce := zq2.2) hzx5) yw_X12_isIn wm_1528 rfl rfl (Nat.le_of_ble_eq_true rfl) ⟨by decide, by decide⟩ dX12_fence_31 rfl rfl ?_
      refine j_if_eq (tgt := 59) (pc' := 37) C dX12_fence_34 rfl rfl (fun hc => ?_) (fun hc => ?_)
      · have hr := ifT hc hr
        clear hc
        refine j_bipush (v := -2) (pc' := 61) C dX12_fence_59 kB_m2 rfl ?_
        have hr := Option.some.inj hr
        subst hr
        exact j_iret C hq hret dX12_fence_61
      · have hr := ifF hc hr
        clear hc
        refine j_iload_n (q := 2) (pc' := 38) C dX12_fence_37 rfl rfl rfl ?_
        refine j_if_ne (tgt := 50) (pc' := 41) C dX12_fence_38 rfl rfl (fun hc => ?_) (fun hc => ?_)
        · have hr := ifF hc hr
          clear hc
          refine j_aload_n (q := 0) (pc' := 51) C dX12_fence_50 rfl rfl rfl ?_
          obtain ⟨zx6, hzx6, hr⟩ := ob hr
          refine j_getA (pc' := 54) C dX12_fence_51 fl_X12_65 hzx6 rfl ?_
          refine j_iload_n (q := 1) (pc' := 55) C dX12_fence_54 rfl rfl rfl ?_
          obtain ⟨zx7, hzx7, hr⟩ := ob hr
          refine j_iald (pc' := 56) C dX12_fence_55 hzx7 rfl ?_
          refine j_goto (tgt := 61) C dX12_fence_56 rfl ?_
          have hr := Option.some.inj hr
          subst hr
          exact j_iret C hq hret dX12_fence_61
        · have hr := ifT hc hr
          clear hc
          refine j_aload_n (q := 0) (pc' := 42) C dX12_fence_41 rfl rfl rfl ?_
          obtain ⟨zx8, hzx8, hr⟩ := ob hr
          refine j_getA (pc' := 45) C dX12_fence_42 fl_X12_62 hzx8 rfl ?_
          refine j_iload_n (q := 1) (pc' := 46) C dX12_fence_45 rfl rfl rfl ?_
          obtain ⟨zx9, hzx9, hr⟩ := ob hr
          refine j_iald (pc' := 47) C dX12_fence_46 hzx9 rfl ?_
          refine j_goto (tgt := 61) C dX12_fence_47 rfl ?_
          have hr := Option.some.inj hr
          subst hr
          exact j_iret C hq hret dX12_fence_61
  · have hr := ifT hc hr
    clear hc
    refine j_aload_n (q := 0) (pc' := 10) C dX12_fence_9 rfl rfl rfl ?_
    obtain ⟨zx10, hzx10, hr⟩ := ob hr
    refine j_getI (pc' := 13) C dX12_fence_10 fl_X12_390 hzx10 rfl ?_
    have hr := Option.some.inj hr
    subst hr
    exact j_iret C hq hret dX12_fence_13
def m_Jxf58ca_isNaN_12338 (p0 : UInt32) : Option (Int32) :=
  if (Op.cmpValue (FP.fcmp p0 p0) .l) = 0 then
    some (0 : Int32)
  else
    some (1 : Int32)
set_option maxRecDepth 100000 in
set_option maxHeartbeats 4000000 in
theorem c_Jxf58ca_isNaN_12338 {nx : Nat} {ce : Ce} {p0 : UInt32} {q : Int32} (hr : m_Jxf58ca_isNaN_12338 p0 = some q) : Ct yJxf58ca_isNaN_12338 cJxf58ca_isNaN_12338 1 (some .boolean) 0 0 0 0 [.float p0] nx ce (some (.int q)) ce := by
  unfold m_Jxf58ca_isNaN_12338 at hr
  refine ct_ofF (by decide +kernel) (Nat.le_of_ble_eq_true rfl) ?_
  intro G C hq hret hin
  show Jd G 0 0 nx ce 0 [(0, .float p0)] []
  refine j_fload_n (q := 0) (pc' := 1) C dJxf58ca_isNaN_12338_0 rfl rfl rfl ?_
  refine j_fload_n (q := 0) (pc' := 2) C dJxf58ca_isNaN_12338_1 rfl rfl rfl ?_
  refine j_fcmp (pc' := 3) C dJxf58ca_isNaN_12338_2 rfl ?_
  refine j_if_eq (tgt := 10) (pc' := 6) C dJxf58ca_isNaN_12338_3 rfl rfl (fun hc => ?_) (fun hc => ?_)
  · have hr := ifT hc hr
    clear hc
    refine j_iconst (v := 0) (pc' := 11) C dJxf58ca_isNaN_12338_10 kI_0 rfl ?_
    have hr := Option.some.inj hr
    subst hr
    exact j_zret C hq hret rfl dJxf58ca_isNaN_12338_11
  · have hr := ifF hc hr
    clear hc
    refine j_iconst (v := 1) (pc' := 7) C dJxf58ca_isNaN_12338_6 kI_1 rfl ?_
    refine j_goto (tgt := 11) C dJxf58ca_isNaN_12338_7 rfl ?_
    have hr := Option.some.inj hr
    subst hr
    exact j_zret C hq hret rfl dJxf58ca_isNaN_12338_11
def m_Jxf58ca_floatToIntBits_5c35a (p0 : UInt32) : Option (Int32) :=
  (m_Jxf58ca_isNaN_12338 p0).bind fun zx1 =>
  if zx1 = 0 then
    some (UInt32.toInt32 p0)
  else
    some (2143289344 : Int32)
set_option maxRecDepth 100000 in
set_option maxHeartbeats 4000000 in
theorem c_Jxf58ca_floatToIntBits_5c35a {nx : Nat} {ce : Ce} {p0 : UInt32} {q : Int32} (hr : m_Jxf58ca_floatToIntBits_5c35a p0 = some q) : Ct yJxf58ca_floatToIntBits_5c35a cJxf58ca_floatToIntBits_5c35a 1 (some .int) 1 60 0 0 [.float p0] nx ce (some (.int q)) ce := by
  unfold m_Jxf58ca_floatToIntBits_5c35a at hr
  refine ct_ofF (by decide +kernel) (Nat.le_of_ble_eq_true rfl) ?_
  intro G C hq hret hin
  show Jd G 0 0 nx ce 0 [(0, .float p0)] []
  refine j_fload_n (q := 0) (pc' := 1) C dJxf58ca_floatToIntBits_5c35a_0 rfl rfl rfl ?_
  obtain ⟨zx1, hzx1, hr⟩ := ob hr
  refine j_callS (As := [.float p0]) (rest := []) (st1 := [.int zx1]) (pc' := 4) C wm_1936 (c_Jxf58ca_isNaN_12338 (nx := nx) (ce := ce) hzx1) yw_Jxf58ca_isNaN_12338 wm_1935 rfl rfl (Nat.le_of_ble_eq_true rfl) ⟨by decide, by decide⟩ dJxf58ca_floatToIntBits_5c35a_1 rfl rfl ?_
  refine j_if_ne (tgt := 12) (pc' := 7) C dJxf58ca_floatToIntBits_5c35a_4 rfl rfl (fun hc => ?_) (fun hc => ?_)
  · have hr := ifF hc hr
    clear hc
    refine j_ldc (pc' := 14) C dJxf58ca_floatToIntBits_5c35a_12 wm_1941 rfl ?_
    have hr := Option.some.inj hr
    subst hr
    exact j_iret C hq hret dJxf58ca_floatToIntBits_5c35a_14
  · have hr := ifT hc hr
    clear hc
    refine j_fload_n (q := 0) (pc' := 8) C dJxf58ca_floatToIntBits_5c35a_7 rfl rfl rfl ?_
    refine j_f2raw (pc' := 11) C dJxf58ca_floatToIntBits_5c35a_8 wm_1938 wm_1940 wm_1939 wm_149 ⟨by decide, by decide⟩ (Nat.le_of_ble_eq_true rfl) rfl ?_
    have hr := Option.some.inj hr
    subst hr
    exact j_iret C hq hret dJxf58ca_floatToIntBits_5c35a_11
def m_X12_activity (ce : Ce) (this : Nat) (p1 : Int32) : Option (Int32) :=
  if p1 = (-1 : Int32) then
    (gA ce 9 2 this).bind fun zx7 =>
    (aG ce zx7 (6 : Int32)).bind fun zx8 =>
    (m_Jxf58ca_floatToIntBits_5c35a zx8).bind fun zx9 =>
    some zx9
  else
    (gA ce 9 0 this).bind fun zx1 =>
    (aI ce zx1 (3 : Int32)).bind fun zx2 =>
    (m_X12_isIn p1 (0 : Int32) (zx2 - (1 : Int32))).bind fun zx3 =>
    if zx3 = 0 then
      some (-2 : Int32)
    else
      (gA ce 9 2 this).bind fun zx4 =>
      (aG ce zx4 p1).bind fun zx5 =>
      (m_Jxf58ca_floatToIntBits_5c35a zx5).bind fun zx6 =>
      some zx6
set_option maxRecDepth 100000 in
set_option maxHeartbeats 4000000 in
theorem c_X12_activity {nx : Nat} {ce : Ce} {this : Nat} {p1 : Int32} {q : Int32} (hr : m_X12_activity ce this p1 = some q) : Ct yX12_activity cX12_activity 2 (some .int) 2 80 0 0 [.ref this, .int p1] nx ce (some (.int q)) ce := by
  unfold m_X12_activity at hr
  refine ct_of (by decide) (Nat.le_of_ble_eq_true rfl) ?_
  intro G C hq hret hin
  show Jd G 0 0 nx ce 0 [(0, .ref this), (1, .int p1)] []
  refine j_iload_n (q := 1) (pc' := 1) C dX12_activity_0 rfl rfl rfl ?_
  refine j_iconst (v := -1) (pc' := 2) C dX12_activity_1 kI_m1 rfl ?_
  refine j_ic_ne (tgt := 18) (pc' := 5) C dX12_activity_2 rfl rfl (fun hc => ?_) (fun hc => ?_)
  · have hr := ifF hc hr
    clear hc
    refine j_iload_n (q := 1) (pc' := 19) C dX12_activity_18 rfl rfl rfl ?_
    refine j_iconst (v := 0) (pc' := 20) C dX12_activity_19 kI_0 rfl ?_
    refine j_aload_n (q := 0) (pc' := 21) C dX12_activity_20 rfl rfl rfl ?_
    obtain ⟨zx1, hzx1, hr⟩ := ob hr
    refine j_getA (pc' := 24) C dX12_activity_21 fl_X12_8 hzx1 rfl ?_
    refine j_iconst (v := 3) (pc' := 25) C dX12_activity_24 kI_3 rfl ?_
    obtain ⟨zx2, hzx2, hr⟩ := ob hr
    refine j_iald (pc' := 26) C dX12_activity_25 hzx2 rfl ?_
    refine j_iconst (v := 1) (pc' := 27) C dX12_activity_26 kI_1 rfl ?_
    refine j_isub (pc' := 28) C dX12_activity_27 rfl ?_
    obtain ⟨zx3, hzx3, hr⟩ := ob hr
    refine j_callS (As := [.int p1, .int (0 : Int32), .int (zx2 - (1 : Int32))]) (rest := []) (st1 := [.int zx3]) (pc' := 31) C wm_1529 (c_X12_isIn (nx := nx) (ce := ce) hzx3) yw_X12_isIn wm_1528 rfl rfl (Nat.le_of_ble_eq_true rfl) ⟨by decide, by decide⟩ dX12_activity_28 rfl rfl ?_
    refine j_if_eq (tgt := 46) (pc' := 34) C dX12_activity_31 rfl rfl (fun hc => ?_) (fun hc => ?_)
    · have hr := ifT hc hr
      clear hc
      refine j_bipush (v := -2) (pc' := 48) C dX12_activity_46 kB_m2 rfl ?_
      have hr := Option.some.inj hr
      subst hr
      exact j_iret C hq hret dX12_activity_48
    · have hr := ifF hc hr
      clear hc
      refine j_aload_n (q := 0) (pc' := 35) C dX12_activity_34 rfl rfl rfl ?_
      obtain ⟨zx4, hzx4, hr⟩ := ob hr
      refine j_getA (pc' := 38) C dX12_activity_35 fl_X12_17 hzx4 rfl ?_
      refine j_iload_n (q := 1) (pc' := 39) C dX12_activity_38 rfl rfl rfl ?_
      obtain ⟨zx5, hzx5, hr⟩ := ob hr
      refine j_fald (pc' := 40) C dX12_activity_39 hzx5 rfl ?_
      obtain ⟨zx6, hzx6, hr⟩ := ob hr
      refine j_callS (As := [.float zx5]) (rest := []) (st1 := [.int zx6]) (pc' := 43) C wm_1933 (c_Jxf58ca_floatToIntBits_5c35a (nx := nx) (ce := ce) hzx6) yw_Jxf58ca_floatToIntBits_5c35a wm_1932 rfl rfl (Nat.le_of_ble_eq_true rfl) ⟨by decide, by decide⟩ dX12_activity_40 rfl rfl ?_
      refine j_goto (tgt := 48) C dX12_activity_43 rfl ?_
      have hr := Option.some.inj hr
      subst hr
      exact j_iret C hq hret dX12_activity_48
  · have hr := ifT hc hr
    clear hc
    refine j_aload_n (q := 0) (pc' := 6) C dX12_activity_5 rfl rfl rfl ?_
    obtain ⟨zx7, hzx7, hr⟩ := ob hr
    refine j_getA (pc' := 9) C dX12_activity_6 fl_X12_17 hzx7 rfl ?_
    refine j_bipush (v := 6) (pc' := 11) C dX12_activity_9 kB_6 rfl ?_
    obtain ⟨zx8, hzx8, hr⟩ := ob hr
    refine j_fald (pc' := 12) C dX12_activity_11 hzx8 rfl ?_
    obtain ⟨zx9, hzx9, hr⟩ := ob hr
    refine j_callS (As := [.float zx8]) (rest := []) (st1 := [.int zx9]) (pc' := 15) C wm_1933 (c_Jxf58ca_floatToIntBits_5c35a (nx := nx) (ce := ce) hzx9) yw_Jxf58ca_floatToIntBits_5c35a wm_1932 rfl rfl (Nat.le_of_ble_eq_true rfl) ⟨by decide, by decide⟩ dX12_activity_12 rfl rfl ?_
    refine j_goto (tgt := 48) C dX12_activity_15 rfl ?_
    have hr := Option.some.inj hr
    subst hr
    exact j_iret C hq hret dX12_activity_48
def m_X12_order (ce : Ce) (this : Nat) (p1 : Int32) : Option (Int32 × Ce) :=
  (rcv ce 9 this).bind fun zz1 =>
  (m_X12_layOrder ce this).bind fun zq2 =>
  (gA zq2.2 9 0 this).bind fun zx3 =>
  (aI zq2.2 zx3 (3 : Int32)).bind fun zx4 =>
  (m_X12_isIn p1 (0 : Int32) (zx4 - (1 : Int32))).bind fun zx5 =>
  if zx5 = 0 then
    some ((-1 : Int32), zq2.2)
  else
    (gA zq2.2 9 23 this).bind fun zx6 =>
    (aI zq2.2 zx6 p1).bind fun zx7 =>
    some (zx7, zq2.2)
set_option maxRecDepth 100000 in
set_option maxHeartbeats 4000000 in
theorem c_X12_order {nx : Nat} {ce : Ce} {this : Nat} {p1 : Int32} {q : Int32 × Ce} (hr : m_X12_order ce this p1 = some q) : Ct yX12_order cX12_order 2 (some .int) 2 44 0 0 [.ref this, .int p1] nx ce (some (.int q.1)) q.2 := by
  unfold m_X12_order at hr
  refine ct_of (by decide) (Nat.le_of_ble_eq_true rfl) ?_
  intro G C hq hret hin
  show Jd G 0 0 nx ce 0 [(0, .ref this), (1, .int p1)] []
  refine j_aload_n (q := 0) (pc' := 1) C dX12_order_0 rfl rfl rfl ?_
  obtain ⟨zz1, hzz1, hr⟩ := ob hr
  obtain ⟨zq2, hzq2, hr⟩ := ob hr
  obtain ⟨fhzz1, hzz1⟩ := rcv_sp hzz1
  refine j_callV (ci := 9) (As := []) (rest := []) (st1 := []) (pc' := 4) C ⟨wm_1781, wm_86⟩ rfl hzz1 (c_X12_layOrder (nx := nx) hzq2) yw_X12_layOrder wm_1779 rfl rfl (Nat.le_of_ble_eq_true rfl) ⟨by decide, by decide⟩ dX12_order_1 rfl rfl ?_
  refine j_iload_n (q := 1) (pc' := 5) C dX12_order_4 rfl rfl rfl ?_
  refine j_iconst (v := 0) (pc' := 6) C dX12_order_5 kI_0 rfl ?_
  refine j_aload_n (q := 0) (pc' := 7) C dX12_order_6 rfl rfl rfl ?_
  obtain ⟨zx3, hzx3, hr⟩ := ob hr
  refine j_getA (pc' := 10) C dX12_order_7 fl_X12_8 hzx3 rfl ?_
  refine j_iconst (v := 3) (pc' := 11) C dX12_order_10 kI_3 rfl ?_
  obtain ⟨zx4, hzx4, hr⟩ := ob hr
  refine j_iald (pc' := 12) C dX12_order_11 hzx4 rfl ?_
  refine j_iconst (v := 1) (pc' := 13) C dX12_order_12 kI_1 rfl ?_
  refine j_isub (pc' := 14) C dX12_order_13 rfl ?_
  obtain ⟨zx5, hzx5, hr⟩ := ob hr
  refine j_callS (As := [.int p1, .int (0 : Int32), .int (zx4 - (1 : Int32))]) (rest := []) (st1 := [.int zx5]) (pc' := 17) C wm_1529 (c_X12_isIn (nx := nx) (ce := zq2.2) hzx5) yw_X12_isIn wm_1528 rfl rfl (Nat.le_of_ble_eq_true rfl) ⟨by decide, by decide⟩ dX12_order_14 rfl rfl ?_
  refine j_if_eq (tgt := 29) (pc' := 20) C dX12_order_17 rfl rfl (fun hc => ?_) (fun hc => ?_)
  · have hr := ifT hc hr
    clear hc
    refine j_iconst (v := -1) (pc' := 30) C dX12_order_29 kI_m1 rfl ?_
    have hr := Option.some.inj hr
    subst hr
    exact j_iret C hq hret dX12_order_30
  · have hr := ifF hc hr
    clear hc
    refine j_aload_n (q := 0) (pc' := 21) C dX12_order_20 rfl rfl rfl ?_
    obtain ⟨zx6, hzx6, hr⟩ := ob hr
    refine j_getA (pc' := 24) C dX12_order_21 fl_X12_47 hzx6 rfl ?_
    refine j_iload_n (q := 1) (pc' := 25) C dX12_order_24 rfl rfl rfl ?_
    obtain ⟨zx7, hzx7, hr⟩ := ob hr
    refine j_iald (pc' := 26) C dX12_order_25 hzx7 rfl ?_
    refine j_goto (tgt := 30) C dX12_order_26 rfl ?_
    have hr := Option.some.inj hr
    subst hr
    exact j_iret C hq hret dX12_order_30
def m_X12_holds (ce : Ce) (this : Nat) (p1 : Int32) (p2 : Int32) (p3 : Int32) : Option (Int32) :=
  (rcv ce 9 this).bind fun zz1 =>
  (m_X12_isMask ce this p1 p2).bind fun zx2 =>
  if zx2 = 0 then
    some (0 : Int32)
  else
    (rcv ce 9 this).bind fun zz3 =>
    (m_X12_isFrame ce this p3).bind fun zx4 =>
    if zx4 = 0 then
      some (0 : Int32)
    else
      (rcv ce 9 this).bind fun zz5 =>
      (m_X12_doesHold ce this p1 p2 p3).bind fun zx6 =>
      if zx6 = 0 then
        some (0 : Int32)
      else
        some (1 : Int32)
set_option maxRecDepth 100000 in
set_option maxHeartbeats 4000000 in
theorem c_X12_holds {nx : Nat} {ce : Ce} {this : Nat} {p1 : Int32} {p2 : Int32} {p3 : Int32} {q : Int32} (hr : m_X12_holds ce this p1 p2 p3 = some q) : Ct yX12_holds cX12_holds 4 (some .boolean) 6 133 0 0 [.ref this, .int p1, .int p2, .int p3] nx ce (some (.int q)) ce := by
  unfold m_X12_holds at hr
  refine ct_of (by decide) (Nat.le_of_ble_eq_true rfl) ?_
  intro G C hq hret hin
  show Jd G 0 0 nx ce 0 [(0, .ref this), (1, .int p1), (2, .int p2), (3, .int p3)] []
  refine j_aload_n (q := 0) (pc' := 1) C dX12_holds_0 rfl rfl rfl ?_
  refine j_iload_n (q := 1) (pc' := 2) C dX12_holds_1 rfl rfl rfl ?_
  refine j_iload_n (q := 2) (pc' := 3) C dX12_holds_2 rfl rfl rfl ?_
  obtain ⟨zz1, hzz1, hr⟩ := ob hr
  obtain ⟨zx2, hzx2, hr⟩ := ob hr
  obtain ⟨fhzz1, hzz1⟩ := rcv_sp hzz1
  refine j_callV (ci := 9) (As := [.int p1, .int p2]) (rest := []) (st1 := [.int zx2]) (pc' := 6) C ⟨wm_1831, wm_96⟩ rfl hzz1 (c_X12_isMask (nx := nx) hzx2) yw_X12_isMask wm_1829 rfl rfl (Nat.le_of_ble_eq_true rfl) ⟨by decide, by decide⟩ dX12_holds_3 rfl rfl ?_
  refine j_if_eq (tgt := 31) (pc' := 9) C dX12_holds_6 rfl rfl (fun hc => ?_) (fun hc => ?_)
  · have hr := ifT hc hr
    clear hc
    refine j_iconst (v := 0) (pc' := 32) C dX12_holds_31 kI_0 rfl ?_
    have hr := Option.some.inj hr
    subst hr
    exact j_zret C hq hret rfl dX12_holds_32
  · have hr := ifF hc hr
    clear hc
    refine j_aload_n (q := 0) (pc' := 10) C dX12_holds_9 rfl rfl rfl ?_
    refine j_iload_n (q := 3) (pc' := 11) C dX12_holds_10 rfl rfl rfl ?_
    obtain ⟨zz3, hzz3, hr⟩ := ob hr
    obtain ⟨zx4, hzx4, hr⟩ := ob hr
    obtain ⟨fhzz3, hzz3⟩ := rcv_sp hzz3
    refine j_callV (ci := 9) (As := [.int p3]) (rest := []) (st1 := [.int zx4]) (pc' := 14) C ⟨wm_1859, wm_98⟩ rfl hzz3 (c_X12_isFrame (nx := nx) hzx4) yw_X12_isFrame wm_1857 rfl rfl (Nat.le_of_ble_eq_true rfl) ⟨by decide, by decide⟩ dX12_holds_11 rfl rfl ?_
    refine j_if_eq (tgt := 31) (pc' := 17) C dX12_holds_14 rfl rfl (fun hc => ?_) (fun hc => ?_)
    · have hr := ifT hc hr
      clear hc
      refine j_iconst (v := 0) (pc' := 32) C dX12_holds_31 kI_0 rfl ?_
      have hr := Option.some.inj hr
      subst hr
      exact j_zret C hq hret rfl dX12_holds_32
    · have hr := ifF hc hr
      clear hc
      refine j_aload_n (q := 0) (pc' := 18) C dX12_holds_17 rfl rfl rfl ?_
      refine j_iload_n (q := 1) (pc' := 19) C dX12_holds_18 rfl rfl rfl ?_
      refine j_iload_n (q := 2) (pc' := 20) C dX12_holds_19 rfl rfl rfl ?_
      refine j_iload_n (q := 3) (pc' := 21) C dX12_holds_20 rfl rfl rfl ?_
      obtain ⟨zz5, hzz5, hr⟩ := ob hr
      obtain ⟨zx6, hzx6, hr⟩ := ob hr
      obtain ⟨fhzz5, hzz5⟩ := rcv_sp hzz5
      refine j_callV (ci := 9) (As := [.int p1, .int p2, .int p3]) (rest := []) (st1 := [.int zx6]) (pc' := 24) C ⟨wm_1793, wm_89⟩ rfl hzz5 (c_X12_doesHold (nx := nx) hzx6) yw_X12_doesHold wm_1791 rfl rfl (Nat.le_of_ble_eq_true rfl) ⟨by decide, by decide⟩ dX12_holds_21 rfl rfl ?_
      refine j_if_eq (tgt := 31) (pc' := 27) C dX12_holds_24 rfl rfl (fun hc => ?_) (fun hc => ?_)
      · have hr := ifT hc hr
        clear hc
        refine j_iconst (v := 0) (pc' := 32) C dX12_holds_31 kI_0 rfl ?_
        have hr := Option.some.inj hr
        subst hr
        exact j_zret C hq hret rfl dX12_holds_32
      · have hr := ifF hc hr
        clear hc
        refine j_iconst (v := 1) (pc' := 28) C dX12_holds_27 kI_1 rfl ?_
        refine j_goto (tgt := 32) C dX12_holds_28 rfl ?_
        have hr := Option.some.inj hr
        subst hr
        exact j_zret C hq hret rfl dX12_holds_32
def m_X12_widened (ce : Ce) (this : Nat) (p1 : Int32) (p2 : Int32) : Option (Int32 × Ce) :=
  (rcv ce 9 this).bind fun zz1 =>
  (m_X12_isState ce this p1).bind fun zx2 =>
  if zx2 = 0 then
    some ((-1 : Int32), ce)
  else
    (gA ce 9 0 this).bind fun zx3 =>
    (aI ce zx3 (4 : Int32)).bind fun zx4 =>
    (m_X12_isIn p2 (1 : Int32) zx4).bind fun zx5 =>
    if zx5 = 0 then
      some ((-1 : Int32), ce)
    else
      (rcv ce 9 this).bind fun zz6 =>
      (m_X12_starts ce this).bind fun zx7 =>
      (m_X12_has zx7 p1).bind fun zx8 =>
      if zx8 = 0 then
        (rcv ce 9 this).bind fun zz9 =>
        (m_X12_states ce this).bind fun zx10 =>
        (rcv ce 9 this).bind fun zz11 =>
        (m_X12_doesHold ce this (zx10 - (1 : Int32)) p1 (p2 - (1 : Int32))).bind fun zx12 =>
        if zx12 = 0 then
          some ((-1 : Int32), ce)
        else
          (gA ce 9 0 this).bind fun zx13 =>
          (aI ce zx13 (12 : Int32)).bind fun zx14 =>
          (rcv ce 9 this).bind fun zz15 =>
          (m_X12_widen ce this p1 p2).bind fun zq16 =>
          (gA zq16.2 9 0 this).bind fun zx17 =>
          (sI zq16.2 zx17 (12 : Int32) zx14).bind fun zc18 =>
          some ((((64 : Int32) * zq16.1) + (p1 &&& zq16.1)), zc18)
      else
        some ((-1 : Int32), ce)
set_option maxRecDepth 100000 in
set_option maxHeartbeats 4000000 in
theorem c_X12_widened {nx : Nat} {ce : Ce} {this : Nat} {p1 : Int32} {p2 : Int32} {q : Int32 × Ce} (hr : m_X12_widened ce this p1 p2 = some q) : Ct yX12_widened cX12_widened 5 (some .int) 8 181 0 0 [.ref this, .int p1, .int p2] nx ce (some (.int q.1)) q.2 := by
  unfold m_X12_widened at hr
  refine ct_of (by decide) (Nat.le_of_ble_eq_true rfl) ?_
  intro G C hq hret hin
  show Jd G 0 0 nx ce 0 [(0, .ref this), (1, .int p1), (2, .int p2)] []
  refine j_aload_n (q := 0) (pc' := 1) C dX12_widened_0 rfl rfl rfl ?_
  refine j_iload_n (q := 1) (pc' := 2) C dX12_widened_1 rfl rfl rfl ?_
  obtain ⟨zz1, hzz1, hr⟩ := ob hr
  obtain ⟨zx2, hzx2, hr⟩ := ob hr
  obtain ⟨fhzz1, hzz1⟩ := rcv_sp hzz1
  refine j_callV (ci := 9) (As := [.int p1]) (rest := []) (st1 := [.int zx2]) (pc' := 5) C ⟨wm_1843, wm_97⟩ rfl hzz1 (c_X12_isState (nx := nx) hzx2) yw_X12_isState wm_1841 rfl rfl (Nat.le_of_ble_eq_true rfl) ⟨by decide, by decide⟩ dX12_widened_2 rfl rfl ?_
  refine j_if_eq (tgt := 50) (pc' := 8) C dX12_widened_5 rfl rfl (fun hc => ?_) (fun hc => ?_)
  · have hr := ifT hc hr
    clear hc
    refine j_iconst (v := -1) (pc' := 51) C dX12_widened_50 kI_m1 rfl ?_
    have hr := Option.some.inj hr
    subst hr
    exact j_iret C hq hret dX12_widened_51
  · have hr := ifF hc hr
    clear hc
    refine j_iload_n (q := 2) (pc' := 9) C dX12_widened_8 rfl rfl rfl ?_
    refine j_iconst (v := 1) (pc' := 10) C dX12_widened_9 kI_1 rfl ?_
    refine j_aload_n (q := 0) (pc' := 11) C dX12_widened_10 rfl rfl rfl ?_
    obtain ⟨zx3, hzx3, hr⟩ := ob hr
    refine j_getA (pc' := 14) C dX12_widened_11 fl_X12_8 hzx3 rfl ?_
    refine j_iconst (v := 4) (pc' := 15) C dX12_widened_14 kI_4 rfl ?_
    obtain ⟨zx4, hzx4, hr⟩ := ob hr
    refine j_iald (pc' := 16) C dX12_widened_15 hzx4 rfl ?_
    obtain ⟨zx5, hzx5, hr⟩ := ob hr
    refine j_callS (As := [.int p2, .int (1 : Int32), .int zx4]) (rest := []) (st1 := [.int zx5]) (pc' := 19) C wm_1529 (c_X12_isIn (nx := nx) (ce := ce) hzx5) yw_X12_isIn wm_1528 rfl rfl (Nat.le_of_ble_eq_true rfl) ⟨by decide, by decide⟩ dX12_widened_16 rfl rfl ?_
    refine j_if_eq (tgt := 50) (pc' := 22) C dX12_widened_19 rfl rfl (fun hc => ?_) (fun hc => ?_)
    · have hr := ifT hc hr
      clear hc
      refine j_iconst (v := -1) (pc' := 51) C dX12_widened_50 kI_m1 rfl ?_
      have hr := Option.some.inj hr
      subst hr
      exact j_iret C hq hret dX12_widened_51
    · have hr := ifF hc hr
      clear hc
      refine j_aload_n (q := 0) (pc' := 23) C dX12_widened_22 rfl rfl rfl ?_
      obtain ⟨zz6, hzz6, hr⟩ := ob hr
      obtain ⟨zx7, hzx7, hr⟩ := ob hr
      obtain ⟨fhzz6, hzz6⟩ := rcv_sp hzz6
      refine j_callV (ci := 9) (As := []) (rest := []) (st1 := [.long zx7]) (pc' := 26) C ⟨wm_1710, wm_69⟩ rfl hzz6 (c_X12_starts (nx := nx) hzx7) yw_X12_starts wm_1708 rfl rfl (Nat.le_of_ble_eq_true rfl) ⟨by decide, by decide⟩ dX12_widened_23 rfl rfl ?_
      refine j_iload_n (q := 1) (pc' := 27) C dX12_widened_26 rfl rfl rfl ?_
      obtain ⟨zx8, hzx8, hr⟩ := ob hr
      refine j_callS (As := [.long zx7, .int p1]) (rest := []) (st1 := [.int zx8]) (pc' := 30) C wm_1645 (c_X12_has (nx := nx) (ce := ce) hzx8) yw_X12_has wm_1644 rfl rfl (Nat.le_of_ble_eq_true rfl) ⟨by decide, by decide⟩ dX12_widened_27 rfl rfl ?_
      refine j_if_ne (tgt := 50) (pc' := 33) C dX12_widened_30 rfl rfl (fun hc => ?_) (fun hc => ?_)
      · have hr := ifF hc hr
        clear hc
        refine j_iconst (v := -1) (pc' := 51) C dX12_widened_50 kI_m1 rfl ?_
        have hr := Option.some.inj hr
        subst hr
        exact j_iret C hq hret dX12_widened_51
      · have hr := ifT hc hr
        clear hc
        refine j_aload_n (q := 0) (pc' := 34) C dX12_widened_33 rfl rfl rfl ?_
        refine j_aload_n (q := 0) (pc' := 35) C dX12_widened_34 rfl rfl rfl ?_
        obtain ⟨zz9, hzz9, hr⟩ := ob hr
        obtain ⟨zx10, hzx10, hr⟩ := ob hr
        obtain ⟨fhzz9, hzz9⟩ := rcv_sp hzz9
        refine j_callV (ci := 9) (As := []) (rest := [.ref this]) (st1 := [.int zx10, .ref this]) (pc' := 38) C ⟨wm_1642, wm_58⟩ rfl hzz9 (c_X12_states (nx := nx) hzx10) yw_X12_states wm_1640 rfl rfl (Nat.le_of_ble_eq_true rfl) ⟨by decide, by decide⟩ dX12_widened_35 rfl rfl ?_
        refine j_iconst (v := 1) (pc' := 39) C dX12_widened_38 kI_1 rfl ?_
        refine j_isub (pc' := 40) C dX12_widened_39 rfl ?_
        refine j_iload_n (q := 1) (pc' := 41) C dX12_widened_40 rfl rfl rfl ?_
        refine j_iload_n (q := 2) (pc' := 42) C dX12_widened_41 rfl rfl rfl ?_
        refine j_iconst (v := 1) (pc' := 43) C dX12_widened_42 kI_1 rfl ?_
        refine j_isub (pc' := 44) C dX12_widened_43 rfl ?_
        obtain ⟨zz11, hzz11, hr⟩ := ob hr
        obtain ⟨zx12, hzx12, hr⟩ := ob hr
        obtain ⟨fhzz11, hzz11⟩ := rcv_sp hzz11
        refine j_callV (ci := 9) (As := [.int (zx10 - (1 : Int32)), .int p1, .int (p2 - (1 : Int32))]) (rest := []) (st1 := [.int zx12]) (pc' := 47) C ⟨wm_1793, wm_89⟩ rfl hzz11 (c_X12_doesHold (nx := nx) hzx12) yw_X12_doesHold wm_1791 rfl rfl (Nat.le_of_ble_eq_true rfl) ⟨by decide, by decide⟩ dX12_widened_44 rfl rfl ?_
        refine j_if_ne (tgt := 52) (pc' := 50) C dX12_widened_47 rfl rfl (fun hc => ?_) (fun hc => ?_)
        · have hr := ifF hc hr
          clear hc
          refine j_aload_n (q := 0) (pc' := 53) C dX12_widened_52 rfl rfl rfl ?_
          obtain ⟨zx13, hzx13, hr⟩ := ob hr
          refine j_getA (pc' := 56) C dX12_widened_53 fl_X12_8 hzx13 rfl ?_
          refine j_bipush (v := 12) (pc' := 58) C dX12_widened_56 kB_12 rfl ?_
          obtain ⟨zx14, hzx14, hr⟩ := ob hr
          refine j_iald (pc' := 59) C dX12_widened_58 hzx14 rfl ?_
          refine j_istore_n (lv' := [(3, .int zx14), (0, .ref this), (1, .int p1), (2, .int p2)]) (pc' := 60) C dX12_widened_59 rfl (by decide) rfl rfl ?_
          refine j_aload_n (q := 1) (pc' := 61) C dX12_widened_60 rfl rfl rfl ?_
          refine j_iload_n (q := 2) (pc' := 62) C dX12_widened_61 rfl rfl rfl ?_
          refine j_iload_n (q := 3) (pc' := 63) C dX12_widened_62 rfl rfl rfl ?_
          obtain ⟨zz15, hzz15, hr⟩ := ob hr
          obtain ⟨zq16, hzq16, hr⟩ := ob hr
          obtain ⟨fhzz15, hzz15⟩ := rcv_sp hzz15
          refine j_callV (ci := 9) (As := [.int p1, .int p2]) (rest := []) (st1 := [.int zq16.1]) (pc' := 66) C ⟨wm_1777, wm_85⟩ rfl hzz15 (c_X12_widen (nx := nx) hzq16) yw_X12_widen wm_1775 rfl rfl (Nat.le_of_ble_eq_true rfl) ⟨by decide, by decide⟩ dX12_widened_63 rfl rfl ?_
          refine j_istore (lv' := [(4, .int zq16.1), (3, .int zx14), (0, .ref this), (1, .int p1), (2, .int p2)]) (pc' := 68) C dX12_widened_66 (by decide) rfl rfl ?_
          refine j_aload_n (q := 2) (pc' := 69) C dX12_widened_68 rfl rfl rfl ?_
          obtain ⟨zx17, hzx17, hr⟩ := ob hr
          refine j_getA (pc' := 72) C dX12_widened_69 fl_X12_8 hzx17 rfl ?_
          refine j_bipush (v := 12) (pc' := 74) C dX12_widened_72 kB_12 rfl ?_
          refine j_iload_n (q := 1) (pc' := 75) C dX12_widened_74 rfl rfl rfl ?_
          obtain ⟨zc18, hzc18, hr⟩ := ob hr
          refine j_iast (pc' := 76) C dX12_widened_75 hzc18 rfl ?_
          refine j_bipush (v := 64) (pc' := 78) C dX12_widened_76 kB_64 rfl ?_
          refine j_iload (q := 0) (pc' := 80) C dX12_widened_78 rfl rfl ?_
          refine j_imul (pc' := 81) C dX12_widened_80 rfl ?_
          refine j_iload_n (q := 3) (pc' := 82) C dX12_widened_81 rfl rfl rfl ?_
          refine j_iload (q := 0) (pc' := 84) C dX12_widened_82 rfl rfl ?_
          refine j_iand (pc' := 85) C dX12_widened_84 rfl ?_
          refine j_iadd (pc' := 86) C dX12_widened_85 rfl ?_
          have hr := Option.some.inj hr
          subst hr
          exact j_iret C hq hret dX12_widened_86
        · have hr := ifT hc hr
          clear hc
          refine j_iconst (v := -1) (pc' := 51) C dX12_widened_50 kI_m1 rfl ?_
          have hr := Option.some.inj hr
          subst hr
          exact j_iret C hq hret dX12_widened_51
def m_X12_ahead (ce : Ce) (this : Nat) (p1 : Int32) (p2 : Int32) : Option (Int32) :=
  (rcv ce 9 this).bind fun zz1 =>
  (m_X12_isState ce this p1).bind fun zx2 =>
  if zx2 = 0 then
    some (-1 : Int32)
  else
    (rcv ce 9 this).bind fun zz3 =>
    (m_X12_isFrame ce this p2).bind fun zx4 =>
    if zx4 = 0 then
      some (-1 : Int32)
    else
      (rcv ce 9 this).bind fun zz5 =>
      (m_X12_openAt ce this p2).bind fun zx6 =>
      (rcv ce 9 this).bind fun zz7 =>
      (m_X12_aheadOf ce this p1 zx6).bind fun zx8 =>
      some zx8
set_option maxRecDepth 100000 in
set_option maxHeartbeats 4000000 in
theorem c_X12_ahead {nx : Nat} {ce : Ce} {this : Nat} {p1 : Int32} {p2 : Int32} {q : Int32} (hr : m_X12_ahead ce this p1 p2 = some q) : Ct yX12_ahead cX12_ahead 3 (some .int) 5 110 0 0 [.ref this, .int p1, .int p2] nx ce (some (.int q)) ce := by
  unfold m_X12_ahead at hr
  refine ct_of (by decide) (Nat.le_of_ble_eq_true rfl) ?_
  intro G C hq hret hin
  show Jd G 0 0 nx ce 0 [(0, .ref this), (1, .int p1), (2, .int p2)] []
  refine j_aload_n (q := 0) (pc' := 1) C dX12_ahead_0 rfl rfl rfl ?_
  refine j_iload_n (q := 1) (pc' := 2) C dX12_ahead_1 rfl rfl rfl ?_
  obtain ⟨zz1, hzz1, hr⟩ := ob hr
  obtain ⟨zx2, hzx2, hr⟩ := ob hr
  obtain ⟨fhzz1, hzz1⟩ := rcv_sp hzz1
  refine j_callV (ci := 9) (As := [.int p1]) (rest := []) (st1 := [.int zx2]) (pc' := 5) C ⟨wm_1843, wm_97⟩ rfl hzz1 (c_X12_isState (nx := nx) hzx2) yw_X12_isState wm_1841 rfl rfl (Nat.le_of_ble_eq_true rfl) ⟨by decide, by decide⟩ dX12_ahead_2 rfl rfl ?_
  refine j_if_eq (tgt := 29) (pc' := 8) C dX12_ahead_5 rfl rfl (fun hc => ?_) (fun hc => ?_)
  · have hr := ifT hc hr
    clear hc
    refine j_iconst (v := -1) (pc' := 30) C dX12_ahead_29 kI_m1 rfl ?_
    have hr := Option.some.inj hr
    subst hr
    exact j_iret C hq hret dX12_ahead_30
  · have hr := ifF hc hr
    clear hc
    refine j_aload_n (q := 0) (pc' := 9) C dX12_ahead_8 rfl rfl rfl ?_
    refine j_iload_n (q := 2) (pc' := 10) C dX12_ahead_9 rfl rfl rfl ?_
    obtain ⟨zz3, hzz3, hr⟩ := ob hr
    obtain ⟨zx4, hzx4, hr⟩ := ob hr
    obtain ⟨fhzz3, hzz3⟩ := rcv_sp hzz3
    refine j_callV (ci := 9) (As := [.int p2]) (rest := []) (st1 := [.int zx4]) (pc' := 13) C ⟨wm_1859, wm_98⟩ rfl hzz3 (c_X12_isFrame (nx := nx) hzx4) yw_X12_isFrame wm_1857 rfl rfl (Nat.le_of_ble_eq_true rfl) ⟨by decide, by decide⟩ dX12_ahead_10 rfl rfl ?_
    refine j_if_eq (tgt := 29) (pc' := 16) C dX12_ahead_13 rfl rfl (fun hc => ?_) (fun hc => ?_)
    · have hr := ifT hc hr
      clear hc
      refine j_iconst (v := -1) (pc' := 30) C dX12_ahead_29 kI_m1 rfl ?_
      have hr := Option.some.inj hr
      subst hr
      exact j_iret C hq hret dX12_ahead_30
    · have hr := ifF hc hr
      clear hc
      refine j_aload_n (q := 0) (pc' := 17) C dX12_ahead_16 rfl rfl rfl ?_
      refine j_iload_n (q := 1) (pc' := 18) C dX12_ahead_17 rfl rfl rfl ?_
      refine j_aload_n (q := 0) (pc' := 19) C dX12_ahead_18 rfl rfl rfl ?_
      refine j_iload_n (q := 2) (pc' := 20) C dX12_ahead_19 rfl rfl rfl ?_
      obtain ⟨zz5, hzz5, hr⟩ := ob hr
      obtain ⟨zx6, hzx6, hr⟩ := ob hr
      obtain ⟨fhzz5, hzz5⟩ := rcv_sp hzz5
      refine j_callV (ci := 9) (As := [.int p2]) (rest := [.int p1, .ref this]) (st1 := [.long zx6, .int p1, .ref this]) (pc' := 23) C ⟨wm_1706, wm_68⟩ rfl hzz5 (c_X12_openAt (nx := nx) hzx6) yw_X12_openAt wm_1704 rfl rfl (Nat.le_of_ble_eq_true rfl) ⟨by decide, by decide⟩ dX12_ahead_20 rfl rfl ?_
      obtain ⟨zz7, hzz7, hr⟩ := ob hr
      obtain ⟨zx8, hzx8, hr⟩ := ob hr
      obtain ⟨fhzz7, hzz7⟩ := rcv_sp hzz7
      refine j_callV (ci := 9) (As := [.int p1, .long zx6]) (rest := []) (st1 := [.int zx8]) (pc' := 26) C ⟨wm_1757, wm_80⟩ rfl hzz7 (c_X12_aheadOf (nx := nx) hzx8) yw_X12_aheadOf wm_1755 rfl rfl (Nat.le_of_ble_eq_true rfl) ⟨by decide, by decide⟩ dX12_ahead_23 rfl rfl ?_
      refine j_goto (tgt := 30) C dX12_ahead_26 rfl ?_
      have hr := Option.some.inj hr
      subst hr
      exact j_iret C hq hret dX12_ahead_30
def m_X12_come (ce : Ce) (this : Nat) (p1 : Int64) (p2 : Int32) (p3 : Int32) : Option (Int64) :=
  (it (fun (zs1 : Int64 × Int32) =>
    if p3 ≤ zs1.2 then
      some (Sum.inr (Sum.inr zs1.1))
    else
      (it (fun (zs4 : Int64 × Int32) =>
        (rcv ce 9 this).bind fun zz7 =>
        (m_X12_states ce this).bind fun zx8 =>
        if zx8 ≤ zs4.2 then
          some (Sum.inr zs4.1)
        else
          (m_X12_has zs1.1 zs4.2).bind fun zx9 =>
          if zx9 = 0 then
            some (Sum.inl (zs4.1, (zs4.2 + (1 : Int32))))
          else
            (rcv ce 9 this).bind fun zz10 =>
            (m_X12_afterBy ce this zs4.2 p2).bind fun zx11 =>
            some (Sum.inl ((zs4.1 ||| zx11), (zs4.2 + (1 : Int32))))
      ) FU (zs1.1, (0 : Int32))).bind fun (zo5 : Int64) =>
      if (lg_cmp zo5 zs1.1) = 0 then
        some (Sum.inr (Sum.inl zs1.1))
      else
        some (Sum.inl (zo5, (zs1.2 + (1 : Int32))))
  ) FU (p1, (0 : Int32))).bind fun (zo2 : Int64 ⊕ Int64) =>
  Sum.elim (fun wzo2 => some wzo2) (fun vzo2 =>
    some vzo2
  ) zo2
set_option maxRecDepth 100000 in
set_option maxHeartbeats 4000000 in
theorem c_X12_come {nx : Nat} {ce : Ce} {this : Nat} {p1 : Int64} {p2 : Int32} {p3 : Int32} {q : Int64} (hr : m_X12_come ce this p1 p2 p3 = some q) : Ct yX12_come cX12_come 11 (some .long) 2 47 0 0 [.ref this, .long p1, .int p2, .int p3] nx ce (some (.long q)) ce := by
  unfold m_X12_come at hr
  refine ct_of (by decide) (Nat.le_of_ble_eq_true rfl) ?_
  intro G C hq hret hin
  show Jd G 0 0 nx ce 0 [(0, .ref this), (1, .long p1), (3, .int p2), (4, .int p3)] []
  refine j_lload_n (q := 1) (pc' := 1) C dX12_come_0 rfl rfl rfl ?_
  refine j_lstore (lv' := [(5, .long p1), (0, .ref this), (1, .long p1), (3, .int p2), (4, .int p3)]) (pc' := 3) C dX12_come_1 (by decide) rfl rfl ?_
  refine j_iconst (v := 0) (pc' := 4) C dX12_come_3 kI_0 rfl ?_
  refine j_istore (lv' := [(7, .int (0 : Int32)), (5, .long p1), (0, .ref this), (1, .long p1), (3, .int p2), (4, .int p3)]) (pc' := 6) C dX12_come_4 (by decide) rfl rfl ?_
  obtain ⟨zo2, hzo2, rzo2⟩ := ob hr
  have kzo2 : ∀ vzo2, zo2 = Sum.inr vzo2 → Jd G 0 0 nx ce 78 [(5, .long vzo2)] [] := by
    intro vzo2 ezo2
    rw [ezo2] at rzo2
    have hr := elR rzo2
    refine j_lload (q := 0) (pc' := 80) C dX12_come_78 rfl rfl ?_
    have hr := Option.some.inj hr
    subst hr
    exact j_lret C hq hret dX12_come_80
  refine j_lv (lv' := [(0, .ref this), (3, .int p2), (4, .int p3), (5, .long p1), (7, .int (0 : Int32))]) [2, 4, 5, 1, 0] rfl ?_
  refine it_J (J := (fun (zs1 : Int64 × Int32) => Jd G 0 0 nx ce 6 [(0, .ref this), (3, .int p2), (4, .int p3), (5, .long zs1.1), (7, .int zs1.2)] [])) ?_ hzo2
  clear hzo2
  intro zs1 zr3 hr izs1 ezs1
  refine j_iload (q := 4) (pc' := 8) C dX12_come_6 rfl rfl ?_
  refine j_iload (q := 2) (pc' := 10) C dX12_come_8 rfl rfl ?_
  refine j_ic_ge (tgt := 78) (pc' := 13) C dX12_come_10 rfl rfl (fun hc => ?_) (fun hc => ?_)
  · have hr := ifT hc hr
    clear hc
    have hr := ezs1 _ (Option.some.inj hr).symm
    subst hr
    exact j_lv [3] rfl (kzo2 _ rfl)
  · have hr := ifF hc hr
    clear hc
    refine j_lload (q := 3) (pc' := 15) C dX12_come_13 rfl rfl ?_
    refine j_lstore (lv' := [(8, .long zs1.1), (0, .ref this), (3, .int p2), (4, .int p3), (5, .long zs1.1), (7, .int zs1.2)]) (pc' := 17) C dX12_come_15 (by decide) rfl rfl ?_
    refine j_iconst (v := 0) (pc' := 18) C dX12_come_17 kI_0 rfl ?_
    refine j_istore (lv' := [(10, .int (0 : Int32)), (8, .long zs1.1), (0, .ref this), (3, .int p2), (4, .int p3), (5, .long zs1.1), (7, .int zs1.2)]) (pc' := 20) C dX12_come_18 (by decide) rfl rfl ?_
    obtain ⟨zo5, hzo5, rzo5⟩ := ob hr
    have kzo5 : Jd G 0 0 nx ce 57 [(0, .ref this), (3, .int p2), (4, .int p3), (5, .long zs1.1), (7, .int zs1.2), (8, .long zo5)] [] := by
      have hr := rzo5
      refine j_lload (q := 5) (pc' := 59) C dX12_come_57 rfl rfl ?_
      refine j_lload (q := 3) (pc' := 61) C dX12_come_59 rfl rfl ?_
      refine j_lcmp (pc' := 62) C dX12_come_61 rfl ?_
      refine j_if_ne (tgt := 68) (pc' := 65) C dX12_come_62 rfl rfl (fun hc => ?_) (fun hc => ?_)
      · have hr := ifF hc hr
        clear hc
        refine j_lload (q := 5) (pc' := 70) C dX12_come_68 rfl rfl ?_
        refine j_lstore (lv' := [(5, .long zo5), (0, .ref this), (3, .int p2), (4, .int p3), (7, .int zs1.2), (8, .long zo5)]) (pc' := 72) C dX12_come_70 (by decide) rfl rfl ?_
        refine j_iinc (q := 4) (v := 1) (lv' := [(7, .int (zs1.2 + (1 : Int32))), (5, .long zo5), (0, .ref this), (3, .int p2), (4, .int p3), (8, .long zo5)]) (pc' := 75) C dX12_come_72 rfl kI_1 (by decide) rfl rfl ?_
        refine j_goto (tgt := 6) C dX12_come_75 rfl ?_
        have hr := izs1 (zo5, (zs1.2 + (1 : Int32))) (Option.some.inj hr).symm
        exact j_lv [2, 3, 4, 1, 0] rfl hr
      · have hr := ifT hc hr
        clear hc
        refine j_lload (q := 3) (pc' := 67) C dX12_come_65 rfl rfl ?_
        have hr := ezs1 _ (Option.some.inj hr).symm
        subst hr
        have hr := elL rzo2
        have hr := Option.some.inj hr
        subst hr
        exact j_lret C hq hret dX12_come_67
    refine j_lv (lv' := [(0, .ref this), (3, .int p2), (4, .int p3), (5, .long zs1.1), (7, .int zs1.2), (8, .long zs1.1), (10, .int (0 : Int32))]) [2, 3, 4, 5, 6, 1, 0] rfl ?_
    refine it_J (J := (fun (zs4 : Int64 × Int32) => Jd G 0 0 nx ce 20 [(0, .ref this), (3, .int p2), (4, .int p3), (5, .long zs1.1), (7, .int zs1.2), (8, .long zs4.1), (10, .int zs4.2)] [])) ?_ hzo5
    clear hzo5
    intro zs4 zr6 hr izs4 ezs4
    refine j_iload (q := 6) (pc' := 22) C dX12_come_20 rfl rfl ?_
    refine j_aload_n (q := 0) (pc' := 23) C dX12_come_22 rfl rfl rfl ?_
    obtain ⟨zz7, hzz7, hr⟩ := ob hr
    obtain ⟨zx8, hzx8, hr⟩ := ob hr
    obtain ⟨fhzz7, hzz7⟩ := rcv_sp hzz7
    refine j_callV (ci := 9) (As := []) (rest := [.int zs4.2]) (st1 := [.int zx8, .int zs4.2]) (pc' := 26) C ⟨wm_1642, wm_58⟩ rfl hzz7 (c_X12_states (nx := nx) hzx8) yw_X12_states wm_1640 rfl rfl (Nat.le_of_ble_eq_true rfl) ⟨by decide, by decide⟩ dX12_come_23 rfl rfl ?_
    refine j_ic_ge (tgt := 57) (pc' := 29) C dX12_come_26 rfl rfl (fun hc => ?_) (fun hc => ?_)
    · have hr := ifT hc hr
      clear hc
      have hr := ezs4 _ (Option.some.inj hr).symm
      subst hr
      exact j_lv [0, 1, 2, 3, 4, 5] rfl kzo5
    · have hr := ifF hc hr
      clear hc
      refine j_lload (q := 3) (pc' := 31) C dX12_come_29 rfl rfl ?_
      refine j_iload (q := 6) (pc' := 33) C dX12_come_31 rfl rfl ?_
      obtain ⟨zx9, hzx9, hr⟩ := ob hr
      refine j_callS (As := [.long zs1.1, .int zs4.2]) (rest := []) (st1 := [.int zx9]) (pc' := 36) C wm_1645 (c_X12_has (nx := nx) (ce := ce) hzx9) yw_X12_has wm_1644 rfl rfl (Nat.le_of_ble_eq_true rfl) ⟨by decide, by decide⟩ dX12_come_33 rfl rfl ?_
      refine j_if_eq (tgt := 51) (pc' := 39) C dX12_come_36 rfl rfl (fun hc => ?_) (fun hc => ?_)
      · have hr := ifT hc hr
        clear hc
        refine j_iinc (q := 6) (v := 1) (lv' := [(10, .int (zs4.2 + (1 : Int32))), (0, .ref this), (3, .int p2), (4, .int p3), (5, .long zs1.1), (7, .int zs1.2), (8, .long zs4.1)]) (pc' := 54) C dX12_come_51 rfl kI_1 (by decide) rfl rfl ?_
        refine j_goto (tgt := 20) C dX12_come_54 rfl ?_
        have hr := izs4 (zs4.1, (zs4.2 + (1 : Int32))) (Option.some.inj hr).symm
        exact j_lv [1, 2, 3, 4, 5, 6, 0] rfl hr
      · have hr := ifF hc hr
        clear hc
        refine j_lload (q := 5) (pc' := 41) C dX12_come_39 rfl rfl ?_
        refine j_aload_n (q := 0) (pc' := 42) C dX12_come_41 rfl rfl rfl ?_
        refine j_iload (q := 6) (pc' := 44) C dX12_come_42 rfl rfl ?_
        refine j_iload_n (q := 1) (pc' := 45) C dX12_come_44 rfl rfl rfl ?_
        obtain ⟨zz10, hzz10, hr⟩ := ob hr
        obtain ⟨zx11, hzx11, hr⟩ := ob hr
        obtain ⟨fhzz10, hzz10⟩ := rcv_sp hzz10
        refine j_callV (ci := 9) (As := [.int zs4.2, .int p2]) (rest := [.long zs4.1]) (st1 := [.long zx11, .long zs4.1]) (pc' := 48) C ⟨wm_1765, wm_82⟩ rfl hzz10 (c_X12_afterBy (nx := nx) hzx11) yw_X12_afterBy wm_1763 rfl rfl (Nat.le_of_ble_eq_true rfl) ⟨by decide, by decide⟩ dX12_come_45 rfl rfl ?_
        refine j_lor (pc' := 49) C dX12_come_48 rfl ?_
        refine j_lstore (lv' := [(8, .long (zs4.1 ||| zx11)), (0, .ref this), (3, .int p2), (4, .int p3), (5, .long zs1.1), (7, .int zs1.2), (10, .int zs4.2)]) (pc' := 51) C dX12_come_49 (by decide) rfl rfl ?_
        refine j_iinc (q := 6) (v := 1) (lv' := [(10, .int (zs4.2 + (1 : Int32))), (8, .long (zs4.1 ||| zx11)), (0, .ref this), (3, .int p2), (4, .int p3), (5, .long zs1.1), (7, .int zs1.2)]) (pc' := 54) C dX12_come_51 rfl kI_1 (by decide) rfl rfl ?_
        refine j_goto (tgt := 20) C dX12_come_54 rfl ?_
        have hr := izs4 ((zs4.1 ||| zx11), (zs4.2 + (1 : Int32))) (Option.some.inj hr).symm
        exact j_lv [2, 3, 4, 5, 6, 1, 0] rfl hr
def m_X12_stepsTo (ce : Ce) (this : Nat) (p1 : Int64) (p2 : Int32) : Option (Int32) :=
  (it (fun (zs1 : Int32) =>
    if (64 : Int32) ≤ zs1 then
      some (Sum.inr (Sum.inr ()))
    else
      (rcv ce 9 this).bind fun zz4 =>
      (m_X12_starts ce this).bind fun zx5 =>
      (rcv ce 9 this).bind fun zz6 =>
      (m_X12_come ce this zx5 p2 zs1).bind fun zx7 =>
      if (lg_cmp (zx7 &&& p1) (0 : Int64)) = 0 then
        some (Sum.inl (zs1 + (1 : Int32)))
      else
        some (Sum.inr (Sum.inl zs1))
  ) FU (0 : Int32)).bind fun (zo2 : Int32 ⊕ Unit) =>
  Sum.elim (fun wzo2 => some wzo2) (fun vzo2 =>
    some (-1 : Int32)
  ) zo2
set_option maxRecDepth 100000 in
set_option maxHeartbeats 4000000 in
theorem c_X12_stepsTo {nx : Nat} {ce : Ce} {this : Nat} {p1 : Int64} {p2 : Int32} {q : Int32} (hr : m_X12_stepsTo ce this p1 p2 = some q) : Ct yX12_stepsTo cX12_stepsTo 5 (some .int) 3 77 0 0 [.ref this, .long p1, .int p2] nx ce (some (.int q)) ce := by
  unfold m_X12_stepsTo at hr
  refine ct_of (by decide) (Nat.le_of_ble_eq_true rfl) ?_
  intro G C hq hret hin
  show Jd G 0 0 nx ce 0 [(0, .ref this), (1, .long p1), (3, .int p2)] []
  refine j_iconst (v := 0) (pc' := 1) C dX12_stepsTo_0 kI_0 rfl ?_
  refine j_istore (lv' := [(4, .int (0 : Int32)), (0, .ref this), (1, .long p1), (3, .int p2)]) (pc' := 3) C dX12_stepsTo_1 (by decide) rfl rfl ?_
  obtain ⟨zo2, hzo2, rzo2⟩ := ob hr
  have kzo2 : ∀ vzo2, zo2 = Sum.inr vzo2 → Jd G 0 0 nx ce 37 [] [] := by
    intro vzo2 ezo2
    rw [ezo2] at rzo2
    have hr := elR rzo2
    refine j_iconst (v := -1) (pc' := 38) C dX12_stepsTo_37 kI_m1 rfl ?_
    have hr := Option.some.inj hr
    subst hr
    exact j_iret C hq hret dX12_stepsTo_38
  refine j_lv (lv' := [(0, .ref this), (1, .long p1), (3, .int p2), (4, .int (0 : Int32))]) [1, 2, 3, 0] rfl ?_
  refine it_J (J := (fun (zs1 : Int32) => Jd G 0 0 nx ce 3 [(0, .ref this), (1, .long p1), (3, .int p2), (4, .int zs1)] [])) ?_ hzo2
  clear hzo2
  intro zs1 zr3 hr izs1 ezs1
  refine j_iload (q := 3) (pc' := 5) C dX12_stepsTo_3 rfl rfl ?_
  refine j_bipush (v := 64) (pc' := 7) C dX12_stepsTo_5 kB_64 rfl ?_
  refine j_ic_ge (tgt := 37) (pc' := 10) C dX12_stepsTo_7 rfl rfl (fun hc => ?_) (fun hc => ?_)
  · have hr := ifT hc hr
    clear hc
    have hr := ezs1 _ (Option.some.inj hr).symm
    subst hr
    exact j_lv [] rfl (kzo2 _ rfl)
  · have hr := ifF hc hr
    clear hc
    refine j_aload_n (q := 0) (pc' := 11) C dX12_stepsTo_10 rfl rfl rfl ?_
    refine j_aload_n (q := 0) (pc' := 12) C dX12_stepsTo_11 rfl rfl rfl ?_
    obtain ⟨zz4, hzz4, hr⟩ := ob hr
    obtain ⟨zx5, hzx5, hr⟩ := ob hr
    obtain ⟨fhzz4, hzz4⟩ := rcv_sp hzz4
    refine j_callV (ci := 9) (As := []) (rest := [.ref this]) (st1 := [.long zx5, .ref this]) (pc' := 15) C ⟨wm_1710, wm_69⟩ rfl hzz4 (c_X12_starts (nx := nx) hzx5) yw_X12_starts wm_1708 rfl rfl (Nat.le_of_ble_eq_true rfl) ⟨by decide, by decide⟩ dX12_stepsTo_12 rfl rfl ?_
    refine j_iload_n (q := 2) (pc' := 16) C dX12_stepsTo_15 rfl rfl rfl ?_
    refine j_iload (q := 3) (pc' := 18) C dX12_stepsTo_16 rfl rfl ?_
    obtain ⟨zz6, hzz6, hr⟩ := ob hr
    obtain ⟨zx7, hzx7, hr⟩ := ob hr
    obtain ⟨fhzz6, hzz6⟩ := rcv_sp hzz6
    refine j_callV (ci := 9) (As := [.long zx5, .int p2, .int zs1]) (rest := []) (st1 := [.long zx7]) (pc' := 21) C ⟨wm_1968, wm_108⟩ rfl hzz6 (c_X12_come (nx := nx) hzx7) yw_X12_come wm_1966 rfl rfl (Nat.le_of_ble_eq_true rfl) ⟨by decide, by decide⟩ dX12_stepsTo_18 rfl rfl ?_
    refine j_lload_n (q := 1) (pc' := 22) C dX12_stepsTo_21 rfl rfl rfl ?_
    refine j_land (pc' := 23) C dX12_stepsTo_22 rfl ?_
    refine j_lconst (v := 0) (pc' := 24) C dX12_stepsTo_23 kL_0 rfl ?_
    refine j_lcmp (pc' := 25) C dX12_stepsTo_24 rfl ?_
    refine j_if_eq (tgt := 31) (pc' := 28) C dX12_stepsTo_25 rfl rfl (fun hc => ?_) (fun hc => ?_)
    · have hr := ifT hc hr
      clear hc
      refine j_iinc (q := 3) (v := 1) (lv' := [(4, .int (zs1 + (1 : Int32))), (0, .ref this), (1, .long p1), (3, .int p2)]) (pc' := 34) C dX12_stepsTo_31 rfl kI_1 (by decide) rfl rfl ?_
      refine j_goto (tgt := 3) C dX12_stepsTo_34 rfl ?_
      have hr := izs1 (zs1 + (1 : Int32)) (Option.some.inj hr).symm
      exact j_lv [1, 2, 3, 0] rfl hr
    · have hr := ifF hc hr
      clear hc
      refine j_iload (q := 3) (pc' := 30) C dX12_stepsTo_28 rfl rfl ?_
      have hr := ezs1 _ (Option.some.inj hr).symm
      subst hr
      have hr := elL rzo2
      have hr := Option.some.inj hr
      subst hr
      exact j_iret C hq hret dX12_stepsTo_30
def m_X12_distance (ce : Ce) (this : Nat) (p1 : Int32) : Option (Int32) :=
  (rcv ce 9 this).bind fun zz1 =>
  (m_X12_isState ce this p1).bind fun zx2 =>
  if zx2 = 0 then
    some (-1 : Int32)
  else
    (rcv ce 9 this).bind fun zz3 =>
    (m_X12_stepsTo ce this ((1 : Int64) <<< (Int32.toInt64 p1 &&& 63)) (15 : Int32)).bind fun zx4 =>
    some zx4
set_option maxRecDepth 100000 in
set_option maxHeartbeats 4000000 in
theorem c_X12_distance {nx : Nat} {ce : Ce} {this : Nat} {p1 : Int32} {q : Int32} (hr : m_X12_distance ce this p1 = some q) : Ct yX12_distance cX12_distance 2 (some .int) 4 101 0 0 [.ref this, .int p1] nx ce (some (.int q)) ce := by
  unfold m_X12_distance at hr
  refine ct_of (by decide) (Nat.le_of_ble_eq_true rfl) ?_
  intro G C hq hret hin
  show Jd G 0 0 nx ce 0 [(0, .ref this), (1, .int p1)] []
  refine j_aload_n (q := 0) (pc' := 1) C dX12_distance_0 rfl rfl rfl ?_
  refine j_iload_n (q := 1) (pc' := 2) C dX12_distance_1 rfl rfl rfl ?_
  obtain ⟨zz1, hzz1, hr⟩ := ob hr
  obtain ⟨zx2, hzx2, hr⟩ := ob hr
  obtain ⟨fhzz1, hzz1⟩ := rcv_sp hzz1
  refine j_callV (ci := 9) (As := [.int p1]) (rest := []) (st1 := [.int zx2]) (pc' := 5) C ⟨wm_1843, wm_97⟩ rfl hzz1 (c_X12_isState (nx := nx) hzx2) yw_X12_isState wm_1841 rfl rfl (Nat.le_of_ble_eq_true rfl) ⟨by decide, by decide⟩ dX12_distance_2 rfl rfl ?_
  refine j_if_eq (tgt := 20) (pc' := 8) C dX12_distance_5 rfl rfl (fun hc => ?_) (fun hc => ?_)
  · have hr := ifT hc hr
    clear hc
    refine j_iconst (v := -1) (pc' := 21) C dX12_distance_20 kI_m1 rfl ?_
    have hr := Option.some.inj hr
    subst hr
    exact j_iret C hq hret dX12_distance_21
  · have hr := ifF hc hr
    clear hc
    refine j_aload_n (q := 0) (pc' := 9) C dX12_distance_8 rfl rfl rfl ?_
    refine j_lconst (v := 1) (pc' := 10) C dX12_distance_9 kL_1 rfl ?_
    refine j_iload_n (q := 1) (pc' := 11) C dX12_distance_10 rfl rfl rfl ?_
    refine j_lshl (pc' := 12) C dX12_distance_11 rfl ?_
    refine j_bipush (v := 15) (pc' := 14) C dX12_distance_12 kB_15 rfl ?_
    obtain ⟨zz3, hzz3, hr⟩ := ob hr
    obtain ⟨zx4, hzx4, hr⟩ := ob hr
    obtain ⟨fhzz3, hzz3⟩ := rcv_sp hzz3
    refine j_callV (ci := 9) (As := [.long ((1 : Int64) <<< (Int32.toInt64 p1 &&& 63)), .int (15 : Int32)]) (rest := []) (st1 := [.int zx4]) (pc' := 17) C ⟨wm_1964, wm_107⟩ rfl hzz3 (c_X12_stepsTo (nx := nx) hzx4) yw_X12_stepsTo wm_1962 rfl rfl (Nat.le_of_ble_eq_true rfl) ⟨by decide, by decide⟩ dX12_distance_14 rfl rfl ?_
    refine j_goto (tgt := 21) C dX12_distance_17 rfl ?_
    have hr := Option.some.inj hr
    subst hr
    exact j_iret C hq hret dX12_distance_21
def m_X12_distanceBy (ce : Ce) (this : Nat) (p1 : Int32) (p2 : Int32) : Option (Int32) :=
  (rcv ce 9 this).bind fun zz1 =>
  (m_X12_isState ce this p1).bind fun zx2 =>
  if zx2 = 0 then
    some (-1 : Int32)
  else
    (m_X12_isIn p2 (1 : Int32) (15 : Int32)).bind fun zx3 =>
    if zx3 = 0 then
      some (-1 : Int32)
    else
      (rcv ce 9 this).bind fun zz4 =>
      (m_X12_stepsTo ce this ((1 : Int64) <<< (Int32.toInt64 p1 &&& 63)) p2).bind fun zx5 =>
      some zx5
set_option maxRecDepth 100000 in
set_option maxHeartbeats 4000000 in
theorem c_X12_distanceBy {nx : Nat} {ce : Ce} {this : Nat} {p1 : Int32} {p2 : Int32} {q : Int32} (hr : m_X12_distanceBy ce this p1 p2 = some q) : Ct yX12_distanceBy cX12_distanceBy 3 (some .int) 4 101 0 0 [.ref this, .int p1, .int p2] nx ce (some (.int q)) ce := by
  unfold m_X12_distanceBy at hr
  refine ct_of (by decide) (Nat.le_of_ble_eq_true rfl) ?_
  intro G C hq hret hin
  show Jd G 0 0 nx ce 0 [(0, .ref this), (1, .int p1), (2, .int p2)] []
  refine j_aload_n (q := 0) (pc' := 1) C dX12_distanceBy_0 rfl rfl rfl ?_
  refine j_iload_n (q := 1) (pc' := 2) C dX12_distanceBy_1 rfl rfl rfl ?_
  obtain ⟨zz1, hzz1, hr⟩ := ob hr
  obtain ⟨zx2, hzx2, hr⟩ := ob hr
  obtain ⟨fhzz1, hzz1⟩ := rcv_sp hzz1
  refine j_callV (ci := 9) (As := [.int p1]) (rest := []) (st1 := [.int zx2]) (pc' := 5) C ⟨wm_1843, wm_97⟩ rfl hzz1 (c_X12_isState (nx := nx) hzx2) yw_X12_isState wm_1841 rfl rfl (Nat.le_of_ble_eq_true rfl) ⟨by decide, by decide⟩ dX12_distanceBy_2 rfl rfl ?_
  refine j_if_eq (tgt := 29) (pc' := 8) C dX12_distanceBy_5 rfl rfl (fun hc => ?_) (fun hc => ?_)
  · have hr := ifT hc hr
    clear hc
    refine j_iconst (v := -1) (pc' := 30) C dX12_distanceBy_29 kI_m1 rfl ?_
    have hr := Option.some.inj hr
    subst hr
    exact j_iret C hq hret dX12_distanceBy_30
  · have hr := ifF hc hr
    clear hc
    refine j_iload_n (q := 2) (pc' := 9) C dX12_distanceBy_8 rfl rfl rfl ?_
    refine j_iconst (v := 1) (pc' := 10) C dX12_distanceBy_9 kI_1 rfl ?_
    refine j_bipush (v := 15) (pc' := 12) C dX12_distanceBy_10 kB_15 rfl ?_
    obtain ⟨zx3, hzx3, hr⟩ := ob hr
    refine j_callS (As := [.int p2, .int (1 : Int32), .int (15 : Int32)]) (rest := []) (st1 := [.int zx3]) (pc' := 15) C wm_1529 (c_X12_isIn (nx := nx) (ce := ce) hzx3) yw_X12_isIn wm_1528 rfl rfl (Nat.le_of_ble_eq_true rfl) ⟨by decide, by decide⟩ dX12_distanceBy_12 rfl rfl ?_
    refine j_if_eq (tgt := 29) (pc' := 18) C dX12_distanceBy_15 rfl rfl (fun hc => ?_) (fun hc => ?_)
    · have hr := ifT hc hr
      clear hc
      refine j_iconst (v := -1) (pc' := 30) C dX12_distanceBy_29 kI_m1 rfl ?_
      have hr := Option.some.inj hr
      subst hr
      exact j_iret C hq hret dX12_distanceBy_30
    · have hr := ifF hc hr
      clear hc
      refine j_aload_n (q := 0) (pc' := 19) C dX12_distanceBy_18 rfl rfl rfl ?_
      refine j_lconst (v := 1) (pc' := 20) C dX12_distanceBy_19 kL_1 rfl ?_
      refine j_iload_n (q := 1) (pc' := 21) C dX12_distanceBy_20 rfl rfl rfl ?_
      refine j_lshl (pc' := 22) C dX12_distanceBy_21 rfl ?_
      refine j_iload_n (q := 2) (pc' := 23) C dX12_distanceBy_22 rfl rfl rfl ?_
      obtain ⟨zz4, hzz4, hr⟩ := ob hr
      obtain ⟨zx5, hzx5, hr⟩ := ob hr
      obtain ⟨fhzz4, hzz4⟩ := rcv_sp hzz4
      refine j_callV (ci := 9) (As := [.long ((1 : Int64) <<< (Int32.toInt64 p1 &&& 63)), .int p2]) (rest := []) (st1 := [.int zx5]) (pc' := 26) C ⟨wm_1964, wm_107⟩ rfl hzz4 (c_X12_stepsTo (nx := nx) hzx5) yw_X12_stepsTo wm_1962 rfl rfl (Nat.le_of_ble_eq_true rfl) ⟨by decide, by decide⟩ dX12_distanceBy_23 rfl rfl ?_
      refine j_goto (tgt := 30) C dX12_distanceBy_26 rfl ?_
      have hr := Option.some.inj hr
      subst hr
      exact j_iret C hq hret dX12_distanceBy_30
def m_X12_nearest (ce : Ce) (this : Nat) : Option (Int32) :=
  (rcv ce 9 this).bind fun zz1 =>
  (m_X12_aims ce this).bind fun zx2 =>
  (rcv ce 9 this).bind fun zz3 =>
  (m_X12_stepsTo ce this zx2 (15 : Int32)).bind fun zx4 =>
  some zx4
set_option maxRecDepth 100000 in
set_option maxHeartbeats 4000000 in
theorem c_X12_nearest {nx : Nat} {ce : Ce} {this : Nat} {q : Int32} (hr : m_X12_nearest ce this = some q) : Ct yX12_nearest cX12_nearest 1 (some .int) 4 101 0 0 [.ref this] nx ce (some (.int q)) ce := by
  unfold m_X12_nearest at hr
  refine ct_of (by decide) (Nat.le_of_ble_eq_true rfl) ?_
  intro G C hq hret hin
  show Jd G 0 0 nx ce 0 [(0, .ref this)] []
  refine j_aload_n (q := 0) (pc' := 1) C dX12_nearest_0 rfl rfl rfl ?_
  refine j_aload_n (q := 0) (pc' := 2) C dX12_nearest_1 rfl rfl rfl ?_
  obtain ⟨zz1, hzz1, hr⟩ := ob hr
  obtain ⟨zx2, hzx2, hr⟩ := ob hr
  obtain ⟨fhzz1, hzz1⟩ := rcv_sp hzz1
  refine j_callV (ci := 9) (As := []) (rest := [.ref this]) (st1 := [.long zx2, .ref this]) (pc' := 5) C ⟨wm_1697, wm_66⟩ rfl hzz1 (c_X12_aims (nx := nx) hzx2) yw_X12_aims wm_1695 rfl rfl (Nat.le_of_ble_eq_true rfl) ⟨by decide, by decide⟩ dX12_nearest_2 rfl rfl ?_
  refine j_bipush (v := 15) (pc' := 7) C dX12_nearest_5 kB_15 rfl ?_
  obtain ⟨zz3, hzz3, hr⟩ := ob hr
  obtain ⟨zx4, hzx4, hr⟩ := ob hr
  obtain ⟨fhzz3, hzz3⟩ := rcv_sp hzz3
  refine j_callV (ci := 9) (As := [.long zx2, .int (15 : Int32)]) (rest := []) (st1 := [.int zx4]) (pc' := 10) C ⟨wm_1964, wm_107⟩ rfl hzz3 (c_X12_stepsTo (nx := nx) hzx4) yw_X12_stepsTo wm_1962 rfl rfl (Nat.le_of_ble_eq_true rfl) ⟨by decide, by decide⟩ dX12_nearest_7 rfl rfl ?_
  have hr := Option.some.inj hr
  subst hr
  exact j_iret C hq hret dX12_nearest_10
def m_X12_reach (ce : Ce) (this : Nat) (p1 : Int32) : Option (Int32) :=
  if 0 ≤ p1 then
    (rcv ce 9 this).bind fun zz1 =>
    (m_X12_starts ce this).bind fun zx2 =>
    (rcv ce 9 this).bind fun zz3 =>
    (m_X12_come ce this zx2 (15 : Int32) p1).bind fun zx4 =>
    (m_X12_many zx4).bind fun zx5 =>
    some zx5
  else
    some (-1 : Int32)
set_option maxRecDepth 100000 in
set_option maxHeartbeats 4000000 in
theorem c_X12_reach {nx : Nat} {ce : Ce} {this : Nat} {p1 : Int32} {q : Int32} (hr : m_X12_reach ce this p1 = some q) : Ct yX12_reach cX12_reach 2 (some .int) 3 77 0 0 [.ref this, .int p1] nx ce (some (.int q)) ce := by
  unfold m_X12_reach at hr
  refine ct_of (by decide) (Nat.le_of_ble_eq_true rfl) ?_
  intro G C hq hret hin
  show Jd G 0 0 nx ce 0 [(0, .ref this), (1, .int p1)] []
  refine j_iload_n (q := 1) (pc' := 1) C dX12_reach_0 rfl rfl rfl ?_
  refine j_if_ge (tgt := 8) (pc' := 4) C dX12_reach_1 rfl rfl (fun hc => ?_) (fun hc => ?_)
  · have hr := ifT hc hr
    clear hc
    refine j_aload_n (q := 0) (pc' := 9) C dX12_reach_8 rfl rfl rfl ?_
    refine j_aload_n (q := 0) (pc' := 10) C dX12_reach_9 rfl rfl rfl ?_
    obtain ⟨zz1, hzz1, hr⟩ := ob hr
    obtain ⟨zx2, hzx2, hr⟩ := ob hr
    obtain ⟨fhzz1, hzz1⟩ := rcv_sp hzz1
    refine j_callV (ci := 9) (As := []) (rest := [.ref this]) (st1 := [.long zx2, .ref this]) (pc' := 13) C ⟨wm_1710, wm_69⟩ rfl hzz1 (c_X12_starts (nx := nx) hzx2) yw_X12_starts wm_1708 rfl rfl (Nat.le_of_ble_eq_true rfl) ⟨by decide, by decide⟩ dX12_reach_10 rfl rfl ?_
    refine j_bipush (v := 15) (pc' := 15) C dX12_reach_13 kB_15 rfl ?_
    refine j_iload_n (q := 1) (pc' := 16) C dX12_reach_15 rfl rfl rfl ?_
    obtain ⟨zz3, hzz3, hr⟩ := ob hr
    obtain ⟨zx4, hzx4, hr⟩ := ob hr
    obtain ⟨fhzz3, hzz3⟩ := rcv_sp hzz3
    refine j_callV (ci := 9) (As := [.long zx2, .int (15 : Int32), .int p1]) (rest := []) (st1 := [.long zx4]) (pc' := 19) C ⟨wm_1968, wm_108⟩ rfl hzz3 (c_X12_come (nx := nx) hzx4) yw_X12_come wm_1966 rfl rfl (Nat.le_of_ble_eq_true rfl) ⟨by decide, by decide⟩ dX12_reach_16 rfl rfl ?_
    obtain ⟨zx5, hzx5, hr⟩ := ob hr
    refine j_callS (As := [.long zx4]) (rest := []) (st1 := [.int zx5]) (pc' := 22) C wm_1866 (c_X12_many (nx := nx) (ce := ce) hzx5) yw_X12_many wm_1865 rfl rfl (Nat.le_of_ble_eq_true rfl) ⟨by decide, by decide⟩ dX12_reach_19 rfl rfl ?_
    have hr := Option.some.inj hr
    subst hr
    exact j_iret C hq hret dX12_reach_22
  · have hr := ifF hc hr
    clear hc
    refine j_iconst (v := -1) (pc' := 5) C dX12_reach_4 kI_m1 rfl ?_
    refine j_goto (tgt := 22) C dX12_reach_5 rfl ?_
    have hr := Option.some.inj hr
    subst hr
    exact j_iret C hq hret dX12_reach_22
def m_X12_slack (ce : Ce) (this : Nat) (p1 : Int32) : Option (Int32) :=
  (rcv ce 9 this).bind fun zz1 =>
  (m_X12_isFrame ce this p1).bind fun zx2 =>
  if zx2 = 0 then
    some (-1 : Int32)
  else
    (rcv ce 9 this).bind fun zz3 =>
    (m_X12_openAt ce this p1).bind fun zx4 =>
    (rcv ce 9 this).bind fun zz5 =>
    (m_X12_starts ce this).bind fun zx6 =>
    (rcv ce 9 this).bind fun zz7 =>
    (m_X12_come ce this zx6 (15 : Int32) p1).bind fun zx8 =>
    (m_X12_many (zx4 &&& (zx8 ^^^ (-1 : Int64)))).bind fun zx9 =>
    some zx9
set_option maxRecDepth 100000 in
set_option maxHeartbeats 4000000 in
theorem c_X12_slack {nx : Nat} {ce : Ce} {this : Nat} {p1 : Int32} {q : Int32} (hr : m_X12_slack ce this p1 = some q) : Ct yX12_slack cX12_slack 2 (some .int) 5 110 0 0 [.ref this, .int p1] nx ce (some (.int q)) ce := by
  unfold m_X12_slack at hr
  refine ct_of (by decide) (Nat.le_of_ble_eq_true rfl) ?_
  intro G C hq hret hin
  show Jd G 0 0 nx ce 0 [(0, .ref this), (1, .int p1)] []
  refine j_aload_n (q := 0) (pc' := 1) C dX12_slack_0 rfl rfl rfl ?_
  refine j_iload_n (q := 1) (pc' := 2) C dX12_slack_1 rfl rfl rfl ?_
  obtain ⟨zz1, hzz1, hr⟩ := ob hr
  obtain ⟨zx2, hzx2, hr⟩ := ob hr
  obtain ⟨fhzz1, hzz1⟩ := rcv_sp hzz1
  refine j_callV (ci := 9) (As := [.int p1]) (rest := []) (st1 := [.int zx2]) (pc' := 5) C ⟨wm_1859, wm_98⟩ rfl hzz1 (c_X12_isFrame (nx := nx) hzx2) yw_X12_isFrame wm_1857 rfl rfl (Nat.le_of_ble_eq_true rfl) ⟨by decide, by decide⟩ dX12_slack_2 rfl rfl ?_
  refine j_if_eq (tgt := 35) (pc' := 8) C dX12_slack_5 rfl rfl (fun hc => ?_) (fun hc => ?_)
  · have hr := ifT hc hr
    clear hc
    refine j_iconst (v := -1) (pc' := 36) C dX12_slack_35 kI_m1 rfl ?_
    have hr := Option.some.inj hr
    subst hr
    exact j_iret C hq hret dX12_slack_36
  · have hr := ifF hc hr
    clear hc
    refine j_aload_n (q := 0) (pc' := 9) C dX12_slack_8 rfl rfl rfl ?_
    refine j_iload_n (q := 1) (pc' := 10) C dX12_slack_9 rfl rfl rfl ?_
    obtain ⟨zz3, hzz3, hr⟩ := ob hr
    obtain ⟨zx4, hzx4, hr⟩ := ob hr
    obtain ⟨fhzz3, hzz3⟩ := rcv_sp hzz3
    refine j_callV (ci := 9) (As := [.int p1]) (rest := []) (st1 := [.long zx4]) (pc' := 13) C ⟨wm_1706, wm_68⟩ rfl hzz3 (c_X12_openAt (nx := nx) hzx4) yw_X12_openAt wm_1704 rfl rfl (Nat.le_of_ble_eq_true rfl) ⟨by decide, by decide⟩ dX12_slack_10 rfl rfl ?_
    refine j_aload_n (q := 0) (pc' := 14) C dX12_slack_13 rfl rfl rfl ?_
    refine j_aload_n (q := 0) (pc' := 15) C dX12_slack_14 rfl rfl rfl ?_
    obtain ⟨zz5, hzz5, hr⟩ := ob hr
    obtain ⟨zx6, hzx6, hr⟩ := ob hr
    obtain ⟨fhzz5, hzz5⟩ := rcv_sp hzz5
    refine j_callV (ci := 9) (As := []) (rest := [.ref this, .long zx4]) (st1 := [.long zx6, .ref this, .long zx4]) (pc' := 18) C ⟨wm_1710, wm_69⟩ rfl hzz5 (c_X12_starts (nx := nx) hzx6) yw_X12_starts wm_1708 rfl rfl (Nat.le_of_ble_eq_true rfl) ⟨by decide, by decide⟩ dX12_slack_15 rfl rfl ?_
    refine j_bipush (v := 15) (pc' := 20) C dX12_slack_18 kB_15 rfl ?_
    refine j_iload_n (q := 1) (pc' := 21) C dX12_slack_20 rfl rfl rfl ?_
    obtain ⟨zz7, hzz7, hr⟩ := ob hr
    obtain ⟨zx8, hzx8, hr⟩ := ob hr
    obtain ⟨fhzz7, hzz7⟩ := rcv_sp hzz7
    refine j_callV (ci := 9) (As := [.long zx6, .int (15 : Int32), .int p1]) (rest := [.long zx4]) (st1 := [.long zx8, .long zx4]) (pc' := 24) C ⟨wm_1968, wm_108⟩ rfl hzz7 (c_X12_come (nx := nx) hzx8) yw_X12_come wm_1966 rfl rfl (Nat.le_of_ble_eq_true rfl) ⟨by decide, by decide⟩ dX12_slack_21 rfl rfl ?_
    refine j_ldc2 (pc' := 27) C dX12_slack_24 wm_1598 rfl ?_
    refine j_lxor (pc' := 28) C dX12_slack_27 rfl ?_
    refine j_land (pc' := 29) C dX12_slack_28 rfl ?_
    obtain ⟨zx9, hzx9, hr⟩ := ob hr
    refine j_callS (As := [.long (zx4 &&& (zx8 ^^^ (-1 : Int64)))]) (rest := []) (st1 := [.int zx9]) (pc' := 32) C wm_1866 (c_X12_many (nx := nx) (ce := ce) hzx9) yw_X12_many wm_1865 rfl rfl (Nat.le_of_ble_eq_true rfl) ⟨by decide, by decide⟩ dX12_slack_29 rfl rfl ?_
    refine j_goto (tgt := 36) C dX12_slack_32 rfl ?_
    have hr := Option.some.inj hr
    subst hr
    exact j_iret C hq hret dX12_slack_36
def m_X12_nearing (ce : Ce) (this : Nat) (p1 : Int32) : Option (Int64) :=
  (rcv ce 9 this).bind fun zz1 =>
  (m_X12_aims ce this).bind fun zx2 =>
  (it (fun (zs3 : Int64 × Int32) =>
    if p1 ≤ zs3.2 then
      some (Sum.inr (Sum.inr zs3.1))
    else
      (it (fun (zs6 : Int64 × Int32) =>
        (rcv ce 9 this).bind fun zz9 =>
        (m_X12_states ce this).bind fun zx10 =>
        if zx10 ≤ zs6.2 then
          some (Sum.inr zs6.1)
        else
          (rcv ce 9 this).bind fun zz11 =>
          (m_X12_after ce this zs6.2).bind fun zx12 =>
          if (lg_cmp (zx12 &&& zs3.1) (0 : Int64)) = 0 then
            some (Sum.inl (zs6.1, (zs6.2 + (1 : Int32))))
          else
            some (Sum.inl ((zs6.1 ||| ((1 : Int64) <<< (Int32.toInt64 zs6.2 &&& 63))), (zs6.2 + (1 : Int32))))
      ) FU (zs3.1, (0 : Int32))).bind fun (zo7 : Int64) =>
      if (lg_cmp zo7 zs3.1) = 0 then
        some (Sum.inr (Sum.inl zs3.1))
      else
        some (Sum.inl (zo7, (zs3.2 + (1 : Int32))))
  ) FU (zx2, (0 : Int32))).bind fun (zo4 : Int64 ⊕ Int64) =>
  Sum.elim (fun wzo4 => some wzo4) (fun vzo4 =>
    some vzo4
  ) zo4
set_option maxRecDepth 100000 in
set_option maxHeartbeats 4000000 in
theorem c_X12_nearing {nx : Nat} {ce : Ce} {this : Nat} {p1 : Int32} {q : Int64} (hr : m_X12_nearing ce this p1 = some q) : Ct yX12_nearing cX12_nearing 8 (some .long) 3 68 0 0 [.ref this, .int p1] nx ce (some (.long q)) ce := by
  unfold m_X12_nearing at hr
  refine ct_of (by decide) (Nat.le_of_ble_eq_true rfl) ?_
  intro G C hq hret hin
  show Jd G 0 0 nx ce 0 [(0, .ref this), (1, .int p1)] []
  refine j_aload_n (q := 0) (pc' := 1) C dX12_nearing_0 rfl rfl rfl ?_
  obtain ⟨zz1, hzz1, hr⟩ := ob hr
  obtain ⟨zx2, hzx2, hr⟩ := ob hr
  obtain ⟨fhzz1, hzz1⟩ := rcv_sp hzz1
  refine j_callV (ci := 9) (As := []) (rest := []) (st1 := [.long zx2]) (pc' := 4) C ⟨wm_1697, wm_66⟩ rfl hzz1 (c_X12_aims (nx := nx) hzx2) yw_X12_aims wm_1695 rfl rfl (Nat.le_of_ble_eq_true rfl) ⟨by decide, by decide⟩ dX12_nearing_1 rfl rfl ?_
  refine j_lstore_n (lv' := [(2, .long zx2), (0, .ref this), (1, .int p1)]) (pc' := 5) C dX12_nearing_4 rfl (by decide) rfl rfl ?_
  refine j_iconst (v := 0) (pc' := 6) C dX12_nearing_5 kI_0 rfl ?_
  refine j_istore (lv' := [(4, .int (0 : Int32)), (2, .long zx2), (0, .ref this), (1, .int p1)]) (pc' := 8) C dX12_nearing_6 (by decide) rfl rfl ?_
  obtain ⟨zo4, hzo4, rzo4⟩ := ob hr
  have kzo4 : ∀ vzo4, zo4 = Sum.inr vzo4 → Jd G 0 0 nx ce 75 [(2, .long vzo4)] [] := by
    intro vzo4 ezo4
    rw [ezo4] at rzo4
    have hr := elR rzo4
    refine j_lload_n (q := 0) (pc' := 76) C dX12_nearing_75 rfl rfl rfl ?_
    have hr := Option.some.inj hr
    subst hr
    exact j_lret C hq hret dX12_nearing_76
  refine j_lv (lv' := [(0, .ref this), (1, .int p1), (2, .long zx2), (4, .int (0 : Int32))]) [2, 3, 1, 0] rfl ?_
  refine it_J (J := (fun (zs3 : Int64 × Int32) => Jd G 0 0 nx ce 8 [(0, .ref this), (1, .int p1), (2, .long zs3.1), (4, .int zs3.2)] [])) ?_ hzo4
  clear hzo4
  intro zs3 zr5 hr izs3 ezs3
  refine j_iload (q := 3) (pc' := 10) C dX12_nearing_8 rfl rfl ?_
  refine j_iload_n (q := 1) (pc' := 11) C dX12_nearing_10 rfl rfl rfl ?_
  refine j_ic_ge (tgt := 75) (pc' := 14) C dX12_nearing_11 rfl rfl (fun hc => ?_) (fun hc => ?_)
  · have hr := ifT hc hr
    clear hc
    have hr := ezs3 _ (Option.some.inj hr).symm
    subst hr
    exact j_lv [2] rfl (kzo4 _ rfl)
  · have hr := ifF hc hr
    clear hc
    refine j_lload_n (q := 2) (pc' := 15) C dX12_nearing_14 rfl rfl rfl ?_
    refine j_lstore (lv' := [(5, .long zs3.1), (0, .ref this), (1, .int p1), (2, .long zs3.1), (4, .int zs3.2)]) (pc' := 17) C dX12_nearing_15 (by decide) rfl rfl ?_
    refine j_iconst (v := 0) (pc' := 18) C dX12_nearing_17 kI_0 rfl ?_
    refine j_istore (lv' := [(7, .int (0 : Int32)), (5, .long zs3.1), (0, .ref this), (1, .int p1), (2, .long zs3.1), (4, .int zs3.2)]) (pc' := 20) C dX12_nearing_18 (by decide) rfl rfl ?_
    obtain ⟨zo7, hzo7, rzo7⟩ := ob hr
    have kzo7 : Jd G 0 0 nx ce 57 [(0, .ref this), (1, .int p1), (2, .long zs3.1), (4, .int zs3.2), (5, .long zo7)] [] := by
      have hr := rzo7
      refine j_lload (q := 4) (pc' := 59) C dX12_nearing_57 rfl rfl ?_
      refine j_lload_n (q := 2) (pc' := 60) C dX12_nearing_59 rfl rfl rfl ?_
      refine j_lcmp (pc' := 61) C dX12_nearing_60 rfl ?_
      refine j_if_ne (tgt := 66) (pc' := 64) C dX12_nearing_61 rfl rfl (fun hc => ?_) (fun hc => ?_)
      · have hr := ifF hc hr
        clear hc
        refine j_lload (q := 4) (pc' := 68) C dX12_nearing_66 rfl rfl ?_
        refine j_lstore_n (lv' := [(2, .long zo7), (0, .ref this), (1, .int p1), (4, .int zs3.2), (5, .long zo7)]) (pc' := 69) C dX12_nearing_68 rfl (by decide) rfl rfl ?_
        refine j_iinc (q := 3) (v := 1) (lv' := [(4, .int (zs3.2 + (1 : Int32))), (2, .long zo7), (0, .ref this), (1, .int p1), (5, .long zo7)]) (pc' := 72) C dX12_nearing_69 rfl kI_1 (by decide) rfl rfl ?_
        refine j_goto (tgt := 8) C dX12_nearing_72 rfl ?_
        have hr := izs3 (zo7, (zs3.2 + (1 : Int32))) (Option.some.inj hr).symm
        exact j_lv [2, 3, 1, 0] rfl hr
      · have hr := ifT hc hr
        clear hc
        refine j_lload_n (q := 2) (pc' := 65) C dX12_nearing_64 rfl rfl rfl ?_
        have hr := ezs3 _ (Option.some.inj hr).symm
        subst hr
        have hr := elL rzo4
        have hr := Option.some.inj hr
        subst hr
        exact j_lret C hq hret dX12_nearing_65
    refine j_lv (lv' := [(0, .ref this), (1, .int p1), (2, .long zs3.1), (4, .int zs3.2), (5, .long zs3.1), (7, .int (0 : Int32))]) [2, 3, 4, 5, 1, 0] rfl ?_
    refine it_J (J := (fun (zs6 : Int64 × Int32) => Jd G 0 0 nx ce 20 [(0, .ref this), (1, .int p1), (2, .long zs3.1), (4, .int zs3.2), (5, .long zs6.1), (7, .int zs6.2)] [])) ?_ hzo7
    clear hzo7
    intro zs6 zr8 hr izs6 ezs6
    refine j_iload (q := 5) (pc' := 22) C dX12_nearing_20 rfl rfl ?_
    refine j_aload_n (q := 0) (pc' := 23) C dX12_nearing_22 rfl rfl rfl ?_
    obtain ⟨zz9, hzz9, hr⟩ := ob hr
    obtain ⟨zx10, hzx10, hr⟩ := ob hr
    obtain ⟨fhzz9, hzz9⟩ := rcv_sp hzz9
    refine j_callV (ci := 9) (As := []) (rest := [.int zs6.2]) (st1 := [.int zx10, .int zs6.2]) (pc' := 26) C ⟨wm_1642, wm_58⟩ rfl hzz9 (c_X12_states (nx := nx) hzx10) yw_X12_states wm_1640 rfl rfl (Nat.le_of_ble_eq_true rfl) ⟨by decide, by decide⟩ dX12_nearing_23 rfl rfl ?_
    refine j_ic_ge (tgt := 57) (pc' := 29) C dX12_nearing_26 rfl rfl (fun hc => ?_) (fun hc => ?_)
    · have hr := ifT hc hr
      clear hc
      have hr := ezs6 _ (Option.some.inj hr).symm
      subst hr
      exact j_lv [0, 1, 2, 3, 4] rfl kzo7
    · have hr := ifF hc hr
      clear hc
      refine j_aload_n (q := 0) (pc' := 30) C dX12_nearing_29 rfl rfl rfl ?_
      refine j_iload (q := 5) (pc' := 32) C dX12_nearing_30 rfl rfl ?_
      obtain ⟨zz11, hzz11, hr⟩ := ob hr
      obtain ⟨zx12, hzx12, hr⟩ := ob hr
      obtain ⟨fhzz11, hzz11⟩ := rcv_sp hzz11
      refine j_callV (ci := 9) (As := [.int zs6.2]) (rest := []) (st1 := [.long zx12]) (pc' := 35) C ⟨wm_1761, wm_81⟩ rfl hzz11 (c_X12_after (nx := nx) hzx12) yw_X12_after wm_1759 rfl rfl (Nat.le_of_ble_eq_true rfl) ⟨by decide, by decide⟩ dX12_nearing_32 rfl rfl ?_
      refine j_lload_n (q := 2) (pc' := 36) C dX12_nearing_35 rfl rfl rfl ?_
      refine j_land (pc' := 37) C dX12_nearing_36 rfl ?_
      refine j_lconst (v := 0) (pc' := 38) C dX12_nearing_37 kL_0 rfl ?_
      refine j_lcmp (pc' := 39) C dX12_nearing_38 rfl ?_
      refine j_if_eq (tgt := 51) (pc' := 42) C dX12_nearing_39 rfl rfl (fun hc => ?_) (fun hc => ?_)
      · have hr := ifT hc hr
        clear hc
        refine j_iinc (q := 5) (v := 1) (lv' := [(7, .int (zs6.2 + (1 : Int32))), (0, .ref this), (1, .int p1), (2, .long zs3.1), (4, .int zs3.2), (5, .long zs6.1)]) (pc' := 54) C dX12_nearing_51 rfl kI_1 (by decide) rfl rfl ?_
        refine j_goto (tgt := 20) C dX12_nearing_54 rfl ?_
        have hr := izs6 (zs6.1, (zs6.2 + (1 : Int32))) (Option.some.inj hr).symm
        exact j_lv [1, 2, 3, 4, 5, 0] rfl hr
      · have hr := ifF hc hr
        clear hc
        refine j_lload (q := 4) (pc' := 44) C dX12_nearing_42 rfl rfl ?_
        refine j_lconst (v := 1) (pc' := 45) C dX12_nearing_44 kL_1 rfl ?_
        refine j_iload (q := 5) (pc' := 47) C dX12_nearing_45 rfl rfl ?_
        refine j_lshl (pc' := 48) C dX12_nearing_47 rfl ?_
        refine j_lor (pc' := 49) C dX12_nearing_48 rfl ?_
        refine j_lstore (lv' := [(5, .long (zs6.1 ||| ((1 : Int64) <<< (Int32.toInt64 zs6.2 &&& 63)))), (0, .ref this), (1, .int p1), (2, .long zs3.1), (4, .int zs3.2), (7, .int zs6.2)]) (pc' := 51) C dX12_nearing_49 (by decide) rfl rfl ?_
        refine j_iinc (q := 5) (v := 1) (lv' := [(7, .int (zs6.2 + (1 : Int32))), (5, .long (zs6.1 ||| ((1 : Int64) <<< (Int32.toInt64 zs6.2 &&& 63)))), (0, .ref this), (1, .int p1), (2, .long zs3.1), (4, .int zs3.2)]) (pc' := 54) C dX12_nearing_51 rfl kI_1 (by decide) rfl rfl ?_
        refine j_goto (tgt := 20) C dX12_nearing_54 rfl ?_
        have hr := izs6 ((zs6.1 ||| ((1 : Int64) <<< (Int32.toInt64 zs6.2 &&& 63))), (zs6.2 + (1 : Int32))) (Option.some.inj hr).symm
        exact j_lv [2, 3, 4, 5, 1, 0] rfl hr
