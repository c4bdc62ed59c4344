def m_X7_addToken (ce : Ce) (this : Nat) (p1 : Int32) (p2 : Int32) (p3 : Int32) : Option (Unit × Ce) :=
  (gI ce 5 3 this).bind fun zx1 =>
  (gA ce 5 0 this).bind fun zx2 =>
  (alen ce zx2).bind fun zx3 =>
  if zx3 ≤ zx1 then
    some ((), ce)
  else
    (gA ce 5 0 this).bind fun zx4 =>
    (gI ce 5 3 this).bind fun zx5 =>
    (sI ce zx4 zx5 p1).bind fun zc6 =>
    (gA zc6 5 1 this).bind fun zx7 =>
    (gI zc6 5 3 this).bind fun zx8 =>
    (sI zc6 zx7 zx8 p2).bind fun zc9 =>
    (gA zc9 5 2 this).bind fun zx10 =>
    (gI zc9 5 3 this).bind fun zx11 =>
    (sI zc9 zx10 zx11 p3).bind fun zc12 =>
    (gI zc12 5 3 this).bind fun zx13 =>
    (pV zc12 5 3 this (.int (zx13 + (1 : Int32)))).bind fun zc14 =>
    some ((), zc14)
set_option maxRecDepth 100000 in
set_option maxHeartbeats 4000000 in
theorem c_X7_addToken {nx : Nat} {ce : Ce} {this : Nat} {p1 : Int32} {p2 : Int32} {p3 : Int32} {q : Unit × Ce} (hr : m_X7_addToken ce this p1 p2 p3 = some q) : Ct yX7_addToken cX7_addToken 4 none 0 0 0 0 [.ref this, .int p1, .int p2, .int p3] nx ce none q.2 := by
  unfold m_X7_addToken at hr
  refine ct_of (by decide) (Nat.le_of_ble_eq_true rfl) ?_
  intro G C hq hret hin
  show Jd G 0 0 nx ce 0 [(0, .ref this), (1, .int p1), (2, .int p2), (3, .int p3)] []
  refine j_aload_n (q := 0) (pc' := 1) C dX7_addToken_0 rfl rfl rfl ?_
  obtain ⟨zx1, hzx1, hr⟩ := ob hr
  refine j_getI (pc' := 4) C dX7_addToken_1 fl_X7_28 hzx1 rfl ?_
  refine j_aload_n (q := 0) (pc' := 5) C dX7_addToken_4 rfl rfl rfl ?_
  obtain ⟨zx2, hzx2, hr⟩ := ob hr
  refine j_getA (pc' := 8) C dX7_addToken_5 fl_X7_9 hzx2 rfl ?_
  obtain ⟨zx3, hzx3, hr⟩ := ob hr
  refine j_alen (pc' := 9) C dX7_addToken_8 hzx3 rfl ?_
  refine j_ic_ge (tgt := 52) (pc' := 12) C dX7_addToken_9 rfl rfl (fun hc => ?_) (fun hc => ?_)
  · have hr := ifT hc hr
    clear hc
    have hr := Option.some.inj hr
    subst hr
    exact j_vret C hq hret dX7_addToken_52
  · have hr := ifF hc hr
    clear hc
    refine j_aload_n (q := 0) (pc' := 13) C dX7_addToken_12 rfl rfl rfl ?_
    obtain ⟨zx4, hzx4, hr⟩ := ob hr
    refine j_getA (pc' := 16) C dX7_addToken_13 fl_X7_9 hzx4 rfl ?_
    refine j_aload_n (q := 0) (pc' := 17) C dX7_addToken_16 rfl rfl rfl ?_
    obtain ⟨zx5, hzx5, hr⟩ := ob hr
    refine j_getI (pc' := 20) C dX7_addToken_17 fl_X7_28 hzx5 rfl ?_
    refine j_iload_n (q := 1) (pc' := 21) C dX7_addToken_20 rfl rfl rfl ?_
    obtain ⟨zc6, hzc6, hr⟩ := ob hr
    refine j_iast (pc' := 22) C dX7_addToken_21 hzc6 rfl ?_
    refine j_aload_n (q := 0) (pc' := 23) C dX7_addToken_22 rfl rfl rfl ?_
    obtain ⟨zx7, hzx7, hr⟩ := ob hr
    refine j_getA (pc' := 26) C dX7_addToken_23 fl_X7_15 hzx7 rfl ?_
    refine j_aload_n (q := 0) (pc' := 27) C dX7_addToken_26 rfl rfl rfl ?_
    obtain ⟨zx8, hzx8, hr⟩ := ob hr
    refine j_getI (pc' := 30) C dX7_addToken_27 fl_X7_28 hzx8 rfl ?_
    refine j_iload_n (q := 2) (pc' := 31) C dX7_addToken_30 rfl rfl rfl ?_
    obtain ⟨zc9, hzc9, hr⟩ := ob hr
    refine j_iast (pc' := 32) C dX7_addToken_31 hzc9 rfl ?_
    refine j_aload_n (q := 0) (pc' := 33) C dX7_addToken_32 rfl rfl rfl ?_
    obtain ⟨zx10, hzx10, hr⟩ := ob hr
    refine j_getA (pc' := 36) C dX7_addToken_33 fl_X7_18 hzx10 rfl ?_
    refine j_aload_n (q := 0) (pc' := 37) C dX7_addToken_36 rfl rfl rfl ?_
    obtain ⟨zx11, hzx11, hr⟩ := ob hr
    refine j_getI (pc' := 40) C dX7_addToken_37 fl_X7_28 hzx11 rfl ?_
    refine j_iload_n (q := 3) (pc' := 41) C dX7_addToken_40 rfl rfl rfl ?_
    obtain ⟨zc12, hzc12, hr⟩ := ob hr
    refine j_iast (pc' := 42) C dX7_addToken_41 hzc12 rfl ?_
    refine j_aload_n (q := 0) (pc' := 43) C dX7_addToken_42 rfl rfl rfl ?_
    refine j_dup (pc' := 44) C dX7_addToken_43 rfl rfl ?_
    obtain ⟨zx13, hzx13, hr⟩ := ob hr
    refine j_getI (pc' := 47) C dX7_addToken_44 fl_X7_28 hzx13 rfl ?_
    refine j_iconst (v := 1) (pc' := 48) C dX7_addToken_47 kI_1 rfl ?_
    refine j_iadd (pc' := 49) C dX7_addToken_48 rfl ?_
    obtain ⟨zc14, hzc14, hr⟩ := ob hr
    refine j_put (pc' := 52) C dX7_addToken_49 fw_X7_28 rfl rfl hzc14 rfl ?_
    have hr := Option.some.inj hr
    subst hr
    exact j_vret C hq hret dX7_addToken_52
def m_X7_takeWord (ce : Ce) (this : Nat) (p1 : Nat) (p2 : Int32) (p3 : Int32) : Option (Int32 × Ce) :=
  (it (fun (zs1 : Int32) =>
    if p3 ≤ zs1 then
      some (Sum.inr zs1)
    else
      (aB ce p1 zs1).bind fun zx15 =>
      (m_X7_isSmall zx15).bind fun zx16 =>
      if zx16 = 0 then
        some (Sum.inr zs1)
      else
        some (Sum.inl (zs1 + (1 : Int32)))
  ) FU p2).bind fun (zo2 : Int32) =>
  (aB ce p1 p2).bind fun zx4 =>
  if (zo2 - p2) ≤ (1 : Int32) then
    if (103 : Int32) ≤ zx4 then
      (
        if zx4 = (120 : Int32) then
          some ((Sum.inr (), ce))
        else
          if zx4 = (121 : Int32) then
            some ((Sum.inr (), ce))
          else
            (rcv ce 5 this).bind fun zz8 =>
            (m_X7_addToken ce this (1 : Int32) (zx4 - (120 : Int32)) p2).bind fun zq9 =>
            some ((Sum.inl zo2, zq9.2))
      ).bind fun (zj5 : (Int32 ⊕ Unit) × Ce) => Sum.elim (fun wzj5 => some (wzj5, zj5.2)) (fun vzj5 =>
        (rcv zj5.2 5 this).bind fun zz6 =>
        (m_X7_addToken zj5.2 this (3 : Int32) (zx4 - (120 : Int32)) p2).bind fun zq7 =>
        some (zo2, zq7.2)
      ) zj5.1
    else
      (rcv ce 5 this).bind fun zz10 =>
      (m_X7_addToken ce this (2 : Int32) (zx4 - (97 : Int32)) p2).bind fun zq11 =>
      some (zo2, zq11.2)
  else
    (m_X7_kindOfWord ce p1 p2 zo2).bind fun zx12 =>
    (rcv ce 5 this).bind fun zz13 =>
    (m_X7_addToken ce this zx12 (0 : Int32) p2).bind fun zq14 =>
    some (zo2, zq14.2)
set_option maxRecDepth 100000 in
set_option maxHeartbeats 4000000 in
theorem c_X7_takeWord {nx : Nat} {ce : Ce} {this : Nat} {p1 : Nat} {p2 : Int32} {p3 : Int32} {q : Int32 × Ce} (hr : m_X7_takeWord ce this p1 p2 p3 = some q) : Ct yX7_takeWord cX7_takeWord 6 (some .int) 6 131 0 0 [.ref this, .ref p1, .int p2, .int p3] nx ce (some (.int q.1)) q.2 := by
  unfold m_X7_takeWord at hr
  refine ct_of (by decide) (Nat.le_of_ble_eq_true rfl) ?_
  intro G C hq hret hin
  show Jd G 0 0 nx ce 0 [(0, .ref this), (1, .ref p1), (2, .int p2), (3, .int p3)] []
  refine j_iload_n (q := 2) (pc' := 1) C dX7_takeWord_0 rfl rfl rfl ?_
  refine j_istore (lv' := [(4, .int p2), (0, .ref this), (1, .ref p1), (2, .int p2), (3, .int p3)]) (pc' := 3) C dX7_takeWord_1 (by decide) rfl rfl ?_
  obtain ⟨zo2, hzo2, rzo2⟩ := ob hr
  have kzo2 : Jd G 0 0 nx ce 25 [(0, .ref this), (1, .ref p1), (2, .int p2), (4, .int zo2)] [] := by
    have hr := rzo2
    refine j_aload_n (q := 1) (pc' := 26) C dX7_takeWord_25 rfl rfl rfl ?_
    refine j_iload_n (q := 2) (pc' := 27) C dX7_takeWord_26 rfl rfl rfl ?_
    obtain ⟨zx4, hzx4, hr⟩ := ob hr
    refine j_bald (pc' := 28) C dX7_takeWord_27 hzx4 rfl ?_
    refine j_istore (lv' := [(5, .int zx4), (0, .ref this), (1, .ref p1), (2, .int p2), (4, .int zo2)]) (pc' := 30) C dX7_takeWord_28 (by decide) rfl rfl ?_
    refine j_iload (q := 4) (pc' := 32) C dX7_takeWord_30 rfl rfl ?_
    refine j_iload_n (q := 3) (pc' := 33) C dX7_takeWord_32 rfl rfl rfl ?_
    refine j_isub (pc' := 34) C dX7_takeWord_33 rfl ?_
    refine j_iconst (v := 1) (pc' := 35) C dX7_takeWord_34 kI_1 rfl ?_
    refine j_ic_le (tgt := 54) (pc' := 38) C dX7_takeWord_35 rfl rfl (fun hc => ?_) (fun hc => ?_)
    · have hr := ifT hc hr
      clear hc
      refine j_iload (q := 0) (pc' := 56) C dX7_takeWord_54 rfl rfl ?_
      refine j_bipush (v := 103) (pc' := 58) C dX7_takeWord_56 kB_103 rfl ?_
      refine j_ic_ge (tgt := 75) (pc' := 61) C dX7_takeWord_58 rfl rfl (fun hc => ?_) (fun hc => ?_)
      · have hr := ifT hc hr
        clear hc
        refine j_aload_n (q := 1) (pc' := 76) C dX7_takeWord_75 rfl rfl rfl ?_
        refine j_iload (q := 0) (pc' := 78) C dX7_takeWord_76 rfl rfl ?_
        refine j_bipush (v := 120) (pc' := 80) C dX7_takeWord_78 kB_120 rfl ?_
        obtain ⟨zj5, hzj5, rzj5⟩ := ob hr
        have kzj5 : ∀ vzj5, zj5.1 = Sum.inr vzj5 → Jd G 0 0 nx zj5.2 90 [(2, .int p2), (4, .int zo2), (5, .int zx4)] [.ref this] := by
          intro vzj5 ezj5
          rw [ezj5] at rzj5
          have hr := elR rzj5
          refine j_iconst (v := 3) (pc' := 91) C dX7_takeWord_90 kI_3 rfl ?_
          refine j_goto (tgt := 95) C dX7_takeWord_91 rfl ?_
          refine j_iload (q := 2) (pc' := 97) C dX7_takeWord_95 rfl rfl ?_
          refine j_bipush (v := 120) (pc' := 99) C dX7_takeWord_97 kB_120 rfl ?_
          refine j_isub (pc' := 100) C dX7_takeWord_99 rfl ?_
          refine j_iload_n (q := 0) (pc' := 101) C dX7_takeWord_100 rfl rfl rfl ?_
          obtain ⟨zz6, hzz6, hr⟩ := ob hr
          obtain ⟨zq7, hzq7, hr⟩ := ob hr
          obtain ⟨fhzz6, hzz6⟩ := rcv_sp hzz6
          refine j_callV (ci := 5) (As := [.int (3 : Int32), .int (zx4 - (120 : Int32)), .int p2]) (rest := []) (st1 := []) (pc' := 104) C ⟨wm_566, wm_4⟩ rfl hzz6 (c_X7_addToken (nx := nx) hzq7) yw_X7_addToken wm_564 rfl rfl (Nat.le_of_ble_eq_true rfl) ⟨by decide, by decide⟩ dX7_takeWord_101 rfl rfl ?_
          refine j_iload (q := 1) (pc' := 106) C dX7_takeWord_104 rfl rfl ?_
          have hr := Option.some.inj hr
          subst hr
          exact j_iret C hq hret dX7_takeWord_106
        have hr := hzj5
        clear hzj5
        refine j_ic_eq (tgt := 90) (pc' := 83) C dX7_takeWord_80 rfl rfl (fun hc => ?_) (fun hc => ?_)
        · have hr := ifT hc hr
          clear hc
          have hr := Option.some.inj hr
          subst hr
          exact j_lv [3, 4, 0] rfl (kzj5 _ rfl)
        · have hr := ifF hc hr
          clear hc
          refine j_iload (q := 0) (pc' := 85) C dX7_takeWord_83 rfl rfl ?_
          refine j_bipush (v := 121) (pc' := 87) C dX7_takeWord_85 kB_121 rfl ?_
          refine j_ic_ne (tgt := 94) (pc' := 90) C dX7_takeWord_87 rfl rfl (fun hc => ?_) (fun hc => ?_)
          · have hr := ifF hc hr
            clear hc
            refine j_iconst (v := 1) (pc' := 95) C dX7_takeWord_94 kI_1 rfl ?_
            refine j_iload (q := 0) (pc' := 97) C dX7_takeWord_95 rfl rfl ?_
            refine j_bipush (v := 120) (pc' := 99) C dX7_takeWord_97 kB_120 rfl ?_
            refine j_isub (pc' := 100) C dX7_takeWord_99 rfl ?_
            refine j_iload_n (q := 3) (pc' := 101) C dX7_takeWord_100 rfl rfl rfl ?_
            obtain ⟨zz8, hzz8, hr⟩ := ob hr
            obtain ⟨zq9, hzq9, hr⟩ := ob hr
            obtain ⟨fhzz8, hzz8⟩ := rcv_sp hzz8
            refine j_callV (ci := 5) (As := [.int (1 : Int32), .int (zx4 - (120 : Int32)), .int p2]) (rest := []) (st1 := []) (pc' := 104) C ⟨wm_566, wm_4⟩ rfl hzz8 (c_X7_addToken (nx := nx) hzq9) yw_X7_addToken wm_564 rfl rfl (Nat.le_of_ble_eq_true rfl) ⟨by decide, by decide⟩ dX7_takeWord_101 rfl rfl ?_
            refine j_iload (q := 4) (pc' := 106) C dX7_takeWord_104 rfl rfl ?_
            have hr := Option.some.inj hr
            subst hr
            have hr := elL rzj5
            have hr := Option.some.inj hr
            subst hr
            exact j_iret C hq hret dX7_takeWord_106
          · have hr := ifT hc hr
            clear hc
            have hr := Option.some.inj hr
            subst hr
            exact j_lv [3, 4, 0] rfl (kzj5 _ rfl)
      · have hr := ifF hc hr
        clear hc
        refine j_aload_n (q := 1) (pc' := 62) C dX7_takeWord_61 rfl rfl rfl ?_
        refine j_iconst (v := 2) (pc' := 63) C dX7_takeWord_62 kI_2 rfl ?_
        refine j_iload (q := 0) (pc' := 65) C dX7_takeWord_63 rfl rfl ?_
        refine j_bipush (v := 97) (pc' := 67) C dX7_takeWord_65 kB_97 rfl ?_
        refine j_isub (pc' := 68) C dX7_takeWord_67 rfl ?_
        refine j_iload_n (q := 3) (pc' := 69) C dX7_takeWord_68 rfl rfl rfl ?_
        obtain ⟨zz10, hzz10, hr⟩ := ob hr
        obtain ⟨zq11, hzq11, hr⟩ := ob hr
        obtain ⟨fhzz10, hzz10⟩ := rcv_sp hzz10
        refine j_callV (ci := 5) (As := [.int (2 : Int32), .int (zx4 - (97 : Int32)), .int p2]) (rest := []) (st1 := []) (pc' := 72) C ⟨wm_566, wm_4⟩ rfl hzz10 (c_X7_addToken (nx := nx) hzq11) yw_X7_addToken wm_564 rfl rfl (Nat.le_of_ble_eq_true rfl) ⟨by decide, by decide⟩ dX7_takeWord_69 rfl rfl ?_
        refine j_goto (tgt := 104) C dX7_takeWord_72 rfl ?_
        refine j_iload (q := 4) (pc' := 106) C dX7_takeWord_104 rfl rfl ?_
        have hr := Option.some.inj hr
        subst hr
        exact j_iret C hq hret dX7_takeWord_106
    · have hr := ifF hc hr
      clear hc
      refine j_aload_n (q := 1) (pc' := 39) C dX7_takeWord_38 rfl rfl rfl ?_
      refine j_aload_n (q := 2) (pc' := 40) C dX7_takeWord_39 rfl rfl rfl ?_
      refine j_iload_n (q := 3) (pc' := 41) C dX7_takeWord_40 rfl rfl rfl ?_
      refine j_iload (q := 4) (pc' := 43) C dX7_takeWord_41 rfl rfl ?_
      obtain ⟨zx12, hzx12, hr⟩ := ob hr
      refine j_callS (As := [.ref p1, .int p2, .int zo2]) (rest := [.ref this]) (st1 := [.int zx12, .ref this]) (pc' := 46) C wm_507 (c_X7_kindOfWord (nx := nx) hzx12) yw_X7_kindOfWord wm_506 rfl rfl (Nat.le_of_ble_eq_true rfl) ⟨by decide, by decide⟩ dX7_takeWord_43 rfl rfl ?_
      refine j_iconst (v := 0) (pc' := 47) C dX7_takeWord_46 kI_0 rfl ?_
      refine j_iload_n (q := 3) (pc' := 48) C dX7_takeWord_47 rfl rfl rfl ?_
      obtain ⟨zz13, hzz13, hr⟩ := ob hr
      obtain ⟨zq14, hzq14, hr⟩ := ob hr
      obtain ⟨fhzz13, hzz13⟩ := rcv_sp hzz13
      refine j_callV (ci := 5) (As := [.int zx12, .int (0 : Int32), .int p2]) (rest := []) (st1 := []) (pc' := 51) C ⟨wm_566, wm_4⟩ rfl hzz13 (c_X7_addToken (nx := nx) hzq14) yw_X7_addToken wm_564 rfl rfl (Nat.le_of_ble_eq_true rfl) ⟨by decide, by decide⟩ dX7_takeWord_48 rfl rfl ?_
      refine j_goto (tgt := 104) C dX7_takeWord_51 rfl ?_
      refine j_iload (q := 4) (pc' := 106) C dX7_takeWord_104 rfl rfl ?_
      have hr := Option.some.inj hr
      subst hr
      exact j_iret C hq hret dX7_takeWord_106
  refine j_lv (lv' := [(0, .ref this), (1, .ref p1), (2, .int p2), (3, .int p3), (4, .int p2)]) [1, 2, 3, 4, 0] rfl ?_
  refine it_J (J := (fun (zs1 : Int32) => Jd G 0 0 nx ce 3 [(0, .ref this), (1, .ref p1), (2, .int p2), (3, .int p3), (4, .int zs1)] [])) ?_ hzo2
  clear hzo2
  intro zs1 zr3 hr izs1 ezs1
  refine j_iload (q := 4) (pc' := 5) C dX7_takeWord_3 rfl rfl ?_
  refine j_iload_n (q := 3) (pc' := 6) C dX7_takeWord_5 rfl rfl rfl ?_
  refine j_ic_ge (tgt := 25) (pc' := 9) C dX7_takeWord_6 rfl rfl (fun hc => ?_) (fun hc => ?_)
  · have hr := ifT hc hr
    clear hc
    have hr := ezs1 _ (Option.some.inj hr).symm
    subst hr
    exact j_lv [0, 1, 2, 4] rfl kzo2
  · have hr := ifF hc hr
    clear hc
    refine j_aload_n (q := 1) (pc' := 10) C dX7_takeWord_9 rfl rfl rfl ?_
    refine j_iload (q := 4) (pc' := 12) C dX7_takeWord_10 rfl rfl ?_
    obtain ⟨zx15, hzx15, hr⟩ := ob hr
    refine j_bald (pc' := 13) C dX7_takeWord_12 hzx15 rfl ?_
    obtain ⟨zx16, hzx16, hr⟩ := ob hr
    refine j_callS (As := [.int zx15]) (rest := []) (st1 := [.int zx16]) (pc' := 16) C wm_500 (c_X7_isSmall (nx := nx) (ce := ce) hzx16) yw_X7_isSmall wm_499 rfl rfl (Nat.le_of_ble_eq_true rfl) ⟨by decide, by decide⟩ dX7_takeWord_13 rfl rfl ?_
    refine j_if_eq (tgt := 25) (pc' := 19) C dX7_takeWord_16 rfl rfl (fun hc => ?_) (fun hc => ?_)
    · have hr := ifT hc hr
      clear hc
      have hr := ezs1 _ (Option.some.inj hr).symm
      subst hr
      exact j_lv [0, 1, 2, 4] rfl kzo2
    · have hr := ifF hc hr
      clear hc
      refine j_iinc (q := 4) (v := 1) (lv' := [(4, .int (zs1 + (1 : Int32))), (0, .ref this), (1, .ref p1), (2, .int p2), (3, .int p3)]) (pc' := 22) C dX7_takeWord_19 rfl kI_1 (by decide) rfl rfl ?_
      refine j_goto (tgt := 3) C dX7_takeWord_22 rfl ?_
      have hr := izs1 (zs1 + (1 : Int32)) (Option.some.inj hr).symm
      exact j_lv [1, 2, 3, 4, 0] rfl hr
def m_X7_isDigit (p0 : Int32) : Option (Int32) :=
  if p0 < (48 : Int32) then
    some (0 : Int32)
  else
    if (57 : Int32) < p0 then
      some (0 : Int32)
    else
      some (1 : Int32)
set_option maxRecDepth 100000 in
set_option maxHeartbeats 4000000 in
theorem c_X7_isDigit {nx : Nat} {ce : Ce} {p0 : Int32} {q : Int32} (hr : m_X7_isDigit p0 = some q) : Ct yX7_isDigit cX7_isDigit 1 (some .boolean) 0 0 0 0 [.int p0] nx ce (some (.int q)) ce := by
  unfold m_X7_isDigit at hr
  refine ct_of (by decide) (Nat.le_of_ble_eq_true rfl) ?_
  intro G C hq hret hin
  show Jd G 0 0 nx ce 0 [(0, .int p0)] []
  refine j_iload_n (q := 0) (pc' := 1) C dX7_isDigit_0 rfl rfl rfl ?_
  refine j_bipush (v := 48) (pc' := 3) C dX7_isDigit_1 kB_48 rfl ?_
  refine j_ic_lt (tgt := 16) (pc' := 6) C dX7_isDigit_3 rfl rfl (fun hc => ?_) (fun hc => ?_)
  · have hr := ifT hc hr
    clear hc
    refine j_iconst (v := 0) (pc' := 17) C dX7_isDigit_16 kI_0 rfl ?_
    have hr := Option.some.inj hr
    subst hr
    exact j_zret C hq hret rfl dX7_isDigit_17
  · have hr := ifF hc hr
    clear hc
    refine j_iload_n (q := 0) (pc' := 7) C dX7_isDigit_6 rfl rfl rfl ?_
    refine j_bipush (v := 57) (pc' := 9) C dX7_isDigit_7 kB_57 rfl ?_
    refine j_ic_gt (tgt := 16) (pc' := 12) C dX7_isDigit_9 rfl rfl (fun hc => ?_) (fun hc => ?_)
    · have hr := ifT hc hr
      clear hc
      refine j_iconst (v := 0) (pc' := 17) C dX7_isDigit_16 kI_0 rfl ?_
      have hr := Option.some.inj hr
      subst hr
      exact j_zret C hq hret rfl dX7_isDigit_17
    · have hr := ifF hc hr
      clear hc
      refine j_iconst (v := 1) (pc' := 13) C dX7_isDigit_12 kI_1 rfl ?_
      refine j_goto (tgt := 17) C dX7_isDigit_13 rfl ?_
      have hr := Option.some.inj hr
      subst hr
      exact j_zret C hq hret rfl dX7_isDigit_17
def m_X7_takeNumber (ce : Ce) (this : Nat) (p1 : Nat) (p2 : Int32) (p3 : Int32) : Option (Int32 × Ce) :=
  (it (fun (zs1 : Int32 × Int32) =>
    if p3 ≤ zs1.2 then
      some (Sum.inr (zs1.1, zs1.2))
    else
      (aB ce p1 zs1.2).bind fun zx6 =>
      (m_X7_isDigit zx6).bind fun zx7 =>
      if zx7 = 0 then
        some (Sum.inr (zs1.1, zs1.2))
      else
        (aB ce p1 zs1.2).bind fun zx8 =>
        (m_J9_min_7cf53 (1000 : Int32) (((zs1.1 * (10 : Int32)) + zx8) - (48 : Int32))).bind fun zx9 =>
        some (Sum.inl (zx9, (zs1.2 + (1 : Int32))))
  ) FU ((0 : Int32), p2)).bind fun (zo2 : Int32 × Int32) =>
  (rcv ce 5 this).bind fun zz4 =>
  (m_X7_addToken ce this (4 : Int32) zo2.1 p2).bind fun zq5 =>
  some (zo2.2, zq5.2)
set_option maxRecDepth 100000 in
set_option maxHeartbeats 4000000 in
theorem c_X7_takeNumber {nx : Nat} {ce : Ce} {this : Nat} {p1 : Nat} {p2 : Int32} {p3 : Int32} {q : Int32 × Ce} (hr : m_X7_takeNumber ce this p1 p2 p3 = some q) : Ct yX7_takeNumber cX7_takeNumber 6 (some .int) 1 23 0 0 [.ref this, .ref p1, .int p2, .int p3] nx ce (some (.int q.1)) q.2 := by
  unfold m_X7_takeNumber at hr
  refine ct_of (by decide) (Nat.le_of_ble_eq_true rfl) ?_
  intro G C hq hret hin
  show Jd G 0 0 nx ce 0 [(0, .ref this), (1, .ref p1), (2, .int p2), (3, .int p3)] []
  refine j_iconst (v := 0) (pc' := 1) C dX7_takeNumber_0 kI_0 rfl ?_
  refine j_istore (lv' := [(4, .int (0 : Int32)), (0, .ref this), (1, .ref p1), (2, .int p2), (3, .int p3)]) (pc' := 3) C dX7_takeNumber_1 (by decide) rfl rfl ?_
  refine j_iload_n (q := 3) (pc' := 4) C dX7_takeNumber_3 rfl rfl rfl ?_
  refine j_istore (lv' := [(5, .int p2), (4, .int (0 : Int32)), (0, .ref this), (1, .ref p1), (2, .int p2), (3, .int p3)]) (pc' := 6) C dX7_takeNumber_4 (by decide) rfl rfl ?_
  obtain ⟨zo2, hzo2, rzo2⟩ := ob hr
  have kzo2 : Jd G 0 0 nx ce 49 [(0, .ref this), (2, .int p2), (4, .int zo2.1), (5, .int zo2.2)] [] := by
    have hr := rzo2
    refine j_aload_n (q := 0) (pc' := 50) C dX7_takeNumber_49 rfl rfl rfl ?_
    refine j_iconst (v := 4) (pc' := 51) C dX7_takeNumber_50 kI_4 rfl ?_
    refine j_iload (q := 2) (pc' := 53) C dX7_takeNumber_51 rfl rfl ?_
    refine j_iload_n (q := 1) (pc' := 54) C dX7_takeNumber_53 rfl rfl rfl ?_
    obtain ⟨zz4, hzz4, hr⟩ := ob hr
    obtain ⟨zq5, hzq5, hr⟩ := ob hr
    obtain ⟨fhzz4, hzz4⟩ := rcv_sp hzz4
    refine j_callV (ci := 5) (As := [.int (4 : Int32), .int zo2.1, .int p2]) (rest := []) (st1 := []) (pc' := 57) C ⟨wm_566, wm_4⟩ rfl hzz4 (c_X7_addToken (nx := nx) hzq5) yw_X7_addToken wm_564 rfl rfl (Nat.le_of_ble_eq_true rfl) ⟨by decide, by decide⟩ dX7_takeNumber_54 rfl rfl ?_
    refine j_iload (q := 3) (pc' := 59) C dX7_takeNumber_57 rfl rfl ?_
    have hr := Option.some.inj hr
    subst hr
    exact j_iret C hq hret dX7_takeNumber_59
  refine j_lv (lv' := [(0, .ref this), (1, .ref p1), (2, .int p2), (3, .int p3), (4, .int (0 : Int32)), (5, .int p2)]) [2, 3, 4, 5, 1, 0] rfl ?_
  refine it_J (J := (fun (zs1 : Int32 × Int32) => Jd G 0 0 nx ce 6 [(0, .ref this), (1, .ref p1), (2, .int p2), (3, .int p3), (4, .int zs1.1), (5, .int zs1.2)] [])) ?_ hzo2
  clear hzo2
  intro zs1 zr3 hr izs1 ezs1
  refine j_iload (q := 5) (pc' := 8) C dX7_takeNumber_6 rfl rfl ?_
  refine j_iload_n (q := 3) (pc' := 9) C dX7_takeNumber_8 rfl rfl rfl ?_
  refine j_ic_ge (tgt := 49) (pc' := 12) C dX7_takeNumber_9 rfl rfl (fun hc => ?_) (fun hc => ?_)
  · have hr := ifT hc hr
    clear hc
    have hr := ezs1 _ (Option.some.inj hr).symm
    subst hr
    exact j_lv [0, 2, 4, 5] rfl kzo2
  · have hr := ifF hc hr
    clear hc
    refine j_aload_n (q := 1) (pc' := 13) C dX7_takeNumber_12 rfl rfl rfl ?_
    refine j_iload (q := 5) (pc' := 15) C dX7_takeNumber_13 rfl rfl ?_
    obtain ⟨zx6, hzx6, hr⟩ := ob hr
    refine j_bald (pc' := 16) C dX7_takeNumber_15 hzx6 rfl ?_
    obtain ⟨zx7, hzx7, hr⟩ := ob hr
    refine j_callS (As := [.int zx6]) (rest := []) (st1 := [.int zx7]) (pc' := 19) C wm_569 (c_X7_isDigit (nx := nx) (ce := ce) hzx7) yw_X7_isDigit wm_568 rfl rfl (Nat.le_of_ble_eq_true rfl) ⟨by decide, by decide⟩ dX7_takeNumber_16 rfl rfl ?_
    refine j_if_eq (tgt := 49) (pc' := 22) C dX7_takeNumber_19 rfl rfl (fun hc => ?_) (fun hc => ?_)
    · have hr := ifT hc hr
      clear hc
      have hr := ezs1 _ (Option.some.inj hr).symm
      subst hr
      exact j_lv [0, 2, 4, 5] rfl kzo2
    · have hr := ifF hc hr
      clear hc
      refine j_sipush (v := 1000) (pc' := 25) C dX7_takeNumber_22 kS_1000 rfl ?_
      refine j_iload (q := 4) (pc' := 27) C dX7_takeNumber_25 rfl rfl ?_
      refine j_bipush (v := 10) (pc' := 29) C dX7_takeNumber_27 kB_10 rfl ?_
      refine j_imul (pc' := 30) C dX7_takeNumber_29 rfl ?_
      refine j_aload_n (q := 1) (pc' := 31) C dX7_takeNumber_30 rfl rfl rfl ?_
      refine j_iload (q := 5) (pc' := 33) C dX7_takeNumber_31 rfl rfl ?_
      obtain ⟨zx8, hzx8, hr⟩ := ob hr
      refine j_bald (pc' := 34) C dX7_takeNumber_33 hzx8 rfl ?_
      refine j_iadd (pc' := 35) C dX7_takeNumber_34 rfl ?_
      refine j_bipush (v := 48) (pc' := 37) C dX7_takeNumber_35 kB_48 rfl ?_
      refine j_isub (pc' := 38) C dX7_takeNumber_37 rfl ?_
      obtain ⟨zx9, hzx9, hr⟩ := ob hr
      refine j_callS (As := [.int (1000 : Int32), .int (((zs1.1 * (10 : Int32)) + zx8) - (48 : Int32))]) (rest := []) (st1 := [.int zx9]) (pc' := 41) C wm_493 (c_J9_min_7cf53 (nx := nx) (ce := ce) hzx9) yw_J9_min_7cf53 wm_492 rfl rfl (Nat.le_of_ble_eq_true rfl) ⟨by decide, by decide⟩ dX7_takeNumber_38 rfl rfl ?_
      refine j_istore (lv' := [(4, .int zx9), (0, .ref this), (1, .ref p1), (2, .int p2), (3, .int p3), (5, .int zs1.2)]) (pc' := 43) C dX7_takeNumber_41 (by decide) rfl rfl ?_
      refine j_iinc (q := 5) (v := 1) (lv' := [(5, .int (zs1.2 + (1 : Int32))), (4, .int zx9), (0, .ref this), (1, .ref p1), (2, .int p2), (3, .int p3)]) (pc' := 46) C dX7_takeNumber_43 rfl kI_1 (by decide) rfl rfl ?_
      refine j_goto (tgt := 6) C dX7_takeNumber_46 rfl ?_
      have hr := izs1 (zx9, (zs1.2 + (1 : Int32))) (Option.some.inj hr).symm
      exact j_lv [2, 3, 4, 5, 1, 0] rfl hr
def m_J1_canEncode_9a6ad (p0 : Int32) : Option (Int32) :=
  if p0 < 0 then
    some (0 : Int32)
  else
    if (255 : Int32) < p0 then
      some (0 : Int32)
    else
      some (1 : Int32)
set_option maxRecDepth 100000 in
set_option maxHeartbeats 4000000 in
theorem c_J1_canEncode_9a6ad {nx : Nat} {ce : Ce} {p0 : Int32} {q : Int32} (hr : m_J1_canEncode_9a6ad p0 = some q) : Ct yJ1_canEncode_9a6ad cJ1_canEncode_9a6ad 1 (some .boolean) 0 0 0 0 [.int p0] nx ce (some (.int q)) ce := by
  unfold m_J1_canEncode_9a6ad at hr
  refine ct_of (by decide) (Nat.le_of_ble_eq_true rfl) ?_
  intro G C hq hret hin
  show Jd G 0 0 nx ce 0 [(0, .int p0)] []
  refine j_iload_n (q := 0) (pc' := 1) C dJ1_canEncode_9a6ad_0 rfl rfl rfl ?_
  refine j_if_lt (tgt := 15) (pc' := 4) C dJ1_canEncode_9a6ad_1 rfl rfl (fun hc => ?_) (fun hc => ?_)
  · have hr := ifT hc hr
    clear hc
    refine j_iconst (v := 0) (pc' := 16) C dJ1_canEncode_9a6ad_15 kI_0 rfl ?_
    have hr := Option.some.inj hr
    subst hr
    exact j_zret C hq hret rfl dJ1_canEncode_9a6ad_16
  · have hr := ifF hc hr
    clear hc
    refine j_iload_n (q := 0) (pc' := 5) C dJ1_canEncode_9a6ad_4 rfl rfl rfl ?_
    refine j_sipush (v := 255) (pc' := 8) C dJ1_canEncode_9a6ad_5 kS_255 rfl ?_
    refine j_ic_gt (tgt := 15) (pc' := 11) C dJ1_canEncode_9a6ad_8 rfl rfl (fun hc => ?_) (fun hc => ?_)
    · have hr := ifT hc hr
      clear hc
      refine j_iconst (v := 0) (pc' := 16) C dJ1_canEncode_9a6ad_15 kI_0 rfl ?_
      have hr := Option.some.inj hr
      subst hr
      exact j_zret C hq hret rfl dJ1_canEncode_9a6ad_16
    · have hr := ifF hc hr
      clear hc
      refine j_iconst (v := 1) (pc' := 12) C dJ1_canEncode_9a6ad_11 kI_1 rfl ?_
      refine j_goto (tgt := 16) C dJ1_canEncode_9a6ad_12 rfl ?_
      have hr := Option.some.inj hr
      subst hr
      exact j_zret C hq hret rfl dJ1_canEncode_9a6ad_16
def m_J1_indexOfChar_4cfef (ce : Ce) (p0 : Nat) (p1 : Int32) (p2 : Int32) (p3 : Int32) : Option (Int32) :=
  (it (fun (zs1 : Int32) =>
    if p3 ≤ zs1 then
      some (Sum.inr (Sum.inr ()))
    else
      (kst p0).bind fun zz4 =>
      (aSB p0 zs1).bind fun zx5 =>
      if zx5 = (Int8.toInt32 (Int32.toInt8 p1)) then
        some (Sum.inr (Sum.inl zs1))
      else
        some (Sum.inl (zs1 + (1 : Int32)))
  ) FU p2).bind fun (zo2 : Int32 ⊕ Unit) =>
  Sum.elim (fun wzo2 => some wzo2) (fun vzo2 =>
    some (-1 : Int32)
  ) zo2
set_option maxRecDepth 100000 in
set_option maxHeartbeats 4000000 in
theorem c_J1_indexOfChar_4cfef {nx : Nat} {ce : Ce} {p0 : Nat} {p1 : Int32} {p2 : Int32} {p3 : Int32} {q : Int32} (hr : m_J1_indexOfChar_4cfef ce p0 p1 p2 p3 = some q) : CtG yJ1_indexOfChar_4cfef cJ1_indexOfChar_4cfef 6 (some .int) 0 0 (fun X => [.ref (X.2.2.2.2.2.1 p0), .int p1, .int p2, .int p3]) nx ce (some (.int q)) ce := by
  unfold m_J1_indexOfChar_4cfef at hr
  refine ctG_of (by decide) (fun _ => Nat.le_of_ble_eq_true rfl) ?_
  intro G C hq hret hin
  show Jd G 0 0 nx ce 0 [(0, .ref (G.1.2.2.2.2.2.1 p0)), (1, .int p1), (2, .int p2), (3, .int p3)] []
  refine j_iload_n (q := 1) (pc' := 1) C dJ1_indexOfChar_4cfef_0 rfl rfl rfl ?_
  refine j_i2b (pc' := 2) C dJ1_indexOfChar_4cfef_1 rfl ?_
  refine j_istore (lv' := [(4, .int (Int8.toInt32 (Int32.toInt8 p1))), (0, .ref (G.1.2.2.2.2.2.1 p0)), (1, .int p1), (2, .int p2), (3, .int p3)]) (pc' := 4) C dJ1_indexOfChar_4cfef_2 (by decide) rfl rfl ?_
  refine j_iload_n (q := 3) (pc' := 5) C dJ1_indexOfChar_4cfef_4 rfl rfl rfl ?_
  refine j_istore (lv' := [(5, .int p2), (4, .int (Int8.toInt32 (Int32.toInt8 p1))), (0, .ref (G.1.2.2.2.2.2.1 p0)), (1, .int p1), (2, .int p2), (3, .int p3)]) (pc' := 7) C dJ1_indexOfChar_4cfef_5 (by decide) rfl rfl ?_
  obtain ⟨zo2, hzo2, rzo2⟩ := ob hr
  have kzo2 : ∀ vzo2, zo2 = Sum.inr vzo2 → Jd G 0 0 nx ce 31 [] [] := by
    intro vzo2 ezo2
    rw [ezo2] at rzo2
    have hr := elR rzo2
    refine j_iconst (v := -1) (pc' := 32) C dJ1_indexOfChar_4cfef_31 kI_m1 rfl ?_
    have hr := Option.some.inj hr
    subst hr
    exact j_iret C hq hret dJ1_indexOfChar_4cfef_32
  refine j_lv (lv' := [(0, .ref (G.1.2.2.2.2.2.1 p0)), (3, .int p3), (4, .int (Int8.toInt32 (Int32.toInt8 p1))), (5, .int p2)]) [2, 5, 1, 0] rfl ?_
  refine it_J (J := (fun (zs1 : Int32) => Jd G 0 0 nx ce 7 [(0, .ref (G.1.2.2.2.2.2.1 p0)), (3, .int p3), (4, .int (Int8.toInt32 (Int32.toInt8 p1))), (5, .int zs1)] [])) ?_ hzo2
  clear hzo2
  intro zs1 zr3 hr izs1 ezs1
  refine j_iload (q := 3) (pc' := 9) C dJ1_indexOfChar_4cfef_7 rfl rfl ?_
  refine j_iload_n (q := 1) (pc' := 10) C dJ1_indexOfChar_4cfef_9 rfl rfl rfl ?_
  refine j_ic_ge (tgt := 31) (pc' := 13) C dJ1_indexOfChar_4cfef_10 rfl rfl (fun hc => ?_) (fun hc => ?_)
  · have hr := ifT hc hr
    clear hc
    have hr := ezs1 _ (Option.some.inj hr).symm
    subst hr
    exact j_lv [] rfl (kzo2 _ rfl)
  · have hr := ifF hc hr
    clear hc
    refine j_aload_n (q := 0) (pc' := 14) C dJ1_indexOfChar_4cfef_13 rfl rfl rfl ?_
    refine j_iload (q := 3) (pc' := 16) C dJ1_indexOfChar_4cfef_14 rfl rfl ?_
    obtain ⟨zz4, hzz4, hr⟩ := ob hr
    obtain ⟨zx5, hzx5, hr⟩ := ob hr
    refine j_sald (k0 := p0) (pc' := 17) C dJ1_indexOfChar_4cfef_16 hzz4 hzx5 rfl ?_
    refine j_iload (q := 2) (pc' := 19) C dJ1_indexOfChar_4cfef_17 rfl rfl ?_
    refine j_ic_ne (tgt := 25) (pc' := 22) C dJ1_indexOfChar_4cfef_19 rfl rfl (fun hc => ?_) (fun hc => ?_)
    · have hr := ifF hc hr
      clear hc
      refine j_iinc (q := 3) (v := 1) (lv' := [(5, .int (zs1 + (1 : Int32))), (0, .ref (G.1.2.2.2.2.2.1 p0)), (3, .int p3), (4, .int (Int8.toInt32 (Int32.toInt8 p1)))]) (pc' := 28) C dJ1_indexOfChar_4cfef_25 rfl kI_1 (by decide) rfl rfl ?_
      refine j_goto (tgt := 7) C dJ1_indexOfChar_4cfef_28 rfl ?_
      have hr := izs1 (zs1 + (1 : Int32)) (Option.some.inj hr).symm
      exact j_lv [1, 2, 3, 0] rfl hr
    · have hr := ifT hc hr
      clear hc
      refine j_iload (q := 3) (pc' := 24) C dJ1_indexOfChar_4cfef_22 rfl rfl ?_
      have hr := ezs1 _ (Option.some.inj hr).symm
      subst hr
      have hr := elL rzo2
      have hr := Option.some.inj hr
      subst hr
      exact j_iret C hq hret dJ1_indexOfChar_4cfef_24
def m_J1_indexOf_4cfef (ce : Ce) (p0 : Nat) (p1 : Int32) (p2 : Int32) (p3 : Int32) : Option (Int32) :=
  (m_J1_canEncode_9a6ad p1).bind fun zx1 =>
  if zx1 = 0 then
    some (-1 : Int32)
  else
    (m_J9_max_7cf53 p2 (0 : Int32)).bind fun zx2 =>
    (kst p0).bind fun zz3 =>
    (m_J9_min_7cf53 p3 (Int32.ofNat (stL.getD p0 0))).bind fun zx4 =>
    if zx2 < zx4 then
      (m_J1_indexOfChar_4cfef ce p0 p1 zx2 zx4).bind fun zx5 =>
      some zx5
    else
      some (-1 : Int32)
set_option maxRecDepth 100000 in
set_option maxHeartbeats 4000000 in
theorem c_J1_indexOf_4cfef {nx : Nat} {ce : Ce} {p0 : Nat} {p1 : Int32} {p2 : Int32} {p3 : Int32} {q : Int32} (hr : m_J1_indexOf_4cfef ce p0 p1 p2 p3 = some q) : CtG yJ1_indexOf_4cfef cJ1_indexOf_4cfef 4 (some .int) 1 25 (fun X => [.ref (X.2.2.2.2.2.1 p0), .int p1, .int p2, .int p3]) nx ce (some (.int q)) ce := by
  unfold m_J1_indexOf_4cfef at hr
  refine ctG_of (by decide) (fun _ => Nat.le_of_ble_eq_true rfl) ?_
  intro G C hq hret hin
  show Jd G 0 0 nx ce 0 [(0, .ref (G.1.2.2.2.2.2.1 p0)), (1, .int p1), (2, .int p2), (3, .int p3)] []
  refine j_iload_n (q := 1) (pc' := 1) C dJ1_indexOf_4cfef_0 rfl rfl rfl ?_
  obtain ⟨zx1, hzx1, hr⟩ := ob hr
  refine j_callS (As := [.int p1]) (rest := []) (st1 := [.int zx1]) (pc' := 4) C wm_589 (c_J1_canEncode_9a6ad (nx := nx) (ce := ce) hzx1) yw_J1_canEncode_9a6ad wm_588 rfl rfl (Nat.le_of_ble_eq_true rfl) ⟨by decide, by decide⟩ dJ1_indexOf_4cfef_1 rfl rfl ?_
  refine j_if_ne (tgt := 9) (pc' := 7) C dJ1_indexOf_4cfef_4 rfl rfl (fun hc => ?_) (fun hc => ?_)
  · have hr := ifF hc hr
    clear hc
    refine j_iload_n (q := 2) (pc' := 10) C dJ1_indexOf_4cfef_9 rfl rfl rfl ?_
    refine j_iconst (v := 0) (pc' := 11) C dJ1_indexOf_4cfef_10 kI_0 rfl ?_
    obtain ⟨zx2, hzx2, hr⟩ := ob hr
    refine j_callS (As := [.int p2, .int (0 : Int32)]) (rest := []) (st1 := [.int zx2]) (pc' := 14) C wm_592 (c_J9_max_7cf53 (nx := nx) (ce := ce) hzx2) yw_J9_max_7cf53 wm_591 rfl rfl (Nat.le_of_ble_eq_true rfl) ⟨by decide, by decide⟩ dJ1_indexOf_4cfef_11 rfl rfl ?_
    refine j_istore_n (lv' := [(2, .int zx2), (0, .ref (G.1.2.2.2.2.2.1 p0)), (1, .int p1), (3, .int p3)]) (pc' := 15) C dJ1_indexOf_4cfef_14 rfl (by decide) rfl rfl ?_
    refine j_iload_n (q := 3) (pc' := 16) C dJ1_indexOf_4cfef_15 rfl rfl rfl ?_
    refine j_aload_n (q := 1) (pc' := 17) C dJ1_indexOf_4cfef_16 rfl rfl rfl ?_
    obtain ⟨zz3, hzz3, hr⟩ := ob hr
    refine j_slen (k0 := p0) (pc' := 18) C dJ1_indexOf_4cfef_17 hzz3 rfl ?_
    obtain ⟨zx4, hzx4, hr⟩ := ob hr
    refine j_callS (As := [.int p3, .int (Int32.ofNat (stL.getD p0 0))]) (rest := []) (st1 := [.int zx4]) (pc' := 21) C wm_493 (c_J9_min_7cf53 (nx := nx) (ce := ce) hzx4) yw_J9_min_7cf53 wm_594 rfl rfl (Nat.le_of_ble_eq_true rfl) ⟨by decide, by decide⟩ dJ1_indexOf_4cfef_18 rfl rfl ?_
    refine j_istore_n (lv' := [(3, .int zx4), (2, .int zx2), (0, .ref (G.1.2.2.2.2.2.1 p0)), (1, .int p1)]) (pc' := 22) C dJ1_indexOf_4cfef_21 rfl (by decide) rfl rfl ?_
    refine j_iload_n (q := 1) (pc' := 23) C dJ1_indexOf_4cfef_22 rfl rfl rfl ?_
    refine j_iload_n (q := 0) (pc' := 24) C dJ1_indexOf_4cfef_23 rfl rfl rfl ?_
    refine j_ic_lt (tgt := 29) (pc' := 27) C dJ1_indexOf_4cfef_24 rfl rfl (fun hc => ?_) (fun hc => ?_)
    · have hr := ifT hc hr
      clear hc
      refine j_aload_n (q := 2) (pc' := 30) C dJ1_indexOf_4cfef_29 rfl rfl rfl ?_
      refine j_iload_n (q := 3) (pc' := 31) C dJ1_indexOf_4cfef_30 rfl rfl rfl ?_
      refine j_iload_n (q := 1) (pc' := 32) C dJ1_indexOf_4cfef_31 rfl rfl rfl ?_
      refine j_iload_n (q := 0) (pc' := 33) C dJ1_indexOf_4cfef_32 rfl rfl rfl ?_
      obtain ⟨zx5, hzx5, hr⟩ := ob hr
      refine j_callSG (As := [.ref (G.1.2.2.2.2.2.1 p0), .int p1, .int zx2, .int zx4]) (rest := []) (st1 := [.int zx5]) (pc' := 36) C wm_596 rfl (c_J1_indexOfChar_4cfef (nx := nx) hzx5) yw_J1_indexOfChar_4cfef wm_595 rfl rfl (Nat.le_of_ble_eq_true rfl) ⟨by decide, by decide⟩ dJ1_indexOf_4cfef_33 rfl rfl ?_
      have hr := Option.some.inj hr
      subst hr
      exact j_iret C hq hret dJ1_indexOf_4cfef_36
    · have hr := ifF hc hr
      clear hc
      refine j_iconst (v := -1) (pc' := 28) C dJ1_indexOf_4cfef_27 kI_m1 rfl ?_
      have hr := Option.some.inj hr
      subst hr
      exact j_iret C hq hret dJ1_indexOf_4cfef_28
  · have hr := ifT hc hr
    clear hc
    refine j_iconst (v := -1) (pc' := 8) C dJ1_indexOf_4cfef_7 kI_m1 rfl ?_
    have hr := Option.some.inj hr
    subst hr
    exact j_iret C hq hret dJ1_indexOf_4cfef_8
def m_J0_indexOf_7cf53 (ce : Ce) (this : Nat) (p1 : Int32) (p2 : Int32) : Option (Int32) :=
  (kst this).bind fun zz1 =>
  (m_J0_isLatin1_aae02 ce this).bind fun zx2 =>
  if zx2 = 0 then
    (kst this).bind fun zz3 =>
    (kst this).bind fun zz4 =>
    (m_J0_length_8abf5 ce this).bind fun zx5 =>
    none
  else
    (kst this).bind fun zz6 =>
    (kst this).bind fun zz7 =>
    (m_J0_length_8abf5 ce this).bind fun zx8 =>
    (m_J1_indexOf_4cfef ce this p1 p2 zx8).bind fun zx9 =>
    some zx9
set_option maxRecDepth 100000 in
set_option maxHeartbeats 4000000 in
theorem c_J0_indexOf_7cf53 {nx : Nat} {ce : Ce} {this : Nat} {p1 : Int32} {p2 : Int32} {q : Int32} (hr : m_J0_indexOf_7cf53 ce this p1 p2 = some q) : CtG yJ0_indexOf_7cf53 cJ0_indexOf_7cf53 3 (some .int) 2 48 (fun X => [.ref (X.2.2.2.2.1 this), .int p1, .int p2]) nx ce (some (.int q)) ce := by
  unfold m_J0_indexOf_7cf53 at hr
  refine ctG_of (by decide) (fun _ => Nat.le_of_ble_eq_true rfl) ?_
  intro G C hq hret hin
  show Jd G 0 0 nx ce 0 [(0, .ref (G.1.2.2.2.2.1 this)), (1, .int p1), (2, .int p2)] []
  refine j_aload_n (q := 0) (pc' := 1) C dJ0_indexOf_7cf53_0 rfl rfl rfl ?_
  obtain ⟨zz1, hzz1, hr⟩ := ob hr
  obtain ⟨zx2, hzx2, hr⟩ := ob hr
  refine j_callVG (k0 := this) (As := []) (rest := []) (st1 := [.int zx2]) (pc' := 4) C ⟨wm_528, wm_529⟩ rfl hzz1 rfl (c_J0_isLatin1_aae02 (nx := nx) hzx2) yw_J0_isLatin1_aae02 wm_527 rfl rfl (Nat.le_of_ble_eq_true rfl) ⟨by decide, by decide⟩ dJ0_indexOf_7cf53_1 rfl rfl ?_
  refine j_if_eq (tgt := 23) (pc' := 7) C dJ0_indexOf_7cf53_4 rfl rfl (fun hc => ?_) (fun hc => ?_)
  · have hr := ifT hc hr
    clear hc
    refine j_aload_n (q := 0) (pc' := 24) C dJ0_indexOf_7cf53_23 rfl rfl rfl ?_
    obtain ⟨zz3, hzz3, hr⟩ := ob hr
    refine j_sval (k0 := this) (pc' := 27) C dJ0_indexOf_7cf53_24 wm_2148 hzz3 rfl ?_
    refine j_iload_n (q := 1) (pc' := 28) C dJ0_indexOf_7cf53_27 rfl rfl rfl ?_
    refine j_iload_n (q := 2) (pc' := 29) C dJ0_indexOf_7cf53_28 rfl rfl rfl ?_
    refine j_aload_n (q := 0) (pc' := 30) C dJ0_indexOf_7cf53_29 rfl rfl rfl ?_
    obtain ⟨zz4, hzz4, hr⟩ := ob hr
    obtain ⟨zx5, hzx5, hr⟩ := ob hr
    refine j_callVG (k0 := this) (As := []) (rest := [.int p2, .int p1, .ref (G.1.2.2.2.2.2.1 this)]) (st1 := [.int zx5, .int p2, .int p1, .ref (G.1.2.2.2.2.2.1 this)]) (pc' := 33) C ⟨wm_514, wm_515⟩ rfl hzz4 rfl (c_J0_length_8abf5 (nx := nx) hzx5) yw_J0_length_8abf5 wm_584 rfl rfl (Nat.le_of_ble_eq_true rfl) ⟨by decide, by decide⟩ dJ0_indexOf_7cf53_30 rfl rfl ?_
    cases hr
  · have hr := ifF hc hr
    clear hc
    refine j_aload_n (q := 0) (pc' := 8) C dJ0_indexOf_7cf53_7 rfl rfl rfl ?_
    obtain ⟨zz6, hzz6, hr⟩ := ob hr
    refine j_sval (k0 := this) (pc' := 11) C dJ0_indexOf_7cf53_8 wm_2148 hzz6 rfl ?_
    refine j_iload_n (q := 1) (pc' := 12) C dJ0_indexOf_7cf53_11 rfl rfl rfl ?_
    refine j_iload_n (q := 2) (pc' := 13) C dJ0_indexOf_7cf53_12 rfl rfl rfl ?_
    refine j_aload_n (q := 0) (pc' := 14) C dJ0_indexOf_7cf53_13 rfl rfl rfl ?_
    obtain ⟨zz7, hzz7, hr⟩ := ob hr
    obtain ⟨zx8, hzx8, hr⟩ := ob hr
    refine j_callVG (k0 := this) (As := []) (rest := [.int p2, .int p1, .ref (G.1.2.2.2.2.2.1 this)]) (st1 := [.int zx8, .int p2, .int p1, .ref (G.1.2.2.2.2.2.1 this)]) (pc' := 17) C ⟨wm_514, wm_515⟩ rfl hzz7 rfl (c_J0_length_8abf5 (nx := nx) hzx8) yw_J0_length_8abf5 wm_584 rfl rfl (Nat.le_of_ble_eq_true rfl) ⟨by decide, by decide⟩ dJ0_indexOf_7cf53_14 rfl rfl ?_
    obtain ⟨zx9, hzx9, hr⟩ := ob hr
    refine j_callSG (As := [.ref (G.1.2.2.2.2.2.1 this), .int p1, .int p2, .int zx8]) (rest := []) (st1 := [.int zx9]) (pc' := 20) C wm_586 rfl (c_J1_indexOf_4cfef (nx := nx) hzx9) yw_J1_indexOf_4cfef wm_585 rfl rfl (Nat.le_of_ble_eq_true rfl) ⟨by decide, by decide⟩ dJ0_indexOf_7cf53_17 rfl rfl ?_
    refine j_goto (tgt := 36) C dJ0_indexOf_7cf53_20 rfl ?_
    have hr := Option.some.inj hr
    subst hr
    exact j_iret C hq hret dJ0_indexOf_7cf53_36
def m_J0_indexOf_0f7a4 (ce : Ce) (this : Nat) (p1 : Int32) : Option (Int32) :=
  (kst this).bind fun zz1 =>
  (m_J0_indexOf_7cf53 ce this p1 (0 : Int32)).bind fun zx2 =>
  some zx2
set_option maxRecDepth 100000 in
set_option maxHeartbeats 4000000 in
theorem c_J0_indexOf_0f7a4 {nx : Nat} {ce : Ce} {this : Nat} {p1 : Int32} {q : Int32} (hr : m_J0_indexOf_0f7a4 ce this p1 = some q) : CtG yJ0_indexOf_0f7a4 cJ0_indexOf_0f7a4 2 (some .int) 3 70 (fun X => [.ref (X.2.2.2.2.1 this), .int p1]) nx ce (some (.int q)) ce := by
  unfold m_J0_indexOf_0f7a4 at hr
  refine ctG_of (by decide) (fun _ => Nat.le_of_ble_eq_true rfl) ?_
  intro G C hq hret hin
  show Jd G 0 0 nx ce 0 [(0, .ref (G.1.2.2.2.2.1 this)), (1, .int p1)] []
  refine j_aload_n (q := 0) (pc' := 1) C dJ0_indexOf_0f7a4_0 rfl rfl rfl ?_
  refine j_iload_n (q := 1) (pc' := 2) C dJ0_indexOf_0f7a4_1 rfl rfl rfl ?_
  refine j_iconst (v := 0) (pc' := 3) C dJ0_indexOf_0f7a4_2 kI_0 rfl ?_
  obtain ⟨zz1, hzz1, hr⟩ := ob hr
  obtain ⟨zx2, hzx2, hr⟩ := ob hr
  refine j_callVG (k0 := this) (As := [.int p1, .int (0 : Int32)]) (rest := []) (st1 := [.int zx2]) (pc' := 6) C ⟨wm_581, wm_582⟩ rfl hzz1 rfl (c_J0_indexOf_7cf53 (nx := nx) hzx2) yw_J0_indexOf_7cf53 wm_580 rfl rfl (Nat.le_of_ble_eq_true rfl) ⟨by decide, by decide⟩ dJ0_indexOf_0f7a4_3 rfl rfl ?_
  have hr := Option.some.inj hr
  subst hr
  exact j_iret C hq hret dJ0_indexOf_0f7a4_6
def m_X7_takeTokens (ce : Ce) (this : Nat) (p1 : Nat) (p2 : Int32) : Option (Unit × Ce) :=
  (it (fun (zs1 : (Int32 × Int32) × Ce) =>
    if (300 : Int32) ≤ zs1.1.2 then
      some (Sum.inr ((), zs1.2))
    else
      if p2 ≤ zs1.1.1 then
        some (Sum.inr ((), zs1.2))
      else
        (aB zs1.2 p1 zs1.1.1).bind fun zx6 =>
        (m_X7_isSmall zx6).bind fun zx7 =>
        if zx7 = 0 then
          (m_X7_isDigit zx6).bind fun zx8 =>
          if zx8 = 0 then
            if zx6 = (32 : Int32) then
              some (Sum.inl (((zs1.1.1 + (1 : Int32)), (zs1.1.2 + (1 : Int32))), zs1.2))
            else
              if zx6 = (10 : Int32) then
                some (Sum.inl (((zs1.1.1 + (1 : Int32)), (zs1.1.2 + (1 : Int32))), zs1.2))
              else
                (kst 5).bind fun zz9 =>
                (m_J0_indexOf_0f7a4 zs1.2 5 (i2ch (zx6 &&& (255 : Int32)))).bind fun zx10 =>
                (
                  if zx10 < 0 then
                    some (1 : Int32)
                  else
                    some (5 : Int32)
                ).bind fun (zj11 : Int32) =>
                (rcv zs1.2 5 this).bind fun zz12 =>
                (m_X7_addToken zs1.2 this zj11 zx6 zs1.1.1).bind fun zq13 =>
                some (Sum.inl (((zs1.1.1 + (1 : Int32)), (zs1.1.2 + (1 : Int32))), zq13.2))
          else
            (rcv zs1.2 5 this).bind fun zz14 =>
            (m_X7_takeNumber zs1.2 this p1 zs1.1.1 p2).bind fun zq15 =>
            some (Sum.inl ((zq15.1, (zs1.1.2 + (1 : Int32))), zq15.2))
        else
          (rcv zs1.2 5 this).bind fun zz16 =>
          (m_X7_takeWord zs1.2 this p1 zs1.1.1 p2).bind fun zq17 =>
          some (Sum.inl ((zq17.1, (zs1.1.2 + (1 : Int32))), zq17.2))
  ) FU (((0 : Int32), (0 : Int32)), ce)).bind fun (zo2 : Unit × Ce) =>
  (rcv zo2.2 5 this).bind fun zz4 =>
  (m_X7_addToken zo2.2 this (0 : Int32) (0 : Int32) p2).bind fun zq5 =>
  some ((), zq5.2)
set_option maxRecDepth 100000 in
set_option maxHeartbeats 4000000 in
theorem c_X7_takeTokens {nx : Nat} {ce : Ce} {this : Nat} {p1 : Nat} {p2 : Int32} {q : Unit × Ce} (hr : m_X7_takeTokens ce this p1 p2 = some q) : Ct yX7_takeTokens cX7_takeTokens 6 none 7 156 0 0 [.ref this, .ref p1, .int p2] nx ce none q.2 := by
  unfold m_X7_takeTokens at hr
  refine ct_of (by decide) (Nat.le_of_ble_eq_true rfl) ?_
  intro G C hq hret hin
  show Jd G 0 0 nx ce 0 [(0, .ref this), (1, .ref p1), (2, .int p2)] []
  refine j_iconst (v := 0) (pc' := 1) C dX7_takeTokens_0 kI_0 rfl ?_
  refine j_istore_n (lv' := [(3, .int (0 : Int32)), (0, .ref this), (1, .ref p1), (2, .int p2)]) (pc' := 2) C dX7_takeTokens_1 rfl (by decide) rfl rfl ?_
  refine j_iconst (v := 0) (pc' := 3) C dX7_takeTokens_2 kI_0 rfl ?_
  refine j_istore (lv' := [(4, .int (0 : Int32)), (3, .int (0 : Int32)), (0, .ref this), (1, .ref p1), (2, .int p2)]) (pc' := 5) C dX7_takeTokens_3 (by decide) rfl rfl ?_
  obtain ⟨zo2, hzo2, rzo2⟩ := ob hr
  have kzo2 : Jd G 0 0 nx zo2.2 111 [(0, .ref this), (2, .int p2)] [] := by
    have hr := rzo2
    refine j_aload_n (q := 0) (pc' := 112) C dX7_takeTokens_111 rfl rfl rfl ?_
    refine j_iconst (v := 0) (pc' := 113) C dX7_takeTokens_112 kI_0 rfl ?_
    refine j_iconst (v := 0) (pc' := 114) C dX7_takeTokens_113 kI_0 rfl ?_
    refine j_iload_n (q := 1) (pc' := 115) C dX7_takeTokens_114 rfl rfl rfl ?_
    obtain ⟨zz4, hzz4, hr⟩ := ob hr
    obtain ⟨zq5, hzq5, hr⟩ := ob hr
    obtain ⟨fhzz4, hzz4⟩ := rcv_sp hzz4
    refine j_callV (ci := 5) (As := [.int (0 : Int32), .int (0 : Int32), .int p2]) (rest := []) (st1 := []) (pc' := 118) C ⟨wm_566, wm_4⟩ rfl hzz4 (c_X7_addToken (nx := nx) hzq5) yw_X7_addToken wm_564 rfl rfl (Nat.le_of_ble_eq_true rfl) ⟨by decide, by decide⟩ dX7_takeTokens_115 rfl rfl ?_
    have hr := Option.some.inj hr
    subst hr
    exact j_vret C hq hret dX7_takeTokens_118
  refine j_lv (lv' := [(0, .ref this), (1, .ref p1), (2, .int p2), (3, .int (0 : Int32)), (4, .int (0 : Int32))]) [2, 3, 4, 1, 0] rfl ?_
  refine it_J (J := (fun (zs1 : (Int32 × Int32) × Ce) => Jd G 0 0 nx zs1.2 5 [(0, .ref this), (1, .ref p1), (2, .int p2), (3, .int zs1.1.1), (4, .int zs1.1.2)] [])) ?_ hzo2
  clear hzo2
  intro zs1 zr3 hr izs1 ezs1
  refine j_iload (q := 4) (pc' := 7) C dX7_takeTokens_5 rfl rfl ?_
  refine j_sipush (v := 300) (pc' := 10) C dX7_takeTokens_7 kS_300 rfl ?_
  refine j_ic_ge (tgt := 111) (pc' := 13) C dX7_takeTokens_10 rfl rfl (fun hc => ?_) (fun hc => ?_)
  · have hr := ifT hc hr
    clear hc
    have hr := ezs1 _ (Option.some.inj hr).symm
    subst hr
    exact j_lv [0, 2] rfl kzo2
  · have hr := ifF hc hr
    clear hc
    refine j_iload_n (q := 3) (pc' := 14) C dX7_takeTokens_13 rfl rfl rfl ?_
    refine j_iload_n (q := 2) (pc' := 15) C dX7_takeTokens_14 rfl rfl rfl ?_
    refine j_ic_ge (tgt := 111) (pc' := 18) C dX7_takeTokens_15 rfl rfl (fun hc => ?_) (fun hc => ?_)
    · have hr := ifT hc hr
      clear hc
      have hr := ezs1 _ (Option.some.inj hr).symm
      subst hr
      exact j_lv [0, 2] rfl kzo2
    · have hr := ifF hc hr
      clear hc
      refine j_aload_n (q := 1) (pc' := 19) C dX7_takeTokens_18 rfl rfl rfl ?_
      refine j_iload_n (q := 3) (pc' := 20) C dX7_takeTokens_19 rfl rfl rfl ?_
      obtain ⟨zx6, hzx6, hr⟩ := ob hr
      refine j_bald (pc' := 21) C dX7_takeTokens_20 hzx6 rfl ?_
      refine j_istore (lv' := [(5, .int zx6), (0, .ref this), (1, .ref p1), (2, .int p2), (3, .int zs1.1.1), (4, .int zs1.1.2)]) (pc' := 23) C dX7_takeTokens_21 (by decide) rfl rfl ?_
      refine j_iload (q := 0) (pc' := 25) C dX7_takeTokens_23 rfl rfl ?_
      obtain ⟨zx7, hzx7, hr⟩ := ob hr
      refine j_callS (As := [.int zx6]) (rest := []) (st1 := [.int zx7]) (pc' := 28) C wm_500 (c_X7_isSmall (nx := nx) (ce := zs1.2) hzx7) yw_X7_isSmall wm_499 rfl rfl (Nat.le_of_ble_eq_true rfl) ⟨by decide, by decide⟩ dX7_takeTokens_25 rfl rfl ?_
      refine j_if_eq (tgt := 42) (pc' := 31) C dX7_takeTokens_28 rfl rfl (fun hc => ?_) (fun hc => ?_)
      · have hr := ifT hc hr
        clear hc
        refine j_iload (q := 0) (pc' := 44) C dX7_takeTokens_42 rfl rfl ?_
        obtain ⟨zx8, hzx8, hr⟩ := ob hr
        refine j_callS (As := [.int zx6]) (rest := []) (st1 := [.int zx8]) (pc' := 47) C wm_569 (c_X7_isDigit (nx := nx) (ce := zs1.2) hzx8) yw_X7_isDigit wm_568 rfl rfl (Nat.le_of_ble_eq_true rfl) ⟨by decide, by decide⟩ dX7_takeTokens_44 rfl rfl ?_
        refine j_if_eq (tgt := 61) (pc' := 50) C dX7_takeTokens_47 rfl rfl (fun hc => ?_) (fun hc => ?_)
        · have hr := ifT hc hr
          clear hc
          refine j_iload (q := 0) (pc' := 63) C dX7_takeTokens_61 rfl rfl ?_
          refine j_bipush (v := 32) (pc' := 65) C dX7_takeTokens_63 kB_32 rfl ?_
          refine j_ic_eq (tgt := 102) (pc' := 68) C dX7_takeTokens_65 rfl rfl (fun hc => ?_) (fun hc => ?_)
          · have hr := ifT hc hr
            clear hc
            refine j_iinc (q := 4) (v := 1) (lv' := [(3, .int (zs1.1.1 + (1 : Int32))), (5, .int zx6), (0, .ref this), (1, .ref p1), (2, .int p2), (4, .int zs1.1.2)]) (pc' := 105) C dX7_takeTokens_102 rfl kI_1 (by decide) rfl rfl ?_
            refine j_iinc (q := 5) (v := 1) (lv' := [(4, .int (zs1.1.2 + (1 : Int32))), (3, .int (zs1.1.1 + (1 : Int32))), (5, .int zx6), (0, .ref this), (1, .ref p1), (2, .int p2)]) (pc' := 108) C dX7_takeTokens_105 rfl kI_1 (by decide) rfl rfl ?_
            refine j_goto (tgt := 5) C dX7_takeTokens_108 rfl ?_
            have hr := izs1 (((zs1.1.1 + (1 : Int32)), (zs1.1.2 + (1 : Int32))), zs1.2) (Option.some.inj hr).symm
            exact j_lv [3, 4, 5, 1, 0] rfl hr
          · have hr := ifF hc hr
            clear hc
            refine j_iload (q := 0) (pc' := 70) C dX7_takeTokens_68 rfl rfl ?_
            refine j_bipush (v := 10) (pc' := 72) C dX7_takeTokens_70 kB_10 rfl ?_
            refine j_ic_eq (tgt := 102) (pc' := 75) C dX7_takeTokens_72 rfl rfl (fun hc => ?_) (fun hc => ?_)
            · have hr := ifT hc hr
              clear hc
              refine j_iinc (q := 4) (v := 1) (lv' := [(3, .int (zs1.1.1 + (1 : Int32))), (5, .int zx6), (0, .ref this), (1, .ref p1), (2, .int p2), (4, .int zs1.1.2)]) (pc' := 105) C dX7_takeTokens_102 rfl kI_1 (by decide) rfl rfl ?_
              refine j_iinc (q := 5) (v := 1) (lv' := [(4, .int (zs1.1.2 + (1 : Int32))), (3, .int (zs1.1.1 + (1 : Int32))), (5, .int zx6), (0, .ref this), (1, .ref p1), (2, .int p2)]) (pc' := 108) C dX7_takeTokens_105 rfl kI_1 (by decide) rfl rfl ?_
              refine j_goto (tgt := 5) C dX7_takeTokens_108 rfl ?_
              have hr := izs1 (((zs1.1.1 + (1 : Int32)), (zs1.1.2 + (1 : Int32))), zs1.2) (Option.some.inj hr).symm
              exact j_lv [3, 4, 5, 1, 0] rfl hr
            · have hr := ifF hc hr
              clear hc
              refine j_aload_n (q := 1) (pc' := 76) C dX7_takeTokens_75 rfl rfl rfl ?_
              refine j_ldcS (k0 := 5) (pc' := 78) C dX7_takeTokens_76 rfl (by decide) rfl ?_
              refine j_iload (q := 0) (pc' := 80) C dX7_takeTokens_78 rfl rfl ?_
              refine j_sipush (v := 255) (pc' := 83) C dX7_takeTokens_80 kS_255 rfl ?_
              refine j_iand (pc' := 84) C dX7_takeTokens_83 rfl ?_
              refine j_i2c (pc' := 85) C dX7_takeTokens_84 rfl ?_
              obtain ⟨zz9, hzz9, hr⟩ := ob hr
              obtain ⟨zx10, hzx10, hr⟩ := ob hr
              refine j_callVG (k0 := 5) (As := [.int (i2ch (zx6 &&& (255 : Int32)))]) (rest := [.ref this]) (st1 := [.int zx10, .ref this]) (pc' := 88) C ⟨wm_577, wm_578⟩ rfl hzz9 rfl (c_J0_indexOf_0f7a4 (nx := nx) hzx10) yw_J0_indexOf_0f7a4 wm_576 rfl rfl (Nat.le_of_ble_eq_true rfl) ⟨by decide, by decide⟩ dX7_takeTokens_85 rfl rfl ?_
              obtain ⟨zj11, hzj11, rzj11⟩ := ob hr
              have kzj11 : Jd G 0 0 nx zs1.2 96 [(0, .ref this), (1, .ref p1), (2, .int p2), (3, .int zs1.1.1), (4, .int zs1.1.2), (5, .int zx6)] [.int zj11, .ref this] := by
                have hr := rzj11
                refine j_iload (q := 5) (pc' := 98) C dX7_takeTokens_96 rfl rfl ?_
                refine j_iload_n (q := 3) (pc' := 99) C dX7_takeTokens_98 rfl rfl rfl ?_
                obtain ⟨zz12, hzz12, hr⟩ := ob hr
                obtain ⟨zq13, hzq13, hr⟩ := ob hr
                obtain ⟨fhzz12, hzz12⟩ := rcv_sp hzz12
                refine j_callV (ci := 5) (As := [.int zj11, .int zx6, .int zs1.1.1]) (rest := []) (st1 := []) (pc' := 102) C ⟨wm_566, wm_4⟩ rfl hzz12 (c_X7_addToken (nx := nx) hzq13) yw_X7_addToken wm_564 rfl rfl (Nat.le_of_ble_eq_true rfl) ⟨by decide, by decide⟩ dX7_takeTokens_99 rfl rfl ?_
                refine j_iinc (q := 3) (v := 1) (lv' := [(3, .int (zs1.1.1 + (1 : Int32))), (0, .ref this), (1, .ref p1), (2, .int p2), (4, .int zs1.1.2), (5, .int zx6)]) (pc' := 105) C dX7_takeTokens_102 rfl kI_1 (by decide) rfl rfl ?_
                refine j_iinc (q := 4) (v := 1) (lv' := [(4, .int (zs1.1.2 + (1 : Int32))), (3, .int (zs1.1.1 + (1 : Int32))), (0, .ref this), (1, .ref p1), (2, .int p2), (5, .int zx6)]) (pc' := 108) C dX7_takeTokens_105 rfl kI_1 (by decide) rfl rfl ?_
                refine j_goto (tgt := 5) C dX7_takeTokens_108 rfl ?_
                have hr := izs1 (((zs1.1.1 + (1 : Int32)), (zs1.1.2 + (1 : Int32))), zq13.2) (Option.some.inj hr).symm
                exact j_lv [2, 3, 4, 1, 0] rfl hr
              clear rzj11
              have hr := hzj11
              clear hzj11
              refine j_if_lt (tgt := 95) (pc' := 91) C dX7_takeTokens_88 rfl rfl (fun hc => ?_) (fun hc => ?_)
              · have hr := ifT hc hr
                clear hc
                refine j_iconst (v := 1) (pc' := 96) C dX7_takeTokens_95 kI_1 rfl ?_
                have hr := Option.some.inj hr
                subst hr
                exact j_lv [1, 2, 3, 4, 5, 0] rfl kzj11
              · have hr := ifF hc hr
                clear hc
                refine j_iconst (v := 5) (pc' := 92) C dX7_takeTokens_91 kI_5 rfl ?_
                refine j_goto (tgt := 96) C dX7_takeTokens_92 rfl ?_
                have hr := Option.some.inj hr
                subst hr
                exact j_lv [1, 2, 3, 4, 5, 0] rfl kzj11
        · have hr := ifF hc hr
          clear hc
          refine j_aload_n (q := 1) (pc' := 51) C dX7_takeTokens_50 rfl rfl rfl ?_
          refine j_aload_n (q := 2) (pc' := 52) C dX7_takeTokens_51 rfl rfl rfl ?_
          refine j_iload_n (q := 4) (pc' := 53) C dX7_takeTokens_52 rfl rfl rfl ?_
          refine j_iload_n (q := 3) (pc' := 54) C dX7_takeTokens_53 rfl rfl rfl ?_
          obtain ⟨zz14, hzz14, hr⟩ := ob hr
          obtain ⟨zq15, hzq15, hr⟩ := ob hr
          obtain ⟨fhzz14, hzz14⟩ := rcv_sp hzz14
          refine j_callV (ci := 5) (As := [.ref p1, .int zs1.1.1, .int p2]) (rest := []) (st1 := [.int zq15.1]) (pc' := 57) C ⟨wm_573, wm_5⟩ rfl hzz14 (c_X7_takeNumber (nx := nx) hzq15) yw_X7_takeNumber wm_571 rfl rfl (Nat.le_of_ble_eq_true rfl) ⟨by decide, by decide⟩ dX7_takeTokens_54 rfl rfl ?_
          refine j_istore_n (lv' := [(3, .int zq15.1), (5, .int zx6), (0, .ref this), (1, .ref p1), (2, .int p2), (4, .int zs1.1.2)]) (pc' := 58) C dX7_takeTokens_57 rfl (by decide) rfl rfl ?_
          refine j_goto (tgt := 105) C dX7_takeTokens_58 rfl ?_
          refine j_iinc (q := 5) (v := 1) (lv' := [(4, .int (zs1.1.2 + (1 : Int32))), (3, .int zq15.1), (5, .int zx6), (0, .ref this), (1, .ref p1), (2, .int p2)]) (pc' := 108) C dX7_takeTokens_105 rfl kI_1 (by decide) rfl rfl ?_
          refine j_goto (tgt := 5) C dX7_takeTokens_108 rfl ?_
          have hr := izs1 ((zq15.1, (zs1.1.2 + (1 : Int32))), zq15.2) (Option.some.inj hr).symm
          exact j_lv [3, 4, 5, 1, 0] rfl hr
      · have hr := ifF hc hr
        clear hc
        refine j_aload_n (q := 1) (pc' := 32) C dX7_takeTokens_31 rfl rfl rfl ?_
        refine j_aload_n (q := 2) (pc' := 33) C dX7_takeTokens_32 rfl rfl rfl ?_
        refine j_iload_n (q := 4) (pc' := 34) C dX7_takeTokens_33 rfl rfl rfl ?_
        refine j_iload_n (q := 3) (pc' := 35) C dX7_takeTokens_34 rfl rfl rfl ?_
        obtain ⟨zz16, hzz16, hr⟩ := ob hr
        obtain ⟨zq17, hzq17, hr⟩ := ob hr
        obtain ⟨fhzz16, hzz16⟩ := rcv_sp hzz16
        refine j_callV (ci := 5) (As := [.ref p1, .int zs1.1.1, .int p2]) (rest := []) (st1 := [.int zq17.1]) (pc' := 38) C ⟨wm_504, wm_3⟩ rfl hzz16 (c_X7_takeWord (nx := nx) hzq17) yw_X7_takeWord wm_502 rfl rfl (Nat.le_of_ble_eq_true rfl) ⟨by decide, by decide⟩ dX7_takeTokens_35 rfl rfl ?_
        refine j_istore_n (lv' := [(3, .int zq17.1), (5, .int zx6), (0, .ref this), (1, .ref p1), (2, .int p2), (4, .int zs1.1.2)]) (pc' := 39) C dX7_takeTokens_38 rfl (by decide) rfl rfl ?_
        refine j_goto (tgt := 105) C dX7_takeTokens_39 rfl ?_
        refine j_iinc (q := 5) (v := 1) (lv' := [(4, .int (zs1.1.2 + (1 : Int32))), (3, .int zq17.1), (5, .int zx6), (0, .ref this), (1, .ref p1), (2, .int p2)]) (pc' := 108) C dX7_takeTokens_105 rfl kI_1 (by decide) rfl rfl ?_
        refine j_goto (tgt := 5) C dX7_takeTokens_108 rfl ?_
        have hr := izs1 ((zq17.1, (zs1.1.2 + (1 : Int32))), zq17.2) (Option.some.inj hr).symm
        exact j_lv [3, 4, 5, 1, 0] rfl hr
def m_X7_goOn (ce : Ce) (this : Nat) : Option (Unit × Ce) :=
  (gI ce 5 4 this).bind fun zx1 =>
  (gI ce 5 3 this).bind fun zx2 =>
  if zx2 ≤ (zx1 + (1 : Int32)) then
    some ((), ce)
  else
    (gI ce 5 4 this).bind fun zx3 =>
    (pV ce 5 4 this (.int (zx3 + (1 : Int32)))).bind fun zc4 =>
    some ((), zc4)
set_option maxRecDepth 100000 in
set_option maxHeartbeats 4000000 in
theorem c_X7_goOn {nx : Nat} {ce : Ce} {this : Nat} {q : Unit × Ce} (hr : m_X7_goOn ce this = some q) : Ct yX7_goOn cX7_goOn 1 none 0 0 0 0 [.ref this] nx ce none q.2 := by
  unfold m_X7_goOn at hr
  refine ct_of (by decide) (Nat.le_of_ble_eq_true rfl) ?_
  intro G C hq hret hin
  show Jd G 0 0 nx ce 0 [(0, .ref this)] []
  refine j_aload_n (q := 0) (pc' := 1) C dX7_goOn_0 rfl rfl rfl ?_
  obtain ⟨zx1, hzx1, hr⟩ := ob hr
  refine j_getI (pc' := 4) C dX7_goOn_1 fl_X7_32 hzx1 rfl ?_
  refine j_iconst (v := 1) (pc' := 5) C dX7_goOn_4 kI_1 rfl ?_
  refine j_iadd (pc' := 6) C dX7_goOn_5 rfl ?_
  refine j_aload_n (q := 0) (pc' := 7) C dX7_goOn_6 rfl rfl rfl ?_
  obtain ⟨zx2, hzx2, hr⟩ := ob hr
  refine j_getI (pc' := 10) C dX7_goOn_7 fl_X7_28 hzx2 rfl ?_
  refine j_ic_ge (tgt := 23) (pc' := 13) C dX7_goOn_10 rfl rfl (fun hc => ?_) (fun hc => ?_)
  · have hr := ifT hc hr
    clear hc
    have hr := Option.some.inj hr
    subst hr
    exact j_vret C hq hret dX7_goOn_23
  · have hr := ifF hc hr
    clear hc
    refine j_aload_n (q := 0) (pc' := 14) C dX7_goOn_13 rfl rfl rfl ?_
    refine j_dup (pc' := 15) C dX7_goOn_14 rfl rfl ?_
    obtain ⟨zx3, hzx3, hr⟩ := ob hr
    refine j_getI (pc' := 18) C dX7_goOn_15 fl_X7_32 hzx3 rfl ?_
    refine j_iconst (v := 1) (pc' := 19) C dX7_goOn_18 kI_1 rfl ?_
    refine j_iadd (pc' := 20) C dX7_goOn_19 rfl ?_
    obtain ⟨zc4, hzc4, hr⟩ := ob hr
    refine j_put (pc' := 23) C dX7_goOn_20 fw_X7_32 rfl rfl hzc4 rfl ?_
    have hr := Option.some.inj hr
    subst hr
    exact j_vret C hq hret dX7_goOn_23
def m_X7_fail (ce : Ce) (this : Nat) (p1 : Int32) : Option (Unit × Ce) :=
  (gI ce 5 5 this).bind fun zx1 =>
  (
    if zx1 = 0 then
      (pV ce 5 5 this (.int p1)).bind fun zc6 =>
      (gA zc6 5 2 this).bind fun zx7 =>
      (gI zc6 5 4 this).bind fun zx8 =>
      (aI zc6 zx7 zx8).bind fun zx9 =>
      (pV zc6 5 6 this (.int zx9)).bind fun zc10 =>
      some ((), zc10)
    else
      some ((), ce)
  ).bind fun (zj2 : Unit × Ce) =>
  (gI zj2.2 5 3 this).bind fun zx3 =>
  if zx3 ≤ 0 then
    some ((), zj2.2)
  else
    (gI zj2.2 5 3 this).bind fun zx4 =>
    (pV zj2.2 5 4 this (.int (zx4 - (1 : Int32)))).bind fun zc5 =>
    some ((), zc5)
set_option maxRecDepth 100000 in
set_option maxHeartbeats 4000000 in
theorem c_X7_fail {nx : Nat} {ce : Ce} {this : Nat} {p1 : Int32} {q : Unit × Ce} (hr : m_X7_fail ce this p1 = some q) : Ct yX7_fail cX7_fail 2 none 0 0 0 0 [.ref this, .int p1] nx ce none q.2 := by
  unfold m_X7_fail at hr
  refine ct_of (by decide) (Nat.le_of_ble_eq_true rfl) ?_
  intro G C hq hret hin
  show Jd G 0 0 nx ce 0 [(0, .ref this), (1, .int p1)] []
  refine j_aload_n (q := 0) (pc' := 1) C dX7_fail_0 rfl rfl rfl ?_
  obtain ⟨zx1, hzx1, hr⟩ := ob hr
  refine j_getI (pc' := 4) C dX7_fail_1 fl_X7_35 hzx1 rfl ?_
  obtain ⟨zj2, hzj2, rzj2⟩ := ob hr
  have kzj2 : Jd G 0 0 nx zj2.2 25 [(0, .ref this)] [] := by
    have hr := rzj2
    refine j_aload_n (q := 0) (pc' := 26) C dX7_fail_25 rfl rfl rfl ?_
    obtain ⟨zx3, hzx3, hr⟩ := ob hr
    refine j_getI (pc' := 29) C dX7_fail_26 fl_X7_28 hzx3 rfl ?_
    refine j_if_le (tgt := 42) (pc' := 32) C dX7_fail_29 rfl rfl (fun hc => ?_) (fun hc => ?_)
    · have hr := ifT hc hr
      clear hc
      have hr := Option.some.inj hr
      subst hr
      exact j_vret C hq hret dX7_fail_42
    · have hr := ifF hc hr
      clear hc
      refine j_aload_n (q := 0) (pc' := 33) C dX7_fail_32 rfl rfl rfl ?_
      refine j_aload_n (q := 0) (pc' := 34) C dX7_fail_33 rfl rfl rfl ?_
      obtain ⟨zx4, hzx4, hr⟩ := ob hr
      refine j_getI (pc' := 37) C dX7_fail_34 fl_X7_28 hzx4 rfl ?_
      refine j_iconst (v := 1) (pc' := 38) C dX7_fail_37 kI_1 rfl ?_
      refine j_isub (pc' := 39) C dX7_fail_38 rfl ?_
      obtain ⟨zc5, hzc5, hr⟩ := ob hr
      refine j_put (pc' := 42) C dX7_fail_39 fw_X7_32 rfl rfl hzc5 rfl ?_
      have hr := Option.some.inj hr
      subst hr
      exact j_vret C hq hret dX7_fail_42
  clear rzj2
  have hr := hzj2
  clear hzj2
  refine j_if_ne (tgt := 25) (pc' := 7) C dX7_fail_4 rfl rfl (fun hc => ?_) (fun hc => ?_)
  · have hr := ifF hc hr
    clear hc
    have hr := Option.some.inj hr
    subst hr
    exact j_lv [0] rfl kzj2
  · have hr := ifT hc hr
    clear hc
    refine j_aload_n (q := 0) (pc' := 8) C dX7_fail_7 rfl rfl rfl ?_
    refine j_iload_n (q := 1) (pc' := 9) C dX7_fail_8 rfl rfl rfl ?_
    obtain ⟨zc6, hzc6, hr⟩ := ob hr
    refine j_put (pc' := 12) C dX7_fail_9 fw_X7_35 rfl rfl hzc6 rfl ?_
    refine j_aload_n (q := 0) (pc' := 13) C dX7_fail_12 rfl rfl rfl ?_
    refine j_aload_n (q := 0) (pc' := 14) C dX7_fail_13 rfl rfl rfl ?_
    obtain ⟨zx7, hzx7, hr⟩ := ob hr
    refine j_getA (pc' := 17) C dX7_fail_14 fl_X7_18 hzx7 rfl ?_
    refine j_aload_n (q := 0) (pc' := 18) C dX7_fail_17 rfl rfl rfl ?_
    obtain ⟨zx8, hzx8, hr⟩ := ob hr
    refine j_getI (pc' := 21) C dX7_fail_18 fl_X7_32 hzx8 rfl ?_
    obtain ⟨zx9, hzx9, hr⟩ := ob hr
    refine j_iald (pc' := 22) C dX7_fail_21 hzx9 rfl ?_
    obtain ⟨zc10, hzc10, hr⟩ := ob hr
    refine j_put (pc' := 25) C dX7_fail_22 fw_X7_38 rfl rfl hzc10 rfl ?_
    have hr := Option.some.inj hr
    subst hr
    exact j_lv [0] rfl kzj2
def m_X7_readLetters (ce : Ce) (this : Nat) : Option (Unit × Ce) :=
  (rcv ce 5 this).bind fun zz1 =>
  (m_X7_goOn ce this).bind fun zq2 =>
  (gA zq2.2 5 1 this).bind fun zx3 =>
  (gI zq2.2 5 4 this).bind fun zx4 =>
  (aI zq2.2 zx3 zx4).bind fun zx5 =>
  (gA zq2.2 5 0 this).bind fun zx6 =>
  (gI zq2.2 5 4 this).bind fun zx7 =>
  (aI zq2.2 zx6 zx7).bind fun zx8 =>
  if zx8 = (4 : Int32) then
    (
      if zx5 < (1 : Int32) then
        some ((Sum.inr (), zq2.2))
      else
        if zx5 ≤ (6 : Int32) then
          (pV zq2.2 5 7 this (.int zx5)).bind fun zc12 =>
          (rcv zc12 5 this).bind fun zz13 =>
          (m_X7_goOn zc12 this).bind fun zq14 =>
          some ((Sum.inl (), zq14.2))
        else
          some ((Sum.inr (), zq2.2))
    ).bind fun (zj9 : (Unit ⊕ Unit) × Ce) => Sum.elim (fun wzj9 => some (wzj9, zj9.2)) (fun vzj9 =>
      (rcv zj9.2 5 this).bind fun zz10 =>
      (m_X7_fail zj9.2 this (2 : Int32)).bind fun zq11 =>
      some ((), zq11.2)
    ) zj9.1
  else
    (rcv zq2.2 5 this).bind fun zz15 =>
    (m_X7_fail zq2.2 this (1 : Int32)).bind fun zq16 =>
    some ((), zq16.2)
set_option maxRecDepth 100000 in
set_option maxHeartbeats 4000000 in
theorem c_X7_readLetters {nx : Nat} {ce : Ce} {this : Nat} {q : Unit × Ce} (hr : m_X7_readLetters ce this = some q) : Ct yX7_readLetters cX7_readLetters 2 none 1 21 0 0 [.ref this] nx ce none q.2 := by
  unfold m_X7_readLetters at hr
  refine ct_of (by decide) (Nat.le_of_ble_eq_true rfl) ?_
  intro G C hq hret hin
  show Jd G 0 0 nx ce 0 [(0, .ref this)] []
  refine j_aload_n (q := 0) (pc' := 1) C dX7_readLetters_0 rfl rfl rfl ?_
  obtain ⟨zz1, hzz1, hr⟩ := ob hr
  obtain ⟨zq2, hzq2, hr⟩ := ob hr
  obtain ⟨fhzz1, hzz1⟩ := rcv_sp hzz1
  refine j_callV (ci := 5) (As := []) (rest := []) (st1 := []) (pc' := 4) C ⟨wm_639, wm_7⟩ rfl hzz1 (c_X7_goOn (nx := nx) hzq2) yw_X7_goOn wm_637 rfl rfl (Nat.le_of_ble_eq_true rfl) ⟨by decide, by decide⟩ dX7_readLetters_1 rfl rfl ?_
  refine j_aload_n (q := 0) (pc' := 5) C dX7_readLetters_4 rfl rfl rfl ?_
  obtain ⟨zx3, hzx3, hr⟩ := ob hr
  refine j_getA (pc' := 8) C dX7_readLetters_5 fl_X7_15 hzx3 rfl ?_
  refine j_aload_n (q := 0) (pc' := 9) C dX7_readLetters_8 rfl rfl rfl ?_
  obtain ⟨zx4, hzx4, hr⟩ := ob hr
  refine j_getI (pc' := 12) C dX7_readLetters_9 fl_X7_32 hzx4 rfl ?_
  obtain ⟨zx5, hzx5, hr⟩ := ob hr
  refine j_iald (pc' := 13) C dX7_readLetters_12 hzx5 rfl ?_
  refine j_istore_n (lv' := [(1, .int zx5), (0, .ref this)]) (pc' := 14) C dX7_readLetters_13 rfl (by decide) rfl rfl ?_
  refine j_aload_n (q := 1) (pc' := 15) C dX7_readLetters_14 rfl rfl rfl ?_
  obtain ⟨zx6, hzx6, hr⟩ := ob hr
  refine j_getA (pc' := 18) C dX7_readLetters_15 fl_X7_9 hzx6 rfl ?_
  refine j_aload_n (q := 1) (pc' := 19) C dX7_readLetters_18 rfl rfl rfl ?_
  obtain ⟨zx7, hzx7, hr⟩ := ob hr
  refine j_getI (pc' := 22) C dX7_readLetters_19 fl_X7_32 hzx7 rfl ?_
  obtain ⟨zx8, hzx8, hr⟩ := ob hr
  refine j_iald (pc' := 23) C dX7_readLetters_22 hzx8 rfl ?_
  refine j_iconst (v := 4) (pc' := 24) C dX7_readLetters_23 kI_4 rfl ?_
  refine j_ic_eq (tgt := 35) (pc' := 27) C dX7_readLetters_24 rfl rfl (fun hc => ?_) (fun hc => ?_)
  · have hr := ifT hc hr
    clear hc
    refine j_iload_n (q := 0) (pc' := 36) C dX7_readLetters_35 rfl rfl rfl ?_
    refine j_iconst (v := 1) (pc' := 37) C dX7_readLetters_36 kI_1 rfl ?_
    obtain ⟨zj9, hzj9, rzj9⟩ := ob hr
    have kzj9 : ∀ vzj9, zj9.1 = Sum.inr vzj9 → Jd G 0 0 nx zj9.2 46 [(0, .ref this)] [] := by
      intro vzj9 ezj9
      rw [ezj9] at rzj9
      have hr := elR rzj9
      refine j_aload_n (q := 0) (pc' := 47) C dX7_readLetters_46 rfl rfl rfl ?_
      refine j_iconst (v := 2) (pc' := 48) C dX7_readLetters_47 kI_2 rfl ?_
      obtain ⟨zz10, hzz10, hr⟩ := ob hr
      obtain ⟨zq11, hzq11, hr⟩ := ob hr
      obtain ⟨fhzz10, hzz10⟩ := rcv_sp hzz10
      refine j_callV (ci := 5) (As := [.int (2 : Int32)]) (rest := []) (st1 := []) (pc' := 51) C ⟨wm_643, wm_8⟩ rfl hzz10 (c_X7_fail (nx := nx) hzq11) yw_X7_fail wm_641 rfl rfl (Nat.le_of_ble_eq_true rfl) ⟨by decide, by decide⟩ dX7_readLetters_48 rfl rfl ?_
      refine j_goto (tgt := 63) C dX7_readLetters_51 rfl ?_
      have hr := Option.some.inj hr
      subst hr
      exact j_vret C hq hret dX7_readLetters_63
    have hr := hzj9
    clear hzj9
    refine j_ic_lt (tgt := 46) (pc' := 40) C dX7_readLetters_37 rfl rfl (fun hc => ?_) (fun hc => ?_)
    · have hr := ifT hc hr
      clear hc
      have hr := Option.some.inj hr
      subst hr
      exact j_lv [1] rfl (kzj9 _ rfl)
    · have hr := ifF hc hr
      clear hc
      refine j_iload_n (q := 0) (pc' := 41) C dX7_readLetters_40 rfl rfl rfl ?_
      refine j_bipush (v := 6) (pc' := 43) C dX7_readLetters_41 kB_6 rfl ?_
      refine j_ic_le (tgt := 54) (pc' := 46) C dX7_readLetters_43 rfl rfl (fun hc => ?_) (fun hc => ?_)
      · have hr := ifT hc hr
        clear hc
        refine j_aload_n (q := 1) (pc' := 55) C dX7_readLetters_54 rfl rfl rfl ?_
        refine j_iload_n (q := 0) (pc' := 56) C dX7_readLetters_55 rfl rfl rfl ?_
        obtain ⟨zc12, hzc12, hr⟩ := ob hr
        refine j_put (pc' := 59) C dX7_readLetters_56 fw_X7_41 rfl rfl hzc12 rfl ?_
        refine j_aload_n (q := 1) (pc' := 60) C dX7_readLetters_59 rfl rfl rfl ?_
        obtain ⟨zz13, hzz13, hr⟩ := ob hr
        obtain ⟨zq14, hzq14, hr⟩ := ob hr
        obtain ⟨fhzz13, hzz13⟩ := rcv_sp hzz13
        refine j_callV (ci := 5) (As := []) (rest := []) (st1 := []) (pc' := 63) C ⟨wm_639, wm_7⟩ rfl hzz13 (c_X7_goOn (nx := nx) hzq14) yw_X7_goOn wm_637 rfl rfl (Nat.le_of_ble_eq_true rfl) ⟨by decide, by decide⟩ dX7_readLetters_60 rfl rfl ?_
        have hr := Option.some.inj hr
        subst hr
        have hr := elL rzj9
        have hr := Option.some.inj hr
        subst hr
        exact j_vret C hq hret dX7_readLetters_63
      · have hr := ifF hc hr
        clear hc
        have hr := Option.some.inj hr
        subst hr
        exact j_lv [1] rfl (kzj9 _ rfl)
  · have hr := ifF hc hr
    clear hc
    refine j_aload_n (q := 1) (pc' := 28) C dX7_readLetters_27 rfl rfl rfl ?_
    refine j_iconst (v := 1) (pc' := 29) C dX7_readLetters_28 kI_1 rfl ?_
    obtain ⟨zz15, hzz15, hr⟩ := ob hr
    obtain ⟨zq16, hzq16, hr⟩ := ob hr
    obtain ⟨fhzz15, hzz15⟩ := rcv_sp hzz15
    refine j_callV (ci := 5) (As := [.int (1 : Int32)]) (rest := []) (st1 := []) (pc' := 32) C ⟨wm_643, wm_8⟩ rfl hzz15 (c_X7_fail (nx := nx) hzq16) yw_X7_fail wm_641 rfl rfl (Nat.le_of_ble_eq_true rfl) ⟨by decide, by decide⟩ dX7_readLetters_29 rfl rfl ?_
    refine j_goto (tgt := 63) C dX7_readLetters_32 rfl ?_
    have hr := Option.some.inj hr
    subst hr
    exact j_vret C hq hret dX7_readLetters_63
def m_X7_isSign (ce : Ce) (this : Nat) (p1 : Int32) : Option (Int32) :=
  (gA ce 5 0 this).bind fun zx1 =>
  (gI ce 5 4 this).bind fun zx2 =>
  (aI ce zx1 zx2).bind fun zx3 =>
  if zx3 = (5 : Int32) then
    (gA ce 5 1 this).bind fun zx4 =>
    (gI ce 5 4 this).bind fun zx5 =>
    (aI ce zx4 zx5).bind fun zx6 =>
    if zx6 = p1 then
      some (1 : Int32)
    else
      some (0 : Int32)
  else
    some (0 : Int32)
set_option maxRecDepth 100000 in
set_option maxHeartbeats 4000000 in
theorem c_X7_isSign {nx : Nat} {ce : Ce} {this : Nat} {p1 : Int32} {q : Int32} (hr : m_X7_isSign ce this p1 = some q) : Ct yX7_isSign cX7_isSign 2 (some .boolean) 0 0 0 0 [.ref this, .int p1] nx ce (some (.int q)) ce := by
  unfold m_X7_isSign at hr
  refine ct_of (by decide) (Nat.le_of_ble_eq_true rfl) ?_
  intro G C hq hret hin
  show Jd G 0 0 nx ce 0 [(0, .ref this), (1, .int p1)] []
  refine j_aload_n (q := 0) (pc' := 1) C dX7_isSign_0 rfl rfl rfl ?_
  obtain ⟨zx1, hzx1, hr⟩ := ob hr
  refine j_getA (pc' := 4) C dX7_isSign_1 fl_X7_9 hzx1 rfl ?_
  refine j_aload_n (q := 0) (pc' := 5) C dX7_isSign_4 rfl rfl rfl ?_
  obtain ⟨zx2, hzx2, hr⟩ := ob hr
  refine j_getI (pc' := 8) C dX7_isSign_5 fl_X7_32 hzx2 rfl ?_
  obtain ⟨zx3, hzx3, hr⟩ := ob hr
  refine j_iald (pc' := 9) C dX7_isSign_8 hzx3 rfl ?_
  refine j_iconst (v := 5) (pc' := 10) C dX7_isSign_9 kI_5 rfl ?_
  refine j_ic_ne (tgt := 30) (pc' := 13) C dX7_isSign_10 rfl rfl (fun hc => ?_) (fun hc => ?_)
  · have hr := ifF hc hr
    clear hc
    refine j_iconst (v := 0) (pc' := 31) C dX7_isSign_30 kI_0 rfl ?_
    have hr := Option.some.inj hr
    subst hr
    exact j_zret C hq hret rfl dX7_isSign_31
  · have hr := ifT hc hr
    clear hc
    refine j_aload_n (q := 0) (pc' := 14) C dX7_isSign_13 rfl rfl rfl ?_
    obtain ⟨zx4, hzx4, hr⟩ := ob hr
    refine j_getA (pc' := 17) C dX7_isSign_14 fl_X7_15 hzx4 rfl ?_
    refine j_aload_n (q := 0) (pc' := 18) C dX7_isSign_17 rfl rfl rfl ?_
    obtain ⟨zx5, hzx5, hr⟩ := ob hr
    refine j_getI (pc' := 21) C dX7_isSign_18 fl_X7_32 hzx5 rfl ?_
    obtain ⟨zx6, hzx6, hr⟩ := ob hr
    refine j_iald (pc' := 22) C dX7_isSign_21 hzx6 rfl ?_
    refine j_iload_n (q := 1) (pc' := 23) C dX7_isSign_22 rfl rfl rfl ?_
    refine j_ic_ne (tgt := 30) (pc' := 26) C dX7_isSign_23 rfl rfl (fun hc => ?_) (fun hc => ?_)
    · have hr := ifF hc hr
      clear hc
      refine j_iconst (v := 0) (pc' := 31) C dX7_isSign_30 kI_0 rfl ?_
      have hr := Option.some.inj hr
      subst hr
      exact j_zret C hq hret rfl dX7_isSign_31
    · have hr := ifT hc hr
      clear hc
      refine j_iconst (v := 1) (pc' := 27) C dX7_isSign_26 kI_1 rfl ?_
      refine j_goto (tgt := 31) C dX7_isSign_27 rfl ?_
      have hr := Option.some.inj hr
      subst hr
      exact j_zret C hq hret rfl dX7_isSign_31
def m_X7_takeSign (ce : Ce) (this : Nat) (p1 : Int32) : Option (Unit × Ce) :=
  (rcv ce 5 this).bind fun zz1 =>
  (m_X7_isSign ce this p1).bind fun zx2 =>
  if zx2 = 0 then
    (rcv ce 5 this).bind fun zz3 =>
    (m_X7_fail ce this (1 : Int32)).bind fun zq4 =>
    some ((), zq4.2)
  else
    (rcv ce 5 this).bind fun zz5 =>
    (m_X7_goOn ce this).bind fun zq6 =>
    some ((), zq6.2)
set_option maxRecDepth 100000 in
set_option maxHeartbeats 4000000 in
theorem c_X7_takeSign {nx : Nat} {ce : Ce} {this : Nat} {p1 : Int32} {q : Unit × Ce} (hr : m_X7_takeSign ce this p1 = some q) : Ct yX7_takeSign cX7_takeSign 2 none 1 21 0 0 [.ref this, .int p1] nx ce none q.2 := by
  unfold m_X7_takeSign at hr
  refine ct_of (by decide) (Nat.le_of_ble_eq_true rfl) ?_
  intro G C hq hret hin
  show Jd G 0 0 nx ce 0 [(0, .ref this), (1, .int p1)] []
  refine j_aload_n (q := 0) (pc' := 1) C dX7_takeSign_0 rfl rfl rfl ?_
  refine j_iload_n (q := 1) (pc' := 2) C dX7_takeSign_1 rfl rfl rfl ?_
  obtain ⟨zz1, hzz1, hr⟩ := ob hr
  obtain ⟨zx2, hzx2, hr⟩ := ob hr
  obtain ⟨fhzz1, hzz1⟩ := rcv_sp hzz1
  refine j_callV (ci := 5) (As := [.int p1]) (rest := []) (st1 := [.int zx2]) (pc' := 5) C ⟨wm_651, wm_10⟩ rfl hzz1 (c_X7_isSign (nx := nx) hzx2) yw_X7_isSign wm_649 rfl rfl (Nat.le_of_ble_eq_true rfl) ⟨by decide, by decide⟩ dX7_takeSign_2 rfl rfl ?_
  refine j_if_eq (tgt := 15) (pc' := 8) C dX7_takeSign_5 rfl rfl (fun hc => ?_) (fun hc => ?_)
  · have hr := ifT hc hr
    clear hc
    refine j_aload_n (q := 0) (pc' := 16) C dX7_takeSign_15 rfl rfl rfl ?_
    refine j_iconst (v := 1) (pc' := 17) C dX7_takeSign_16 kI_1 rfl ?_
    obtain ⟨zz3, hzz3, hr⟩ := ob hr
    obtain ⟨zq4, hzq4, hr⟩ := ob hr
    obtain ⟨fhzz3, hzz3⟩ := rcv_sp hzz3
    refine j_callV (ci := 5) (As := [.int (1 : Int32)]) (rest := []) (st1 := []) (pc' := 20) C ⟨wm_643, wm_8⟩ rfl hzz3 (c_X7_fail (nx := nx) hzq4) yw_X7_fail wm_641 rfl rfl (Nat.le_of_ble_eq_true rfl) ⟨by decide, by decide⟩ dX7_takeSign_17 rfl rfl ?_
    have hr := Option.some.inj hr
    subst hr
    exact j_vret C hq hret dX7_takeSign_20
  · have hr := ifF hc hr
    clear hc
    refine j_aload_n (q := 0) (pc' := 9) C dX7_takeSign_8 rfl rfl rfl ?_
    obtain ⟨zz5, hzz5, hr⟩ := ob hr
    obtain ⟨zq6, hzq6, hr⟩ := ob hr
    obtain ⟨fhzz5, hzz5⟩ := rcv_sp hzz5
    refine j_callV (ci := 5) (As := []) (rest := []) (st1 := []) (pc' := 12) C ⟨wm_639, wm_7⟩ rfl hzz5 (c_X7_goOn (nx := nx) hzq6) yw_X7_goOn wm_637 rfl rfl (Nat.le_of_ble_eq_true rfl) ⟨by decide, by decide⟩ dX7_takeSign_9 rfl rfl ?_
    refine j_goto (tgt := 20) C dX7_takeSign_12 rfl ?_
    have hr := Option.some.inj hr
    subst hr
    exact j_vret C hq hret dX7_takeSign_20
def m_X7_faultOf (p0 : Int32) : Option (Int32) :=
  if p0 = (2 : Int32) then
    some (3 : Int32)
  else
  if p0 = (3 : Int32) then
    some (5 : Int32)
  else
  if p0 = (4 : Int32) then
    some (2 : Int32)
  else
  some (1 : Int32)
set_option maxRecDepth 100000 in
set_option maxHeartbeats 4000000 in
theorem c_X7_faultOf {nx : Nat} {ce : Ce} {p0 : Int32} {q : Int32} (hr : m_X7_faultOf p0 = some q) : Ct yX7_faultOf cX7_faultOf 1 (some .int) 0 0 0 0 [.int p0] nx ce (some (.int q)) ce := by
  unfold m_X7_faultOf at hr
  refine ct_of (by decide) (Nat.le_of_ble_eq_true rfl) ?_
  intro G C hq hret hin
  show Jd G 0 0 nx ce 0 [(0, .int p0)] []
  refine j_iload_n (q := 0) (pc' := 1) C dX7_faultOf_0 rfl rfl rfl ?_
  by_cases hc0 : p0 = (2 : Int32)
  · have hr := ifT hc0 hr
    refine j_tabIn (v := 2) (off := 29) (tgt := 30) C dX7_faultOf_1 hc0 (by decide) rfl ?_
    refine j_iconst (v := 3) (pc' := 31) C dX7_faultOf_30 kI_3 rfl ?_
    have hr := Option.some.inj hr
    subst hr
    exact j_iret C hq hret dX7_faultOf_31
  have hr := ifF hc0 hr
  by_cases hc1 : p0 = (3 : Int32)
  · have hr := ifT hc1 hr
    refine j_tabIn (v := 3) (off := 31) (tgt := 32) C dX7_faultOf_1 hc1 (by decide) rfl ?_
    refine j_iconst (v := 5) (pc' := 33) C dX7_faultOf_32 kI_5 rfl ?_
    have hr := Option.some.inj hr
    subst hr
    exact j_iret C hq hret dX7_faultOf_33
  have hr := ifF hc1 hr
  by_cases hc2 : p0 = (4 : Int32)
  · have hr := ifT hc2 hr
    refine j_tabIn (v := 4) (off := 27) (tgt := 28) C dX7_faultOf_1 hc2 (by decide) rfl ?_
    refine j_iconst (v := 2) (pc' := 29) C dX7_faultOf_28 kI_2 rfl ?_
    have hr := Option.some.inj hr
    subst hr
    exact j_iret C hq hret dX7_faultOf_29
  have hr := ifF hc2 hr
  refine j_tabOut (tgt := 34) C dX7_faultOf_1 (tab_out 3 (by decide) (by decide) (by decide) (fun i hi => by
    match i, hi with
    | 0, _ => exact hc0
    | 1, _ => exact hc1
    | 2, _ => exact hc2
    | i + 3, hi => omega)) rfl ?_
  refine j_iconst (v := 1) (pc' := 35) C dX7_faultOf_34 kI_1 rfl ?_
  have hr := Option.some.inj hr
  subst hr
  exact j_iret C hq hret dX7_faultOf_35
def m_X7_readPlain (ce : Ce) (this : Nat) : Option (Int64 × Ce) :=
  (gA ce 5 0 this).bind fun zx1 =>
  (gI ce 5 4 this).bind fun zx2 =>
  (aI ce zx1 zx2).bind fun zx3 =>
  (gA ce 5 1 this).bind fun zx4 =>
  (gI ce 5 4 this).bind fun zx5 =>
  (aI ce zx4 zx5).bind fun zx6 =>
  (
    if zx3 = (2 : Int32) then
      (gI ce 5 7 this).bind fun zx19 =>
      if zx19 ≤ zx6 then
        some ((Sum.inr (), ce))
      else
        if (6 : Int32) ≤ zx6 then
          some ((Sum.inr (), ce))
        else
          (rcv ce 5 this).bind fun zz20 =>
          (m_X7_goOn ce this).bind fun zq21 =>
          (aLS zx6).bind fun zx22 =>
          some ((Sum.inl zx22, zq21.2))
    else
      some ((Sum.inr (), ce))
  ).bind fun (zj7 : (Int64 ⊕ Unit) × Ce) => Sum.elim (fun wzj7 => some (wzj7, zj7.2)) (fun vzj7 =>
    (
      if zx3 = (3 : Int32) then
        (gI zj7.2 5 14 this).bind fun zx15 =>
        if zx15 = (-1 : Int32) then
          some ((Sum.inr (), zj7.2))
        else
          (rcv zj7.2 5 this).bind fun zz16 =>
          (m_X7_goOn zj7.2 this).bind fun zq17 =>
          (gI zq17.2 5 14 this).bind fun zx18 =>
          some ((Sum.inl (-(Int32.toInt64 ((zx18 >>> (zx6 &&& 31)) &&& (1 : Int32)))), zq17.2))
      else
        some ((Sum.inr (), zj7.2))
    ).bind fun (zj8 : (Int64 ⊕ Unit) × Ce) => Sum.elim (fun wzj8 => some (wzj8, zj8.2)) (fun vzj8 =>
      (
        if zx3 = (4 : Int32) then
          if (1 : Int32) < zx6 then
            some ((Sum.inr (), zj8.2))
          else
            (rcv zj8.2 5 this).bind fun zz13 =>
            (m_X7_goOn zj8.2 this).bind fun zq14 =>
            some ((Sum.inl (-(Int32.toInt64 zx6)), zq14.2))
        else
          some ((Sum.inr (), zj8.2))
      ).bind fun (zj9 : (Int64 ⊕ Unit) × Ce) => Sum.elim (fun wzj9 => some (wzj9, zj9.2)) (fun vzj9 =>
        (m_X7_faultOf zx3).bind fun zx10 =>
        (rcv zj9.2 5 this).bind fun zz11 =>
        (m_X7_fail zj9.2 this zx10).bind fun zq12 =>
        some ((0 : Int64), zq12.2)
      ) zj9.1
    ) zj8.1
  ) zj7.1
set_option maxRecDepth 100000 in
set_option maxHeartbeats 4000000 in
theorem c_X7_readPlain {nx : Nat} {ce : Ce} {this : Nat} {q : Int64 × Ce} (hr : m_X7_readPlain ce this = some q) : Ct yX7_readPlain cX7_readPlain 3 (some .long) 1 21 0 0 [.ref this] nx ce (some (.long q.1)) q.2 := by
  unfold m_X7_readPlain at hr
  refine ct_of (by decide) (Nat.le_of_ble_eq_true rfl) ?_
  intro G C hq hret hin
  show Jd G 0 0 nx ce 0 [(0, .ref this)] []
  refine j_aload_n (q := 0) (pc' := 1) C dX7_readPlain_0 rfl rfl rfl ?_
  obtain ⟨zx1, hzx1, hr⟩ := ob hr
  refine j_getA (pc' := 4) C dX7_readPlain_1 fl_X7_9 hzx1 rfl ?_
  refine j_aload_n (q := 0) (pc' := 5) C dX7_readPlain_4 rfl rfl rfl ?_
  obtain ⟨zx2, hzx2, hr⟩ := ob hr
  refine j_getI (pc' := 8) C dX7_readPlain_5 fl_X7_32 hzx2 rfl ?_
  obtain ⟨zx3, hzx3, hr⟩ := ob hr
  refine j_iald (pc' := 9) C dX7_readPlain_8 hzx3 rfl ?_
  refine j_istore_n (lv' := [(1, .int zx3), (0, .ref this)]) (pc' := 10) C dX7_readPlain_9 rfl (by decide) rfl rfl ?_
  refine j_aload_n (q := 1) (pc' := 11) C dX7_readPlain_10 rfl rfl rfl ?_
  obtain ⟨zx4, hzx4, hr⟩ := ob hr
  refine j_getA (pc' := 14) C dX7_readPlain_11 fl_X7_15 hzx4 rfl ?_
  refine j_aload_n (q := 1) (pc' := 15) C dX7_readPlain_14 rfl rfl rfl ?_
  obtain ⟨zx5, hzx5, hr⟩ := ob hr
  refine j_getI (pc' := 18) C dX7_readPlain_15 fl_X7_32 hzx5 rfl ?_
  obtain ⟨zx6, hzx6, hr⟩ := ob hr
  refine j_iald (pc' := 19) C dX7_readPlain_18 hzx6 rfl ?_
  refine j_istore_n (lv' := [(2, .int zx6), (1, .int zx3), (0, .ref this)]) (pc' := 20) C dX7_readPlain_19 rfl (by decide) rfl rfl ?_
  refine j_iload_n (q := 1) (pc' := 21) C dX7_readPlain_20 rfl rfl rfl ?_
  refine j_iconst (v := 2) (pc' := 22) C dX7_readPlain_21 kI_2 rfl ?_
  obtain ⟨zj7, hzj7, rzj7⟩ := ob hr
  have kzj7 : ∀ vzj7, zj7.1 = Sum.inr vzj7 → Jd G 0 0 nx zj7.2 51 [(0, .ref this), (1, .int zx3), (2, .int zx6)] [] := by
    intro vzj7 ezj7
    rw [ezj7] at rzj7
    have hr := elR rzj7
    refine j_iload_n (q := 1) (pc' := 52) C dX7_readPlain_51 rfl rfl rfl ?_
    refine j_iconst (v := 3) (pc' := 53) C dX7_readPlain_52 kI_3 rfl ?_
    obtain ⟨zj8, hzj8, rzj8⟩ := ob hr
    have kzj8 : ∀ vzj8, zj8.1 = Sum.inr vzj8 → Jd G 0 0 nx zj8.2 79 [(0, .ref this), (1, .int zx3), (2, .int zx6)] [] := by
      intro vzj8 ezj8
      rw [ezj8] at rzj8
      have hr := elR rzj8
      refine j_iload_n (q := 1) (pc' := 80) C dX7_readPlain_79 rfl rfl rfl ?_
      refine j_iconst (v := 4) (pc' := 81) C dX7_readPlain_80 kI_4 rfl ?_
      obtain ⟨zj9, hzj9, rzj9⟩ := ob hr
      have kzj9 : ∀ vzj9, zj9.1 = Sum.inr vzj9 → Jd G 0 0 nx zj9.2 97 [(0, .ref this), (1, .int zx3)] [] := by
        intro vzj9 ezj9
        rw [ezj9] at rzj9
        have hr := elR rzj9
        refine j_aload_n (q := 0) (pc' := 98) C dX7_readPlain_97 rfl rfl rfl ?_
        refine j_iload_n (q := 1) (pc' := 99) C dX7_readPlain_98 rfl rfl rfl ?_
        obtain ⟨zx10, hzx10, hr⟩ := ob hr
        refine j_callS (As := [.int zx3]) (rest := [.ref this]) (st1 := [.int zx10, .ref this]) (pc' := 102) C wm_671 (c_X7_faultOf (nx := nx) (ce := zj9.2) hzx10) yw_X7_faultOf wm_670 rfl rfl (Nat.le_of_ble_eq_true rfl) ⟨by decide, by decide⟩ dX7_readPlain_99 rfl rfl ?_
        obtain ⟨zz11, hzz11, hr⟩ := ob hr
        obtain ⟨zq12, hzq12, hr⟩ := ob hr
        obtain ⟨fhzz11, hzz11⟩ := rcv_sp hzz11
        refine j_callV (ci := 5) (As := [.int zx10]) (rest := []) (st1 := []) (pc' := 105) C ⟨wm_643, wm_8⟩ rfl hzz11 (c_X7_fail (nx := nx) hzq12) yw_X7_fail wm_641 rfl rfl (Nat.le_of_ble_eq_true rfl) ⟨by decide, by decide⟩ dX7_readPlain_102 rfl rfl ?_
        refine j_lconst (v := 0) (pc' := 106) C dX7_readPlain_105 kL_0 rfl ?_
        have hr := Option.some.inj hr
        subst hr
        exact j_lret C hq hret dX7_readPlain_106
      have hr := hzj9
      clear hzj9
      refine j_ic_ne (tgt := 97) (pc' := 84) C dX7_readPlain_81 rfl rfl (fun hc => ?_) (fun hc => ?_)
      · have hr := ifF hc hr
        clear hc
        have hr := Option.some.inj hr
        subst hr
        exact j_lv [0, 1] rfl (kzj9 _ rfl)
      · have hr := ifT hc hr
        clear hc
        refine j_iload_n (q := 2) (pc' := 85) C dX7_readPlain_84 rfl rfl rfl ?_
        refine j_iconst (v := 1) (pc' := 86) C dX7_readPlain_85 kI_1 rfl ?_
        refine j_ic_gt (tgt := 97) (pc' := 89) C dX7_readPlain_86 rfl rfl (fun hc => ?_) (fun hc => ?_)
        · have hr := ifT hc hr
          clear hc
          have hr := Option.some.inj hr
          subst hr
          exact j_lv [0, 1] rfl (kzj9 _ rfl)
        · have hr := ifF hc hr
          clear hc
          refine j_aload_n (q := 0) (pc' := 90) C dX7_readPlain_89 rfl rfl rfl ?_
          obtain ⟨zz13, hzz13, hr⟩ := ob hr
          obtain ⟨zq14, hzq14, hr⟩ := ob hr
          obtain ⟨fhzz13, hzz13⟩ := rcv_sp hzz13
          refine j_callV (ci := 5) (As := []) (rest := []) (st1 := []) (pc' := 93) C ⟨wm_639, wm_7⟩ rfl hzz13 (c_X7_goOn (nx := nx) hzq14) yw_X7_goOn wm_637 rfl rfl (Nat.le_of_ble_eq_true rfl) ⟨by decide, by decide⟩ dX7_readPlain_90 rfl rfl ?_
          refine j_iload_n (q := 2) (pc' := 94) C dX7_readPlain_93 rfl rfl rfl ?_
          refine j_i2l (pc' := 95) C dX7_readPlain_94 rfl ?_
          refine j_lneg (pc' := 96) C dX7_readPlain_95 rfl ?_
          have hr := Option.some.inj hr
          subst hr
          have hr := elL rzj9
          have hr := Option.some.inj hr
          subst hr
          exact j_lret C hq hret dX7_readPlain_96
    have hr := hzj8
    clear hzj8
    refine j_ic_ne (tgt := 79) (pc' := 56) C dX7_readPlain_53 rfl rfl (fun hc => ?_) (fun hc => ?_)
    · have hr := ifF hc hr
      clear hc
      have hr := Option.some.inj hr
      subst hr
      exact j_lv [0, 1, 2] rfl (kzj8 _ rfl)
    · have hr := ifT hc hr
      clear hc
      refine j_aload_n (q := 0) (pc' := 57) C dX7_readPlain_56 rfl rfl rfl ?_
      obtain ⟨zx15, hzx15, hr⟩ := ob hr
      refine j_getI (pc' := 60) C dX7_readPlain_57 fl_X7_67 hzx15 rfl ?_
      refine j_iconst (v := -1) (pc' := 61) C dX7_readPlain_60 kI_m1 rfl ?_
      refine j_ic_eq (tgt := 79) (pc' := 64) C dX7_readPlain_61 rfl rfl (fun hc => ?_) (fun hc => ?_)
      · have hr := ifT hc hr
        clear hc
        have hr := Option.some.inj hr
        subst hr
        exact j_lv [0, 1, 2] rfl (kzj8 _ rfl)
      · have hr := ifF hc hr
        clear hc
        refine j_aload_n (q := 0) (pc' := 65) C dX7_readPlain_64 rfl rfl rfl ?_
        obtain ⟨zz16, hzz16, hr⟩ := ob hr
        obtain ⟨zq17, hzq17, hr⟩ := ob hr
        obtain ⟨fhzz16, hzz16⟩ := rcv_sp hzz16
        refine j_callV (ci := 5) (As := []) (rest := []) (st1 := []) (pc' := 68) C ⟨wm_639, wm_7⟩ rfl hzz16 (c_X7_goOn (nx := nx) hzq17) yw_X7_goOn wm_637 rfl rfl (Nat.le_of_ble_eq_true rfl) ⟨by decide, by decide⟩ dX7_readPlain_65 rfl rfl ?_
        refine j_aload_n (q := 0) (pc' := 69) C dX7_readPlain_68 rfl rfl rfl ?_
        obtain ⟨zx18, hzx18, hr⟩ := ob hr
        refine j_getI (pc' := 72) C dX7_readPlain_69 fl_X7_67 hzx18 rfl ?_
        refine j_iload_n (q := 2) (pc' := 73) C dX7_readPlain_72 rfl rfl rfl ?_
        refine j_ishr (pc' := 74) C dX7_readPlain_73 rfl ?_
        refine j_iconst (v := 1) (pc' := 75) C dX7_readPlain_74 kI_1 rfl ?_
        refine j_iand (pc' := 76) C dX7_readPlain_75 rfl ?_
        refine j_i2l (pc' := 77) C dX7_readPlain_76 rfl ?_
        refine j_lneg (pc' := 78) C dX7_readPlain_77 rfl ?_
        have hr := Option.some.inj hr
        subst hr
        have hr := elL rzj8
        have hr := Option.some.inj hr
        subst hr
        exact j_lret C hq hret dX7_readPlain_78
  have hr := hzj7
  clear hzj7
  refine j_ic_ne (tgt := 51) (pc' := 25) C dX7_readPlain_22 rfl rfl (fun hc => ?_) (fun hc => ?_)
  · have hr := ifF hc hr
    clear hc
    have hr := Option.some.inj hr
    subst hr
    exact j_lv [2, 1, 0] rfl (kzj7 _ rfl)
  · have hr := ifT hc hr
    clear hc
    refine j_iload_n (q := 0) (pc' := 26) C dX7_readPlain_25 rfl rfl rfl ?_
    refine j_aload_n (q := 2) (pc' := 27) C dX7_readPlain_26 rfl rfl rfl ?_
    obtain ⟨zx19, hzx19, hr⟩ := ob hr
    refine j_getI (pc' := 30) C dX7_readPlain_27 fl_X7_41 hzx19 rfl ?_
    refine j_ic_ge (tgt := 51) (pc' := 33) C dX7_readPlain_30 rfl rfl (fun hc => ?_) (fun hc => ?_)
    · have hr := ifT hc hr
      clear hc
      have hr := Option.some.inj hr
      subst hr
      exact j_lv [2, 1, 0] rfl (kzj7 _ rfl)
    · have hr := ifF hc hr
      clear hc
      refine j_iload_n (q := 0) (pc' := 34) C dX7_readPlain_33 rfl rfl rfl ?_
      refine j_lsR (pc' := 37) C dX7_readPlain_34 rfl rfl ?_
      refine j_lslen (pc' := 38) C dX7_readPlain_37 rfl ?_
      refine j_ic_ge (tgt := 51) (pc' := 41) C dX7_readPlain_38 rfl rfl (fun hc => ?_) (fun hc => ?_)
      · have hr := ifT hc hr
        clear hc
        have hr := Option.some.inj hr
        subst hr
        exact j_lv [2, 1, 0] rfl (kzj7 _ rfl)
      · have hr := ifF hc hr
        clear hc
        refine j_aload_n (q := 2) (pc' := 42) C dX7_readPlain_41 rfl rfl rfl ?_
        obtain ⟨zz20, hzz20, hr⟩ := ob hr
        obtain ⟨zq21, hzq21, hr⟩ := ob hr
        obtain ⟨fhzz20, hzz20⟩ := rcv_sp hzz20
        refine j_callV (ci := 5) (As := []) (rest := []) (st1 := []) (pc' := 45) C ⟨wm_639, wm_7⟩ rfl hzz20 (c_X7_goOn (nx := nx) hzq21) yw_X7_goOn wm_637 rfl rfl (Nat.le_of_ble_eq_true rfl) ⟨by decide, by decide⟩ dX7_readPlain_42 rfl rfl ?_
        refine j_lsR (pc' := 48) C dX7_readPlain_45 rfl rfl ?_
        refine j_iload_n (q := 0) (pc' := 49) C dX7_readPlain_48 rfl rfl rfl ?_
        obtain ⟨zx22, hzx22, hr⟩ := ob hr
        refine j_lsld (pc' := 50) C dX7_readPlain_49 hzx22 rfl ?_
        have hr := Option.some.inj hr
        subst hr
        have hr := elL rzj7
        have hr := Option.some.inj hr
        subst hr
        exact j_lret C hq hret dX7_readPlain_50
def m_X7_readOne_B (fF : Ce → Nat → Int32 → Int32 → Option (Int64 × Ce)) (fO : Ce → Nat → Int32 → Option (Int64 × Ce)) (ce : Ce) (this : Nat) (p1 : Int32) : Option (Int64 × Ce) :=
  (rcv ce 5 this).bind fun zz1 =>
  (m_X7_isSign ce this (33 : Int32)).bind fun zx2 =>
  (
    if zx2 = 0 then
      (rcv ce 5 this).bind fun zz14 =>
      (m_X7_isSign ce this (40 : Int32)).bind fun zx15 =>
      if zx15 = 0 then
        (rcv ce 5 this).bind fun zz16 =>
        (m_X7_readPlain ce this).bind fun zq17 =>
        some ((Sum.inl zq17.1, zq17.2))
      else
        some ((Sum.inr (), ce))
    else
      some ((Sum.inr (), ce))
  ).bind fun (zj3 : (Int64 ⊕ Unit) × Ce) => Sum.elim (fun wzj3 => some (wzj3, zj3.2)) (fun vzj3 =>
    if p1 < (10 : Int32) then
      (rcv zj3.2 5 this).bind fun zz4 =>
      (m_X7_goOn zj3.2 this).bind fun zq5 =>
      if zx2 = 0 then
        (rcv zq5.2 5 this).bind fun zz6 =>
        (fF zq5.2 this (0 : Int32) (p1 + (1 : Int32))).bind fun zq7 =>
        (rcv zq7.2 5 this).bind fun zz8 =>
        (m_X7_takeSign zq7.2 this (41 : Int32)).bind fun zq9 =>
        some (zq7.1, zq9.2)
      else
        (rcv zq5.2 5 this).bind fun zz10 =>
        (fO zq5.2 this (p1 + (1 : Int32))).bind fun zq11 =>
        some ((zq11.1 ^^^ (-1 : Int64)), zq11.2)
    else
      (rcv zj3.2 5 this).bind fun zz12 =>
      (m_X7_fail zj3.2 this (6 : Int32)).bind fun zq13 =>
      some ((0 : Int64), zq13.2)
  ) zj3.1
set_option maxRecDepth 100000 in
set_option maxHeartbeats 4000000 in
theorem c_X7_readOne_B {N : Nat} {fF : Ce → Nat → Int32 → Int32 → Option (Int64 × Ce)} {fO : Ce → Nat → Int32 → Option (Int64 × Ce)} (HfF : ∀ {nx : Nat} {ce : Ce} {this : Nat} {p1 p2 : Int32} {q : Int64 × Ce}, fF ce this p1 p2 = some q → Ct yX7_readForm cX7_readForm 8 (some .long) (5 + N) (200 + 40 * N) 0 0 [.ref this, .int p1, .int p2] nx ce (some (.long q.1)) q.2) (HfO : ∀ {nx : Nat} {ce : Ce} {this : Nat} {p1 : Int32} {q : Int64 × Ce}, fO ce this p1 = some q → Ct yX7_readOne cX7_readOne 5 (some .long) (5 + N) (200 + 40 * N) 0 0 [.ref this, .int p1] nx ce (some (.long q.1)) q.2) {nx : Nat} {ce : Ce} {this : Nat} {p1 : Int32} {q : Int64 × Ce} (hr : m_X7_readOne_B fF fO ce this p1 = some q) : Ct yX7_readOne cX7_readOne 5 (some .long) (5 + (N + 1)) (200 + 40 * (N + 1)) 0 0 [.ref this, .int p1] nx ce (some (.long q.1)) q.2 := by
  unfold m_X7_readOne_B at hr
  refine ct_of (by decide) (Nat.le_of_ble_eq_true rfl) ?_
  intro G C hq hret hin
  show Jd G 0 0 nx ce 0 [(0, .ref this), (1, .int p1)] []
  refine j_aload_n (q := 0) (pc' := 1) C dX7_readOne_0 rfl rfl rfl ?_
  refine j_bipush (v := 33) (pc' := 3) C dX7_readOne_1 kB_33 rfl ?_
  obtain ⟨zz1, hzz1, hr⟩ := ob hr
  obtain ⟨zx2, hzx2, hr⟩ := ob hr
  obtain ⟨fhzz1, hzz1⟩ := rcv_sp hzz1
  refine j_callV (ci := 5) (As := [.int (33 : Int32)]) (rest := []) (st1 := [.int zx2]) (pc' := 6) C ⟨wm_651, wm_10⟩ rfl hzz1 (c_X7_isSign (nx := nx) hzx2) yw_X7_isSign wm_649 rfl rfl (Nat.le_of_ble_eq_true rfl) ⟨by omega, by omega⟩ dX7_readOne_3 rfl rfl ?_
  refine j_istore_n (lv' := [(2, .int zx2), (0, .ref this), (1, .int p1)]) (pc' := 7) C dX7_readOne_6 rfl (by decide) rfl rfl ?_
  refine j_iload_n (q := 0) (pc' := 8) C dX7_readOne_7 rfl rfl rfl ?_
  obtain ⟨zj3, hzj3, rzj3⟩ := ob hr
  have kzj3 : ∀ vzj3, zj3.1 = Sum.inr vzj3 → Jd G 0 0 nx zj3.2 25 [(0, .ref this), (1, .int p1), (2, .int zx2)] [] := by
    intro vzj3 ezj3
    rw [ezj3] at rzj3
    have hr := elR rzj3
    refine j_iload_n (q := 1) (pc' := 26) C dX7_readOne_25 rfl rfl rfl ?_
    refine j_bipush (v := 10) (pc' := 28) C dX7_readOne_26 kB_10 rfl ?_
    refine j_ic_lt (tgt := 39) (pc' := 31) C dX7_readOne_28 rfl rfl (fun hc => ?_) (fun hc => ?_)
    · have hr := ifT hc hr
      clear hc
      refine j_aload_n (q := 0) (pc' := 40) C dX7_readOne_39 rfl rfl rfl ?_
      obtain ⟨zz4, hzz4, hr⟩ := ob hr
      obtain ⟨zq5, hzq5, hr⟩ := ob hr
      obtain ⟨fhzz4, hzz4⟩ := rcv_sp hzz4
      refine j_callV (ci := 5) (As := []) (rest := []) (st1 := []) (pc' := 43) C ⟨wm_639, wm_7⟩ rfl hzz4 (c_X7_goOn (nx := nx) hzq5) yw_X7_goOn wm_637 rfl rfl (Nat.le_of_ble_eq_true rfl) ⟨by omega, by omega⟩ dX7_readOne_40 rfl rfl ?_
      refine j_iload_n (q := 2) (pc' := 44) C dX7_readOne_43 rfl rfl rfl ?_
      refine j_if_eq (tgt := 59) (pc' := 47) C dX7_readOne_44 rfl rfl (fun hc => ?_) (fun hc => ?_)
      · have hr := ifT hc hr
        clear hc
        refine j_aload_n (q := 0) (pc' := 60) C dX7_readOne_59 rfl rfl rfl ?_
        refine j_iconst (v := 0) (pc' := 61) C dX7_readOne_60 kI_0 rfl ?_
        refine j_iload_n (q := 1) (pc' := 62) C dX7_readOne_61 rfl rfl rfl ?_
        refine j_iconst (v := 1) (pc' := 63) C dX7_readOne_62 kI_1 rfl ?_
        refine j_iadd (pc' := 64) C dX7_readOne_63 rfl ?_
        obtain ⟨zz6, hzz6, hr⟩ := ob hr
        obtain ⟨zq7, hzq7, hr⟩ := ob hr
        obtain ⟨fhzz6, hzz6⟩ := rcv_sp hzz6
        refine j_callV (ci := 5) (As := [.int (0 : Int32), .int (p1 + (1 : Int32))]) (rest := []) (st1 := [.long zq7.1]) (pc' := 67) C ⟨wm_659, wm_12⟩ rfl hzz6 (HfF (nx := nx) hzq7) yw_X7_readForm wm_657 rfl rfl (Nat.le_of_ble_eq_true rfl) ⟨by omega, by omega⟩ dX7_readOne_64 rfl rfl ?_
        refine j_lstore_n (lv' := [(3, .long zq7.1), (0, .ref this), (1, .int p1), (2, .int zx2)]) (pc' := 68) C dX7_readOne_67 rfl (by decide) rfl rfl ?_
        refine j_aload_n (q := 1) (pc' := 69) C dX7_readOne_68 rfl rfl rfl ?_
        refine j_bipush (v := 41) (pc' := 71) C dX7_readOne_69 kB_41 rfl ?_
        obtain ⟨zz8, hzz8, hr⟩ := ob hr
        obtain ⟨zq9, hzq9, hr⟩ := ob hr
        obtain ⟨fhzz8, hzz8⟩ := rcv_sp hzz8
        refine j_callV (ci := 5) (As := [.int (41 : Int32)]) (rest := []) (st1 := []) (pc' := 74) C ⟨wm_647, wm_9⟩ rfl hzz8 (c_X7_takeSign (nx := nx) hzq9) yw_X7_takeSign wm_645 rfl rfl (Nat.le_of_ble_eq_true rfl) ⟨by omega, by omega⟩ dX7_readOne_71 rfl rfl ?_
        refine j_lload_n (q := 0) (pc' := 75) C dX7_readOne_74 rfl rfl rfl ?_
        have hr := Option.some.inj hr
        subst hr
        exact j_lret C hq hret dX7_readOne_75
      · have hr := ifF hc hr
        clear hc
        refine j_aload_n (q := 0) (pc' := 48) C dX7_readOne_47 rfl rfl rfl ?_
        refine j_iload_n (q := 1) (pc' := 49) C dX7_readOne_48 rfl rfl rfl ?_
        refine j_iconst (v := 1) (pc' := 50) C dX7_readOne_49 kI_1 rfl ?_
        refine j_iadd (pc' := 51) C dX7_readOne_50 rfl ?_
        obtain ⟨zz10, hzz10, hr⟩ := ob hr
        obtain ⟨zq11, hzq11, hr⟩ := ob hr
        obtain ⟨fhzz10, hzz10⟩ := rcv_sp hzz10
        refine j_callV (ci := 5) (As := [.int (p1 + (1 : Int32))]) (rest := []) (st1 := [.long zq11.1]) (pc' := 54) C ⟨wm_664, wm_13⟩ rfl hzz10 (HfO (nx := nx) hzq11) yw_X7_readOne wm_662 rfl rfl (Nat.le_of_ble_eq_true rfl) ⟨by omega, by omega⟩ dX7_readOne_51 rfl rfl ?_
        refine j_ldc2 (pc' := 57) C dX7_readOne_54 wm_673 rfl ?_
        refine j_lxor (pc' := 58) C dX7_readOne_57 rfl ?_
        have hr := Option.some.inj hr
        subst hr
        exact j_lret C hq hret dX7_readOne_58
    · have hr := ifF hc hr
      clear hc
      refine j_aload_n (q := 0) (pc' := 32) C dX7_readOne_31 rfl rfl rfl ?_
      refine j_bipush (v := 6) (pc' := 34) C dX7_readOne_32 kB_6 rfl ?_
      obtain ⟨zz12, hzz12, hr⟩ := ob hr
      obtain ⟨zq13, hzq13, hr⟩ := ob hr
      obtain ⟨fhzz12, hzz12⟩ := rcv_sp hzz12
      refine j_callV (ci := 5) (As := [.int (6 : Int32)]) (rest := []) (st1 := []) (pc' := 37) C ⟨wm_643, wm_8⟩ rfl hzz12 (c_X7_fail (nx := nx) hzq13) yw_X7_fail wm_641 rfl rfl (Nat.le_of_ble_eq_true rfl) ⟨by omega, by omega⟩ dX7_readOne_34 rfl rfl ?_
      refine j_lconst (v := 0) (pc' := 38) C dX7_readOne_37 kL_0 rfl ?_
      have hr := Option.some.inj hr
      subst hr
      exact j_lret C hq hret dX7_readOne_38
  have hr := hzj3
  clear hzj3
  refine j_if_ne (tgt := 25) (pc' := 11) C dX7_readOne_8 rfl rfl (fun hc => ?_) (fun hc => ?_)
  · have hr := ifF hc hr
    clear hc
    have hr := Option.some.inj hr
    subst hr
    exact j_lv [1, 2, 0] rfl (kzj3 _ rfl)
  · have hr := ifT hc hr
    clear hc
    refine j_aload_n (q := 1) (pc' := 12) C dX7_readOne_11 rfl rfl rfl ?_
    refine j_bipush (v := 40) (pc' := 14) C dX7_readOne_12 kB_40 rfl ?_
    obtain ⟨zz14, hzz14, hr⟩ := ob hr
    obtain ⟨zx15, hzx15, hr⟩ := ob hr
    obtain ⟨fhzz14, hzz14⟩ := rcv_sp hzz14
    refine j_callV (ci := 5) (As := [.int (40 : Int32)]) (rest := []) (st1 := [.int zx15]) (pc' := 17) C ⟨wm_651, wm_10⟩ rfl hzz14 (c_X7_isSign (nx := nx) hzx15) yw_X7_isSign wm_649 rfl rfl (Nat.le_of_ble_eq_true rfl) ⟨by omega, by omega⟩ dX7_readOne_14 rfl rfl ?_
    refine j_if_ne (tgt := 25) (pc' := 20) C dX7_readOne_17 rfl rfl (fun hc => ?_) (fun hc => ?_)
    · have hr := ifF hc hr
      clear hc
      have hr := Option.some.inj hr
      subst hr
      exact j_lv [1, 2, 0] rfl (kzj3 _ rfl)
    · have hr := ifT hc hr
      clear hc
      refine j_aload_n (q := 1) (pc' := 21) C dX7_readOne_20 rfl rfl rfl ?_
      obtain ⟨zz16, hzz16, hr⟩ := ob hr
      obtain ⟨zq17, hzq17, hr⟩ := ob hr
      obtain ⟨fhzz16, hzz16⟩ := rcv_sp hzz16
      refine j_callV (ci := 5) (As := []) (rest := []) (st1 := [.long zq17.1]) (pc' := 24) C ⟨wm_668, wm_14⟩ rfl hzz16 (c_X7_readPlain (nx := nx) hzq17) yw_X7_readPlain wm_666 rfl rfl (Nat.le_of_ble_eq_true rfl) ⟨by omega, by omega⟩ dX7_readOne_21 rfl rfl ?_
      have hr := Option.some.inj hr
      subst hr
      have hr := elL rzj3
      have hr := Option.some.inj hr
      subst hr
      exact j_lret C hq hret dX7_readOne_24
def m_X7_readForm_B (fF : Ce → Nat → Int32 → Int32 → Option (Int64 × Ce)) (fO : Ce → Nat → Int32 → Option (Int64 × Ce)) (ce : Ce) (this : Nat) (p1 : Int32) (p2 : Int32) : Option (Int64 × Ce) :=
  (kst 4).bind fun zz1 =>
  (m_J0_length_8abf5 ce 4).bind fun zx2 =>
  if p1 < zx2 then
    (rcv ce 5 this).bind fun zz3 =>
    (fF ce this (p1 + (1 : Int32)) p2).bind fun zq4 =>
    (it (fun (zs5 : (Int64 × Int32) × Ce) =>
      if (300 : Int32) ≤ zs5.1.2 then
        some (Sum.inr (zs5.1.1, zs5.2))
      else
        (kst 4).bind fun zz8 =>
        (m_J0_charAt_5068e zs5.2 4 p1).bind fun zx9 =>
        (rcv zs5.2 5 this).bind fun zz10 =>
        (m_X7_isSign zs5.2 this zx9).bind fun zx11 =>
        if zx11 = 0 then
          some (Sum.inr (zs5.1.1, zs5.2))
        else
          (rcv zs5.2 5 this).bind fun zz12 =>
          (m_X7_goOn zs5.2 this).bind fun zq13 =>
          (rcv zq13.2 5 this).bind fun zz14 =>
          (fF zq13.2 this (p1 + (1 : Int32)) p2).bind fun zq15 =>
          if p1 = (0 : Int32) then
            some (Sum.inl (((zs5.1.1 ||| zq15.1), (zs5.1.2 + (1 : Int32))), zq15.2))
          else
          if p1 = (1 : Int32) then
            some (Sum.inl (((zs5.1.1 ^^^ zq15.1), (zs5.1.2 + (1 : Int32))), zq15.2))
          else
          some (Sum.inl (((zs5.1.1 &&& zq15.1), (zs5.1.2 + (1 : Int32))), zq15.2))
    ) FU ((zq4.1, (0 : Int32)), zq4.2)).bind fun (zo6 : Int64 × Ce) =>
    some (zo6.1, zo6.2)
  else
    (rcv ce 5 this).bind fun zz16 =>
    (fO ce this p2).bind fun zq17 =>
    some (zq17.1, zq17.2)
set_option maxRecDepth 100000 in
set_option maxHeartbeats 4000000 in
theorem c_X7_readForm_B {N : Nat} {fF : Ce → Nat → Int32 → Int32 → Option (Int64 × Ce)} {fO : Ce → Nat → Int32 → Option (Int64 × Ce)} (HfF : ∀ {nx : Nat} {ce : Ce} {this : Nat} {p1 p2 : Int32} {q : Int64 × Ce}, fF ce this p1 p2 = some q → Ct yX7_readForm cX7_readForm 8 (some .long) (5 + N) (200 + 40 * N) 0 0 [.ref this, .int p1, .int p2] nx ce (some (.long q.1)) q.2) (HfO : ∀ {nx : Nat} {ce : Ce} {this : Nat} {p1 : Int32} {q : Int64 × Ce}, fO ce this p1 = some q → Ct yX7_readOne cX7_readOne 5 (some .long) (5 + N) (200 + 40 * N) 0 0 [.ref this, .int p1] nx ce (some (.long q.1)) q.2) {nx : Nat} {ce : Ce} {this : Nat} {p1 : Int32} {p2 : Int32} {q : Int64 × Ce} (hr : m_X7_readForm_B fF fO ce this p1 p2 = some q) : Ct yX7_readForm cX7_readForm 8 (some .long) (5 + (N + 1)) (200 + 40 * (N + 1)) 0 0 [.ref this, .int p1, .int p2] nx ce (some (.long q.1)) q.2 := by
  unfold m_X7_readForm_B at hr
  refine ct_of (by decide) (Nat.le_of_ble_eq_true rfl) ?_
  intro G C hq hret hin
  show Jd G 0 0 nx ce 0 [(0, .ref this), (1, .int p1), (2, .int p2)] []
  refine j_iload_n (q := 1) (pc' := 1) C dX7_readForm_0 rfl rfl rfl ?_
  refine j_ldcS (k0 := 4) (pc' := 3) C dX7_readForm_1 rfl (by decide) rfl ?_
  obtain ⟨zz1, hzz1, hr⟩ := ob hr
  obtain ⟨zx2, hzx2, hr⟩ := ob hr
  refine j_callVG (k0 := 4) (As := []) (rest := [.int p1]) (st1 := [.int zx2, .int p1]) (pc' := 6) C ⟨wm_514, wm_515⟩ rfl hzz1 rfl (c_J0_length_8abf5 (nx := nx) hzx2) yw_J0_length_8abf5 wm_513 rfl rfl (Nat.le_of_ble_eq_true rfl) ⟨by omega, by omega⟩ dX7_readForm_3 rfl rfl ?_
  refine j_ic_lt (tgt := 15) (pc' := 9) C dX7_readForm_6 rfl rfl (fun hc => ?_) (fun hc => ?_)
  · have hr := ifT hc hr
    clear hc
    refine j_aload_n (q := 0) (pc' := 16) C dX7_readForm_15 rfl rfl rfl ?_
    refine j_iload_n (q := 1) (pc' := 17) C dX7_readForm_16 rfl rfl rfl ?_
    refine j_iconst (v := 1) (pc' := 18) C dX7_readForm_17 kI_1 rfl ?_
    refine j_iadd (pc' := 19) C dX7_readForm_18 rfl ?_
    refine j_iload_n (q := 2) (pc' := 20) C dX7_readForm_19 rfl rfl rfl ?_
    obtain ⟨zz3, hzz3, hr⟩ := ob hr
    obtain ⟨zq4, hzq4, hr⟩ := ob hr
    obtain ⟨fhzz3, hzz3⟩ := rcv_sp hzz3
    refine j_callV (ci := 5) (As := [.int (p1 + (1 : Int32)), .int p2]) (rest := []) (st1 := [.long zq4.1]) (pc' := 23) C ⟨wm_659, wm_12⟩ rfl hzz3 (HfF (nx := nx) hzq4) yw_X7_readForm wm_657 rfl rfl (Nat.le_of_ble_eq_true rfl) ⟨by omega, by omega⟩ dX7_readForm_20 rfl rfl ?_
    refine j_lstore_n (lv' := [(3, .long zq4.1), (0, .ref this), (1, .int p1), (2, .int p2)]) (pc' := 24) C dX7_readForm_23 rfl (by decide) rfl rfl ?_
    refine j_iconst (v := 0) (pc' := 25) C dX7_readForm_24 kI_0 rfl ?_
    refine j_istore (lv' := [(5, .int (0 : Int32)), (3, .long zq4.1), (0, .ref this), (1, .int p1), (2, .int p2)]) (pc' := 27) C dX7_readForm_25 (by decide) rfl rfl ?_
    obtain ⟨zo6, hzo6, rzo6⟩ := ob hr
    have kzo6 : Jd G 0 0 nx zo6.2 115 [(3, .long zo6.1)] [] := by
      have hr := rzo6
      refine j_lload_n (q := 0) (pc' := 116) C dX7_readForm_115 rfl rfl rfl ?_
      have hr := Option.some.inj hr
      subst hr
      exact j_lret C hq hret dX7_readForm_116
    refine j_lv (lv' := [(0, .ref this), (1, .int p1), (2, .int p2), (3, .long zq4.1), (5, .int (0 : Int32))]) [2, 3, 4, 1, 0] rfl ?_
    refine it_J (J := (fun (zs5 : (Int64 × Int32) × Ce) => Jd G 0 0 nx zs5.2 27 [(0, .ref this), (1, .int p1), (2, .int p2), (3, .long zs5.1.1), (5, .int zs5.1.2)] [])) ?_ hzo6
    clear hzo6
    intro zs5 zr7 hr izs5 ezs5
    refine j_iload (q := 4) (pc' := 29) C dX7_readForm_27 rfl rfl ?_
    refine j_sipush (v := 300) (pc' := 32) C dX7_readForm_29 kS_300 rfl ?_
    refine j_ic_ge (tgt := 115) (pc' := 35) C dX7_readForm_32 rfl rfl (fun hc => ?_) (fun hc => ?_)
    · have hr := ifT hc hr
      clear hc
      have hr := ezs5 _ (Option.some.inj hr).symm
      subst hr
      exact j_lv [3] rfl kzo6
    · have hr := ifF hc hr
      clear hc
      refine j_aload_n (q := 0) (pc' := 36) C dX7_readForm_35 rfl rfl rfl ?_
      refine j_ldcS (k0 := 4) (pc' := 38) C dX7_readForm_36 rfl (by decide) rfl ?_
      refine j_iload_n (q := 1) (pc' := 39) C dX7_readForm_38 rfl rfl rfl ?_
      obtain ⟨zz8, hzz8, hr⟩ := ob hr
      obtain ⟨zx9, hzx9, hr⟩ := ob hr
      refine j_callVG (k0 := 4) (As := [.int p1]) (rest := [.ref this]) (st1 := [.int zx9, .ref this]) (pc' := 42) C ⟨wm_524, wm_525⟩ rfl hzz8 rfl (c_J0_charAt_5068e (nx := nx) hzx9) yw_J0_charAt_5068e wm_523 rfl rfl (Nat.le_of_ble_eq_true rfl) ⟨by omega, by omega⟩ dX7_readForm_39 rfl rfl ?_
      obtain ⟨zz10, hzz10, hr⟩ := ob hr
      obtain ⟨zx11, hzx11, hr⟩ := ob hr
      obtain ⟨fhzz10, hzz10⟩ := rcv_sp hzz10
      refine j_callV (ci := 5) (As := [.int zx9]) (rest := []) (st1 := [.int zx11]) (pc' := 45) C ⟨wm_651, wm_10⟩ rfl hzz10 (c_X7_isSign (nx := nx) hzx11) yw_X7_isSign wm_649 rfl rfl (Nat.le_of_ble_eq_true rfl) ⟨by omega, by omega⟩ dX7_readForm_42 rfl rfl ?_
      refine j_if_eq (tgt := 115) (pc' := 48) C dX7_readForm_45 rfl rfl (fun hc => ?_) (fun hc => ?_)
      · have hr := ifT hc hr
        clear hc
        have hr := ezs5 _ (Option.some.inj hr).symm
        subst hr
        exact j_lv [3] rfl kzo6
      · have hr := ifF hc hr
        clear hc
        refine j_aload_n (q := 0) (pc' := 49) C dX7_readForm_48 rfl rfl rfl ?_
        obtain ⟨zz12, hzz12, hr⟩ := ob hr
        obtain ⟨zq13, hzq13, hr⟩ := ob hr
        obtain ⟨fhzz12, hzz12⟩ := rcv_sp hzz12
        refine j_callV (ci := 5) (As := []) (rest := []) (st1 := []) (pc' := 52) C ⟨wm_639, wm_7⟩ rfl hzz12 (c_X7_goOn (nx := nx) hzq13) yw_X7_goOn wm_637 rfl rfl (Nat.le_of_ble_eq_true rfl) ⟨by omega, by omega⟩ dX7_readForm_49 rfl rfl ?_
        refine j_aload_n (q := 0) (pc' := 53) C dX7_readForm_52 rfl rfl rfl ?_
        refine j_iload_n (q := 1) (pc' := 54) C dX7_readForm_53 rfl rfl rfl ?_
        refine j_iconst (v := 1) (pc' := 55) C dX7_readForm_54 kI_1 rfl ?_
        refine j_iadd (pc' := 56) C dX7_readForm_55 rfl ?_
        refine j_iload_n (q := 2) (pc' := 57) C dX7_readForm_56 rfl rfl rfl ?_
        obtain ⟨zz14, hzz14, hr⟩ := ob hr
        obtain ⟨zq15, hzq15, hr⟩ := ob hr
        obtain ⟨fhzz14, hzz14⟩ := rcv_sp hzz14
        refine j_callV (ci := 5) (As := [.int (p1 + (1 : Int32)), .int p2]) (rest := []) (st1 := [.long zq15.1]) (pc' := 60) C ⟨wm_659, wm_12⟩ rfl hzz14 (HfF (nx := nx) hzq15) yw_X7_readForm wm_657 rfl rfl (Nat.le_of_ble_eq_true rfl) ⟨by omega, by omega⟩ dX7_readForm_57 rfl rfl ?_
        refine j_lstore (lv' := [(6, .long zq15.1), (0, .ref this), (1, .int p1), (2, .int p2), (3, .long zs5.1.1), (5, .int zs5.1.2)]) (pc' := 62) C dX7_readForm_60 (by decide) rfl rfl ?_
        refine j_iload_n (q := 2) (pc' := 63) C dX7_readForm_62 rfl rfl rfl ?_
        by_cases hc0 : p1 = (0 : Int32)
        · have hr := ifT hc0 hr
          refine j_lkp (tgt := 88) (off := 25) C dX7_readForm_63 (by decide) (by rw [hc0]; decide) rfl ?_
          refine j_lload_n (q := 4) (pc' := 89) C dX7_readForm_88 rfl rfl rfl ?_
          refine j_lload (q := 0) (pc' := 91) C dX7_readForm_89 rfl rfl ?_
          refine j_lor (pc' := 92) C dX7_readForm_91 rfl ?_
          refine j_lstore_n (lv' := [(3, .long (zs5.1.1 ||| zq15.1)), (6, .long zq15.1), (0, .ref this), (1, .int p1), (2, .int p2), (5, .int zs5.1.2)]) (pc' := 93) C dX7_readForm_92 rfl (by decide) rfl rfl ?_
          refine j_goto (tgt := 109) C dX7_readForm_93 rfl ?_
          refine j_iinc (q := 5) (v := 1) (lv' := [(5, .int (zs5.1.2 + (1 : Int32))), (3, .long (zs5.1.1 ||| zq15.1)), (6, .long zq15.1), (0, .ref this), (1, .int p1), (2, .int p2)]) (pc' := 112) C dX7_readForm_109 rfl kI_1 (by decide) rfl rfl ?_
          refine j_goto (tgt := 27) C dX7_readForm_112 rfl ?_
          have hr := izs5 (((zs5.1.1 ||| zq15.1), (zs5.1.2 + (1 : Int32))), zq15.2) (Option.some.inj hr).symm
          exact j_lv [3, 4, 5, 1, 0] rfl hr
        have hr := ifF hc0 hr
        by_cases hc1 : p1 = (1 : Int32)
        · have hr := ifT hc1 hr
          refine j_lkp (tgt := 96) (off := 33) C dX7_readForm_63 (by decide) (by rw [lv_osw hc0 (by decide)]; rw [hc1]; decide) rfl ?_
          refine j_lload_n (q := 4) (pc' := 97) C dX7_readForm_96 rfl rfl rfl ?_
          refine j_lload (q := 0) (pc' := 99) C dX7_readForm_97 rfl rfl ?_
          refine j_lxor (pc' := 100) C dX7_readForm_99 rfl ?_
          refine j_lstore_n (lv' := [(3, .long (zs5.1.1 ^^^ zq15.1)), (6, .long zq15.1), (0, .ref this), (1, .int p1), (2, .int p2), (5, .int zs5.1.2)]) (pc' := 101) C dX7_readForm_100 rfl (by decide) rfl rfl ?_
          refine j_goto (tgt := 109) C dX7_readForm_101 rfl ?_
          refine j_iinc (q := 5) (v := 1) (lv' := [(5, .int (zs5.1.2 + (1 : Int32))), (3, .long (zs5.1.1 ^^^ zq15.1)), (6, .long zq15.1), (0, .ref this), (1, .int p1), (2, .int p2)]) (pc' := 112) C dX7_readForm_109 rfl kI_1 (by decide) rfl rfl ?_
          refine j_goto (tgt := 27) C dX7_readForm_112 rfl ?_
          have hr := izs5 (((zs5.1.1 ^^^ zq15.1), (zs5.1.2 + (1 : Int32))), zq15.2) (Option.some.inj hr).symm
          exact j_lv [3, 4, 5, 1, 0] rfl hr
        have hr := ifF hc1 hr
        refine j_lkp (tgt := 104) (off := 41) C dX7_readForm_63 (by decide) (by rw [lv_osw hc0 (by decide)]; rw [lv_osw hc1 (by decide)]; rfl) rfl ?_
        refine j_lload_n (q := 4) (pc' := 105) C dX7_readForm_104 rfl rfl rfl ?_
        refine j_lload (q := 0) (pc' := 107) C dX7_readForm_105 rfl rfl ?_
        refine j_land (pc' := 108) C dX7_readForm_107 rfl ?_
        refine j_lstore_n (lv' := [(3, .long (zs5.1.1 &&& zq15.1)), (6, .long zq15.1), (0, .ref this), (1, .int p1), (2, .int p2), (5, .int zs5.1.2)]) (pc' := 109) C dX7_readForm_108 rfl (by decide) rfl rfl ?_
        refine j_iinc (q := 5) (v := 1) (lv' := [(5, .int (zs5.1.2 + (1 : Int32))), (3, .long (zs5.1.1 &&& zq15.1)), (6, .long zq15.1), (0, .ref this), (1, .int p1), (2, .int p2)]) (pc' := 112) C dX7_readForm_109 rfl kI_1 (by decide) rfl rfl ?_
        refine j_goto (tgt := 27) C dX7_readForm_112 rfl ?_
        have hr := izs5 (((zs5.1.1 &&& zq15.1), (zs5.1.2 + (1 : Int32))), zq15.2) (Option.some.inj hr).symm
        exact j_lv [3, 4, 5, 1, 0] rfl hr
  · have hr := ifF hc hr
    clear hc
    refine j_aload_n (q := 0) (pc' := 10) C dX7_readForm_9 rfl rfl rfl ?_
    refine j_iload_n (q := 2) (pc' := 11) C dX7_readForm_10 rfl rfl rfl ?_
    obtain ⟨zz16, hzz16, hr⟩ := ob hr
    obtain ⟨zq17, hzq17, hr⟩ := ob hr
    obtain ⟨fhzz16, hzz16⟩ := rcv_sp hzz16
    refine j_callV (ci := 5) (As := [.int p2]) (rest := []) (st1 := [.long zq17.1]) (pc' := 14) C ⟨wm_664, wm_13⟩ rfl hzz16 (HfO (nx := nx) hzq17) yw_X7_readOne wm_662 rfl rfl (Nat.le_of_ble_eq_true rfl) ⟨by omega, by omega⟩ dX7_readForm_11 rfl rfl ?_
    have hr := Option.some.inj hr
    subst hr
    exact j_lret C hq hret dX7_readForm_14
def m_X7_F : Nat → (Ce → Nat → Int32 → Int32 → Option (Int64 × Ce)) × (Ce → Nat → Int32 → Option (Int64 × Ce))
  | 0 => (fun _ _ _ _ => none, fun _ _ _ => none)
  | n + 1 => (m_X7_readForm_B (m_X7_F n).1 (m_X7_F n).2, m_X7_readOne_B (m_X7_F n).1 (m_X7_F n).2)
def m_X7_readForm (ce : Ce) (this : Nat) (p1 p2 : Int32) : Option (Int64 × Ce) := (m_X7_F 64).1 ce this p1 p2
def m_X7_readOne (ce : Ce) (this : Nat) (p1 : Int32) : Option (Int64 × Ce) := (m_X7_F 64).2 ce this p1
theorem c_X7_F : ∀ N : Nat, (∀ {nx : Nat} {ce : Ce} {this : Nat} {p1 p2 : Int32} {q : Int64 × Ce}, (m_X7_F N).1 ce this p1 p2 = some q → Ct yX7_readForm cX7_readForm 8 (some .long) (5 + N) (200 + 40 * N) 0 0 [.ref this, .int p1, .int p2] nx ce (some (.long q.1)) q.2) ∧ (∀ {nx : Nat} {ce : Ce} {this : Nat} {p1 : Int32} {q : Int64 × Ce}, (m_X7_F N).2 ce this p1 = some q → Ct yX7_readOne cX7_readOne 5 (some .long) (5 + N) (200 + 40 * N) 0 0 [.ref this, .int p1] nx ce (some (.long q.1)) q.2) := by
  intro N
  induction N with
  | zero => exact ⟨fun h => (by cases h), fun h => (by cases h)⟩
  | succ N ih => exact ⟨fun h => c_X7_readForm_B ih.1 ih.2 h, fun h => c_X7_readOne_B ih.1 ih.2 h⟩
theorem c_X7_readForm {nx : Nat} {ce : Ce} {this : Nat} {p1 p2 : Int32} {q : Int64 × Ce} (hr : m_X7_readForm ce this p1 p2 = some q) : Ct yX7_readForm cX7_readForm 8 (some .long) 69 2760 0 0 [.ref this, .int p1, .int p2] nx ce (some (.long q.1)) q.2 := (c_X7_F 64).1 hr
theorem c_X7_readOne {nx : Nat} {ce : Ce} {this : Nat} {p1 : Int32} {q : Int64 × Ce} (hr : m_X7_readOne ce this p1 = some q) : Ct yX7_readOne cX7_readOne 5 (some .long) 69 2760 0 0 [.ref this, .int p1] nx ce (some (.long q.1)) q.2 := (c_X7_F 64).2 hr
def m_X7_readInit (ce : Ce) (this : Nat) : Option (Unit × Ce) :=
  (gI ce 5 8 this).bind fun zx1 =>
  if zx1 = 0 then
    (pZ ce 5 8 this (1 : Int32)).bind fun zc2 =>
    (rcv zc2 5 this).bind fun zz3 =>
    (m_X7_goOn zc2 this).bind fun zq4 =>
    (rcv zq4.2 5 this).bind fun zz5 =>
    (m_X7_readForm zq4.2 this (0 : Int32) (0 : Int32)).bind fun zq6 =>
    (pV zq6.2 5 9 this (.long zq6.1)).bind fun zc7 =>
    some ((), zc7)
  else
    (rcv ce 5 this).bind fun zz8 =>
    (m_X7_fail ce this (4 : Int32)).bind fun zq9 =>
    some ((), zq9.2)
set_option maxRecDepth 100000 in
set_option maxHeartbeats 4000000 in
theorem c_X7_readInit {nx : Nat} {ce : Ce} {this : Nat} {q : Unit × Ce} (hr : m_X7_readInit ce this = some q) : Ct yX7_readInit cX7_readInit 1 none 70 2787 0 0 [.ref this] nx ce none q.2 := by
  unfold m_X7_readInit at hr
  refine ct_of (by decide) (Nat.le_of_ble_eq_true rfl) ?_
  intro G C hq hret hin
  show Jd G 0 0 nx ce 0 [(0, .ref this)] []
  refine j_aload_n (q := 0) (pc' := 1) C dX7_readInit_0 rfl rfl rfl ?_
  obtain ⟨zx1, hzx1, hr⟩ := ob hr
  refine j_getI (pc' := 4) C dX7_readInit_1 fl_X7_44 hzx1 rfl ?_
  refine j_if_eq (tgt := 13) (pc' := 7) C dX7_readInit_4 rfl rfl (fun hc => ?_) (fun hc => ?_)
  · have hr := ifT hc hr
    clear hc
    refine j_aload_n (q := 0) (pc' := 14) C dX7_readInit_13 rfl rfl rfl ?_
    refine j_iconst (v := 1) (pc' := 15) C dX7_readInit_14 kI_1 rfl ?_
    obtain ⟨zc2, hzc2, hr⟩ := ob hr
    obtain ⟨hzc2n, hzc2f, hzc2⟩ := pZ_sp hzc2
    refine j_put (pc' := 18) C dX7_readInit_15 fw_X7_44 hzc2n hzc2f hzc2 rfl ?_
    refine j_aload_n (q := 0) (pc' := 19) C dX7_readInit_18 rfl rfl rfl ?_
    obtain ⟨zz3, hzz3, hr⟩ := ob hr
    obtain ⟨zq4, hzq4, hr⟩ := ob hr
    obtain ⟨fhzz3, hzz3⟩ := rcv_sp hzz3
    refine j_callV (ci := 5) (As := []) (rest := []) (st1 := []) (pc' := 22) C ⟨wm_639, wm_7⟩ rfl hzz3 (c_X7_goOn (nx := nx) hzq4) yw_X7_goOn wm_637 rfl rfl (Nat.le_of_ble_eq_true rfl) ⟨by decide, by decide⟩ dX7_readInit_19 rfl rfl ?_
    refine j_aload_n (q := 0) (pc' := 23) C dX7_readInit_22 rfl rfl rfl ?_
    refine j_aload_n (q := 0) (pc' := 24) C dX7_readInit_23 rfl rfl rfl ?_
    refine j_iconst (v := 0) (pc' := 25) C dX7_readInit_24 kI_0 rfl ?_
    refine j_iconst (v := 0) (pc' := 26) C dX7_readInit_25 kI_0 rfl ?_
    obtain ⟨zz5, hzz5, hr⟩ := ob hr
    obtain ⟨zq6, hzq6, hr⟩ := ob hr
    obtain ⟨fhzz5, hzz5⟩ := rcv_sp hzz5
    refine j_callV (ci := 5) (As := [.int (0 : Int32), .int (0 : Int32)]) (rest := [.ref this]) (st1 := [.long zq6.1, .ref this]) (pc' := 29) C ⟨wm_659, wm_12⟩ rfl hzz5 (c_X7_readForm (nx := nx) hzq6) yw_X7_readForm wm_657 rfl rfl (Nat.le_of_ble_eq_true rfl) ⟨by decide, by decide⟩ dX7_readInit_26 rfl rfl ?_
    obtain ⟨zc7, hzc7, hr⟩ := ob hr
    refine j_put (pc' := 32) C dX7_readInit_29 fw_X7_48 rfl rfl hzc7 rfl ?_
    have hr := Option.some.inj hr
    subst hr
    exact j_vret C hq hret dX7_readInit_32
  · have hr := ifF hc hr
    clear hc
    refine j_aload_n (q := 0) (pc' := 8) C dX7_readInit_7 rfl rfl rfl ?_
    refine j_iconst (v := 4) (pc' := 9) C dX7_readInit_8 kI_4 rfl ?_
    obtain ⟨zz8, hzz8, hr⟩ := ob hr
    obtain ⟨zq9, hzq9, hr⟩ := ob hr
    obtain ⟨fhzz8, hzz8⟩ := rcv_sp hzz8
    refine j_callV (ci := 5) (As := [.int (4 : Int32)]) (rest := []) (st1 := []) (pc' := 12) C ⟨wm_643, wm_8⟩ rfl hzz8 (c_X7_fail (nx := nx) hzq9) yw_X7_fail wm_641 rfl rfl (Nat.le_of_ble_eq_true rfl) ⟨by decide, by decide⟩ dX7_readInit_9 rfl rfl ?_
    have hr := Option.some.inj hr
    subst hr
    exact j_vret C hq hret dX7_readInit_12
def m_X7_readBad (ce : Ce) (this : Nat) : Option (Unit × Ce) :=
  (gI ce 5 10 this).bind fun zx1 =>
  (gA ce 5 11 this).bind fun zx2 =>
  (alen ce zx2).bind fun zx3 =>
  if zx1 < zx3 then
    (rcv ce 5 this).bind fun zz4 =>
    (m_X7_goOn ce this).bind fun zq5 =>
    (gA zq5.2 5 11 this).bind fun zx6 =>
    (gI zq5.2 5 10 this).bind fun zx7 =>
    (rcv zq5.2 5 this).bind fun zz8 =>
    (m_X7_readForm zq5.2 this (0 : Int32) (0 : Int32)).bind fun zq9 =>
    (sL zq9.2 zx6 zx7 zq9.1).bind fun zc10 =>
    (gI zc10 5 10 this).bind fun zx11 =>
    (pV zc10 5 10 this (.int (zx11 + (1 : Int32)))).bind fun zc12 =>
    some ((), zc12)
  else
    (rcv ce 5 this).bind fun zz13 =>
    (m_X7_fail ce this (4 : Int32)).bind fun zq14 =>
    some ((), zq14.2)
set_option maxRecDepth 100000 in
set_option maxHeartbeats 4000000 in
theorem c_X7_readBad {nx : Nat} {ce : Ce} {this : Nat} {q : Unit × Ce} (hr : m_X7_readBad ce this = some q) : Ct yX7_readBad cX7_readBad 1 none 70 2787 0 0 [.ref this] nx ce none q.2 := by
  unfold m_X7_readBad at hr
  refine ct_of (by decide) (Nat.le_of_ble_eq_true rfl) ?_
  intro G C hq hret hin
  show Jd G 0 0 nx ce 0 [(0, .ref this)] []
  refine j_aload_n (q := 0) (pc' := 1) C dX7_readBad_0 rfl rfl rfl ?_
  obtain ⟨zx1, hzx1, hr⟩ := ob hr
  refine j_getI (pc' := 4) C dX7_readBad_1 fl_X7_52 hzx1 rfl ?_
  refine j_aload_n (q := 0) (pc' := 5) C dX7_readBad_4 rfl rfl rfl ?_
  obtain ⟨zx2, hzx2, hr⟩ := ob hr
  refine j_getA (pc' := 8) C dX7_readBad_5 fl_X7_21 hzx2 rfl ?_
  obtain ⟨zx3, hzx3, hr⟩ := ob hr
  refine j_alen (pc' := 9) C dX7_readBad_8 hzx3 rfl ?_
  refine j_ic_lt (tgt := 18) (pc' := 12) C dX7_readBad_9 rfl rfl (fun hc => ?_) (fun hc => ?_)
  · have hr := ifT hc hr
    clear hc
    refine j_aload_n (q := 0) (pc' := 19) C dX7_readBad_18 rfl rfl rfl ?_
    obtain ⟨zz4, hzz4, hr⟩ := ob hr
    obtain ⟨zq5, hzq5, hr⟩ := ob hr
    obtain ⟨fhzz4, hzz4⟩ := rcv_sp hzz4
    refine j_callV (ci := 5) (As := []) (rest := []) (st1 := []) (pc' := 22) C ⟨wm_639, wm_7⟩ rfl hzz4 (c_X7_goOn (nx := nx) hzq5) yw_X7_goOn wm_637 rfl rfl (Nat.le_of_ble_eq_true rfl) ⟨by decide, by decide⟩ dX7_readBad_19 rfl rfl ?_
    refine j_aload_n (q := 0) (pc' := 23) C dX7_readBad_22 rfl rfl rfl ?_
    obtain ⟨zx6, hzx6, hr⟩ := ob hr
    refine j_getA (pc' := 26) C dX7_readBad_23 fl_X7_21 hzx6 rfl ?_
    refine j_aload_n (q := 0) (pc' := 27) C dX7_readBad_26 rfl rfl rfl ?_
    obtain ⟨zx7, hzx7, hr⟩ := ob hr
    refine j_getI (pc' := 30) C dX7_readBad_27 fl_X7_52 hzx7 rfl ?_
    refine j_aload_n (q := 0) (pc' := 31) C dX7_readBad_30 rfl rfl rfl ?_
    refine j_iconst (v := 0) (pc' := 32) C dX7_readBad_31 kI_0 rfl ?_
    refine j_iconst (v := 0) (pc' := 33) C dX7_readBad_32 kI_0 rfl ?_
    obtain ⟨zz8, hzz8, hr⟩ := ob hr
    obtain ⟨zq9, hzq9, hr⟩ := ob hr
    obtain ⟨fhzz8, hzz8⟩ := rcv_sp hzz8
    refine j_callV (ci := 5) (As := [.int (0 : Int32), .int (0 : Int32)]) (rest := [.int zx7, .ref zx6]) (st1 := [.long zq9.1, .int zx7, .ref zx6]) (pc' := 36) C ⟨wm_659, wm_12⟩ rfl hzz8 (c_X7_readForm (nx := nx) hzq9) yw_X7_readForm wm_657 rfl rfl (Nat.le_of_ble_eq_true rfl) ⟨by decide, by decide⟩ dX7_readBad_33 rfl rfl ?_
    obtain ⟨zc10, hzc10, hr⟩ := ob hr
    refine j_last (pc' := 37) C dX7_readBad_36 hzc10 rfl ?_
    refine j_aload_n (q := 0) (pc' := 38) C dX7_readBad_37 rfl rfl rfl ?_
    refine j_dup (pc' := 39) C dX7_readBad_38 rfl rfl ?_
    obtain ⟨zx11, hzx11, hr⟩ := ob hr
    refine j_getI (pc' := 42) C dX7_readBad_39 fl_X7_52 hzx11 rfl ?_
    refine j_iconst (v := 1) (pc' := 43) C dX7_readBad_42 kI_1 rfl ?_
    refine j_iadd (pc' := 44) C dX7_readBad_43 rfl ?_
    obtain ⟨zc12, hzc12, hr⟩ := ob hr
    refine j_put (pc' := 47) C dX7_readBad_44 fw_X7_52 rfl rfl hzc12 rfl ?_
    have hr := Option.some.inj hr
    subst hr
    exact j_vret C hq hret dX7_readBad_47
  · have hr := ifF hc hr
    clear hc
    refine j_aload_n (q := 0) (pc' := 13) C dX7_readBad_12 rfl rfl rfl ?_
    refine j_iconst (v := 4) (pc' := 14) C dX7_readBad_13 kI_4 rfl ?_
    obtain ⟨zz13, hzz13, hr⟩ := ob hr
    obtain ⟨zq14, hzq14, hr⟩ := ob hr
    obtain ⟨fhzz13, hzz13⟩ := rcv_sp hzz13
    refine j_callV (ci := 5) (As := [.int (4 : Int32)]) (rest := []) (st1 := []) (pc' := 17) C ⟨wm_643, wm_8⟩ rfl hzz13 (c_X7_fail (nx := nx) hzq14) yw_X7_fail wm_641 rfl rfl (Nat.le_of_ble_eq_true rfl) ⟨by decide, by decide⟩ dX7_readBad_14 rfl rfl ?_
    have hr := Option.some.inj hr
    subst hr
    exact j_vret C hq hret dX7_readBad_17
def m_X7_readForInputs (ce : Ce) (this : Nat) (p1 : Int32) : Option (Unit × Ce) :=
  (gI ce 5 4 this).bind fun zx1 =>
  (pV ce 5 14 this (.int (0 : Int32))).bind fun zc2 =>
  (it (fun (zs3 : Unit × Ce) =>
    (gI zs3.2 5 14 this).bind fun zx7 =>
    if (4 : Int32) ≤ zx7 then
      some (Sum.inr ((), zs3.2))
    else
      (gI zs3.2 5 14 this).bind fun zx8 =>
      (gA zs3.2 5 13 this).bind fun zx9 =>
      (alen zs3.2 zx9).bind fun zx10 =>
      if zx10 ≤ (p1 + zx8) then
        some (Sum.inr ((), zs3.2))
      else
        (gI zs3.2 5 5 this).bind fun zx11 =>
        if zx11 = 0 then
          (pV zs3.2 5 4 this (.int zx1)).bind fun zc12 =>
          (gA zc12 5 13 this).bind fun zx13 =>
          (gI zc12 5 14 this).bind fun zx14 =>
          (rcv zc12 5 this).bind fun zz15 =>
          (m_X7_readForm zc12 this (0 : Int32) (0 : Int32)).bind fun zq16 =>
          (sL zq16.2 zx13 (p1 + zx14) zq16.1).bind fun zc17 =>
          (gI zc17 5 14 this).bind fun zx18 =>
          (pV zc17 5 14 this (.int (zx18 + (1 : Int32)))).bind fun zc19 =>
          some (Sum.inl ((), zc19))
        else
          some (Sum.inr ((), zs3.2))
  ) FU ((), zc2)).bind fun (zo4 : Unit × Ce) =>
  (pV zo4.2 5 14 this (.int (-1 : Int32))).bind fun zc6 =>
  some ((), zc6)
set_option maxRecDepth 100000 in
set_option maxHeartbeats 4000000 in
theorem c_X7_readForInputs {nx : Nat} {ce : Ce} {this : Nat} {p1 : Int32} {q : Unit × Ce} (hr : m_X7_readForInputs ce this p1 = some q) : Ct yX7_readForInputs cX7_readForInputs 3 none 70 2787 0 0 [.ref this, .int p1] nx ce none q.2 := by
  unfold m_X7_readForInputs at hr
  refine ct_of (by decide) (Nat.le_of_ble_eq_true rfl) ?_
  intro G C hq hret hin
  show Jd G 0 0 nx ce 0 [(0, .ref this), (1, .int p1)] []
  refine j_aload_n (q := 0) (pc' := 1) C dX7_readForInputs_0 rfl rfl rfl ?_
  obtain ⟨zx1, hzx1, hr⟩ := ob hr
  refine j_getI (pc' := 4) C dX7_readForInputs_1 fl_X7_32 hzx1 rfl ?_
  refine j_istore_n (lv' := [(2, .int zx1), (0, .ref this), (1, .int p1)]) (pc' := 5) C dX7_readForInputs_4 rfl (by decide) rfl rfl ?_
  refine j_aload_n (q := 1) (pc' := 6) C dX7_readForInputs_5 rfl rfl rfl ?_
  refine j_iconst (v := 0) (pc' := 7) C dX7_readForInputs_6 kI_0 rfl ?_
  obtain ⟨zc2, hzc2, hr⟩ := ob hr
  refine j_put (pc' := 10) C dX7_readForInputs_7 fw_X7_67 rfl rfl hzc2 rfl ?_
  obtain ⟨zo4, hzo4, rzo4⟩ := ob hr
  have kzo4 : Jd G 0 0 nx zo4.2 74 [(0, .ref this)] [] := by
    have hr := rzo4
    refine j_aload_n (q := 0) (pc' := 75) C dX7_readForInputs_74 rfl rfl rfl ?_
    refine j_iconst (v := -1) (pc' := 76) C dX7_readForInputs_75 kI_m1 rfl ?_
    obtain ⟨zc6, hzc6, hr⟩ := ob hr
    refine j_put (pc' := 79) C dX7_readForInputs_76 fw_X7_67 rfl rfl hzc6 rfl ?_
    have hr := Option.some.inj hr
    subst hr
    exact j_vret C hq hret dX7_readForInputs_79
  refine j_lv (lv' := [(0, .ref this), (1, .int p1), (2, .int zx1)]) [1, 2, 0] rfl ?_
  refine it_J (J := (fun (zs3 : Unit × Ce) => Jd G 0 0 nx zs3.2 10 [(0, .ref this), (1, .int p1), (2, .int zx1)] [])) ?_ hzo4
  clear hzo4
  intro zs3 zr5 hr izs3 ezs3
  refine j_aload_n (q := 0) (pc' := 11) C dX7_readForInputs_10 rfl rfl rfl ?_
  obtain ⟨zx7, hzx7, hr⟩ := ob hr
  refine j_getI (pc' := 14) C dX7_readForInputs_11 fl_X7_67 hzx7 rfl ?_
  refine j_iconst (v := 4) (pc' := 15) C dX7_readForInputs_14 kI_4 rfl ?_
  refine j_ic_ge (tgt := 74) (pc' := 18) C dX7_readForInputs_15 rfl rfl (fun hc => ?_) (fun hc => ?_)
  · have hr := ifT hc hr
    clear hc
    have hr := ezs3 _ (Option.some.inj hr).symm
    subst hr
    exact j_lv [0] rfl kzo4
  · have hr := ifF hc hr
    clear hc
    refine j_iload_n (q := 1) (pc' := 19) C dX7_readForInputs_18 rfl rfl rfl ?_
    refine j_aload_n (q := 0) (pc' := 20) C dX7_readForInputs_19 rfl rfl rfl ?_
    obtain ⟨zx8, hzx8, hr⟩ := ob hr
    refine j_getI (pc' := 23) C dX7_readForInputs_20 fl_X7_67 hzx8 rfl ?_
    refine j_iadd (pc' := 24) C dX7_readForInputs_23 rfl ?_
    refine j_aload_n (q := 0) (pc' := 25) C dX7_readForInputs_24 rfl rfl rfl ?_
    obtain ⟨zx9, hzx9, hr⟩ := ob hr
    refine j_getA (pc' := 28) C dX7_readForInputs_25 fl_X7_25 hzx9 rfl ?_
    obtain ⟨zx10, hzx10, hr⟩ := ob hr
    refine j_alen (pc' := 29) C dX7_readForInputs_28 hzx10 rfl ?_
    refine j_ic_ge (tgt := 74) (pc' := 32) C dX7_readForInputs_29 rfl rfl (fun hc => ?_) (fun hc => ?_)
    · have hr := ifT hc hr
      clear hc
      have hr := ezs3 _ (Option.some.inj hr).symm
      subst hr
      exact j_lv [0] rfl kzo4
    · have hr := ifF hc hr
      clear hc
      refine j_aload_n (q := 0) (pc' := 33) C dX7_readForInputs_32 rfl rfl rfl ?_
      obtain ⟨zx11, hzx11, hr⟩ := ob hr
      refine j_getI (pc' := 36) C dX7_readForInputs_33 fl_X7_35 hzx11 rfl ?_
      refine j_if_ne (tgt := 74) (pc' := 39) C dX7_readForInputs_36 rfl rfl (fun hc => ?_) (fun hc => ?_)
      · have hr := ifF hc hr
        clear hc
        have hr := ezs3 _ (Option.some.inj hr).symm
        subst hr
        exact j_lv [0] rfl kzo4
      · have hr := ifT hc hr
        clear hc
        refine j_aload_n (q := 0) (pc' := 40) C dX7_readForInputs_39 rfl rfl rfl ?_
        refine j_iload_n (q := 2) (pc' := 41) C dX7_readForInputs_40 rfl rfl rfl ?_
        obtain ⟨zc12, hzc12, hr⟩ := ob hr
        refine j_put (pc' := 44) C dX7_readForInputs_41 fw_X7_32 rfl rfl hzc12 rfl ?_
        refine j_aload_n (q := 0) (pc' := 45) C dX7_readForInputs_44 rfl rfl rfl ?_
        obtain ⟨zx13, hzx13, hr⟩ := ob hr
        refine j_getA (pc' := 48) C dX7_readForInputs_45 fl_X7_25 hzx13 rfl ?_
        refine j_iload_n (q := 1) (pc' := 49) C dX7_readForInputs_48 rfl rfl rfl ?_
        refine j_aload_n (q := 0) (pc' := 50) C dX7_readForInputs_49 rfl rfl rfl ?_
        obtain ⟨zx14, hzx14, hr⟩ := ob hr
        refine j_getI (pc' := 53) C dX7_readForInputs_50 fl_X7_67 hzx14 rfl ?_
        refine j_iadd (pc' := 54) C dX7_readForInputs_53 rfl ?_
        refine j_aload_n (q := 0) (pc' := 55) C dX7_readForInputs_54 rfl rfl rfl ?_
        refine j_iconst (v := 0) (pc' := 56) C dX7_readForInputs_55 kI_0 rfl ?_
        refine j_iconst (v := 0) (pc' := 57) C dX7_readForInputs_56 kI_0 rfl ?_
        obtain ⟨zz15, hzz15, hr⟩ := ob hr
        obtain ⟨zq16, hzq16, hr⟩ := ob hr
        obtain ⟨fhzz15, hzz15⟩ := rcv_sp hzz15
        refine j_callV (ci := 5) (As := [.int (0 : Int32), .int (0 : Int32)]) (rest := [.int (p1 + zx14), .ref zx13]) (st1 := [.long zq16.1, .int (p1 + zx14), .ref zx13]) (pc' := 60) C ⟨wm_659, wm_12⟩ rfl hzz15 (c_X7_readForm (nx := nx) hzq16) yw_X7_readForm wm_657 rfl rfl (Nat.le_of_ble_eq_true rfl) ⟨by decide, by decide⟩ dX7_readForInputs_57 rfl rfl ?_
        obtain ⟨zc17, hzc17, hr⟩ := ob hr
        refine j_last (pc' := 61) C dX7_readForInputs_60 hzc17 rfl ?_
        refine j_aload_n (q := 0) (pc' := 62) C dX7_readForInputs_61 rfl rfl rfl ?_
        refine j_dup (pc' := 63) C dX7_readForInputs_62 rfl rfl ?_
        obtain ⟨zx18, hzx18, hr⟩ := ob hr
        refine j_getI (pc' := 66) C dX7_readForInputs_63 fl_X7_67 hzx18 rfl ?_
        refine j_iconst (v := 1) (pc' := 67) C dX7_readForInputs_66 kI_1 rfl ?_
        refine j_iadd (pc' := 68) C dX7_readForInputs_67 rfl ?_
        obtain ⟨zc19, hzc19, hr⟩ := ob hr
        refine j_put (pc' := 71) C dX7_readForInputs_68 fw_X7_67 rfl rfl hzc19 rfl ?_
        refine j_goto (tgt := 10) C dX7_readForInputs_71 rfl ?_
        have hr := izs3 ((), zc19) (Option.some.inj hr).symm
        exact j_lv [0, 1, 2] rfl hr
def m_X7_readNext (ce : Ce) (this : Nat) : Option (Unit × Ce) :=
  (rcv ce 5 this).bind fun zz1 =>
  (m_X7_goOn ce this).bind fun zq2 =>
  (gA zq2.2 5 1 this).bind fun zx3 =>
  (gI zq2.2 5 4 this).bind fun zx4 =>
  (aI zq2.2 zx3 zx4).bind fun zx5 =>
  (gA zq2.2 5 0 this).bind fun zx6 =>
  (gI zq2.2 5 4 this).bind fun zx7 =>
  (aI zq2.2 zx6 zx7).bind fun zx8 =>
  if zx8 = (2 : Int32) then
    (gI zq2.2 5 7 this).bind fun zx9 =>
    if zx5 < zx9 then
      (gI zq2.2 5 12 this).bind fun zx10 =>
      if ((zx10 >>> (zx5 &&& 31)) &&& (1 : Int32)) = 0 then
        (gI zq2.2 5 12 this).bind fun zx11 =>
        (pV zq2.2 5 12 this (.int (zx11 ||| ((1 : Int32) <<< (zx5 &&& 31))))).bind fun zc12 =>
        (rcv zc12 5 this).bind fun zz13 =>
        (m_X7_goOn zc12 this).bind fun zq14 =>
        (rcv zq14.2 5 this).bind fun zz15 =>
        (m_X7_readForInputs zq14.2 this (zx5 * (4 : Int32))).bind fun zq16 =>
        some ((), zq16.2)
      else
        (rcv zq2.2 5 this).bind fun zz17 =>
        (m_X7_fail zq2.2 this (4 : Int32)).bind fun zq18 =>
        some ((), zq18.2)
    else
      (rcv zq2.2 5 this).bind fun zz19 =>
      (m_X7_fail zq2.2 this (3 : Int32)).bind fun zq20 =>
      some ((), zq20.2)
  else
    (rcv zq2.2 5 this).bind fun zz21 =>
    (m_X7_fail zq2.2 this (1 : Int32)).bind fun zq22 =>
    some ((), zq22.2)
set_option maxRecDepth 100000 in
set_option maxHeartbeats 4000000 in
theorem c_X7_readNext {nx : Nat} {ce : Ce} {this : Nat} {q : Unit × Ce} (hr : m_X7_readNext ce this = some q) : Ct yX7_readNext cX7_readNext 2 none 71 2809 0 0 [.ref this] nx ce none q.2 := by
  unfold m_X7_readNext at hr
  refine ct_of (by decide) (Nat.le_of_ble_eq_true rfl) ?_
  intro G C hq hret hin
  show Jd G 0 0 nx ce 0 [(0, .ref this)] []
  refine j_aload_n (q := 0) (pc' := 1) C dX7_readNext_0 rfl rfl rfl ?_
  obtain ⟨zz1, hzz1, hr⟩ := ob hr
  obtain ⟨zq2, hzq2, hr⟩ := ob hr
  obtain ⟨fhzz1, hzz1⟩ := rcv_sp hzz1
  refine j_callV (ci := 5) (As := []) (rest := []) (st1 := []) (pc' := 4) C ⟨wm_639, wm_7⟩ rfl hzz1 (c_X7_goOn (nx := nx) hzq2) yw_X7_goOn wm_637 rfl rfl (Nat.le_of_ble_eq_true rfl) ⟨by decide, by decide⟩ dX7_readNext_1 rfl rfl ?_
  refine j_aload_n (q := 0) (pc' := 5) C dX7_readNext_4 rfl rfl rfl ?_
  obtain ⟨zx3, hzx3, hr⟩ := ob hr
  refine j_getA (pc' := 8) C dX7_readNext_5 fl_X7_15 hzx3 rfl ?_
  refine j_aload_n (q := 0) (pc' := 9) C dX7_readNext_8 rfl rfl rfl ?_
  obtain ⟨zx4, hzx4, hr⟩ := ob hr
  refine j_getI (pc' := 12) C dX7_readNext_9 fl_X7_32 hzx4 rfl ?_
  obtain ⟨zx5, hzx5, hr⟩ := ob hr
  refine j_iald (pc' := 13) C dX7_readNext_12 hzx5 rfl ?_
  refine j_istore_n (lv' := [(1, .int zx5), (0, .ref this)]) (pc' := 14) C dX7_readNext_13 rfl (by decide) rfl rfl ?_
  refine j_aload_n (q := 1) (pc' := 15) C dX7_readNext_14 rfl rfl rfl ?_
  obtain ⟨zx6, hzx6, hr⟩ := ob hr
  refine j_getA (pc' := 18) C dX7_readNext_15 fl_X7_9 hzx6 rfl ?_
  refine j_aload_n (q := 1) (pc' := 19) C dX7_readNext_18 rfl rfl rfl ?_
  obtain ⟨zx7, hzx7, hr⟩ := ob hr
  refine j_getI (pc' := 22) C dX7_readNext_19 fl_X7_32 hzx7 rfl ?_
  obtain ⟨zx8, hzx8, hr⟩ := ob hr
  refine j_iald (pc' := 23) C dX7_readNext_22 hzx8 rfl ?_
  refine j_iconst (v := 2) (pc' := 24) C dX7_readNext_23 kI_2 rfl ?_
  refine j_ic_eq (tgt := 35) (pc' := 27) C dX7_readNext_24 rfl rfl (fun hc => ?_) (fun hc => ?_)
  · have hr := ifT hc hr
    clear hc
    refine j_iload_n (q := 0) (pc' := 36) C dX7_readNext_35 rfl rfl rfl ?_
    refine j_aload_n (q := 1) (pc' := 37) C dX7_readNext_36 rfl rfl rfl ?_
    obtain ⟨zx9, hzx9, hr⟩ := ob hr
    refine j_getI (pc' := 40) C dX7_readNext_37 fl_X7_41 hzx9 rfl ?_
    refine j_ic_lt (tgt := 51) (pc' := 43) C dX7_readNext_40 rfl rfl (fun hc => ?_) (fun hc => ?_)
    · have hr := ifT hc hr
      clear hc
      refine j_aload_n (q := 1) (pc' := 52) C dX7_readNext_51 rfl rfl rfl ?_
      obtain ⟨zx10, hzx10, hr⟩ := ob hr
      refine j_getI (pc' := 55) C dX7_readNext_52 fl_X7_61 hzx10 rfl ?_
      refine j_iload_n (q := 0) (pc' := 56) C dX7_readNext_55 rfl rfl rfl ?_
      refine j_ishr (pc' := 57) C dX7_readNext_56 rfl ?_
      refine j_iconst (v := 1) (pc' := 58) C dX7_readNext_57 kI_1 rfl ?_
      refine j_iand (pc' := 59) C dX7_readNext_58 rfl ?_
      refine j_if_eq (tgt := 70) (pc' := 62) C dX7_readNext_59 rfl rfl (fun hc => ?_) (fun hc => ?_)
      · have hr := ifT hc hr
        clear hc
        refine j_aload_n (q := 1) (pc' := 71) C dX7_readNext_70 rfl rfl rfl ?_
        refine j_dup (pc' := 72) C dX7_readNext_71 rfl rfl ?_
        obtain ⟨zx11, hzx11, hr⟩ := ob hr
        refine j_getI (pc' := 75) C dX7_readNext_72 fl_X7_61 hzx11 rfl ?_
        refine j_iconst (v := 1) (pc' := 76) C dX7_readNext_75 kI_1 rfl ?_
        refine j_iload_n (q := 0) (pc' := 77) C dX7_readNext_76 rfl rfl rfl ?_
        refine j_ishl (pc' := 78) C dX7_readNext_77 rfl ?_
        refine j_ior (pc' := 79) C dX7_readNext_78 rfl ?_
        obtain ⟨zc12, hzc12, hr⟩ := ob hr
        refine j_put (pc' := 82) C dX7_readNext_79 fw_X7_61 rfl rfl hzc12 rfl ?_
        refine j_aload_n (q := 1) (pc' := 83) C dX7_readNext_82 rfl rfl rfl ?_
        obtain ⟨zz13, hzz13, hr⟩ := ob hr
        obtain ⟨zq14, hzq14, hr⟩ := ob hr
        obtain ⟨fhzz13, hzz13⟩ := rcv_sp hzz13
        refine j_callV (ci := 5) (As := []) (rest := []) (st1 := []) (pc' := 86) C ⟨wm_639, wm_7⟩ rfl hzz13 (c_X7_goOn (nx := nx) hzq14) yw_X7_goOn wm_637 rfl rfl (Nat.le_of_ble_eq_true rfl) ⟨by decide, by decide⟩ dX7_readNext_83 rfl rfl ?_
        refine j_aload_n (q := 1) (pc' := 87) C dX7_readNext_86 rfl rfl rfl ?_
        refine j_iload_n (q := 0) (pc' := 88) C dX7_readNext_87 rfl rfl rfl ?_
        refine j_iconst (v := 4) (pc' := 89) C dX7_readNext_88 kI_4 rfl ?_
        refine j_imul (pc' := 90) C dX7_readNext_89 rfl ?_
        obtain ⟨zz15, hzz15, hr⟩ := ob hr
        obtain ⟨zq16, hzq16, hr⟩ := ob hr
        obtain ⟨fhzz15, hzz15⟩ := rcv_sp hzz15
        refine j_callV (ci := 5) (As := [.int (zx5 * (4 : Int32))]) (rest := []) (st1 := []) (pc' := 93) C ⟨wm_684, wm_17⟩ rfl hzz15 (c_X7_readForInputs (nx := nx) hzq16) yw_X7_readForInputs wm_682 rfl rfl (Nat.le_of_ble_eq_true rfl) ⟨by decide, by decide⟩ dX7_readNext_90 rfl rfl ?_
        have hr := Option.some.inj hr
        subst hr
        exact j_vret C hq hret dX7_readNext_93
      · have hr := ifF hc hr
        clear hc
        refine j_aload_n (q := 1) (pc' := 63) C dX7_readNext_62 rfl rfl rfl ?_
        refine j_iconst (v := 4) (pc' := 64) C dX7_readNext_63 kI_4 rfl ?_
        obtain ⟨zz17, hzz17, hr⟩ := ob hr
        obtain ⟨zq18, hzq18, hr⟩ := ob hr
        obtain ⟨fhzz17, hzz17⟩ := rcv_sp hzz17
        refine j_callV (ci := 5) (As := [.int (4 : Int32)]) (rest := []) (st1 := []) (pc' := 67) C ⟨wm_643, wm_8⟩ rfl hzz17 (c_X7_fail (nx := nx) hzq18) yw_X7_fail wm_641 rfl rfl (Nat.le_of_ble_eq_true rfl) ⟨by decide, by decide⟩ dX7_readNext_64 rfl rfl ?_
        refine j_goto (tgt := 93) C dX7_readNext_67 rfl ?_
        have hr := Option.some.inj hr
        subst hr
        exact j_vret C hq hret dX7_readNext_93
    · have hr := ifF hc hr
      clear hc
      refine j_aload_n (q := 1) (pc' := 44) C dX7_readNext_43 rfl rfl rfl ?_
      refine j_iconst (v := 3) (pc' := 45) C dX7_readNext_44 kI_3 rfl ?_
      obtain ⟨zz19, hzz19, hr⟩ := ob hr
      obtain ⟨zq20, hzq20, hr⟩ := ob hr
      obtain ⟨fhzz19, hzz19⟩ := rcv_sp hzz19
      refine j_callV (ci := 5) (As := [.int (3 : Int32)]) (rest := []) (st1 := []) (pc' := 48) C ⟨wm_643, wm_8⟩ rfl hzz19 (c_X7_fail (nx := nx) hzq20) yw_X7_fail wm_641 rfl rfl (Nat.le_of_ble_eq_true rfl) ⟨by decide, by decide⟩ dX7_readNext_45 rfl rfl ?_
      refine j_goto (tgt := 93) C dX7_readNext_48 rfl ?_
      have hr := Option.some.inj hr
      subst hr
      exact j_vret C hq hret dX7_readNext_93
  · have hr := ifF hc hr
    clear hc
    refine j_aload_n (q := 1) (pc' := 28) C dX7_readNext_27 rfl rfl rfl ?_
    refine j_iconst (v := 1) (pc' := 29) C dX7_readNext_28 kI_1 rfl ?_
    obtain ⟨zz21, hzz21, hr⟩ := ob hr
    obtain ⟨zq22, hzq22, hr⟩ := ob hr
    obtain ⟨fhzz21, hzz21⟩ := rcv_sp hzz21
    refine j_callV (ci := 5) (As := [.int (1 : Int32)]) (rest := []) (st1 := []) (pc' := 32) C ⟨wm_643, wm_8⟩ rfl hzz21 (c_X7_fail (nx := nx) hzq22) yw_X7_fail wm_641 rfl rfl (Nat.le_of_ble_eq_true rfl) ⟨by decide, by decide⟩ dX7_readNext_29 rfl rfl ?_
    refine j_goto (tgt := 93) C dX7_readNext_32 rfl ?_
    have hr := Option.some.inj hr
    subst hr
    exact j_vret C hq hret dX7_readNext_93
def m_X7_readAll (ce : Ce) (this : Nat) (p1 : Nat) (p2 : Int32) : Option (Unit × Ce) :=
  (rcv ce 5 this).bind fun zz1 =>
  (m_X7_forget ce this).bind fun zq2 =>
  (alen zq2.2 p1).bind fun zx3 =>
  (m_J9_min_7cf53 p2 zx3).bind fun zx4 =>
  (rcv zq2.2 5 this).bind fun zz5 =>
  (m_X7_takeTokens zq2.2 this p1 zx4).bind fun zq6 =>
  (gA zq6.2 5 0 this).bind fun zx7 =>
  (gI zq6.2 5 4 this).bind fun zx8 =>
  (aI zq6.2 zx7 zx8).bind fun zx9 =>
  (
    if zx9 = (6 : Int32) then
      (rcv zq6.2 5 this).bind fun zz31 =>
      (m_X7_readLetters zq6.2 this).bind fun zq32 =>
      (rcv zq32.2 5 this).bind fun zz33 =>
      (m_X7_takeSign zq32.2 this (59 : Int32)).bind fun zq34 =>
      some ((), zq34.2)
    else
      some ((), zq6.2)
  ).bind fun (zj10 : Unit × Ce) =>
  (it (fun (zs11 : Int32 × Ce) =>
    if (300 : Int32) ≤ zs11.1 then
      some (Sum.inr ((), zs11.2))
    else
      (gA zs11.2 5 0 this).bind fun zx14 =>
      (gI zs11.2 5 4 this).bind fun zx15 =>
      (aI zs11.2 zx14 zx15).bind fun zx16 =>
      if zx16 = 0 then
        some (Sum.inr ((), zs11.2))
      else
        (gA zs11.2 5 0 this).bind fun zx17 =>
        (gI zs11.2 5 4 this).bind fun zx18 =>
        (aI zs11.2 zx17 zx18).bind fun zx19 =>
        (
          if zx19 = (7 : Int32) then
            (rcv zs11.2 5 this).bind fun zz23 =>
            (m_X7_readInit zs11.2 this).bind fun zq24 =>
            some ((), zq24.2)
          else
          if zx19 = (8 : Int32) then
            (rcv zs11.2 5 this).bind fun zz25 =>
            (m_X7_readBad zs11.2 this).bind fun zq26 =>
            some ((), zq26.2)
          else
          if zx19 = (9 : Int32) then
            (rcv zs11.2 5 this).bind fun zz27 =>
            (m_X7_readNext zs11.2 this).bind fun zq28 =>
            some ((), zq28.2)
          else
          (rcv zs11.2 5 this).bind fun zz29 =>
          (m_X7_fail zs11.2 this (1 : Int32)).bind fun zq30 =>
          some ((), zq30.2)
        ).bind fun (zj20 : Unit × Ce) =>
        (rcv zj20.2 5 this).bind fun zz21 =>
        (m_X7_takeSign zj20.2 this (59 : Int32)).bind fun zq22 =>
        some (Sum.inl ((zs11.1 + (1 : Int32)), zq22.2))
  ) FU ((0 : Int32), zj10.2)).bind fun (zo12 : Unit × Ce) =>
  some ((), zo12.2)
set_option maxRecDepth 100000 in
set_option maxHeartbeats 4000000 in
theorem c_X7_readAll {nx : Nat} {ce : Ce} {this : Nat} {p1 : Nat} {p2 : Int32} {q : Unit × Ce} (hr : m_X7_readAll ce this p1 p2 = some q) : Ct yX7_readAll cX7_readAll 4 none 72 2830 0 0 [.ref this, .ref p1, .int p2] nx ce none q.2 := by
  unfold m_X7_readAll at hr
  refine ct_of (by decide) (Nat.le_of_ble_eq_true rfl) ?_
  intro G C hq hret hin
  show Jd G 0 0 nx ce 0 [(0, .ref this), (1, .ref p1), (2, .int p2)] []
  refine j_aload_n (q := 0) (pc' := 1) C dX7_readAll_0 rfl rfl rfl ?_
  obtain ⟨zz1, hzz1, hr⟩ := ob hr
  obtain ⟨zq2, hzq2, hr⟩ := ob hr
  obtain ⟨fhzz1, hzz1⟩ := rcv_sp hzz1
  refine j_callV (ci := 5) (As := []) (rest := []) (st1 := []) (pc' := 4) C ⟨wm_485, wm_1⟩ rfl hzz1 (c_X7_forget (nx := nx) hzq2) yw_X7_forget wm_483 rfl rfl (Nat.le_of_ble_eq_true rfl) ⟨by decide, by decide⟩ dX7_readAll_1 rfl rfl ?_
  refine j_aload_n (q := 0) (pc' := 5) C dX7_readAll_4 rfl rfl rfl ?_
  refine j_aload_n (q := 1) (pc' := 6) C dX7_readAll_5 rfl rfl rfl ?_
  refine j_iload_n (q := 2) (pc' := 7) C dX7_readAll_6 rfl rfl rfl ?_
  refine j_aload_n (q := 1) (pc' := 8) C dX7_readAll_7 rfl rfl rfl ?_
  obtain ⟨zx3, hzx3, hr⟩ := ob hr
  refine j_alen (pc' := 9) C dX7_readAll_8 hzx3 rfl ?_
  obtain ⟨zx4, hzx4, hr⟩ := ob hr
  refine j_callS (As := [.int p2, .int zx3]) (rest := [.ref p1, .ref this]) (st1 := [.int zx4, .ref p1, .ref this]) (pc' := 12) C wm_493 (c_J9_min_7cf53 (nx := nx) (ce := zq2.2) hzx4) yw_J9_min_7cf53 wm_492 rfl rfl (Nat.le_of_ble_eq_true rfl) ⟨by decide, by decide⟩ dX7_readAll_9 rfl rfl ?_
  obtain ⟨zz5, hzz5, hr⟩ := ob hr
  obtain ⟨zq6, hzq6, hr⟩ := ob hr
  obtain ⟨fhzz5, hzz5⟩ := rcv_sp hzz5
  refine j_callV (ci := 5) (As := [.ref p1, .int zx4]) (rest := []) (st1 := []) (pc' := 15) C ⟨wm_497, wm_2⟩ rfl hzz5 (c_X7_takeTokens (nx := nx) hzq6) yw_X7_takeTokens wm_495 rfl rfl (Nat.le_of_ble_eq_true rfl) ⟨by decide, by decide⟩ dX7_readAll_12 rfl rfl ?_
  refine j_aload_n (q := 0) (pc' := 16) C dX7_readAll_15 rfl rfl rfl ?_
  obtain ⟨zx7, hzx7, hr⟩ := ob hr
  refine j_getA (pc' := 19) C dX7_readAll_16 fl_X7_9 hzx7 rfl ?_
  refine j_aload_n (q := 0) (pc' := 20) C dX7_readAll_19 rfl rfl rfl ?_
  obtain ⟨zx8, hzx8, hr⟩ := ob hr
  refine j_getI (pc' := 23) C dX7_readAll_20 fl_X7_32 hzx8 rfl ?_
  obtain ⟨zx9, hzx9, hr⟩ := ob hr
  refine j_iald (pc' := 24) C dX7_readAll_23 hzx9 rfl ?_
  refine j_bipush (v := 6) (pc' := 26) C dX7_readAll_24 kB_6 rfl ?_
  obtain ⟨zj10, hzj10, rzj10⟩ := ob hr
  have kzj10 : Jd G 0 0 nx zj10.2 39 [(0, .ref this)] [] := by
    have hr := rzj10
    refine j_iconst (v := 0) (pc' := 40) C dX7_readAll_39 kI_0 rfl ?_
    refine j_istore_n (lv' := [(3, .int (0 : Int32)), (0, .ref this)]) (pc' := 41) C dX7_readAll_40 rfl (by decide) rfl rfl ?_
    obtain ⟨zo12, hzo12, rzo12⟩ := ob hr
    have kzo12 : Jd G 0 0 nx zo12.2 134 [] [] := by
      have hr := rzo12
      have hr := Option.some.inj hr
      subst hr
      exact j_vret C hq hret dX7_readAll_134
    refine j_lv (lv' := [(0, .ref this), (3, .int (0 : Int32))]) [1, 0] rfl ?_
    refine it_J (J := (fun (zs11 : Int32 × Ce) => Jd G 0 0 nx zs11.2 41 [(0, .ref this), (3, .int zs11.1)] [])) ?_ hzo12
    clear hzo12
    intro zs11 zr13 hr izs11 ezs11
    refine j_iload_n (q := 1) (pc' := 42) C dX7_readAll_41 rfl rfl rfl ?_
    refine j_sipush (v := 300) (pc' := 45) C dX7_readAll_42 kS_300 rfl ?_
    refine j_ic_ge (tgt := 134) (pc' := 48) C dX7_readAll_45 rfl rfl (fun hc => ?_) (fun hc => ?_)
    · have hr := ifT hc hr
      clear hc
      have hr := ezs11 _ (Option.some.inj hr).symm
      subst hr
      exact j_lv [] rfl kzo12
    · have hr := ifF hc hr
      clear hc
      refine j_aload_n (q := 0) (pc' := 49) C dX7_readAll_48 rfl rfl rfl ?_
      obtain ⟨zx14, hzx14, hr⟩ := ob hr
      refine j_getA (pc' := 52) C dX7_readAll_49 fl_X7_9 hzx14 rfl ?_
      refine j_aload_n (q := 0) (pc' := 53) C dX7_readAll_52 rfl rfl rfl ?_
      obtain ⟨zx15, hzx15, hr⟩ := ob hr
      refine j_getI (pc' := 56) C dX7_readAll_53 fl_X7_32 hzx15 rfl ?_
      obtain ⟨zx16, hzx16, hr⟩ := ob hr
      refine j_iald (pc' := 57) C dX7_readAll_56 hzx16 rfl ?_
      refine j_if_eq (tgt := 134) (pc' := 60) C dX7_readAll_57 rfl rfl (fun hc => ?_) (fun hc => ?_)
      · have hr := ifT hc hr
        clear hc
        have hr := ezs11 _ (Option.some.inj hr).symm
        subst hr
        exact j_lv [] rfl kzo12
      · have hr := ifF hc hr
        clear hc
        refine j_aload_n (q := 0) (pc' := 61) C dX7_readAll_60 rfl rfl rfl ?_
        obtain ⟨zx17, hzx17, hr⟩ := ob hr
        refine j_getA (pc' := 64) C dX7_readAll_61 fl_X7_9 hzx17 rfl ?_
        refine j_aload_n (q := 0) (pc' := 65) C dX7_readAll_64 rfl rfl rfl ?_
        obtain ⟨zx18, hzx18, hr⟩ := ob hr
        refine j_getI (pc' := 68) C dX7_readAll_65 fl_X7_32 hzx18 rfl ?_
        obtain ⟨zx19, hzx19, hr⟩ := ob hr
        refine j_iald (pc' := 69) C dX7_readAll_68 hzx19 rfl ?_
        obtain ⟨zj20, hzj20, rzj20⟩ := ob hr
        have kzj20 : Jd G 0 0 nx zj20.2 122 [(0, .ref this), (3, .int zs11.1)] [] := by
          have hr := rzj20
          refine j_aload_n (q := 0) (pc' := 123) C dX7_readAll_122 rfl rfl rfl ?_
          refine j_bipush (v := 59) (pc' := 125) C dX7_readAll_123 kB_59 rfl ?_
          obtain ⟨zz21, hzz21, hr⟩ := ob hr
          obtain ⟨zq22, hzq22, hr⟩ := ob hr
          obtain ⟨fhzz21, hzz21⟩ := rcv_sp hzz21
          refine j_callV (ci := 5) (As := [.int (59 : Int32)]) (rest := []) (st1 := []) (pc' := 128) C ⟨wm_647, wm_9⟩ rfl hzz21 (c_X7_takeSign (nx := nx) hzq22) yw_X7_takeSign wm_645 rfl rfl (Nat.le_of_ble_eq_true rfl) ⟨by decide, by decide⟩ dX7_readAll_125 rfl rfl ?_
          refine j_iinc (q := 1) (v := 1) (lv' := [(3, .int (zs11.1 + (1 : Int32))), (0, .ref this)]) (pc' := 131) C dX7_readAll_128 rfl kI_1 (by decide) rfl rfl ?_
          refine j_goto (tgt := 41) C dX7_readAll_131 rfl ?_
          have hr := izs11 ((zs11.1 + (1 : Int32)), zq22.2) (Option.some.inj hr).symm
          exact j_lv [1, 0] rfl hr
        clear rzj20
        have hr := hzj20
        clear hzj20
        by_cases hc0 : zx19 = (7 : Int32)
        · have hr := ifT hc0 hr
          refine j_tabIn (v := 7) (off := 27) (tgt := 96) C dX7_readAll_69 hc0 (by decide) rfl ?_
          refine j_aload_n (q := 0) (pc' := 97) C dX7_readAll_96 rfl rfl rfl ?_
          obtain ⟨zz23, hzz23, hr⟩ := ob hr
          obtain ⟨zq24, hzq24, hr⟩ := ob hr
          obtain ⟨fhzz23, hzz23⟩ := rcv_sp hzz23
          refine j_callV (ci := 5) (As := []) (rest := []) (st1 := []) (pc' := 100) C ⟨wm_655, wm_11⟩ rfl hzz23 (c_X7_readInit (nx := nx) hzq24) yw_X7_readInit wm_653 rfl rfl (Nat.le_of_ble_eq_true rfl) ⟨by decide, by decide⟩ dX7_readAll_97 rfl rfl ?_
          refine j_goto (tgt := 122) C dX7_readAll_100 rfl ?_
          have hr := Option.some.inj hr
          subst hr
          exact j_lv [0, 1] rfl kzj20
        have hr := ifF hc0 hr
        by_cases hc1 : zx19 = (8 : Int32)
        · have hr := ifT hc1 hr
          refine j_tabIn (v := 8) (off := 34) (tgt := 103) C dX7_readAll_69 hc1 (by decide) rfl ?_
          refine j_aload_n (q := 0) (pc' := 104) C dX7_readAll_103 rfl rfl rfl ?_
          obtain ⟨zz25, hzz25, hr⟩ := ob hr
          obtain ⟨zq26, hzq26, hr⟩ := ob hr
          obtain ⟨fhzz25, hzz25⟩ := rcv_sp hzz25
          refine j_callV (ci := 5) (As := []) (rest := []) (st1 := []) (pc' := 107) C ⟨wm_676, wm_15⟩ rfl hzz25 (c_X7_readBad (nx := nx) hzq26) yw_X7_readBad wm_674 rfl rfl (Nat.le_of_ble_eq_true rfl) ⟨by decide, by decide⟩ dX7_readAll_104 rfl rfl ?_
          refine j_goto (tgt := 122) C dX7_readAll_107 rfl ?_
          have hr := Option.some.inj hr
          subst hr
          exact j_lv [0, 1] rfl kzj20
        have hr := ifF hc1 hr
        by_cases hc2 : zx19 = (9 : Int32)
        · have hr := ifT hc2 hr
          refine j_tabIn (v := 9) (off := 41) (tgt := 110) C dX7_readAll_69 hc2 (by decide) rfl ?_
          refine j_aload_n (q := 0) (pc' := 111) C dX7_readAll_110 rfl rfl rfl ?_
          obtain ⟨zz27, hzz27, hr⟩ := ob hr
          obtain ⟨zq28, hzq28, hr⟩ := ob hr
          obtain ⟨fhzz27, hzz27⟩ := rcv_sp hzz27
          refine j_callV (ci := 5) (As := []) (rest := []) (st1 := []) (pc' := 114) C ⟨wm_680, wm_16⟩ rfl hzz27 (c_X7_readNext (nx := nx) hzq28) yw_X7_readNext wm_678 rfl rfl (Nat.le_of_ble_eq_true rfl) ⟨by decide, by decide⟩ dX7_readAll_111 rfl rfl ?_
          refine j_goto (tgt := 122) C dX7_readAll_114 rfl ?_
          have hr := Option.some.inj hr
          subst hr
          exact j_lv [0, 1] rfl kzj20
        have hr := ifF hc2 hr
        refine j_tabOut (tgt := 117) C dX7_readAll_69 (tab_out 3 (by decide) (by decide) (by decide) (fun i hi => by
          match i, hi with
          | 0, _ => exact hc0
          | 1, _ => exact hc1
          | 2, _ => exact hc2
          | i + 3, hi => omega)) rfl ?_
        refine j_aload_n (q := 0) (pc' := 118) C dX7_readAll_117 rfl rfl rfl ?_
        refine j_iconst (v := 1) (pc' := 119) C dX7_readAll_118 kI_1 rfl ?_
        obtain ⟨zz29, hzz29, hr⟩ := ob hr
        obtain ⟨zq30, hzq30, hr⟩ := ob hr
        obtain ⟨fhzz29, hzz29⟩ := rcv_sp hzz29
        refine j_callV (ci := 5) (As := [.int (1 : Int32)]) (rest := []) (st1 := []) (pc' := 122) C ⟨wm_643, wm_8⟩ rfl hzz29 (c_X7_fail (nx := nx) hzq30) yw_X7_fail wm_641 rfl rfl (Nat.le_of_ble_eq_true rfl) ⟨by decide, by decide⟩ dX7_readAll_119 rfl rfl ?_
        have hr := Option.some.inj hr
        subst hr
        exact j_lv [0, 1] rfl kzj20
  clear rzj10
  have hr := hzj10
  clear hzj10
  refine j_ic_ne (tgt := 39) (pc' := 29) C dX7_readAll_26 rfl rfl (fun hc => ?_) (fun hc => ?_)
  · have hr := ifF hc hr
    clear hc
    have hr := Option.some.inj hr
    subst hr
    exact j_lv [0] rfl kzj10
  · have hr := ifT hc hr
    clear hc
    refine j_aload_n (q := 0) (pc' := 30) C dX7_readAll_29 rfl rfl rfl ?_
    obtain ⟨zz31, hzz31, hr⟩ := ob hr
    obtain ⟨zq32, hzq32, hr⟩ := ob hr
    obtain ⟨fhzz31, hzz31⟩ := rcv_sp hzz31
    refine j_callV (ci := 5) (As := []) (rest := []) (st1 := []) (pc' := 33) C ⟨wm_635, wm_6⟩ rfl hzz31 (c_X7_readLetters (nx := nx) hzq32) yw_X7_readLetters wm_633 rfl rfl (Nat.le_of_ble_eq_true rfl) ⟨by decide, by decide⟩ dX7_readAll_30 rfl rfl ?_
    refine j_aload_n (q := 0) (pc' := 34) C dX7_readAll_33 rfl rfl rfl ?_
    refine j_bipush (v := 59) (pc' := 36) C dX7_readAll_34 kB_59 rfl ?_
    obtain ⟨zz33, hzz33, hr⟩ := ob hr
    obtain ⟨zq34, hzq34, hr⟩ := ob hr
    obtain ⟨fhzz33, hzz33⟩ := rcv_sp hzz33
    refine j_callV (ci := 5) (As := [.int (59 : Int32)]) (rest := []) (st1 := []) (pc' := 39) C ⟨wm_647, wm_9⟩ rfl hzz33 (c_X7_takeSign (nx := nx) hzq34) yw_X7_takeSign wm_645 rfl rfl (Nat.le_of_ble_eq_true rfl) ⟨by decide, by decide⟩ dX7_readAll_36 rfl rfl ?_
    have hr := Option.some.inj hr
    subst hr
    exact j_lv [0] rfl kzj10
def m_X8_init (nx : Nat) (ce : Ce) (this : Nat) (p1 : Nat) : Option (Unit × Ce × Nat × Nat) :=
  (pV ce 6 0 this (.ref p1)).bind fun zc1 =>
  (pV zc1 6 4 this (.int (1 : Int32))).bind fun zc2 =>
  (pV zc2 6 5 this (.int (1 : Int32))).bind fun zc3 =>
  adcK 1 4 fun _ =>
  (some (gx_up zc3 nx (.inr (2, df_X2)))).bind fun zc5 =>
  adcB (m_X2_init (nx + 1) zc5 nx) fun zq6 =>
  (pV zq6.2.1 6 11 this (.ref nx)).bind fun zc8 =>
  adcK 1 2 fun _ =>
  (some (gx_up zc8 ((nx + 1) + zq6.2.2.1) (.inr (4, df_X6)))).bind fun zc10 =>
  adcB (m_X6_init (((nx + 1) + zq6.2.2.1) + 1) zc10 ((nx + 1) + zq6.2.2.1)) fun zq11 =>
  (pV zq11.2.1 6 12 this (.ref ((nx + 1) + zq6.2.2.1))).bind fun zc13 =>
  adcK 1 2 fun _ =>
  (some (gx_up zc13 ((((nx + 1) + zq6.2.2.1) + 1) + zq11.2.2.1) (.inr (0, df_X0)))).bind fun zc15 =>
  adcB (m_X0_init (((((nx + 1) + zq6.2.2.1) + 1) + zq11.2.2.1) + 1) zc15 ((((nx + 1) + zq6.2.2.1) + 1) + zq11.2.2.1)) fun zq16 =>
  (pV zq16.2.1 6 13 this (.ref ((((nx + 1) + zq6.2.2.1) + 1) + zq11.2.2.1))).bind fun zc18 =>
  adcK 1 4 fun _ =>
  (some (gx_up zc18 ((((((nx + 1) + zq6.2.2.1) + 1) + zq11.2.2.1) + 1) + zq16.2.2.1) (.inr (2, df_X2)))).bind fun zc20 =>
  adcB (m_X2_init (((((((nx + 1) + zq6.2.2.1) + 1) + zq11.2.2.1) + 1) + zq16.2.2.1) + 1) zc20 ((((((nx + 1) + zq6.2.2.1) + 1) + zq11.2.2.1) + 1) + zq16.2.2.1)) fun zq21 =>
  (pV zq21.2.1 6 14 this (.ref ((((((nx + 1) + zq6.2.2.1) + 1) + zq11.2.2.1) + 1) + zq16.2.2.1))).bind fun zc23 =>
  some ((), zc23, 0, 0)
set_option maxRecDepth 100000 in
set_option maxHeartbeats 4000000 in
theorem c_X8_init {nx : Nat} {ce : Ce} {this : Nat} {p1 : Nat} {q : Unit × Ce × Nat × Nat} (hr : m_X8_init nx ce this p1 = some q) : Ct yX8_init cX8_init 2 none 2 40 q.2.2.1 q.2.2.2 [.ref this, .ref p1] nx ce none q.2.1 := by
  unfold m_X8_init at hr
  refine ct_of (by decide) (Nat.le_of_ble_eq_true rfl) ?_
  intro G C hq hret hin
  show Jd G q.2.2.1 q.2.2.2 nx ce 0 [(0, .ref this), (1, .ref p1)] []
  refine j_aload_n (q := 0) (pc' := 1) C dX8_init_0 rfl rfl rfl ?_
  refine j_objInit (pc' := 4) C dX8_init_1 wm_271 wm_157 wm_oi ⟨by decide, by decide⟩ (Nat.le_of_ble_eq_true rfl) rfl ?_
  refine j_aload_n (q := 0) (pc' := 5) C dX8_init_4 rfl rfl rfl ?_
  refine j_aload_n (q := 1) (pc' := 6) C dX8_init_5 rfl rfl rfl ?_
  obtain ⟨zc1, hzc1, hr⟩ := ob hr
  refine j_put (pc' := 9) C dX8_init_6 fw_X8_9 rfl rfl hzc1 rfl ?_
  refine j_aload_n (q := 0) (pc' := 10) C dX8_init_9 rfl rfl rfl ?_
  refine j_iconst (v := 1) (pc' := 11) C dX8_init_10 kI_1 rfl ?_
  obtain ⟨zc2, hzc2, hr⟩ := ob hr
  refine j_put (pc' := 14) C dX8_init_11 fw_X8_15 rfl rfl hzc2 rfl ?_
  refine j_aload_n (q := 0) (pc' := 15) C dX8_init_14 rfl rfl rfl ?_
  refine j_iconst (v := 1) (pc' := 16) C dX8_init_15 kI_1 rfl ?_
  obtain ⟨zc3, hzc3, hr⟩ := ob hr
  refine j_put (pc' := 19) C dX8_init_16 fw_X8_19 rfl rfl hzc3 rfl ?_
  refine j_aload_n (q := 0) (pc' := 20) C dX8_init_19 rfl rfl rfl ?_
  obtain ⟨zt4, hr, azt4, bzt4, czt4, dzt4⟩ := adcK_s hr
  obtain ⟨zc5, hzc5, hr⟩ := ob hr
  have hzc5 := Option.some.inj hzc5
  refine j_k (kc' := zt4.2.2.1 + 1) (ks' := zt4.2.2.2 + 4) (by omega) (by omega) ?_
  refine j_new (ci := 2) (N := 4) (C0 := RX2) (T := TX2) (ty := tyX2) (fs := df_X2) (pc' := 23) C dX8_init_20 rfl iw_X2 tyX2_ok wm_272 wm_273 wm_130 dv_X2 rfl ?_
  rw [hzc5]
  refine j_dup (pc' := 24) C dX8_init_23 rfl rfl ?_
  obtain ⟨zq6, zt7, hzq6, hr, azt7, bzt7, czt7, dzt7⟩ := adcB_s hr
  refine j_k (kc' := zt7.2.2.1 + zq6.2.2.1) (ks' := zt7.2.2.2 + zq6.2.2.2) (by omega) (by omega) ?_
  refine j_callIA (As := []) (rest := [.ref nx, .ref this]) (st1 := [.ref nx, .ref this]) (pc' := 27) C wm_275 rfl (c_X2_init hzq6) yw_X2_init wm_274 rfl rfl (Nat.le_of_ble_eq_true rfl) ⟨by decide, by decide⟩ dX8_init_24 rfl rfl ?_
  obtain ⟨zc8, hzc8, hr⟩ := ob hr
  refine j_putF (pc' := 30) C hin dX8_init_27 fw_X8_25 rfl rfl hzc8 rfl ?_
  refine j_aload_n (q := 0) (pc' := 31) C dX8_init_30 rfl rfl rfl ?_
  obtain ⟨zt9, hr, azt9, bzt9, czt9, dzt9⟩ := adcK_s hr
  obtain ⟨zc10, hzc10, hr⟩ := ob hr
  have hzc10 := Option.some.inj hzc10
  refine j_k (kc' := zt9.2.2.1 + 1) (ks' := zt9.2.2.2 + 2) (by omega) (by omega) ?_
  refine j_new (ci := 4) (N := 2) (C0 := RX6) (T := TX6) (ty := tyX6) (fs := df_X6) (pc' := 34) C dX8_init_31 rfl iw_X6 tyX6_ok wm_294 wm_295 wm_131 dv_X6 rfl ?_
  rw [hzc10]
  refine j_dup (pc' := 35) C dX8_init_34 rfl rfl ?_
  obtain ⟨zq11, zt12, hzq11, hr, azt12, bzt12, czt12, dzt12⟩ := adcB_s hr
  refine j_k (kc' := zt12.2.2.1 + zq11.2.2.1) (ks' := zt12.2.2.2 + zq11.2.2.2) (by omega) (by omega) ?_
  refine j_callIA (As := []) (rest := [.ref ((nx + 1) + zq6.2.2.1), .ref this]) (st1 := [.ref ((nx + 1) + zq6.2.2.1), .ref this]) (pc' := 38) C wm_297 rfl (c_X6_init hzq11) yw_X6_init wm_296 rfl rfl (Nat.le_of_ble_eq_true rfl) ⟨by decide, by decide⟩ dX8_init_35 rfl rfl ?_
  obtain ⟨zc13, hzc13, hr⟩ := ob hr
  refine j_putF (pc' := 41) C hin dX8_init_38 fw_X8_32 rfl rfl hzc13 rfl ?_
  refine j_aload_n (q := 0) (pc' := 42) C dX8_init_41 rfl rfl rfl ?_
  obtain ⟨zt14, hr, azt14, bzt14, czt14, dzt14⟩ := adcK_s hr
  obtain ⟨zc15, hzc15, hr⟩ := ob hr
  have hzc15 := Option.some.inj hzc15
  refine j_k (kc' := zt14.2.2.1 + 1) (ks' := zt14.2.2.2 + 2) (by omega) (by omega) ?_
  refine j_new (ci := 0) (N := 2) (C0 := RX0) (T := TX0) (ty := tyX0) (fs := df_X0) (pc' := 45) C dX8_init_42 rfl iw_X0 tyX0_ok wm_309 wm_310 wm_132 dv_X0 rfl ?_
  rw [hzc15]
  refine j_dup (pc' := 46) C dX8_init_45 rfl rfl ?_
  obtain ⟨zq16, zt17, hzq16, hr, azt17, bzt17, czt17, dzt17⟩ := adcB_s hr
  refine j_k (kc' := zt17.2.2.1 + zq16.2.2.1) (ks' := zt17.2.2.2 + zq16.2.2.2) (by omega) (by omega) ?_
  refine j_callIA (As := []) (rest := [.ref ((((nx + 1) + zq6.2.2.1) + 1) + zq11.2.2.1), .ref this]) (st1 := [.ref ((((nx + 1) + zq6.2.2.1) + 1) + zq11.2.2.1), .ref this]) (pc' := 49) C wm_312 rfl (c_X0_init hzq16) yw_X0_init wm_311 rfl rfl (Nat.le_of_ble_eq_true rfl) ⟨by decide, by decide⟩ dX8_init_46 rfl rfl ?_
  obtain ⟨zc18, hzc18, hr⟩ := ob hr
  refine j_putF (pc' := 52) C hin dX8_init_49 fw_X8_39 rfl rfl hzc18 rfl ?_
  refine j_aload_n (q := 0) (pc' := 53) C dX8_init_52 rfl rfl rfl ?_
  obtain ⟨zt19, hr, azt19, bzt19, czt19, dzt19⟩ := adcK_s hr
  obtain ⟨zc20, hzc20, hr⟩ := ob hr
  have hzc20 := Option.some.inj hzc20
  refine j_k (kc' := zt19.2.2.1 + 1) (ks' := zt19.2.2.2 + 4) (by omega) (by omega) ?_
  refine j_new (ci := 2) (N := 4) (C0 := RX2) (T := TX2) (ty := tyX2) (fs := df_X2) (pc' := 56) C dX8_init_53 rfl iw_X2 tyX2_ok wm_272 wm_273 wm_130 dv_X2 rfl ?_
  rw [hzc20]
  refine j_dup (pc' := 57) C dX8_init_56 rfl rfl ?_
  obtain ⟨zq21, zt22, hzq21, hr, azt22, bzt22, czt22, dzt22⟩ := adcB_s hr
  refine j_k (kc' := zt22.2.2.1 + zq21.2.2.1) (ks' := zt22.2.2.2 + zq21.2.2.2) (by omega) (by omega) ?_
  refine j_callIA (As := []) (rest := [.ref ((((((nx + 1) + zq6.2.2.1) + 1) + zq11.2.2.1) + 1) + zq16.2.2.1), .ref this]) (st1 := [.ref ((((((nx + 1) + zq6.2.2.1) + 1) + zq11.2.2.1) + 1) + zq16.2.2.1), .ref this]) (pc' := 60) C wm_275 rfl (c_X2_init hzq21) yw_X2_init wm_274 rfl rfl (Nat.le_of_ble_eq_true rfl) ⟨by decide, by decide⟩ dX8_init_57 rfl rfl ?_
  obtain ⟨zc23, hzc23, hr⟩ := ob hr
  refine j_putF (pc' := 63) C hin dX8_init_60 fw_X8_43 rfl rfl hzc23 rfl ?_
  obtain ⟨azf24, bzf25, czf26, dzf27⟩ := some4 hr
  refine j_k (kc' := 0) (ks' := 0) (by omega) (by omega) ?_
  rw [show nx + q.2.2.1 = ((((((((nx + 1) + zq6.2.2.1) + 1) + zq11.2.2.1) + 1) + zq16.2.2.1) + 1) + zq21.2.2.1) by omega, (bzt4.trans (bzt7.trans (bzt9.trans (bzt12.trans (bzt14.trans (bzt17.trans (bzt19.trans (bzt22.trans bzf25))))))))] at hq
  exact j_vret C hq hret dX8_init_63
def m_X8_become (nx : Nat) (ce : Ce) (this : Nat) (p1 : Nat) : Option (Unit × Ce × Nat × Nat) :=
  (gA ce 6 0 p1).bind fun zx1 =>
  (pV ce 6 0 this (.ref zx1)).bind fun zc2 =>
  (gI zc2 6 1 p1).bind fun zx3 =>
  (pV zc2 6 1 this (.int zx3)).bind fun zc4 =>
  (gI zc4 6 2 p1).bind fun zx5 =>
  (pV zc4 6 2 this (.int zx5)).bind fun zc6 =>
  (gI zc6 6 3 p1).bind fun zx7 =>
  (pV zc6 6 3 this (.int zx7)).bind fun zc8 =>
  (gI zc8 6 4 p1).bind fun zx9 =>
  (pV zc8 6 4 this (.int zx9)).bind fun zc10 =>
  (gI zc10 6 5 p1).bind fun zx11 =>
  (pV zc10 6 5 this (.int zx11)).bind fun zc12 =>
  (gI zc12 6 6 p1).bind fun zx13 =>
  (pV zc12 6 6 this (.int zx13)).bind fun zc14 =>
  (gI zc14 6 7 p1).bind fun zx15 =>
  (pV zc14 6 7 this (.int zx15)).bind fun zc16 =>
  (gI zc16 6 8 p1).bind fun zx17 =>
  (pV zc16 6 8 this (.int zx17)).bind fun zc18 =>
  (gI zc18 6 9 p1).bind fun zx19 =>
  (pV zc18 6 9 this (.int zx19)).bind fun zc20 =>
  (gI zc20 6 10 p1).bind fun zx21 =>
  (pV zc20 6 10 this (.int zx21)).bind fun zc22 =>
  (gA zc22 6 11 this).bind fun zx23 =>
  (gA zc22 6 11 p1).bind fun zx24 =>
  (rcv zc22 2 zx23).bind fun zz25 =>
  adcB (m_X2_become nx zc22 zx23 zx24) fun zq26 =>
  (gA zq26.2.1 6 12 this).bind fun zx28 =>
  (gA zq26.2.1 6 12 p1).bind fun zx29 =>
  (rcv zq26.2.1 4 zx28).bind fun zz30 =>
  adcB (m_X6_become (nx + zq26.2.2.1) zq26.2.1 zx28 zx29) fun zq31 =>
  (gA zq31.2.1 6 13 this).bind fun zx33 =>
  (gA zq31.2.1 6 13 p1).bind fun zx34 =>
  (rcv zq31.2.1 0 zx33).bind fun zz35 =>
  (m_X0_become zq31.2.1 zx33 zx34).bind fun zq36 =>
  (gA zq36.2 6 14 this).bind fun zx37 =>
  (gA zq36.2 6 14 p1).bind fun zx38 =>
  (rcv zq36.2 2 zx37).bind fun zz39 =>
  adcB (m_X2_become ((nx + zq26.2.2.1) + zq31.2.2.1) zq36.2 zx37 zx38) fun zq40 =>
  some ((), zq40.2.1, 0, 0)
set_option maxRecDepth 100000 in
set_option maxHeartbeats 4000000 in
theorem c_X8_become {nx : Nat} {ce : Ce} {this : Nat} {p1 : Nat} {q : Unit × Ce × Nat × Nat} (hr : m_X8_become nx ce this p1 = some q) : Ct yX8_become cX8_become 2 none 4 124 q.2.2.1 q.2.2.2 [.ref this, .ref p1] nx ce none q.2.1 := by
  unfold m_X8_become at hr
  refine ct_of (by decide) (Nat.le_of_ble_eq_true rfl) ?_
  intro G C hq hret hin
  show Jd G q.2.2.1 q.2.2.2 nx ce 0 [(0, .ref this), (1, .ref p1)] []
  refine j_aload_n (q := 0) (pc' := 1) C dX8_become_0 rfl rfl rfl ?_
  refine j_aload_n (q := 1) (pc' := 2) C dX8_become_1 rfl rfl rfl ?_
  obtain ⟨zx1, hzx1, hr⟩ := ob hr
  refine j_getA (pc' := 5) C dX8_become_2 fl_X8_9 hzx1 rfl ?_
  obtain ⟨zc2, hzc2, hr⟩ := ob hr
  refine j_put (pc' := 8) C dX8_become_5 fw_X8_9 rfl rfl hzc2 rfl ?_
  refine j_aload_n (q := 0) (pc' := 9) C dX8_become_8 rfl rfl rfl ?_
  refine j_aload_n (q := 1) (pc' := 10) C dX8_become_9 rfl rfl rfl ?_
  obtain ⟨zx3, hzx3, hr⟩ := ob hr
  refine j_getI (pc' := 13) C dX8_become_10 fl_X8_46 hzx3 rfl ?_
  obtain ⟨zc4, hzc4, hr⟩ := ob hr
  refine j_put (pc' := 16) C dX8_become_13 fw_X8_46 rfl rfl hzc4 rfl ?_
  refine j_aload_n (q := 0) (pc' := 17) C dX8_become_16 rfl rfl rfl ?_
  refine j_aload_n (q := 1) (pc' := 18) C dX8_become_17 rfl rfl rfl ?_
  obtain ⟨zx5, hzx5, hr⟩ := ob hr
  refine j_getI (pc' := 21) C dX8_become_18 fl_X8_49 hzx5 rfl ?_
  obtain ⟨zc6, hzc6, hr⟩ := ob hr
  refine j_put (pc' := 24) C dX8_become_21 fw_X8_49 rfl rfl hzc6 rfl ?_
  refine j_aload_n (q := 0) (pc' := 25) C dX8_become_24 rfl rfl rfl ?_
  refine j_aload_n (q := 1) (pc' := 26) C dX8_become_25 rfl rfl rfl ?_
  obtain ⟨zx7, hzx7, hr⟩ := ob hr
  refine j_getI (pc' := 29) C dX8_become_26 fl_X8_52 hzx7 rfl ?_
  obtain ⟨zc8, hzc8, hr⟩ := ob hr
  refine j_put (pc' := 32) C dX8_become_29 fw_X8_52 rfl rfl hzc8 rfl ?_
  refine j_aload_n (q := 0) (pc' := 33) C dX8_become_32 rfl rfl rfl ?_
  refine j_aload_n (q := 1) (pc' := 34) C dX8_become_33 rfl rfl rfl ?_
  obtain ⟨zx9, hzx9, hr⟩ := ob hr
  refine j_getI (pc' := 37) C dX8_become_34 fl_X8_15 hzx9 rfl ?_
  obtain ⟨zc10, hzc10, hr⟩ := ob hr
  refine j_put (pc' := 40) C dX8_become_37 fw_X8_15 rfl rfl hzc10 rfl ?_
  refine j_aload_n (q := 0) (pc' := 41) C dX8_become_40 rfl rfl rfl ?_
  refine j_aload_n (q := 1) (pc' := 42) C dX8_become_41 rfl rfl rfl ?_
  obtain ⟨zx11, hzx11, hr⟩ := ob hr
  refine j_getI (pc' := 45) C dX8_become_42 fl_X8_19 hzx11 rfl ?_
  obtain ⟨zc12, hzc12, hr⟩ := ob hr
  refine j_put (pc' := 48) C dX8_become_45 fw_X8_19 rfl rfl hzc12 rfl ?_
  refine j_aload_n (q := 0) (pc' := 49) C dX8_become_48 rfl rfl rfl ?_
  refine j_aload_n (q := 1) (pc' := 50) C dX8_become_49 rfl rfl rfl ?_
  obtain ⟨zx13, hzx13, hr⟩ := ob hr
  refine j_getI (pc' := 53) C dX8_become_50 fl_X8_55 hzx13 rfl ?_
  obtain ⟨zc14, hzc14, hr⟩ := ob hr
  refine j_put (pc' := 56) C dX8_become_53 fw_X8_55 rfl rfl hzc14 rfl ?_
  refine j_aload_n (q := 0) (pc' := 57) C dX8_become_56 rfl rfl rfl ?_
  refine j_aload_n (q := 1) (pc' := 58) C dX8_become_57 rfl rfl rfl ?_
  obtain ⟨zx15, hzx15, hr⟩ := ob hr
  refine j_getI (pc' := 61) C dX8_become_58 fl_X8_58 hzx15 rfl ?_
  obtain ⟨zc16, hzc16, hr⟩ := ob hr
  refine j_put (pc' := 64) C dX8_become_61 fw_X8_58 rfl rfl hzc16 rfl ?_
  refine j_aload_n (q := 0) (pc' := 65) C dX8_become_64 rfl rfl rfl ?_
  refine j_aload_n (q := 1) (pc' := 66) C dX8_become_65 rfl rfl rfl ?_
  obtain ⟨zx17, hzx17, hr⟩ := ob hr
  refine j_getI (pc' := 69) C dX8_become_66 fl_X8_61 hzx17 rfl ?_
  obtain ⟨zc18, hzc18, hr⟩ := ob hr
  refine j_put (pc' := 72) C dX8_become_69 fw_X8_61 rfl rfl hzc18 rfl ?_
  refine j_aload_n (q := 0) (pc' := 73) C dX8_become_72 rfl rfl rfl ?_
  refine j_aload_n (q := 1) (pc' := 74) C dX8_become_73 rfl rfl rfl ?_
  obtain ⟨zx19, hzx19, hr⟩ := ob hr
  refine j_getI (pc' := 77) C dX8_become_74 fl_X8_64 hzx19 rfl ?_
  obtain ⟨zc20, hzc20, hr⟩ := ob hr
  refine j_put (pc' := 80) C dX8_become_77 fw_X8_64 rfl rfl hzc20 rfl ?_
  refine j_aload_n (q := 0) (pc' := 81) C dX8_become_80 rfl rfl rfl ?_
  refine j_aload_n (q := 1) (pc' := 82) C dX8_become_81 rfl rfl rfl ?_
  obtain ⟨zx21, hzx21, hr⟩ := ob hr
  refine j_getI (pc' := 85) C dX8_become_82 fl_X8_67 hzx21 rfl ?_
  obtain ⟨zc22, hzc22, hr⟩ := ob hr
  refine j_put (pc' := 88) C dX8_become_85 fw_X8_67 rfl rfl hzc22 rfl ?_
  refine j_aload_n (q := 0) (pc' := 89) C dX8_become_88 rfl rfl rfl ?_
  obtain ⟨zx23, hzx23, hr⟩ := ob hr
  refine j_getA (pc' := 92) C dX8_become_89 fl_X8_25 hzx23 rfl ?_
  refine j_aload_n (q := 1) (pc' := 93) C dX8_become_92 rfl rfl rfl ?_
  obtain ⟨zx24, hzx24, hr⟩ := ob hr
  refine j_getA (pc' := 96) C dX8_become_93 fl_X8_25 hzx24 rfl ?_
  obtain ⟨zz25, hzz25, hr⟩ := ob hr
  obtain ⟨zq26, zt27, hzq26, hr, azt27, bzt27, czt27, dzt27⟩ := adcB_s hr
  refine j_k (kc' := zt27.2.2.1 + zq26.2.2.1) (ks' := zt27.2.2.2 + zq26.2.2.2) (by omega) (by omega) ?_
  obtain ⟨fhzz25, hzz25⟩ := rcv_sp hzz25
  refine j_callVA (ci := 2) (As := [.ref zx24]) (rest := []) (st1 := []) (pc' := 99) C ⟨wm_735, wm_736⟩ rfl hzz25 (c_X2_become hzq26) yw_X2_become wm_734 rfl rfl (Nat.le_of_ble_eq_true rfl) ⟨by decide, by decide⟩ dX8_become_96 rfl rfl ?_
  refine j_aload_n (q := 0) (pc' := 100) C dX8_become_99 rfl rfl rfl ?_
  obtain ⟨zx28, hzx28, hr⟩ := ob hr
  refine j_getA (pc' := 103) C dX8_become_100 fl_X8_32 hzx28 rfl ?_
  refine j_aload_n (q := 1) (pc' := 104) C dX8_become_103 rfl rfl rfl ?_
  obtain ⟨zx29, hzx29, hr⟩ := ob hr
  refine j_getA (pc' := 107) C dX8_become_104 fl_X8_32 hzx29 rfl ?_
  obtain ⟨zz30, hzz30, hr⟩ := ob hr
  obtain ⟨zq31, zt32, hzq31, hr, azt32, bzt32, czt32, dzt32⟩ := adcB_s hr
  refine j_k (kc' := zt32.2.2.1 + zq31.2.2.1) (ks' := zt32.2.2.2 + zq31.2.2.2) (by omega) (by omega) ?_
  obtain ⟨fhzz30, hzz30⟩ := rcv_sp hzz30
  refine j_callVA (ci := 4) (As := [.ref zx29]) (rest := []) (st1 := []) (pc' := 110) C ⟨wm_753, wm_754⟩ rfl hzz30 (c_X6_become hzq31) yw_X6_become wm_752 rfl rfl (Nat.le_of_ble_eq_true rfl) ⟨by decide, by decide⟩ dX8_become_107 rfl rfl ?_
  refine j_aload_n (q := 0) (pc' := 111) C dX8_become_110 rfl rfl rfl ?_
  obtain ⟨zx33, hzx33, hr⟩ := ob hr
  refine j_getA (pc' := 114) C dX8_become_111 fl_X8_39 hzx33 rfl ?_
  refine j_aload_n (q := 1) (pc' := 115) C dX8_become_114 rfl rfl rfl ?_
  obtain ⟨zx34, hzx34, hr⟩ := ob hr
  refine j_getA (pc' := 118) C dX8_become_115 fl_X8_39 hzx34 rfl ?_
  obtain ⟨zz35, hzz35, hr⟩ := ob hr
  obtain ⟨zq36, hzq36, hr⟩ := ob hr
  obtain ⟨fhzz35, hzz35⟩ := rcv_sp hzz35
  refine j_callV (ci := 0) (As := [.ref zx34]) (rest := []) (st1 := []) (pc' := 121) C ⟨wm_763, wm_764⟩ rfl hzz35 (c_X0_become (nx := ((nx + zq26.2.2.1) + zq31.2.2.1)) hzq36) yw_X0_become wm_762 rfl rfl (Nat.le_of_ble_eq_true rfl) ⟨by decide, by decide⟩ dX8_become_118 rfl rfl ?_
  refine j_aload_n (q := 0) (pc' := 122) C dX8_become_121 rfl rfl rfl ?_
  obtain ⟨zx37, hzx37, hr⟩ := ob hr
  refine j_getA (pc' := 125) C dX8_become_122 fl_X8_43 hzx37 rfl ?_
  refine j_aload_n (q := 1) (pc' := 126) C dX8_become_125 rfl rfl rfl ?_
  obtain ⟨zx38, hzx38, hr⟩ := ob hr
  refine j_getA (pc' := 129) C dX8_become_126 fl_X8_43 hzx38 rfl ?_
  obtain ⟨zz39, hzz39, hr⟩ := ob hr
  obtain ⟨zq40, zt41, hzq40, hr, azt41, bzt41, czt41, dzt41⟩ := adcB_s hr
  refine j_k (kc' := zt41.2.2.1 + zq40.2.2.1) (ks' := zt41.2.2.2 + zq40.2.2.2) (by omega) (by omega) ?_
  obtain ⟨fhzz39, hzz39⟩ := rcv_sp hzz39
  refine j_callVA (ci := 2) (As := [.ref zx38]) (rest := []) (st1 := []) (pc' := 132) C ⟨wm_735, wm_736⟩ rfl hzz39 (c_X2_become hzq40) yw_X2_become wm_734 rfl rfl (Nat.le_of_ble_eq_true rfl) ⟨by decide, by decide⟩ dX8_become_129 rfl rfl ?_
  obtain ⟨azf42, bzf43, czf44, dzf45⟩ := some4 hr
  refine j_k (kc' := 0) (ks' := 0) (by omega) (by omega) ?_
  rw [show nx + q.2.2.1 = (((nx + zq26.2.2.1) + zq31.2.2.1) + zq40.2.2.1) by omega, (bzt27.trans (bzt32.trans (bzt41.trans bzf43)))] at hq
  exact j_vret C hq hret dX8_become_132
def m_X8_begin (ce : Ce) (this : Nat) (p1 : Nat) : Option (Unit × Ce) :=
  (pV ce 6 0 this (.ref p1)).bind fun zc1 =>
  (pV zc1 6 1 this (.int (0 : Int32))).bind fun zc2 =>
  (pV zc2 6 3 this (.int (0 : Int32))).bind fun zc3 =>
  (pV zc3 6 4 this (.int (1 : Int32))).bind fun zc4 =>
  (pV zc4 6 5 this (.int (1 : Int32))).bind fun zc5 =>
  (pV zc5 6 6 this (.int (0 : Int32))).bind fun zc6 =>
  (pV zc6 6 7 this (.int (0 : Int32))).bind fun zc7 =>
  (pV zc7 6 8 this (.int (0 : Int32))).bind fun zc8 =>
  (pV zc8 6 9 this (.int (0 : Int32))).bind fun zc9 =>
  (pV zc9 6 10 this (.int (0 : Int32))).bind fun zc10 =>
  (gA zc10 6 11 this).bind fun zx11 =>
  (pV zc10 2 3 zx11 (.int (0 : Int32))).bind fun zc12 =>
  (gA zc12 6 12 this).bind fun zx13 =>
  (pV zc12 4 1 zx13 (.int (0 : Int32))).bind fun zc14 =>
  (gA zc14 6 13 this).bind fun zx15 =>
  (rcv zc14 0 zx15).bind fun zz16 =>
  (m_X0_clear zc14 zx15).bind fun zq17 =>
  (gA zq17.2 6 14 this).bind fun zx18 =>
  (pV zq17.2 2 3 zx18 (.int (0 : Int32))).bind fun zc19 =>
  some ((), zc19)
set_option maxRecDepth 100000 in
set_option maxHeartbeats 4000000 in
theorem c_X8_begin {nx : Nat} {ce : Ce} {this : Nat} {p1 : Nat} {q : Unit × Ce} (hr : m_X8_begin ce this p1 = some q) : Ct yX8_begin cX8_begin 2 none 2 43 0 0 [.ref this, .ref p1] nx ce none q.2 := by
  unfold m_X8_begin at hr
  refine ct_of (by decide) (Nat.le_of_ble_eq_true rfl) ?_
  intro G C hq hret hin
  show Jd G 0 0 nx ce 0 [(0, .ref this), (1, .ref p1)] []
  refine j_aload_n (q := 0) (pc' := 1) C dX8_begin_0 rfl rfl rfl ?_
  refine j_aload_n (q := 1) (pc' := 2) C dX8_begin_1 rfl rfl rfl ?_
  obtain ⟨zc1, hzc1, hr⟩ := ob hr
  refine j_put (pc' := 5) C dX8_begin_2 fw_X8_9 rfl rfl hzc1 rfl ?_
  refine j_aload_n (q := 0) (pc' := 6) C dX8_begin_5 rfl rfl rfl ?_
  refine j_iconst (v := 0) (pc' := 7) C dX8_begin_6 kI_0 rfl ?_
  obtain ⟨zc2, hzc2, hr⟩ := ob hr
  refine j_put (pc' := 10) C dX8_begin_7 fw_X8_46 rfl rfl hzc2 rfl ?_
  refine j_aload_n (q := 0) (pc' := 11) C dX8_begin_10 rfl rfl rfl ?_
  refine j_iconst (v := 0) (pc' := 12) C dX8_begin_11 kI_0 rfl ?_
  obtain ⟨zc3, hzc3, hr⟩ := ob hr
  refine j_put (pc' := 15) C dX8_begin_12 fw_X8_52 rfl rfl hzc3 rfl ?_
  refine j_aload_n (q := 0) (pc' := 16) C dX8_begin_15 rfl rfl rfl ?_
  refine j_iconst (v := 1) (pc' := 17) C dX8_begin_16 kI_1 rfl ?_
  obtain ⟨zc4, hzc4, hr⟩ := ob hr
  refine j_put (pc' := 20) C dX8_begin_17 fw_X8_15 rfl rfl hzc4 rfl ?_
  refine j_aload_n (q := 0) (pc' := 21) C dX8_begin_20 rfl rfl rfl ?_
  refine j_iconst (v := 1) (pc' := 22) C dX8_begin_21 kI_1 rfl ?_
  obtain ⟨zc5, hzc5, hr⟩ := ob hr
  refine j_put (pc' := 25) C dX8_begin_22 fw_X8_19 rfl rfl hzc5 rfl ?_
  refine j_aload_n (q := 0) (pc' := 26) C dX8_begin_25 rfl rfl rfl ?_
  refine j_iconst (v := 0) (pc' := 27) C dX8_begin_26 kI_0 rfl ?_
  obtain ⟨zc6, hzc6, hr⟩ := ob hr
  refine j_put (pc' := 30) C dX8_begin_27 fw_X8_55 rfl rfl hzc6 rfl ?_
  refine j_aload_n (q := 0) (pc' := 31) C dX8_begin_30 rfl rfl rfl ?_
  refine j_iconst (v := 0) (pc' := 32) C dX8_begin_31 kI_0 rfl ?_
  obtain ⟨zc7, hzc7, hr⟩ := ob hr
  refine j_put (pc' := 35) C dX8_begin_32 fw_X8_58 rfl rfl hzc7 rfl ?_
  refine j_aload_n (q := 0) (pc' := 36) C dX8_begin_35 rfl rfl rfl ?_
  refine j_iconst (v := 0) (pc' := 37) C dX8_begin_36 kI_0 rfl ?_
  obtain ⟨zc8, hzc8, hr⟩ := ob hr
  refine j_put (pc' := 40) C dX8_begin_37 fw_X8_61 rfl rfl hzc8 rfl ?_
  refine j_aload_n (q := 0) (pc' := 41) C dX8_begin_40 rfl rfl rfl ?_
  refine j_iconst (v := 0) (pc' := 42) C dX8_begin_41 kI_0 rfl ?_
  obtain ⟨zc9, hzc9, hr⟩ := ob hr
  refine j_put (pc' := 45) C dX8_begin_42 fw_X8_64 rfl rfl hzc9 rfl ?_
  refine j_aload_n (q := 0) (pc' := 46) C dX8_begin_45 rfl rfl rfl ?_
  refine j_iconst (v := 0) (pc' := 47) C dX8_begin_46 kI_0 rfl ?_
  obtain ⟨zc10, hzc10, hr⟩ := ob hr
  refine j_put (pc' := 50) C dX8_begin_47 fw_X8_67 rfl rfl hzc10 rfl ?_
  refine j_aload_n (q := 0) (pc' := 51) C dX8_begin_50 rfl rfl rfl ?_
  obtain ⟨zx11, hzx11, hr⟩ := ob hr
  refine j_getA (pc' := 54) C dX8_begin_51 fl_X8_25 hzx11 rfl ?_
  refine j_iconst (v := 0) (pc' := 55) C dX8_begin_54 kI_0 rfl ?_
  obtain ⟨zc12, hzc12, hr⟩ := ob hr
  refine j_put (pc' := 58) C dX8_begin_55 fw_X8_80 rfl rfl hzc12 rfl ?_
  refine j_aload_n (q := 0) (pc' := 59) C dX8_begin_58 rfl rfl rfl ?_
  obtain ⟨zx13, hzx13, hr⟩ := ob hr
  refine j_getA (pc' := 62) C dX8_begin_59 fl_X8_32 hzx13 rfl ?_
  refine j_iconst (v := 0) (pc' := 63) C dX8_begin_62 kI_0 rfl ?_
  obtain ⟨zc14, hzc14, hr⟩ := ob hr
  refine j_put (pc' := 66) C dX8_begin_63 fw_X8_83 rfl rfl hzc14 rfl ?_
  refine j_aload_n (q := 0) (pc' := 67) C dX8_begin_66 rfl rfl rfl ?_
  obtain ⟨zx15, hzx15, hr⟩ := ob hr
  refine j_getA (pc' := 70) C dX8_begin_67 fl_X8_39 hzx15 rfl ?_
  obtain ⟨zz16, hzz16, hr⟩ := ob hr
  obtain ⟨zq17, hzq17, hr⟩ := ob hr
  obtain ⟨fhzz16, hzz16⟩ := rcv_sp hzz16
  refine j_callV (ci := 0) (As := []) (rest := []) (st1 := []) (pc' := 73) C ⟨wm_772, wm_773⟩ rfl hzz16 (c_X0_clear (nx := nx) hzq17) yw_X0_clear wm_771 rfl rfl (Nat.le_of_ble_eq_true rfl) ⟨by decide, by decide⟩ dX8_begin_70 rfl rfl ?_
  refine j_aload_n (q := 0) (pc' := 74) C dX8_begin_73 rfl rfl rfl ?_
  obtain ⟨zx18, hzx18, hr⟩ := ob hr
  refine j_getA (pc' := 77) C dX8_begin_74 fl_X8_43 hzx18 rfl ?_
  refine j_iconst (v := 0) (pc' := 78) C dX8_begin_77 kI_0 rfl ?_
  obtain ⟨zc19, hzc19, hr⟩ := ob hr
  refine j_put (pc' := 81) C dX8_begin_78 fw_X8_80 rfl rfl hzc19 rfl ?_
  have hr := Option.some.inj hr
  subst hr
  exact j_vret C hq hret dX8_begin_81
def m_X8_tellAim (ce : Ce) (this : Nat) (p1 : Int32) : Option (Unit × Ce) :=
  (pV ce 6 1 this (.int p1)).bind fun zc1 =>
  (gA zc1 6 12 this).bind fun zx2 =>
  (pV zc1 4 1 zx2 (.int (0 : Int32))).bind fun zc3 =>
  (pV zc3 6 3 this (.int (0 : Int32))).bind fun zc4 =>
  (gA zc4 6 11 this).bind fun zx5 =>
  (rcv zc4 2 zx5).bind fun zz6 =>
  (m_X2_highestFrame zc4 zx5).bind fun zx7 =>
  (m_J9_max_7cf53 (1 : Int32) zx7).bind fun zx8 =>
  (pV zc4 6 4 this (.int zx8)).bind fun zc9 =>
  some ((), zc9)
set_option maxRecDepth 100000 in
set_option maxHeartbeats 4000000 in
theorem c_X8_tellAim {nx : Nat} {ce : Ce} {this : Nat} {p1 : Int32} {q : Unit × Ce} (hr : m_X8_tellAim ce this p1 = some q) : Ct yX8_tellAim cX8_tellAim 2 none 1 21 0 0 [.ref this, .int p1] nx ce none q.2 := by
  unfold m_X8_tellAim at hr
  refine ct_of (by decide) (Nat.le_of_ble_eq_true rfl) ?_
  intro G C hq hret hin
  show Jd G 0 0 nx ce 0 [(0, .ref this), (1, .int p1)] []
  refine j_aload_n (q := 0) (pc' := 1) C dX8_tellAim_0 rfl rfl rfl ?_
  refine j_iload_n (q := 1) (pc' := 2) C dX8_tellAim_1 rfl rfl rfl ?_
  obtain ⟨zc1, hzc1, hr⟩ := ob hr
  refine j_put (pc' := 5) C dX8_tellAim_2 fw_X8_46 rfl rfl hzc1 rfl ?_
  refine j_aload_n (q := 0) (pc' := 6) C dX8_tellAim_5 rfl rfl rfl ?_
  obtain ⟨zx2, hzx2, hr⟩ := ob hr
  refine j_getA (pc' := 9) C dX8_tellAim_6 fl_X8_32 hzx2 rfl ?_
  refine j_iconst (v := 0) (pc' := 10) C dX8_tellAim_9 kI_0 rfl ?_
  obtain ⟨zc3, hzc3, hr⟩ := ob hr
  refine j_put (pc' := 13) C dX8_tellAim_10 fw_X8_83 rfl rfl hzc3 rfl ?_
  refine j_aload_n (q := 0) (pc' := 14) C dX8_tellAim_13 rfl rfl rfl ?_
  refine j_iconst (v := 0) (pc' := 15) C dX8_tellAim_14 kI_0 rfl ?_
  obtain ⟨zc4, hzc4, hr⟩ := ob hr
  refine j_put (pc' := 18) C dX8_tellAim_15 fw_X8_52 rfl rfl hzc4 rfl ?_
  refine j_aload_n (q := 0) (pc' := 19) C dX8_tellAim_18 rfl rfl rfl ?_
  refine j_iconst (v := 1) (pc' := 20) C dX8_tellAim_19 kI_1 rfl ?_
  refine j_aload_n (q := 0) (pc' := 21) C dX8_tellAim_20 rfl rfl rfl ?_
  obtain ⟨zx5, hzx5, hr⟩ := ob hr
  refine j_getA (pc' := 24) C dX8_tellAim_21 fl_X8_25 hzx5 rfl ?_
  obtain ⟨zz6, hzz6, hr⟩ := ob hr
  obtain ⟨zx7, hzx7, hr⟩ := ob hr
  obtain ⟨fhzz6, hzz6⟩ := rcv_sp hzz6
  refine j_callV (ci := 2) (As := []) (rest := [.int (1 : Int32), .ref this]) (st1 := [.int zx7, .int (1 : Int32), .ref this]) (pc' := 27) C ⟨wm_798, wm_799⟩ rfl hzz6 (c_X2_highestFrame (nx := nx) hzx7) yw_X2_highestFrame wm_797 rfl rfl (Nat.le_of_ble_eq_true rfl) ⟨by decide, by decide⟩ dX8_tellAim_24 rfl rfl ?_
  obtain ⟨zx8, hzx8, hr⟩ := ob hr
  refine j_callS (As := [.int (1 : Int32), .int zx7]) (rest := [.ref this]) (st1 := [.int zx8, .ref this]) (pc' := 30) C wm_592 (c_J9_max_7cf53 (nx := nx) (ce := zc4) hzx8) yw_J9_max_7cf53 wm_801 rfl rfl (Nat.le_of_ble_eq_true rfl) ⟨by decide, by decide⟩ dX8_tellAim_27 rfl rfl ?_
  obtain ⟨zc9, hzc9, hr⟩ := ob hr
  refine j_put (pc' := 33) C dX8_tellAim_30 fw_X8_15 rfl rfl hzc9 rfl ?_
  have hr := Option.some.inj hr
  subst hr
  exact j_vret C hq hret dX8_tellAim_33
def m_X8_isOver (ce : Ce) (this : Nat) : Option (Int32) :=
  (gI ce 6 3 this).bind fun zx1 =>
  if zx1 = (3 : Int32) then
    some (1 : Int32)
  else
    (gI ce 6 3 this).bind fun zx2 =>
    if zx2 = (4 : Int32) then
      some (1 : Int32)
    else
      some (0 : Int32)
set_option maxRecDepth 100000 in
set_option maxHeartbeats 4000000 in
theorem c_X8_isOver {nx : Nat} {ce : Ce} {this : Nat} {q : Int32} (hr : m_X8_isOver ce this = some q) : Ct yX8_isOver cX8_isOver 1 (some .boolean) 0 0 0 0 [.ref this] nx ce (some (.int q)) ce := by
  unfold m_X8_isOver at hr
  refine ct_of (by decide) (Nat.le_of_ble_eq_true rfl) ?_
  intro G C hq hret hin
  show Jd G 0 0 nx ce 0 [(0, .ref this)] []
  refine j_aload_n (q := 0) (pc' := 1) C dX8_isOver_0 rfl rfl rfl ?_
  obtain ⟨zx1, hzx1, hr⟩ := ob hr
  refine j_getI (pc' := 4) C dX8_isOver_1 fl_X8_52 hzx1 rfl ?_
  refine j_iconst (v := 3) (pc' := 5) C dX8_isOver_4 kI_3 rfl ?_
  refine j_ic_eq (tgt := 16) (pc' := 8) C dX8_isOver_5 rfl rfl (fun hc => ?_) (fun hc => ?_)
  · have hr := ifT hc hr
    clear hc
    refine j_iconst (v := 1) (pc' := 17) C dX8_isOver_16 kI_1 rfl ?_
    refine j_goto (tgt := 21) C dX8_isOver_17 rfl ?_
    have hr := Option.some.inj hr
    subst hr
    exact j_zret C hq hret rfl dX8_isOver_21
  · have hr := ifF hc hr
    clear hc
    refine j_aload_n (q := 0) (pc' := 9) C dX8_isOver_8 rfl rfl rfl ?_
    obtain ⟨zx2, hzx2, hr⟩ := ob hr
    refine j_getI (pc' := 12) C dX8_isOver_9 fl_X8_52 hzx2 rfl ?_
    refine j_iconst (v := 4) (pc' := 13) C dX8_isOver_12 kI_4 rfl ?_
    refine j_ic_ne (tgt := 20) (pc' := 16) C dX8_isOver_13 rfl rfl (fun hc => ?_) (fun hc => ?_)
    · have hr := ifF hc hr
      clear hc
      refine j_iconst (v := 0) (pc' := 21) C dX8_isOver_20 kI_0 rfl ?_
      have hr := Option.some.inj hr
      subst hr
      exact j_zret C hq hret rfl dX8_isOver_21
    · have hr := ifT hc hr
      clear hc
      refine j_iconst (v := 1) (pc' := 17) C dX8_isOver_16 kI_1 rfl ?_
      refine j_goto (tgt := 21) C dX8_isOver_17 rfl ?_
      have hr := Option.some.inj hr
      subst hr
      exact j_zret C hq hret rfl dX8_isOver_21
def m_X8_hasFrame (ce : Ce) (this : Nat) (p1 : Int32) : Option (Int32) :=
  if p1 < 0 then
    some (0 : Int32)
  else
    (gI ce 6 4 this).bind fun zx1 =>
    if zx1 < p1 then
      some (0 : Int32)
    else
      some (1 : Int32)
set_option maxRecDepth 100000 in
set_option maxHeartbeats 4000000 in
theorem c_X8_hasFrame {nx : Nat} {ce : Ce} {this : Nat} {p1 : Int32} {q : Int32} (hr : m_X8_hasFrame ce this p1 = some q) : Ct yX8_hasFrame cX8_hasFrame 2 (some .boolean) 0 0 0 0 [.ref this, .int p1] nx ce (some (.int q)) ce := by
  unfold m_X8_hasFrame at hr
  refine ct_of (by decide) (Nat.le_of_ble_eq_true rfl) ?_
  intro G C hq hret hin
  show Jd G 0 0 nx ce 0 [(0, .ref this), (1, .int p1)] []
  refine j_iload_n (q := 1) (pc' := 1) C dX8_hasFrame_0 rfl rfl rfl ?_
  refine j_if_lt (tgt := 16) (pc' := 4) C dX8_hasFrame_1 rfl rfl (fun hc => ?_) (fun hc => ?_)
  · have hr := ifT hc hr
    clear hc
    refine j_iconst (v := 0) (pc' := 17) C dX8_hasFrame_16 kI_0 rfl ?_
    have hr := Option.some.inj hr
    subst hr
    exact j_zret C hq hret rfl dX8_hasFrame_17
  · have hr := ifF hc hr
    clear hc
    refine j_iload_n (q := 1) (pc' := 5) C dX8_hasFrame_4 rfl rfl rfl ?_
    refine j_aload_n (q := 0) (pc' := 6) C dX8_hasFrame_5 rfl rfl rfl ?_
    obtain ⟨zx1, hzx1, hr⟩ := ob hr
    refine j_getI (pc' := 9) C dX8_hasFrame_6 fl_X8_15 hzx1 rfl ?_
    refine j_ic_gt (tgt := 16) (pc' := 12) C dX8_hasFrame_9 rfl rfl (fun hc => ?_) (fun hc => ?_)
    · have hr := ifT hc hr
      clear hc
      refine j_iconst (v := 0) (pc' := 17) C dX8_hasFrame_16 kI_0 rfl ?_
      have hr := Option.some.inj hr
      subst hr
      exact j_zret C hq hret rfl dX8_hasFrame_17
    · have hr := ifF hc hr
      clear hc
      refine j_iconst (v := 1) (pc' := 13) C dX8_hasFrame_12 kI_1 rfl ?_
      refine j_goto (tgt := 17) C dX8_hasFrame_13 rfl ?_
      have hr := Option.some.inj hr
      subst hr
      exact j_zret C hq hret rfl dX8_hasFrame_17
def m_X8_hasCubeFrame (ce : Ce) (this : Nat) (p1 : Int32) : Option (Int32) :=
  if p1 < (1 : Int32) then
    some (0 : Int32)
  else
    (gI ce 6 4 this).bind fun zx1 =>
    if zx1 < p1 then
      some (0 : Int32)
    else
      some (1 : Int32)
set_option maxRecDepth 100000 in
set_option maxHeartbeats 4000000 in
theorem c_X8_hasCubeFrame {nx : Nat} {ce : Ce} {this : Nat} {p1 : Int32} {q : Int32} (hr : m_X8_hasCubeFrame ce this p1 = some q) : Ct yX8_hasCubeFrame cX8_hasCubeFrame 2 (some .boolean) 0 0 0 0 [.ref this, .int p1] nx ce (some (.int q)) ce := by
  unfold m_X8_hasCubeFrame at hr
  refine ct_of (by decide) (Nat.le_of_ble_eq_true rfl) ?_
  intro G C hq hret hin
  show Jd G 0 0 nx ce 0 [(0, .ref this), (1, .int p1)] []
  refine j_iload_n (q := 1) (pc' := 1) C dX8_hasCubeFrame_0 rfl rfl rfl ?_
  refine j_iconst (v := 1) (pc' := 2) C dX8_hasCubeFrame_1 kI_1 rfl ?_
  refine j_ic_lt (tgt := 17) (pc' := 5) C dX8_hasCubeFrame_2 rfl rfl (fun hc => ?_) (fun hc => ?_)
  · have hr := ifT hc hr
    clear hc
    refine j_iconst (v := 0) (pc' := 18) C dX8_hasCubeFrame_17 kI_0 rfl ?_
    have hr := Option.some.inj hr
    subst hr
    exact j_zret C hq hret rfl dX8_hasCubeFrame_18
  · have hr := ifF hc hr
    clear hc
    refine j_iload_n (q := 1) (pc' := 6) C dX8_hasCubeFrame_5 rfl rfl rfl ?_
    refine j_aload_n (q := 0) (pc' := 7) C dX8_hasCubeFrame_6 rfl rfl rfl ?_
    obtain ⟨zx1, hzx1, hr⟩ := ob hr
    refine j_getI (pc' := 10) C dX8_hasCubeFrame_7 fl_X8_15 hzx1 rfl ?_
    refine j_ic_gt (tgt := 17) (pc' := 13) C dX8_hasCubeFrame_10 rfl rfl (fun hc => ?_) (fun hc => ?_)
    · have hr := ifT hc hr
      clear hc
      refine j_iconst (v := 0) (pc' := 18) C dX8_hasCubeFrame_17 kI_0 rfl ?_
      have hr := Option.some.inj hr
      subst hr
      exact j_zret C hq hret rfl dX8_hasCubeFrame_18
    · have hr := ifF hc hr
      clear hc
      refine j_iconst (v := 1) (pc' := 14) C dX8_hasCubeFrame_13 kI_1 rfl ?_
      refine j_goto (tgt := 18) C dX8_hasCubeFrame_14 rfl ?_
      have hr := Option.some.inj hr
      subst hr
      exact j_zret C hq hret rfl dX8_hasCubeFrame_18
def m_X8_statesWithin (ce : Ce) (this : Nat) (p1 : Int32) : Option (Int64) :=
  if 0 < p1 then
    (gA ce 6 0 this).bind fun zx1 =>
    (gJ ce 3 2 zx1).bind fun zx2 =>
    (gA ce 6 11 this).bind fun zx3 =>
    (gA ce 6 11 this).bind fun zx4 =>
    (rcv ce 2 zx4).bind fun zz5 =>
    (m_X2_startOf ce zx4 p1).bind fun zx6 =>
    (rcv ce 2 zx3).bind fun zz7 =>
    (m_X2_unionFrom ce zx3 zx6).bind fun zx8 =>
    some (zx2 &&& (zx8 ^^^ (-1 : Int64)))
  else
    (gA ce 6 0 this).bind fun zx9 =>
    (gJ ce 3 3 zx9).bind fun zx10 =>
    some zx10
set_option maxRecDepth 100000 in
set_option maxHeartbeats 4000000 in
theorem c_X8_statesWithin {nx : Nat} {ce : Ce} {this : Nat} {p1 : Int32} {q : Int64} (hr : m_X8_statesWithin ce this p1 = some q) : Ct yX8_statesWithin cX8_statesWithin 2 (some .long) 1 24 0 0 [.ref this, .int p1] nx ce (some (.long q)) ce := by
  unfold m_X8_statesWithin at hr
  refine ct_of (by decide) (Nat.le_of_ble_eq_true rfl) ?_
  intro G C hq hret hin
  show Jd G 0 0 nx ce 0 [(0, .ref this), (1, .int p1)] []
  refine j_iload_n (q := 1) (pc' := 1) C dX8_statesWithin_0 rfl rfl rfl ?_
  refine j_if_gt (tgt := 12) (pc' := 4) C dX8_statesWithin_1 rfl rfl (fun hc => ?_) (fun hc => ?_)
  · have hr := ifT hc hr
    clear hc
    refine j_aload_n (q := 0) (pc' := 13) C dX8_statesWithin_12 rfl rfl rfl ?_
    obtain ⟨zx1, hzx1, hr⟩ := ob hr
    refine j_getA (pc' := 16) C dX8_statesWithin_13 fl_X8_9 hzx1 rfl ?_
    obtain ⟨zx2, hzx2, hr⟩ := ob hr
    refine j_getJ (pc' := 19) C dX8_statesWithin_16 fl_X8_111 hzx2 rfl ?_
    refine j_aload_n (q := 0) (pc' := 20) C dX8_statesWithin_19 rfl rfl rfl ?_
    obtain ⟨zx3, hzx3, hr⟩ := ob hr
    refine j_getA (pc' := 23) C dX8_statesWithin_20 fl_X8_25 hzx3 rfl ?_
    refine j_aload_n (q := 0) (pc' := 24) C dX8_statesWithin_23 rfl rfl rfl ?_
    obtain ⟨zx4, hzx4, hr⟩ := ob hr
    refine j_getA (pc' := 27) C dX8_statesWithin_24 fl_X8_25 hzx4 rfl ?_
    refine j_iload_n (q := 1) (pc' := 28) C dX8_statesWithin_27 rfl rfl rfl ?_
    obtain ⟨zz5, hzz5, hr⟩ := ob hr
    obtain ⟨zx6, hzx6, hr⟩ := ob hr
    obtain ⟨fhzz5, hzz5⟩ := rcv_sp hzz5
    refine j_callV (ci := 2) (As := [.int p1]) (rest := [.ref zx3, .long zx2]) (st1 := [.int zx6, .ref zx3, .long zx2]) (pc' := 31) C ⟨wm_845, wm_846⟩ rfl hzz5 (c_X2_startOf (nx := nx) hzx6) yw_X2_startOf wm_844 rfl rfl (Nat.le_of_ble_eq_true rfl) ⟨by decide, by decide⟩ dX8_statesWithin_28 rfl rfl ?_
    obtain ⟨zz7, hzz7, hr⟩ := ob hr
    obtain ⟨zx8, hzx8, hr⟩ := ob hr
    obtain ⟨fhzz7, hzz7⟩ := rcv_sp hzz7
    refine j_callV (ci := 2) (As := [.int zx6]) (rest := [.long zx2]) (st1 := [.long zx8, .long zx2]) (pc' := 34) C ⟨wm_849, wm_850⟩ rfl hzz7 (c_X2_unionFrom (nx := nx) hzx8) yw_X2_unionFrom wm_848 rfl rfl (Nat.le_of_ble_eq_true rfl) ⟨by decide, by decide⟩ dX8_statesWithin_31 rfl rfl ?_
    refine j_ldc2 (pc' := 37) C dX8_statesWithin_34 wm_852 rfl ?_
    refine j_lxor (pc' := 38) C dX8_statesWithin_37 rfl ?_
    refine j_land (pc' := 39) C dX8_statesWithin_38 rfl ?_
    have hr := Option.some.inj hr
    subst hr
    exact j_lret C hq hret dX8_statesWithin_39
  · have hr := ifF hc hr
    clear hc
    refine j_aload_n (q := 0) (pc' := 5) C dX8_statesWithin_4 rfl rfl rfl ?_
    obtain ⟨zx9, hzx9, hr⟩ := ob hr
    refine j_getA (pc' := 8) C dX8_statesWithin_5 fl_X8_9 hzx9 rfl ?_
    obtain ⟨zx10, hzx10, hr⟩ := ob hr
    refine j_getJ (pc' := 11) C dX8_statesWithin_8 fl_X8_107 hzx10 rfl ?_
    have hr := Option.some.inj hr
    subst hr
    exact j_lret C hq hret dX8_statesWithin_11
def m_X8_badWithin (ce : Ce) (this : Nat) (p1 : Int32) : Option (Int64) :=
  (rcv ce 6 this).bind fun zz1 =>
  (m_X8_aimStates ce this).bind fun zx2 =>
  (rcv ce 6 this).bind fun zz3 =>
  (m_X8_statesWithin ce this p1).bind fun zx4 =>
  some (zx2 &&& zx4)
set_option maxRecDepth 100000 in
set_option maxHeartbeats 4000000 in
theorem c_X8_badWithin {nx : Nat} {ce : Ce} {this : Nat} {p1 : Int32} {q : Int64} (hr : m_X8_badWithin ce this p1 = some q) : Ct yX8_badWithin cX8_badWithin 2 (some .long) 2 45 0 0 [.ref this, .int p1] nx ce (some (.long q)) ce := by
  unfold m_X8_badWithin at hr
  refine ct_of (by decide) (Nat.le_of_ble_eq_true rfl) ?_
  intro G C hq hret hin
  show Jd G 0 0 nx ce 0 [(0, .ref this), (1, .int p1)] []
  refine j_aload_n (q := 0) (pc' := 1) C dX8_badWithin_0 rfl rfl rfl ?_
  obtain ⟨zz1, hzz1, hr⟩ := ob hr
  obtain ⟨zx2, hzx2, hr⟩ := ob hr
  obtain ⟨fhzz1, hzz1⟩ := rcv_sp hzz1
  refine j_callV (ci := 6) (As := []) (rest := []) (st1 := [.long zx2]) (pc' := 4) C ⟨wm_904, wm_905⟩ rfl hzz1 (c_X8_aimStates (nx := nx) hzx2) yw_X8_aimStates wm_903 rfl rfl (Nat.le_of_ble_eq_true rfl) ⟨by decide, by decide⟩ dX8_badWithin_1 rfl rfl ?_
  refine j_aload_n (q := 0) (pc' := 5) C dX8_badWithin_4 rfl rfl rfl ?_
  refine j_iload_n (q := 1) (pc' := 6) C dX8_badWithin_5 rfl rfl rfl ?_
  obtain ⟨zz3, hzz3, hr⟩ := ob hr
  obtain ⟨zx4, hzx4, hr⟩ := ob hr
  obtain ⟨fhzz3, hzz3⟩ := rcv_sp hzz3
  refine j_callV (ci := 6) (As := [.int p1]) (rest := [.long zx2]) (st1 := [.long zx4, .long zx2]) (pc' := 9) C ⟨wm_841, wm_842⟩ rfl hzz3 (c_X8_statesWithin (nx := nx) hzx4) yw_X8_statesWithin wm_840 rfl rfl (Nat.le_of_ble_eq_true rfl) ⟨by decide, by decide⟩ dX8_badWithin_6 rfl rfl ?_
  refine j_land (pc' := 10) C dX8_badWithin_9 rfl ?_
  have hr := Option.some.inj hr
  subst hr
  exact j_lret C hq hret dX8_badWithin_10
def m_X8_soughtStates (ce : Ce) (this : Nat) : Option (Int64) :=
  (gI ce 6 4 this).bind fun zx1 =>
  (rcv ce 6 this).bind fun zz2 =>
  (m_X8_badWithin ce this zx1).bind fun zx3 =>
  (it (fun (zs4 : Int64 × Int64 × Int32) =>
    if (8 : Int32) ≤ zs4.2.2 then
      some (Sum.inr zs4.2.1)
    else
      some (Sum.inl ((zs4.1 &&& ((zs4.1 &&& (-zs4.1)) ^^^ (-1 : Int64))), (zs4.2.1 ||| (zs4.1 &&& (-zs4.1))), (zs4.2.2 + (1 : Int32))))
  ) FU (zx3, (0 : Int64), (0 : Int32))).bind fun (zo5 : Int64) =>
  some zo5
set_option maxRecDepth 100000 in
set_option maxHeartbeats 4000000 in
theorem c_X8_soughtStates {nx : Nat} {ce : Ce} {this : Nat} {q : Int64} (hr : m_X8_soughtStates ce this = some q) : Ct yX8_soughtStates cX8_soughtStates 8 (some .long) 3 66 0 0 [.ref this] nx ce (some (.long q)) ce := by
  unfold m_X8_soughtStates at hr
  refine ct_of (by decide) (Nat.le_of_ble_eq_true rfl) ?_
  intro G C hq hret hin
  show Jd G 0 0 nx ce 0 [(0, .ref this)] []
  refine j_aload_n (q := 0) (pc' := 1) C dX8_soughtStates_0 rfl rfl rfl ?_
  refine j_aload_n (q := 0) (pc' := 2) C dX8_soughtStates_1 rfl rfl rfl ?_
  obtain ⟨zx1, hzx1, hr⟩ := ob hr
  refine j_getI (pc' := 5) C dX8_soughtStates_2 fl_X8_15 hzx1 rfl ?_
  obtain ⟨zz2, hzz2, hr⟩ := ob hr
  obtain ⟨zx3, hzx3, hr⟩ := ob hr
  obtain ⟨fhzz2, hzz2⟩ := rcv_sp hzz2
  refine j_callV (ci := 6) (As := [.int zx1]) (rest := []) (st1 := [.long zx3]) (pc' := 8) C ⟨wm_900, wm_901⟩ rfl hzz2 (c_X8_badWithin (nx := nx) hzx3) yw_X8_badWithin wm_899 rfl rfl (Nat.le_of_ble_eq_true rfl) ⟨by decide, by decide⟩ dX8_soughtStates_5 rfl rfl ?_
  refine j_lstore_n (lv' := [(1, .long zx3), (0, .ref this)]) (pc' := 9) C dX8_soughtStates_8 rfl (by decide) rfl rfl ?_
  refine j_lconst (v := 0) (pc' := 10) C dX8_soughtStates_9 kL_0 rfl ?_
  refine j_lstore_n (lv' := [(3, .long (0 : Int64)), (1, .long zx3), (0, .ref this)]) (pc' := 11) C dX8_soughtStates_10 rfl (by decide) rfl rfl ?_
  refine j_iconst (v := 0) (pc' := 12) C dX8_soughtStates_11 kI_0 rfl ?_
  refine j_istore (lv' := [(5, .int (0 : Int32)), (3, .long (0 : Int64)), (1, .long zx3), (0, .ref this)]) (pc' := 14) C dX8_soughtStates_12 (by decide) rfl rfl ?_
  obtain ⟨zo5, hzo5, rzo5⟩ := ob hr
  have kzo5 : Jd G 0 0 nx ce 47 [(3, .long zo5)] [] := by
    have hr := rzo5
    refine j_lload_n (q := 0) (pc' := 48) C dX8_soughtStates_47 rfl rfl rfl ?_
    have hr := Option.some.inj hr
    subst hr
    exact j_lret C hq hret dX8_soughtStates_48
  refine j_lv (lv' := [(1, .long zx3), (3, .long (0 : Int64)), (5, .int (0 : Int32))]) [2, 1, 0] rfl ?_
  refine it_J (J := (fun (zs4 : Int64 × Int64 × Int32) => Jd G 0 0 nx ce 14 [(1, .long zs4.1), (3, .long zs4.2.1), (5, .int zs4.2.2)] [])) ?_ hzo5
  clear hzo5
  intro zs4 zr6 hr izs4 ezs4
  refine j_iload (q := 2) (pc' := 16) C dX8_soughtStates_14 rfl rfl ?_
  refine j_bipush (v := 8) (pc' := 18) C dX8_soughtStates_16 kB_8 rfl ?_
  refine j_ic_ge (tgt := 47) (pc' := 21) C dX8_soughtStates_18 rfl rfl (fun hc => ?_) (fun hc => ?_)
  · have hr := ifT hc hr
    clear hc
    have hr := ezs4 _ (Option.some.inj hr).symm
    subst hr
    exact j_lv [1] rfl kzo5
  · have hr := ifF hc hr
    clear hc
    refine j_lload_n (q := 0) (pc' := 22) C dX8_soughtStates_21 rfl rfl rfl ?_
    refine j_lload_n (q := 0) (pc' := 23) C dX8_soughtStates_22 rfl rfl rfl ?_
    refine j_lneg (pc' := 24) C dX8_soughtStates_23 rfl ?_
    refine j_land (pc' := 25) C dX8_soughtStates_24 rfl ?_
    refine j_lstore (lv' := [(6, .long (zs4.1 &&& (-zs4.1))), (1, .long zs4.1), (3, .long zs4.2.1), (5, .int zs4.2.2)]) (pc' := 27) C dX8_soughtStates_25 (by decide) rfl rfl ?_
    refine j_lload_n (q := 2) (pc' := 28) C dX8_soughtStates_27 rfl rfl rfl ?_
    refine j_lload (q := 0) (pc' := 30) C dX8_soughtStates_28 rfl rfl ?_
    refine j_lor (pc' := 31) C dX8_soughtStates_30 rfl ?_
    refine j_lstore_n (lv' := [(3, .long (zs4.2.1 ||| (zs4.1 &&& (-zs4.1)))), (6, .long (zs4.1 &&& (-zs4.1))), (1, .long zs4.1), (5, .int zs4.2.2)]) (pc' := 32) C dX8_soughtStates_31 rfl (by decide) rfl rfl ?_
    refine j_lload_n (q := 2) (pc' := 33) C dX8_soughtStates_32 rfl rfl rfl ?_
    refine j_lload (q := 1) (pc' := 35) C dX8_soughtStates_33 rfl rfl ?_
    refine j_ldc2 (pc' := 38) C dX8_soughtStates_35 wm_852 rfl ?_
    refine j_lxor (pc' := 39) C dX8_soughtStates_38 rfl ?_
    refine j_land (pc' := 40) C dX8_soughtStates_39 rfl ?_
    refine j_lstore_n (lv' := [(1, .long (zs4.1 &&& ((zs4.1 &&& (-zs4.1)) ^^^ (-1 : Int64)))), (3, .long (zs4.2.1 ||| (zs4.1 &&& (-zs4.1)))), (6, .long (zs4.1 &&& (-zs4.1))), (5, .int zs4.2.2)]) (pc' := 41) C dX8_soughtStates_40 rfl (by decide) rfl rfl ?_
    refine j_iinc (q := 3) (v := 1) (lv' := [(5, .int (zs4.2.2 + (1 : Int32))), (1, .long (zs4.1 &&& ((zs4.1 &&& (-zs4.1)) ^^^ (-1 : Int64)))), (3, .long (zs4.2.1 ||| (zs4.1 &&& (-zs4.1)))), (6, .long (zs4.1 &&& (-zs4.1)))]) (pc' := 44) C dX8_soughtStates_41 rfl kI_1 (by decide) rfl rfl ?_
    refine j_goto (tgt := 14) C dX8_soughtStates_44 rfl ?_
    have hr := izs4 ((zs4.1 &&& ((zs4.1 &&& (-zs4.1)) ^^^ (-1 : Int64))), (zs4.2.1 ||| (zs4.1 &&& (-zs4.1))), (zs4.2.2 + (1 : Int32))) (Option.some.inj hr).symm
    exact j_lv [1, 2, 0] rfl hr
def m_X8_keepsOut (ce : Ce) (this : Nat) (p1 : Int32) (p2 : Int64) : Option (Int32) :=
  (m_X3_statesOf ce p1).bind fun zx1 =>
  (gA ce 6 0 this).bind fun zx2 =>
  (rcv ce 3 zx2).bind fun zz3 =>
  (m_X5_before ce zx2 zx1).bind fun zx4 =>
  if (lg_cmp ((p2 &&& (zx1 ^^^ (-1 : Int64))) &&& zx4) (0 : Int64)) = 0 then
    some (1 : Int32)
  else
    some (0 : Int32)
set_option maxRecDepth 100000 in
set_option maxHeartbeats 4000000 in
theorem c_X8_keepsOut {nx : Nat} {ce : Ce} {this : Nat} {p1 : Int32} {p2 : Int64} {q : Int32} (hr : m_X8_keepsOut ce this p1 p2 = some q) : Ct yX8_keepsOut cX8_keepsOut 6 (some .boolean) 2 46 0 0 [.ref this, .int p1, .long p2] nx ce (some (.int q)) ce := by
  unfold m_X8_keepsOut at hr
  refine ct_of (by decide) (Nat.le_of_ble_eq_true rfl) ?_
  intro G C hq hret hin
  show Jd G 0 0 nx ce 0 [(0, .ref this), (1, .int p1), (2, .long p2)] []
  refine j_iload_n (q := 1) (pc' := 1) C dX8_keepsOut_0 rfl rfl rfl ?_
  obtain ⟨zx1, hzx1, hr⟩ := ob hr
  refine j_callS (As := [.int p1]) (rest := []) (st1 := [.long zx1]) (pc' := 4) C wm_830 (c_X3_statesOf (nx := nx) hzx1) yw_X3_statesOf wm_829 rfl rfl (Nat.le_of_ble_eq_true rfl) ⟨by decide, by decide⟩ dX8_keepsOut_1 rfl rfl ?_
  refine j_lstore (lv' := [(4, .long zx1), (0, .ref this), (1, .int p1), (2, .long p2)]) (pc' := 6) C dX8_keepsOut_4 (by decide) rfl rfl ?_
  refine j_lload_n (q := 3) (pc' := 7) C dX8_keepsOut_6 rfl rfl rfl ?_
  refine j_lload (q := 0) (pc' := 9) C dX8_keepsOut_7 rfl rfl ?_
  refine j_ldc2 (pc' := 12) C dX8_keepsOut_9 wm_852 rfl ?_
  refine j_lxor (pc' := 13) C dX8_keepsOut_12 rfl ?_
  refine j_land (pc' := 14) C dX8_keepsOut_13 rfl ?_
  refine j_aload_n (q := 1) (pc' := 15) C dX8_keepsOut_14 rfl rfl rfl ?_
  obtain ⟨zx2, hzx2, hr⟩ := ob hr
  refine j_getA (pc' := 18) C dX8_keepsOut_15 fl_X8_9 hzx2 rfl ?_
  refine j_lload (q := 0) (pc' := 20) C dX8_keepsOut_18 rfl rfl ?_
  obtain ⟨zz3, hzz3, hr⟩ := ob hr
  obtain ⟨zx4, hzx4, hr⟩ := ob hr
  obtain ⟨fhzz3, hzz3⟩ := rcv_sp hzz3
  refine j_callV (ci := 3) (As := [.long zx1]) (rest := [.long (p2 &&& (zx1 ^^^ (-1 : Int64)))]) (st1 := [.long zx4, .long (p2 &&& (zx1 ^^^ (-1 : Int64)))]) (pc' := 23) C ⟨wm_858, wm_859⟩ rfl hzz3 (c_X5_before (nx := nx) hzx4) yw_X5_before wm_857 rfl rfl (Nat.le_of_ble_eq_true rfl) ⟨by decide, by decide⟩ dX8_keepsOut_20 rfl rfl ?_
  refine j_land (pc' := 24) C dX8_keepsOut_23 rfl ?_
  refine j_lconst (v := 0) (pc' := 25) C dX8_keepsOut_24 kL_0 rfl ?_
  refine j_lcmp (pc' := 26) C dX8_keepsOut_25 rfl ?_
  refine j_if_ne (tgt := 33) (pc' := 29) C dX8_keepsOut_26 rfl rfl (fun hc => ?_) (fun hc => ?_)
  · have hr := ifF hc hr
    clear hc
    refine j_iconst (v := 0) (pc' := 34) C dX8_keepsOut_33 kI_0 rfl ?_
    have hr := Option.some.inj hr
    subst hr
    exact j_zret C hq hret rfl dX8_keepsOut_34
  · have hr := ifT hc hr
    clear hc
    refine j_iconst (v := 1) (pc' := 30) C dX8_keepsOut_29 kI_1 rfl ?_
    refine j_goto (tgt := 34) C dX8_keepsOut_30 rfl ?_
    have hr := Option.some.inj hr
    subst hr
    exact j_zret C hq hret rfl dX8_keepsOut_34
def m_X8_hasInit (ce : Ce) (this : Nat) (p1 : Int32) : Option (Int32) :=
  (m_X3_statesOf ce p1).bind fun zx1 =>
  (gA ce 6 0 this).bind fun zx2 =>
  (gJ ce 3 3 zx2).bind fun zx3 =>
  if (lg_cmp (zx1 &&& zx3) (0 : Int64)) = 0 then
    some (0 : Int32)
  else
    some (1 : Int32)
set_option maxRecDepth 100000 in
set_option maxHeartbeats 4000000 in
theorem c_X8_hasInit {nx : Nat} {ce : Ce} {this : Nat} {p1 : Int32} {q : Int32} (hr : m_X8_hasInit ce this p1 = some q) : Ct yX8_hasInit cX8_hasInit 2 (some .boolean) 2 46 0 0 [.ref this, .int p1] nx ce (some (.int q)) ce := by
  unfold m_X8_hasInit at hr
  refine ct_of (by decide) (Nat.le_of_ble_eq_true rfl) ?_
  intro G C hq hret hin
  show Jd G 0 0 nx ce 0 [(0, .ref this), (1, .int p1)] []
  refine j_iload_n (q := 1) (pc' := 1) C dX8_hasInit_0 rfl rfl rfl ?_
  obtain ⟨zx1, hzx1, hr⟩ := ob hr
  refine j_callS (As := [.int p1]) (rest := []) (st1 := [.long zx1]) (pc' := 4) C wm_830 (c_X3_statesOf (nx := nx) hzx1) yw_X3_statesOf wm_829 rfl rfl (Nat.le_of_ble_eq_true rfl) ⟨by decide, by decide⟩ dX8_hasInit_1 rfl rfl ?_
  refine j_aload_n (q := 0) (pc' := 5) C dX8_hasInit_4 rfl rfl rfl ?_
  obtain ⟨zx2, hzx2, hr⟩ := ob hr
  refine j_getA (pc' := 8) C dX8_hasInit_5 fl_X8_9 hzx2 rfl ?_
  obtain ⟨zx3, hzx3, hr⟩ := ob hr
  refine j_getJ (pc' := 11) C dX8_hasInit_8 fl_X8_107 hzx3 rfl ?_
  refine j_land (pc' := 12) C dX8_hasInit_11 rfl ?_
  refine j_lconst (v := 0) (pc' := 13) C dX8_hasInit_12 kL_0 rfl ?_
  refine j_lcmp (pc' := 14) C dX8_hasInit_13 rfl ?_
  refine j_if_eq (tgt := 21) (pc' := 17) C dX8_hasInit_14 rfl rfl (fun hc => ?_) (fun hc => ?_)
  · have hr := ifT hc hr
    clear hc
    refine j_iconst (v := 0) (pc' := 22) C dX8_hasInit_21 kI_0 rfl ?_
    have hr := Option.some.inj hr
    subst hr
    exact j_zret C hq hret rfl dX8_hasInit_22
  · have hr := ifF hc hr
    clear hc
    refine j_iconst (v := 1) (pc' := 18) C dX8_hasInit_17 kI_1 rfl ?_
    refine j_goto (tgt := 22) C dX8_hasInit_18 rfl ?_
    have hr := Option.some.inj hr
    subst hr
    exact j_zret C hq hret rfl dX8_hasInit_22
def m_X8_canBar (ce : Ce) (this : Nat) (p1 : Int32) (p2 : Int32) : Option (Int32) :=
  (gI ce 6 3 this).bind fun zx1 =>
  (
    if zx1 = 0 then
      some (Sum.inr ())
    else
      (gI ce 6 3 this).bind fun zx11 =>
      if zx11 = (1 : Int32) then
        some (Sum.inr ())
      else
        some (Sum.inl (0 : Int32))
  ).bind fun (zj2 : Int32 ⊕ Unit) => Sum.elim (fun wzj2 => some wzj2) (fun vzj2 =>
    (rcv ce 6 this).bind fun zz3 =>
    (m_X8_hasCubeFrame ce this p2).bind fun zx4 =>
    if zx4 = 0 then
      some (0 : Int32)
    else
      (rcv ce 6 this).bind fun zz5 =>
      (m_X8_hasInit ce this p1).bind fun zx6 =>
      if zx6 = 0 then
        (rcv ce 6 this).bind fun zz7 =>
        (m_X8_statesWithin ce this (p2 - (1 : Int32))).bind fun zx8 =>
        (rcv ce 6 this).bind fun zz9 =>
        (m_X8_keepsOut ce this p1 zx8).bind fun zx10 =>
        if zx10 = 0 then
          some (0 : Int32)
        else
          some (1 : Int32)
      else
        some (0 : Int32)
  ) zj2
set_option maxRecDepth 100000 in
set_option maxHeartbeats 4000000 in
theorem c_X8_canBar {nx : Nat} {ce : Ce} {this : Nat} {p1 : Int32} {p2 : Int32} {q : Int32} (hr : m_X8_canBar ce this p1 p2 = some q) : Ct yX8_canBar cX8_canBar 3 (some .boolean) 3 71 0 0 [.ref this, .int p1, .int p2] nx ce (some (.int q)) ce := by
  unfold m_X8_canBar at hr
  refine ct_of (by decide) (Nat.le_of_ble_eq_true rfl) ?_
  intro G C hq hret hin
  show Jd G 0 0 nx ce 0 [(0, .ref this), (1, .int p1), (2, .int p2)] []
  refine j_aload_n (q := 0) (pc' := 1) C dX8_canBar_0 rfl rfl rfl ?_
  obtain ⟨zx1, hzx1, hr⟩ := ob hr
  refine j_getI (pc' := 4) C dX8_canBar_1 fl_X8_52 hzx1 rfl ?_
  obtain ⟨zj2, hzj2, rzj2⟩ := ob hr
  have kzj2 : ∀ vzj2, zj2 = Sum.inr vzj2 → Jd G 0 0 nx ce 15 [(0, .ref this), (1, .int p1), (2, .int p2)] [] := by
    intro vzj2 ezj2
    rw [ezj2] at rzj2
    have hr := elR rzj2
    refine j_aload_n (q := 0) (pc' := 16) C dX8_canBar_15 rfl rfl rfl ?_
    refine j_iload_n (q := 2) (pc' := 17) C dX8_canBar_16 rfl rfl rfl ?_
    obtain ⟨zz3, hzz3, hr⟩ := ob hr
    obtain ⟨zx4, hzx4, hr⟩ := ob hr
    obtain ⟨fhzz3, hzz3⟩ := rcv_sp hzz3
    refine j_callV (ci := 6) (As := [.int p2]) (rest := []) (st1 := [.int zx4]) (pc' := 20) C ⟨wm_822, wm_823⟩ rfl hzz3 (c_X8_hasCubeFrame (nx := nx) hzx4) yw_X8_hasCubeFrame wm_821 rfl rfl (Nat.le_of_ble_eq_true rfl) ⟨by decide, by decide⟩ dX8_canBar_17 rfl rfl ?_
    refine j_if_eq (tgt := 50) (pc' := 23) C dX8_canBar_20 rfl rfl (fun hc => ?_) (fun hc => ?_)
    · have hr := ifT hc hr
      clear hc
      refine j_iconst (v := 0) (pc' := 51) C dX8_canBar_50 kI_0 rfl ?_
      have hr := Option.some.inj hr
      subst hr
      exact j_zret C hq hret rfl dX8_canBar_51
    · have hr := ifF hc hr
      clear hc
      refine j_aload_n (q := 0) (pc' := 24) C dX8_canBar_23 rfl rfl rfl ?_
      refine j_iload_n (q := 1) (pc' := 25) C dX8_canBar_24 rfl rfl rfl ?_
      obtain ⟨zz5, hzz5, hr⟩ := ob hr
      obtain ⟨zx6, hzx6, hr⟩ := ob hr
      obtain ⟨fhzz5, hzz5⟩ := rcv_sp hzz5
      refine j_callV (ci := 6) (As := [.int p1]) (rest := []) (st1 := [.int zx6]) (pc' := 28) C ⟨wm_826, wm_827⟩ rfl hzz5 (c_X8_hasInit (nx := nx) hzx6) yw_X8_hasInit wm_825 rfl rfl (Nat.le_of_ble_eq_true rfl) ⟨by decide, by decide⟩ dX8_canBar_25 rfl rfl ?_
      refine j_if_ne (tgt := 50) (pc' := 31) C dX8_canBar_28 rfl rfl (fun hc => ?_) (fun hc => ?_)
      · have hr := ifF hc hr
        clear hc
        refine j_iconst (v := 0) (pc' := 51) C dX8_canBar_50 kI_0 rfl ?_
        have hr := Option.some.inj hr
        subst hr
        exact j_zret C hq hret rfl dX8_canBar_51
      · have hr := ifT hc hr
        clear hc
        refine j_aload_n (q := 0) (pc' := 32) C dX8_canBar_31 rfl rfl rfl ?_
        refine j_iload_n (q := 1) (pc' := 33) C dX8_canBar_32 rfl rfl rfl ?_
        refine j_aload_n (q := 0) (pc' := 34) C dX8_canBar_33 rfl rfl rfl ?_
        refine j_iload_n (q := 2) (pc' := 35) C dX8_canBar_34 rfl rfl rfl ?_
        refine j_iconst (v := 1) (pc' := 36) C dX8_canBar_35 kI_1 rfl ?_
        refine j_isub (pc' := 37) C dX8_canBar_36 rfl ?_
        obtain ⟨zz7, hzz7, hr⟩ := ob hr
        obtain ⟨zx8, hzx8, hr⟩ := ob hr
        obtain ⟨fhzz7, hzz7⟩ := rcv_sp hzz7
        refine j_callV (ci := 6) (As := [.int (p2 - (1 : Int32))]) (rest := [.int p1, .ref this]) (st1 := [.long zx8, .int p1, .ref this]) (pc' := 40) C ⟨wm_841, wm_842⟩ rfl hzz7 (c_X8_statesWithin (nx := nx) hzx8) yw_X8_statesWithin wm_840 rfl rfl (Nat.le_of_ble_eq_true rfl) ⟨by decide, by decide⟩ dX8_canBar_37 rfl rfl ?_
        obtain ⟨zz9, hzz9, hr⟩ := ob hr
        obtain ⟨zx10, hzx10, hr⟩ := ob hr
        obtain ⟨fhzz9, hzz9⟩ := rcv_sp hzz9
        refine j_callV (ci := 6) (As := [.int p1, .long zx8]) (rest := []) (st1 := [.int zx10]) (pc' := 43) C ⟨wm_854, wm_855⟩ rfl hzz9 (c_X8_keepsOut (nx := nx) hzx10) yw_X8_keepsOut wm_853 rfl rfl (Nat.le_of_ble_eq_true rfl) ⟨by decide, by decide⟩ dX8_canBar_40 rfl rfl ?_
        refine j_if_eq (tgt := 50) (pc' := 46) C dX8_canBar_43 rfl rfl (fun hc => ?_) (fun hc => ?_)
        · have hr := ifT hc hr
          clear hc
          refine j_iconst (v := 0) (pc' := 51) C dX8_canBar_50 kI_0 rfl ?_
          have hr := Option.some.inj hr
          subst hr
          exact j_zret C hq hret rfl dX8_canBar_51
        · have hr := ifF hc hr
          clear hc
          refine j_iconst (v := 1) (pc' := 47) C dX8_canBar_46 kI_1 rfl ?_
          refine j_goto (tgt := 51) C dX8_canBar_47 rfl ?_
          have hr := Option.some.inj hr
          subst hr
          exact j_zret C hq hret rfl dX8_canBar_51
  have hr := hzj2
  clear hzj2
  refine j_if_eq (tgt := 15) (pc' := 7) C dX8_canBar_4 rfl rfl (fun hc => ?_) (fun hc => ?_)
  · have hr := ifT hc hr
    clear hc
    have hr := Option.some.inj hr
    subst hr
    exact j_lv [0, 1, 2] rfl (kzj2 _ rfl)
  · have hr := ifF hc hr
    clear hc
    refine j_aload_n (q := 0) (pc' := 8) C dX8_canBar_7 rfl rfl rfl ?_
    obtain ⟨zx11, hzx11, hr⟩ := ob hr
    refine j_getI (pc' := 11) C dX8_canBar_8 fl_X8_52 hzx11 rfl ?_
    refine j_iconst (v := 1) (pc' := 12) C dX8_canBar_11 kI_1 rfl ?_
    refine j_ic_ne (tgt := 50) (pc' := 15) C dX8_canBar_12 rfl rfl (fun hc => ?_) (fun hc => ?_)
    · have hr := ifF hc hr
      clear hc
      refine j_iconst (v := 0) (pc' := 51) C dX8_canBar_50 kI_0 rfl ?_
      have hr := Option.some.inj hr
      subst hr
      have hr := elL rzj2
      have hr := Option.some.inj hr
      subst hr
      exact j_zret C hq hret rfl dX8_canBar_51
    · have hr := ifT hc hr
      clear hc
      have hr := Option.some.inj hr
      subst hr
      exact j_lv [0, 1, 2] rfl (kzj2 _ rfl)
def m_X8_lowestAhead (ce : Ce) (this : Nat) (p1 : Int32) (p2 : Int32) : Option (Int32) :=
  (rcv ce 6 this).bind fun zz1 =>
  (m_X8_statesWithin ce this p2).bind fun zx2 =>
  (gA ce 6 0 this).bind fun zx3 =>
  (rcv ce 3 zx3).bind fun zz4 =>
  (m_X5_leadingTo ce zx3 p1).bind fun zx5 =>
  (m_X9_lowest ((zx2 &&& zx5) &&& (((1 : Int64) <<< (Int32.toInt64 p1 &&& 63)) ^^^ (-1 : Int64)))).bind fun zx6 =>
  some zx6
set_option maxRecDepth 100000 in
set_option maxHeartbeats 4000000 in
theorem c_X8_lowestAhead {nx : Nat} {ce : Ce} {this : Nat} {p1 : Int32} {p2 : Int32} {q : Int32} (hr : m_X8_lowestAhead ce this p1 p2 = some q) : Ct yX8_lowestAhead cX8_lowestAhead 3 (some .int) 3 64 0 0 [.ref this, .int p1, .int p2] nx ce (some (.int q)) ce := by
  unfold m_X8_lowestAhead at hr
  refine ct_of (by decide) (Nat.le_of_ble_eq_true rfl) ?_
  intro G C hq hret hin
  show Jd G 0 0 nx ce 0 [(0, .ref this), (1, .int p1), (2, .int p2)] []
  refine j_aload_n (q := 0) (pc' := 1) C dX8_lowestAhead_0 rfl rfl rfl ?_
  refine j_iload_n (q := 2) (pc' := 2) C dX8_lowestAhead_1 rfl rfl rfl ?_
  obtain ⟨zz1, hzz1, hr⟩ := ob hr
  obtain ⟨zx2, hzx2, hr⟩ := ob hr
  obtain ⟨fhzz1, hzz1⟩ := rcv_sp hzz1
  refine j_callV (ci := 6) (As := [.int p2]) (rest := []) (st1 := [.long zx2]) (pc' := 5) C ⟨wm_841, wm_842⟩ rfl hzz1 (c_X8_statesWithin (nx := nx) hzx2) yw_X8_statesWithin wm_840 rfl rfl (Nat.le_of_ble_eq_true rfl) ⟨by decide, by decide⟩ dX8_lowestAhead_2 rfl rfl ?_
  refine j_aload_n (q := 0) (pc' := 6) C dX8_lowestAhead_5 rfl rfl rfl ?_
  obtain ⟨zx3, hzx3, hr⟩ := ob hr
  refine j_getA (pc' := 9) C dX8_lowestAhead_6 fl_X8_9 hzx3 rfl ?_
  refine j_iload_n (q := 1) (pc' := 10) C dX8_lowestAhead_9 rfl rfl rfl ?_
  obtain ⟨zz4, hzz4, hr⟩ := ob hr
  obtain ⟨zx5, hzx5, hr⟩ := ob hr
  obtain ⟨fhzz4, hzz4⟩ := rcv_sp hzz4
  refine j_callV (ci := 3) (As := [.int p1]) (rest := [.long zx2]) (st1 := [.long zx5, .long zx2]) (pc' := 13) C ⟨wm_939, wm_940⟩ rfl hzz4 (c_X5_leadingTo (nx := nx) hzx5) yw_X5_leadingTo wm_938 rfl rfl (Nat.le_of_ble_eq_true rfl) ⟨by decide, by decide⟩ dX8_lowestAhead_10 rfl rfl ?_
  refine j_land (pc' := 14) C dX8_lowestAhead_13 rfl ?_
  refine j_lconst (v := 1) (pc' := 15) C dX8_lowestAhead_14 kL_1 rfl ?_
  refine j_iload_n (q := 1) (pc' := 16) C dX8_lowestAhead_15 rfl rfl rfl ?_
  refine j_lshl (pc' := 17) C dX8_lowestAhead_16 rfl ?_
  refine j_ldc2 (pc' := 20) C dX8_lowestAhead_17 wm_852 rfl ?_
  refine j_lxor (pc' := 21) C dX8_lowestAhead_20 rfl ?_
  refine j_land (pc' := 22) C dX8_lowestAhead_21 rfl ?_
  obtain ⟨zx6, hzx6, hr⟩ := ob hr
  refine j_callS (As := [.long ((zx2 &&& zx5) &&& (((1 : Int64) <<< (Int32.toInt64 p1 &&& 63)) ^^^ (-1 : Int64)))]) (rest := []) (st1 := [.int zx6]) (pc' := 25) C wm_943 (c_X9_lowest (nx := nx) (ce := ce) hzx6) yw_X9_lowest wm_942 rfl rfl (Nat.le_of_ble_eq_true rfl) ⟨by decide, by decide⟩ dX8_lowestAhead_22 rfl rfl ?_
  have hr := Option.some.inj hr
  subst hr
  exact j_iret C hq hret dX8_lowestAhead_25
def m_X8_widen (ce : Ce) (this : Nat) (p1 : Int32) (p2 : Int32) (p3 : Int32) : Option (Int32 × Ce) :=
  (gA ce 6 0 this).bind fun zx1 =>
  (gI ce 3 1 zx1).bind fun zx2 =>
  (m_X3_cubeOf (zx2 - (1 : Int32)) p1).bind fun zx3 =>
  (rcv ce 6 this).bind fun zz4 =>
  (m_X8_statesWithin ce this (p2 - (1 : Int32))).bind fun zx5 =>
  (it (fun (zs6 : (Int32 × Int32) × Ce) =>
    (gA zs6.2 6 0 this).bind fun zx9 =>
    (gI zs6.2 3 0 zx9).bind fun zx10 =>
    if zx10 ≤ zs6.1.2 then
      some (Sum.inr (zs6.1.1, zs6.2))
    else
      (gA zs6.2 6 13 this).bind fun zx11 =>
      (gI zs6.2 6 2 this).bind fun zx12 =>
      (gA zs6.2 6 0 this).bind fun zx13 =>
      (gI zs6.2 3 0 zx13).bind fun zx14 =>
      (rcv zs6.2 0 zx11).bind fun zz15 =>
      (m_X0_letterAt zs6.2 zx11 zs6.1.2 zx12 zx14).bind fun zx16 =>
      (m_X3_without zs6.1.1 zx16).bind fun zx17 =>
      (rcv zs6.2 6 this).bind fun zz18 =>
      (m_X8_hasInit zs6.2 this zx17).bind fun zx19 =>
      if zx19 = 0 then
        (
          if p3 = 0 then
            some ((), zs6.2)
          else
            (gI zs6.2 6 8 this).bind fun zx23 =>
            (pV zs6.2 6 8 this (.int (zx23 + (1 : Int32)))).bind fun zc24 =>
            some ((), zc24)
        ).bind fun (zj20 : Unit × Ce) =>
        (rcv zj20.2 6 this).bind fun zz21 =>
        (m_X8_keepsOut zj20.2 this zx17 zx5).bind fun zx22 =>
        if zx22 = 0 then
          some (Sum.inl ((zs6.1.1, (zs6.1.2 + (1 : Int32))), zj20.2))
        else
          some (Sum.inl ((zx17, (zs6.1.2 + (1 : Int32))), zj20.2))
      else
        some (Sum.inl ((zs6.1.1, (zs6.1.2 + (1 : Int32))), zs6.2))
  ) FU ((zx3, (0 : Int32)), ce)).bind fun (zo7 : Int32 × Ce) =>
  some (zo7.1, zo7.2)
set_option maxRecDepth 100000 in
set_option maxHeartbeats 4000000 in
theorem c_X8_widen {nx : Nat} {ce : Ce} {this : Nat} {p1 : Int32} {p2 : Int32} {p3 : Int32} {q : Int32 × Ce} (hr : m_X8_widen ce this p1 p2 p3 = some q) : Ct yX8_widen cX8_widen 9 (some .int) 3 73 0 0 [.ref this, .int p1, .int p2, .int p3] nx ce (some (.int q.1)) q.2 := by
  unfold m_X8_widen at hr
  refine ct_of (by decide) (Nat.le_of_ble_eq_true rfl) ?_
  intro G C hq hret hin
  show Jd G 0 0 nx ce 0 [(0, .ref this), (1, .int p1), (2, .int p2), (3, .int p3)] []
  refine j_aload_n (q := 0) (pc' := 1) C dX8_widen_0 rfl rfl rfl ?_
  obtain ⟨zx1, hzx1, hr⟩ := ob hr
  refine j_getA (pc' := 4) C dX8_widen_1 fl_X8_9 hzx1 rfl ?_
  obtain ⟨zx2, hzx2, hr⟩ := ob hr
  refine j_getI (pc' := 7) C dX8_widen_4 fl_X8_162 hzx2 rfl ?_
  refine j_iconst (v := 1) (pc' := 8) C dX8_widen_7 kI_1 rfl ?_
  refine j_isub (pc' := 9) C dX8_widen_8 rfl ?_
  refine j_iload_n (q := 1) (pc' := 10) C dX8_widen_9 rfl rfl rfl ?_
  obtain ⟨zx3, hzx3, hr⟩ := ob hr
  refine j_callS (As := [.int (zx2 - (1 : Int32)), .int p1]) (rest := []) (st1 := [.int zx3]) (pc' := 13) C wm_815 (c_X3_cubeOf (nx := nx) (ce := ce) hzx3) yw_X3_cubeOf wm_956 rfl rfl (Nat.le_of_ble_eq_true rfl) ⟨by decide, by decide⟩ dX8_widen_10 rfl rfl ?_
  refine j_istore (lv' := [(4, .int zx3), (0, .ref this), (1, .int p1), (2, .int p2), (3, .int p3)]) (pc' := 15) C dX8_widen_13 (by decide) rfl rfl ?_
  refine j_aload_n (q := 1) (pc' := 16) C dX8_widen_15 rfl rfl rfl ?_
  refine j_iload_n (q := 3) (pc' := 17) C dX8_widen_16 rfl rfl rfl ?_
  refine j_iconst (v := 1) (pc' := 18) C dX8_widen_17 kI_1 rfl ?_
  refine j_isub (pc' := 19) C dX8_widen_18 rfl ?_
  obtain ⟨zz4, hzz4, hr⟩ := ob hr
  obtain ⟨zx5, hzx5, hr⟩ := ob hr
  obtain ⟨fhzz4, hzz4⟩ := rcv_sp hzz4
  refine j_callV (ci := 6) (As := [.int (p2 - (1 : Int32))]) (rest := []) (st1 := [.long zx5]) (pc' := 22) C ⟨wm_841, wm_842⟩ rfl hzz4 (c_X8_statesWithin (nx := nx) hzx5) yw_X8_statesWithin wm_840 rfl rfl (Nat.le_of_ble_eq_true rfl) ⟨by decide, by decide⟩ dX8_widen_19 rfl rfl ?_
  refine j_lstore (lv' := [(5, .long zx5), (4, .int zx3), (0, .ref this), (1, .int p1), (2, .int p2), (3, .int p3)]) (pc' := 24) C dX8_widen_22 (by decide) rfl rfl ?_
  refine j_iconst (v := 0) (pc' := 25) C dX8_widen_24 kI_0 rfl ?_
  refine j_istore (lv' := [(7, .int (0 : Int32)), (5, .long zx5), (4, .int zx3), (0, .ref this), (1, .int p1), (2, .int p2), (3, .int p3)]) (pc' := 27) C dX8_widen_25 (by decide) rfl rfl ?_
  obtain ⟨zo7, hzo7, rzo7⟩ := ob hr
  have kzo7 : Jd G 0 0 nx zo7.2 115 [(4, .int zo7.1)] [] := by
    have hr := rzo7
    refine j_iload (q := 0) (pc' := 117) C dX8_widen_115 rfl rfl ?_
    have hr := Option.some.inj hr
    subst hr
    exact j_iret C hq hret dX8_widen_117
  refine j_lv (lv' := [(0, .ref this), (3, .int p3), (4, .int zx3), (5, .long zx5), (7, .int (0 : Int32))]) [3, 6, 2, 1, 0] rfl ?_
  refine it_J (J := (fun (zs6 : (Int32 × Int32) × Ce) => Jd G 0 0 nx zs6.2 27 [(0, .ref this), (3, .int p3), (4, .int zs6.1.1), (5, .long zx5), (7, .int zs6.1.2)] [])) ?_ hzo7
  clear hzo7
  intro zs6 zr8 hr izs6 ezs6
  refine j_iload (q := 4) (pc' := 29) C dX8_widen_27 rfl rfl ?_
  refine j_aload_n (q := 0) (pc' := 30) C dX8_widen_29 rfl rfl rfl ?_
  obtain ⟨zx9, hzx9, hr⟩ := ob hr
  refine j_getA (pc' := 33) C dX8_widen_30 fl_X8_9 hzx9 rfl ?_
  obtain ⟨zx10, hzx10, hr⟩ := ob hr
  refine j_getI (pc' := 36) C dX8_widen_33 fl_X8_168 hzx10 rfl ?_
  refine j_ic_ge (tgt := 115) (pc' := 39) C dX8_widen_36 rfl rfl (fun hc => ?_) (fun hc => ?_)
  · have hr := ifT hc hr
    clear hc
    have hr := ezs6 _ (Option.some.inj hr).symm
    subst hr
    exact j_lv [2] rfl kzo7
  · have hr := ifF hc hr
    clear hc
    refine j_iload (q := 2) (pc' := 41) C dX8_widen_39 rfl rfl ?_
    refine j_aload_n (q := 0) (pc' := 42) C dX8_widen_41 rfl rfl rfl ?_
    obtain ⟨zx11, hzx11, hr⟩ := ob hr
    refine j_getA (pc' := 45) C dX8_widen_42 fl_X8_39 hzx11 rfl ?_
    refine j_iload (q := 4) (pc' := 47) C dX8_widen_45 rfl rfl ?_
    refine j_aload_n (q := 0) (pc' := 48) C dX8_widen_47 rfl rfl rfl ?_
    obtain ⟨zx12, hzx12, hr⟩ := ob hr
    refine j_getI (pc' := 51) C dX8_widen_48 fl_X8_49 hzx12 rfl ?_
    refine j_aload_n (q := 0) (pc' := 52) C dX8_widen_51 rfl rfl rfl ?_
    obtain ⟨zx13, hzx13, hr⟩ := ob hr
    refine j_getA (pc' := 55) C dX8_widen_52 fl_X8_9 hzx13 rfl ?_
    obtain ⟨zx14, hzx14, hr⟩ := ob hr
    refine j_getI (pc' := 58) C dX8_widen_55 fl_X8_168 hzx14 rfl ?_
    obtain ⟨zz15, hzz15, hr⟩ := ob hr
    obtain ⟨zx16, hzx16, hr⟩ := ob hr
    obtain ⟨fhzz15, hzz15⟩ := rcv_sp hzz15
    refine j_callV (ci := 0) (As := [.int zs6.1.2, .int zx12, .int zx14]) (rest := [.int zs6.1.1]) (st1 := [.int zx16, .int zs6.1.1]) (pc' := 61) C ⟨wm_958, wm_959⟩ rfl hzz15 (c_X0_letterAt (nx := nx) hzx16) yw_X0_letterAt wm_957 rfl rfl (Nat.le_of_ble_eq_true rfl) ⟨by decide, by decide⟩ dX8_widen_58 rfl rfl ?_
    obtain ⟨zx17, hzx17, hr⟩ := ob hr
    refine j_callS (As := [.int zs6.1.1, .int zx16]) (rest := []) (st1 := [.int zx17]) (pc' := 64) C wm_970 (c_X3_without (nx := nx) (ce := zs6.2) hzx17) yw_X3_without wm_969 rfl rfl (Nat.le_of_ble_eq_true rfl) ⟨by decide, by decide⟩ dX8_widen_61 rfl rfl ?_
    refine j_istore (lv' := [(8, .int zx17), (0, .ref this), (3, .int p3), (4, .int zs6.1.1), (5, .long zx5), (7, .int zs6.1.2)]) (pc' := 66) C dX8_widen_64 (by decide) rfl rfl ?_
    refine j_aload_n (q := 1) (pc' := 67) C dX8_widen_66 rfl rfl rfl ?_
    refine j_iload (q := 0) (pc' := 69) C dX8_widen_67 rfl rfl ?_
    obtain ⟨zz18, hzz18, hr⟩ := ob hr
    obtain ⟨zx19, hzx19, hr⟩ := ob hr
    obtain ⟨fhzz18, hzz18⟩ := rcv_sp hzz18
    refine j_callV (ci := 6) (As := [.int zx17]) (rest := []) (st1 := [.int zx19]) (pc' := 72) C ⟨wm_826, wm_827⟩ rfl hzz18 (c_X8_hasInit (nx := nx) hzx19) yw_X8_hasInit wm_825 rfl rfl (Nat.le_of_ble_eq_true rfl) ⟨by decide, by decide⟩ dX8_widen_69 rfl rfl ?_
    refine j_if_ne (tgt := 109) (pc' := 75) C dX8_widen_72 rfl rfl (fun hc => ?_) (fun hc => ?_)
    · have hr := ifF hc hr
      clear hc
      refine j_iinc (q := 5) (v := 1) (lv' := [(7, .int (zs6.1.2 + (1 : Int32))), (8, .int zx17), (0, .ref this), (3, .int p3), (4, .int zs6.1.1), (5, .long zx5)]) (pc' := 112) C dX8_widen_109 rfl kI_1 (by decide) rfl rfl ?_
      refine j_goto (tgt := 27) C dX8_widen_112 rfl ?_
      have hr := izs6 ((zs6.1.1, (zs6.1.2 + (1 : Int32))), zs6.2) (Option.some.inj hr).symm
      exact j_lv [2, 3, 4, 5, 0] rfl hr
    · have hr := ifT hc hr
      clear hc
      refine j_iload_n (q := 2) (pc' := 76) C dX8_widen_75 rfl rfl rfl ?_
      obtain ⟨zj20, hzj20, rzj20⟩ := ob hr
      have kzj20 : Jd G 0 0 nx zj20.2 89 [(0, .ref this), (3, .int p3), (4, .int zs6.1.1), (5, .long zx5), (7, .int zs6.1.2), (8, .int zx17)] [] := by
        have hr := rzj20
        refine j_aload_n (q := 0) (pc' := 90) C dX8_widen_89 rfl rfl rfl ?_
        refine j_iload (q := 5) (pc' := 92) C dX8_widen_90 rfl rfl ?_
        refine j_lload (q := 3) (pc' := 94) C dX8_widen_92 rfl rfl ?_
        obtain ⟨zz21, hzz21, hr⟩ := ob hr
        obtain ⟨zx22, hzx22, hr⟩ := ob hr
        obtain ⟨fhzz21, hzz21⟩ := rcv_sp hzz21
        refine j_callV (ci := 6) (As := [.int zx17, .long zx5]) (rest := []) (st1 := [.int zx22]) (pc' := 97) C ⟨wm_854, wm_855⟩ rfl hzz21 (c_X8_keepsOut (nx := nx) hzx22) yw_X8_keepsOut wm_853 rfl rfl (Nat.le_of_ble_eq_true rfl) ⟨by decide, by decide⟩ dX8_widen_94 rfl rfl ?_
        refine j_if_eq (tgt := 105) (pc' := 100) C dX8_widen_97 rfl rfl (fun hc => ?_) (fun hc => ?_)
        · have hr := ifT hc hr
          clear hc
          refine j_iload (q := 2) (pc' := 107) C dX8_widen_105 rfl rfl ?_
          refine j_istore (lv' := [(4, .int zs6.1.1), (0, .ref this), (3, .int p3), (5, .long zx5), (7, .int zs6.1.2), (8, .int zx17)]) (pc' := 109) C dX8_widen_107 (by decide) rfl rfl ?_
          refine j_iinc (q := 4) (v := 1) (lv' := [(7, .int (zs6.1.2 + (1 : Int32))), (4, .int zs6.1.1), (0, .ref this), (3, .int p3), (5, .long zx5), (8, .int zx17)]) (pc' := 112) C dX8_widen_109 rfl kI_1 (by decide) rfl rfl ?_
          refine j_goto (tgt := 27) C dX8_widen_112 rfl ?_
          have hr := izs6 ((zs6.1.1, (zs6.1.2 + (1 : Int32))), zj20.2) (Option.some.inj hr).symm
          exact j_lv [2, 3, 1, 4, 0] rfl hr
        · have hr := ifF hc hr
          clear hc
          refine j_iload (q := 5) (pc' := 102) C dX8_widen_100 rfl rfl ?_
          refine j_goto (tgt := 107) C dX8_widen_102 rfl ?_
          refine j_istore (lv' := [(4, .int zx17), (0, .ref this), (3, .int p3), (5, .long zx5), (7, .int zs6.1.2), (8, .int zx17)]) (pc' := 109) C dX8_widen_107 (by decide) rfl rfl ?_
          refine j_iinc (q := 4) (v := 1) (lv' := [(7, .int (zs6.1.2 + (1 : Int32))), (4, .int zx17), (0, .ref this), (3, .int p3), (5, .long zx5), (8, .int zx17)]) (pc' := 112) C dX8_widen_109 rfl kI_1 (by decide) rfl rfl ?_
          refine j_goto (tgt := 27) C dX8_widen_112 rfl ?_
          have hr := izs6 ((zx17, (zs6.1.2 + (1 : Int32))), zj20.2) (Option.some.inj hr).symm
          exact j_lv [2, 3, 1, 4, 0] rfl hr
      clear rzj20
      have hr := hzj20
      clear hzj20
      refine j_if_eq (tgt := 89) (pc' := 79) C dX8_widen_76 rfl rfl (fun hc => ?_) (fun hc => ?_)
      · have hr := ifT hc hr
        clear hc
        have hr := Option.some.inj hr
        subst hr
        exact j_lv [1, 2, 3, 4, 5, 0] rfl kzj20
      · have hr := ifF hc hr
        clear hc
        refine j_aload_n (q := 1) (pc' := 80) C dX8_widen_79 rfl rfl rfl ?_
        refine j_dup (pc' := 81) C dX8_widen_80 rfl rfl ?_
        obtain ⟨zx23, hzx23, hr⟩ := ob hr
        refine j_getI (pc' := 84) C dX8_widen_81 fl_X8_61 hzx23 rfl ?_
        refine j_iconst (v := 1) (pc' := 85) C dX8_widen_84 kI_1 rfl ?_
        refine j_iadd (pc' := 86) C dX8_widen_85 rfl ?_
        obtain ⟨zc24, hzc24, hr⟩ := ob hr
        refine j_put (pc' := 89) C dX8_widen_86 fw_X8_61 rfl rfl hzc24 rfl ?_
        have hr := Option.some.inj hr
        subst hr
        exact j_lv [1, 2, 3, 4, 5, 0] rfl kzj20
def m_X8_seek (nx : Nat) (ce : Ce) (this : Nat) : Option (Unit × Ce × Nat × Nat) :=
  (rcv ce 6 this).bind fun zz1 =>
  (m_X8_soughtStates ce this).bind fun zx2 =>
  if (lg_cmp zx2 (0 : Int64)) = 0 then
    (gI ce 6 4 this).bind fun zx42 =>
    (pV ce 6 4 this (.int (zx42 + (1 : Int32)))).bind fun zc43 =>
    (pV zc43 6 3 this (.int (2 : Int32))).bind fun zc44 =>
    (pV zc44 6 5 this (.int (1 : Int32))).bind fun zc45 =>
    some ((), zc45, 0, 0)
  else
    adcB (itA (fun (nzs3 : Nat) (czs3 : Ce) (zs3 : Int32) =>
      (gA czs3 6 0 this).bind fun zx14 =>
      (gI czs3 3 1 zx14).bind fun zx15 =>
      if zx15 ≤ zs3 then
        some (Sum.inr (), czs3, 0, 0)
      else
        (m_X9_has zx2 zs3).bind fun zx25 =>
        if zx25 = 0 then
          some (Sum.inl (zs3 + (1 : Int32)), czs3, 0, 0)
        else
          (gI czs3 6 6 this).bind fun zx30 =>
          (pV czs3 6 6 this (.int (zx30 + (1 : Int32)))).bind fun zc31 =>
          (gA zc31 6 12 this).bind fun zx32 =>
          (gI zc31 6 4 this).bind fun zx33 =>
          (gI zc31 6 6 this).bind fun zx34 =>
          (rcv zc31 4 zx32).bind fun zz35 =>
          adcB (m_X6_add nzs3 zc31 zx32 zs3 zx33 zx34 (0 : Int32)) fun zq36 =>
          some (Sum.inl (zs3 + (1 : Int32)), zq36.2.1, 0, 0)
    ) FU nx ce (0 : Int32)) fun (zo4 : Unit × Ce × Nat × Nat) =>
    (pV zo4.2.1 6 3 this (.int (1 : Int32))).bind fun zc9 =>
    some ((), zc9, 0, 0)
set_option maxRecDepth 100000 in
set_option maxHeartbeats 4000000 in
theorem c_X8_seek {nx : Nat} {ce : Ce} {this : Nat} {q : Unit × Ce × Nat × Nat} (hr : m_X8_seek nx ce this = some q) : Ct yX8_seek cX8_seek 4 none 4 129 q.2.2.1 q.2.2.2 [.ref this] nx ce none q.2.1 := by
  unfold m_X8_seek at hr
  refine ct_of (by decide) (Nat.le_of_ble_eq_true rfl) ?_
  intro G C hq hret hin
  show Jd G q.2.2.1 q.2.2.2 nx ce 0 [(0, .ref this)] []
  refine j_aload_n (q := 0) (pc' := 1) C dX8_seek_0 rfl rfl rfl ?_
  obtain ⟨zz1, hzz1, hr⟩ := ob hr
  obtain ⟨zx2, hzx2, hr⟩ := ob hr
  obtain ⟨fhzz1, hzz1⟩ := rcv_sp hzz1
  refine j_callV (ci := 6) (As := []) (rest := []) (st1 := [.long zx2]) (pc' := 4) C ⟨wm_896, wm_897⟩ rfl hzz1 (c_X8_soughtStates (nx := nx) hzx2) yw_X8_soughtStates wm_895 rfl rfl (Nat.le_of_ble_eq_true rfl) ⟨by decide, by decide⟩ dX8_seek_1 rfl rfl ?_
  refine j_lstore_n (lv' := [(1, .long zx2), (0, .ref this)]) (pc' := 5) C dX8_seek_4 rfl (by decide) rfl rfl ?_
  refine j_lload_n (q := 0) (pc' := 6) C dX8_seek_5 rfl rfl rfl ?_
  refine j_lconst (v := 0) (pc' := 7) C dX8_seek_6 kL_0 rfl ?_
  refine j_lcmp (pc' := 8) C dX8_seek_7 rfl ?_
  refine j_if_ne (tgt := 32) (pc' := 11) C dX8_seek_8 rfl rfl (fun hc => ?_) (fun hc => ?_)
  · have hr := ifF hc hr
    clear hc
    refine j_iconst (v := 0) (pc' := 33) C dX8_seek_32 kI_0 rfl ?_
    refine j_istore_n (lv' := [(3, .int (0 : Int32)), (1, .long zx2), (0, .ref this)]) (pc' := 34) C dX8_seek_33 rfl (by decide) rfl rfl ?_
    obtain ⟨zo4, zt5, hzo4, rzo4, azt5, bzt5, czt5, dzt5⟩ := adcB_s hr
    have kzo4 : ∀ (vzo4 : Unit) (czo4 : Ce) (nzo4 : Nat), zo4.1 = vzo4 → zo4.2.1 = czo4 → nx + zo4.2.2.1 = nzo4 → Jd G (zt5.2.2.1) (zt5.2.2.2) nzo4 czo4 86 [(0, .ref this)] [] := by
      rintro _ _ _ rfl rfl rfl
      have hr := rzo4
      refine j_aload_n (q := 0) (pc' := 87) C dX8_seek_86 rfl rfl rfl ?_
      refine j_iconst (v := 1) (pc' := 88) C dX8_seek_87 kI_1 rfl ?_
      obtain ⟨zc9, hzc9, hr⟩ := ob hr
      refine j_put (pc' := 91) C dX8_seek_88 fw_X8_52 rfl rfl hzc9 rfl ?_
      obtain ⟨azf10, bzf11, czf12, dzf13⟩ := some4 hr
      refine j_k (kc' := 0) (ks' := 0) (by omega) (by omega) ?_
      rw [show nx + q.2.2.1 = (nx + zo4.2.2.1) by omega, (bzt5.trans bzf11)] at hq
      exact j_vret C hq hret dX8_seek_91
    refine j_k (kc' := zt5.2.2.1 + zo4.2.2.1) (ks' := zt5.2.2.2 + zo4.2.2.2) (by omega) (by omega) ?_
    refine j_lv (lv' := [(0, .ref this), (1, .long zx2), (3, .int (0 : Int32))]) [2, 1, 0] rfl ?_
    refine itA_Jq (J := fun (nzs3 : Nat) (czs3 : Ce) (zs3 : Int32) (zK7 zS8 : Nat) => Jd G (zt5.2.2.1 + zK7) (zt5.2.2.2 + zS8) nzs3 czs3 34 [(0, .ref this), (1, .long zx2), (3, .int zs3)] []) ?_ hzo4
    clear hzo4
    intro nzs3 czs3 zs3 zb6 zK7 zS8 hr izs3 ezs3
    refine j_k (kc' := zt5.2.2.1 + zK7 + zb6.2.2.1) (ks' := zt5.2.2.2 + zS8 + zb6.2.2.2) (by omega) (by omega) ?_
    refine j_iload_n (q := 2) (pc' := 35) C dX8_seek_34 rfl rfl rfl ?_
    refine j_aload_n (q := 0) (pc' := 36) C dX8_seek_35 rfl rfl rfl ?_
    obtain ⟨zx14, hzx14, hr⟩ := ob hr
    refine j_getA (pc' := 39) C dX8_seek_36 fl_X8_9 hzx14 rfl ?_
    obtain ⟨zx15, hzx15, hr⟩ := ob hr
    refine j_getI (pc' := 42) C dX8_seek_39 fl_X8_162 hzx15 rfl ?_
    refine j_ic_ge (tgt := 86) (pc' := 45) C dX8_seek_42 rfl rfl (fun hc => ?_) (fun hc => ?_)
    · have hr := ifT hc hr
      clear hc
      obtain ⟨azf16, bzf17, czf18, dzf19⟩ := some4 hr
      obtain ⟨azg20, bzg21, czg22, dzg23, ezg24⟩ := ezs3 _ azf16
      refine j_k (kc' := zt5.2.2.1) (ks' := zt5.2.2.2) (by omega) (by omega) ?_
      exact j_lv [0] rfl (kzo4 _ _ _ azg20.symm (bzg21.symm.trans bzf17) (by omega))
    · have hr := ifF hc hr
      clear hc
      refine j_lload_n (q := 1) (pc' := 46) C dX8_seek_45 rfl rfl rfl ?_
      refine j_iload_n (q := 2) (pc' := 47) C dX8_seek_46 rfl rfl rfl ?_
      obtain ⟨zx25, hzx25, hr⟩ := ob hr
      refine j_callS (As := [.long zx2, .int zs3]) (rest := []) (st1 := [.int zx25]) (pc' := 50) C wm_691 (c_X9_has (nx := nzs3) (ce := czs3) hzx25) yw_X9_has wm_908 rfl rfl (Nat.le_of_ble_eq_true rfl) ⟨by decide, by decide⟩ dX8_seek_47 rfl rfl ?_
      refine j_if_eq (tgt := 80) (pc' := 53) C dX8_seek_50 rfl rfl (fun hc => ?_) (fun hc => ?_)
      · have hr := ifT hc hr
        clear hc
        refine j_iinc (q := 2) (v := 1) (lv' := [(3, .int (zs3 + (1 : Int32))), (0, .ref this), (1, .long zx2)]) (pc' := 83) C dX8_seek_80 rfl kI_1 (by decide) rfl rfl ?_
        refine j_goto (tgt := 34) C dX8_seek_83 rfl ?_
        obtain ⟨azf26, bzf27, czf28, dzf29⟩ := some4 hr
        refine j_k (kc' := zt5.2.2.1 + zK7) (ks' := zt5.2.2.2 + zS8) (by omega) (by omega) ?_
        refine j_at (nx' := nzs3 + zb6.2.2.1) (by omega) bzf27.symm ?_
        exact j_lv [1, 2, 0] rfl (izs3 _ azf26)
      · have hr := ifF hc hr
        clear hc
        refine j_aload_n (q := 0) (pc' := 54) C dX8_seek_53 rfl rfl rfl ?_
        refine j_dup (pc' := 55) C dX8_seek_54 rfl rfl ?_
        obtain ⟨zx30, hzx30, hr⟩ := ob hr
        refine j_getI (pc' := 58) C dX8_seek_55 fl_X8_55 hzx30 rfl ?_
        refine j_iconst (v := 1) (pc' := 59) C dX8_seek_58 kI_1 rfl ?_
        refine j_iadd (pc' := 60) C dX8_seek_59 rfl ?_
        obtain ⟨zc31, hzc31, hr⟩ := ob hr
        refine j_put (pc' := 63) C dX8_seek_60 fw_X8_55 rfl rfl hzc31 rfl ?_
        refine j_aload_n (q := 0) (pc' := 64) C dX8_seek_63 rfl rfl rfl ?_
        obtain ⟨zx32, hzx32, hr⟩ := ob hr
        refine j_getA (pc' := 67) C dX8_seek_64 fl_X8_32 hzx32 rfl ?_
        refine j_iload_n (q := 2) (pc' := 68) C dX8_seek_67 rfl rfl rfl ?_
        refine j_aload_n (q := 0) (pc' := 69) C dX8_seek_68 rfl rfl rfl ?_
        obtain ⟨zx33, hzx33, hr⟩ := ob hr
        refine j_getI (pc' := 72) C dX8_seek_69 fl_X8_15 hzx33 rfl ?_
        refine j_aload_n (q := 0) (pc' := 73) C dX8_seek_72 rfl rfl rfl ?_
        obtain ⟨zx34, hzx34, hr⟩ := ob hr
        refine j_getI (pc' := 76) C dX8_seek_73 fl_X8_55 hzx34 rfl ?_
        refine j_iconst (v := 0) (pc' := 77) C dX8_seek_76 kI_0 rfl ?_
        obtain ⟨zz35, hzz35, hr⟩ := ob hr
        obtain ⟨zq36, zt37, hzq36, hr, azt37, bzt37, czt37, dzt37⟩ := adcB_s hr
        refine j_k (kc' := zt5.2.2.1 + zK7 + zt37.2.2.1 + zq36.2.2.1) (ks' := zt5.2.2.2 + zS8 + zt37.2.2.2 + zq36.2.2.2) (by omega) (by omega) ?_
        obtain ⟨fhzz35, hzz35⟩ := rcv_sp hzz35
        refine j_callVA (ci := 4) (As := [.int zs3, .int zx33, .int zx34, .int (0 : Int32)]) (rest := []) (st1 := []) (pc' := 80) C ⟨wm_910, wm_911⟩ rfl hzz35 (c_X6_add hzq36) yw_X6_add wm_909 rfl rfl (Nat.le_of_ble_eq_true rfl) ⟨by decide, by decide⟩ dX8_seek_77 rfl rfl ?_
        refine j_iinc (q := 2) (v := 1) (lv' := [(3, .int (zs3 + (1 : Int32))), (0, .ref this), (1, .long zx2)]) (pc' := 83) C dX8_seek_80 rfl kI_1 (by decide) rfl rfl ?_
        refine j_goto (tgt := 34) C dX8_seek_83 rfl ?_
        obtain ⟨azf38, bzf39, czf40, dzf41⟩ := some4 hr
        refine j_k (kc' := zt5.2.2.1 + zK7) (ks' := zt5.2.2.2 + zS8) (by omega) (by omega) ?_
        refine j_at (nx' := nzs3 + zb6.2.2.1) (by omega) (bzt37.trans bzf39).symm ?_
        exact j_lv [1, 2, 0] rfl (izs3 _ (azt37.trans azf38))
  · have hr := ifT hc hr
    clear hc
    refine j_aload_n (q := 1) (pc' := 12) C dX8_seek_11 rfl rfl rfl ?_
    refine j_dup (pc' := 13) C dX8_seek_12 rfl rfl ?_
    obtain ⟨zx42, hzx42, hr⟩ := ob hr
    refine j_getI (pc' := 16) C dX8_seek_13 fl_X8_15 hzx42 rfl ?_
    refine j_iconst (v := 1) (pc' := 17) C dX8_seek_16 kI_1 rfl ?_
    refine j_iadd (pc' := 18) C dX8_seek_17 rfl ?_
    obtain ⟨zc43, hzc43, hr⟩ := ob hr
    refine j_put (pc' := 21) C dX8_seek_18 fw_X8_15 rfl rfl hzc43 rfl ?_
    refine j_aload_n (q := 1) (pc' := 22) C dX8_seek_21 rfl rfl rfl ?_
    refine j_iconst (v := 2) (pc' := 23) C dX8_seek_22 kI_2 rfl ?_
    obtain ⟨zc44, hzc44, hr⟩ := ob hr
    refine j_put (pc' := 26) C dX8_seek_23 fw_X8_52 rfl rfl hzc44 rfl ?_
    refine j_aload_n (q := 1) (pc' := 27) C dX8_seek_26 rfl rfl rfl ?_
    refine j_iconst (v := 1) (pc' := 28) C dX8_seek_27 kI_1 rfl ?_
    obtain ⟨zc45, hzc45, hr⟩ := ob hr
    refine j_put (pc' := 31) C dX8_seek_28 fw_X8_19 rfl rfl hzc45 rfl ?_
    obtain ⟨azf46, bzf47, czf48, dzf49⟩ := some4 hr
    refine j_k (kc' := 0) (ks' := 0) (by omega) (by omega) ?_
    rw [show nx + q.2.2.1 = nx by omega, bzf47] at hq
    exact j_vret C hq hret dX8_seek_31
def m_X8_highestFor (ce : Ce) (this : Nat) (p1 : Int32) (p2 : Int32) : Option (Int32 × Ce) :=
  (it (fun (zs1 : (Int32 × Int32) × Ce) =>
    (gI zs1.2 6 4 this).bind fun zx4 =>
    if zx4 ≤ zs1.1.1 then
      some (Sum.inr (zs1.1.1, zs1.2))
    else
      if zs1.1.2 = 0 then
        some (Sum.inr (zs1.1.1, zs1.2))
      else
        (gI zs1.2 6 8 this).bind fun zx5 =>
        (pV zs1.2 6 8 this (.int (zx5 + (1 : Int32)))).bind fun zc6 =>
        (rcv zc6 6 this).bind fun zz7 =>
        (m_X8_statesWithin zc6 this zs1.1.1).bind fun zx8 =>
        (rcv zc6 6 this).bind fun zz9 =>
        (m_X8_keepsOut zc6 this p1 zx8).bind fun zx10 =>
        if zx10 = 0 then
          some (Sum.inl (((zs1.1.1 + (0 : Int32)), zx10), zc6))
        else
          some (Sum.inl (((zs1.1.1 + (1 : Int32)), zx10), zc6))
  ) FU ((p2, (1 : Int32)), ce)).bind fun (zo2 : Int32 × Ce) =>
  some (zo2.1, zo2.2)
set_option maxRecDepth 100000 in
set_option maxHeartbeats 4000000 in
theorem c_X8_highestFor {nx : Nat} {ce : Ce} {this : Nat} {p1 : Int32} {p2 : Int32} {q : Int32 × Ce} (hr : m_X8_highestFor ce this p1 p2 = some q) : Ct yX8_highestFor cX8_highestFor 5 (some .int) 3 71 0 0 [.ref this, .int p1, .int p2] nx ce (some (.int q.1)) q.2 := by
  unfold m_X8_highestFor at hr
  refine ct_of (by decide) (Nat.le_of_ble_eq_true rfl) ?_
  intro G C hq hret hin
  show Jd G 0 0 nx ce 0 [(0, .ref this), (1, .int p1), (2, .int p2)] []
  refine j_iload_n (q := 2) (pc' := 1) C dX8_highestFor_0 rfl rfl rfl ?_
  refine j_istore_n (lv' := [(3, .int p2), (0, .ref this), (1, .int p1), (2, .int p2)]) (pc' := 2) C dX8_highestFor_1 rfl (by decide) rfl rfl ?_
  refine j_iconst (v := 1) (pc' := 3) C dX8_highestFor_2 kI_1 rfl ?_
  refine j_istore (lv' := [(4, .int (1 : Int32)), (3, .int p2), (0, .ref this), (1, .int p1), (2, .int p2)]) (pc' := 5) C dX8_highestFor_3 (by decide) rfl rfl ?_
  obtain ⟨zo2, hzo2, rzo2⟩ := ob hr
  have kzo2 : Jd G 0 0 nx zo2.2 56 [(3, .int zo2.1)] [] := by
    have hr := rzo2
    refine j_iload_n (q := 0) (pc' := 57) C dX8_highestFor_56 rfl rfl rfl ?_
    have hr := Option.some.inj hr
    subst hr
    exact j_iret C hq hret dX8_highestFor_57
  refine j_lv (lv' := [(0, .ref this), (1, .int p1), (3, .int p2), (4, .int (1 : Int32))]) [2, 3, 1, 0] rfl ?_
  refine it_J (J := (fun (zs1 : (Int32 × Int32) × Ce) => Jd G 0 0 nx zs1.2 5 [(0, .ref this), (1, .int p1), (3, .int zs1.1.1), (4, .int zs1.1.2)] [])) ?_ hzo2
  clear hzo2
  intro zs1 zr3 hr izs1 ezs1
  refine j_iload_n (q := 2) (pc' := 6) C dX8_highestFor_5 rfl rfl rfl ?_
  refine j_aload_n (q := 0) (pc' := 7) C dX8_highestFor_6 rfl rfl rfl ?_
  obtain ⟨zx4, hzx4, hr⟩ := ob hr
  refine j_getI (pc' := 10) C dX8_highestFor_7 fl_X8_15 hzx4 rfl ?_
  refine j_ic_ge (tgt := 56) (pc' := 13) C dX8_highestFor_10 rfl rfl (fun hc => ?_) (fun hc => ?_)
  · have hr := ifT hc hr
    clear hc
    have hr := ezs1 _ (Option.some.inj hr).symm
    subst hr
    exact j_lv [2] rfl kzo2
  · have hr := ifF hc hr
    clear hc
    refine j_iload (q := 3) (pc' := 15) C dX8_highestFor_13 rfl rfl ?_
    refine j_if_eq (tgt := 56) (pc' := 18) C dX8_highestFor_15 rfl rfl (fun hc => ?_) (fun hc => ?_)
    · have hr := ifT hc hr
      clear hc
      have hr := ezs1 _ (Option.some.inj hr).symm
      subst hr
      exact j_lv [2] rfl kzo2
    · have hr := ifF hc hr
      clear hc
      refine j_aload_n (q := 0) (pc' := 19) C dX8_highestFor_18 rfl rfl rfl ?_
      refine j_dup (pc' := 20) C dX8_highestFor_19 rfl rfl ?_
      obtain ⟨zx5, hzx5, hr⟩ := ob hr
      refine j_getI (pc' := 23) C dX8_highestFor_20 fl_X8_61 hzx5 rfl ?_
      refine j_iconst (v := 1) (pc' := 24) C dX8_highestFor_23 kI_1 rfl ?_
      refine j_iadd (pc' := 25) C dX8_highestFor_24 rfl ?_
      obtain ⟨zc6, hzc6, hr⟩ := ob hr
      refine j_put (pc' := 28) C dX8_highestFor_25 fw_X8_61 rfl rfl hzc6 rfl ?_
      refine j_aload_n (q := 0) (pc' := 29) C dX8_highestFor_28 rfl rfl rfl ?_
      refine j_iload_n (q := 1) (pc' := 30) C dX8_highestFor_29 rfl rfl rfl ?_
      refine j_aload_n (q := 0) (pc' := 31) C dX8_highestFor_30 rfl rfl rfl ?_
      refine j_iload_n (q := 2) (pc' := 32) C dX8_highestFor_31 rfl rfl rfl ?_
      obtain ⟨zz7, hzz7, hr⟩ := ob hr
      obtain ⟨zx8, hzx8, hr⟩ := ob hr
      obtain ⟨fhzz7, hzz7⟩ := rcv_sp hzz7
      refine j_callV (ci := 6) (As := [.int zs1.1.1]) (rest := [.int p1, .ref this]) (st1 := [.long zx8, .int p1, .ref this]) (pc' := 35) C ⟨wm_841, wm_842⟩ rfl hzz7 (c_X8_statesWithin (nx := nx) hzx8) yw_X8_statesWithin wm_840 rfl rfl (Nat.le_of_ble_eq_true rfl) ⟨by decide, by decide⟩ dX8_highestFor_32 rfl rfl ?_
      obtain ⟨zz9, hzz9, hr⟩ := ob hr
      obtain ⟨zx10, hzx10, hr⟩ := ob hr
      obtain ⟨fhzz9, hzz9⟩ := rcv_sp hzz9
      refine j_callV (ci := 6) (As := [.int p1, .long zx8]) (rest := []) (st1 := [.int zx10]) (pc' := 38) C ⟨wm_854, wm_855⟩ rfl hzz9 (c_X8_keepsOut (nx := nx) hzx10) yw_X8_keepsOut wm_853 rfl rfl (Nat.le_of_ble_eq_true rfl) ⟨by decide, by decide⟩ dX8_highestFor_35 rfl rfl ?_
      refine j_istore (lv' := [(4, .int zx10), (0, .ref this), (1, .int p1), (3, .int zs1.1.1)]) (pc' := 40) C dX8_highestFor_38 (by decide) rfl rfl ?_
      refine j_iload_n (q := 3) (pc' := 41) C dX8_highestFor_40 rfl rfl rfl ?_
      refine j_iload (q := 0) (pc' := 43) C dX8_highestFor_41 rfl rfl ?_
      refine j_if_eq (tgt := 50) (pc' := 46) C dX8_highestFor_43 rfl rfl (fun hc => ?_) (fun hc => ?_)
      · have hr := ifT hc hr
        clear hc
        refine j_iconst (v := 0) (pc' := 51) C dX8_highestFor_50 kI_0 rfl ?_
        refine j_iadd (pc' := 52) C dX8_highestFor_51 rfl ?_
        refine j_istore_n (lv' := [(3, .int (zs1.1.1 + (0 : Int32))), (4, .int zx10), (0, .ref this), (1, .int p1)]) (pc' := 53) C dX8_highestFor_52 rfl (by decide) rfl rfl ?_
        refine j_goto (tgt := 5) C dX8_highestFor_53 rfl ?_
        have hr := izs1 (((zs1.1.1 + (0 : Int32)), zx10), zc6) (Option.some.inj hr).symm
        exact j_lv [2, 3, 0, 1] rfl hr
      · have hr := ifF hc hr
        clear hc
        refine j_iconst (v := 1) (pc' := 47) C dX8_highestFor_46 kI_1 rfl ?_
        refine j_goto (tgt := 51) C dX8_highestFor_47 rfl ?_
        refine j_iadd (pc' := 52) C dX8_highestFor_51 rfl ?_
        refine j_istore_n (lv' := [(3, .int (zs1.1.1 + (1 : Int32))), (4, .int zx10), (0, .ref this), (1, .int p1)]) (pc' := 53) C dX8_highestFor_52 rfl (by decide) rfl rfl ?_
        refine j_goto (tgt := 5) C dX8_highestFor_53 rfl ?_
        have hr := izs1 (((zs1.1.1 + (1 : Int32)), zx10), zc6) (Option.some.inj hr).symm
        exact j_lv [2, 3, 0, 1] rfl hr
def m_X8_meet (nx : Nat) (ce : Ce) (this : Nat) (p1 : Int32) (p2 : Int32) : Option (Unit × Ce × Nat × Nat) :=
  (gI ce 6 8 this).bind fun zx1 =>
  (pV ce 6 8 this (.int (zx1 + (1 : Int32)))).bind fun zc2 =>
  (rcv zc2 6 this).bind fun zz3 =>
  (m_X8_lowestAhead zc2 this p1 (p2 - (1 : Int32))).bind fun zx4 =>
  if zx4 = (-1 : Int32) then
    (rcv zc2 6 this).bind fun zz5 =>
    (m_X8_widen zc2 this p1 p2 (1 : Int32)).bind fun zq6 =>
    (gA zq6.2 6 11 this).bind fun zx7 =>
    (rcv zq6.2 6 this).bind fun zz8 =>
    (m_X8_highestFor zq6.2 this zq6.1 p2).bind fun zq9 =>
    (rcv zq9.2 2 zx7).bind fun zz10 =>
    adcB (m_X2_putLast nx zq9.2 zx7 zq9.1 zq6.1) fun zq11 =>
    (gA zq11.2.1 6 13 this).bind fun zx13 =>
    (m_X3_maskOf zq6.1).bind fun zx14 =>
    (rcv zq11.2.1 0 zx13).bind fun zz15 =>
    (m_X0_raise zq11.2.1 zx13 zx14).bind fun zq16 =>
    (gI zq16.2 6 9 this).bind fun zx17 =>
    (pV zq16.2 6 9 this (.int (zx17 + (1 : Int32)))).bind fun zc18 =>
    (gA zc18 6 12 this).bind fun zx19 =>
    (rcv zc18 4 zx19).bind fun zz20 =>
    (m_X6_dropFirst zc18 zx19).bind fun zq21 =>
    some ((), zq21.2, 0, 0)
  else
    (gI zc2 6 6 this).bind fun zx26 =>
    (pV zc2 6 6 this (.int (zx26 + (1 : Int32)))).bind fun zc27 =>
    (gA zc27 6 12 this).bind fun zx28 =>
    (gI zc27 6 6 this).bind fun zx29 =>
    (gA zc27 6 12 this).bind fun zx30 =>
    (rcv zc27 4 zx30).bind fun zz31 =>
    (m_X6_part zc27 zx30 (0 : Int32) (2 : Int32)).bind fun zx32 =>
    (rcv zc27 4 zx28).bind fun zz33 =>
    adcB (m_X6_add nx zc27 zx28 zx4 (p2 - (1 : Int32)) zx29 zx32) fun zq34 =>
    some ((), zq34.2.1, 0, 0)
set_option maxRecDepth 100000 in
set_option maxHeartbeats 4000000 in
theorem c_X8_meet {nx : Nat} {ce : Ce} {this : Nat} {p1 : Int32} {p2 : Int32} {q : Unit × Ce × Nat × Nat} (hr : m_X8_meet nx ce this p1 p2 = some q) : Ct yX8_meet cX8_meet 5 none 5 150 q.2.2.1 q.2.2.2 [.ref this, .int p1, .int p2] nx ce none q.2.1 := by
  unfold m_X8_meet at hr
  refine ct_of (by decide) (Nat.le_of_ble_eq_true rfl) ?_
  intro G C hq hret hin
  show Jd G q.2.2.1 q.2.2.2 nx ce 0 [(0, .ref this), (1, .int p1), (2, .int p2)] []
  refine j_aload_n (q := 0) (pc' := 1) C dX8_meet_0 rfl rfl rfl ?_
  refine j_dup (pc' := 2) C dX8_meet_1 rfl rfl ?_
  obtain ⟨zx1, hzx1, hr⟩ := ob hr
  refine j_getI (pc' := 5) C dX8_meet_2 fl_X8_61 hzx1 rfl ?_
  refine j_iconst (v := 1) (pc' := 6) C dX8_meet_5 kI_1 rfl ?_
  refine j_iadd (pc' := 7) C dX8_meet_6 rfl ?_
  obtain ⟨zc2, hzc2, hr⟩ := ob hr
  refine j_put (pc' := 10) C dX8_meet_7 fw_X8_61 rfl rfl hzc2 rfl ?_
  refine j_aload_n (q := 0) (pc' := 11) C dX8_meet_10 rfl rfl rfl ?_
  refine j_iload_n (q := 1) (pc' := 12) C dX8_meet_11 rfl rfl rfl ?_
  refine j_iload_n (q := 2) (pc' := 13) C dX8_meet_12 rfl rfl rfl ?_
  refine j_iconst (v := 1) (pc' := 14) C dX8_meet_13 kI_1 rfl ?_
  refine j_isub (pc' := 15) C dX8_meet_14 rfl ?_
  obtain ⟨zz3, hzz3, hr⟩ := ob hr
  obtain ⟨zx4, hzx4, hr⟩ := ob hr
  obtain ⟨fhzz3, hzz3⟩ := rcv_sp hzz3
  refine j_callV (ci := 6) (As := [.int p1, .int (p2 - (1 : Int32))]) (rest := []) (st1 := [.int zx4]) (pc' := 18) C ⟨wm_935, wm_936⟩ rfl hzz3 (c_X8_lowestAhead (nx := nx) hzx4) yw_X8_lowestAhead wm_934 rfl rfl (Nat.le_of_ble_eq_true rfl) ⟨by decide, by decide⟩ dX8_meet_15 rfl rfl ?_
  refine j_istore_n (lv' := [(3, .int zx4), (0, .ref this), (1, .int p1), (2, .int p2)]) (pc' := 19) C dX8_meet_18 rfl (by decide) rfl rfl ?_
  refine j_iload_n (q := 0) (pc' := 20) C dX8_meet_19 rfl rfl rfl ?_
  refine j_iconst (v := -1) (pc' := 21) C dX8_meet_20 kI_m1 rfl ?_
  refine j_ic_eq (tgt := 59) (pc' := 24) C dX8_meet_21 rfl rfl (fun hc => ?_) (fun hc => ?_)
  · have hr := ifT hc hr
    clear hc
    refine j_aload_n (q := 1) (pc' := 60) C dX8_meet_59 rfl rfl rfl ?_
    refine j_iload_n (q := 2) (pc' := 61) C dX8_meet_60 rfl rfl rfl ?_
    refine j_iload_n (q := 3) (pc' := 62) C dX8_meet_61 rfl rfl rfl ?_
    refine j_iconst (v := 1) (pc' := 63) C dX8_meet_62 kI_1 rfl ?_
    obtain ⟨zz5, hzz5, hr⟩ := ob hr
    obtain ⟨zq6, hzq6, hr⟩ := ob hr
    obtain ⟨fhzz5, hzz5⟩ := rcv_sp hzz5
    refine j_callV (ci := 6) (As := [.int p1, .int p2, .int (1 : Int32)]) (rest := []) (st1 := [.int zq6.1]) (pc' := 66) C ⟨wm_953, wm_954⟩ rfl hzz5 (c_X8_widen (nx := nx) hzq6) yw_X8_widen wm_952 rfl rfl (Nat.le_of_ble_eq_true rfl) ⟨by decide, by decide⟩ dX8_meet_63 rfl rfl ?_
    refine j_istore (lv' := [(4, .int zq6.1), (3, .int zx4), (0, .ref this), (1, .int p1), (2, .int p2)]) (pc' := 68) C dX8_meet_66 (by decide) rfl rfl ?_
    refine j_aload_n (q := 2) (pc' := 69) C dX8_meet_68 rfl rfl rfl ?_
    obtain ⟨zx7, hzx7, hr⟩ := ob hr
    refine j_getA (pc' := 72) C dX8_meet_69 fl_X8_25 hzx7 rfl ?_
    refine j_aload_n (q := 2) (pc' := 73) C dX8_meet_72 rfl rfl rfl ?_
    refine j_iload (q := 0) (pc' := 75) C dX8_meet_73 rfl rfl ?_
    refine j_iload_n (q := 4) (pc' := 76) C dX8_meet_75 rfl rfl rfl ?_
    obtain ⟨zz8, hzz8, hr⟩ := ob hr
    obtain ⟨zq9, hzq9, hr⟩ := ob hr
    obtain ⟨fhzz8, hzz8⟩ := rcv_sp hzz8
    refine j_callV (ci := 6) (As := [.int zq6.1, .int p2]) (rest := [.ref zx7]) (st1 := [.int zq9.1, .ref zx7]) (pc' := 79) C ⟨wm_975, wm_26⟩ rfl hzz8 (c_X8_highestFor (nx := nx) hzq9) yw_X8_highestFor wm_973 rfl rfl (Nat.le_of_ble_eq_true rfl) ⟨by decide, by decide⟩ dX8_meet_76 rfl rfl ?_
    refine j_iload (q := 0) (pc' := 81) C dX8_meet_79 rfl rfl ?_
    obtain ⟨zz10, hzz10, hr⟩ := ob hr
    obtain ⟨zq11, zt12, hzq11, hr, azt12, bzt12, czt12, dzt12⟩ := adcB_s hr
    refine j_k (kc' := zt12.2.2.1 + zq11.2.2.1) (ks' := zt12.2.2.2 + zq11.2.2.2) (by omega) (by omega) ?_
    obtain ⟨fhzz10, hzz10⟩ := rcv_sp hzz10
    refine j_callVA (ci := 2) (As := [.int zq9.1, .int zq6.1]) (rest := []) (st1 := []) (pc' := 84) C ⟨wm_862, wm_863⟩ rfl hzz10 (c_X2_putLast hzq11) yw_X2_putLast wm_977 rfl rfl (Nat.le_of_ble_eq_true rfl) ⟨by decide, by decide⟩ dX8_meet_81 rfl rfl ?_
    refine j_aload_n (q := 2) (pc' := 85) C dX8_meet_84 rfl rfl rfl ?_
    obtain ⟨zx13, hzx13, hr⟩ := ob hr
    refine j_getA (pc' := 88) C dX8_meet_85 fl_X8_39 hzx13 rfl ?_
    refine j_iload (q := 0) (pc' := 90) C dX8_meet_88 rfl rfl ?_
    obtain ⟨zx14, hzx14, hr⟩ := ob hr
    refine j_callS (As := [.int zq6.1]) (rest := [.ref zx13]) (st1 := [.int zx14, .ref zx13]) (pc' := 93) C wm_833 (c_X3_maskOf (nx := (nx + zq11.2.2.1)) (ce := zq11.2.1) hzx14) yw_X3_maskOf wm_978 rfl rfl (Nat.le_of_ble_eq_true rfl) ⟨by decide, by decide⟩ dX8_meet_90 rfl rfl ?_
    obtain ⟨zz15, hzz15, hr⟩ := ob hr
    obtain ⟨zq16, hzq16, hr⟩ := ob hr
    obtain ⟨fhzz15, hzz15⟩ := rcv_sp hzz15
    refine j_callV (ci := 0) (As := [.int zx14]) (rest := []) (st1 := []) (pc' := 96) C ⟨wm_980, wm_981⟩ rfl hzz15 (c_X0_raise (nx := (nx + zq11.2.2.1)) hzq16) yw_X0_raise wm_979 rfl rfl (Nat.le_of_ble_eq_true rfl) ⟨by decide, by decide⟩ dX8_meet_93 rfl rfl ?_
    refine j_aload_n (q := 2) (pc' := 97) C dX8_meet_96 rfl rfl rfl ?_
    refine j_dup (pc' := 98) C dX8_meet_97 rfl rfl ?_
    obtain ⟨zx17, hzx17, hr⟩ := ob hr
    refine j_getI (pc' := 101) C dX8_meet_98 fl_X8_64 hzx17 rfl ?_
    refine j_iconst (v := 1) (pc' := 102) C dX8_meet_101 kI_1 rfl ?_
    refine j_iadd (pc' := 103) C dX8_meet_102 rfl ?_
    obtain ⟨zc18, hzc18, hr⟩ := ob hr
    refine j_put (pc' := 106) C dX8_meet_103 fw_X8_64 rfl rfl hzc18 rfl ?_
    refine j_aload_n (q := 2) (pc' := 107) C dX8_meet_106 rfl rfl rfl ?_
    obtain ⟨zx19, hzx19, hr⟩ := ob hr
    refine j_getA (pc' := 110) C dX8_meet_107 fl_X8_32 hzx19 rfl ?_
    obtain ⟨zz20, hzz20, hr⟩ := ob hr
    obtain ⟨zq21, hzq21, hr⟩ := ob hr
    obtain ⟨fhzz20, hzz20⟩ := rcv_sp hzz20
    refine j_callV (ci := 4) (As := []) (rest := []) (st1 := []) (pc' := 113) C ⟨wm_927, wm_928⟩ rfl hzz20 (c_X6_dropFirst (nx := (nx + zq11.2.2.1)) hzq21) yw_X6_dropFirst wm_926 rfl rfl (Nat.le_of_ble_eq_true rfl) ⟨by decide, by decide⟩ dX8_meet_110 rfl rfl ?_
    obtain ⟨azf22, bzf23, czf24, dzf25⟩ := some4 hr
    refine j_k (kc' := 0) (ks' := 0) (by omega) (by omega) ?_
    rw [show nx + q.2.2.1 = (nx + zq11.2.2.1) by omega, (bzt12.trans bzf23)] at hq
    exact j_vret C hq hret dX8_meet_113
  · have hr := ifF hc hr
    clear hc
    refine j_aload_n (q := 1) (pc' := 25) C dX8_meet_24 rfl rfl rfl ?_
    refine j_dup (pc' := 26) C dX8_meet_25 rfl rfl ?_
    obtain ⟨zx26, hzx26, hr⟩ := ob hr
    refine j_getI (pc' := 29) C dX8_meet_26 fl_X8_55 hzx26 rfl ?_
    refine j_iconst (v := 1) (pc' := 30) C dX8_meet_29 kI_1 rfl ?_
    refine j_iadd (pc' := 31) C dX8_meet_30 rfl ?_
    obtain ⟨zc27, hzc27, hr⟩ := ob hr
    refine j_put (pc' := 34) C dX8_meet_31 fw_X8_55 rfl rfl hzc27 rfl ?_
    refine j_aload_n (q := 1) (pc' := 35) C dX8_meet_34 rfl rfl rfl ?_
    obtain ⟨zx28, hzx28, hr⟩ := ob hr
    refine j_getA (pc' := 38) C dX8_meet_35 fl_X8_32 hzx28 rfl ?_
    refine j_iload_n (q := 0) (pc' := 39) C dX8_meet_38 rfl rfl rfl ?_
    refine j_iload_n (q := 3) (pc' := 40) C dX8_meet_39 rfl rfl rfl ?_
    refine j_iconst (v := 1) (pc' := 41) C dX8_meet_40 kI_1 rfl ?_
    refine j_isub (pc' := 42) C dX8_meet_41 rfl ?_
    refine j_aload_n (q := 1) (pc' := 43) C dX8_meet_42 rfl rfl rfl ?_
    obtain ⟨zx29, hzx29, hr⟩ := ob hr
    refine j_getI (pc' := 46) C dX8_meet_43 fl_X8_55 hzx29 rfl ?_
    refine j_aload_n (q := 1) (pc' := 47) C dX8_meet_46 rfl rfl rfl ?_
    obtain ⟨zx30, hzx30, hr⟩ := ob hr
    refine j_getA (pc' := 50) C dX8_meet_47 fl_X8_32 hzx30 rfl ?_
    refine j_iconst (v := 0) (pc' := 51) C dX8_meet_50 kI_0 rfl ?_
    refine j_iconst (v := 2) (pc' := 52) C dX8_meet_51 kI_2 rfl ?_
    obtain ⟨zz31, hzz31, hr⟩ := ob hr
    obtain ⟨zx32, hzx32, hr⟩ := ob hr
    obtain ⟨fhzz31, hzz31⟩ := rcv_sp hzz31
    refine j_callV (ci := 4) (As := [.int (0 : Int32), .int (2 : Int32)]) (rest := [.int zx29, .int (p2 - (1 : Int32)), .int zx4, .ref zx28]) (st1 := [.int zx32, .int zx29, .int (p2 - (1 : Int32)), .int zx4, .ref zx28]) (pc' := 55) C ⟨wm_918, wm_919⟩ rfl hzz31 (c_X6_part (nx := nx) hzx32) yw_X6_part wm_925 rfl rfl (Nat.le_of_ble_eq_true rfl) ⟨by decide, by decide⟩ dX8_meet_52 rfl rfl ?_
    obtain ⟨zz33, hzz33, hr⟩ := ob hr
    obtain ⟨zq34, zt35, hzq34, hr, azt35, bzt35, czt35, dzt35⟩ := adcB_s hr
    refine j_k (kc' := zt35.2.2.1 + zq34.2.2.1) (ks' := zt35.2.2.2 + zq34.2.2.2) (by omega) (by omega) ?_
    obtain ⟨fhzz33, hzz33⟩ := rcv_sp hzz33
    refine j_callVA (ci := 4) (As := [.int zx4, .int (p2 - (1 : Int32)), .int zx29, .int zx32]) (rest := []) (st1 := []) (pc' := 58) C ⟨wm_910, wm_911⟩ rfl hzz33 (c_X6_add hzq34) yw_X6_add wm_909 rfl rfl (Nat.le_of_ble_eq_true rfl) ⟨by decide, by decide⟩ dX8_meet_55 rfl rfl ?_
    obtain ⟨azf36, bzf37, czf38, dzf39⟩ := some4 hr
    refine j_k (kc' := 0) (ks' := 0) (by omega) (by omega) ?_
    rw [show nx + q.2.2.1 = (nx + zq34.2.2.1) by omega, (bzt35.trans bzf37)] at hq
    exact j_vret C hq hret dX8_meet_58
def m_X8_oblige (nx : Nat) (ce : Ce) (this : Nat) : Option (Unit × Ce × Nat × Nat) :=
  (gA ce 6 12 this).bind fun zx1 =>
  (gI ce 4 1 zx1).bind fun zx2 =>
  if zx2 = 0 then
    (pV ce 6 3 this (.int (0 : Int32))).bind fun zc34 =>
    some ((), zc34, 0, 0)
  else
    (gA ce 6 12 this).bind fun zx3 =>
    (rcv ce 4 zx3).bind fun zz4 =>
    (m_X6_part ce zx3 (0 : Int32) (0 : Int32)).bind fun zx5 =>
    (gA ce 6 12 this).bind fun zx6 =>
    (rcv ce 4 zx6).bind fun zz7 =>
    (m_X6_part ce zx6 (0 : Int32) (1 : Int32)).bind fun zx8 =>
    (gA ce 6 0 this).bind fun zx9 =>
    (gJ ce 3 3 zx9).bind fun zx10 =>
    (m_X9_has zx10 zx5).bind fun zx11 =>
    if zx11 = 0 then
      (rcv ce 6 this).bind fun zz12 =>
      (m_X8_statesWithin ce this zx8).bind fun zx13 =>
      (m_X9_has zx13 zx5).bind fun zx14 =>
      if zx14 = 0 then
        (gA ce 6 12 this).bind fun zx22 =>
        (rcv ce 4 zx22).bind fun zz23 =>
        (m_X6_dropFirst ce zx22).bind fun zq24 =>
        some ((), zq24.2, 0, 0)
      else
        (rcv ce 6 this).bind fun zz15 =>
        adcB (m_X8_meet nx ce this zx5 zx8) fun zq16 =>
        some ((), zq16.2.1, 0, 0)
    else
      (pV ce 6 3 this (.int (4 : Int32))).bind fun zc29 =>
      some ((), zc29, 0, 0)
set_option maxRecDepth 100000 in
set_option maxHeartbeats 4000000 in
theorem c_X8_oblige {nx : Nat} {ce : Ce} {this : Nat} {q : Unit × Ce × Nat × Nat} (hr : m_X8_oblige nx ce this = some q) : Ct yX8_oblige cX8_oblige 3 none 6 174 q.2.2.1 q.2.2.2 [.ref this] nx ce none q.2.1 := by
  unfold m_X8_oblige at hr
  refine ct_of (by decide) (Nat.le_of_ble_eq_true rfl) ?_
  intro G C hq hret hin
  show Jd G q.2.2.1 q.2.2.2 nx ce 0 [(0, .ref this)] []
  refine j_aload_n (q := 0) (pc' := 1) C dX8_oblige_0 rfl rfl rfl ?_
  obtain ⟨zx1, hzx1, hr⟩ := ob hr
  refine j_getA (pc' := 4) C dX8_oblige_1 fl_X8_32 hzx1 rfl ?_
  obtain ⟨zx2, hzx2, hr⟩ := ob hr
  refine j_getI (pc' := 7) C dX8_oblige_4 fl_X8_83 hzx2 rfl ?_
  refine j_if_ne (tgt := 16) (pc' := 10) C dX8_oblige_7 rfl rfl (fun hc => ?_) (fun hc => ?_)
  · have hr := ifF hc hr
    clear hc
    refine j_aload_n (q := 0) (pc' := 17) C dX8_oblige_16 rfl rfl rfl ?_
    obtain ⟨zx3, hzx3, hr⟩ := ob hr
    refine j_getA (pc' := 20) C dX8_oblige_17 fl_X8_32 hzx3 rfl ?_
    refine j_iconst (v := 0) (pc' := 21) C dX8_oblige_20 kI_0 rfl ?_
    refine j_iconst (v := 0) (pc' := 22) C dX8_oblige_21 kI_0 rfl ?_
    obtain ⟨zz4, hzz4, hr⟩ := ob hr
    obtain ⟨zx5, hzx5, hr⟩ := ob hr
    obtain ⟨fhzz4, hzz4⟩ := rcv_sp hzz4
    refine j_callV (ci := 4) (As := [.int (0 : Int32), .int (0 : Int32)]) (rest := []) (st1 := [.int zx5]) (pc' := 25) C ⟨wm_918, wm_919⟩ rfl hzz4 (c_X6_part (nx := nx) hzx5) yw_X6_part wm_925 rfl rfl (Nat.le_of_ble_eq_true rfl) ⟨by decide, by decide⟩ dX8_oblige_22 rfl rfl ?_
    refine j_istore_n (lv' := [(1, .int zx5), (0, .ref this)]) (pc' := 26) C dX8_oblige_25 rfl (by decide) rfl rfl ?_
    refine j_aload_n (q := 1) (pc' := 27) C dX8_oblige_26 rfl rfl rfl ?_
    obtain ⟨zx6, hzx6, hr⟩ := ob hr
    refine j_getA (pc' := 30) C dX8_oblige_27 fl_X8_32 hzx6 rfl ?_
    refine j_iconst (v := 0) (pc' := 31) C dX8_oblige_30 kI_0 rfl ?_
    refine j_iconst (v := 1) (pc' := 32) C dX8_oblige_31 kI_1 rfl ?_
    obtain ⟨zz7, hzz7, hr⟩ := ob hr
    obtain ⟨zx8, hzx8, hr⟩ := ob hr
    obtain ⟨fhzz7, hzz7⟩ := rcv_sp hzz7
    refine j_callV (ci := 4) (As := [.int (0 : Int32), .int (1 : Int32)]) (rest := []) (st1 := [.int zx8]) (pc' := 35) C ⟨wm_918, wm_919⟩ rfl hzz7 (c_X6_part (nx := nx) hzx8) yw_X6_part wm_925 rfl rfl (Nat.le_of_ble_eq_true rfl) ⟨by decide, by decide⟩ dX8_oblige_32 rfl rfl ?_
    refine j_istore_n (lv' := [(2, .int zx8), (1, .int zx5), (0, .ref this)]) (pc' := 36) C dX8_oblige_35 rfl (by decide) rfl rfl ?_
    refine j_aload_n (q := 2) (pc' := 37) C dX8_oblige_36 rfl rfl rfl ?_
    obtain ⟨zx9, hzx9, hr⟩ := ob hr
    refine j_getA (pc' := 40) C dX8_oblige_37 fl_X8_9 hzx9 rfl ?_
    obtain ⟨zx10, hzx10, hr⟩ := ob hr
    refine j_getJ (pc' := 43) C dX8_oblige_40 fl_X8_107 hzx10 rfl ?_
    refine j_iload_n (q := 1) (pc' := 44) C dX8_oblige_43 rfl rfl rfl ?_
    obtain ⟨zx11, hzx11, hr⟩ := ob hr
    refine j_callS (As := [.long zx10, .int zx5]) (rest := []) (st1 := [.int zx11]) (pc' := 47) C wm_691 (c_X9_has (nx := nx) (ce := ce) hzx11) yw_X9_has wm_908 rfl rfl (Nat.le_of_ble_eq_true rfl) ⟨by decide, by decide⟩ dX8_oblige_44 rfl rfl ?_
    refine j_if_eq (tgt := 58) (pc' := 50) C dX8_oblige_47 rfl rfl (fun hc => ?_) (fun hc => ?_)
    · have hr := ifT hc hr
      clear hc
      refine j_aload_n (q := 2) (pc' := 59) C dX8_oblige_58 rfl rfl rfl ?_
      refine j_iload_n (q := 0) (pc' := 60) C dX8_oblige_59 rfl rfl rfl ?_
      obtain ⟨zz12, hzz12, hr⟩ := ob hr
      obtain ⟨zx13, hzx13, hr⟩ := ob hr
      obtain ⟨fhzz12, hzz12⟩ := rcv_sp hzz12
      refine j_callV (ci := 6) (As := [.int zx8]) (rest := []) (st1 := [.long zx13]) (pc' := 63) C ⟨wm_841, wm_842⟩ rfl hzz12 (c_X8_statesWithin (nx := nx) hzx13) yw_X8_statesWithin wm_840 rfl rfl (Nat.le_of_ble_eq_true rfl) ⟨by decide, by decide⟩ dX8_oblige_60 rfl rfl ?_
      refine j_iload_n (q := 1) (pc' := 64) C dX8_oblige_63 rfl rfl rfl ?_
      obtain ⟨zx14, hzx14, hr⟩ := ob hr
      refine j_callS (As := [.long zx13, .int zx5]) (rest := []) (st1 := [.int zx14]) (pc' := 67) C wm_691 (c_X9_has (nx := nx) (ce := ce) hzx14) yw_X9_has wm_908 rfl rfl (Nat.le_of_ble_eq_true rfl) ⟨by decide, by decide⟩ dX8_oblige_64 rfl rfl ?_
      refine j_if_ne (tgt := 80) (pc' := 70) C dX8_oblige_67 rfl rfl (fun hc => ?_) (fun hc => ?_)
      · have hr := ifF hc hr
        clear hc
        refine j_aload_n (q := 2) (pc' := 81) C dX8_oblige_80 rfl rfl rfl ?_
        refine j_iload_n (q := 1) (pc' := 82) C dX8_oblige_81 rfl rfl rfl ?_
        refine j_iload_n (q := 0) (pc' := 83) C dX8_oblige_82 rfl rfl rfl ?_
        obtain ⟨zz15, hzz15, hr⟩ := ob hr
        obtain ⟨zq16, zt17, hzq16, hr, azt17, bzt17, czt17, dzt17⟩ := adcB_s hr
        refine j_k (kc' := zt17.2.2.1 + zq16.2.2.1) (ks' := zt17.2.2.2 + zq16.2.2.2) (by omega) (by omega) ?_
        obtain ⟨fhzz15, hzz15⟩ := rcv_sp hzz15
        refine j_callVA (ci := 6) (As := [.int zx5, .int zx8]) (rest := []) (st1 := []) (pc' := 86) C ⟨wm_932, wm_24⟩ rfl hzz15 (c_X8_meet hzq16) yw_X8_meet wm_930 rfl rfl (Nat.le_of_ble_eq_true rfl) ⟨by decide, by decide⟩ dX8_oblige_83 rfl rfl ?_
        obtain ⟨azf18, bzf19, czf20, dzf21⟩ := some4 hr
        refine j_k (kc' := 0) (ks' := 0) (by omega) (by omega) ?_
        rw [show nx + q.2.2.1 = (nx + zq16.2.2.1) by omega, (bzt17.trans bzf19)] at hq
        exact j_vret C hq hret dX8_oblige_86
      · have hr := ifT hc hr
        clear hc
        refine j_aload_n (q := 2) (pc' := 71) C dX8_oblige_70 rfl rfl rfl ?_
        obtain ⟨zx22, hzx22, hr⟩ := ob hr
        refine j_getA (pc' := 74) C dX8_oblige_71 fl_X8_32 hzx22 rfl ?_
        obtain ⟨zz23, hzz23, hr⟩ := ob hr
        obtain ⟨zq24, hzq24, hr⟩ := ob hr
        obtain ⟨fhzz23, hzz23⟩ := rcv_sp hzz23
        refine j_callV (ci := 4) (As := []) (rest := []) (st1 := []) (pc' := 77) C ⟨wm_927, wm_928⟩ rfl hzz23 (c_X6_dropFirst (nx := nx) hzq24) yw_X6_dropFirst wm_926 rfl rfl (Nat.le_of_ble_eq_true rfl) ⟨by decide, by decide⟩ dX8_oblige_74 rfl rfl ?_
        refine j_goto (tgt := 86) C dX8_oblige_77 rfl ?_
        obtain ⟨azf25, bzf26, czf27, dzf28⟩ := some4 hr
        refine j_k (kc' := 0) (ks' := 0) (by omega) (by omega) ?_
        rw [show nx + q.2.2.1 = nx by omega, bzf26] at hq
        exact j_vret C hq hret dX8_oblige_86
    · have hr := ifF hc hr
      clear hc
      refine j_aload_n (q := 2) (pc' := 51) C dX8_oblige_50 rfl rfl rfl ?_
      refine j_iconst (v := 4) (pc' := 52) C dX8_oblige_51 kI_4 rfl ?_
      obtain ⟨zc29, hzc29, hr⟩ := ob hr
      refine j_put (pc' := 55) C dX8_oblige_52 fw_X8_52 rfl rfl hzc29 rfl ?_
      refine j_goto (tgt := 86) C dX8_oblige_55 rfl ?_
      obtain ⟨azf30, bzf31, czf32, dzf33⟩ := some4 hr
      refine j_k (kc' := 0) (ks' := 0) (by omega) (by omega) ?_
      rw [show nx + q.2.2.1 = nx by omega, bzf31] at hq
      exact j_vret C hq hret dX8_oblige_86
  · have hr := ifT hc hr
    clear hc
    refine j_aload_n (q := 0) (pc' := 11) C dX8_oblige_10 rfl rfl rfl ?_
    refine j_iconst (v := 0) (pc' := 12) C dX8_oblige_11 kI_0 rfl ?_
    obtain ⟨zc34, hzc34, hr⟩ := ob hr
    refine j_put (pc' := 15) C dX8_oblige_12 fw_X8_52 rfl rfl hzc34 rfl ?_
    obtain ⟨azf35, bzf36, czf37, dzf38⟩ := some4 hr
    refine j_k (kc' := 0) (ks' := 0) (by omega) (by omega) ?_
    rw [show nx + q.2.2.1 = nx by omega, bzf36] at hq
    exact j_vret C hq hret dX8_oblige_15
def m_X8_push (nx : Nat) (ce : Ce) (this : Nat) : Option (Unit × Ce × Nat × Nat) :=
  (gI ce 6 5 this).bind fun zx1 =>
  (rcv ce 6 this).bind fun zz2 =>
  (m_X8_statesWithin ce this zx1).bind fun zx3 =>
  (gA ce 6 11 this).bind fun zx4 =>
  (gI ce 6 5 this).bind fun zx5 =>
  (rcv ce 2 zx4).bind fun zz6 =>
  (m_X2_startOf ce zx4 zx5).bind fun zx7 =>
  (gA ce 6 11 this).bind fun zx8 =>
  (gI ce 2 3 zx8).bind fun zx9 =>
  adcB (itA (fun (nzs10 : Nat) (czs10 : Ce) (zs10 : Int32 × Int32) =>
    if zx9 ≤ zs10.2 then
      some (Sum.inr (), czs10, 0, 0)
    else
      (gA czs10 6 11 this).bind fun zx47 =>
      (gI czs10 6 5 this).bind fun zx48 =>
      (rcv czs10 2 zx47).bind fun zz49 =>
      (m_X2_isOf czs10 zx47 zs10.1 zx48).bind fun zx50 =>
      if zx50 = 0 then
        some (Sum.inr (), czs10, 0, 0)
      else
        (gA czs10 6 11 this).bind fun zx60 =>
        (rcv czs10 2 zx60).bind fun zz61 =>
        (m_X2_cubeAt czs10 zx60 zs10.1).bind fun zx62 =>
        (gI czs10 6 8 this).bind fun zx63 =>
        (pV czs10 6 8 this (.int (zx63 + (1 : Int32)))).bind fun zc64 =>
        (rcv zc64 6 this).bind fun zz65 =>
        (m_X8_keepsOut zc64 this zx62 zx3).bind fun zx66 =>
        if zx66 = 0 then
          some (Sum.inl ((zs10.1 + (1 : Int32)), (zs10.2 + (1 : Int32))), zc64, 0, 0)
        else
          (gA zc64 6 11 this).bind fun zx71 =>
          (gI zc64 6 5 this).bind fun zx72 =>
          (rcv zc64 2 zx71).bind fun zz73 =>
          adcB (m_X2_putLast nzs10 zc64 zx71 (zx72 + (1 : Int32)) zx62) fun zq74 =>
          (gI zq74.2.1 6 10 this).bind fun zx76 =>
          (pV zq74.2.1 6 10 this (.int (zx76 + (1 : Int32)))).bind fun zc77 =>
          some (Sum.inl (zs10.1, (zs10.2 + (1 : Int32))), zc77, 0, 0)
  ) FU nx ce (zx7, (0 : Int32))) fun (zo11 : Unit × Ce × Nat × Nat) =>
  (gA zo11.2.1 6 11 this).bind fun zx16 =>
  (gI zo11.2.1 6 5 this).bind fun zx17 =>
  (rcv zo11.2.1 2 zx16).bind fun zz18 =>
  (m_X2_countOf zo11.2.1 zx16 zx17).bind fun zx19 =>
  if zx19 = 0 then
    (pV zo11.2.1 6 3 this (.int (3 : Int32))).bind fun zc33 =>
    some ((), zc33, 0, 0)
  else
    (gI zo11.2.1 6 5 this).bind fun zx20 =>
    (pV zo11.2.1 6 5 this (.int (zx20 + (1 : Int32)))).bind fun zc21 =>
    (gI zc21 6 5 this).bind fun zx22 =>
    (gI zc21 6 4 this).bind fun zx23 =>
    if zx22 < zx23 then
      some ((), zc21, 0, 0)
    else
      (pV zc21 6 3 this (.int (0 : Int32))).bind fun zc28 =>
      some ((), zc28, 0, 0)
set_option maxRecDepth 100000 in
set_option maxHeartbeats 4000000 in
theorem c_X8_push {nx : Nat} {ce : Ce} {this : Nat} {q : Unit × Ce × Nat × Nat} (hr : m_X8_push nx ce this = some q) : Ct yX8_push cX8_push 7 none 5 150 q.2.2.1 q.2.2.2 [.ref this] nx ce none q.2.1 := by
  unfold m_X8_push at hr
  refine ct_of (by decide) (Nat.le_of_ble_eq_true rfl) ?_
  intro G C hq hret hin
  show Jd G q.2.2.1 q.2.2.2 nx ce 0 [(0, .ref this)] []
  refine j_aload_n (q := 0) (pc' := 1) C dX8_push_0 rfl rfl rfl ?_
  refine j_aload_n (q := 0) (pc' := 2) C dX8_push_1 rfl rfl rfl ?_
  obtain ⟨zx1, hzx1, hr⟩ := ob hr
  refine j_getI (pc' := 5) C dX8_push_2 fl_X8_19 hzx1 rfl ?_
  obtain ⟨zz2, hzz2, hr⟩ := ob hr
  obtain ⟨zx3, hzx3, hr⟩ := ob hr
  obtain ⟨fhzz2, hzz2⟩ := rcv_sp hzz2
  refine j_callV (ci := 6) (As := [.int zx1]) (rest := []) (st1 := [.long zx3]) (pc' := 8) C ⟨wm_841, wm_842⟩ rfl hzz2 (c_X8_statesWithin (nx := nx) hzx3) yw_X8_statesWithin wm_840 rfl rfl (Nat.le_of_ble_eq_true rfl) ⟨by decide, by decide⟩ dX8_push_5 rfl rfl ?_
  refine j_lstore_n (lv' := [(1, .long zx3), (0, .ref this)]) (pc' := 9) C dX8_push_8 rfl (by decide) rfl rfl ?_
  refine j_aload_n (q := 1) (pc' := 10) C dX8_push_9 rfl rfl rfl ?_
  obtain ⟨zx4, hzx4, hr⟩ := ob hr
  refine j_getA (pc' := 13) C dX8_push_10 fl_X8_25 hzx4 rfl ?_
  refine j_aload_n (q := 1) (pc' := 14) C dX8_push_13 rfl rfl rfl ?_
  obtain ⟨zx5, hzx5, hr⟩ := ob hr
  refine j_getI (pc' := 17) C dX8_push_14 fl_X8_19 hzx5 rfl ?_
  obtain ⟨zz6, hzz6, hr⟩ := ob hr
  obtain ⟨zx7, hzx7, hr⟩ := ob hr
  obtain ⟨fhzz6, hzz6⟩ := rcv_sp hzz6
  refine j_callV (ci := 2) (As := [.int zx5]) (rest := []) (st1 := [.int zx7]) (pc' := 20) C ⟨wm_845, wm_846⟩ rfl hzz6 (c_X2_startOf (nx := nx) hzx7) yw_X2_startOf wm_844 rfl rfl (Nat.le_of_ble_eq_true rfl) ⟨by decide, by decide⟩ dX8_push_17 rfl rfl ?_
  refine j_istore_n (lv' := [(3, .int zx7), (1, .long zx3), (0, .ref this)]) (pc' := 21) C dX8_push_20 rfl (by decide) rfl rfl ?_
  refine j_aload_n (q := 2) (pc' := 22) C dX8_push_21 rfl rfl rfl ?_
  obtain ⟨zx8, hzx8, hr⟩ := ob hr
  refine j_getA (pc' := 25) C dX8_push_22 fl_X8_25 hzx8 rfl ?_
  obtain ⟨zx9, hzx9, hr⟩ := ob hr
  refine j_getI (pc' := 28) C dX8_push_25 fl_X8_80 hzx9 rfl ?_
  refine j_istore (lv' := [(4, .int zx9), (3, .int zx7), (1, .long zx3), (0, .ref this)]) (pc' := 30) C dX8_push_28 (by decide) rfl rfl ?_
  refine j_iconst (v := 0) (pc' := 31) C dX8_push_30 kI_0 rfl ?_
  refine j_istore (lv' := [(5, .int (0 : Int32)), (4, .int zx9), (3, .int zx7), (1, .long zx3), (0, .ref this)]) (pc' := 33) C dX8_push_31 (by decide) rfl rfl ?_
  obtain ⟨zo11, zt12, hzo11, rzo11, azt12, bzt12, czt12, dzt12⟩ := adcB_s hr
  have kzo11 : ∀ (vzo11 : Unit) (czo11 : Ce) (nzo11 : Nat), zo11.1 = vzo11 → zo11.2.1 = czo11 → nx + zo11.2.2.1 = nzo11 → Jd G (zt12.2.2.1) (zt12.2.2.2) nzo11 czo11 122 [(0, .ref this)] [] := by
    rintro _ _ _ rfl rfl rfl
    have hr := rzo11
    refine j_aload_n (q := 0) (pc' := 123) C dX8_push_122 rfl rfl rfl ?_
    obtain ⟨zx16, hzx16, hr⟩ := ob hr
    refine j_getA (pc' := 126) C dX8_push_123 fl_X8_25 hzx16 rfl ?_
    refine j_aload_n (q := 0) (pc' := 127) C dX8_push_126 rfl rfl rfl ?_
    obtain ⟨zx17, hzx17, hr⟩ := ob hr
    refine j_getI (pc' := 130) C dX8_push_127 fl_X8_19 hzx17 rfl ?_
    obtain ⟨zz18, hzz18, hr⟩ := ob hr
    obtain ⟨zx19, hzx19, hr⟩ := ob hr
    obtain ⟨fhzz18, hzz18⟩ := rcv_sp hzz18
    refine j_callV (ci := 2) (As := [.int zx17]) (rest := []) (st1 := [.int zx19]) (pc' := 133) C ⟨wm_875, wm_876⟩ rfl hzz18 (c_X2_countOf (nx := (nx + zo11.2.2.1)) hzx19) yw_X2_countOf wm_1002 rfl rfl (Nat.le_of_ble_eq_true rfl) ⟨by decide, by decide⟩ dX8_push_130 rfl rfl ?_
    refine j_if_ne (tgt := 142) (pc' := 136) C dX8_push_133 rfl rfl (fun hc => ?_) (fun hc => ?_)
    · have hr := ifF hc hr
      clear hc
      refine j_aload_n (q := 0) (pc' := 143) C dX8_push_142 rfl rfl rfl ?_
      refine j_dup (pc' := 144) C dX8_push_143 rfl rfl ?_
      obtain ⟨zx20, hzx20, hr⟩ := ob hr
      refine j_getI (pc' := 147) C dX8_push_144 fl_X8_19 hzx20 rfl ?_
      refine j_iconst (v := 1) (pc' := 148) C dX8_push_147 kI_1 rfl ?_
      refine j_iadd (pc' := 149) C dX8_push_148 rfl ?_
      obtain ⟨zc21, hzc21, hr⟩ := ob hr
      refine j_put (pc' := 152) C dX8_push_149 fw_X8_19 rfl rfl hzc21 rfl ?_
      refine j_aload_n (q := 0) (pc' := 153) C dX8_push_152 rfl rfl rfl ?_
      obtain ⟨zx22, hzx22, hr⟩ := ob hr
      refine j_getI (pc' := 156) C dX8_push_153 fl_X8_19 hzx22 rfl ?_
      refine j_aload_n (q := 0) (pc' := 157) C dX8_push_156 rfl rfl rfl ?_
      obtain ⟨zx23, hzx23, hr⟩ := ob hr
      refine j_getI (pc' := 160) C dX8_push_157 fl_X8_15 hzx23 rfl ?_
      refine j_ic_lt (tgt := 168) (pc' := 163) C dX8_push_160 rfl rfl (fun hc => ?_) (fun hc => ?_)
      · have hr := ifT hc hr
        clear hc
        obtain ⟨azf24, bzf25, czf26, dzf27⟩ := some4 hr
        refine j_k (kc' := 0) (ks' := 0) (by omega) (by omega) ?_
        rw [show nx + q.2.2.1 = (nx + zo11.2.2.1) by omega, (bzt12.trans bzf25)] at hq
        exact j_vret C hq hret dX8_push_168
      · have hr := ifF hc hr
        clear hc
        refine j_aload_n (q := 0) (pc' := 164) C dX8_push_163 rfl rfl rfl ?_
        refine j_iconst (v := 0) (pc' := 165) C dX8_push_164 kI_0 rfl ?_
        obtain ⟨zc28, hzc28, hr⟩ := ob hr
        refine j_put (pc' := 168) C dX8_push_165 fw_X8_52 rfl rfl hzc28 rfl ?_
        obtain ⟨azf29, bzf30, czf31, dzf32⟩ := some4 hr
        refine j_k (kc' := 0) (ks' := 0) (by omega) (by omega) ?_
        rw [show nx + q.2.2.1 = (nx + zo11.2.2.1) by omega, (bzt12.trans bzf30)] at hq
        exact j_vret C hq hret dX8_push_168
    · have hr := ifT hc hr
      clear hc
      refine j_aload_n (q := 0) (pc' := 137) C dX8_push_136 rfl rfl rfl ?_
      refine j_iconst (v := 3) (pc' := 138) C dX8_push_137 kI_3 rfl ?_
      obtain ⟨zc33, hzc33, hr⟩ := ob hr
      refine j_put (pc' := 141) C dX8_push_138 fw_X8_52 rfl rfl hzc33 rfl ?_
      obtain ⟨azf34, bzf35, czf36, dzf37⟩ := some4 hr
      refine j_k (kc' := 0) (ks' := 0) (by omega) (by omega) ?_
      rw [show nx + q.2.2.1 = (nx + zo11.2.2.1) by omega, (bzt12.trans bzf35)] at hq
      exact j_vret C hq hret dX8_push_141
  refine j_k (kc' := zt12.2.2.1 + zo11.2.2.1) (ks' := zt12.2.2.2 + zo11.2.2.2) (by omega) (by omega) ?_
  refine j_lv (lv' := [(0, .ref this), (1, .long zx3), (3, .int zx7), (4, .int zx9), (5, .int (0 : Int32))]) [4, 3, 2, 1, 0] rfl ?_
  refine itA_Jq (J := fun (nzs10 : Nat) (czs10 : Ce) (zs10 : Int32 × Int32) (zK14 zS15 : Nat) => Jd G (zt12.2.2.1 + zK14) (zt12.2.2.2 + zS15) nzs10 czs10 33 [(0, .ref this), (1, .long zx3), (3, .int zs10.1), (4, .int zx9), (5, .int zs10.2)] []) ?_ hzo11
  clear hzo11
  intro nzs10 czs10 zs10 zb13 zK14 zS15 hr izs10 ezs10
  refine j_k (kc' := zt12.2.2.1 + zK14 + zb13.2.2.1) (ks' := zt12.2.2.2 + zS15 + zb13.2.2.2) (by omega) (by omega) ?_
  refine j_iload (q := 4) (pc' := 35) C dX8_push_33 rfl rfl ?_
  refine j_iload (q := 3) (pc' := 37) C dX8_push_35 rfl rfl ?_
  refine j_ic_ge (tgt := 122) (pc' := 40) C dX8_push_37 rfl rfl (fun hc => ?_) (fun hc => ?_)
  · have hr := ifT hc hr
    clear hc
    obtain ⟨azf38, bzf39, czf40, dzf41⟩ := some4 hr
    obtain ⟨azg42, bzg43, czg44, dzg45, ezg46⟩ := ezs10 _ azf38
    refine j_k (kc' := zt12.2.2.1) (ks' := zt12.2.2.2) (by omega) (by omega) ?_
    exact j_lv [0] rfl (kzo11 _ _ _ azg42.symm (bzg43.symm.trans bzf39) (by omega))
  · have hr := ifF hc hr
    clear hc
    refine j_aload_n (q := 0) (pc' := 41) C dX8_push_40 rfl rfl rfl ?_
    obtain ⟨zx47, hzx47, hr⟩ := ob hr
    refine j_getA (pc' := 44) C dX8_push_41 fl_X8_25 hzx47 rfl ?_
    refine j_iload_n (q := 2) (pc' := 45) C dX8_push_44 rfl rfl rfl ?_
    refine j_aload_n (q := 0) (pc' := 46) C dX8_push_45 rfl rfl rfl ?_
    obtain ⟨zx48, hzx48, hr⟩ := ob hr
    refine j_getI (pc' := 49) C dX8_push_46 fl_X8_19 hzx48 rfl ?_
    obtain ⟨zz49, hzz49, hr⟩ := ob hr
    obtain ⟨zx50, hzx50, hr⟩ := ob hr
    obtain ⟨fhzz49, hzz49⟩ := rcv_sp hzz49
    refine j_callV (ci := 2) (As := [.int zs10.1, .int zx48]) (rest := []) (st1 := [.int zx50]) (pc' := 52) C ⟨wm_995, wm_996⟩ rfl hzz49 (c_X2_isOf (nx := nzs10) hzx50) yw_X2_isOf wm_994 rfl rfl (Nat.le_of_ble_eq_true rfl) ⟨by decide, by decide⟩ dX8_push_49 rfl rfl ?_
    refine j_if_eq (tgt := 122) (pc' := 55) C dX8_push_52 rfl rfl (fun hc => ?_) (fun hc => ?_)
    · have hr := ifT hc hr
      clear hc
      obtain ⟨azf51, bzf52, czf53, dzf54⟩ := some4 hr
      obtain ⟨azg55, bzg56, czg57, dzg58, ezg59⟩ := ezs10 _ azf51
      refine j_k (kc' := zt12.2.2.1) (ks' := zt12.2.2.2) (by omega) (by omega) ?_
      exact j_lv [0] rfl (kzo11 _ _ _ azg55.symm (bzg56.symm.trans bzf52) (by omega))
    · have hr := ifF hc hr
      clear hc
      refine j_aload_n (q := 0) (pc' := 56) C dX8_push_55 rfl rfl rfl ?_
      obtain ⟨zx60, hzx60, hr⟩ := ob hr
      refine j_getA (pc' := 59) C dX8_push_56 fl_X8_25 hzx60 rfl ?_
      refine j_iload_n (q := 2) (pc' := 60) C dX8_push_59 rfl rfl rfl ?_
      obtain ⟨zz61, hzz61, hr⟩ := ob hr
      obtain ⟨zx62, hzx62, hr⟩ := ob hr
      obtain ⟨fhzz61, hzz61⟩ := rcv_sp hzz61
      refine j_callV (ci := 2) (As := [.int zs10.1]) (rest := []) (st1 := [.int zx62]) (pc' := 63) C ⟨wm_999, wm_1000⟩ rfl hzz61 (c_X2_cubeAt (nx := nzs10) hzx62) yw_X2_cubeAt wm_998 rfl rfl (Nat.le_of_ble_eq_true rfl) ⟨by decide, by decide⟩ dX8_push_60 rfl rfl ?_
      refine j_istore (lv' := [(6, .int zx62), (0, .ref this), (1, .long zx3), (3, .int zs10.1), (4, .int zx9), (5, .int zs10.2)]) (pc' := 65) C dX8_push_63 (by decide) rfl rfl ?_
      refine j_aload_n (q := 1) (pc' := 66) C dX8_push_65 rfl rfl rfl ?_
      refine j_dup (pc' := 67) C dX8_push_66 rfl rfl ?_
      obtain ⟨zx63, hzx63, hr⟩ := ob hr
      refine j_getI (pc' := 70) C dX8_push_67 fl_X8_61 hzx63 rfl ?_
      refine j_iconst (v := 1) (pc' := 71) C dX8_push_70 kI_1 rfl ?_
      refine j_iadd (pc' := 72) C dX8_push_71 rfl ?_
      obtain ⟨zc64, hzc64, hr⟩ := ob hr
      refine j_put (pc' := 75) C dX8_push_72 fw_X8_61 rfl rfl hzc64 rfl ?_
      refine j_aload_n (q := 1) (pc' := 76) C dX8_push_75 rfl rfl rfl ?_
      refine j_iload (q := 0) (pc' := 78) C dX8_push_76 rfl rfl ?_
      refine j_lload_n (q := 2) (pc' := 79) C dX8_push_78 rfl rfl rfl ?_
      obtain ⟨zz65, hzz65, hr⟩ := ob hr
      obtain ⟨zx66, hzx66, hr⟩ := ob hr
      obtain ⟨fhzz65, hzz65⟩ := rcv_sp hzz65
      refine j_callV (ci := 6) (As := [.int zx62, .long zx3]) (rest := []) (st1 := [.int zx66]) (pc' := 82) C ⟨wm_854, wm_855⟩ rfl hzz65 (c_X8_keepsOut (nx := nzs10) hzx66) yw_X8_keepsOut wm_853 rfl rfl (Nat.le_of_ble_eq_true rfl) ⟨by decide, by decide⟩ dX8_push_79 rfl rfl ?_
      refine j_if_eq (tgt := 113) (pc' := 85) C dX8_push_82 rfl rfl (fun hc => ?_) (fun hc => ?_)
      · have hr := ifT hc hr
        clear hc
        refine j_iinc (q := 3) (v := 1) (lv' := [(3, .int (zs10.1 + (1 : Int32))), (6, .int zx62), (0, .ref this), (1, .long zx3), (4, .int zx9), (5, .int zs10.2)]) (pc' := 116) C dX8_push_113 rfl kI_1 (by decide) rfl rfl ?_
        refine j_iinc (q := 5) (v := 1) (lv' := [(5, .int (zs10.2 + (1 : Int32))), (3, .int (zs10.1 + (1 : Int32))), (6, .int zx62), (0, .ref this), (1, .long zx3), (4, .int zx9)]) (pc' := 119) C dX8_push_116 rfl kI_1 (by decide) rfl rfl ?_
        refine j_goto (tgt := 33) C dX8_push_119 rfl ?_
        obtain ⟨azf67, bzf68, czf69, dzf70⟩ := some4 hr
        refine j_k (kc' := zt12.2.2.1 + zK14) (ks' := zt12.2.2.2 + zS15) (by omega) (by omega) ?_
        refine j_at (nx' := nzs10 + zb13.2.2.1) (by omega) bzf68.symm ?_
        exact j_lv [3, 4, 1, 5, 0] rfl (izs10 _ azf67)
      · have hr := ifF hc hr
        clear hc
        refine j_aload_n (q := 1) (pc' := 86) C dX8_push_85 rfl rfl rfl ?_
        obtain ⟨zx71, hzx71, hr⟩ := ob hr
        refine j_getA (pc' := 89) C dX8_push_86 fl_X8_25 hzx71 rfl ?_
        refine j_aload_n (q := 1) (pc' := 90) C dX8_push_89 rfl rfl rfl ?_
        obtain ⟨zx72, hzx72, hr⟩ := ob hr
        refine j_getI (pc' := 93) C dX8_push_90 fl_X8_19 hzx72 rfl ?_
        refine j_iconst (v := 1) (pc' := 94) C dX8_push_93 kI_1 rfl ?_
        refine j_iadd (pc' := 95) C dX8_push_94 rfl ?_
        refine j_iload (q := 0) (pc' := 97) C dX8_push_95 rfl rfl ?_
        obtain ⟨zz73, hzz73, hr⟩ := ob hr
        obtain ⟨zq74, zt75, hzq74, hr, azt75, bzt75, czt75, dzt75⟩ := adcB_s hr
        refine j_k (kc' := zt12.2.2.1 + zK14 + zt75.2.2.1 + zq74.2.2.1) (ks' := zt12.2.2.2 + zS15 + zt75.2.2.2 + zq74.2.2.2) (by omega) (by omega) ?_
        obtain ⟨fhzz73, hzz73⟩ := rcv_sp hzz73
        refine j_callVA (ci := 2) (As := [.int (zx72 + (1 : Int32)), .int zx62]) (rest := []) (st1 := []) (pc' := 100) C ⟨wm_862, wm_863⟩ rfl hzz73 (c_X2_putLast hzq74) yw_X2_putLast wm_977 rfl rfl (Nat.le_of_ble_eq_true rfl) ⟨by decide, by decide⟩ dX8_push_97 rfl rfl ?_
        refine j_aload_n (q := 1) (pc' := 101) C dX8_push_100 rfl rfl rfl ?_
        refine j_dup (pc' := 102) C dX8_push_101 rfl rfl ?_
        obtain ⟨zx76, hzx76, hr⟩ := ob hr
        refine j_getI (pc' := 105) C dX8_push_102 fl_X8_67 hzx76 rfl ?_
        refine j_iconst (v := 1) (pc' := 106) C dX8_push_105 kI_1 rfl ?_
        refine j_iadd (pc' := 107) C dX8_push_106 rfl ?_
        obtain ⟨zc77, hzc77, hr⟩ := ob hr
        refine j_put (pc' := 110) C dX8_push_107 fw_X8_67 rfl rfl hzc77 rfl ?_
        refine j_goto (tgt := 116) C dX8_push_110 rfl ?_
        refine j_iinc (q := 5) (v := 1) (lv' := [(5, .int (zs10.2 + (1 : Int32))), (6, .int zx62), (0, .ref this), (1, .long zx3), (3, .int zs10.1), (4, .int zx9)]) (pc' := 119) C dX8_push_116 rfl kI_1 (by decide) rfl rfl ?_
        refine j_goto (tgt := 33) C dX8_push_119 rfl ?_
        obtain ⟨azf78, bzf79, czf80, dzf81⟩ := some4 hr
        refine j_k (kc' := zt12.2.2.1 + zK14) (ks' := zt12.2.2.2 + zS15) (by omega) (by omega) ?_
        refine j_at (nx' := nzs10 + zb13.2.2.1) (by omega) (bzt75.trans bzf79).symm ?_
        exact j_lv [2, 3, 4, 5, 0] rfl (izs10 _ (azt75.trans azf78))
def m_X8_goOn (nx : Nat) (ce : Ce) (this : Nat) (p1 : Int32) : Option (Int32 × Ce × Nat × Nat) :=
  adcB (itA (fun (nzs1 : Nat) (czs1 : Ce) (zs1 : Int32) =>
    if p1 ≤ zs1 then
      some (Sum.inr zs1, czs1, 0, 0)
    else
      (rcv czs1 6 this).bind fun zz22 =>
      (m_X8_isOver czs1 this).bind fun zx23 =>
      if zx23 = 0 then
        (gI czs1 6 3 this).bind fun zx33 =>
        if zx33 = 0 then
          (rcv czs1 6 this).bind fun zz49 =>
          adcB (m_X8_seek nzs1 czs1 this) fun zq50 =>
          some (Sum.inl (zs1 + (1 : Int32)), zq50.2.1, 0, 0)
        else
          (gI czs1 6 3 this).bind fun zx34 =>
          if zx34 = (1 : Int32) then
            (rcv czs1 6 this).bind fun zz42 =>
            adcB (m_X8_oblige nzs1 czs1 this) fun zq43 =>
            some (Sum.inl (zs1 + (1 : Int32)), zq43.2.1, 0, 0)
          else
            (rcv czs1 6 this).bind fun zz35 =>
            adcB (m_X8_push nzs1 czs1 this) fun zq36 =>
            some (Sum.inl (zs1 + (1 : Int32)), zq36.2.1, 0, 0)
      else
        some (Sum.inr zs1, czs1, 0, 0)
  ) FU nx ce (0 : Int32)) fun (zo2 : Int32 × Ce × Nat × Nat) =>
  (gI zo2.2.1 6 7 this).bind fun zx7 =>
  (pV zo2.2.1 6 7 this (.int (zx7 + zo2.1))).bind fun zc8 =>
  some (zo2.1, zc8, 0, 0)
set_option maxRecDepth 100000 in
set_option maxHeartbeats 4000000 in
theorem c_X8_goOn {nx : Nat} {ce : Ce} {this : Nat} {p1 : Int32} {q : Int32 × Ce × Nat × Nat} (hr : m_X8_goOn nx ce this p1 = some q) : Ct yX8_goOn cX8_goOn 3 (some .int) 7 196 q.2.2.1 q.2.2.2 [.ref this, .int p1] nx ce (some (.int q.1)) q.2.1 := by
  unfold m_X8_goOn at hr
  refine ct_of (by decide) (Nat.le_of_ble_eq_true rfl) ?_
  intro G C hq hret hin
  show Jd G q.2.2.1 q.2.2.2 nx ce 0 [(0, .ref this), (1, .int p1)] []
  refine j_iconst (v := 0) (pc' := 1) C dX8_goOn_0 kI_0 rfl ?_
  refine j_istore_n (lv' := [(2, .int (0 : Int32)), (0, .ref this), (1, .int p1)]) (pc' := 2) C dX8_goOn_1 rfl (by decide) rfl rfl ?_
  obtain ⟨zo2, zt3, hzo2, rzo2, azt3, bzt3, czt3, dzt3⟩ := adcB_s hr
  have kzo2 : ∀ (vzo2 : Int32) (czo2 : Ce) (nzo2 : Nat), zo2.1 = vzo2 → zo2.2.1 = czo2 → nx + zo2.2.2.1 = nzo2 → Jd G (zt3.2.2.1) (zt3.2.2.2) nzo2 czo2 53 [(0, .ref this), (2, .int vzo2)] [] := by
    rintro _ _ _ rfl rfl rfl
    have hr := rzo2
    refine j_aload_n (q := 0) (pc' := 54) C dX8_goOn_53 rfl rfl rfl ?_
    refine j_dup (pc' := 55) C dX8_goOn_54 rfl rfl ?_
    obtain ⟨zx7, hzx7, hr⟩ := ob hr
    refine j_getI (pc' := 58) C dX8_goOn_55 fl_X8_58 hzx7 rfl ?_
    refine j_iload_n (q := 1) (pc' := 59) C dX8_goOn_58 rfl rfl rfl ?_
    refine j_iadd (pc' := 60) C dX8_goOn_59 rfl ?_
    obtain ⟨zc8, hzc8, hr⟩ := ob hr
    refine j_put (pc' := 63) C dX8_goOn_60 fw_X8_58 rfl rfl hzc8 rfl ?_
    refine j_iload_n (q := 1) (pc' := 64) C dX8_goOn_63 rfl rfl rfl ?_
    obtain ⟨azf9, bzf10, czf11, dzf12⟩ := some4 hr
    refine j_k (kc' := 0) (ks' := 0) (by omega) (by omega) ?_
    rw [show nx + q.2.2.1 = (nx + zo2.2.2.1) by omega, (bzt3.trans bzf10), (azt3.trans azf9)] at hq
    exact j_iret C hq hret dX8_goOn_64
  refine j_k (kc' := zt3.2.2.1 + zo2.2.2.1) (ks' := zt3.2.2.2 + zo2.2.2.2) (by omega) (by omega) ?_
  refine j_lv (lv' := [(0, .ref this), (1, .int p1), (2, .int (0 : Int32))]) [1, 2, 0] rfl ?_
  refine itA_Jq (J := fun (nzs1 : Nat) (czs1 : Ce) (zs1 : Int32) (zK5 zS6 : Nat) => Jd G (zt3.2.2.1 + zK5) (zt3.2.2.2 + zS6) nzs1 czs1 2 [(0, .ref this), (1, .int p1), (2, .int zs1)] []) ?_ hzo2
  clear hzo2
  intro nzs1 czs1 zs1 zb4 zK5 zS6 hr izs1 ezs1
  refine j_k (kc' := zt3.2.2.1 + zK5 + zb4.2.2.1) (ks' := zt3.2.2.2 + zS6 + zb4.2.2.2) (by omega) (by omega) ?_
  refine j_iload_n (q := 2) (pc' := 3) C dX8_goOn_2 rfl rfl rfl ?_
  refine j_iload_n (q := 1) (pc' := 4) C dX8_goOn_3 rfl rfl rfl ?_
  refine j_ic_ge (tgt := 53) (pc' := 7) C dX8_goOn_4 rfl rfl (fun hc => ?_) (fun hc => ?_)
  · have hr := ifT hc hr
    clear hc
    obtain ⟨azf13, bzf14, czf15, dzf16⟩ := some4 hr
    obtain ⟨azg17, bzg18, czg19, dzg20, ezg21⟩ := ezs1 _ azf13
    refine j_k (kc' := zt3.2.2.1) (ks' := zt3.2.2.2) (by omega) (by omega) ?_
    exact j_lv [0, 2] rfl (kzo2 _ _ _ azg17.symm (bzg18.symm.trans bzf14) (by omega))
  · have hr := ifF hc hr
    clear hc
    refine j_aload_n (q := 0) (pc' := 8) C dX8_goOn_7 rfl rfl rfl ?_
    obtain ⟨zz22, hzz22, hr⟩ := ob hr
    obtain ⟨zx23, hzx23, hr⟩ := ob hr
    obtain ⟨fhzz22, hzz22⟩ := rcv_sp hzz22
    refine j_callV (ci := 6) (As := []) (rest := []) (st1 := [.int zx23]) (pc' := 11) C ⟨wm_883, wm_884⟩ rfl hzz22 (c_X8_isOver (nx := nzs1) hzx23) yw_X8_isOver wm_890 rfl rfl (Nat.le_of_ble_eq_true rfl) ⟨by decide, by decide⟩ dX8_goOn_8 rfl rfl ?_
    refine j_if_ne (tgt := 53) (pc' := 14) C dX8_goOn_11 rfl rfl (fun hc => ?_) (fun hc => ?_)
    · have hr := ifF hc hr
      clear hc
      obtain ⟨azf24, bzf25, czf26, dzf27⟩ := some4 hr
      obtain ⟨azg28, bzg29, czg30, dzg31, ezg32⟩ := ezs1 _ azf24
      refine j_k (kc' := zt3.2.2.1) (ks' := zt3.2.2.2) (by omega) (by omega) ?_
      exact j_lv [0, 2] rfl (kzo2 _ _ _ azg28.symm (bzg29.symm.trans bzf25) (by omega))
    · have hr := ifT hc hr
      clear hc
      refine j_aload_n (q := 0) (pc' := 15) C dX8_goOn_14 rfl rfl rfl ?_
      obtain ⟨zx33, hzx33, hr⟩ := ob hr
      refine j_getI (pc' := 18) C dX8_goOn_15 fl_X8_52 hzx33 rfl ?_
      refine j_if_ne (tgt := 28) (pc' := 21) C dX8_goOn_18 rfl rfl (fun hc => ?_) (fun hc => ?_)
      · have hr := ifF hc hr
        clear hc
        refine j_aload_n (q := 0) (pc' := 29) C dX8_goOn_28 rfl rfl rfl ?_
        obtain ⟨zx34, hzx34, hr⟩ := ob hr
        refine j_getI (pc' := 32) C dX8_goOn_29 fl_X8_52 hzx34 rfl ?_
        refine j_iconst (v := 1) (pc' := 33) C dX8_goOn_32 kI_1 rfl ?_
        refine j_ic_ne (tgt := 43) (pc' := 36) C dX8_goOn_33 rfl rfl (fun hc => ?_) (fun hc => ?_)
        · have hr := ifF hc hr
          clear hc
          refine j_aload_n (q := 0) (pc' := 44) C dX8_goOn_43 rfl rfl rfl ?_
          obtain ⟨zz35, hzz35, hr⟩ := ob hr
          obtain ⟨zq36, zt37, hzq36, hr, azt37, bzt37, czt37, dzt37⟩ := adcB_s hr
          refine j_k (kc' := zt3.2.2.1 + zK5 + zt37.2.2.1 + zq36.2.2.1) (ks' := zt3.2.2.2 + zS6 + zt37.2.2.2 + zq36.2.2.2) (by omega) (by omega) ?_
          obtain ⟨fhzz35, hzz35⟩ := rcv_sp hzz35
          refine j_callVA (ci := 6) (As := []) (rest := []) (st1 := []) (pc' := 47) C ⟨wm_992, wm_28⟩ rfl hzz35 (c_X8_push hzq36) yw_X8_push wm_990 rfl rfl (Nat.le_of_ble_eq_true rfl) ⟨by decide, by decide⟩ dX8_goOn_44 rfl rfl ?_
          refine j_iinc (q := 2) (v := 1) (lv' := [(2, .int (zs1 + (1 : Int32))), (0, .ref this), (1, .int p1)]) (pc' := 50) C dX8_goOn_47 rfl kI_1 (by decide) rfl rfl ?_
          refine j_goto (tgt := 2) C dX8_goOn_50 rfl ?_
          obtain ⟨azf38, bzf39, czf40, dzf41⟩ := some4 hr
          refine j_k (kc' := zt3.2.2.1 + zK5) (ks' := zt3.2.2.2 + zS6) (by omega) (by omega) ?_
          refine j_at (nx' := nzs1 + zb4.2.2.1) (by omega) (bzt37.trans bzf39).symm ?_
          exact j_lv [1, 2, 0] rfl (izs1 _ (azt37.trans azf38))
        · have hr := ifT hc hr
          clear hc
          refine j_aload_n (q := 0) (pc' := 37) C dX8_goOn_36 rfl rfl rfl ?_
          obtain ⟨zz42, hzz42, hr⟩ := ob hr
          obtain ⟨zq43, zt44, hzq43, hr, azt44, bzt44, czt44, dzt44⟩ := adcB_s hr
          refine j_k (kc' := zt3.2.2.1 + zK5 + zt44.2.2.1 + zq43.2.2.1) (ks' := zt3.2.2.2 + zS6 + zt44.2.2.2 + zq43.2.2.2) (by omega) (by omega) ?_
          obtain ⟨fhzz42, hzz42⟩ := rcv_sp hzz42
          refine j_callVA (ci := 6) (As := []) (rest := []) (st1 := []) (pc' := 40) C ⟨wm_923, wm_23⟩ rfl hzz42 (c_X8_oblige hzq43) yw_X8_oblige wm_921 rfl rfl (Nat.le_of_ble_eq_true rfl) ⟨by decide, by decide⟩ dX8_goOn_37 rfl rfl ?_
          refine j_goto (tgt := 47) C dX8_goOn_40 rfl ?_
          refine j_iinc (q := 2) (v := 1) (lv' := [(2, .int (zs1 + (1 : Int32))), (0, .ref this), (1, .int p1)]) (pc' := 50) C dX8_goOn_47 rfl kI_1 (by decide) rfl rfl ?_
          refine j_goto (tgt := 2) C dX8_goOn_50 rfl ?_
          obtain ⟨azf45, bzf46, czf47, dzf48⟩ := some4 hr
          refine j_k (kc' := zt3.2.2.1 + zK5) (ks' := zt3.2.2.2 + zS6) (by omega) (by omega) ?_
          refine j_at (nx' := nzs1 + zb4.2.2.1) (by omega) (bzt44.trans bzf46).symm ?_
          exact j_lv [1, 2, 0] rfl (izs1 _ (azt44.trans azf45))
      · have hr := ifT hc hr
        clear hc
        refine j_aload_n (q := 0) (pc' := 22) C dX8_goOn_21 rfl rfl rfl ?_
        obtain ⟨zz49, hzz49, hr⟩ := ob hr
        obtain ⟨zq50, zt51, hzq50, hr, azt51, bzt51, czt51, dzt51⟩ := adcB_s hr
        refine j_k (kc' := zt3.2.2.1 + zK5 + zt51.2.2.1 + zq50.2.2.1) (ks' := zt3.2.2.2 + zS6 + zt51.2.2.2 + zq50.2.2.2) (by omega) (by omega) ?_
        obtain ⟨fhzz49, hzz49⟩ := rcv_sp hzz49
        refine j_callVA (ci := 6) (As := []) (rest := []) (st1 := []) (pc' := 25) C ⟨wm_893, wm_21⟩ rfl hzz49 (c_X8_seek hzq50) yw_X8_seek wm_891 rfl rfl (Nat.le_of_ble_eq_true rfl) ⟨by decide, by decide⟩ dX8_goOn_22 rfl rfl ?_
        refine j_goto (tgt := 47) C dX8_goOn_25 rfl ?_
        refine j_iinc (q := 2) (v := 1) (lv' := [(2, .int (zs1 + (1 : Int32))), (0, .ref this), (1, .int p1)]) (pc' := 50) C dX8_goOn_47 rfl kI_1 (by decide) rfl rfl ?_
        refine j_goto (tgt := 2) C dX8_goOn_50 rfl ?_
        obtain ⟨azf52, bzf53, czf54, dzf55⟩ := some4 hr
        refine j_k (kc' := zt3.2.2.1 + zK5) (ks' := zt3.2.2.2 + zS6) (by omega) (by omega) ?_
        refine j_at (nx' := nzs1 + zb4.2.2.1) (by omega) (bzt51.trans bzf53).symm ?_
        exact j_lv [1, 2, 0] rfl (izs1 _ (azt51.trans azf52))
