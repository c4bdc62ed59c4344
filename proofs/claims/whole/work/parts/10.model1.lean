def m_X12_nextClause (ce : Ce) (this : Nat) (p1 : Int32) : Option (Int32 × Ce) :=
  (rcv ce 9 this).bind fun zz1 =>
  (m_X12_nextToken ce this).bind fun zq2 =>
  (gI zq2.2 9 12 this).bind fun zx3 =>
  if zx3 = (204 : Int32) then
    (gI zq2.2 9 13 this).bind fun zx4 =>
    (gI zq2.2 9 19 this).bind fun zx5 =>
    if zx4 < zx5 then
      (gI zq2.2 9 22 this).bind fun zx6 =>
      (gI zq2.2 9 13 this).bind fun zx7 =>
      if ((zx6 >>> (zx7 &&& 31)) &&& (1 : Int32)) = (1 : Int32) then
        some ((4 : Int32), zq2.2)
      else
        (gI zq2.2 9 13 this).bind fun zx8 =>
        (gI zq2.2 9 22 this).bind fun zx9 =>
        (pV zq2.2 9 22 this (.int (zx9 ||| ((1 : Int32) <<< (zx8 &&& 31))))).bind fun zc10 =>
        (rcv zc10 9 this).bind fun zz11 =>
        (m_X12_nextToken zc10 this).bind fun zq12 =>
        (m_X12_formsOf p1).bind fun zx13 =>
        (rcv zq12.2 9 this).bind fun zz14 =>
        (m_X12_formAt zq12.2 this ((zx13 + (5 : Int32)) + ((4 : Int32) * zx8)) (1 : Int32)).bind fun zq15 =>
        some (zq15.1, zq15.2)
    else
      some ((3 : Int32), zq2.2)
  else
    some ((1 : Int32), zq2.2)
set_option maxRecDepth 100000 in
set_option maxHeartbeats 4000000 in
theorem c_X12_nextClause {nx : Nat} {ce : Ce} {this : Nat} {p1 : Int32} {q : Int32 × Ce} (hr : m_X12_nextClause ce this p1 = some q) : Ct yX12_nextClause cX12_nextClause 3 (some .int) 7 159 0 0 [.ref this, .int p1] nx ce (some (.int q.1)) q.2 := by
  unfold m_X12_nextClause at hr
  refine ct_of (by decide) (Nat.le_of_ble_eq_true rfl) ?_
  intro G C hq hret hin
  show Jd G 0 0 nx ce 0 [(0, .ref this), (1, .int p1)] []
  refine j_aload_n (q := 0) (pc' := 1) C dX12_nextClause_0 rfl rfl rfl ?_
  obtain ⟨zz1, hzz1, hr⟩ := ob hr
  obtain ⟨zq2, hzq2, hr⟩ := ob hr
  obtain ⟨fhzz1, hzz1⟩ := rcv_sp hzz1
  refine j_callV (ci := 9) (As := []) (rest := []) (st1 := []) (pc' := 4) C ⟨wm_1547, wm_41⟩ rfl hzz1 (c_X12_nextToken (nx := nx) hzq2) yw_X12_nextToken wm_1545 rfl rfl (Nat.le_of_ble_eq_true rfl) ⟨by decide, by decide⟩ dX12_nextClause_1 rfl rfl ?_
  refine j_aload_n (q := 0) (pc' := 5) C dX12_nextClause_4 rfl rfl rfl ?_
  obtain ⟨zx3, hzx3, hr⟩ := ob hr
  refine j_getI (pc' := 8) C dX12_nextClause_5 fl_X12_148 hzx3 rfl ?_
  refine j_sipush (v := 204) (pc' := 11) C dX12_nextClause_8 kS_204 rfl ?_
  refine j_ic_eq (tgt := 16) (pc' := 14) C dX12_nextClause_11 rfl rfl (fun hc => ?_) (fun hc => ?_)
  · have hr := ifT hc hr
    clear hc
    refine j_aload_n (q := 0) (pc' := 17) C dX12_nextClause_16 rfl rfl rfl ?_
    obtain ⟨zx4, hzx4, hr⟩ := ob hr
    refine j_getI (pc' := 20) C dX12_nextClause_17 fl_X12_138 hzx4 rfl ?_
    refine j_aload_n (q := 0) (pc' := 21) C dX12_nextClause_20 rfl rfl rfl ?_
    obtain ⟨zx5, hzx5, hr⟩ := ob hr
    refine j_getI (pc' := 24) C dX12_nextClause_21 fl_X12_182 hzx5 rfl ?_
    refine j_ic_lt (tgt := 29) (pc' := 27) C dX12_nextClause_24 rfl rfl (fun hc => ?_) (fun hc => ?_)
    · have hr := ifT hc hr
      clear hc
      refine j_aload_n (q := 0) (pc' := 30) C dX12_nextClause_29 rfl rfl rfl ?_
      obtain ⟨zx6, hzx6, hr⟩ := ob hr
      refine j_getI (pc' := 33) C dX12_nextClause_30 fl_X12_209 hzx6 rfl ?_
      refine j_aload_n (q := 0) (pc' := 34) C dX12_nextClause_33 rfl rfl rfl ?_
      obtain ⟨zx7, hzx7, hr⟩ := ob hr
      refine j_getI (pc' := 37) C dX12_nextClause_34 fl_X12_138 hzx7 rfl ?_
      refine j_ishr (pc' := 38) C dX12_nextClause_37 rfl ?_
      refine j_iconst (v := 1) (pc' := 39) C dX12_nextClause_38 kI_1 rfl ?_
      refine j_iand (pc' := 40) C dX12_nextClause_39 rfl ?_
      refine j_iconst (v := 1) (pc' := 41) C dX12_nextClause_40 kI_1 rfl ?_
      refine j_ic_ne (tgt := 46) (pc' := 44) C dX12_nextClause_41 rfl rfl (fun hc => ?_) (fun hc => ?_)
      · have hr := ifF hc hr
        clear hc
        refine j_aload_n (q := 0) (pc' := 47) C dX12_nextClause_46 rfl rfl rfl ?_
        obtain ⟨zx8, hzx8, hr⟩ := ob hr
        refine j_getI (pc' := 50) C dX12_nextClause_47 fl_X12_138 hzx8 rfl ?_
        refine j_istore_n (lv' := [(2, .int zx8), (0, .ref this), (1, .int p1)]) (pc' := 51) C dX12_nextClause_50 rfl (by decide) rfl rfl ?_
        refine j_aload_n (q := 1) (pc' := 52) C dX12_nextClause_51 rfl rfl rfl ?_
        refine j_dup (pc' := 53) C dX12_nextClause_52 rfl rfl ?_
        obtain ⟨zx9, hzx9, hr⟩ := ob hr
        refine j_getI (pc' := 56) C dX12_nextClause_53 fl_X12_209 hzx9 rfl ?_
        refine j_iconst (v := 1) (pc' := 57) C dX12_nextClause_56 kI_1 rfl ?_
        refine j_iload_n (q := 0) (pc' := 58) C dX12_nextClause_57 rfl rfl rfl ?_
        refine j_ishl (pc' := 59) C dX12_nextClause_58 rfl ?_
        refine j_ior (pc' := 60) C dX12_nextClause_59 rfl ?_
        obtain ⟨zc10, hzc10, hr⟩ := ob hr
        refine j_put (pc' := 63) C dX12_nextClause_60 fw_X12_209 rfl rfl hzc10 rfl ?_
        refine j_aload_n (q := 1) (pc' := 64) C dX12_nextClause_63 rfl rfl rfl ?_
        obtain ⟨zz11, hzz11, hr⟩ := ob hr
        obtain ⟨zq12, hzq12, hr⟩ := ob hr
        obtain ⟨fhzz11, hzz11⟩ := rcv_sp hzz11
        refine j_callV (ci := 9) (As := []) (rest := []) (st1 := []) (pc' := 67) C ⟨wm_1547, wm_41⟩ rfl hzz11 (c_X12_nextToken (nx := nx) hzq12) yw_X12_nextToken wm_1545 rfl rfl (Nat.le_of_ble_eq_true rfl) ⟨by decide, by decide⟩ dX12_nextClause_64 rfl rfl ?_
        refine j_aload_n (q := 1) (pc' := 68) C dX12_nextClause_67 rfl rfl rfl ?_
        refine j_iload_n (q := 2) (pc' := 69) C dX12_nextClause_68 rfl rfl rfl ?_
        obtain ⟨zx13, hzx13, hr⟩ := ob hr
        refine j_callS (As := [.int p1]) (rest := [.ref this]) (st1 := [.int zx13, .ref this]) (pc' := 72) C wm_1540 (c_X12_formsOf (nx := nx) (ce := zq12.2) hzx13) yw_X12_formsOf wm_1539 rfl rfl (Nat.le_of_ble_eq_true rfl) ⟨by decide, by decide⟩ dX12_nextClause_69 rfl rfl ?_
        refine j_iconst (v := 5) (pc' := 73) C dX12_nextClause_72 kI_5 rfl ?_
        refine j_iadd (pc' := 74) C dX12_nextClause_73 rfl ?_
        refine j_iconst (v := 4) (pc' := 75) C dX12_nextClause_74 kI_4 rfl ?_
        refine j_iload_n (q := 0) (pc' := 76) C dX12_nextClause_75 rfl rfl rfl ?_
        refine j_imul (pc' := 77) C dX12_nextClause_76 rfl ?_
        refine j_iadd (pc' := 78) C dX12_nextClause_77 rfl ?_
        refine j_iconst (v := 1) (pc' := 79) C dX12_nextClause_78 kI_1 rfl ?_
        obtain ⟨zz14, hzz14, hr⟩ := ob hr
        obtain ⟨zq15, hzq15, hr⟩ := ob hr
        obtain ⟨fhzz14, hzz14⟩ := rcv_sp hzz14
        refine j_callV (ci := 9) (As := [.int ((zx13 + (5 : Int32)) + ((4 : Int32) * zx8)), .int (1 : Int32)]) (rest := []) (st1 := [.int zq15.1]) (pc' := 82) C ⟨wm_1580, wm_47⟩ rfl hzz14 (c_X12_formAt (nx := nx) hzq15) yw_X12_formAt wm_1578 rfl rfl (Nat.le_of_ble_eq_true rfl) ⟨by decide, by decide⟩ dX12_nextClause_79 rfl rfl ?_
        have hr := Option.some.inj hr
        subst hr
        exact j_iret C hq hret dX12_nextClause_82
      · have hr := ifT hc hr
        clear hc
        refine j_iconst (v := 4) (pc' := 45) C dX12_nextClause_44 kI_4 rfl ?_
        have hr := Option.some.inj hr
        subst hr
        exact j_iret C hq hret dX12_nextClause_45
    · have hr := ifF hc hr
      clear hc
      refine j_iconst (v := 3) (pc' := 28) C dX12_nextClause_27 kI_3 rfl ?_
      have hr := Option.some.inj hr
      subst hr
      exact j_iret C hq hret dX12_nextClause_28
  · have hr := ifF hc hr
    clear hc
    refine j_iconst (v := 1) (pc' := 15) C dX12_nextClause_14 kI_1 rfl ?_
    have hr := Option.some.inj hr
    subst hr
    exact j_iret C hq hret dX12_nextClause_15
def m_X12_clause (ce : Ce) (this : Nat) (p1 : Int32) (p2 : Int32) : Option (Int32 × Ce) :=
  (gI ce 9 12 this).bind fun zx1 =>
  (
    if zx1 = (200 : Int32) then
      (rcv ce 9 this).bind fun zz6 =>
      (m_X12_lettersClause ce this p1 p2).bind fun zq7 =>
      some ((Sum.inr zq7.1, zq7.2))
    else
    if zx1 = (201 : Int32) then
      (gI ce 9 21 this).bind fun zx8 =>
      if zx8 = 0 then
        (pZ ce 9 21 this (1 : Int32)).bind fun zc9 =>
        (rcv zc9 9 this).bind fun zz10 =>
        (m_X12_nextToken zc9 this).bind fun zq11 =>
        (m_X12_formsOf p1).bind fun zx12 =>
        (rcv zq11.2 9 this).bind fun zz13 =>
        (m_X12_formAt zq11.2 this zx12 (0 : Int32)).bind fun zq14 =>
        some ((Sum.inr zq14.1, zq14.2))
      else
        some ((Sum.inl (4 : Int32), ce))
    else
    if zx1 = (202 : Int32) then
      (gA ce 9 4 this).bind fun zx15 =>
      (aI ce zx15 (((2 : Int32) * p1) + (1 : Int32))).bind fun zx16 =>
      if zx16 = (4 : Int32) then
        some ((Sum.inl (4 : Int32), ce))
      else
        (rcv ce 9 this).bind fun zz17 =>
        (m_X12_nextToken ce this).bind fun zq18 =>
        (m_X12_formsOf p1).bind fun zx19 =>
        (gA zq18.2 9 4 this).bind fun zx20 =>
        (aI zq18.2 zx20 (((2 : Int32) * p1) + (1 : Int32))).bind fun zx21 =>
        (rcv zq18.2 9 this).bind fun zz22 =>
        (m_X12_formAt zq18.2 this ((zx19 + (1 : Int32)) + zx21) (0 : Int32)).bind fun zq23 =>
        (gA zq23.2 9 4 this).bind fun zx24 =>
        (aI zq23.2 zx24 (((2 : Int32) * p1) + (1 : Int32))).bind fun zx25 =>
        (sI zq23.2 zx24 (((2 : Int32) * p1) + (1 : Int32)) (zx25 + (1 : Int32))).bind fun zc26 =>
        some ((Sum.inr zq23.1, zc26))
    else
    if zx1 = (203 : Int32) then
      (rcv ce 9 this).bind fun zz27 =>
      (m_X12_nextClause ce this p1).bind fun zq28 =>
      some ((Sum.inr zq28.1, zq28.2))
    else
    some ((Sum.inr (1 : Int32), ce))
  ).bind fun (zj2 : (Int32 ⊕ Int32) × Ce) => Sum.elim (fun wzj2 => some (wzj2, zj2.2)) (fun vzj2 =>
    if vzj2 = 0 then
      (gI zj2.2 9 12 this).bind fun zx3 =>
      if zx3 = (59 : Int32) then
        (rcv zj2.2 9 this).bind fun zz4 =>
        (m_X12_nextToken zj2.2 this).bind fun zq5 =>
        some ((0 : Int32), zq5.2)
      else
        some ((1 : Int32), zj2.2)
    else
      some (vzj2, zj2.2)
  ) zj2.1
set_option maxRecDepth 100000 in
set_option maxHeartbeats 4000000 in
theorem c_X12_clause {nx : Nat} {ce : Ce} {this : Nat} {p1 : Int32} {p2 : Int32} {q : Int32 × Ce} (hr : m_X12_clause ce this p1 p2 = some q) : Ct yX12_clause cX12_clause 4 (some .int) 8 181 0 0 [.ref this, .int p1, .int p2] nx ce (some (.int q.1)) q.2 := by
  unfold m_X12_clause at hr
  refine ct_of (by decide) (Nat.le_of_ble_eq_true rfl) ?_
  intro G C hq hret hin
  show Jd G 0 0 nx ce 0 [(0, .ref this), (1, .int p1), (2, .int p2)] []
  refine j_iconst (v := 1) (pc' := 1) C dX12_clause_0 kI_1 rfl ?_
  refine j_istore_n (lv' := [(3, .int (1 : Int32)), (0, .ref this), (1, .int p1), (2, .int p2)]) (pc' := 2) C dX12_clause_1 rfl (by decide) rfl rfl ?_
  refine j_aload_n (q := 1) (pc' := 3) C dX12_clause_2 rfl rfl rfl ?_
  obtain ⟨zx1, hzx1, hr⟩ := ob hr
  refine j_getI (pc' := 6) C dX12_clause_3 fl_X12_148 hzx1 rfl ?_
  obtain ⟨zj2, hzj2, rzj2⟩ := ob hr
  have kzj2 : ∀ vzj2, zj2.1 = Sum.inr vzj2 → Jd G 0 0 nx zj2.2 146 [(0, .ref this), (3, .int vzj2)] [] := by
    intro vzj2 ezj2
    rw [ezj2] at rzj2
    have hr := elR rzj2
    refine j_iload_n (q := 1) (pc' := 147) C dX12_clause_146 rfl rfl rfl ?_
    refine j_if_eq (tgt := 152) (pc' := 150) C dX12_clause_147 rfl rfl (fun hc => ?_) (fun hc => ?_)
    · have hr := ifT hc hr
      clear hc
      refine j_aload_n (q := 0) (pc' := 153) C dX12_clause_152 rfl rfl rfl ?_
      obtain ⟨zx3, hzx3, hr⟩ := ob hr
      refine j_getI (pc' := 156) C dX12_clause_153 fl_X12_148 hzx3 rfl ?_
      refine j_bipush (v := 59) (pc' := 158) C dX12_clause_156 kB_59 rfl ?_
      refine j_ic_eq (tgt := 163) (pc' := 161) C dX12_clause_158 rfl rfl (fun hc => ?_) (fun hc => ?_)
      · have hr := ifT hc hr
        clear hc
        refine j_aload_n (q := 0) (pc' := 164) C dX12_clause_163 rfl rfl rfl ?_
        obtain ⟨zz4, hzz4, hr⟩ := ob hr
        obtain ⟨zq5, hzq5, hr⟩ := ob hr
        obtain ⟨fhzz4, hzz4⟩ := rcv_sp hzz4
        refine j_callV (ci := 9) (As := []) (rest := []) (st1 := []) (pc' := 167) C ⟨wm_1547, wm_41⟩ rfl hzz4 (c_X12_nextToken (nx := nx) hzq5) yw_X12_nextToken wm_1545 rfl rfl (Nat.le_of_ble_eq_true rfl) ⟨by decide, by decide⟩ dX12_clause_164 rfl rfl ?_
        refine j_iconst (v := 0) (pc' := 168) C dX12_clause_167 kI_0 rfl ?_
        have hr := Option.some.inj hr
        subst hr
        exact j_iret C hq hret dX12_clause_168
      · have hr := ifF hc hr
        clear hc
        refine j_iconst (v := 1) (pc' := 162) C dX12_clause_161 kI_1 rfl ?_
        have hr := Option.some.inj hr
        subst hr
        exact j_iret C hq hret dX12_clause_162
    · have hr := ifF hc hr
      clear hc
      refine j_iload_n (q := 1) (pc' := 151) C dX12_clause_150 rfl rfl rfl ?_
      have hr := Option.some.inj hr
      subst hr
      exact j_iret C hq hret dX12_clause_151
  have hr := hzj2
  clear hzj2
  by_cases hc0 : zx1 = (200 : Int32)
  · have hr := ifT hc0 hr
    refine j_tabIn (v := 200) (off := 30) (tgt := 36) C dX12_clause_6 hc0 (by decide) rfl ?_
    refine j_aload_n (q := 1) (pc' := 37) C dX12_clause_36 rfl rfl rfl ?_
    refine j_iload_n (q := 2) (pc' := 38) C dX12_clause_37 rfl rfl rfl ?_
    refine j_iload_n (q := 3) (pc' := 39) C dX12_clause_38 rfl rfl rfl ?_
    obtain ⟨zz6, hzz6, hr⟩ := ob hr
    obtain ⟨zq7, hzq7, hr⟩ := ob hr
    obtain ⟨fhzz6, hzz6⟩ := rcv_sp hzz6
    refine j_callV (ci := 9) (As := [.int p1, .int p2]) (rest := []) (st1 := [.int zq7.1]) (pc' := 42) C ⟨wm_1576, wm_46⟩ rfl hzz6 (c_X12_lettersClause (nx := nx) hzq7) yw_X12_lettersClause wm_1574 rfl rfl (Nat.le_of_ble_eq_true rfl) ⟨by decide, by decide⟩ dX12_clause_39 rfl rfl ?_
    refine j_istore_n (lv' := [(3, .int zq7.1), (0, .ref this), (1, .int p1), (2, .int p2)]) (pc' := 43) C dX12_clause_42 rfl (by decide) rfl rfl ?_
    refine j_goto (tgt := 146) C dX12_clause_43 rfl ?_
    have hr := Option.some.inj hr
    subst hr
    exact j_lv [1, 0] rfl (kzj2 _ rfl)
  have hr := ifF hc0 hr
  by_cases hc1 : zx1 = (201 : Int32)
  · have hr := ifT hc1 hr
    refine j_tabIn (v := 201) (off := 40) (tgt := 46) C dX12_clause_6 hc1 (by decide) rfl ?_
    refine j_aload_n (q := 1) (pc' := 47) C dX12_clause_46 rfl rfl rfl ?_
    obtain ⟨zx8, hzx8, hr⟩ := ob hr
    refine j_getI (pc' := 50) C dX12_clause_47 fl_X12_222 hzx8 rfl ?_
    refine j_if_eq (tgt := 55) (pc' := 53) C dX12_clause_50 rfl rfl (fun hc => ?_) (fun hc => ?_)
    · have hr := ifT hc hr
      clear hc
      refine j_aload_n (q := 1) (pc' := 56) C dX12_clause_55 rfl rfl rfl ?_
      refine j_iconst (v := 1) (pc' := 57) C dX12_clause_56 kI_1 rfl ?_
      obtain ⟨zc9, hzc9, hr⟩ := ob hr
      obtain ⟨hzc9n, hzc9f, hzc9⟩ := pZ_sp hzc9
      refine j_put (pc' := 60) C dX12_clause_57 fw_X12_222 hzc9n hzc9f hzc9 rfl ?_
      refine j_aload_n (q := 1) (pc' := 61) C dX12_clause_60 rfl rfl rfl ?_
      obtain ⟨zz10, hzz10, hr⟩ := ob hr
      obtain ⟨zq11, hzq11, hr⟩ := ob hr
      obtain ⟨fhzz10, hzz10⟩ := rcv_sp hzz10
      refine j_callV (ci := 9) (As := []) (rest := []) (st1 := []) (pc' := 64) C ⟨wm_1547, wm_41⟩ rfl hzz10 (c_X12_nextToken (nx := nx) hzq11) yw_X12_nextToken wm_1545 rfl rfl (Nat.le_of_ble_eq_true rfl) ⟨by decide, by decide⟩ dX12_clause_61 rfl rfl ?_
      refine j_aload_n (q := 1) (pc' := 65) C dX12_clause_64 rfl rfl rfl ?_
      refine j_iload_n (q := 2) (pc' := 66) C dX12_clause_65 rfl rfl rfl ?_
      obtain ⟨zx12, hzx12, hr⟩ := ob hr
      refine j_callS (As := [.int p1]) (rest := [.ref this]) (st1 := [.int zx12, .ref this]) (pc' := 69) C wm_1540 (c_X12_formsOf (nx := nx) (ce := zq11.2) hzx12) yw_X12_formsOf wm_1539 rfl rfl (Nat.le_of_ble_eq_true rfl) ⟨by decide, by decide⟩ dX12_clause_66 rfl rfl ?_
      refine j_iconst (v := 0) (pc' := 70) C dX12_clause_69 kI_0 rfl ?_
      obtain ⟨zz13, hzz13, hr⟩ := ob hr
      obtain ⟨zq14, hzq14, hr⟩ := ob hr
      obtain ⟨fhzz13, hzz13⟩ := rcv_sp hzz13
      refine j_callV (ci := 9) (As := [.int zx12, .int (0 : Int32)]) (rest := []) (st1 := [.int zq14.1]) (pc' := 73) C ⟨wm_1580, wm_47⟩ rfl hzz13 (c_X12_formAt (nx := nx) hzq14) yw_X12_formAt wm_1578 rfl rfl (Nat.le_of_ble_eq_true rfl) ⟨by decide, by decide⟩ dX12_clause_70 rfl rfl ?_
      refine j_istore_n (lv' := [(3, .int zq14.1), (0, .ref this), (1, .int p1), (2, .int p2)]) (pc' := 74) C dX12_clause_73 rfl (by decide) rfl rfl ?_
      refine j_goto (tgt := 146) C dX12_clause_74 rfl ?_
      have hr := Option.some.inj hr
      subst hr
      exact j_lv [1, 0] rfl (kzj2 _ rfl)
    · have hr := ifF hc hr
      clear hc
      refine j_iconst (v := 4) (pc' := 54) C dX12_clause_53 kI_4 rfl ?_
      have hr := Option.some.inj hr
      subst hr
      have hr := elL rzj2
      have hr := Option.some.inj hr
      subst hr
      exact j_iret C hq hret dX12_clause_54
  have hr := ifF hc1 hr
  by_cases hc2 : zx1 = (202 : Int32)
  · have hr := ifT hc2 hr
    refine j_tabIn (v := 202) (off := 71) (tgt := 77) C dX12_clause_6 hc2 (by decide) rfl ?_
    refine j_aload_n (q := 1) (pc' := 78) C dX12_clause_77 rfl rfl rfl ?_
    obtain ⟨zx15, hzx15, hr⟩ := ob hr
    refine j_getA (pc' := 81) C dX12_clause_78 fl_X12_24 hzx15 rfl ?_
    refine j_iconst (v := 2) (pc' := 82) C dX12_clause_81 kI_2 rfl ?_
    refine j_iload_n (q := 2) (pc' := 83) C dX12_clause_82 rfl rfl rfl ?_
    refine j_imul (pc' := 84) C dX12_clause_83 rfl ?_
    refine j_iconst (v := 1) (pc' := 85) C dX12_clause_84 kI_1 rfl ?_
    refine j_iadd (pc' := 86) C dX12_clause_85 rfl ?_
    obtain ⟨zx16, hzx16, hr⟩ := ob hr
    refine j_iald (pc' := 87) C dX12_clause_86 hzx16 rfl ?_
    refine j_iconst (v := 4) (pc' := 88) C dX12_clause_87 kI_4 rfl ?_
    refine j_ic_ne (tgt := 93) (pc' := 91) C dX12_clause_88 rfl rfl (fun hc => ?_) (fun hc => ?_)
    · have hr := ifF hc hr
      clear hc
      refine j_aload_n (q := 1) (pc' := 94) C dX12_clause_93 rfl rfl rfl ?_
      obtain ⟨zz17, hzz17, hr⟩ := ob hr
      obtain ⟨zq18, hzq18, hr⟩ := ob hr
      obtain ⟨fhzz17, hzz17⟩ := rcv_sp hzz17
      refine j_callV (ci := 9) (As := []) (rest := []) (st1 := []) (pc' := 97) C ⟨wm_1547, wm_41⟩ rfl hzz17 (c_X12_nextToken (nx := nx) hzq18) yw_X12_nextToken wm_1545 rfl rfl (Nat.le_of_ble_eq_true rfl) ⟨by decide, by decide⟩ dX12_clause_94 rfl rfl ?_
      refine j_aload_n (q := 1) (pc' := 98) C dX12_clause_97 rfl rfl rfl ?_
      refine j_iload_n (q := 2) (pc' := 99) C dX12_clause_98 rfl rfl rfl ?_
      obtain ⟨zx19, hzx19, hr⟩ := ob hr
      refine j_callS (As := [.int p1]) (rest := [.ref this]) (st1 := [.int zx19, .ref this]) (pc' := 102) C wm_1540 (c_X12_formsOf (nx := nx) (ce := zq18.2) hzx19) yw_X12_formsOf wm_1539 rfl rfl (Nat.le_of_ble_eq_true rfl) ⟨by decide, by decide⟩ dX12_clause_99 rfl rfl ?_
      refine j_iconst (v := 1) (pc' := 103) C dX12_clause_102 kI_1 rfl ?_
      refine j_iadd (pc' := 104) C dX12_clause_103 rfl ?_
      refine j_aload_n (q := 1) (pc' := 105) C dX12_clause_104 rfl rfl rfl ?_
      obtain ⟨zx20, hzx20, hr⟩ := ob hr
      refine j_getA (pc' := 108) C dX12_clause_105 fl_X12_24 hzx20 rfl ?_
      refine j_iconst (v := 2) (pc' := 109) C dX12_clause_108 kI_2 rfl ?_
      refine j_iload_n (q := 2) (pc' := 110) C dX12_clause_109 rfl rfl rfl ?_
      refine j_imul (pc' := 111) C dX12_clause_110 rfl ?_
      refine j_iconst (v := 1) (pc' := 112) C dX12_clause_111 kI_1 rfl ?_
      refine j_iadd (pc' := 113) C dX12_clause_112 rfl ?_
      obtain ⟨zx21, hzx21, hr⟩ := ob hr
      refine j_iald (pc' := 114) C dX12_clause_113 hzx21 rfl ?_
      refine j_iadd (pc' := 115) C dX12_clause_114 rfl ?_
      refine j_iconst (v := 0) (pc' := 116) C dX12_clause_115 kI_0 rfl ?_
      obtain ⟨zz22, hzz22, hr⟩ := ob hr
      obtain ⟨zq23, hzq23, hr⟩ := ob hr
      obtain ⟨fhzz22, hzz22⟩ := rcv_sp hzz22
      refine j_callV (ci := 9) (As := [.int ((zx19 + (1 : Int32)) + zx21), .int (0 : Int32)]) (rest := []) (st1 := [.int zq23.1]) (pc' := 119) C ⟨wm_1580, wm_47⟩ rfl hzz22 (c_X12_formAt (nx := nx) hzq23) yw_X12_formAt wm_1578 rfl rfl (Nat.le_of_ble_eq_true rfl) ⟨by decide, by decide⟩ dX12_clause_116 rfl rfl ?_
      refine j_istore_n (lv' := [(3, .int zq23.1), (0, .ref this), (1, .int p1), (2, .int p2)]) (pc' := 120) C dX12_clause_119 rfl (by decide) rfl rfl ?_
      refine j_aload_n (q := 1) (pc' := 121) C dX12_clause_120 rfl rfl rfl ?_
      obtain ⟨zx24, hzx24, hr⟩ := ob hr
      refine j_getA (pc' := 124) C dX12_clause_121 fl_X12_24 hzx24 rfl ?_
      refine j_iconst (v := 2) (pc' := 125) C dX12_clause_124 kI_2 rfl ?_
      refine j_iload_n (q := 2) (pc' := 126) C dX12_clause_125 rfl rfl rfl ?_
      refine j_imul (pc' := 127) C dX12_clause_126 rfl ?_
      refine j_iconst (v := 1) (pc' := 128) C dX12_clause_127 kI_1 rfl ?_
      refine j_iadd (pc' := 129) C dX12_clause_128 rfl ?_
      refine j_dup2 (pc' := 130) C dX12_clause_129 rfl rfl rfl ?_
      obtain ⟨zx25, hzx25, hr⟩ := ob hr
      refine j_iald (pc' := 131) C dX12_clause_130 hzx25 rfl ?_
      refine j_iconst (v := 1) (pc' := 132) C dX12_clause_131 kI_1 rfl ?_
      refine j_iadd (pc' := 133) C dX12_clause_132 rfl ?_
      obtain ⟨zc26, hzc26, hr⟩ := ob hr
      refine j_iast (pc' := 134) C dX12_clause_133 hzc26 rfl ?_
      refine j_goto (tgt := 146) C dX12_clause_134 rfl ?_
      have hr := Option.some.inj hr
      subst hr
      exact j_lv [1, 0] rfl (kzj2 _ rfl)
    · have hr := ifT hc hr
      clear hc
      refine j_iconst (v := 4) (pc' := 92) C dX12_clause_91 kI_4 rfl ?_
      have hr := Option.some.inj hr
      subst hr
      have hr := elL rzj2
      have hr := Option.some.inj hr
      subst hr
      exact j_iret C hq hret dX12_clause_92
  have hr := ifF hc2 hr
  by_cases hc3 : zx1 = (203 : Int32)
  · have hr := ifT hc3 hr
    refine j_tabIn (v := 203) (off := 131) (tgt := 137) C dX12_clause_6 hc3 (by decide) rfl ?_
    refine j_aload_n (q := 1) (pc' := 138) C dX12_clause_137 rfl rfl rfl ?_
    refine j_iload_n (q := 2) (pc' := 139) C dX12_clause_138 rfl rfl rfl ?_
    obtain ⟨zz27, hzz27, hr⟩ := ob hr
    obtain ⟨zq28, hzq28, hr⟩ := ob hr
    obtain ⟨fhzz27, hzz27⟩ := rcv_sp hzz27
    refine j_callV (ci := 9) (As := [.int p1]) (rest := []) (st1 := [.int zq28.1]) (pc' := 142) C ⟨wm_1616, wm_55⟩ rfl hzz27 (c_X12_nextClause (nx := nx) hzq28) yw_X12_nextClause wm_1614 rfl rfl (Nat.le_of_ble_eq_true rfl) ⟨by decide, by decide⟩ dX12_clause_139 rfl rfl ?_
    refine j_istore_n (lv' := [(3, .int zq28.1), (0, .ref this), (1, .int p1), (2, .int p2)]) (pc' := 143) C dX12_clause_142 rfl (by decide) rfl rfl ?_
    refine j_goto (tgt := 146) C dX12_clause_143 rfl ?_
    have hr := Option.some.inj hr
    subst hr
    exact j_lv [1, 0] rfl (kzj2 _ rfl)
  have hr := ifF hc3 hr
  refine j_tabOut (tgt := 146) C dX12_clause_6 (tab_out 4 (by decide) (by decide) (by decide) (fun i hi => by
    match i, hi with
    | 0, _ => exact hc0
    | 1, _ => exact hc1
    | 2, _ => exact hc2
    | 3, _ => exact hc3
    | i + 4, hi => omega)) rfl ?_
  have hr := Option.some.inj hr
  subst hr
  exact j_lv [1, 0] rfl (kzj2 _ rfl)
def m_X12_readText (ce : Ce) (this : Nat) : Option (Int32 × Ce) :=
  (gA ce 9 0 this).bind fun zx1 =>
  (aI ce zx1 (0 : Int32)).bind fun zx2 =>
  (m_X12_formsOf zx2).bind fun zx3 =>
  (gA ce 9 4 this).bind fun zx4 =>
  (sI ce zx4 ((2 : Int32) * zx2) (3 : Int32)).bind fun zc5 =>
  (gA zc5 9 4 this).bind fun zx6 =>
  (sI zc5 zx6 (((2 : Int32) * zx2) + (1 : Int32)) (0 : Int32)).bind fun zc7 =>
  (pV zc7 9 19 this (.int (3 : Int32))).bind fun zc8 =>
  (pZ zc8 9 21 this (0 : Int32)).bind fun zc9 =>
  (pV zc9 9 22 this (.int (0 : Int32))).bind fun zc10 =>
  (gA zc10 9 5 this).bind fun zx11 =>
  (sL zc10 zx11 zx3 (1 : Int64)).bind fun zc12 =>
  (gA zc12 9 5 this).bind fun zx13 =>
  (sL zc12 zx13 (zx3 + (1 : Int32)) (0 : Int64)).bind fun zc14 =>
  (it (fun (zs15 : Int32 × Ce) =>
    if (6 : Int32) ≤ zs15.1 then
      some (Sum.inr ((), zs15.2))
    else
      (it (fun (zs31 : Int32 × Ce) =>
        if (4 : Int32) ≤ zs31.1 then
          some (Sum.inr ((), zs31.2))
        else
          (gA zs31.2 9 5 this).bind fun zx34 =>
          (m_X12_letterSet zs15.1).bind fun zx35 =>
          (sL zs31.2 zx34 (((zx3 + (5 : Int32)) + ((4 : Int32) * zs15.1)) + zs31.1) zx35).bind fun zc36 =>
          some (Sum.inl ((zs31.1 + (1 : Int32)), zc36))
      ) FU ((0 : Int32), zs15.2)).bind fun (zo32 : Unit × Ce) =>
      some (Sum.inl ((zs15.1 + (1 : Int32)), zo32.2))
  ) FU ((0 : Int32), zc14)).bind fun (zo16 : Unit × Ce) =>
  (pV zo16.2 9 10 this (.int (0 : Int32))).bind fun zc18 =>
  (rcv zc18 9 this).bind fun zz19 =>
  (m_X12_nextToken zc18 this).bind fun zq20 =>
  (it (fun (zs21 : Int32 × Ce) =>
    (gI zs21.2 9 12 this).bind fun zx28 =>
    if zx28 = 0 then
      some (Sum.inr (Sum.inr (), zs21.2))
    else
      (rcv zs21.2 9 this).bind fun zz29 =>
      (m_X12_clause zs21.2 this zx2 zs21.1).bind fun zq30 =>
      if zq30.1 = 0 then
        some (Sum.inl ((zs21.1 + (1 : Int32)), zq30.2))
      else
        some (Sum.inr (Sum.inl zq30.1, zq30.2))
  ) FU ((0 : Int32), zq20.2)).bind fun (zo22 : (Int32 ⊕ Unit) × Ce) =>
  Sum.elim (fun wzo22 => some (wzo22, zo22.2)) (fun vzo22 =>
    (gA zo22.2 9 4 this).bind fun zx24 =>
    (aI zo22.2 zx24 (((2 : Int32) * zx2) + (1 : Int32))).bind fun zx25 =>
    if zx25 = 0 then
      (gA zo22.2 9 4 this).bind fun zx26 =>
      (sI zo22.2 zx26 (((2 : Int32) * zx2) + (1 : Int32)) (1 : Int32)).bind fun zc27 =>
      some ((0 : Int32), zc27)
    else
      some ((0 : Int32), zo22.2)
  ) zo22.1
set_option maxRecDepth 100000 in
set_option maxHeartbeats 4000000 in
theorem c_X12_readText {nx : Nat} {ce : Ce} {this : Nat} {q : Int32 × Ce} (hr : m_X12_readText ce this = some q) : Ct yX12_readText cX12_readText 5 (some .int) 9 204 0 0 [.ref this] nx ce (some (.int q.1)) q.2 := by
  unfold m_X12_readText at hr
  refine ct_of (by decide) (Nat.le_of_ble_eq_true rfl) ?_
  intro G C hq hret hin
  show Jd G 0 0 nx ce 0 [(0, .ref this)] []
  refine j_aload_n (q := 0) (pc' := 1) C dX12_readText_0 rfl rfl rfl ?_
  obtain ⟨zx1, hzx1, hr⟩ := ob hr
  refine j_getA (pc' := 4) C dX12_readText_1 fl_X12_8 hzx1 rfl ?_
  refine j_iconst (v := 0) (pc' := 5) C dX12_readText_4 kI_0 rfl ?_
  obtain ⟨zx2, hzx2, hr⟩ := ob hr
  refine j_iald (pc' := 6) C dX12_readText_5 hzx2 rfl ?_
  refine j_istore_n (lv' := [(1, .int zx2), (0, .ref this)]) (pc' := 7) C dX12_readText_6 rfl (by decide) rfl rfl ?_
  refine j_iload_n (q := 0) (pc' := 8) C dX12_readText_7 rfl rfl rfl ?_
  obtain ⟨zx3, hzx3, hr⟩ := ob hr
  refine j_callS (As := [.int zx2]) (rest := []) (st1 := [.int zx3]) (pc' := 11) C wm_1540 (c_X12_formsOf (nx := nx) (ce := ce) hzx3) yw_X12_formsOf wm_1539 rfl rfl (Nat.le_of_ble_eq_true rfl) ⟨by decide, by decide⟩ dX12_readText_8 rfl rfl ?_
  refine j_istore_n (lv' := [(2, .int zx3), (1, .int zx2), (0, .ref this)]) (pc' := 12) C dX12_readText_11 rfl (by decide) rfl rfl ?_
  refine j_aload_n (q := 2) (pc' := 13) C dX12_readText_12 rfl rfl rfl ?_
  obtain ⟨zx4, hzx4, hr⟩ := ob hr
  refine j_getA (pc' := 16) C dX12_readText_13 fl_X12_24 hzx4 rfl ?_
  refine j_iconst (v := 2) (pc' := 17) C dX12_readText_16 kI_2 rfl ?_
  refine j_iload_n (q := 1) (pc' := 18) C dX12_readText_17 rfl rfl rfl ?_
  refine j_imul (pc' := 19) C dX12_readText_18 rfl ?_
  refine j_iconst (v := 3) (pc' := 20) C dX12_readText_19 kI_3 rfl ?_
  obtain ⟨zc5, hzc5, hr⟩ := ob hr
  refine j_iast (pc' := 21) C dX12_readText_20 hzc5 rfl ?_
  refine j_aload_n (q := 2) (pc' := 22) C dX12_readText_21 rfl rfl rfl ?_
  obtain ⟨zx6, hzx6, hr⟩ := ob hr
  refine j_getA (pc' := 25) C dX12_readText_22 fl_X12_24 hzx6 rfl ?_
  refine j_iconst (v := 2) (pc' := 26) C dX12_readText_25 kI_2 rfl ?_
  refine j_iload_n (q := 1) (pc' := 27) C dX12_readText_26 rfl rfl rfl ?_
  refine j_imul (pc' := 28) C dX12_readText_27 rfl ?_
  refine j_iconst (v := 1) (pc' := 29) C dX12_readText_28 kI_1 rfl ?_
  refine j_iadd (pc' := 30) C dX12_readText_29 rfl ?_
  refine j_iconst (v := 0) (pc' := 31) C dX12_readText_30 kI_0 rfl ?_
  obtain ⟨zc7, hzc7, hr⟩ := ob hr
  refine j_iast (pc' := 32) C dX12_readText_31 hzc7 rfl ?_
  refine j_aload_n (q := 2) (pc' := 33) C dX12_readText_32 rfl rfl rfl ?_
  refine j_iconst (v := 3) (pc' := 34) C dX12_readText_33 kI_3 rfl ?_
  obtain ⟨zc8, hzc8, hr⟩ := ob hr
  refine j_put (pc' := 37) C dX12_readText_34 fw_X12_182 rfl rfl hzc8 rfl ?_
  refine j_aload_n (q := 2) (pc' := 38) C dX12_readText_37 rfl rfl rfl ?_
  refine j_iconst (v := 0) (pc' := 39) C dX12_readText_38 kI_0 rfl ?_
  obtain ⟨zc9, hzc9, hr⟩ := ob hr
  obtain ⟨hzc9n, hzc9f, hzc9⟩ := pZ_sp hzc9
  refine j_put (pc' := 42) C dX12_readText_39 fw_X12_222 hzc9n hzc9f hzc9 rfl ?_
  refine j_aload_n (q := 2) (pc' := 43) C dX12_readText_42 rfl rfl rfl ?_
  refine j_iconst (v := 0) (pc' := 44) C dX12_readText_43 kI_0 rfl ?_
  obtain ⟨zc10, hzc10, hr⟩ := ob hr
  refine j_put (pc' := 47) C dX12_readText_44 fw_X12_209 rfl rfl hzc10 rfl ?_
  refine j_aload_n (q := 2) (pc' := 48) C dX12_readText_47 rfl rfl rfl ?_
  obtain ⟨zx11, hzx11, hr⟩ := ob hr
  refine j_getA (pc' := 51) C dX12_readText_48 fl_X12_27 hzx11 rfl ?_
  refine j_iload_n (q := 0) (pc' := 52) C dX12_readText_51 rfl rfl rfl ?_
  refine j_lconst (v := 1) (pc' := 53) C dX12_readText_52 kL_1 rfl ?_
  obtain ⟨zc12, hzc12, hr⟩ := ob hr
  refine j_last (pc' := 54) C dX12_readText_53 hzc12 rfl ?_
  refine j_aload_n (q := 2) (pc' := 55) C dX12_readText_54 rfl rfl rfl ?_
  obtain ⟨zx13, hzx13, hr⟩ := ob hr
  refine j_getA (pc' := 58) C dX12_readText_55 fl_X12_27 hzx13 rfl ?_
  refine j_iload_n (q := 0) (pc' := 59) C dX12_readText_58 rfl rfl rfl ?_
  refine j_iconst (v := 1) (pc' := 60) C dX12_readText_59 kI_1 rfl ?_
  refine j_iadd (pc' := 61) C dX12_readText_60 rfl ?_
  refine j_lconst (v := 0) (pc' := 62) C dX12_readText_61 kL_0 rfl ?_
  obtain ⟨zc14, hzc14, hr⟩ := ob hr
  refine j_last (pc' := 63) C dX12_readText_62 hzc14 rfl ?_
  refine j_iconst (v := 0) (pc' := 64) C dX12_readText_63 kI_0 rfl ?_
  refine j_istore_n (lv' := [(3, .int (0 : Int32)), (2, .int zx3), (1, .int zx2), (0, .ref this)]) (pc' := 65) C dX12_readText_64 rfl (by decide) rfl rfl ?_
  obtain ⟨zo16, hzo16, rzo16⟩ := ob hr
  have kzo16 : Jd G 0 0 nx zo16.2 111 [(0, .ref this), (1, .int zx2)] [] := by
    have hr := rzo16
    refine j_aload_n (q := 0) (pc' := 112) C dX12_readText_111 rfl rfl rfl ?_
    refine j_iconst (v := 0) (pc' := 113) C dX12_readText_112 kI_0 rfl ?_
    obtain ⟨zc18, hzc18, hr⟩ := ob hr
    refine j_put (pc' := 116) C dX12_readText_113 fw_X12_145 rfl rfl hzc18 rfl ?_
    refine j_aload_n (q := 0) (pc' := 117) C dX12_readText_116 rfl rfl rfl ?_
    obtain ⟨zz19, hzz19, hr⟩ := ob hr
    obtain ⟨zq20, hzq20, hr⟩ := ob hr
    obtain ⟨fhzz19, hzz19⟩ := rcv_sp hzz19
    refine j_callV (ci := 9) (As := []) (rest := []) (st1 := []) (pc' := 120) C ⟨wm_1547, wm_41⟩ rfl hzz19 (c_X12_nextToken (nx := nx) hzq20) yw_X12_nextToken wm_1545 rfl rfl (Nat.le_of_ble_eq_true rfl) ⟨by decide, by decide⟩ dX12_readText_117 rfl rfl ?_
    refine j_iconst (v := 0) (pc' := 121) C dX12_readText_120 kI_0 rfl ?_
    refine j_istore_n (lv' := [(3, .int (0 : Int32)), (0, .ref this), (1, .int zx2)]) (pc' := 122) C dX12_readText_121 rfl (by decide) rfl rfl ?_
    obtain ⟨zo22, hzo22, rzo22⟩ := ob hr
    have kzo22 : ∀ vzo22, zo22.1 = Sum.inr vzo22 → Jd G 0 0 nx zo22.2 151 [(0, .ref this), (1, .int zx2)] [] := by
      intro vzo22 ezo22
      rw [ezo22] at rzo22
      have hr := elR rzo22
      refine j_aload_n (q := 0) (pc' := 152) C dX12_readText_151 rfl rfl rfl ?_
      obtain ⟨zx24, hzx24, hr⟩ := ob hr
      refine j_getA (pc' := 155) C dX12_readText_152 fl_X12_24 hzx24 rfl ?_
      refine j_iconst (v := 2) (pc' := 156) C dX12_readText_155 kI_2 rfl ?_
      refine j_iload_n (q := 1) (pc' := 157) C dX12_readText_156 rfl rfl rfl ?_
      refine j_imul (pc' := 158) C dX12_readText_157 rfl ?_
      refine j_iconst (v := 1) (pc' := 159) C dX12_readText_158 kI_1 rfl ?_
      refine j_iadd (pc' := 160) C dX12_readText_159 rfl ?_
      obtain ⟨zx25, hzx25, hr⟩ := ob hr
      refine j_iald (pc' := 161) C dX12_readText_160 hzx25 rfl ?_
      refine j_if_ne (tgt := 175) (pc' := 164) C dX12_readText_161 rfl rfl (fun hc => ?_) (fun hc => ?_)
      · have hr := ifF hc hr
        clear hc
        refine j_iconst (v := 0) (pc' := 176) C dX12_readText_175 kI_0 rfl ?_
        have hr := Option.some.inj hr
        subst hr
        exact j_iret C hq hret dX12_readText_176
      · have hr := ifT hc hr
        clear hc
        refine j_aload_n (q := 0) (pc' := 165) C dX12_readText_164 rfl rfl rfl ?_
        obtain ⟨zx26, hzx26, hr⟩ := ob hr
        refine j_getA (pc' := 168) C dX12_readText_165 fl_X12_24 hzx26 rfl ?_
        refine j_iconst (v := 2) (pc' := 169) C dX12_readText_168 kI_2 rfl ?_
        refine j_iload_n (q := 1) (pc' := 170) C dX12_readText_169 rfl rfl rfl ?_
        refine j_imul (pc' := 171) C dX12_readText_170 rfl ?_
        refine j_iconst (v := 1) (pc' := 172) C dX12_readText_171 kI_1 rfl ?_
        refine j_iadd (pc' := 173) C dX12_readText_172 rfl ?_
        refine j_iconst (v := 1) (pc' := 174) C dX12_readText_173 kI_1 rfl ?_
        obtain ⟨zc27, hzc27, hr⟩ := ob hr
        refine j_iast (pc' := 175) C dX12_readText_174 hzc27 rfl ?_
        refine j_iconst (v := 0) (pc' := 176) C dX12_readText_175 kI_0 rfl ?_
        have hr := Option.some.inj hr
        subst hr
        exact j_iret C hq hret dX12_readText_176
    refine j_lv (lv' := [(0, .ref this), (1, .int zx2), (3, .int (0 : Int32))]) [1, 2, 0] rfl ?_
    refine it_J (J := (fun (zs21 : Int32 × Ce) => Jd G 0 0 nx zs21.2 122 [(0, .ref this), (1, .int zx2), (3, .int zs21.1)] [])) ?_ hzo22
    clear hzo22
    intro zs21 zr23 hr izs21 ezs21
    refine j_aload_n (q := 0) (pc' := 123) C dX12_readText_122 rfl rfl rfl ?_
    obtain ⟨zx28, hzx28, hr⟩ := ob hr
    refine j_getI (pc' := 126) C dX12_readText_123 fl_X12_148 hzx28 rfl ?_
    refine j_if_eq (tgt := 151) (pc' := 129) C dX12_readText_126 rfl rfl (fun hc => ?_) (fun hc => ?_)
    · have hr := ifT hc hr
      clear hc
      have hr := ezs21 _ (Option.some.inj hr).symm
      subst hr
      exact j_lv [0, 1] rfl (kzo22 _ rfl)
    · have hr := ifF hc hr
      clear hc
      refine j_aload_n (q := 0) (pc' := 130) C dX12_readText_129 rfl rfl rfl ?_
      refine j_iload_n (q := 1) (pc' := 131) C dX12_readText_130 rfl rfl rfl ?_
      refine j_iload_n (q := 2) (pc' := 132) C dX12_readText_131 rfl rfl rfl ?_
      obtain ⟨zz29, hzz29, hr⟩ := ob hr
      obtain ⟨zq30, hzq30, hr⟩ := ob hr
      obtain ⟨fhzz29, hzz29⟩ := rcv_sp hzz29
      refine j_callV (ci := 9) (As := [.int zx2, .int zs21.1]) (rest := []) (st1 := [.int zq30.1]) (pc' := 135) C ⟨wm_1572, wm_45⟩ rfl hzz29 (c_X12_clause (nx := nx) hzq30) yw_X12_clause wm_1570 rfl rfl (Nat.le_of_ble_eq_true rfl) ⟨by decide, by decide⟩ dX12_readText_132 rfl rfl ?_
      refine j_istore (lv' := [(4, .int zq30.1), (0, .ref this), (1, .int zx2), (3, .int zs21.1)]) (pc' := 137) C dX12_readText_135 (by decide) rfl rfl ?_
      refine j_iload (q := 0) (pc' := 139) C dX12_readText_137 rfl rfl ?_
      refine j_if_eq (tgt := 145) (pc' := 142) C dX12_readText_139 rfl rfl (fun hc => ?_) (fun hc => ?_)
      · have hr := ifT hc hr
        clear hc
        refine j_iinc (q := 3) (v := 1) (lv' := [(3, .int (zs21.1 + (1 : Int32))), (4, .int zq30.1), (0, .ref this), (1, .int zx2)]) (pc' := 148) C dX12_readText_145 rfl kI_1 (by decide) rfl rfl ?_
        refine j_goto (tgt := 122) C dX12_readText_148 rfl ?_
        have hr := izs21 ((zs21.1 + (1 : Int32)), zq30.2) (Option.some.inj hr).symm
        exact j_lv [2, 3, 0] rfl hr
      · have hr := ifF hc hr
        clear hc
        refine j_iload (q := 0) (pc' := 144) C dX12_readText_142 rfl rfl ?_
        have hr := ezs21 _ (Option.some.inj hr).symm
        subst hr
        have hr := elL rzo22
        have hr := Option.some.inj hr
        subst hr
        exact j_iret C hq hret dX12_readText_144
  refine j_lv (lv' := [(0, .ref this), (1, .int zx2), (2, .int zx3), (3, .int (0 : Int32))]) [3, 2, 1, 0] rfl ?_
  refine it_J (J := (fun (zs15 : Int32 × Ce) => Jd G 0 0 nx zs15.2 65 [(0, .ref this), (1, .int zx2), (2, .int zx3), (3, .int zs15.1)] [])) ?_ hzo16
  clear hzo16
  intro zs15 zr17 hr izs15 ezs15
  refine j_iload_n (q := 3) (pc' := 66) C dX12_readText_65 rfl rfl rfl ?_
  refine j_bipush (v := 6) (pc' := 68) C dX12_readText_66 kB_6 rfl ?_
  refine j_ic_ge (tgt := 111) (pc' := 71) C dX12_readText_68 rfl rfl (fun hc => ?_) (fun hc => ?_)
  · have hr := ifT hc hr
    clear hc
    have hr := ezs15 _ (Option.some.inj hr).symm
    subst hr
    exact j_lv [0, 1] rfl kzo16
  · have hr := ifF hc hr
    clear hc
    refine j_iconst (v := 0) (pc' := 72) C dX12_readText_71 kI_0 rfl ?_
    refine j_istore (lv' := [(4, .int (0 : Int32)), (0, .ref this), (1, .int zx2), (2, .int zx3), (3, .int zs15.1)]) (pc' := 74) C dX12_readText_72 (by decide) rfl rfl ?_
    obtain ⟨zo32, hzo32, rzo32⟩ := ob hr
    have kzo32 : Jd G 0 0 nx zo32.2 105 [(0, .ref this), (1, .int zx2), (2, .int zx3), (3, .int zs15.1)] [] := by
      have hr := rzo32
      refine j_iinc (q := 3) (v := 1) (lv' := [(3, .int (zs15.1 + (1 : Int32))), (0, .ref this), (1, .int zx2), (2, .int zx3)]) (pc' := 108) C dX12_readText_105 rfl kI_1 (by decide) rfl rfl ?_
      refine j_goto (tgt := 65) C dX12_readText_108 rfl ?_
      have hr := izs15 ((zs15.1 + (1 : Int32)), zo32.2) (Option.some.inj hr).symm
      exact j_lv [1, 2, 3, 0] rfl hr
    refine j_lv (lv' := [(0, .ref this), (1, .int zx2), (2, .int zx3), (3, .int zs15.1), (4, .int (0 : Int32))]) [1, 2, 3, 4, 0] rfl ?_
    refine it_J (J := (fun (zs31 : Int32 × Ce) => Jd G 0 0 nx zs31.2 74 [(0, .ref this), (1, .int zx2), (2, .int zx3), (3, .int zs15.1), (4, .int zs31.1)] [])) ?_ hzo32
    clear hzo32
    intro zs31 zr33 hr izs31 ezs31
    refine j_iload (q := 4) (pc' := 76) C dX12_readText_74 rfl rfl ?_
    refine j_iconst (v := 4) (pc' := 77) C dX12_readText_76 kI_4 rfl ?_
    refine j_ic_ge (tgt := 105) (pc' := 80) C dX12_readText_77 rfl rfl (fun hc => ?_) (fun hc => ?_)
    · have hr := ifT hc hr
      clear hc
      have hr := ezs31 _ (Option.some.inj hr).symm
      subst hr
      exact j_lv [0, 1, 2, 3] rfl kzo32
    · have hr := ifF hc hr
      clear hc
      refine j_aload_n (q := 0) (pc' := 81) C dX12_readText_80 rfl rfl rfl ?_
      obtain ⟨zx34, hzx34, hr⟩ := ob hr
      refine j_getA (pc' := 84) C dX12_readText_81 fl_X12_27 hzx34 rfl ?_
      refine j_iload_n (q := 2) (pc' := 85) C dX12_readText_84 rfl rfl rfl ?_
      refine j_iconst (v := 5) (pc' := 86) C dX12_readText_85 kI_5 rfl ?_
      refine j_iadd (pc' := 87) C dX12_readText_86 rfl ?_
      refine j_iconst (v := 4) (pc' := 88) C dX12_readText_87 kI_4 rfl ?_
      refine j_iload_n (q := 3) (pc' := 89) C dX12_readText_88 rfl rfl rfl ?_
      refine j_imul (pc' := 90) C dX12_readText_89 rfl ?_
      refine j_iadd (pc' := 91) C dX12_readText_90 rfl ?_
      refine j_iload (q := 4) (pc' := 93) C dX12_readText_91 rfl rfl ?_
      refine j_iadd (pc' := 94) C dX12_readText_93 rfl ?_
      refine j_iload_n (q := 3) (pc' := 95) C dX12_readText_94 rfl rfl rfl ?_
      obtain ⟨zx35, hzx35, hr⟩ := ob hr
      refine j_callS (As := [.int zs15.1]) (rest := [.int (((zx3 + (5 : Int32)) + ((4 : Int32) * zs15.1)) + zs31.1), .ref zx34]) (st1 := [.long zx35, .int (((zx3 + (5 : Int32)) + ((4 : Int32) * zs15.1)) + zs31.1), .ref zx34]) (pc' := 98) C wm_1543 (c_X12_letterSet (nx := nx) (ce := zs31.2) hzx35) yw_X12_letterSet wm_1542 rfl rfl (Nat.le_of_ble_eq_true rfl) ⟨by decide, by decide⟩ dX12_readText_95 rfl rfl ?_
      obtain ⟨zc36, hzc36, hr⟩ := ob hr
      refine j_last (pc' := 99) C dX12_readText_98 hzc36 rfl ?_
      refine j_iinc (q := 4) (v := 1) (lv' := [(4, .int (zs31.1 + (1 : Int32))), (0, .ref this), (1, .int zx2), (2, .int zx3), (3, .int zs15.1)]) (pc' := 102) C dX12_readText_99 rfl kI_1 (by decide) rfl rfl ?_
      refine j_goto (tgt := 74) C dX12_readText_102 rfl ?_
      have hr := izs31 ((zs31.1 + (1 : Int32)), zc36) (Option.some.inj hr).symm
      exact j_lv [1, 2, 3, 4, 0] rfl hr
def m_X12_text (ce : Ce) (this : Nat) : Option (Int32 × Ce) :=
  (gA ce 9 0 this).bind fun zx1 =>
  (aI ce zx1 (0 : Int32)).bind fun zx2 =>
  if zx2 = (4 : Int32) then
    some ((-1 : Int32), ce)
  else
    (rcv ce 9 this).bind fun zz3 =>
    (m_X12_readText ce this).bind fun zq4 =>
    (pV zq4.2 9 8 this (.int zq4.1)).bind fun zc5 =>
    (gI zc5 9 8 this).bind fun zx6 =>
    (
      if zx6 = 0 then
        some (-1 : Int32)
      else
        (gI zc5 9 11 this).bind fun zx16 =>
        some zx16
    ).bind fun (zj7 : Int32) =>
    (pV zc5 9 9 this (.int zj7)).bind fun zc8 =>
    (pV zc8 9 7 this (.int (0 : Int32))).bind fun zc9 =>
    (gI zc9 9 8 this).bind fun zx10 =>
    if zx10 = 0 then
      (gA zc9 9 0 this).bind fun zx11 =>
      (aI zc9 zx11 (0 : Int32)).bind fun zx12 =>
      (sI zc9 zx11 (0 : Int32) (zx12 + (1 : Int32))).bind fun zc13 =>
      (gA zc13 9 0 this).bind fun zx14 =>
      (aI zc13 zx14 (0 : Int32)).bind fun zx15 =>
      some ((zx15 - (1 : Int32)), zc13)
    else
      some ((-1 : Int32), zc9)
set_option maxRecDepth 100000 in
set_option maxHeartbeats 4000000 in
theorem c_X12_text {nx : Nat} {ce : Ce} {this : Nat} {q : Int32 × Ce} (hr : m_X12_text ce this = some q) : Ct yX12_text cX12_text 1 (some .int) 10 228 0 0 [.ref this] nx ce (some (.int q.1)) q.2 := by
  unfold m_X12_text at hr
  refine ct_of (by decide) (Nat.le_of_ble_eq_true rfl) ?_
  intro G C hq hret hin
  show Jd G 0 0 nx ce 0 [(0, .ref this)] []
  refine j_aload_n (q := 0) (pc' := 1) C dX12_text_0 rfl rfl rfl ?_
  obtain ⟨zx1, hzx1, hr⟩ := ob hr
  refine j_getA (pc' := 4) C dX12_text_1 fl_X12_8 hzx1 rfl ?_
  refine j_iconst (v := 0) (pc' := 5) C dX12_text_4 kI_0 rfl ?_
  obtain ⟨zx2, hzx2, hr⟩ := ob hr
  refine j_iald (pc' := 6) C dX12_text_5 hzx2 rfl ?_
  refine j_iconst (v := 4) (pc' := 7) C dX12_text_6 kI_4 rfl ?_
  refine j_ic_ne (tgt := 12) (pc' := 10) C dX12_text_7 rfl rfl (fun hc => ?_) (fun hc => ?_)
  · have hr := ifF hc hr
    clear hc
    refine j_aload_n (q := 0) (pc' := 13) C dX12_text_12 rfl rfl rfl ?_
    refine j_aload_n (q := 0) (pc' := 14) C dX12_text_13 rfl rfl rfl ?_
    obtain ⟨zz3, hzz3, hr⟩ := ob hr
    obtain ⟨zq4, hzq4, hr⟩ := ob hr
    obtain ⟨fhzz3, hzz3⟩ := rcv_sp hzz3
    refine j_callV (ci := 9) (As := []) (rest := [.ref this]) (st1 := [.int zq4.1, .ref this]) (pc' := 17) C ⟨wm_1537, wm_40⟩ rfl hzz3 (c_X12_readText (nx := nx) hzq4) yw_X12_readText wm_1535 rfl rfl (Nat.le_of_ble_eq_true rfl) ⟨by decide, by decide⟩ dX12_text_14 rfl rfl ?_
    obtain ⟨zc5, hzc5, hr⟩ := ob hr
    refine j_put (pc' := 20) C dX12_text_17 fw_X12_34 rfl rfl hzc5 rfl ?_
    refine j_aload_n (q := 0) (pc' := 21) C dX12_text_20 rfl rfl rfl ?_
    refine j_aload_n (q := 0) (pc' := 22) C dX12_text_21 rfl rfl rfl ?_
    obtain ⟨zx6, hzx6, hr⟩ := ob hr
    refine j_getI (pc' := 25) C dX12_text_22 fl_X12_34 hzx6 rfl ?_
    obtain ⟨zj7, hzj7, rzj7⟩ := ob hr
    have kzj7 : Jd G 0 0 nx zc5 36 [(0, .ref this)] [.int zj7, .ref this] := by
      have hr := rzj7
      obtain ⟨zc8, hzc8, hr⟩ := ob hr
      refine j_put (pc' := 39) C dX12_text_36 fw_X12_38 rfl rfl hzc8 rfl ?_
      refine j_aload_n (q := 0) (pc' := 40) C dX12_text_39 rfl rfl rfl ?_
      refine j_iconst (v := 0) (pc' := 41) C dX12_text_40 kI_0 rfl ?_
      obtain ⟨zc9, hzc9, hr⟩ := ob hr
      refine j_put (pc' := 44) C dX12_text_41 fw_X12_124 rfl rfl hzc9 rfl ?_
      refine j_aload_n (q := 0) (pc' := 45) C dX12_text_44 rfl rfl rfl ?_
      obtain ⟨zx10, hzx10, hr⟩ := ob hr
      refine j_getI (pc' := 48) C dX12_text_45 fl_X12_34 hzx10 rfl ?_
      refine j_if_eq (tgt := 53) (pc' := 51) C dX12_text_48 rfl rfl (fun hc => ?_) (fun hc => ?_)
      · have hr := ifT hc hr
        clear hc
        refine j_aload_n (q := 0) (pc' := 54) C dX12_text_53 rfl rfl rfl ?_
        obtain ⟨zx11, hzx11, hr⟩ := ob hr
        refine j_getA (pc' := 57) C dX12_text_54 fl_X12_8 hzx11 rfl ?_
        refine j_iconst (v := 0) (pc' := 58) C dX12_text_57 kI_0 rfl ?_
        refine j_dup2 (pc' := 59) C dX12_text_58 rfl rfl rfl ?_
        obtain ⟨zx12, hzx12, hr⟩ := ob hr
        refine j_iald (pc' := 60) C dX12_text_59 hzx12 rfl ?_
        refine j_iconst (v := 1) (pc' := 61) C dX12_text_60 kI_1 rfl ?_
        refine j_iadd (pc' := 62) C dX12_text_61 rfl ?_
        obtain ⟨zc13, hzc13, hr⟩ := ob hr
        refine j_iast (pc' := 63) C dX12_text_62 hzc13 rfl ?_
        refine j_aload_n (q := 0) (pc' := 64) C dX12_text_63 rfl rfl rfl ?_
        obtain ⟨zx14, hzx14, hr⟩ := ob hr
        refine j_getA (pc' := 67) C dX12_text_64 fl_X12_8 hzx14 rfl ?_
        refine j_iconst (v := 0) (pc' := 68) C dX12_text_67 kI_0 rfl ?_
        obtain ⟨zx15, hzx15, hr⟩ := ob hr
        refine j_iald (pc' := 69) C dX12_text_68 hzx15 rfl ?_
        refine j_iconst (v := 1) (pc' := 70) C dX12_text_69 kI_1 rfl ?_
        refine j_isub (pc' := 71) C dX12_text_70 rfl ?_
        have hr := Option.some.inj hr
        subst hr
        exact j_iret C hq hret dX12_text_71
      · have hr := ifF hc hr
        clear hc
        refine j_iconst (v := -1) (pc' := 52) C dX12_text_51 kI_m1 rfl ?_
        have hr := Option.some.inj hr
        subst hr
        exact j_iret C hq hret dX12_text_52
    clear rzj7
    have hr := hzj7
    clear hzj7
    refine j_if_ne (tgt := 32) (pc' := 28) C dX12_text_25 rfl rfl (fun hc => ?_) (fun hc => ?_)
    · have hr := ifF hc hr
      clear hc
      refine j_aload_n (q := 0) (pc' := 33) C dX12_text_32 rfl rfl rfl ?_
      obtain ⟨zx16, hzx16, hr⟩ := ob hr
      refine j_getI (pc' := 36) C dX12_text_33 fl_X12_131 hzx16 rfl ?_
      have hr := Option.some.inj hr
      subst hr
      exact j_lv [0] rfl kzj7
    · have hr := ifT hc hr
      clear hc
      refine j_iconst (v := -1) (pc' := 29) C dX12_text_28 kI_m1 rfl ?_
      refine j_goto (tgt := 36) C dX12_text_29 rfl ?_
      have hr := Option.some.inj hr
      subst hr
      exact j_lv [0] rfl kzj7
  · have hr := ifT hc hr
    clear hc
    refine j_iconst (v := -1) (pc' := 11) C dX12_text_10 kI_m1 rfl ?_
    have hr := Option.some.inj hr
    subst hr
    exact j_iret C hq hret dX12_text_11
def m_X12_fault (ce : Ce) (this : Nat) (p1 : Int32) : Option (Int32) :=
  if p1 = 0 then
    (gI ce 9 8 this).bind fun zx2 =>
    some zx2
  else
    if p1 = (1 : Int32) then
      (gI ce 9 9 this).bind fun zx1 =>
      some zx1
    else
      some (-1 : Int32)
set_option maxRecDepth 100000 in
set_option maxHeartbeats 4000000 in
theorem c_X12_fault {nx : Nat} {ce : Ce} {this : Nat} {p1 : Int32} {q : Int32} (hr : m_X12_fault ce this p1 = some q) : Ct yX12_fault cX12_fault 2 (some .int) 0 0 0 0 [.ref this, .int p1] nx ce (some (.int q)) ce := by
  unfold m_X12_fault at hr
  refine ct_of (by decide) (Nat.le_of_ble_eq_true rfl) ?_
  intro G C hq hret hin
  show Jd G 0 0 nx ce 0 [(0, .ref this), (1, .int p1)] []
  refine j_iload_n (q := 1) (pc' := 1) C dX12_fault_0 rfl rfl rfl ?_
  refine j_if_ne (tgt := 11) (pc' := 4) C dX12_fault_1 rfl rfl (fun hc => ?_) (fun hc => ?_)
  · have hr := ifF hc hr
    clear hc
    refine j_iload_n (q := 1) (pc' := 12) C dX12_fault_11 rfl rfl rfl ?_
    refine j_iconst (v := 1) (pc' := 13) C dX12_fault_12 kI_1 rfl ?_
    refine j_ic_ne (tgt := 23) (pc' := 16) C dX12_fault_13 rfl rfl (fun hc => ?_) (fun hc => ?_)
    · have hr := ifF hc hr
      clear hc
      refine j_iconst (v := -1) (pc' := 24) C dX12_fault_23 kI_m1 rfl ?_
      have hr := Option.some.inj hr
      subst hr
      exact j_iret C hq hret dX12_fault_24
    · have hr := ifT hc hr
      clear hc
      refine j_aload_n (q := 0) (pc' := 17) C dX12_fault_16 rfl rfl rfl ?_
      obtain ⟨zx1, hzx1, hr⟩ := ob hr
      refine j_getI (pc' := 20) C dX12_fault_17 fl_X12_38 hzx1 rfl ?_
      refine j_goto (tgt := 24) C dX12_fault_20 rfl ?_
      have hr := Option.some.inj hr
      subst hr
      exact j_iret C hq hret dX12_fault_24
  · have hr := ifT hc hr
    clear hc
    refine j_aload_n (q := 0) (pc' := 5) C dX12_fault_4 rfl rfl rfl ?_
    obtain ⟨zx2, hzx2, hr⟩ := ob hr
    refine j_getI (pc' := 8) C dX12_fault_5 fl_X12_34 hzx2 rfl ?_
    refine j_goto (tgt := 24) C dX12_fault_8 rfl ?_
    have hr := Option.some.inj hr
    subst hr
    exact j_iret C hq hret dX12_fault_24
def m_X12_stepAt (p0 : Int32) (p1 : Int32) : Option (Int32) :=
  (nz (20 : Int32)).bind fun zz1 =>
  some (rm32 (p0 + p1) (20 : Int32))
set_option maxRecDepth 100000 in
set_option maxHeartbeats 4000000 in
theorem c_X12_stepAt {nx : Nat} {ce : Ce} {p0 : Int32} {p1 : Int32} {q : Int32} (hr : m_X12_stepAt p0 p1 = some q) : Ct yX12_stepAt cX12_stepAt 2 (some .int) 0 0 0 0 [.int p0, .int p1] nx ce (some (.int q)) ce := by
  unfold m_X12_stepAt at hr
  refine ct_of (by decide) (Nat.le_of_ble_eq_true rfl) ?_
  intro G C hq hret hin
  show Jd G 0 0 nx ce 0 [(0, .int p0), (1, .int p1)] []
  refine j_iload_n (q := 0) (pc' := 1) C dX12_stepAt_0 rfl rfl rfl ?_
  refine j_iload_n (q := 1) (pc' := 2) C dX12_stepAt_1 rfl rfl rfl ?_
  refine j_iadd (pc' := 3) C dX12_stepAt_2 rfl ?_
  refine j_bipush (v := 20) (pc' := 5) C dX12_stepAt_3 kB_20 rfl ?_
  obtain ⟨zz1, hzz1, hr⟩ := ob hr
  refine j_irem (pc' := 6) C dX12_stepAt_5 hzz1 rfl ?_
  have hr := Option.some.inj hr
  subst hr
  exact j_iret C hq hret dX12_stepAt_6
def m_X12_keep (ce : Ce) (this : Nat) : Option (Unit × Ce) :=
  (gA ce 9 0 this).bind fun zx1 =>
  (aI ce zx1 (1 : Int32)).bind fun zx2 =>
  (
    if zx2 = (20 : Int32) then
      (gA ce 9 0 this).bind fun zx26 =>
      (gA ce 9 0 this).bind fun zx27 =>
      (aI ce zx27 (2 : Int32)).bind fun zx28 =>
      (nz (20 : Int32)).bind fun zz29 =>
      (sI ce zx26 (2 : Int32) (rm32 (zx28 + (1 : Int32)) (20 : Int32))).bind fun zc30 =>
      (gA zc30 9 0 this).bind fun zx31 =>
      (aI zc30 zx31 (1 : Int32)).bind fun zx32 =>
      (sI zc30 zx31 (1 : Int32) (zx32 - (1 : Int32))).bind fun zc33 =>
      some ((), zc33)
    else
      some ((), ce)
  ).bind fun (zj3 : Unit × Ce) =>
  (gA zj3.2 9 0 this).bind fun zx4 =>
  (aI zj3.2 zx4 (2 : Int32)).bind fun zx5 =>
  (gA zj3.2 9 0 this).bind fun zx6 =>
  (aI zj3.2 zx6 (1 : Int32)).bind fun zx7 =>
  (m_X12_stepAt zx5 zx7).bind fun zx8 =>
  (it (fun (zs9 : Int32 × Ce) =>
    if (5421 : Int32) ≤ zs9.1 then
      some (Sum.inr ((), zs9.2))
    else
      (gA zs9.2 9 0 this).bind fun zx22 =>
      (gA zs9.2 9 0 this).bind fun zx23 =>
      (aI zs9.2 zx23 ((3 : Int32) + zs9.1)).bind fun zx24 =>
      (sI zs9.2 zx22 (((5424 : Int32) + ((5421 : Int32) * zx8)) + zs9.1) zx24).bind fun zc25 =>
      some (Sum.inl ((zs9.1 + (1 : Int32)), zc25))
  ) FU ((0 : Int32), zj3.2)).bind fun (zo10 : Unit × Ce) =>
  (it (fun (zs12 : Int32 × Ce) =>
    if (7 : Int32) ≤ zs12.1 then
      some (Sum.inr ((), zs12.2))
    else
      (gA zs12.2 9 2 this).bind fun zx18 =>
      (gA zs12.2 9 2 this).bind fun zx19 =>
      (aG zs12.2 zx19 zs12.1).bind fun zx20 =>
      (sG zs12.2 zx18 (((7 : Int32) + ((7 : Int32) * zx8)) + zs12.1) zx20).bind fun zc21 =>
      some (Sum.inl ((zs12.1 + (1 : Int32)), zc21))
  ) FU ((0 : Int32), zo10.2)).bind fun (zo13 : Unit × Ce) =>
  (gA zo13.2 9 0 this).bind fun zx15 =>
  (aI zo13.2 zx15 (1 : Int32)).bind fun zx16 =>
  (sI zo13.2 zx15 (1 : Int32) (zx16 + (1 : Int32))).bind fun zc17 =>
  some ((), zc17)
set_option maxRecDepth 100000 in
set_option maxHeartbeats 4000000 in
theorem c_X12_keep {nx : Nat} {ce : Ce} {this : Nat} {q : Unit × Ce} (hr : m_X12_keep ce this = some q) : Ct yX12_keep cX12_keep 3 none 1 21 0 0 [.ref this] nx ce none q.2 := by
  unfold m_X12_keep at hr
  refine ct_of (by decide) (Nat.le_of_ble_eq_true rfl) ?_
  intro G C hq hret hin
  show Jd G 0 0 nx ce 0 [(0, .ref this)] []
  refine j_aload_n (q := 0) (pc' := 1) C dX12_keep_0 rfl rfl rfl ?_
  obtain ⟨zx1, hzx1, hr⟩ := ob hr
  refine j_getA (pc' := 4) C dX12_keep_1 fl_X12_8 hzx1 rfl ?_
  refine j_iconst (v := 1) (pc' := 5) C dX12_keep_4 kI_1 rfl ?_
  obtain ⟨zx2, hzx2, hr⟩ := ob hr
  refine j_iald (pc' := 6) C dX12_keep_5 hzx2 rfl ?_
  refine j_bipush (v := 20) (pc' := 8) C dX12_keep_6 kB_20 rfl ?_
  obtain ⟨zj3, hzj3, rzj3⟩ := ob hr
  have kzj3 : Jd G 0 0 nx zj3.2 38 [(0, .ref this)] [] := by
    have hr := rzj3
    refine j_aload_n (q := 0) (pc' := 39) C dX12_keep_38 rfl rfl rfl ?_
    obtain ⟨zx4, hzx4, hr⟩ := ob hr
    refine j_getA (pc' := 42) C dX12_keep_39 fl_X12_8 hzx4 rfl ?_
    refine j_iconst (v := 2) (pc' := 43) C dX12_keep_42 kI_2 rfl ?_
    obtain ⟨zx5, hzx5, hr⟩ := ob hr
    refine j_iald (pc' := 44) C dX12_keep_43 hzx5 rfl ?_
    refine j_aload_n (q := 0) (pc' := 45) C dX12_keep_44 rfl rfl rfl ?_
    obtain ⟨zx6, hzx6, hr⟩ := ob hr
    refine j_getA (pc' := 48) C dX12_keep_45 fl_X12_8 hzx6 rfl ?_
    refine j_iconst (v := 1) (pc' := 49) C dX12_keep_48 kI_1 rfl ?_
    obtain ⟨zx7, hzx7, hr⟩ := ob hr
    refine j_iald (pc' := 50) C dX12_keep_49 hzx7 rfl ?_
    obtain ⟨zx8, hzx8, hr⟩ := ob hr
    refine j_callS (As := [.int zx5, .int zx7]) (rest := []) (st1 := [.int zx8]) (pc' := 53) C wm_1631 (c_X12_stepAt (nx := nx) (ce := zj3.2) hzx8) yw_X12_stepAt wm_1630 rfl rfl (Nat.le_of_ble_eq_true rfl) ⟨by decide, by decide⟩ dX12_keep_50 rfl rfl ?_
    refine j_istore_n (lv' := [(1, .int zx8), (0, .ref this)]) (pc' := 54) C dX12_keep_53 rfl (by decide) rfl rfl ?_
    refine j_iconst (v := 0) (pc' := 55) C dX12_keep_54 kI_0 rfl ?_
    refine j_istore_n (lv' := [(2, .int (0 : Int32)), (1, .int zx8), (0, .ref this)]) (pc' := 56) C dX12_keep_55 rfl (by decide) rfl rfl ?_
    obtain ⟨zo10, hzo10, rzo10⟩ := ob hr
    have kzo10 : Jd G 0 0 nx zo10.2 93 [(0, .ref this), (1, .int zx8)] [] := by
      have hr := rzo10
      refine j_iconst (v := 0) (pc' := 94) C dX12_keep_93 kI_0 rfl ?_
      refine j_istore_n (lv' := [(2, .int (0 : Int32)), (0, .ref this), (1, .int zx8)]) (pc' := 95) C dX12_keep_94 rfl (by decide) rfl rfl ?_
      obtain ⟨zo13, hzo13, rzo13⟩ := ob hr
      have kzo13 : Jd G 0 0 nx zo13.2 127 [(0, .ref this)] [] := by
        have hr := rzo13
        refine j_aload_n (q := 0) (pc' := 128) C dX12_keep_127 rfl rfl rfl ?_
        obtain ⟨zx15, hzx15, hr⟩ := ob hr
        refine j_getA (pc' := 131) C dX12_keep_128 fl_X12_8 hzx15 rfl ?_
        refine j_iconst (v := 1) (pc' := 132) C dX12_keep_131 kI_1 rfl ?_
        refine j_dup2 (pc' := 133) C dX12_keep_132 rfl rfl rfl ?_
        obtain ⟨zx16, hzx16, hr⟩ := ob hr
        refine j_iald (pc' := 134) C dX12_keep_133 hzx16 rfl ?_
        refine j_iconst (v := 1) (pc' := 135) C dX12_keep_134 kI_1 rfl ?_
        refine j_iadd (pc' := 136) C dX12_keep_135 rfl ?_
        obtain ⟨zc17, hzc17, hr⟩ := ob hr
        refine j_iast (pc' := 137) C dX12_keep_136 hzc17 rfl ?_
        have hr := Option.some.inj hr
        subst hr
        exact j_vret C hq hret dX12_keep_137
      refine j_lv (lv' := [(0, .ref this), (1, .int zx8), (2, .int (0 : Int32))]) [1, 2, 0] rfl ?_
      refine it_J (J := (fun (zs12 : Int32 × Ce) => Jd G 0 0 nx zs12.2 95 [(0, .ref this), (1, .int zx8), (2, .int zs12.1)] [])) ?_ hzo13
      clear hzo13
      intro zs12 zr14 hr izs12 ezs12
      refine j_iload_n (q := 2) (pc' := 96) C dX12_keep_95 rfl rfl rfl ?_
      refine j_bipush (v := 7) (pc' := 98) C dX12_keep_96 kB_7 rfl ?_
      refine j_ic_ge (tgt := 127) (pc' := 101) C dX12_keep_98 rfl rfl (fun hc => ?_) (fun hc => ?_)
      · have hr := ifT hc hr
        clear hc
        have hr := ezs12 _ (Option.some.inj hr).symm
        subst hr
        exact j_lv [0] rfl kzo13
      · have hr := ifF hc hr
        clear hc
        refine j_aload_n (q := 0) (pc' := 102) C dX12_keep_101 rfl rfl rfl ?_
        obtain ⟨zx18, hzx18, hr⟩ := ob hr
        refine j_getA (pc' := 105) C dX12_keep_102 fl_X12_17 hzx18 rfl ?_
        refine j_bipush (v := 7) (pc' := 107) C dX12_keep_105 kB_7 rfl ?_
        refine j_bipush (v := 7) (pc' := 109) C dX12_keep_107 kB_7 rfl ?_
        refine j_iload_n (q := 1) (pc' := 110) C dX12_keep_109 rfl rfl rfl ?_
        refine j_imul (pc' := 111) C dX12_keep_110 rfl ?_
        refine j_iadd (pc' := 112) C dX12_keep_111 rfl ?_
        refine j_iload_n (q := 2) (pc' := 113) C dX12_keep_112 rfl rfl rfl ?_
        refine j_iadd (pc' := 114) C dX12_keep_113 rfl ?_
        refine j_aload_n (q := 0) (pc' := 115) C dX12_keep_114 rfl rfl rfl ?_
        obtain ⟨zx19, hzx19, hr⟩ := ob hr
        refine j_getA (pc' := 118) C dX12_keep_115 fl_X12_17 hzx19 rfl ?_
        refine j_iload_n (q := 2) (pc' := 119) C dX12_keep_118 rfl rfl rfl ?_
        obtain ⟨zx20, hzx20, hr⟩ := ob hr
        refine j_fald (pc' := 120) C dX12_keep_119 hzx20 rfl ?_
        obtain ⟨zc21, hzc21, hr⟩ := ob hr
        refine j_fast (pc' := 121) C dX12_keep_120 hzc21 rfl ?_
        refine j_iinc (q := 2) (v := 1) (lv' := [(2, .int (zs12.1 + (1 : Int32))), (0, .ref this), (1, .int zx8)]) (pc' := 124) C dX12_keep_121 rfl kI_1 (by decide) rfl rfl ?_
        refine j_goto (tgt := 95) C dX12_keep_124 rfl ?_
        have hr := izs12 ((zs12.1 + (1 : Int32)), zc21) (Option.some.inj hr).symm
        exact j_lv [1, 2, 0] rfl hr
    refine j_lv (lv' := [(0, .ref this), (1, .int zx8), (2, .int (0 : Int32))]) [2, 1, 0] rfl ?_
    refine it_J (J := (fun (zs9 : Int32 × Ce) => Jd G 0 0 nx zs9.2 56 [(0, .ref this), (1, .int zx8), (2, .int zs9.1)] [])) ?_ hzo10
    clear hzo10
    intro zs9 zr11 hr izs9 ezs9
    refine j_iload_n (q := 2) (pc' := 57) C dX12_keep_56 rfl rfl rfl ?_
    refine j_sipush (v := 5421) (pc' := 60) C dX12_keep_57 kS_5421 rfl ?_
    refine j_ic_ge (tgt := 93) (pc' := 63) C dX12_keep_60 rfl rfl (fun hc => ?_) (fun hc => ?_)
    · have hr := ifT hc hr
      clear hc
      have hr := ezs9 _ (Option.some.inj hr).symm
      subst hr
      exact j_lv [0, 1] rfl kzo10
    · have hr := ifF hc hr
      clear hc
      refine j_aload_n (q := 0) (pc' := 64) C dX12_keep_63 rfl rfl rfl ?_
      obtain ⟨zx22, hzx22, hr⟩ := ob hr
      refine j_getA (pc' := 67) C dX12_keep_64 fl_X12_8 hzx22 rfl ?_
      refine j_sipush (v := 5424) (pc' := 70) C dX12_keep_67 kS_5424 rfl ?_
      refine j_sipush (v := 5421) (pc' := 73) C dX12_keep_70 kS_5421 rfl ?_
      refine j_iload_n (q := 1) (pc' := 74) C dX12_keep_73 rfl rfl rfl ?_
      refine j_imul (pc' := 75) C dX12_keep_74 rfl ?_
      refine j_iadd (pc' := 76) C dX12_keep_75 rfl ?_
      refine j_iload_n (q := 2) (pc' := 77) C dX12_keep_76 rfl rfl rfl ?_
      refine j_iadd (pc' := 78) C dX12_keep_77 rfl ?_
      refine j_aload_n (q := 0) (pc' := 79) C dX12_keep_78 rfl rfl rfl ?_
      obtain ⟨zx23, hzx23, hr⟩ := ob hr
      refine j_getA (pc' := 82) C dX12_keep_79 fl_X12_8 hzx23 rfl ?_
      refine j_iconst (v := 3) (pc' := 83) C dX12_keep_82 kI_3 rfl ?_
      refine j_iload_n (q := 2) (pc' := 84) C dX12_keep_83 rfl rfl rfl ?_
      refine j_iadd (pc' := 85) C dX12_keep_84 rfl ?_
      obtain ⟨zx24, hzx24, hr⟩ := ob hr
      refine j_iald (pc' := 86) C dX12_keep_85 hzx24 rfl ?_
      obtain ⟨zc25, hzc25, hr⟩ := ob hr
      refine j_iast (pc' := 87) C dX12_keep_86 hzc25 rfl ?_
      refine j_iinc (q := 2) (v := 1) (lv' := [(2, .int (zs9.1 + (1 : Int32))), (0, .ref this), (1, .int zx8)]) (pc' := 90) C dX12_keep_87 rfl kI_1 (by decide) rfl rfl ?_
      refine j_goto (tgt := 56) C dX12_keep_90 rfl ?_
      have hr := izs9 ((zs9.1 + (1 : Int32)), zc25) (Option.some.inj hr).symm
      exact j_lv [1, 2, 0] rfl hr
  clear rzj3
  have hr := hzj3
  clear hzj3
  refine j_ic_ne (tgt := 38) (pc' := 11) C dX12_keep_8 rfl rfl (fun hc => ?_) (fun hc => ?_)
  · have hr := ifF hc hr
    clear hc
    have hr := Option.some.inj hr
    subst hr
    exact j_lv [0] rfl kzj3
  · have hr := ifT hc hr
    clear hc
    refine j_aload_n (q := 0) (pc' := 12) C dX12_keep_11 rfl rfl rfl ?_
    obtain ⟨zx26, hzx26, hr⟩ := ob hr
    refine j_getA (pc' := 15) C dX12_keep_12 fl_X12_8 hzx26 rfl ?_
    refine j_iconst (v := 2) (pc' := 16) C dX12_keep_15 kI_2 rfl ?_
    refine j_aload_n (q := 0) (pc' := 17) C dX12_keep_16 rfl rfl rfl ?_
    obtain ⟨zx27, hzx27, hr⟩ := ob hr
    refine j_getA (pc' := 20) C dX12_keep_17 fl_X12_8 hzx27 rfl ?_
    refine j_iconst (v := 2) (pc' := 21) C dX12_keep_20 kI_2 rfl ?_
    obtain ⟨zx28, hzx28, hr⟩ := ob hr
    refine j_iald (pc' := 22) C dX12_keep_21 hzx28 rfl ?_
    refine j_iconst (v := 1) (pc' := 23) C dX12_keep_22 kI_1 rfl ?_
    refine j_iadd (pc' := 24) C dX12_keep_23 rfl ?_
    refine j_bipush (v := 20) (pc' := 26) C dX12_keep_24 kB_20 rfl ?_
    obtain ⟨zz29, hzz29, hr⟩ := ob hr
    refine j_irem (pc' := 27) C dX12_keep_26 hzz29 rfl ?_
    obtain ⟨zc30, hzc30, hr⟩ := ob hr
    refine j_iast (pc' := 28) C dX12_keep_27 hzc30 rfl ?_
    refine j_aload_n (q := 0) (pc' := 29) C dX12_keep_28 rfl rfl rfl ?_
    obtain ⟨zx31, hzx31, hr⟩ := ob hr
    refine j_getA (pc' := 32) C dX12_keep_29 fl_X12_8 hzx31 rfl ?_
    refine j_iconst (v := 1) (pc' := 33) C dX12_keep_32 kI_1 rfl ?_
    refine j_dup2 (pc' := 34) C dX12_keep_33 rfl rfl rfl ?_
    obtain ⟨zx32, hzx32, hr⟩ := ob hr
    refine j_iald (pc' := 35) C dX12_keep_34 hzx32 rfl ?_
    refine j_iconst (v := 1) (pc' := 36) C dX12_keep_35 kI_1 rfl ?_
    refine j_isub (pc' := 37) C dX12_keep_36 rfl ?_
    obtain ⟨zc33, hzc33, hr⟩ := ob hr
    refine j_iast (pc' := 38) C dX12_keep_37 hzc33 rfl ?_
    have hr := Option.some.inj hr
    subst hr
    exact j_lv [0] rfl kzj3
def m_X12_load (ce : Ce) (this : Nat) (p1 : Int32) : Option (Int32 × Ce) :=
  (gA ce 9 0 this).bind fun zx1 =>
  (aI ce zx1 (0 : Int32)).bind fun zx2 =>
  (m_X12_isIn p1 (0 : Int32) (zx2 - (1 : Int32))).bind fun zx3 =>
  if zx3 = 0 then
    some ((-1 : Int32), ce)
  else
    (rcv ce 9 this).bind fun zz4 =>
    (m_X12_keep ce this).bind fun zq5 =>
    (m_X12_formsOf p1).bind fun zx6 =>
    (gA zq5.2 9 0 this).bind fun zx7 =>
    (gA zq5.2 9 4 this).bind fun zx8 =>
    (aI zq5.2 zx8 ((2 : Int32) * p1)).bind fun zx9 =>
    (sI zq5.2 zx7 (3 : Int32) zx9).bind fun zc10 =>
    (gA zc10 9 0 this).bind fun zx11 =>
    (gA zc10 9 4 this).bind fun zx12 =>
    (aI zc10 zx12 (((2 : Int32) * p1) + (1 : Int32))).bind fun zx13 =>
    (sI zc10 zx11 (7 : Int32) zx13).bind fun zc14 =>
    (it (fun (zs15 : Int32 × Ce) =>
      if (4 : Int32) < zs15.1 then
        some (Sum.inr ((), zs15.2))
      else
        (gA zs15.2 9 0 this).bind fun zx43 =>
        (aI zs15.2 zx43 (7 : Int32)).bind fun zx44 =>
        (
          if zx44 < zs15.1 then
            some (0 : Int64)
          else
            (gA zs15.2 9 5 this).bind fun zx48 =>
            (aL zs15.2 zx48 (zx6 + zs15.1)).bind fun zx49 =>
            (rcv zs15.2 9 this).bind fun zz50 =>
            (m_X12_all zs15.2 this).bind fun zx51 =>
            some (zx49 &&& zx51)
        ).bind fun (zj45 : Int64) =>
        (rcv zs15.2 9 this).bind fun zz46 =>
        (m_X12_putSet zs15.2 this zs15.1 zj45).bind fun zq47 =>
        some (Sum.inl ((zs15.1 + (1 : Int32)), zq47.2))
    ) FU ((0 : Int32), zc14)).bind fun (zo16 : Unit × Ce) =>
    (it (fun (zs18 : Int32 × Ce) =>
      (rcv zs18.2 9 this).bind fun zz25 =>
      (m_X12_states zs18.2 this).bind fun zx26 =>
      if zx26 ≤ zs18.1 then
        some (Sum.inr ((), zs18.2))
      else
        (gA zs18.2 9 0 this).bind fun zx27 =>
        (sI zs18.2 zx27 ((28 : Int32) + zs18.1) (0 : Int32)).bind fun zc28 =>
        (it (fun (zs29 : Int32 × Ce) =>
          (gA zs29.2 9 0 this).bind fun zx32 =>
          (aI zs29.2 zx32 (3 : Int32)).bind fun zx33 =>
          if zx33 ≤ zs29.1 then
            some (Sum.inr ((), zs29.2))
          else
            (it (fun (zs34 : Int32 × Ce) =>
              if (4 : Int32) ≤ zs34.1 then
                some (Sum.inr ((), zs34.2))
              else
                (gA zs34.2 9 5 this).bind fun zx37 =>
                (aL zs34.2 zx37 (((zx6 + (5 : Int32)) + ((4 : Int32) * zs29.1)) + zs34.1)).bind fun zx38 =>
                (m_X12_has zx38 zs18.1).bind fun zx39 =>
                if zx39 = 0 then
                  some (Sum.inl ((zs34.1 + (1 : Int32)), zs34.2))
                else
                  (gA zs34.2 9 0 this).bind fun zx40 =>
                  (aI zs34.2 zx40 ((28 : Int32) + zs18.1)).bind fun zx41 =>
                  (sI zs34.2 zx40 ((28 : Int32) + zs18.1) (zx41 ||| ((1 : Int32) <<< ((((6 : Int32) * zs34.1) + zs29.1) &&& 31)))).bind fun zc42 =>
                  some (Sum.inl ((zs34.1 + (1 : Int32)), zc42))
            ) FU ((0 : Int32), zs29.2)).bind fun (zo35 : Unit × Ce) =>
            some (Sum.inl ((zs29.1 + (1 : Int32)), zo35.2))
        ) FU ((0 : Int32), zc28)).bind fun (zo30 : Unit × Ce) =>
        some (Sum.inl ((zs18.1 + (1 : Int32)), zo30.2))
    ) FU ((0 : Int32), zo16.2)).bind fun (zo19 : Unit × Ce) =>
    (rcv zo19.2 9 this).bind fun zz21 =>
    (m_X12_anew zo19.2 this).bind fun zq22 =>
    (gA zq22.2 9 0 this).bind fun zx23 =>
    (aI zq22.2 zx23 (3 : Int32)).bind fun zx24 =>
    some (zx24, zq22.2)
set_option maxRecDepth 100000 in
set_option maxHeartbeats 4000000 in
theorem c_X12_load {nx : Nat} {ce : Ce} {this : Nat} {p1 : Int32} {q : Int32 × Ce} (hr : m_X12_load ce this p1 = some q) : Ct yX12_load cX12_load 6 (some .int) 2 43 0 0 [.ref this, .int p1] nx ce (some (.int q.1)) q.2 := by
  unfold m_X12_load at hr
  refine ct_of (by decide) (Nat.le_of_ble_eq_true rfl) ?_
  intro G C hq hret hin
  show Jd G 0 0 nx ce 0 [(0, .ref this), (1, .int p1)] []
  refine j_iload_n (q := 1) (pc' := 1) C dX12_load_0 rfl rfl rfl ?_
  refine j_iconst (v := 0) (pc' := 2) C dX12_load_1 kI_0 rfl ?_
  refine j_aload_n (q := 0) (pc' := 3) C dX12_load_2 rfl rfl rfl ?_
  obtain ⟨zx1, hzx1, hr⟩ := ob hr
  refine j_getA (pc' := 6) C dX12_load_3 fl_X12_8 hzx1 rfl ?_
  refine j_iconst (v := 0) (pc' := 7) C dX12_load_6 kI_0 rfl ?_
  obtain ⟨zx2, hzx2, hr⟩ := ob hr
  refine j_iald (pc' := 8) C dX12_load_7 hzx2 rfl ?_
  refine j_iconst (v := 1) (pc' := 9) C dX12_load_8 kI_1 rfl ?_
  refine j_isub (pc' := 10) C dX12_load_9 rfl ?_
  obtain ⟨zx3, hzx3, hr⟩ := ob hr
  refine j_callS (As := [.int p1, .int (0 : Int32), .int (zx2 - (1 : Int32))]) (rest := []) (st1 := [.int zx3]) (pc' := 13) C wm_1529 (c_X12_isIn (nx := nx) (ce := ce) hzx3) yw_X12_isIn wm_1528 rfl rfl (Nat.le_of_ble_eq_true rfl) ⟨by decide, by decide⟩ dX12_load_10 rfl rfl ?_
  refine j_if_ne (tgt := 18) (pc' := 16) C dX12_load_13 rfl rfl (fun hc => ?_) (fun hc => ?_)
  · have hr := ifF hc hr
    clear hc
    refine j_aload_n (q := 0) (pc' := 19) C dX12_load_18 rfl rfl rfl ?_
    obtain ⟨zz4, hzz4, hr⟩ := ob hr
    obtain ⟨zq5, hzq5, hr⟩ := ob hr
    obtain ⟨fhzz4, hzz4⟩ := rcv_sp hzz4
    refine j_callV (ci := 9) (As := []) (rest := []) (st1 := []) (pc' := 22) C ⟨wm_1628, wm_56⟩ rfl hzz4 (c_X12_keep (nx := nx) hzq5) yw_X12_keep wm_1626 rfl rfl (Nat.le_of_ble_eq_true rfl) ⟨by decide, by decide⟩ dX12_load_19 rfl rfl ?_
    refine j_iload_n (q := 1) (pc' := 23) C dX12_load_22 rfl rfl rfl ?_
    obtain ⟨zx6, hzx6, hr⟩ := ob hr
    refine j_callS (As := [.int p1]) (rest := []) (st1 := [.int zx6]) (pc' := 26) C wm_1540 (c_X12_formsOf (nx := nx) (ce := zq5.2) hzx6) yw_X12_formsOf wm_1539 rfl rfl (Nat.le_of_ble_eq_true rfl) ⟨by decide, by decide⟩ dX12_load_23 rfl rfl ?_
    refine j_istore_n (lv' := [(2, .int zx6), (0, .ref this), (1, .int p1)]) (pc' := 27) C dX12_load_26 rfl (by decide) rfl rfl ?_
    refine j_aload_n (q := 1) (pc' := 28) C dX12_load_27 rfl rfl rfl ?_
    obtain ⟨zx7, hzx7, hr⟩ := ob hr
    refine j_getA (pc' := 31) C dX12_load_28 fl_X12_8 hzx7 rfl ?_
    refine j_iconst (v := 3) (pc' := 32) C dX12_load_31 kI_3 rfl ?_
    refine j_aload_n (q := 1) (pc' := 33) C dX12_load_32 rfl rfl rfl ?_
    obtain ⟨zx8, hzx8, hr⟩ := ob hr
    refine j_getA (pc' := 36) C dX12_load_33 fl_X12_24 hzx8 rfl ?_
    refine j_iconst (v := 2) (pc' := 37) C dX12_load_36 kI_2 rfl ?_
    refine j_iload_n (q := 2) (pc' := 38) C dX12_load_37 rfl rfl rfl ?_
    refine j_imul (pc' := 39) C dX12_load_38 rfl ?_
    obtain ⟨zx9, hzx9, hr⟩ := ob hr
    refine j_iald (pc' := 40) C dX12_load_39 hzx9 rfl ?_
    obtain ⟨zc10, hzc10, hr⟩ := ob hr
    refine j_iast (pc' := 41) C dX12_load_40 hzc10 rfl ?_
    refine j_aload_n (q := 1) (pc' := 42) C dX12_load_41 rfl rfl rfl ?_
    obtain ⟨zx11, hzx11, hr⟩ := ob hr
    refine j_getA (pc' := 45) C dX12_load_42 fl_X12_8 hzx11 rfl ?_
    refine j_bipush (v := 7) (pc' := 47) C dX12_load_45 kB_7 rfl ?_
    refine j_aload_n (q := 1) (pc' := 48) C dX12_load_47 rfl rfl rfl ?_
    obtain ⟨zx12, hzx12, hr⟩ := ob hr
    refine j_getA (pc' := 51) C dX12_load_48 fl_X12_24 hzx12 rfl ?_
    refine j_iconst (v := 2) (pc' := 52) C dX12_load_51 kI_2 rfl ?_
    refine j_iload_n (q := 2) (pc' := 53) C dX12_load_52 rfl rfl rfl ?_
    refine j_imul (pc' := 54) C dX12_load_53 rfl ?_
    refine j_iconst (v := 1) (pc' := 55) C dX12_load_54 kI_1 rfl ?_
    refine j_iadd (pc' := 56) C dX12_load_55 rfl ?_
    obtain ⟨zx13, hzx13, hr⟩ := ob hr
    refine j_iald (pc' := 57) C dX12_load_56 hzx13 rfl ?_
    obtain ⟨zc14, hzc14, hr⟩ := ob hr
    refine j_iast (pc' := 58) C dX12_load_57 hzc14 rfl ?_
    refine j_iconst (v := 0) (pc' := 59) C dX12_load_58 kI_0 rfl ?_
    refine j_istore_n (lv' := [(3, .int (0 : Int32)), (2, .int zx6), (0, .ref this), (1, .int p1)]) (pc' := 60) C dX12_load_59 rfl (by decide) rfl rfl ?_
    obtain ⟨zo16, hzo16, rzo16⟩ := ob hr
    have kzo16 : Jd G 0 0 nx zo16.2 104 [(0, .ref this), (2, .int zx6)] [] := by
      have hr := rzo16
      refine j_iconst (v := 0) (pc' := 105) C dX12_load_104 kI_0 rfl ?_
      refine j_istore_n (lv' := [(3, .int (0 : Int32)), (0, .ref this), (2, .int zx6)]) (pc' := 106) C dX12_load_105 rfl (by decide) rfl rfl ?_
      obtain ⟨zo19, hzo19, rzo19⟩ := ob hr
      have kzo19 : Jd G 0 0 nx zo19.2 210 [(0, .ref this)] [] := by
        have hr := rzo19
        refine j_aload_n (q := 0) (pc' := 211) C dX12_load_210 rfl rfl rfl ?_
        obtain ⟨zz21, hzz21, hr⟩ := ob hr
        obtain ⟨zq22, hzq22, hr⟩ := ob hr
        obtain ⟨fhzz21, hzz21⟩ := rcv_sp hzz21
        refine j_callV (ci := 9) (As := []) (rest := []) (st1 := []) (pc' := 214) C ⟨wm_1408, wm_38⟩ rfl hzz21 (c_X12_anew (nx := nx) hzq22) yw_X12_anew wm_1406 rfl rfl (Nat.le_of_ble_eq_true rfl) ⟨by decide, by decide⟩ dX12_load_211 rfl rfl ?_
        refine j_aload_n (q := 0) (pc' := 215) C dX12_load_214 rfl rfl rfl ?_
        obtain ⟨zx23, hzx23, hr⟩ := ob hr
        refine j_getA (pc' := 218) C dX12_load_215 fl_X12_8 hzx23 rfl ?_
        refine j_iconst (v := 3) (pc' := 219) C dX12_load_218 kI_3 rfl ?_
        obtain ⟨zx24, hzx24, hr⟩ := ob hr
        refine j_iald (pc' := 220) C dX12_load_219 hzx24 rfl ?_
        have hr := Option.some.inj hr
        subst hr
        exact j_iret C hq hret dX12_load_220
      refine j_lv (lv' := [(0, .ref this), (2, .int zx6), (3, .int (0 : Int32))]) [1, 2, 0] rfl ?_
      refine it_J (J := (fun (zs18 : Int32 × Ce) => Jd G 0 0 nx zs18.2 106 [(0, .ref this), (2, .int zx6), (3, .int zs18.1)] [])) ?_ hzo19
      clear hzo19
      intro zs18 zr20 hr izs18 ezs18
      refine j_iload_n (q := 2) (pc' := 107) C dX12_load_106 rfl rfl rfl ?_
      refine j_aload_n (q := 0) (pc' := 108) C dX12_load_107 rfl rfl rfl ?_
      obtain ⟨zz25, hzz25, hr⟩ := ob hr
      obtain ⟨zx26, hzx26, hr⟩ := ob hr
      obtain ⟨fhzz25, hzz25⟩ := rcv_sp hzz25
      refine j_callV (ci := 9) (As := []) (rest := [.int zs18.1]) (st1 := [.int zx26, .int zs18.1]) (pc' := 111) C ⟨wm_1642, wm_58⟩ rfl hzz25 (c_X12_states (nx := nx) hzx26) yw_X12_states wm_1640 rfl rfl (Nat.le_of_ble_eq_true rfl) ⟨by decide, by decide⟩ dX12_load_108 rfl rfl ?_
      refine j_ic_ge (tgt := 210) (pc' := 114) C dX12_load_111 rfl rfl (fun hc => ?_) (fun hc => ?_)
      · have hr := ifT hc hr
        clear hc
        have hr := ezs18 _ (Option.some.inj hr).symm
        subst hr
        exact j_lv [0] rfl kzo19
      · have hr := ifF hc hr
        clear hc
        refine j_aload_n (q := 0) (pc' := 115) C dX12_load_114 rfl rfl rfl ?_
        obtain ⟨zx27, hzx27, hr⟩ := ob hr
        refine j_getA (pc' := 118) C dX12_load_115 fl_X12_8 hzx27 rfl ?_
        refine j_bipush (v := 28) (pc' := 120) C dX12_load_118 kB_28 rfl ?_
        refine j_iload_n (q := 2) (pc' := 121) C dX12_load_120 rfl rfl rfl ?_
        refine j_iadd (pc' := 122) C dX12_load_121 rfl ?_
        refine j_iconst (v := 0) (pc' := 123) C dX12_load_122 kI_0 rfl ?_
        obtain ⟨zc28, hzc28, hr⟩ := ob hr
        refine j_iast (pc' := 124) C dX12_load_123 hzc28 rfl ?_
        refine j_iconst (v := 0) (pc' := 125) C dX12_load_124 kI_0 rfl ?_
        refine j_istore (lv' := [(4, .int (0 : Int32)), (0, .ref this), (2, .int zx6), (3, .int zs18.1)]) (pc' := 127) C dX12_load_125 (by decide) rfl rfl ?_
        obtain ⟨zo30, hzo30, rzo30⟩ := ob hr
        have kzo30 : Jd G 0 0 nx zo30.2 204 [(0, .ref this), (2, .int zx6), (3, .int zs18.1)] [] := by
          have hr := rzo30
          refine j_iinc (q := 2) (v := 1) (lv' := [(3, .int (zs18.1 + (1 : Int32))), (0, .ref this), (2, .int zx6)]) (pc' := 207) C dX12_load_204 rfl kI_1 (by decide) rfl rfl ?_
          refine j_goto (tgt := 106) C dX12_load_207 rfl ?_
          have hr := izs18 ((zs18.1 + (1 : Int32)), zo30.2) (Option.some.inj hr).symm
          exact j_lv [1, 2, 0] rfl hr
        refine j_lv (lv' := [(0, .ref this), (2, .int zx6), (3, .int zs18.1), (4, .int (0 : Int32))]) [1, 2, 3, 0] rfl ?_
        refine it_J (J := (fun (zs29 : Int32 × Ce) => Jd G 0 0 nx zs29.2 127 [(0, .ref this), (2, .int zx6), (3, .int zs18.1), (4, .int zs29.1)] [])) ?_ hzo30
        clear hzo30
        intro zs29 zr31 hr izs29 ezs29
        refine j_iload (q := 3) (pc' := 129) C dX12_load_127 rfl rfl ?_
        refine j_aload_n (q := 0) (pc' := 130) C dX12_load_129 rfl rfl rfl ?_
        obtain ⟨zx32, hzx32, hr⟩ := ob hr
        refine j_getA (pc' := 133) C dX12_load_130 fl_X12_8 hzx32 rfl ?_
        refine j_iconst (v := 3) (pc' := 134) C dX12_load_133 kI_3 rfl ?_
        obtain ⟨zx33, hzx33, hr⟩ := ob hr
        refine j_iald (pc' := 135) C dX12_load_134 hzx33 rfl ?_
        refine j_ic_ge (tgt := 204) (pc' := 138) C dX12_load_135 rfl rfl (fun hc => ?_) (fun hc => ?_)
        · have hr := ifT hc hr
          clear hc
          have hr := ezs29 _ (Option.some.inj hr).symm
          subst hr
          exact j_lv [0, 1, 2] rfl kzo30
        · have hr := ifF hc hr
          clear hc
          refine j_iconst (v := 0) (pc' := 139) C dX12_load_138 kI_0 rfl ?_
          refine j_istore (lv' := [(5, .int (0 : Int32)), (0, .ref this), (2, .int zx6), (3, .int zs18.1), (4, .int zs29.1)]) (pc' := 141) C dX12_load_139 (by decide) rfl rfl ?_
          obtain ⟨zo35, hzo35, rzo35⟩ := ob hr
          have kzo35 : Jd G 0 0 nx zo35.2 198 [(0, .ref this), (2, .int zx6), (3, .int zs18.1), (4, .int zs29.1)] [] := by
            have hr := rzo35
            refine j_iinc (q := 3) (v := 1) (lv' := [(4, .int (zs29.1 + (1 : Int32))), (0, .ref this), (2, .int zx6), (3, .int zs18.1)]) (pc' := 201) C dX12_load_198 rfl kI_1 (by decide) rfl rfl ?_
            refine j_goto (tgt := 127) C dX12_load_201 rfl ?_
            have hr := izs29 ((zs29.1 + (1 : Int32)), zo35.2) (Option.some.inj hr).symm
            exact j_lv [1, 2, 3, 0] rfl hr
          refine j_lv (lv' := [(0, .ref this), (2, .int zx6), (3, .int zs18.1), (4, .int zs29.1), (5, .int (0 : Int32))]) [1, 2, 3, 4, 0] rfl ?_
          refine it_J (J := (fun (zs34 : Int32 × Ce) => Jd G 0 0 nx zs34.2 141 [(0, .ref this), (2, .int zx6), (3, .int zs18.1), (4, .int zs29.1), (5, .int zs34.1)] [])) ?_ hzo35
          clear hzo35
          intro zs34 zr36 hr izs34 ezs34
          refine j_iload (q := 4) (pc' := 143) C dX12_load_141 rfl rfl ?_
          refine j_iconst (v := 4) (pc' := 144) C dX12_load_143 kI_4 rfl ?_
          refine j_ic_ge (tgt := 198) (pc' := 147) C dX12_load_144 rfl rfl (fun hc => ?_) (fun hc => ?_)
          · have hr := ifT hc hr
            clear hc
            have hr := ezs34 _ (Option.some.inj hr).symm
            subst hr
            exact j_lv [0, 1, 2, 3] rfl kzo35
          · have hr := ifF hc hr
            clear hc
            refine j_aload_n (q := 0) (pc' := 148) C dX12_load_147 rfl rfl rfl ?_
            obtain ⟨zx37, hzx37, hr⟩ := ob hr
            refine j_getA (pc' := 151) C dX12_load_148 fl_X12_27 hzx37 rfl ?_
            refine j_iload_n (q := 1) (pc' := 152) C dX12_load_151 rfl rfl rfl ?_
            refine j_iconst (v := 5) (pc' := 153) C dX12_load_152 kI_5 rfl ?_
            refine j_iadd (pc' := 154) C dX12_load_153 rfl ?_
            refine j_iconst (v := 4) (pc' := 155) C dX12_load_154 kI_4 rfl ?_
            refine j_iload (q := 3) (pc' := 157) C dX12_load_155 rfl rfl ?_
            refine j_imul (pc' := 158) C dX12_load_157 rfl ?_
            refine j_iadd (pc' := 159) C dX12_load_158 rfl ?_
            refine j_iload (q := 4) (pc' := 161) C dX12_load_159 rfl rfl ?_
            refine j_iadd (pc' := 162) C dX12_load_161 rfl ?_
            obtain ⟨zx38, hzx38, hr⟩ := ob hr
            refine j_lald (pc' := 163) C dX12_load_162 hzx38 rfl ?_
            refine j_iload_n (q := 2) (pc' := 164) C dX12_load_163 rfl rfl rfl ?_
            obtain ⟨zx39, hzx39, hr⟩ := ob hr
            refine j_callS (As := [.long zx38, .int zs18.1]) (rest := []) (st1 := [.int zx39]) (pc' := 167) C wm_1645 (c_X12_has (nx := nx) (ce := zs34.2) hzx39) yw_X12_has wm_1644 rfl rfl (Nat.le_of_ble_eq_true rfl) ⟨by decide, by decide⟩ dX12_load_164 rfl rfl ?_
            refine j_if_eq (tgt := 192) (pc' := 170) C dX12_load_167 rfl rfl (fun hc => ?_) (fun hc => ?_)
            · have hr := ifT hc hr
              clear hc
              refine j_iinc (q := 4) (v := 1) (lv' := [(5, .int (zs34.1 + (1 : Int32))), (0, .ref this), (2, .int zx6), (3, .int zs18.1), (4, .int zs29.1)]) (pc' := 195) C dX12_load_192 rfl kI_1 (by decide) rfl rfl ?_
              refine j_goto (tgt := 141) C dX12_load_195 rfl ?_
              have hr := izs34 ((zs34.1 + (1 : Int32)), zs34.2) (Option.some.inj hr).symm
              exact j_lv [1, 2, 3, 4, 0] rfl hr
            · have hr := ifF hc hr
              clear hc
              refine j_aload_n (q := 0) (pc' := 171) C dX12_load_170 rfl rfl rfl ?_
              obtain ⟨zx40, hzx40, hr⟩ := ob hr
              refine j_getA (pc' := 174) C dX12_load_171 fl_X12_8 hzx40 rfl ?_
              refine j_bipush (v := 28) (pc' := 176) C dX12_load_174 kB_28 rfl ?_
              refine j_iload_n (q := 2) (pc' := 177) C dX12_load_176 rfl rfl rfl ?_
              refine j_iadd (pc' := 178) C dX12_load_177 rfl ?_
              refine j_dup2 (pc' := 179) C dX12_load_178 rfl rfl rfl ?_
              obtain ⟨zx41, hzx41, hr⟩ := ob hr
              refine j_iald (pc' := 180) C dX12_load_179 hzx41 rfl ?_
              refine j_iconst (v := 1) (pc' := 181) C dX12_load_180 kI_1 rfl ?_
              refine j_bipush (v := 6) (pc' := 183) C dX12_load_181 kB_6 rfl ?_
              refine j_iload (q := 4) (pc' := 185) C dX12_load_183 rfl rfl ?_
              refine j_imul (pc' := 186) C dX12_load_185 rfl ?_
              refine j_iload (q := 3) (pc' := 188) C dX12_load_186 rfl rfl ?_
              refine j_iadd (pc' := 189) C dX12_load_188 rfl ?_
              refine j_ishl (pc' := 190) C dX12_load_189 rfl ?_
              refine j_ior (pc' := 191) C dX12_load_190 rfl ?_
              obtain ⟨zc42, hzc42, hr⟩ := ob hr
              refine j_iast (pc' := 192) C dX12_load_191 hzc42 rfl ?_
              refine j_iinc (q := 4) (v := 1) (lv' := [(5, .int (zs34.1 + (1 : Int32))), (0, .ref this), (2, .int zx6), (3, .int zs18.1), (4, .int zs29.1)]) (pc' := 195) C dX12_load_192 rfl kI_1 (by decide) rfl rfl ?_
              refine j_goto (tgt := 141) C dX12_load_195 rfl ?_
              have hr := izs34 ((zs34.1 + (1 : Int32)), zc42) (Option.some.inj hr).symm
              exact j_lv [1, 2, 3, 4, 0] rfl hr
    refine j_lv (lv' := [(0, .ref this), (2, .int zx6), (3, .int (0 : Int32))]) [2, 1, 0] rfl ?_
    refine it_J (J := (fun (zs15 : Int32 × Ce) => Jd G 0 0 nx zs15.2 60 [(0, .ref this), (2, .int zx6), (3, .int zs15.1)] [])) ?_ hzo16
    clear hzo16
    intro zs15 zr17 hr izs15 ezs15
    refine j_iload_n (q := 2) (pc' := 61) C dX12_load_60 rfl rfl rfl ?_
    refine j_iconst (v := 4) (pc' := 62) C dX12_load_61 kI_4 rfl ?_
    refine j_ic_gt (tgt := 104) (pc' := 65) C dX12_load_62 rfl rfl (fun hc => ?_) (fun hc => ?_)
    · have hr := ifT hc hr
      clear hc
      have hr := ezs15 _ (Option.some.inj hr).symm
      subst hr
      exact j_lv [0, 1] rfl kzo16
    · have hr := ifF hc hr
      clear hc
      refine j_aload_n (q := 0) (pc' := 66) C dX12_load_65 rfl rfl rfl ?_
      refine j_iload_n (q := 2) (pc' := 67) C dX12_load_66 rfl rfl rfl ?_
      refine j_iload_n (q := 2) (pc' := 68) C dX12_load_67 rfl rfl rfl ?_
      refine j_aload_n (q := 0) (pc' := 69) C dX12_load_68 rfl rfl rfl ?_
      obtain ⟨zx43, hzx43, hr⟩ := ob hr
      refine j_getA (pc' := 72) C dX12_load_69 fl_X12_8 hzx43 rfl ?_
      refine j_bipush (v := 7) (pc' := 74) C dX12_load_72 kB_7 rfl ?_
      obtain ⟨zx44, hzx44, hr⟩ := ob hr
      refine j_iald (pc' := 75) C dX12_load_74 hzx44 rfl ?_
      obtain ⟨zj45, hzj45, rzj45⟩ := ob hr
      have kzj45 : Jd G 0 0 nx zs15.2 95 [(0, .ref this), (2, .int zx6), (3, .int zs15.1)] [.long zj45, .int zs15.1, .ref this] := by
        have hr := rzj45
        obtain ⟨zz46, hzz46, hr⟩ := ob hr
        obtain ⟨zq47, hzq47, hr⟩ := ob hr
        obtain ⟨fhzz46, hzz46⟩ := rcv_sp hzz46
        refine j_callV (ci := 9) (As := [.int zs15.1, .long zj45]) (rest := []) (st1 := []) (pc' := 98) C ⟨wm_1404, wm_37⟩ rfl hzz46 (c_X12_putSet (nx := nx) hzq47) yw_X12_putSet wm_1402 rfl rfl (Nat.le_of_ble_eq_true rfl) ⟨by decide, by decide⟩ dX12_load_95 rfl rfl ?_
        refine j_iinc (q := 2) (v := 1) (lv' := [(3, .int (zs15.1 + (1 : Int32))), (0, .ref this), (2, .int zx6)]) (pc' := 101) C dX12_load_98 rfl kI_1 (by decide) rfl rfl ?_
        refine j_goto (tgt := 60) C dX12_load_101 rfl ?_
        have hr := izs15 ((zs15.1 + (1 : Int32)), zq47.2) (Option.some.inj hr).symm
        exact j_lv [1, 2, 0] rfl hr
      clear rzj45
      have hr := hzj45
      clear hzj45
      refine j_ic_gt (tgt := 94) (pc' := 78) C dX12_load_75 rfl rfl (fun hc => ?_) (fun hc => ?_)
      · have hr := ifT hc hr
        clear hc
        refine j_lconst (v := 0) (pc' := 95) C dX12_load_94 kL_0 rfl ?_
        have hr := Option.some.inj hr
        subst hr
        exact j_lv [0, 1, 2] rfl kzj45
      · have hr := ifF hc hr
        clear hc
        refine j_aload_n (q := 0) (pc' := 79) C dX12_load_78 rfl rfl rfl ?_
        obtain ⟨zx48, hzx48, hr⟩ := ob hr
        refine j_getA (pc' := 82) C dX12_load_79 fl_X12_27 hzx48 rfl ?_
        refine j_iload_n (q := 1) (pc' := 83) C dX12_load_82 rfl rfl rfl ?_
        refine j_iload_n (q := 2) (pc' := 84) C dX12_load_83 rfl rfl rfl ?_
        refine j_iadd (pc' := 85) C dX12_load_84 rfl ?_
        obtain ⟨zx49, hzx49, hr⟩ := ob hr
        refine j_lald (pc' := 86) C dX12_load_85 hzx49 rfl ?_
        refine j_aload_n (q := 0) (pc' := 87) C dX12_load_86 rfl rfl rfl ?_
        obtain ⟨zz50, hzz50, hr⟩ := ob hr
        obtain ⟨zx51, hzx51, hr⟩ := ob hr
        obtain ⟨fhzz50, hzz50⟩ := rcv_sp hzz50
        refine j_callV (ci := 9) (As := []) (rest := [.long zx49, .int zs15.1, .ref this]) (st1 := [.long zx51, .long zx49, .int zs15.1, .ref this]) (pc' := 90) C ⟨wm_1635, wm_57⟩ rfl hzz50 (c_X12_all (nx := nx) hzx51) yw_X12_all wm_1633 rfl rfl (Nat.le_of_ble_eq_true rfl) ⟨by decide, by decide⟩ dX12_load_87 rfl rfl ?_
        refine j_land (pc' := 91) C dX12_load_90 rfl ?_
        refine j_goto (tgt := 95) C dX12_load_91 rfl ?_
        have hr := Option.some.inj hr
        subst hr
        exact j_lv [0, 1, 2] rfl kzj45
  · have hr := ifT hc hr
    clear hc
    refine j_iconst (v := -1) (pc' := 17) C dX12_load_16 kI_m1 rfl ?_
    have hr := Option.some.inj hr
    subst hr
    exact j_iret C hq hret dX12_load_17
def m_X12_drawn (ce : Ce) (this : Nat) (p1 : Int32) (p2 : Int32) : Option (Int32 × Ce) :=
  (m_X12_isIn p1 (0 : Int32) (9999 : Int32)).bind fun zx1 =>
  if zx1 = 0 then
    some ((0 : Int32), ce)
  else
    (m_X12_isIn p2 (1 : Int32) (6 : Int32)).bind fun zx2 =>
    if zx2 = 0 then
      some ((0 : Int32), ce)
    else
      (rcv ce 9 this).bind fun zz3 =>
      (m_X12_keep ce this).bind fun zq4 =>
      (gA zq4.2 9 0 this).bind fun zx5 =>
      (sI zq4.2 zx5 (3 : Int32) p2).bind fun zc6 =>
      (gA zc6 9 0 this).bind fun zx7 =>
      (sI zc6 zx7 (7 : Int32) (1 : Int32)).bind fun zc8 =>
      (it (fun (zs9 : (Int32 × Int32) × Ce) =>
        (rcv zs9.2 9 this).bind fun zz20 =>
        (m_X12_states zs9.2 this).bind fun zx21 =>
        if zx21 ≤ zs9.1.2 then
          some (Sum.inr ((), zs9.2))
        else
          (gA zs9.2 9 0 this).bind fun zx22 =>
          (sI zs9.2 zx22 ((28 : Int32) + zs9.1.2) (0 : Int32)).bind fun zc23 =>
          (it (fun (zs24 : (Int32 × Int32) × Ce) =>
            if (4 : Int32) ≤ zs24.1.2 then
              some (Sum.inr (zs24.1.1, zs24.2))
            else
              (nz (31139 : Int32)).bind fun zz27 =>
              (gA zs24.2 9 0 this).bind fun zx28 =>
              (aI zs24.2 zx28 ((28 : Int32) + zs9.1.2)).bind fun zx29 =>
              (nz (7 : Int32)).bind fun zz30 =>
              (rcv zs24.2 9 this).bind fun zz31 =>
              (m_X12_states zs24.2 this).bind fun zx32 =>
              (nz zx32).bind fun zz33 =>
              (sI zs24.2 zx28 ((28 : Int32) + zs9.1.2) (zx29 ||| ((rm32 ((rm32 ((zs24.1.1 * (773 : Int32)) + (641 : Int32)) (31139 : Int32)) / (7 : Int32)) zx32) <<< (((6 : Int32) * zs24.1.2) &&& 31)))).bind fun zc34 =>
              some (Sum.inl (((rm32 ((zs24.1.1 * (773 : Int32)) + (641 : Int32)) (31139 : Int32)), (zs24.1.2 + (1 : Int32))), zc34))
          ) FU ((zs9.1.1, (0 : Int32)), zc23)).bind fun (zo25 : Int32 × Ce) =>
          some (Sum.inl ((zo25.1, (zs9.1.2 + (1 : Int32))), zo25.2))
      ) FU ((p1, (0 : Int32)), zc8)).bind fun (zo10 : Unit × Ce) =>
      (rcv zo10.2 9 this).bind fun zz12 =>
      (m_X12_putSet zo10.2 this (0 : Int32) (1 : Int64)).bind fun zq13 =>
      (rcv zq13.2 9 this).bind fun zz14 =>
      (m_X12_states zq13.2 this).bind fun zx15 =>
      (rcv zq13.2 9 this).bind fun zz16 =>
      (m_X12_putSet zq13.2 this (1 : Int32) ((1 : Int64) <<< (Int32.toInt64 (zx15 - (1 : Int32)) &&& 63))).bind fun zq17 =>
      (rcv zq17.2 9 this).bind fun zz18 =>
      (m_X12_anew zq17.2 this).bind fun zq19 =>
      some ((1 : Int32), zq19.2)
set_option maxRecDepth 100000 in
set_option maxHeartbeats 4000000 in
theorem c_X12_drawn {nx : Nat} {ce : Ce} {this : Nat} {p1 : Int32} {p2 : Int32} {q : Int32 × Ce} (hr : m_X12_drawn ce this p1 p2 = some q) : Ct yX12_drawn cX12_drawn 6 (some .boolean) 2 43 0 0 [.ref this, .int p1, .int p2] nx ce (some (.int q.1)) q.2 := by
  unfold m_X12_drawn at hr
  refine ct_of (by decide) (Nat.le_of_ble_eq_true rfl) ?_
  intro G C hq hret hin
  show Jd G 0 0 nx ce 0 [(0, .ref this), (1, .int p1), (2, .int p2)] []
  refine j_iload_n (q := 1) (pc' := 1) C dX12_drawn_0 rfl rfl rfl ?_
  refine j_iconst (v := 0) (pc' := 2) C dX12_drawn_1 kI_0 rfl ?_
  refine j_sipush (v := 9999) (pc' := 5) C dX12_drawn_2 kS_9999 rfl ?_
  obtain ⟨zx1, hzx1, hr⟩ := ob hr
  refine j_callS (As := [.int p1, .int (0 : Int32), .int (9999 : Int32)]) (rest := []) (st1 := [.int zx1]) (pc' := 8) C wm_1529 (c_X12_isIn (nx := nx) (ce := ce) hzx1) yw_X12_isIn wm_1528 rfl rfl (Nat.le_of_ble_eq_true rfl) ⟨by decide, by decide⟩ dX12_drawn_5 rfl rfl ?_
  refine j_if_eq (tgt := 21) (pc' := 11) C dX12_drawn_8 rfl rfl (fun hc => ?_) (fun hc => ?_)
  · have hr := ifT hc hr
    clear hc
    refine j_iconst (v := 0) (pc' := 22) C dX12_drawn_21 kI_0 rfl ?_
    have hr := Option.some.inj hr
    subst hr
    exact j_zret C hq hret rfl dX12_drawn_22
  · have hr := ifF hc hr
    clear hc
    refine j_iload_n (q := 2) (pc' := 12) C dX12_drawn_11 rfl rfl rfl ?_
    refine j_iconst (v := 1) (pc' := 13) C dX12_drawn_12 kI_1 rfl ?_
    refine j_bipush (v := 6) (pc' := 15) C dX12_drawn_13 kB_6 rfl ?_
    obtain ⟨zx2, hzx2, hr⟩ := ob hr
    refine j_callS (As := [.int p2, .int (1 : Int32), .int (6 : Int32)]) (rest := []) (st1 := [.int zx2]) (pc' := 18) C wm_1529 (c_X12_isIn (nx := nx) (ce := ce) hzx2) yw_X12_isIn wm_1528 rfl rfl (Nat.le_of_ble_eq_true rfl) ⟨by decide, by decide⟩ dX12_drawn_15 rfl rfl ?_
    refine j_if_ne (tgt := 23) (pc' := 21) C dX12_drawn_18 rfl rfl (fun hc => ?_) (fun hc => ?_)
    · have hr := ifF hc hr
      clear hc
      refine j_aload_n (q := 0) (pc' := 24) C dX12_drawn_23 rfl rfl rfl ?_
      obtain ⟨zz3, hzz3, hr⟩ := ob hr
      obtain ⟨zq4, hzq4, hr⟩ := ob hr
      obtain ⟨fhzz3, hzz3⟩ := rcv_sp hzz3
      refine j_callV (ci := 9) (As := []) (rest := []) (st1 := []) (pc' := 27) C ⟨wm_1628, wm_56⟩ rfl hzz3 (c_X12_keep (nx := nx) hzq4) yw_X12_keep wm_1626 rfl rfl (Nat.le_of_ble_eq_true rfl) ⟨by decide, by decide⟩ dX12_drawn_24 rfl rfl ?_
      refine j_aload_n (q := 0) (pc' := 28) C dX12_drawn_27 rfl rfl rfl ?_
      obtain ⟨zx5, hzx5, hr⟩ := ob hr
      refine j_getA (pc' := 31) C dX12_drawn_28 fl_X12_8 hzx5 rfl ?_
      refine j_iconst (v := 3) (pc' := 32) C dX12_drawn_31 kI_3 rfl ?_
      refine j_iload_n (q := 2) (pc' := 33) C dX12_drawn_32 rfl rfl rfl ?_
      obtain ⟨zc6, hzc6, hr⟩ := ob hr
      refine j_iast (pc' := 34) C dX12_drawn_33 hzc6 rfl ?_
      refine j_aload_n (q := 0) (pc' := 35) C dX12_drawn_34 rfl rfl rfl ?_
      obtain ⟨zx7, hzx7, hr⟩ := ob hr
      refine j_getA (pc' := 38) C dX12_drawn_35 fl_X12_8 hzx7 rfl ?_
      refine j_bipush (v := 7) (pc' := 40) C dX12_drawn_38 kB_7 rfl ?_
      refine j_iconst (v := 1) (pc' := 41) C dX12_drawn_40 kI_1 rfl ?_
      obtain ⟨zc8, hzc8, hr⟩ := ob hr
      refine j_iast (pc' := 42) C dX12_drawn_41 hzc8 rfl ?_
      refine j_iload_n (q := 1) (pc' := 43) C dX12_drawn_42 rfl rfl rfl ?_
      refine j_istore_n (lv' := [(3, .int p1), (0, .ref this), (1, .int p1), (2, .int p2)]) (pc' := 44) C dX12_drawn_43 rfl (by decide) rfl rfl ?_
      refine j_iconst (v := 0) (pc' := 45) C dX12_drawn_44 kI_0 rfl ?_
      refine j_istore (lv' := [(4, .int (0 : Int32)), (3, .int p1), (0, .ref this), (1, .int p1), (2, .int p2)]) (pc' := 47) C dX12_drawn_45 (by decide) rfl rfl ?_
      obtain ⟨zo10, hzo10, rzo10⟩ := ob hr
      have kzo10 : Jd G 0 0 nx zo10.2 130 [(0, .ref this)] [] := by
        have hr := rzo10
        refine j_aload_n (q := 0) (pc' := 131) C dX12_drawn_130 rfl rfl rfl ?_
        refine j_iconst (v := 0) (pc' := 132) C dX12_drawn_131 kI_0 rfl ?_
        refine j_lconst (v := 1) (pc' := 133) C dX12_drawn_132 kL_1 rfl ?_
        obtain ⟨zz12, hzz12, hr⟩ := ob hr
        obtain ⟨zq13, hzq13, hr⟩ := ob hr
        obtain ⟨fhzz12, hzz12⟩ := rcv_sp hzz12
        refine j_callV (ci := 9) (As := [.int (0 : Int32), .long (1 : Int64)]) (rest := []) (st1 := []) (pc' := 136) C ⟨wm_1404, wm_37⟩ rfl hzz12 (c_X12_putSet (nx := nx) hzq13) yw_X12_putSet wm_1402 rfl rfl (Nat.le_of_ble_eq_true rfl) ⟨by decide, by decide⟩ dX12_drawn_133 rfl rfl ?_
        refine j_aload_n (q := 0) (pc' := 137) C dX12_drawn_136 rfl rfl rfl ?_
        refine j_iconst (v := 1) (pc' := 138) C dX12_drawn_137 kI_1 rfl ?_
        refine j_lconst (v := 1) (pc' := 139) C dX12_drawn_138 kL_1 rfl ?_
        refine j_aload_n (q := 0) (pc' := 140) C dX12_drawn_139 rfl rfl rfl ?_
        obtain ⟨zz14, hzz14, hr⟩ := ob hr
        obtain ⟨zx15, hzx15, hr⟩ := ob hr
        obtain ⟨fhzz14, hzz14⟩ := rcv_sp hzz14
        refine j_callV (ci := 9) (As := []) (rest := [.long (1 : Int64), .int (1 : Int32), .ref this]) (st1 := [.int zx15, .long (1 : Int64), .int (1 : Int32), .ref this]) (pc' := 143) C ⟨wm_1642, wm_58⟩ rfl hzz14 (c_X12_states (nx := nx) hzx15) yw_X12_states wm_1640 rfl rfl (Nat.le_of_ble_eq_true rfl) ⟨by decide, by decide⟩ dX12_drawn_140 rfl rfl ?_
        refine j_iconst (v := 1) (pc' := 144) C dX12_drawn_143 kI_1 rfl ?_
        refine j_isub (pc' := 145) C dX12_drawn_144 rfl ?_
        refine j_lshl (pc' := 146) C dX12_drawn_145 rfl ?_
        obtain ⟨zz16, hzz16, hr⟩ := ob hr
        obtain ⟨zq17, hzq17, hr⟩ := ob hr
        obtain ⟨fhzz16, hzz16⟩ := rcv_sp hzz16
        refine j_callV (ci := 9) (As := [.int (1 : Int32), .long ((1 : Int64) <<< (Int32.toInt64 (zx15 - (1 : Int32)) &&& 63))]) (rest := []) (st1 := []) (pc' := 149) C ⟨wm_1404, wm_37⟩ rfl hzz16 (c_X12_putSet (nx := nx) hzq17) yw_X12_putSet wm_1402 rfl rfl (Nat.le_of_ble_eq_true rfl) ⟨by decide, by decide⟩ dX12_drawn_146 rfl rfl ?_
        refine j_aload_n (q := 0) (pc' := 150) C dX12_drawn_149 rfl rfl rfl ?_
        obtain ⟨zz18, hzz18, hr⟩ := ob hr
        obtain ⟨zq19, hzq19, hr⟩ := ob hr
        obtain ⟨fhzz18, hzz18⟩ := rcv_sp hzz18
        refine j_callV (ci := 9) (As := []) (rest := []) (st1 := []) (pc' := 153) C ⟨wm_1408, wm_38⟩ rfl hzz18 (c_X12_anew (nx := nx) hzq19) yw_X12_anew wm_1406 rfl rfl (Nat.le_of_ble_eq_true rfl) ⟨by decide, by decide⟩ dX12_drawn_150 rfl rfl ?_
        refine j_iconst (v := 1) (pc' := 154) C dX12_drawn_153 kI_1 rfl ?_
        have hr := Option.some.inj hr
        subst hr
        exact j_zret C hq hret rfl dX12_drawn_154
      refine j_lv (lv' := [(0, .ref this), (3, .int p1), (4, .int (0 : Int32))]) [2, 1, 0] rfl ?_
      refine it_J (J := (fun (zs9 : (Int32 × Int32) × Ce) => Jd G 0 0 nx zs9.2 47 [(0, .ref this), (3, .int zs9.1.1), (4, .int zs9.1.2)] [])) ?_ hzo10
      clear hzo10
      intro zs9 zr11 hr izs9 ezs9
      refine j_iload (q := 2) (pc' := 49) C dX12_drawn_47 rfl rfl ?_
      refine j_aload_n (q := 0) (pc' := 50) C dX12_drawn_49 rfl rfl rfl ?_
      obtain ⟨zz20, hzz20, hr⟩ := ob hr
      obtain ⟨zx21, hzx21, hr⟩ := ob hr
      obtain ⟨fhzz20, hzz20⟩ := rcv_sp hzz20
      refine j_callV (ci := 9) (As := []) (rest := [.int zs9.1.2]) (st1 := [.int zx21, .int zs9.1.2]) (pc' := 53) C ⟨wm_1642, wm_58⟩ rfl hzz20 (c_X12_states (nx := nx) hzx21) yw_X12_states wm_1640 rfl rfl (Nat.le_of_ble_eq_true rfl) ⟨by decide, by decide⟩ dX12_drawn_50 rfl rfl ?_
      refine j_ic_ge (tgt := 130) (pc' := 56) C dX12_drawn_53 rfl rfl (fun hc => ?_) (fun hc => ?_)
      · have hr := ifT hc hr
        clear hc
        have hr := ezs9 _ (Option.some.inj hr).symm
        subst hr
        exact j_lv [0] rfl kzo10
      · have hr := ifF hc hr
        clear hc
        refine j_aload_n (q := 0) (pc' := 57) C dX12_drawn_56 rfl rfl rfl ?_
        obtain ⟨zx22, hzx22, hr⟩ := ob hr
        refine j_getA (pc' := 60) C dX12_drawn_57 fl_X12_8 hzx22 rfl ?_
        refine j_bipush (v := 28) (pc' := 62) C dX12_drawn_60 kB_28 rfl ?_
        refine j_iload (q := 2) (pc' := 64) C dX12_drawn_62 rfl rfl ?_
        refine j_iadd (pc' := 65) C dX12_drawn_64 rfl ?_
        refine j_iconst (v := 0) (pc' := 66) C dX12_drawn_65 kI_0 rfl ?_
        obtain ⟨zc23, hzc23, hr⟩ := ob hr
        refine j_iast (pc' := 67) C dX12_drawn_66 hzc23 rfl ?_
        refine j_iconst (v := 0) (pc' := 68) C dX12_drawn_67 kI_0 rfl ?_
        refine j_istore (lv' := [(5, .int (0 : Int32)), (0, .ref this), (3, .int zs9.1.1), (4, .int zs9.1.2)]) (pc' := 70) C dX12_drawn_68 (by decide) rfl rfl ?_
        obtain ⟨zo25, hzo25, rzo25⟩ := ob hr
        have kzo25 : Jd G 0 0 nx zo25.2 124 [(0, .ref this), (3, .int zo25.1), (4, .int zs9.1.2)] [] := by
          have hr := rzo25
          refine j_iinc (q := 2) (v := 1) (lv' := [(4, .int (zs9.1.2 + (1 : Int32))), (0, .ref this), (3, .int zo25.1)]) (pc' := 127) C dX12_drawn_124 rfl kI_1 (by decide) rfl rfl ?_
          refine j_goto (tgt := 47) C dX12_drawn_127 rfl ?_
          have hr := izs9 ((zo25.1, (zs9.1.2 + (1 : Int32))), zo25.2) (Option.some.inj hr).symm
          exact j_lv [1, 2, 0] rfl hr
        refine j_lv (lv' := [(0, .ref this), (3, .int zs9.1.1), (4, .int zs9.1.2), (5, .int (0 : Int32))]) [1, 2, 3, 0] rfl ?_
        refine it_J (J := (fun (zs24 : (Int32 × Int32) × Ce) => Jd G 0 0 nx zs24.2 70 [(0, .ref this), (3, .int zs24.1.1), (4, .int zs9.1.2), (5, .int zs24.1.2)] [])) ?_ hzo25
        clear hzo25
        intro zs24 zr26 hr izs24 ezs24
        refine j_iload (q := 3) (pc' := 72) C dX12_drawn_70 rfl rfl ?_
        refine j_iconst (v := 4) (pc' := 73) C dX12_drawn_72 kI_4 rfl ?_
        refine j_ic_ge (tgt := 124) (pc' := 76) C dX12_drawn_73 rfl rfl (fun hc => ?_) (fun hc => ?_)
        · have hr := ifT hc hr
          clear hc
          have hr := ezs24 _ (Option.some.inj hr).symm
          subst hr
          exact j_lv [0, 1, 2] rfl kzo25
        · have hr := ifF hc hr
          clear hc
          refine j_iload_n (q := 1) (pc' := 77) C dX12_drawn_76 rfl rfl rfl ?_
          refine j_sipush (v := 773) (pc' := 80) C dX12_drawn_77 kS_773 rfl ?_
          refine j_imul (pc' := 81) C dX12_drawn_80 rfl ?_
          refine j_sipush (v := 641) (pc' := 84) C dX12_drawn_81 kS_641 rfl ?_
          refine j_iadd (pc' := 85) C dX12_drawn_84 rfl ?_
          refine j_sipush (v := 31139) (pc' := 88) C dX12_drawn_85 kS_31139 rfl ?_
          obtain ⟨zz27, hzz27, hr⟩ := ob hr
          refine j_irem (pc' := 89) C dX12_drawn_88 hzz27 rfl ?_
          refine j_istore_n (lv' := [(3, .int (rm32 ((zs24.1.1 * (773 : Int32)) + (641 : Int32)) (31139 : Int32))), (0, .ref this), (4, .int zs9.1.2), (5, .int zs24.1.2)]) (pc' := 90) C dX12_drawn_89 rfl (by decide) rfl rfl ?_
          refine j_aload_n (q := 1) (pc' := 91) C dX12_drawn_90 rfl rfl rfl ?_
          obtain ⟨zx28, hzx28, hr⟩ := ob hr
          refine j_getA (pc' := 94) C dX12_drawn_91 fl_X12_8 hzx28 rfl ?_
          refine j_bipush (v := 28) (pc' := 96) C dX12_drawn_94 kB_28 rfl ?_
          refine j_iload (q := 2) (pc' := 98) C dX12_drawn_96 rfl rfl ?_
          refine j_iadd (pc' := 99) C dX12_drawn_98 rfl ?_
          refine j_dup2 (pc' := 100) C dX12_drawn_99 rfl rfl rfl ?_
          obtain ⟨zx29, hzx29, hr⟩ := ob hr
          refine j_iald (pc' := 101) C dX12_drawn_100 hzx29 rfl ?_
          refine j_iload_n (q := 0) (pc' := 102) C dX12_drawn_101 rfl rfl rfl ?_
          refine j_bipush (v := 7) (pc' := 104) C dX12_drawn_102 kB_7 rfl ?_
          obtain ⟨zz30, hzz30, hr⟩ := ob hr
          refine j_idiv (pc' := 105) C dX12_drawn_104 hzz30 rfl ?_
          refine j_aload_n (q := 1) (pc' := 106) C dX12_drawn_105 rfl rfl rfl ?_
          obtain ⟨zz31, hzz31, hr⟩ := ob hr
          obtain ⟨zx32, hzx32, hr⟩ := ob hr
          obtain ⟨fhzz31, hzz31⟩ := rcv_sp hzz31
          refine j_callV (ci := 9) (As := []) (rest := [.int ((rm32 ((zs24.1.1 * (773 : Int32)) + (641 : Int32)) (31139 : Int32)) / (7 : Int32)), .int zx29, .int ((28 : Int32) + zs9.1.2), .ref zx28]) (st1 := [.int zx32, .int ((rm32 ((zs24.1.1 * (773 : Int32)) + (641 : Int32)) (31139 : Int32)) / (7 : Int32)), .int zx29, .int ((28 : Int32) + zs9.1.2), .ref zx28]) (pc' := 109) C ⟨wm_1642, wm_58⟩ rfl hzz31 (c_X12_states (nx := nx) hzx32) yw_X12_states wm_1640 rfl rfl (Nat.le_of_ble_eq_true rfl) ⟨by decide, by decide⟩ dX12_drawn_106 rfl rfl ?_
          obtain ⟨zz33, hzz33, hr⟩ := ob hr
          refine j_irem (pc' := 110) C dX12_drawn_109 hzz33 rfl ?_
          refine j_bipush (v := 6) (pc' := 112) C dX12_drawn_110 kB_6 rfl ?_
          refine j_iload (q := 3) (pc' := 114) C dX12_drawn_112 rfl rfl ?_
          refine j_imul (pc' := 115) C dX12_drawn_114 rfl ?_
          refine j_ishl (pc' := 116) C dX12_drawn_115 rfl ?_
          refine j_ior (pc' := 117) C dX12_drawn_116 rfl ?_
          obtain ⟨zc34, hzc34, hr⟩ := ob hr
          refine j_iast (pc' := 118) C dX12_drawn_117 hzc34 rfl ?_
          refine j_iinc (q := 3) (v := 1) (lv' := [(5, .int (zs24.1.2 + (1 : Int32))), (3, .int (rm32 ((zs24.1.1 * (773 : Int32)) + (641 : Int32)) (31139 : Int32))), (0, .ref this), (4, .int zs9.1.2)]) (pc' := 121) C dX12_drawn_118 rfl kI_1 (by decide) rfl rfl ?_
          refine j_goto (tgt := 70) C dX12_drawn_121 rfl ?_
          have hr := izs24 (((rm32 ((zs24.1.1 * (773 : Int32)) + (641 : Int32)) (31139 : Int32)), (zs24.1.2 + (1 : Int32))), zc34) (Option.some.inj hr).symm
          exact j_lv [2, 1, 3, 0] rfl hr
    · have hr := ifT hc hr
      clear hc
      refine j_iconst (v := 0) (pc' := 22) C dX12_drawn_21 kI_0 rfl ?_
      have hr := Option.some.inj hr
      subst hr
      exact j_zret C hq hret rfl dX12_drawn_22
def m_X12_frameOf (ce : Ce) (this : Nat) (p1 : Int32) : Option (Int32) :=
  (gA ce 9 0 this).bind fun zx1 =>
  (aI ce zx1 ((104 : Int32) + p1)).bind fun zx2 =>
  some (zx2 >>> ((12 : Int32) &&& 31))
set_option maxRecDepth 100000 in
set_option maxHeartbeats 4000000 in
theorem c_X12_frameOf {nx : Nat} {ce : Ce} {this : Nat} {p1 : Int32} {q : Int32} (hr : m_X12_frameOf ce this p1 = some q) : Ct yX12_frameOf cX12_frameOf 2 (some .int) 0 0 0 0 [.ref this, .int p1] nx ce (some (.int q)) ce := by
  unfold m_X12_frameOf at hr
  refine ct_of (by decide) (Nat.le_of_ble_eq_true rfl) ?_
  intro G C hq hret hin
  show Jd G 0 0 nx ce 0 [(0, .ref this), (1, .int p1)] []
  refine j_aload_n (q := 0) (pc' := 1) C dX12_frameOf_0 rfl rfl rfl ?_
  obtain ⟨zx1, hzx1, hr⟩ := ob hr
  refine j_getA (pc' := 4) C dX12_frameOf_1 fl_X12_8 hzx1 rfl ?_
  refine j_bipush (v := 104) (pc' := 6) C dX12_frameOf_4 kB_104 rfl ?_
  refine j_iload_n (q := 1) (pc' := 7) C dX12_frameOf_6 rfl rfl rfl ?_
  refine j_iadd (pc' := 8) C dX12_frameOf_7 rfl ?_
  obtain ⟨zx2, hzx2, hr⟩ := ob hr
  refine j_iald (pc' := 9) C dX12_frameOf_8 hzx2 rfl ?_
  refine j_bipush (v := 12) (pc' := 11) C dX12_frameOf_9 kB_12 rfl ?_
  refine j_ishr (pc' := 12) C dX12_frameOf_11 rfl ?_
  have hr := Option.some.inj hr
  subst hr
  exact j_iret C hq hret dX12_frameOf_12
def m_X12_highest (ce : Ce) (this : Nat) : Option (Int32) :=
  (it (fun (zs1 : Int32 × Int32) =>
    (gA ce 9 0 this).bind fun zx4 =>
    (aI ce zx4 (17 : Int32)).bind fun zx5 =>
    if zx5 ≤ zs1.2 then
      some (Sum.inr zs1.1)
    else
      (rcv ce 9 this).bind fun zz6 =>
      (m_X12_frameOf ce this zs1.2).bind fun zx7 =>
      if zx7 ≤ zs1.1 then
        some (Sum.inl (zs1.1, (zs1.2 + (1 : Int32))))
      else
        (rcv ce 9 this).bind fun zz8 =>
        (m_X12_frameOf ce this zs1.2).bind fun zx9 =>
        some (Sum.inl (zx9, (zs1.2 + (1 : Int32))))
  ) FU ((1 : Int32), (0 : Int32))).bind fun (zo2 : Int32) =>
  some zo2
set_option maxRecDepth 100000 in
set_option maxHeartbeats 4000000 in
theorem c_X12_highest {nx : Nat} {ce : Ce} {this : Nat} {q : Int32} (hr : m_X12_highest ce this = some q) : Ct yX12_highest cX12_highest 3 (some .int) 1 21 0 0 [.ref this] nx ce (some (.int q)) ce := by
  unfold m_X12_highest at hr
  refine ct_of (by decide) (Nat.le_of_ble_eq_true rfl) ?_
  intro G C hq hret hin
  show Jd G 0 0 nx ce 0 [(0, .ref this)] []
  refine j_iconst (v := 1) (pc' := 1) C dX12_highest_0 kI_1 rfl ?_
  refine j_istore_n (lv' := [(1, .int (1 : Int32)), (0, .ref this)]) (pc' := 2) C dX12_highest_1 rfl (by decide) rfl rfl ?_
  refine j_iconst (v := 0) (pc' := 3) C dX12_highest_2 kI_0 rfl ?_
  refine j_istore_n (lv' := [(2, .int (0 : Int32)), (1, .int (1 : Int32)), (0, .ref this)]) (pc' := 4) C dX12_highest_3 rfl (by decide) rfl rfl ?_
  obtain ⟨zo2, hzo2, rzo2⟩ := ob hr
  have kzo2 : Jd G 0 0 nx ce 40 [(1, .int zo2)] [] := by
    have hr := rzo2
    refine j_iload_n (q := 0) (pc' := 41) C dX12_highest_40 rfl rfl rfl ?_
    have hr := Option.some.inj hr
    subst hr
    exact j_iret C hq hret dX12_highest_41
  refine j_lv (lv' := [(0, .ref this), (1, .int (1 : Int32)), (2, .int (0 : Int32))]) [2, 1, 0] rfl ?_
  refine it_J (J := (fun (zs1 : Int32 × Int32) => Jd G 0 0 nx ce 4 [(0, .ref this), (1, .int zs1.1), (2, .int zs1.2)] [])) ?_ hzo2
  clear hzo2
  intro zs1 zr3 hr izs1 ezs1
  refine j_iload_n (q := 2) (pc' := 5) C dX12_highest_4 rfl rfl rfl ?_
  refine j_aload_n (q := 0) (pc' := 6) C dX12_highest_5 rfl rfl rfl ?_
  obtain ⟨zx4, hzx4, hr⟩ := ob hr
  refine j_getA (pc' := 9) C dX12_highest_6 fl_X12_8 hzx4 rfl ?_
  refine j_bipush (v := 17) (pc' := 11) C dX12_highest_9 kB_17 rfl ?_
  obtain ⟨zx5, hzx5, hr⟩ := ob hr
  refine j_iald (pc' := 12) C dX12_highest_11 hzx5 rfl ?_
  refine j_ic_ge (tgt := 40) (pc' := 15) C dX12_highest_12 rfl rfl (fun hc => ?_) (fun hc => ?_)
  · have hr := ifT hc hr
    clear hc
    have hr := ezs1 _ (Option.some.inj hr).symm
    subst hr
    exact j_lv [1] rfl kzo2
  · have hr := ifF hc hr
    clear hc
    refine j_aload_n (q := 0) (pc' := 16) C dX12_highest_15 rfl rfl rfl ?_
    refine j_iload_n (q := 2) (pc' := 17) C dX12_highest_16 rfl rfl rfl ?_
    obtain ⟨zz6, hzz6, hr⟩ := ob hr
    obtain ⟨zx7, hzx7, hr⟩ := ob hr
    obtain ⟨fhzz6, hzz6⟩ := rcv_sp hzz6
    refine j_callV (ci := 9) (As := [.int zs1.2]) (rest := []) (st1 := [.int zx7]) (pc' := 20) C ⟨wm_1665, wm_61⟩ rfl hzz6 (c_X12_frameOf (nx := nx) hzx7) yw_X12_frameOf wm_1663 rfl rfl (Nat.le_of_ble_eq_true rfl) ⟨by decide, by decide⟩ dX12_highest_17 rfl rfl ?_
    refine j_iload_n (q := 1) (pc' := 21) C dX12_highest_20 rfl rfl rfl ?_
    refine j_ic_le (tgt := 32) (pc' := 24) C dX12_highest_21 rfl rfl (fun hc => ?_) (fun hc => ?_)
    · have hr := ifT hc hr
      clear hc
      refine j_iload_n (q := 1) (pc' := 33) C dX12_highest_32 rfl rfl rfl ?_
      refine j_istore_n (lv' := [(1, .int zs1.1), (0, .ref this), (2, .int zs1.2)]) (pc' := 34) C dX12_highest_33 rfl (by decide) rfl rfl ?_
      refine j_iinc (q := 2) (v := 1) (lv' := [(2, .int (zs1.2 + (1 : Int32))), (1, .int zs1.1), (0, .ref this)]) (pc' := 37) C dX12_highest_34 rfl kI_1 (by decide) rfl rfl ?_
      refine j_goto (tgt := 4) C dX12_highest_37 rfl ?_
      have hr := izs1 (zs1.1, (zs1.2 + (1 : Int32))) (Option.some.inj hr).symm
      exact j_lv [2, 1, 0] rfl hr
    · have hr := ifF hc hr
      clear hc
      refine j_aload_n (q := 0) (pc' := 25) C dX12_highest_24 rfl rfl rfl ?_
      refine j_iload_n (q := 2) (pc' := 26) C dX12_highest_25 rfl rfl rfl ?_
      obtain ⟨zz8, hzz8, hr⟩ := ob hr
      obtain ⟨zx9, hzx9, hr⟩ := ob hr
      obtain ⟨fhzz8, hzz8⟩ := rcv_sp hzz8
      refine j_callV (ci := 9) (As := [.int zs1.2]) (rest := []) (st1 := [.int zx9]) (pc' := 29) C ⟨wm_1665, wm_61⟩ rfl hzz8 (c_X12_frameOf (nx := nx) hzx9) yw_X12_frameOf wm_1663 rfl rfl (Nat.le_of_ble_eq_true rfl) ⟨by decide, by decide⟩ dX12_highest_26 rfl rfl ?_
      refine j_goto (tgt := 33) C dX12_highest_29 rfl ?_
      refine j_istore_n (lv' := [(1, .int zx9), (0, .ref this), (2, .int zs1.2)]) (pc' := 34) C dX12_highest_33 rfl (by decide) rfl rfl ?_
      refine j_iinc (q := 2) (v := 1) (lv' := [(2, .int (zs1.2 + (1 : Int32))), (1, .int zx9), (0, .ref this)]) (pc' := 37) C dX12_highest_34 rfl kI_1 (by decide) rfl rfl ?_
      refine j_goto (tgt := 4) C dX12_highest_37 rfl ?_
      have hr := izs1 (zx9, (zs1.2 + (1 : Int32))) (Option.some.inj hr).symm
      exact j_lv [2, 1, 0] rfl hr
def m_X12_aimAt (ce : Ce) (this : Nat) (p1 : Int32) : Option (Unit × Ce) :=
  (gA ce 9 0 this).bind fun zx1 =>
  (sI ce zx1 (8 : Int32) p1).bind fun zc2 =>
  (gA zc2 9 0 this).bind fun zx3 =>
  (sI zc2 zx3 (9 : Int32) (0 : Int32)).bind fun zc4 =>
  (gA zc4 9 0 this).bind fun zx5 =>
  (sI zc4 zx5 (5 : Int32) (0 : Int32)).bind fun zc6 =>
  (gA zc6 9 0 this).bind fun zx7 =>
  (rcv zc6 9 this).bind fun zz8 =>
  (m_X12_highest zc6 this).bind fun zx9 =>
  (sI zc6 zx7 (4 : Int32) zx9).bind fun zc10 =>
  some ((), zc10)
set_option maxRecDepth 100000 in
set_option maxHeartbeats 4000000 in
theorem c_X12_aimAt {nx : Nat} {ce : Ce} {this : Nat} {p1 : Int32} {q : Unit × Ce} (hr : m_X12_aimAt ce this p1 = some q) : Ct yX12_aimAt cX12_aimAt 2 none 2 43 0 0 [.ref this, .int p1] nx ce none q.2 := by
  unfold m_X12_aimAt at hr
  refine ct_of (by decide) (Nat.le_of_ble_eq_true rfl) ?_
  intro G C hq hret hin
  show Jd G 0 0 nx ce 0 [(0, .ref this), (1, .int p1)] []
  refine j_aload_n (q := 0) (pc' := 1) C dX12_aimAt_0 rfl rfl rfl ?_
  obtain ⟨zx1, hzx1, hr⟩ := ob hr
  refine j_getA (pc' := 4) C dX12_aimAt_1 fl_X12_8 hzx1 rfl ?_
  refine j_bipush (v := 8) (pc' := 6) C dX12_aimAt_4 kB_8 rfl ?_
  refine j_iload_n (q := 1) (pc' := 7) C dX12_aimAt_6 rfl rfl rfl ?_
  obtain ⟨zc2, hzc2, hr⟩ := ob hr
  refine j_iast (pc' := 8) C dX12_aimAt_7 hzc2 rfl ?_
  refine j_aload_n (q := 0) (pc' := 9) C dX12_aimAt_8 rfl rfl rfl ?_
  obtain ⟨zx3, hzx3, hr⟩ := ob hr
  refine j_getA (pc' := 12) C dX12_aimAt_9 fl_X12_8 hzx3 rfl ?_
  refine j_bipush (v := 9) (pc' := 14) C dX12_aimAt_12 kB_9 rfl ?_
  refine j_iconst (v := 0) (pc' := 15) C dX12_aimAt_14 kI_0 rfl ?_
  obtain ⟨zc4, hzc4, hr⟩ := ob hr
  refine j_iast (pc' := 16) C dX12_aimAt_15 hzc4 rfl ?_
  refine j_aload_n (q := 0) (pc' := 17) C dX12_aimAt_16 rfl rfl rfl ?_
  obtain ⟨zx5, hzx5, hr⟩ := ob hr
  refine j_getA (pc' := 20) C dX12_aimAt_17 fl_X12_8 hzx5 rfl ?_
  refine j_iconst (v := 5) (pc' := 21) C dX12_aimAt_20 kI_5 rfl ?_
  refine j_iconst (v := 0) (pc' := 22) C dX12_aimAt_21 kI_0 rfl ?_
  obtain ⟨zc6, hzc6, hr⟩ := ob hr
  refine j_iast (pc' := 23) C dX12_aimAt_22 hzc6 rfl ?_
  refine j_aload_n (q := 0) (pc' := 24) C dX12_aimAt_23 rfl rfl rfl ?_
  obtain ⟨zx7, hzx7, hr⟩ := ob hr
  refine j_getA (pc' := 27) C dX12_aimAt_24 fl_X12_8 hzx7 rfl ?_
  refine j_iconst (v := 4) (pc' := 28) C dX12_aimAt_27 kI_4 rfl ?_
  refine j_aload_n (q := 0) (pc' := 29) C dX12_aimAt_28 rfl rfl rfl ?_
  obtain ⟨zz8, hzz8, hr⟩ := ob hr
  obtain ⟨zx9, hzx9, hr⟩ := ob hr
  obtain ⟨fhzz8, hzz8⟩ := rcv_sp hzz8
  refine j_callV (ci := 9) (As := []) (rest := [.int (4 : Int32), .ref zx7]) (st1 := [.int zx9, .int (4 : Int32), .ref zx7]) (pc' := 32) C ⟨wm_1661, wm_60⟩ rfl hzz8 (c_X12_highest (nx := nx) hzx9) yw_X12_highest wm_1659 rfl rfl (Nat.le_of_ble_eq_true rfl) ⟨by decide, by decide⟩ dX12_aimAt_29 rfl rfl ?_
  obtain ⟨zc10, hzc10, hr⟩ := ob hr
  refine j_iast (pc' := 33) C dX12_aimAt_32 hzc10 rfl ?_
  have hr := Option.some.inj hr
  subst hr
  exact j_vret C hq hret dX12_aimAt_33
def m_X12_aim (ce : Ce) (this : Nat) (p1 : Int32) : Option (Int32 × Ce) :=
  (gA ce 9 0 this).bind fun zx1 =>
  (aI ce zx1 (7 : Int32)).bind fun zx2 =>
  (m_X12_isIn p1 (0 : Int32) (zx2 - (1 : Int32))).bind fun zx3 =>
  if zx3 = 0 then
    some ((0 : Int32), ce)
  else
    (rcv ce 9 this).bind fun zz4 =>
    (m_X12_keep ce this).bind fun zq5 =>
    (rcv zq5.2 9 this).bind fun zz6 =>
    (m_X12_aimAt zq5.2 this p1).bind fun zq7 =>
    some ((1 : Int32), zq7.2)
set_option maxRecDepth 100000 in
set_option maxHeartbeats 4000000 in
theorem c_X12_aim {nx : Nat} {ce : Ce} {this : Nat} {p1 : Int32} {q : Int32 × Ce} (hr : m_X12_aim ce this p1 = some q) : Ct yX12_aim cX12_aim 2 (some .boolean) 3 64 0 0 [.ref this, .int p1] nx ce (some (.int q.1)) q.2 := by
  unfold m_X12_aim at hr
  refine ct_of (by decide) (Nat.le_of_ble_eq_true rfl) ?_
  intro G C hq hret hin
  show Jd G 0 0 nx ce 0 [(0, .ref this), (1, .int p1)] []
  refine j_iload_n (q := 1) (pc' := 1) C dX12_aim_0 rfl rfl rfl ?_
  refine j_iconst (v := 0) (pc' := 2) C dX12_aim_1 kI_0 rfl ?_
  refine j_aload_n (q := 0) (pc' := 3) C dX12_aim_2 rfl rfl rfl ?_
  obtain ⟨zx1, hzx1, hr⟩ := ob hr
  refine j_getA (pc' := 6) C dX12_aim_3 fl_X12_8 hzx1 rfl ?_
  refine j_bipush (v := 7) (pc' := 8) C dX12_aim_6 kB_7 rfl ?_
  obtain ⟨zx2, hzx2, hr⟩ := ob hr
  refine j_iald (pc' := 9) C dX12_aim_8 hzx2 rfl ?_
  refine j_iconst (v := 1) (pc' := 10) C dX12_aim_9 kI_1 rfl ?_
  refine j_isub (pc' := 11) C dX12_aim_10 rfl ?_
  obtain ⟨zx3, hzx3, hr⟩ := ob hr
  refine j_callS (As := [.int p1, .int (0 : Int32), .int (zx2 - (1 : Int32))]) (rest := []) (st1 := [.int zx3]) (pc' := 14) C wm_1529 (c_X12_isIn (nx := nx) (ce := ce) hzx3) yw_X12_isIn wm_1528 rfl rfl (Nat.le_of_ble_eq_true rfl) ⟨by decide, by decide⟩ dX12_aim_11 rfl rfl ?_
  refine j_if_ne (tgt := 19) (pc' := 17) C dX12_aim_14 rfl rfl (fun hc => ?_) (fun hc => ?_)
  · have hr := ifF hc hr
    clear hc
    refine j_aload_n (q := 0) (pc' := 20) C dX12_aim_19 rfl rfl rfl ?_
    obtain ⟨zz4, hzz4, hr⟩ := ob hr
    obtain ⟨zq5, hzq5, hr⟩ := ob hr
    obtain ⟨fhzz4, hzz4⟩ := rcv_sp hzz4
    refine j_callV (ci := 9) (As := []) (rest := []) (st1 := []) (pc' := 23) C ⟨wm_1628, wm_56⟩ rfl hzz4 (c_X12_keep (nx := nx) hzq5) yw_X12_keep wm_1626 rfl rfl (Nat.le_of_ble_eq_true rfl) ⟨by decide, by decide⟩ dX12_aim_20 rfl rfl ?_
    refine j_aload_n (q := 0) (pc' := 24) C dX12_aim_23 rfl rfl rfl ?_
    refine j_iload_n (q := 1) (pc' := 25) C dX12_aim_24 rfl rfl rfl ?_
    obtain ⟨zz6, hzz6, hr⟩ := ob hr
    obtain ⟨zq7, hzq7, hr⟩ := ob hr
    obtain ⟨fhzz6, hzz6⟩ := rcv_sp hzz6
    refine j_callV (ci := 9) (As := [.int p1]) (rest := []) (st1 := []) (pc' := 28) C ⟨wm_1657, wm_59⟩ rfl hzz6 (c_X12_aimAt (nx := nx) hzq7) yw_X12_aimAt wm_1655 rfl rfl (Nat.le_of_ble_eq_true rfl) ⟨by decide, by decide⟩ dX12_aim_25 rfl rfl ?_
    refine j_iconst (v := 1) (pc' := 29) C dX12_aim_28 kI_1 rfl ?_
    have hr := Option.some.inj hr
    subst hr
    exact j_zret C hq hret rfl dX12_aim_29
  · have hr := ifT hc hr
    clear hc
    refine j_iconst (v := 0) (pc' := 18) C dX12_aim_17 kI_0 rfl ?_
    have hr := Option.some.inj hr
    subst hr
    exact j_zret C hq hret rfl dX12_aim_18
def m_X12_mode (ce : Ce) (this : Nat) (p1 : Int32) : Option (Int32 × Ce) :=
  (m_X12_isIn p1 (0 : Int32) (2 : Int32)).bind fun zx1 =>
  if zx1 = 0 then
    some ((0 : Int32), ce)
  else
    (rcv ce 9 this).bind fun zz2 =>
    (m_X12_keep ce this).bind fun zq3 =>
    (gA zq3.2 9 0 this).bind fun zx4 =>
    (sI zq3.2 zx4 (15 : Int32) p1).bind fun zc5 =>
    some ((1 : Int32), zc5)
set_option maxRecDepth 100000 in
set_option maxHeartbeats 4000000 in
theorem c_X12_mode {nx : Nat} {ce : Ce} {this : Nat} {p1 : Int32} {q : Int32 × Ce} (hr : m_X12_mode ce this p1 = some q) : Ct yX12_mode cX12_mode 2 (some .boolean) 2 43 0 0 [.ref this, .int p1] nx ce (some (.int q.1)) q.2 := by
  unfold m_X12_mode at hr
  refine ct_of (by decide) (Nat.le_of_ble_eq_true rfl) ?_
  intro G C hq hret hin
  show Jd G 0 0 nx ce 0 [(0, .ref this), (1, .int p1)] []
  refine j_iload_n (q := 1) (pc' := 1) C dX12_mode_0 rfl rfl rfl ?_
  refine j_iconst (v := 0) (pc' := 2) C dX12_mode_1 kI_0 rfl ?_
  refine j_iconst (v := 2) (pc' := 3) C dX12_mode_2 kI_2 rfl ?_
  obtain ⟨zx1, hzx1, hr⟩ := ob hr
  refine j_callS (As := [.int p1, .int (0 : Int32), .int (2 : Int32)]) (rest := []) (st1 := [.int zx1]) (pc' := 6) C wm_1529 (c_X12_isIn (nx := nx) (ce := ce) hzx1) yw_X12_isIn wm_1528 rfl rfl (Nat.le_of_ble_eq_true rfl) ⟨by decide, by decide⟩ dX12_mode_3 rfl rfl ?_
  refine j_if_ne (tgt := 11) (pc' := 9) C dX12_mode_6 rfl rfl (fun hc => ?_) (fun hc => ?_)
  · have hr := ifF hc hr
    clear hc
    refine j_aload_n (q := 0) (pc' := 12) C dX12_mode_11 rfl rfl rfl ?_
    obtain ⟨zz2, hzz2, hr⟩ := ob hr
    obtain ⟨zq3, hzq3, hr⟩ := ob hr
    obtain ⟨fhzz2, hzz2⟩ := rcv_sp hzz2
    refine j_callV (ci := 9) (As := []) (rest := []) (st1 := []) (pc' := 15) C ⟨wm_1628, wm_56⟩ rfl hzz2 (c_X12_keep (nx := nx) hzq3) yw_X12_keep wm_1626 rfl rfl (Nat.le_of_ble_eq_true rfl) ⟨by decide, by decide⟩ dX12_mode_12 rfl rfl ?_
    refine j_aload_n (q := 0) (pc' := 16) C dX12_mode_15 rfl rfl rfl ?_
    obtain ⟨zx4, hzx4, hr⟩ := ob hr
    refine j_getA (pc' := 19) C dX12_mode_16 fl_X12_8 hzx4 rfl ?_
    refine j_bipush (v := 15) (pc' := 21) C dX12_mode_19 kB_15 rfl ?_
    refine j_iload_n (q := 1) (pc' := 22) C dX12_mode_21 rfl rfl rfl ?_
    obtain ⟨zc5, hzc5, hr⟩ := ob hr
    refine j_iast (pc' := 23) C dX12_mode_22 hzc5 rfl ?_
    refine j_iconst (v := 1) (pc' := 24) C dX12_mode_23 kI_1 rfl ?_
    have hr := Option.some.inj hr
    subst hr
    exact j_zret C hq hret rfl dX12_mode_24
  · have hr := ifT hc hr
    clear hc
    refine j_iconst (v := 0) (pc' := 10) C dX12_mode_9 kI_0 rfl ?_
    have hr := Option.some.inj hr
    subst hr
    exact j_zret C hq hret rfl dX12_mode_10
def m_X12_maskOf (ce : Ce) (this : Nat) (p1 : Int32) : Option (Int32) :=
  (gA ce 9 0 this).bind fun zx1 =>
  (aI ce zx1 ((104 : Int32) + p1)).bind fun zx2 =>
  some ((zx2 >>> ((6 : Int32) &&& 31)) &&& (63 : Int32))
set_option maxRecDepth 100000 in
set_option maxHeartbeats 4000000 in
theorem c_X12_maskOf {nx : Nat} {ce : Ce} {this : Nat} {p1 : Int32} {q : Int32} (hr : m_X12_maskOf ce this p1 = some q) : Ct yX12_maskOf cX12_maskOf 2 (some .int) 0 0 0 0 [.ref this, .int p1] nx ce (some (.int q)) ce := by
  unfold m_X12_maskOf at hr
  refine ct_of (by decide) (Nat.le_of_ble_eq_true rfl) ?_
  intro G C hq hret hin
  show Jd G 0 0 nx ce 0 [(0, .ref this), (1, .int p1)] []
  refine j_aload_n (q := 0) (pc' := 1) C dX12_maskOf_0 rfl rfl rfl ?_
  obtain ⟨zx1, hzx1, hr⟩ := ob hr
  refine j_getA (pc' := 4) C dX12_maskOf_1 fl_X12_8 hzx1 rfl ?_
  refine j_bipush (v := 104) (pc' := 6) C dX12_maskOf_4 kB_104 rfl ?_
  refine j_iload_n (q := 1) (pc' := 7) C dX12_maskOf_6 rfl rfl rfl ?_
  refine j_iadd (pc' := 8) C dX12_maskOf_7 rfl ?_
  obtain ⟨zx2, hzx2, hr⟩ := ob hr
  refine j_iald (pc' := 9) C dX12_maskOf_8 hzx2 rfl ?_
  refine j_bipush (v := 6) (pc' := 11) C dX12_maskOf_9 kB_6 rfl ?_
  refine j_ishr (pc' := 12) C dX12_maskOf_11 rfl ?_
  refine j_bipush (v := 63) (pc' := 14) C dX12_maskOf_12 kB_63 rfl ?_
  refine j_iand (pc' := 15) C dX12_maskOf_14 rfl ?_
  have hr := Option.some.inj hr
  subst hr
  exact j_iret C hq hret dX12_maskOf_15
def m_X12_bitsOf (ce : Ce) (this : Nat) (p1 : Int32) : Option (Int32) :=
  (gA ce 9 0 this).bind fun zx1 =>
  (aI ce zx1 ((104 : Int32) + p1)).bind fun zx2 =>
  some (zx2 &&& (63 : Int32))
set_option maxRecDepth 100000 in
set_option maxHeartbeats 4000000 in
theorem c_X12_bitsOf {nx : Nat} {ce : Ce} {this : Nat} {p1 : Int32} {q : Int32} (hr : m_X12_bitsOf ce this p1 = some q) : Ct yX12_bitsOf cX12_bitsOf 2 (some .int) 0 0 0 0 [.ref this, .int p1] nx ce (some (.int q)) ce := by
  unfold m_X12_bitsOf at hr
  refine ct_of (by decide) (Nat.le_of_ble_eq_true rfl) ?_
  intro G C hq hret hin
  show Jd G 0 0 nx ce 0 [(0, .ref this), (1, .int p1)] []
  refine j_aload_n (q := 0) (pc' := 1) C dX12_bitsOf_0 rfl rfl rfl ?_
  obtain ⟨zx1, hzx1, hr⟩ := ob hr
  refine j_getA (pc' := 4) C dX12_bitsOf_1 fl_X12_8 hzx1 rfl ?_
  refine j_bipush (v := 104) (pc' := 6) C dX12_bitsOf_4 kB_104 rfl ?_
  refine j_iload_n (q := 1) (pc' := 7) C dX12_bitsOf_6 rfl rfl rfl ?_
  refine j_iadd (pc' := 8) C dX12_bitsOf_7 rfl ?_
  obtain ⟨zx2, hzx2, hr⟩ := ob hr
  refine j_iald (pc' := 9) C dX12_bitsOf_8 hzx2 rfl ?_
  refine j_bipush (v := 63) (pc' := 11) C dX12_bitsOf_9 kB_63 rfl ?_
  refine j_iand (pc' := 12) C dX12_bitsOf_11 rfl ?_
  have hr := Option.some.inj hr
  subst hr
  exact j_iret C hq hret dX12_bitsOf_12
def m_X12_setOfCube (ce : Ce) (this : Nat) (p1 : Int32) : Option (Int64) :=
  (rcv ce 9 this).bind fun zz1 =>
  (m_X12_maskOf ce this p1).bind fun zx2 =>
  (rcv ce 9 this).bind fun zz3 =>
  (m_X12_bitsOf ce this p1).bind fun zx4 =>
  (rcv ce 9 this).bind fun zz5 =>
  (m_X12_cubeSet ce this zx2 zx4).bind fun zx6 =>
  some zx6
set_option maxRecDepth 100000 in
set_option maxHeartbeats 4000000 in
theorem c_X12_setOfCube {nx : Nat} {ce : Ce} {this : Nat} {p1 : Int32} {q : Int64} (hr : m_X12_setOfCube ce this p1 = some q) : Ct yX12_setOfCube cX12_setOfCube 2 (some .long) 3 65 0 0 [.ref this, .int p1] nx ce (some (.long q)) ce := by
  unfold m_X12_setOfCube at hr
  refine ct_of (by decide) (Nat.le_of_ble_eq_true rfl) ?_
  intro G C hq hret hin
  show Jd G 0 0 nx ce 0 [(0, .ref this), (1, .int p1)] []
  refine j_aload_n (q := 0) (pc' := 1) C dX12_setOfCube_0 rfl rfl rfl ?_
  refine j_aload_n (q := 0) (pc' := 2) C dX12_setOfCube_1 rfl rfl rfl ?_
  refine j_iload_n (q := 1) (pc' := 3) C dX12_setOfCube_2 rfl rfl rfl ?_
  obtain ⟨zz1, hzz1, hr⟩ := ob hr
  obtain ⟨zx2, hzx2, hr⟩ := ob hr
  obtain ⟨fhzz1, hzz1⟩ := rcv_sp hzz1
  refine j_callV (ci := 9) (As := [.int p1]) (rest := [.ref this]) (st1 := [.int zx2, .ref this]) (pc' := 6) C ⟨wm_1718, wm_71⟩ rfl hzz1 (c_X12_maskOf (nx := nx) hzx2) yw_X12_maskOf wm_1716 rfl rfl (Nat.le_of_ble_eq_true rfl) ⟨by decide, by decide⟩ dX12_setOfCube_3 rfl rfl ?_
  refine j_aload_n (q := 0) (pc' := 7) C dX12_setOfCube_6 rfl rfl rfl ?_
  refine j_iload_n (q := 1) (pc' := 8) C dX12_setOfCube_7 rfl rfl rfl ?_
  obtain ⟨zz3, hzz3, hr⟩ := ob hr
  obtain ⟨zx4, hzx4, hr⟩ := ob hr
  obtain ⟨fhzz3, hzz3⟩ := rcv_sp hzz3
  refine j_callV (ci := 9) (As := [.int p1]) (rest := [.int zx2, .ref this]) (st1 := [.int zx4, .int zx2, .ref this]) (pc' := 11) C ⟨wm_1722, wm_72⟩ rfl hzz3 (c_X12_bitsOf (nx := nx) hzx4) yw_X12_bitsOf wm_1720 rfl rfl (Nat.le_of_ble_eq_true rfl) ⟨by decide, by decide⟩ dX12_setOfCube_8 rfl rfl ?_
  obtain ⟨zz5, hzz5, hr⟩ := ob hr
  obtain ⟨zx6, hzx6, hr⟩ := ob hr
  obtain ⟨fhzz5, hzz5⟩ := rcv_sp hzz5
  refine j_callV (ci := 9) (As := [.int zx2, .int zx4]) (rest := []) (st1 := [.long zx6]) (pc' := 14) C ⟨wm_1726, wm_73⟩ rfl hzz5 (c_X12_cubeSet (nx := nx) hzx6) yw_X12_cubeSet wm_1724 rfl rfl (Nat.le_of_ble_eq_true rfl) ⟨by decide, by decide⟩ dX12_setOfCube_11 rfl rfl ?_
  have hr := Option.some.inj hr
  subst hr
  exact j_lret C hq hret dX12_setOfCube_14
def m_X12_openAt (ce : Ce) (this : Nat) (p1 : Int32) : Option (Int64) :=
  if p1 = 0 then
    (rcv ce 9 this).bind fun zz12 =>
    (m_X12_starts ce this).bind fun zx13 =>
    some zx13
  else
    (rcv ce 9 this).bind fun zz1 =>
    (m_X12_all ce this).bind fun zx2 =>
    (it (fun (zs3 : Int64 × Int32) =>
      (gA ce 9 0 this).bind fun zx6 =>
      (aI ce zx6 (17 : Int32)).bind fun zx7 =>
      if zx7 ≤ zs3.2 then
        some (Sum.inr zs3.1)
      else
        (rcv ce 9 this).bind fun zz8 =>
        (m_X12_frameOf ce this zs3.2).bind fun zx9 =>
        if zx9 < p1 then
          some (Sum.inl (zs3.1, (zs3.2 + (1 : Int32))))
        else
          (rcv ce 9 this).bind fun zz10 =>
          (m_X12_setOfCube ce this zs3.2).bind fun zx11 =>
          some (Sum.inl ((zs3.1 &&& (zx11 ^^^ (-1 : Int64))), (zs3.2 + (1 : Int32))))
    ) FU (zx2, (0 : Int32))).bind fun (zo4 : Int64) =>
    some zo4
set_option maxRecDepth 100000 in
set_option maxHeartbeats 4000000 in
theorem c_X12_openAt {nx : Nat} {ce : Ce} {this : Nat} {p1 : Int32} {q : Int64} (hr : m_X12_openAt ce this p1 = some q) : Ct yX12_openAt cX12_openAt 5 (some .long) 4 86 0 0 [.ref this, .int p1] nx ce (some (.long q)) ce := by
  unfold m_X12_openAt at hr
  refine ct_of (by decide) (Nat.le_of_ble_eq_true rfl) ?_
  intro G C hq hret hin
  show Jd G 0 0 nx ce 0 [(0, .ref this), (1, .int p1)] []
  refine j_iload_n (q := 1) (pc' := 1) C dX12_openAt_0 rfl rfl rfl ?_
  refine j_if_ne (tgt := 9) (pc' := 4) C dX12_openAt_1 rfl rfl (fun hc => ?_) (fun hc => ?_)
  · have hr := ifF hc hr
    clear hc
    refine j_aload_n (q := 0) (pc' := 10) C dX12_openAt_9 rfl rfl rfl ?_
    obtain ⟨zz1, hzz1, hr⟩ := ob hr
    obtain ⟨zx2, hzx2, hr⟩ := ob hr
    obtain ⟨fhzz1, hzz1⟩ := rcv_sp hzz1
    refine j_callV (ci := 9) (As := []) (rest := []) (st1 := [.long zx2]) (pc' := 13) C ⟨wm_1635, wm_57⟩ rfl hzz1 (c_X12_all (nx := nx) hzx2) yw_X12_all wm_1633 rfl rfl (Nat.le_of_ble_eq_true rfl) ⟨by decide, by decide⟩ dX12_openAt_10 rfl rfl ?_
    refine j_lstore_n (lv' := [(2, .long zx2), (0, .ref this), (1, .int p1)]) (pc' := 14) C dX12_openAt_13 rfl (by decide) rfl rfl ?_
    refine j_iconst (v := 0) (pc' := 15) C dX12_openAt_14 kI_0 rfl ?_
    refine j_istore (lv' := [(4, .int (0 : Int32)), (2, .long zx2), (0, .ref this), (1, .int p1)]) (pc' := 17) C dX12_openAt_15 (by decide) rfl rfl ?_
    obtain ⟨zo4, hzo4, rzo4⟩ := ob hr
    have kzo4 : Jd G 0 0 nx ce 58 [(2, .long zo4)] [] := by
      have hr := rzo4
      refine j_lload_n (q := 0) (pc' := 59) C dX12_openAt_58 rfl rfl rfl ?_
      have hr := Option.some.inj hr
      subst hr
      exact j_lret C hq hret dX12_openAt_59
    refine j_lv (lv' := [(0, .ref this), (1, .int p1), (2, .long zx2), (4, .int (0 : Int32))]) [2, 3, 1, 0] rfl ?_
    refine it_J (J := (fun (zs3 : Int64 × Int32) => Jd G 0 0 nx ce 17 [(0, .ref this), (1, .int p1), (2, .long zs3.1), (4, .int zs3.2)] [])) ?_ hzo4
    clear hzo4
    intro zs3 zr5 hr izs3 ezs3
    refine j_iload (q := 3) (pc' := 19) C dX12_openAt_17 rfl rfl ?_
    refine j_aload_n (q := 0) (pc' := 20) C dX12_openAt_19 rfl rfl rfl ?_
    obtain ⟨zx6, hzx6, hr⟩ := ob hr
    refine j_getA (pc' := 23) C dX12_openAt_20 fl_X12_8 hzx6 rfl ?_
    refine j_bipush (v := 17) (pc' := 25) C dX12_openAt_23 kB_17 rfl ?_
    obtain ⟨zx7, hzx7, hr⟩ := ob hr
    refine j_iald (pc' := 26) C dX12_openAt_25 hzx7 rfl ?_
    refine j_ic_ge (tgt := 58) (pc' := 29) C dX12_openAt_26 rfl rfl (fun hc => ?_) (fun hc => ?_)
    · have hr := ifT hc hr
      clear hc
      have hr := ezs3 _ (Option.some.inj hr).symm
      subst hr
      exact j_lv [2] rfl kzo4
    · have hr := ifF hc hr
      clear hc
      refine j_aload_n (q := 0) (pc' := 30) C dX12_openAt_29 rfl rfl rfl ?_
      refine j_iload (q := 3) (pc' := 32) C dX12_openAt_30 rfl rfl ?_
      obtain ⟨zz8, hzz8, hr⟩ := ob hr
      obtain ⟨zx9, hzx9, hr⟩ := ob hr
      obtain ⟨fhzz8, hzz8⟩ := rcv_sp hzz8
      refine j_callV (ci := 9) (As := [.int zs3.2]) (rest := []) (st1 := [.int zx9]) (pc' := 35) C ⟨wm_1665, wm_61⟩ rfl hzz8 (c_X12_frameOf (nx := nx) hzx9) yw_X12_frameOf wm_1663 rfl rfl (Nat.le_of_ble_eq_true rfl) ⟨by decide, by decide⟩ dX12_openAt_32 rfl rfl ?_
      refine j_iload_n (q := 1) (pc' := 36) C dX12_openAt_35 rfl rfl rfl ?_
      refine j_ic_lt (tgt := 52) (pc' := 39) C dX12_openAt_36 rfl rfl (fun hc => ?_) (fun hc => ?_)
      · have hr := ifT hc hr
        clear hc
        refine j_iinc (q := 3) (v := 1) (lv' := [(4, .int (zs3.2 + (1 : Int32))), (0, .ref this), (1, .int p1), (2, .long zs3.1)]) (pc' := 55) C dX12_openAt_52 rfl kI_1 (by decide) rfl rfl ?_
        refine j_goto (tgt := 17) C dX12_openAt_55 rfl ?_
        have hr := izs3 (zs3.1, (zs3.2 + (1 : Int32))) (Option.some.inj hr).symm
        exact j_lv [1, 2, 3, 0] rfl hr
      · have hr := ifF hc hr
        clear hc
        refine j_lload_n (q := 2) (pc' := 40) C dX12_openAt_39 rfl rfl rfl ?_
        refine j_aload_n (q := 0) (pc' := 41) C dX12_openAt_40 rfl rfl rfl ?_
        refine j_iload (q := 3) (pc' := 43) C dX12_openAt_41 rfl rfl ?_
        obtain ⟨zz10, hzz10, hr⟩ := ob hr
        obtain ⟨zx11, hzx11, hr⟩ := ob hr
        obtain ⟨fhzz10, hzz10⟩ := rcv_sp hzz10
        refine j_callV (ci := 9) (As := [.int zs3.2]) (rest := [.long zs3.1]) (st1 := [.long zx11, .long zs3.1]) (pc' := 46) C ⟨wm_1714, wm_70⟩ rfl hzz10 (c_X12_setOfCube (nx := nx) hzx11) yw_X12_setOfCube wm_1712 rfl rfl (Nat.le_of_ble_eq_true rfl) ⟨by decide, by decide⟩ dX12_openAt_43 rfl rfl ?_
        refine j_ldc2 (pc' := 49) C dX12_openAt_46 wm_1598 rfl ?_
        refine j_lxor (pc' := 50) C dX12_openAt_49 rfl ?_
        refine j_land (pc' := 51) C dX12_openAt_50 rfl ?_
        refine j_lstore_n (lv' := [(2, .long (zs3.1 &&& (zx11 ^^^ (-1 : Int64)))), (0, .ref this), (1, .int p1), (4, .int zs3.2)]) (pc' := 52) C dX12_openAt_51 rfl (by decide) rfl rfl ?_
        refine j_iinc (q := 3) (v := 1) (lv' := [(4, .int (zs3.2 + (1 : Int32))), (2, .long (zs3.1 &&& (zx11 ^^^ (-1 : Int64)))), (0, .ref this), (1, .int p1)]) (pc' := 55) C dX12_openAt_52 rfl kI_1 (by decide) rfl rfl ?_
        refine j_goto (tgt := 17) C dX12_openAt_55 rfl ?_
        have hr := izs3 ((zs3.1 &&& (zx11 ^^^ (-1 : Int64))), (zs3.2 + (1 : Int32))) (Option.some.inj hr).symm
        exact j_lv [2, 3, 1, 0] rfl hr
  · have hr := ifT hc hr
    clear hc
    refine j_aload_n (q := 0) (pc' := 5) C dX12_openAt_4 rfl rfl rfl ?_
    obtain ⟨zz12, hzz12, hr⟩ := ob hr
    obtain ⟨zx13, hzx13, hr⟩ := ob hr
    obtain ⟨fhzz12, hzz12⟩ := rcv_sp hzz12
    refine j_callV (ci := 9) (As := []) (rest := []) (st1 := [.long zx13]) (pc' := 8) C ⟨wm_1710, wm_69⟩ rfl hzz12 (c_X12_starts (nx := nx) hzx13) yw_X12_starts wm_1708 rfl rfl (Nat.le_of_ble_eq_true rfl) ⟨by decide, by decide⟩ dX12_openAt_5 rfl rfl ?_
    have hr := Option.some.inj hr
    subst hr
    exact j_lret C hq hret dX12_openAt_8
def m_X12_isClosed (ce : Ce) (this : Nat) (p1 : Int64) (p2 : Int64) : Option (Int32) :=
  (it (fun (zs1 : Int32) =>
    (rcv ce 9 this).bind fun zz4 =>
    (m_X12_states ce this).bind fun zx5 =>
    if zx5 ≤ zs1 then
      some (Sum.inr (Sum.inr ()))
    else
      (m_X12_has (p1 &&& (p2 ^^^ (-1 : Int64))) zs1).bind fun zx6 =>
      if zx6 = 0 then
        some (Sum.inl (zs1 + (1 : Int32)))
      else
        (rcv ce 9 this).bind fun zz7 =>
        (m_X12_after ce this zs1).bind fun zx8 =>
        if (lg_cmp (zx8 &&& p2) (0 : Int64)) = 0 then
          some (Sum.inl (zs1 + (1 : Int32)))
        else
          some (Sum.inr (Sum.inl (0 : Int32)))
  ) FU (0 : Int32)).bind fun (zo2 : Int32 ⊕ Unit) =>
  Sum.elim (fun wzo2 => some wzo2) (fun vzo2 =>
    some (1 : Int32)
  ) zo2
set_option maxRecDepth 100000 in
set_option maxHeartbeats 4000000 in
theorem c_X12_isClosed {nx : Nat} {ce : Ce} {this : Nat} {p1 : Int64} {p2 : Int64} {q : Int32} (hr : m_X12_isClosed ce this p1 p2 = some q) : Ct yX12_isClosed cX12_isClosed 6 (some .boolean) 3 68 0 0 [.ref this, .long p1, .long p2] nx ce (some (.int q)) ce := by
  unfold m_X12_isClosed at hr
  refine ct_of (by decide) (Nat.le_of_ble_eq_true rfl) ?_
  intro G C hq hret hin
  show Jd G 0 0 nx ce 0 [(0, .ref this), (1, .long p1), (3, .long p2)] []
  refine j_iconst (v := 0) (pc' := 1) C dX12_isClosed_0 kI_0 rfl ?_
  refine j_istore (lv' := [(5, .int (0 : Int32)), (0, .ref this), (1, .long p1), (3, .long p2)]) (pc' := 3) C dX12_isClosed_1 (by decide) rfl rfl ?_
  obtain ⟨zo2, hzo2, rzo2⟩ := ob hr
  have kzo2 : ∀ vzo2, zo2 = Sum.inr vzo2 → Jd G 0 0 nx ce 48 [] [] := by
    intro vzo2 ezo2
    rw [ezo2] at rzo2
    have hr := elR rzo2
    refine j_iconst (v := 1) (pc' := 49) C dX12_isClosed_48 kI_1 rfl ?_
    have hr := Option.some.inj hr
    subst hr
    exact j_zret C hq hret rfl dX12_isClosed_49
  refine j_lv (lv' := [(0, .ref this), (1, .long p1), (3, .long p2), (5, .int (0 : Int32))]) [1, 2, 3, 0] rfl ?_
  refine it_J (J := (fun (zs1 : Int32) => Jd G 0 0 nx ce 3 [(0, .ref this), (1, .long p1), (3, .long p2), (5, .int zs1)] [])) ?_ hzo2
  clear hzo2
  intro zs1 zr3 hr izs1 ezs1
  refine j_iload (q := 3) (pc' := 5) C dX12_isClosed_3 rfl rfl ?_
  refine j_aload_n (q := 0) (pc' := 6) C dX12_isClosed_5 rfl rfl rfl ?_
  obtain ⟨zz4, hzz4, hr⟩ := ob hr
  obtain ⟨zx5, hzx5, hr⟩ := ob hr
  obtain ⟨fhzz4, hzz4⟩ := rcv_sp hzz4
  refine j_callV (ci := 9) (As := []) (rest := [.int zs1]) (st1 := [.int zx5, .int zs1]) (pc' := 9) C ⟨wm_1642, wm_58⟩ rfl hzz4 (c_X12_states (nx := nx) hzx5) yw_X12_states wm_1640 rfl rfl (Nat.le_of_ble_eq_true rfl) ⟨by decide, by decide⟩ dX12_isClosed_6 rfl rfl ?_
  refine j_ic_ge (tgt := 48) (pc' := 12) C dX12_isClosed_9 rfl rfl (fun hc => ?_) (fun hc => ?_)
  · have hr := ifT hc hr
    clear hc
    have hr := ezs1 _ (Option.some.inj hr).symm
    subst hr
    exact j_lv [] rfl (kzo2 _ rfl)
  · have hr := ifF hc hr
    clear hc
    refine j_lload_n (q := 1) (pc' := 13) C dX12_isClosed_12 rfl rfl rfl ?_
    refine j_lload_n (q := 2) (pc' := 14) C dX12_isClosed_13 rfl rfl rfl ?_
    refine j_ldc2 (pc' := 17) C dX12_isClosed_14 wm_1598 rfl ?_
    refine j_lxor (pc' := 18) C dX12_isClosed_17 rfl ?_
    refine j_land (pc' := 19) C dX12_isClosed_18 rfl ?_
    refine j_iload (q := 3) (pc' := 21) C dX12_isClosed_19 rfl rfl ?_
    obtain ⟨zx6, hzx6, hr⟩ := ob hr
    refine j_callS (As := [.long (p1 &&& (p2 ^^^ (-1 : Int64))), .int zs1]) (rest := []) (st1 := [.int zx6]) (pc' := 24) C wm_1645 (c_X12_has (nx := nx) (ce := ce) hzx6) yw_X12_has wm_1644 rfl rfl (Nat.le_of_ble_eq_true rfl) ⟨by decide, by decide⟩ dX12_isClosed_21 rfl rfl ?_
    refine j_if_eq (tgt := 42) (pc' := 27) C dX12_isClosed_24 rfl rfl (fun hc => ?_) (fun hc => ?_)
    · have hr := ifT hc hr
      clear hc
      refine j_iinc (q := 3) (v := 1) (lv' := [(5, .int (zs1 + (1 : Int32))), (0, .ref this), (1, .long p1), (3, .long p2)]) (pc' := 45) C dX12_isClosed_42 rfl kI_1 (by decide) rfl rfl ?_
      refine j_goto (tgt := 3) C dX12_isClosed_45 rfl ?_
      have hr := izs1 (zs1 + (1 : Int32)) (Option.some.inj hr).symm
      exact j_lv [1, 2, 3, 0] rfl hr
    · have hr := ifF hc hr
      clear hc
      refine j_aload_n (q := 0) (pc' := 28) C dX12_isClosed_27 rfl rfl rfl ?_
      refine j_iload (q := 3) (pc' := 30) C dX12_isClosed_28 rfl rfl ?_
      obtain ⟨zz7, hzz7, hr⟩ := ob hr
      obtain ⟨zx8, hzx8, hr⟩ := ob hr
      obtain ⟨fhzz7, hzz7⟩ := rcv_sp hzz7
      refine j_callV (ci := 9) (As := [.int zs1]) (rest := []) (st1 := [.long zx8]) (pc' := 33) C ⟨wm_1761, wm_81⟩ rfl hzz7 (c_X12_after (nx := nx) hzx8) yw_X12_after wm_1759 rfl rfl (Nat.le_of_ble_eq_true rfl) ⟨by decide, by decide⟩ dX12_isClosed_30 rfl rfl ?_
      refine j_lload_n (q := 2) (pc' := 34) C dX12_isClosed_33 rfl rfl rfl ?_
      refine j_land (pc' := 35) C dX12_isClosed_34 rfl ?_
      refine j_lconst (v := 0) (pc' := 36) C dX12_isClosed_35 kL_0 rfl ?_
      refine j_lcmp (pc' := 37) C dX12_isClosed_36 rfl ?_
      refine j_if_eq (tgt := 42) (pc' := 40) C dX12_isClosed_37 rfl rfl (fun hc => ?_) (fun hc => ?_)
      · have hr := ifT hc hr
        clear hc
        refine j_iinc (q := 3) (v := 1) (lv' := [(5, .int (zs1 + (1 : Int32))), (0, .ref this), (1, .long p1), (3, .long p2)]) (pc' := 45) C dX12_isClosed_42 rfl kI_1 (by decide) rfl rfl ?_
        refine j_goto (tgt := 3) C dX12_isClosed_45 rfl ?_
        have hr := izs1 (zs1 + (1 : Int32)) (Option.some.inj hr).symm
        exact j_lv [1, 2, 3, 0] rfl hr
      · have hr := ifF hc hr
        clear hc
        refine j_iconst (v := 0) (pc' := 41) C dX12_isClosed_40 kI_0 rfl ?_
        have hr := ezs1 _ (Option.some.inj hr).symm
        subst hr
        have hr := elL rzo2
        have hr := Option.some.inj hr
        subst hr
        exact j_zret C hq hret rfl dX12_isClosed_41
def m_X12_doesHold (ce : Ce) (this : Nat) (p1 : Int32) (p2 : Int32) (p3 : Int32) : Option (Int32) :=
  (rcv ce 9 this).bind fun zz1 =>
  (m_X12_openAt ce this p3).bind fun zx2 =>
  (rcv ce 9 this).bind fun zz3 =>
  (m_X12_cubeSet ce this p1 p2).bind fun zx4 =>
  (rcv ce 9 this).bind fun zz5 =>
  (m_X12_isClosed ce this zx2 zx4).bind fun zx6 =>
  (bz zx6).bind fun zx7 =>
  some zx6
set_option maxRecDepth 100000 in
set_option maxHeartbeats 4000000 in
theorem c_X12_doesHold {nx : Nat} {ce : Ce} {this : Nat} {p1 : Int32} {p2 : Int32} {p3 : Int32} {q : Int32} (hr : m_X12_doesHold ce this p1 p2 p3 = some q) : Ct yX12_doesHold cX12_doesHold 4 (some .boolean) 5 110 0 0 [.ref this, .int p1, .int p2, .int p3] nx ce (some (.int q)) ce := by
  unfold m_X12_doesHold at hr
  refine ct_of (by decide) (Nat.le_of_ble_eq_true rfl) ?_
  intro G C hq hret hin
  show Jd G 0 0 nx ce 0 [(0, .ref this), (1, .int p1), (2, .int p2), (3, .int p3)] []
  refine j_aload_n (q := 0) (pc' := 1) C dX12_doesHold_0 rfl rfl rfl ?_
  refine j_aload_n (q := 0) (pc' := 2) C dX12_doesHold_1 rfl rfl rfl ?_
  refine j_iload_n (q := 3) (pc' := 3) C dX12_doesHold_2 rfl rfl rfl ?_
  obtain ⟨zz1, hzz1, hr⟩ := ob hr
  obtain ⟨zx2, hzx2, hr⟩ := ob hr
  obtain ⟨fhzz1, hzz1⟩ := rcv_sp hzz1
  refine j_callV (ci := 9) (As := [.int p3]) (rest := [.ref this]) (st1 := [.long zx2, .ref this]) (pc' := 6) C ⟨wm_1706, wm_68⟩ rfl hzz1 (c_X12_openAt (nx := nx) hzx2) yw_X12_openAt wm_1704 rfl rfl (Nat.le_of_ble_eq_true rfl) ⟨by decide, by decide⟩ dX12_doesHold_3 rfl rfl ?_
  refine j_aload_n (q := 0) (pc' := 7) C dX12_doesHold_6 rfl rfl rfl ?_
  refine j_iload_n (q := 1) (pc' := 8) C dX12_doesHold_7 rfl rfl rfl ?_
  refine j_iload_n (q := 2) (pc' := 9) C dX12_doesHold_8 rfl rfl rfl ?_
  obtain ⟨zz3, hzz3, hr⟩ := ob hr
  obtain ⟨zx4, hzx4, hr⟩ := ob hr
  obtain ⟨fhzz3, hzz3⟩ := rcv_sp hzz3
  refine j_callV (ci := 9) (As := [.int p1, .int p2]) (rest := [.long zx2, .ref this]) (st1 := [.long zx4, .long zx2, .ref this]) (pc' := 12) C ⟨wm_1726, wm_73⟩ rfl hzz3 (c_X12_cubeSet (nx := nx) hzx4) yw_X12_cubeSet wm_1724 rfl rfl (Nat.le_of_ble_eq_true rfl) ⟨by decide, by decide⟩ dX12_doesHold_9 rfl rfl ?_
  obtain ⟨zz5, hzz5, hr⟩ := ob hr
  obtain ⟨zx6, hzx6, hr⟩ := ob hr
  obtain ⟨fhzz5, hzz5⟩ := rcv_sp hzz5
  refine j_callV (ci := 9) (As := [.long zx2, .long zx4]) (rest := []) (st1 := [.int zx6]) (pc' := 15) C ⟨wm_1797, wm_90⟩ rfl hzz5 (c_X12_isClosed (nx := nx) hzx6) yw_X12_isClosed wm_1795 rfl rfl (Nat.le_of_ble_eq_true rfl) ⟨by decide, by decide⟩ dX12_doesHold_12 rfl rfl ?_
  obtain ⟨zx7, hzx7, hr⟩ := ob hr
  obtain ⟨rfl, nhzx7⟩ := bz_sp hzx7
  have hr := Option.some.inj hr
  subst hr
  exact j_zret C hq hret nhzx7 dX12_doesHold_15
def m_X12_isAsked (ce : Ce) (this : Nat) (p1 : Int32) (p2 : Int32) (p3 : Int32) : Option (Int32 × Ce) :=
  (gA ce 9 0 this).bind fun zx1 =>
  (aI ce zx1 (12 : Int32)).bind fun zx2 =>
  (sI ce zx1 (12 : Int32) (zx2 + (1 : Int32))).bind fun zc3 =>
  (rcv zc3 9 this).bind fun zz4 =>
  (m_X12_doesHold zc3 this p1 p2 p3).bind fun zx5 =>
  (bz zx5).bind fun zx6 =>
  some (zx5, zc3)
set_option maxRecDepth 100000 in
set_option maxHeartbeats 4000000 in
theorem c_X12_isAsked {nx : Nat} {ce : Ce} {this : Nat} {p1 : Int32} {p2 : Int32} {p3 : Int32} {q : Int32 × Ce} (hr : m_X12_isAsked ce this p1 p2 p3 = some q) : Ct yX12_isAsked cX12_isAsked 4 (some .boolean) 6 133 0 0 [.ref this, .int p1, .int p2, .int p3] nx ce (some (.int q.1)) q.2 := by
  unfold m_X12_isAsked at hr
  refine ct_of (by decide) (Nat.le_of_ble_eq_true rfl) ?_
  intro G C hq hret hin
  show Jd G 0 0 nx ce 0 [(0, .ref this), (1, .int p1), (2, .int p2), (3, .int p3)] []
  refine j_aload_n (q := 0) (pc' := 1) C dX12_isAsked_0 rfl rfl rfl ?_
  obtain ⟨zx1, hzx1, hr⟩ := ob hr
  refine j_getA (pc' := 4) C dX12_isAsked_1 fl_X12_8 hzx1 rfl ?_
  refine j_bipush (v := 12) (pc' := 6) C dX12_isAsked_4 kB_12 rfl ?_
  refine j_dup2 (pc' := 7) C dX12_isAsked_6 rfl rfl rfl ?_
  obtain ⟨zx2, hzx2, hr⟩ := ob hr
  refine j_iald (pc' := 8) C dX12_isAsked_7 hzx2 rfl ?_
  refine j_iconst (v := 1) (pc' := 9) C dX12_isAsked_8 kI_1 rfl ?_
  refine j_iadd (pc' := 10) C dX12_isAsked_9 rfl ?_
  obtain ⟨zc3, hzc3, hr⟩ := ob hr
  refine j_iast (pc' := 11) C dX12_isAsked_10 hzc3 rfl ?_
  refine j_aload_n (q := 0) (pc' := 12) C dX12_isAsked_11 rfl rfl rfl ?_
  refine j_iload_n (q := 1) (pc' := 13) C dX12_isAsked_12 rfl rfl rfl ?_
  refine j_iload_n (q := 2) (pc' := 14) C dX12_isAsked_13 rfl rfl rfl ?_
  refine j_iload_n (q := 3) (pc' := 15) C dX12_isAsked_14 rfl rfl rfl ?_
  obtain ⟨zz4, hzz4, hr⟩ := ob hr
  obtain ⟨zx5, hzx5, hr⟩ := ob hr
  obtain ⟨fhzz4, hzz4⟩ := rcv_sp hzz4
  refine j_callV (ci := 9) (As := [.int p1, .int p2, .int p3]) (rest := []) (st1 := [.int zx5]) (pc' := 18) C ⟨wm_1793, wm_89⟩ rfl hzz4 (c_X12_doesHold (nx := nx) hzx5) yw_X12_doesHold wm_1791 rfl rfl (Nat.le_of_ble_eq_true rfl) ⟨by decide, by decide⟩ dX12_isAsked_15 rfl rfl ?_
  obtain ⟨zx6, hzx6, hr⟩ := ob hr
  obtain ⟨rfl, nhzx6⟩ := bz_sp hzx6
  have hr := Option.some.inj hr
  subst hr
  exact j_zret C hq hret nhzx6 dX12_isAsked_18
def m_X12_outCube (ce : Ce) (this : Nat) (p1 : Int32) : Option (Unit × Ce) :=
  (it (fun (zs1 : Int32 × Ce) =>
    (gA zs1.2 9 0 this).bind fun zx7 =>
    (aI zs1.2 zx7 (17 : Int32)).bind fun zx8 =>
    if (zx8 - (1 : Int32)) ≤ zs1.1 then
      some (Sum.inr ((), zs1.2))
    else
      (gA zs1.2 9 0 this).bind fun zx9 =>
      (gA zs1.2 9 0 this).bind fun zx10 =>
      (aI zs1.2 zx10 (((104 : Int32) + zs1.1) + (1 : Int32))).bind fun zx11 =>
      (sI zs1.2 zx9 ((104 : Int32) + zs1.1) zx11).bind fun zc12 =>
      some (Sum.inl ((zs1.1 + (1 : Int32)), zc12))
  ) FU (p1, ce)).bind fun (zo2 : Unit × Ce) =>
  (gA zo2.2 9 0 this).bind fun zx4 =>
  (aI zo2.2 zx4 (17 : Int32)).bind fun zx5 =>
  (sI zo2.2 zx4 (17 : Int32) (zx5 - (1 : Int32))).bind fun zc6 =>
  some ((), zc6)
set_option maxRecDepth 100000 in
set_option maxHeartbeats 4000000 in
theorem c_X12_outCube {nx : Nat} {ce : Ce} {this : Nat} {p1 : Int32} {q : Unit × Ce} (hr : m_X12_outCube ce this p1 = some q) : Ct yX12_outCube cX12_outCube 3 none 0 0 0 0 [.ref this, .int p1] nx ce none q.2 := by
  unfold m_X12_outCube at hr
  refine ct_of (by decide) (Nat.le_of_ble_eq_true rfl) ?_
  intro G C hq hret hin
  show Jd G 0 0 nx ce 0 [(0, .ref this), (1, .int p1)] []
  refine j_iload_n (q := 1) (pc' := 1) C dX12_outCube_0 rfl rfl rfl ?_
  refine j_istore_n (lv' := [(2, .int p1), (0, .ref this), (1, .int p1)]) (pc' := 2) C dX12_outCube_1 rfl (by decide) rfl rfl ?_
  obtain ⟨zo2, hzo2, rzo2⟩ := ob hr
  have kzo2 : Jd G 0 0 nx zo2.2 41 [(0, .ref this)] [] := by
    have hr := rzo2
    refine j_aload_n (q := 0) (pc' := 42) C dX12_outCube_41 rfl rfl rfl ?_
    obtain ⟨zx4, hzx4, hr⟩ := ob hr
    refine j_getA (pc' := 45) C dX12_outCube_42 fl_X12_8 hzx4 rfl ?_
    refine j_bipush (v := 17) (pc' := 47) C dX12_outCube_45 kB_17 rfl ?_
    refine j_dup2 (pc' := 48) C dX12_outCube_47 rfl rfl rfl ?_
    obtain ⟨zx5, hzx5, hr⟩ := ob hr
    refine j_iald (pc' := 49) C dX12_outCube_48 hzx5 rfl ?_
    refine j_iconst (v := 1) (pc' := 50) C dX12_outCube_49 kI_1 rfl ?_
    refine j_isub (pc' := 51) C dX12_outCube_50 rfl ?_
    obtain ⟨zc6, hzc6, hr⟩ := ob hr
    refine j_iast (pc' := 52) C dX12_outCube_51 hzc6 rfl ?_
    have hr := Option.some.inj hr
    subst hr
    exact j_vret C hq hret dX12_outCube_52
  refine j_lv (lv' := [(0, .ref this), (2, .int p1)]) [1, 0] rfl ?_
  refine it_J (J := (fun (zs1 : Int32 × Ce) => Jd G 0 0 nx zs1.2 2 [(0, .ref this), (2, .int zs1.1)] [])) ?_ hzo2
  clear hzo2
  intro zs1 zr3 hr izs1 ezs1
  refine j_iload_n (q := 1) (pc' := 3) C dX12_outCube_2 rfl rfl rfl ?_
  refine j_aload_n (q := 0) (pc' := 4) C dX12_outCube_3 rfl rfl rfl ?_
  obtain ⟨zx7, hzx7, hr⟩ := ob hr
  refine j_getA (pc' := 7) C dX12_outCube_4 fl_X12_8 hzx7 rfl ?_
  refine j_bipush (v := 17) (pc' := 9) C dX12_outCube_7 kB_17 rfl ?_
  obtain ⟨zx8, hzx8, hr⟩ := ob hr
  refine j_iald (pc' := 10) C dX12_outCube_9 hzx8 rfl ?_
  refine j_iconst (v := 1) (pc' := 11) C dX12_outCube_10 kI_1 rfl ?_
  refine j_isub (pc' := 12) C dX12_outCube_11 rfl ?_
  refine j_ic_ge (tgt := 41) (pc' := 15) C dX12_outCube_12 rfl rfl (fun hc => ?_) (fun hc => ?_)
  · have hr := ifT hc hr
    clear hc
    have hr := ezs1 _ (Option.some.inj hr).symm
    subst hr
    exact j_lv [0] rfl kzo2
  · have hr := ifF hc hr
    clear hc
    refine j_aload_n (q := 0) (pc' := 16) C dX12_outCube_15 rfl rfl rfl ?_
    obtain ⟨zx9, hzx9, hr⟩ := ob hr
    refine j_getA (pc' := 19) C dX12_outCube_16 fl_X12_8 hzx9 rfl ?_
    refine j_bipush (v := 104) (pc' := 21) C dX12_outCube_19 kB_104 rfl ?_
    refine j_iload_n (q := 1) (pc' := 22) C dX12_outCube_21 rfl rfl rfl ?_
    refine j_iadd (pc' := 23) C dX12_outCube_22 rfl ?_
    refine j_aload_n (q := 0) (pc' := 24) C dX12_outCube_23 rfl rfl rfl ?_
    obtain ⟨zx10, hzx10, hr⟩ := ob hr
    refine j_getA (pc' := 27) C dX12_outCube_24 fl_X12_8 hzx10 rfl ?_
    refine j_bipush (v := 104) (pc' := 29) C dX12_outCube_27 kB_104 rfl ?_
    refine j_iload_n (q := 1) (pc' := 30) C dX12_outCube_29 rfl rfl rfl ?_
    refine j_iadd (pc' := 31) C dX12_outCube_30 rfl ?_
    refine j_iconst (v := 1) (pc' := 32) C dX12_outCube_31 kI_1 rfl ?_
    refine j_iadd (pc' := 33) C dX12_outCube_32 rfl ?_
    obtain ⟨zx11, hzx11, hr⟩ := ob hr
    refine j_iald (pc' := 34) C dX12_outCube_33 hzx11 rfl ?_
    obtain ⟨zc12, hzc12, hr⟩ := ob hr
    refine j_iast (pc' := 35) C dX12_outCube_34 hzc12 rfl ?_
    refine j_iinc (q := 1) (v := 1) (lv' := [(2, .int (zs1.1 + (1 : Int32))), (0, .ref this)]) (pc' := 38) C dX12_outCube_35 rfl kI_1 (by decide) rfl rfl ?_
    refine j_goto (tgt := 2) C dX12_outCube_38 rfl ?_
    have hr := izs1 ((zs1.1 + (1 : Int32)), zc12) (Option.some.inj hr).symm
    exact j_lv [1, 0] rfl hr
def m_X12_liesIn (p0 : Int32) (p1 : Int32) (p2 : Int32) (p3 : Int32) : Option (Int32) :=
  if (p2 &&& (p0 ^^^ (-1 : Int32))) = 0 then
    if (p1 &&& p2) = p3 then
      some (1 : Int32)
    else
      some (0 : Int32)
  else
    some (0 : Int32)
set_option maxRecDepth 100000 in
set_option maxHeartbeats 4000000 in
theorem c_X12_liesIn {nx : Nat} {ce : Ce} {p0 : Int32} {p1 : Int32} {p2 : Int32} {p3 : Int32} {q : Int32} (hr : m_X12_liesIn p0 p1 p2 p3 = some q) : Ct yX12_liesIn cX12_liesIn 4 (some .boolean) 0 0 0 0 [.int p0, .int p1, .int p2, .int p3] nx ce (some (.int q)) ce := by
  unfold m_X12_liesIn at hr
  refine ct_of (by decide) (Nat.le_of_ble_eq_true rfl) ?_
  intro G C hq hret hin
  show Jd G 0 0 nx ce 0 [(0, .int p0), (1, .int p1), (2, .int p2), (3, .int p3)] []
  refine j_iload_n (q := 2) (pc' := 1) C dX12_liesIn_0 rfl rfl rfl ?_
  refine j_iload_n (q := 0) (pc' := 2) C dX12_liesIn_1 rfl rfl rfl ?_
  refine j_iconst (v := -1) (pc' := 3) C dX12_liesIn_2 kI_m1 rfl ?_
  refine j_ixor (pc' := 4) C dX12_liesIn_3 rfl ?_
  refine j_iand (pc' := 5) C dX12_liesIn_4 rfl ?_
  refine j_if_ne (tgt := 19) (pc' := 8) C dX12_liesIn_5 rfl rfl (fun hc => ?_) (fun hc => ?_)
  · have hr := ifF hc hr
    clear hc
    refine j_iconst (v := 0) (pc' := 20) C dX12_liesIn_19 kI_0 rfl ?_
    have hr := Option.some.inj hr
    subst hr
    exact j_zret C hq hret rfl dX12_liesIn_20
  · have hr := ifT hc hr
    clear hc
    refine j_iload_n (q := 1) (pc' := 9) C dX12_liesIn_8 rfl rfl rfl ?_
    refine j_iload_n (q := 2) (pc' := 10) C dX12_liesIn_9 rfl rfl rfl ?_
    refine j_iand (pc' := 11) C dX12_liesIn_10 rfl ?_
    refine j_iload_n (q := 3) (pc' := 12) C dX12_liesIn_11 rfl rfl rfl ?_
    refine j_ic_ne (tgt := 19) (pc' := 15) C dX12_liesIn_12 rfl rfl (fun hc => ?_) (fun hc => ?_)
    · have hr := ifF hc hr
      clear hc
      refine j_iconst (v := 0) (pc' := 20) C dX12_liesIn_19 kI_0 rfl ?_
      have hr := Option.some.inj hr
      subst hr
      exact j_zret C hq hret rfl dX12_liesIn_20
    · have hr := ifT hc hr
      clear hc
      refine j_iconst (v := 1) (pc' := 16) C dX12_liesIn_15 kI_1 rfl ?_
      refine j_goto (tgt := 20) C dX12_liesIn_16 rfl ?_
      have hr := Option.some.inj hr
      subst hr
      exact j_zret C hq hret rfl dX12_liesIn_20
def m_X12_addCube (ce : Ce) (this : Nat) (p1 : Int32) (p2 : Int32) (p3 : Int32) : Option (Unit × Ce) :=
  (it (fun (zs1 : Int32 × Ce) =>
    (gA zs1.2 9 0 this).bind fun zx11 =>
    (aI zs1.2 zx11 (17 : Int32)).bind fun zx12 =>
    if zx12 ≤ zs1.1 then
      some (Sum.inr ((), zs1.2))
    else
      (rcv zs1.2 9 this).bind fun zz13 =>
      (m_X12_frameOf zs1.2 this zs1.1).bind fun zx14 =>
      if p3 < zx14 then
        some (Sum.inl ((zs1.1 + (1 : Int32)), zs1.2))
      else
        (rcv zs1.2 9 this).bind fun zz15 =>
        (m_X12_maskOf zs1.2 this zs1.1).bind fun zx16 =>
        (rcv zs1.2 9 this).bind fun zz17 =>
        (m_X12_bitsOf zs1.2 this zs1.1).bind fun zx18 =>
        (m_X12_liesIn zx16 zx18 p1 p2).bind fun zx19 =>
        if zx19 = 0 then
          some (Sum.inl ((zs1.1 + (1 : Int32)), zs1.2))
        else
          (rcv zs1.2 9 this).bind fun zz20 =>
          (m_X12_outCube zs1.2 this zs1.1).bind fun zq21 =>
          some (Sum.inl (zs1.1, zq21.2))
  ) FU ((0 : Int32), ce)).bind fun (zo2 : Unit × Ce) =>
  (gA zo2.2 9 0 this).bind fun zx4 =>
  (gA zo2.2 9 0 this).bind fun zx5 =>
  (aI zo2.2 zx5 (17 : Int32)).bind fun zx6 =>
  (sI zo2.2 zx4 ((104 : Int32) + zx6) (((p3 <<< ((12 : Int32) &&& 31)) ||| (p1 <<< ((6 : Int32) &&& 31))) ||| p2)).bind fun zc7 =>
  (gA zc7 9 0 this).bind fun zx8 =>
  (aI zc7 zx8 (17 : Int32)).bind fun zx9 =>
  (sI zc7 zx8 (17 : Int32) (zx9 + (1 : Int32))).bind fun zc10 =>
  some ((), zc10)
set_option maxRecDepth 100000 in
set_option maxHeartbeats 4000000 in
theorem c_X12_addCube {nx : Nat} {ce : Ce} {this : Nat} {p1 : Int32} {p2 : Int32} {p3 : Int32} {q : Unit × Ce} (hr : m_X12_addCube ce this p1 p2 p3 = some q) : Ct yX12_addCube cX12_addCube 5 none 1 23 0 0 [.ref this, .int p1, .int p2, .int p3] nx ce none q.2 := by
  unfold m_X12_addCube at hr
  refine ct_of (by decide) (Nat.le_of_ble_eq_true rfl) ?_
  intro G C hq hret hin
  show Jd G 0 0 nx ce 0 [(0, .ref this), (1, .int p1), (2, .int p2), (3, .int p3)] []
  refine j_iconst (v := 0) (pc' := 1) C dX12_addCube_0 kI_0 rfl ?_
  refine j_istore (lv' := [(4, .int (0 : Int32)), (0, .ref this), (1, .int p1), (2, .int p2), (3, .int p3)]) (pc' := 3) C dX12_addCube_1 (by decide) rfl rfl ?_
  obtain ⟨zo2, hzo2, rzo2⟩ := ob hr
  have kzo2 : Jd G 0 0 nx zo2.2 60 [(0, .ref this), (1, .int p1), (2, .int p2), (3, .int p3)] [] := by
    have hr := rzo2
    refine j_aload_n (q := 0) (pc' := 61) C dX12_addCube_60 rfl rfl rfl ?_
    obtain ⟨zx4, hzx4, hr⟩ := ob hr
    refine j_getA (pc' := 64) C dX12_addCube_61 fl_X12_8 hzx4 rfl ?_
    refine j_bipush (v := 104) (pc' := 66) C dX12_addCube_64 kB_104 rfl ?_
    refine j_aload_n (q := 0) (pc' := 67) C dX12_addCube_66 rfl rfl rfl ?_
    obtain ⟨zx5, hzx5, hr⟩ := ob hr
    refine j_getA (pc' := 70) C dX12_addCube_67 fl_X12_8 hzx5 rfl ?_
    refine j_bipush (v := 17) (pc' := 72) C dX12_addCube_70 kB_17 rfl ?_
    obtain ⟨zx6, hzx6, hr⟩ := ob hr
    refine j_iald (pc' := 73) C dX12_addCube_72 hzx6 rfl ?_
    refine j_iadd (pc' := 74) C dX12_addCube_73 rfl ?_
    refine j_iload_n (q := 3) (pc' := 75) C dX12_addCube_74 rfl rfl rfl ?_
    refine j_bipush (v := 12) (pc' := 77) C dX12_addCube_75 kB_12 rfl ?_
    refine j_ishl (pc' := 78) C dX12_addCube_77 rfl ?_
    refine j_iload_n (q := 1) (pc' := 79) C dX12_addCube_78 rfl rfl rfl ?_
    refine j_bipush (v := 6) (pc' := 81) C dX12_addCube_79 kB_6 rfl ?_
    refine j_ishl (pc' := 82) C dX12_addCube_81 rfl ?_
    refine j_ior (pc' := 83) C dX12_addCube_82 rfl ?_
    refine j_iload_n (q := 2) (pc' := 84) C dX12_addCube_83 rfl rfl rfl ?_
    refine j_ior (pc' := 85) C dX12_addCube_84 rfl ?_
    obtain ⟨zc7, hzc7, hr⟩ := ob hr
    refine j_iast (pc' := 86) C dX12_addCube_85 hzc7 rfl ?_
    refine j_aload_n (q := 0) (pc' := 87) C dX12_addCube_86 rfl rfl rfl ?_
    obtain ⟨zx8, hzx8, hr⟩ := ob hr
    refine j_getA (pc' := 90) C dX12_addCube_87 fl_X12_8 hzx8 rfl ?_
    refine j_bipush (v := 17) (pc' := 92) C dX12_addCube_90 kB_17 rfl ?_
    refine j_dup2 (pc' := 93) C dX12_addCube_92 rfl rfl rfl ?_
    obtain ⟨zx9, hzx9, hr⟩ := ob hr
    refine j_iald (pc' := 94) C dX12_addCube_93 hzx9 rfl ?_
    refine j_iconst (v := 1) (pc' := 95) C dX12_addCube_94 kI_1 rfl ?_
    refine j_iadd (pc' := 96) C dX12_addCube_95 rfl ?_
    obtain ⟨zc10, hzc10, hr⟩ := ob hr
    refine j_iast (pc' := 97) C dX12_addCube_96 hzc10 rfl ?_
    have hr := Option.some.inj hr
    subst hr
    exact j_vret C hq hret dX12_addCube_97
  refine j_lv (lv' := [(0, .ref this), (1, .int p1), (2, .int p2), (3, .int p3), (4, .int (0 : Int32))]) [1, 2, 3, 4, 0] rfl ?_
  refine it_J (J := (fun (zs1 : Int32 × Ce) => Jd G 0 0 nx zs1.2 3 [(0, .ref this), (1, .int p1), (2, .int p2), (3, .int p3), (4, .int zs1.1)] [])) ?_ hzo2
  clear hzo2
  intro zs1 zr3 hr izs1 ezs1
  refine j_iload (q := 4) (pc' := 5) C dX12_addCube_3 rfl rfl ?_
  refine j_aload_n (q := 0) (pc' := 6) C dX12_addCube_5 rfl rfl rfl ?_
  obtain ⟨zx11, hzx11, hr⟩ := ob hr
  refine j_getA (pc' := 9) C dX12_addCube_6 fl_X12_8 hzx11 rfl ?_
  refine j_bipush (v := 17) (pc' := 11) C dX12_addCube_9 kB_17 rfl ?_
  obtain ⟨zx12, hzx12, hr⟩ := ob hr
  refine j_iald (pc' := 12) C dX12_addCube_11 hzx12 rfl ?_
  refine j_ic_ge (tgt := 60) (pc' := 15) C dX12_addCube_12 rfl rfl (fun hc => ?_) (fun hc => ?_)
  · have hr := ifT hc hr
    clear hc
    have hr := ezs1 _ (Option.some.inj hr).symm
    subst hr
    exact j_lv [0, 1, 2, 3] rfl kzo2
  · have hr := ifF hc hr
    clear hc
    refine j_aload_n (q := 0) (pc' := 16) C dX12_addCube_15 rfl rfl rfl ?_
    refine j_iload (q := 4) (pc' := 18) C dX12_addCube_16 rfl rfl ?_
    obtain ⟨zz13, hzz13, hr⟩ := ob hr
    obtain ⟨zx14, hzx14, hr⟩ := ob hr
    obtain ⟨fhzz13, hzz13⟩ := rcv_sp hzz13
    refine j_callV (ci := 9) (As := [.int zs1.1]) (rest := []) (st1 := [.int zx14]) (pc' := 21) C ⟨wm_1665, wm_61⟩ rfl hzz13 (c_X12_frameOf (nx := nx) hzx14) yw_X12_frameOf wm_1663 rfl rfl (Nat.le_of_ble_eq_true rfl) ⟨by decide, by decide⟩ dX12_addCube_18 rfl rfl ?_
    refine j_iload_n (q := 3) (pc' := 22) C dX12_addCube_21 rfl rfl rfl ?_
    refine j_ic_gt (tgt := 54) (pc' := 25) C dX12_addCube_22 rfl rfl (fun hc => ?_) (fun hc => ?_)
    · have hr := ifT hc hr
      clear hc
      refine j_iinc (q := 4) (v := 1) (lv' := [(4, .int (zs1.1 + (1 : Int32))), (0, .ref this), (1, .int p1), (2, .int p2), (3, .int p3)]) (pc' := 57) C dX12_addCube_54 rfl kI_1 (by decide) rfl rfl ?_
      refine j_goto (tgt := 3) C dX12_addCube_57 rfl ?_
      have hr := izs1 ((zs1.1 + (1 : Int32)), zs1.2) (Option.some.inj hr).symm
      exact j_lv [1, 2, 3, 4, 0] rfl hr
    · have hr := ifF hc hr
      clear hc
      refine j_aload_n (q := 0) (pc' := 26) C dX12_addCube_25 rfl rfl rfl ?_
      refine j_iload (q := 4) (pc' := 28) C dX12_addCube_26 rfl rfl ?_
      obtain ⟨zz15, hzz15, hr⟩ := ob hr
      obtain ⟨zx16, hzx16, hr⟩ := ob hr
      obtain ⟨fhzz15, hzz15⟩ := rcv_sp hzz15
      refine j_callV (ci := 9) (As := [.int zs1.1]) (rest := []) (st1 := [.int zx16]) (pc' := 31) C ⟨wm_1718, wm_71⟩ rfl hzz15 (c_X12_maskOf (nx := nx) hzx16) yw_X12_maskOf wm_1716 rfl rfl (Nat.le_of_ble_eq_true rfl) ⟨by decide, by decide⟩ dX12_addCube_28 rfl rfl ?_
      refine j_aload_n (q := 0) (pc' := 32) C dX12_addCube_31 rfl rfl rfl ?_
      refine j_iload (q := 4) (pc' := 34) C dX12_addCube_32 rfl rfl ?_
      obtain ⟨zz17, hzz17, hr⟩ := ob hr
      obtain ⟨zx18, hzx18, hr⟩ := ob hr
      obtain ⟨fhzz17, hzz17⟩ := rcv_sp hzz17
      refine j_callV (ci := 9) (As := [.int zs1.1]) (rest := [.int zx16]) (st1 := [.int zx18, .int zx16]) (pc' := 37) C ⟨wm_1722, wm_72⟩ rfl hzz17 (c_X12_bitsOf (nx := nx) hzx18) yw_X12_bitsOf wm_1720 rfl rfl (Nat.le_of_ble_eq_true rfl) ⟨by decide, by decide⟩ dX12_addCube_34 rfl rfl ?_
      refine j_iload_n (q := 1) (pc' := 38) C dX12_addCube_37 rfl rfl rfl ?_
      refine j_iload_n (q := 2) (pc' := 39) C dX12_addCube_38 rfl rfl rfl ?_
      obtain ⟨zx19, hzx19, hr⟩ := ob hr
      refine j_callS (As := [.int zx16, .int zx18, .int p1, .int p2]) (rest := []) (st1 := [.int zx19]) (pc' := 42) C wm_1804 (c_X12_liesIn (nx := nx) (ce := zs1.2) hzx19) yw_X12_liesIn wm_1803 rfl rfl (Nat.le_of_ble_eq_true rfl) ⟨by decide, by decide⟩ dX12_addCube_39 rfl rfl ?_
      refine j_if_eq (tgt := 54) (pc' := 45) C dX12_addCube_42 rfl rfl (fun hc => ?_) (fun hc => ?_)
      · have hr := ifT hc hr
        clear hc
        refine j_iinc (q := 4) (v := 1) (lv' := [(4, .int (zs1.1 + (1 : Int32))), (0, .ref this), (1, .int p1), (2, .int p2), (3, .int p3)]) (pc' := 57) C dX12_addCube_54 rfl kI_1 (by decide) rfl rfl ?_
        refine j_goto (tgt := 3) C dX12_addCube_57 rfl ?_
        have hr := izs1 ((zs1.1 + (1 : Int32)), zs1.2) (Option.some.inj hr).symm
        exact j_lv [1, 2, 3, 4, 0] rfl hr
      · have hr := ifF hc hr
        clear hc
        refine j_aload_n (q := 0) (pc' := 46) C dX12_addCube_45 rfl rfl rfl ?_
        refine j_iload (q := 4) (pc' := 48) C dX12_addCube_46 rfl rfl ?_
        obtain ⟨zz20, hzz20, hr⟩ := ob hr
        obtain ⟨zq21, hzq21, hr⟩ := ob hr
        obtain ⟨fhzz20, hzz20⟩ := rcv_sp hzz20
        refine j_callV (ci := 9) (As := [.int zs1.1]) (rest := []) (st1 := []) (pc' := 51) C ⟨wm_1808, wm_92⟩ rfl hzz20 (c_X12_outCube (nx := nx) hzq21) yw_X12_outCube wm_1806 rfl rfl (Nat.le_of_ble_eq_true rfl) ⟨by decide, by decide⟩ dX12_addCube_48 rfl rfl ?_
        refine j_goto (tgt := 3) C dX12_addCube_51 rfl ?_
        have hr := izs1 (zs1.1, zq21.2) (Option.some.inj hr).symm
        exact j_lv [0, 1, 2, 3, 4] rfl hr
def m_X12_manyOf (ce : Ce) (this : Nat) (p1 : Int32) : Option (Int32) :=
  (it (fun (zs1 : Int32 × Int32) =>
    (gA ce 9 0 this).bind fun zx4 =>
    (aI ce zx4 (17 : Int32)).bind fun zx5 =>
    if zx5 ≤ zs1.2 then
      some (Sum.inr zs1.1)
    else
      (rcv ce 9 this).bind fun zz6 =>
      (m_X12_frameOf ce this zs1.2).bind fun zx7 =>
      if zx7 = p1 then
        some (Sum.inl ((zs1.1 + (1 : Int32)), (zs1.2 + (1 : Int32))))
      else
        some (Sum.inl ((zs1.1 + (0 : Int32)), (zs1.2 + (1 : Int32))))
  ) FU ((0 : Int32), (0 : Int32))).bind fun (zo2 : Int32) =>
  some zo2
set_option maxRecDepth 100000 in
set_option maxHeartbeats 4000000 in
theorem c_X12_manyOf {nx : Nat} {ce : Ce} {this : Nat} {p1 : Int32} {q : Int32} (hr : m_X12_manyOf ce this p1 = some q) : Ct yX12_manyOf cX12_manyOf 4 (some .int) 1 21 0 0 [.ref this, .int p1] nx ce (some (.int q)) ce := by
  unfold m_X12_manyOf at hr
  refine ct_of (by decide) (Nat.le_of_ble_eq_true rfl) ?_
  intro G C hq hret hin
  show Jd G 0 0 nx ce 0 [(0, .ref this), (1, .int p1)] []
  refine j_iconst (v := 0) (pc' := 1) C dX12_manyOf_0 kI_0 rfl ?_
  refine j_istore_n (lv' := [(2, .int (0 : Int32)), (0, .ref this), (1, .int p1)]) (pc' := 2) C dX12_manyOf_1 rfl (by decide) rfl rfl ?_
  refine j_iconst (v := 0) (pc' := 3) C dX12_manyOf_2 kI_0 rfl ?_
  refine j_istore_n (lv' := [(3, .int (0 : Int32)), (2, .int (0 : Int32)), (0, .ref this), (1, .int p1)]) (pc' := 4) C dX12_manyOf_3 rfl (by decide) rfl rfl ?_
  obtain ⟨zo2, hzo2, rzo2⟩ := ob hr
  have kzo2 : Jd G 0 0 nx ce 38 [(2, .int zo2)] [] := by
    have hr := rzo2
    refine j_iload_n (q := 0) (pc' := 39) C dX12_manyOf_38 rfl rfl rfl ?_
    have hr := Option.some.inj hr
    subst hr
    exact j_iret C hq hret dX12_manyOf_39
  refine j_lv (lv' := [(0, .ref this), (1, .int p1), (2, .int (0 : Int32)), (3, .int (0 : Int32))]) [2, 3, 1, 0] rfl ?_
  refine it_J (J := (fun (zs1 : Int32 × Int32) => Jd G 0 0 nx ce 4 [(0, .ref this), (1, .int p1), (2, .int zs1.1), (3, .int zs1.2)] [])) ?_ hzo2
  clear hzo2
  intro zs1 zr3 hr izs1 ezs1
  refine j_iload_n (q := 3) (pc' := 5) C dX12_manyOf_4 rfl rfl rfl ?_
  refine j_aload_n (q := 0) (pc' := 6) C dX12_manyOf_5 rfl rfl rfl ?_
  obtain ⟨zx4, hzx4, hr⟩ := ob hr
  refine j_getA (pc' := 9) C dX12_manyOf_6 fl_X12_8 hzx4 rfl ?_
  refine j_bipush (v := 17) (pc' := 11) C dX12_manyOf_9 kB_17 rfl ?_
  obtain ⟨zx5, hzx5, hr⟩ := ob hr
  refine j_iald (pc' := 12) C dX12_manyOf_11 hzx5 rfl ?_
  refine j_ic_ge (tgt := 38) (pc' := 15) C dX12_manyOf_12 rfl rfl (fun hc => ?_) (fun hc => ?_)
  · have hr := ifT hc hr
    clear hc
    have hr := ezs1 _ (Option.some.inj hr).symm
    subst hr
    exact j_lv [2] rfl kzo2
  · have hr := ifF hc hr
    clear hc
    refine j_iload_n (q := 2) (pc' := 16) C dX12_manyOf_15 rfl rfl rfl ?_
    refine j_aload_n (q := 0) (pc' := 17) C dX12_manyOf_16 rfl rfl rfl ?_
    refine j_iload_n (q := 3) (pc' := 18) C dX12_manyOf_17 rfl rfl rfl ?_
    obtain ⟨zz6, hzz6, hr⟩ := ob hr
    obtain ⟨zx7, hzx7, hr⟩ := ob hr
    obtain ⟨fhzz6, hzz6⟩ := rcv_sp hzz6
    refine j_callV (ci := 9) (As := [.int zs1.2]) (rest := [.int zs1.1]) (st1 := [.int zx7, .int zs1.1]) (pc' := 21) C ⟨wm_1665, wm_61⟩ rfl hzz6 (c_X12_frameOf (nx := nx) hzx7) yw_X12_frameOf wm_1663 rfl rfl (Nat.le_of_ble_eq_true rfl) ⟨by decide, by decide⟩ dX12_manyOf_18 rfl rfl ?_
    refine j_iload_n (q := 1) (pc' := 22) C dX12_manyOf_21 rfl rfl rfl ?_
    refine j_ic_ne (tgt := 29) (pc' := 25) C dX12_manyOf_22 rfl rfl (fun hc => ?_) (fun hc => ?_)
    · have hr := ifF hc hr
      clear hc
      refine j_iconst (v := 0) (pc' := 30) C dX12_manyOf_29 kI_0 rfl ?_
      refine j_iadd (pc' := 31) C dX12_manyOf_30 rfl ?_
      refine j_istore_n (lv' := [(2, .int (zs1.1 + (0 : Int32))), (0, .ref this), (1, .int p1), (3, .int zs1.2)]) (pc' := 32) C dX12_manyOf_31 rfl (by decide) rfl rfl ?_
      refine j_iinc (q := 3) (v := 1) (lv' := [(3, .int (zs1.2 + (1 : Int32))), (2, .int (zs1.1 + (0 : Int32))), (0, .ref this), (1, .int p1)]) (pc' := 35) C dX12_manyOf_32 rfl kI_1 (by decide) rfl rfl ?_
      refine j_goto (tgt := 4) C dX12_manyOf_35 rfl ?_
      have hr := izs1 ((zs1.1 + (0 : Int32)), (zs1.2 + (1 : Int32))) (Option.some.inj hr).symm
      exact j_lv [2, 3, 1, 0] rfl hr
    · have hr := ifT hc hr
      clear hc
      refine j_iconst (v := 1) (pc' := 26) C dX12_manyOf_25 kI_1 rfl ?_
      refine j_goto (tgt := 30) C dX12_manyOf_26 rfl ?_
      refine j_iadd (pc' := 31) C dX12_manyOf_30 rfl ?_
      refine j_istore_n (lv' := [(2, .int (zs1.1 + (1 : Int32))), (0, .ref this), (1, .int p1), (3, .int zs1.2)]) (pc' := 32) C dX12_manyOf_31 rfl (by decide) rfl rfl ?_
      refine j_iinc (q := 3) (v := 1) (lv' := [(3, .int (zs1.2 + (1 : Int32))), (2, .int (zs1.1 + (1 : Int32))), (0, .ref this), (1, .int p1)]) (pc' := 35) C dX12_manyOf_32 rfl kI_1 (by decide) rfl rfl ?_
      refine j_goto (tgt := 4) C dX12_manyOf_35 rfl ?_
      have hr := izs1 ((zs1.1 + (1 : Int32)), (zs1.2 + (1 : Int32))) (Option.some.inj hr).symm
      exact j_lv [2, 3, 1, 0] rfl hr
def m_X12_cubeBy (ce : Ce) (this : Nat) (p1 : Int32) (p2 : Int32) : Option (Int32) :=
  (it (fun (zs1 : Int32 × Int32) =>
    (gA ce 9 0 this).bind fun zx4 =>
    (aI ce zx4 (17 : Int32)).bind fun zx5 =>
    if zx5 ≤ zs1.2 then
      some (Sum.inr (Sum.inr ()))
    else
      (rcv ce 9 this).bind fun zz6 =>
      (m_X12_frameOf ce this zs1.2).bind fun zx7 =>
      if zx7 = p1 then
        if zs1.1 = p2 then
          some (Sum.inr (Sum.inl zs1.2))
        else
          some (Sum.inl ((zs1.1 + (1 : Int32)), (zs1.2 + (1 : Int32))))
      else
        some (Sum.inl (zs1.1, (zs1.2 + (1 : Int32))))
  ) FU ((0 : Int32), (0 : Int32))).bind fun (zo2 : Int32 ⊕ Unit) =>
  Sum.elim (fun wzo2 => some wzo2) (fun vzo2 =>
    some (-1 : Int32)
  ) zo2
set_option maxRecDepth 100000 in
set_option maxHeartbeats 4000000 in
theorem c_X12_cubeBy {nx : Nat} {ce : Ce} {this : Nat} {p1 : Int32} {p2 : Int32} {q : Int32} (hr : m_X12_cubeBy ce this p1 p2 = some q) : Ct yX12_cubeBy cX12_cubeBy 5 (some .int) 1 21 0 0 [.ref this, .int p1, .int p2] nx ce (some (.int q)) ce := by
  unfold m_X12_cubeBy at hr
  refine ct_of (by decide) (Nat.le_of_ble_eq_true rfl) ?_
  intro G C hq hret hin
  show Jd G 0 0 nx ce 0 [(0, .ref this), (1, .int p1), (2, .int p2)] []
  refine j_iconst (v := 0) (pc' := 1) C dX12_cubeBy_0 kI_0 rfl ?_
  refine j_istore_n (lv' := [(3, .int (0 : Int32)), (0, .ref this), (1, .int p1), (2, .int p2)]) (pc' := 2) C dX12_cubeBy_1 rfl (by decide) rfl rfl ?_
  refine j_iconst (v := 0) (pc' := 3) C dX12_cubeBy_2 kI_0 rfl ?_
  refine j_istore (lv' := [(4, .int (0 : Int32)), (3, .int (0 : Int32)), (0, .ref this), (1, .int p1), (2, .int p2)]) (pc' := 5) C dX12_cubeBy_3 (by decide) rfl rfl ?_
  obtain ⟨zo2, hzo2, rzo2⟩ := ob hr
  have kzo2 : ∀ vzo2, zo2 = Sum.inr vzo2 → Jd G 0 0 nx ce 47 [] [] := by
    intro vzo2 ezo2
    rw [ezo2] at rzo2
    have hr := elR rzo2
    refine j_iconst (v := -1) (pc' := 48) C dX12_cubeBy_47 kI_m1 rfl ?_
    have hr := Option.some.inj hr
    subst hr
    exact j_iret C hq hret dX12_cubeBy_48
  refine j_lv (lv' := [(0, .ref this), (1, .int p1), (2, .int p2), (3, .int (0 : Int32)), (4, .int (0 : Int32))]) [2, 3, 4, 1, 0] rfl ?_
  refine it_J (J := (fun (zs1 : Int32 × Int32) => Jd G 0 0 nx ce 5 [(0, .ref this), (1, .int p1), (2, .int p2), (3, .int zs1.1), (4, .int zs1.2)] [])) ?_ hzo2
  clear hzo2
  intro zs1 zr3 hr izs1 ezs1
  refine j_iload (q := 4) (pc' := 7) C dX12_cubeBy_5 rfl rfl ?_
  refine j_aload_n (q := 0) (pc' := 8) C dX12_cubeBy_7 rfl rfl rfl ?_
  obtain ⟨zx4, hzx4, hr⟩ := ob hr
  refine j_getA (pc' := 11) C dX12_cubeBy_8 fl_X12_8 hzx4 rfl ?_
  refine j_bipush (v := 17) (pc' := 13) C dX12_cubeBy_11 kB_17 rfl ?_
  obtain ⟨zx5, hzx5, hr⟩ := ob hr
  refine j_iald (pc' := 14) C dX12_cubeBy_13 hzx5 rfl ?_
  refine j_ic_ge (tgt := 47) (pc' := 17) C dX12_cubeBy_14 rfl rfl (fun hc => ?_) (fun hc => ?_)
  · have hr := ifT hc hr
    clear hc
    have hr := ezs1 _ (Option.some.inj hr).symm
    subst hr
    exact j_lv [] rfl (kzo2 _ rfl)
  · have hr := ifF hc hr
    clear hc
    refine j_aload_n (q := 0) (pc' := 18) C dX12_cubeBy_17 rfl rfl rfl ?_
    refine j_iload (q := 4) (pc' := 20) C dX12_cubeBy_18 rfl rfl ?_
    obtain ⟨zz6, hzz6, hr⟩ := ob hr
    obtain ⟨zx7, hzx7, hr⟩ := ob hr
    obtain ⟨fhzz6, hzz6⟩ := rcv_sp hzz6
    refine j_callV (ci := 9) (As := [.int zs1.2]) (rest := []) (st1 := [.int zx7]) (pc' := 23) C ⟨wm_1665, wm_61⟩ rfl hzz6 (c_X12_frameOf (nx := nx) hzx7) yw_X12_frameOf wm_1663 rfl rfl (Nat.le_of_ble_eq_true rfl) ⟨by decide, by decide⟩ dX12_cubeBy_20 rfl rfl ?_
    refine j_iload_n (q := 1) (pc' := 24) C dX12_cubeBy_23 rfl rfl rfl ?_
    refine j_ic_eq (tgt := 30) (pc' := 27) C dX12_cubeBy_24 rfl rfl (fun hc => ?_) (fun hc => ?_)
    · have hr := ifT hc hr
      clear hc
      refine j_iload_n (q := 3) (pc' := 31) C dX12_cubeBy_30 rfl rfl rfl ?_
      refine j_iload_n (q := 2) (pc' := 32) C dX12_cubeBy_31 rfl rfl rfl ?_
      refine j_ic_ne (tgt := 38) (pc' := 35) C dX12_cubeBy_32 rfl rfl (fun hc => ?_) (fun hc => ?_)
      · have hr := ifF hc hr
        clear hc
        refine j_iinc (q := 3) (v := 1) (lv' := [(3, .int (zs1.1 + (1 : Int32))), (0, .ref this), (1, .int p1), (2, .int p2), (4, .int zs1.2)]) (pc' := 41) C dX12_cubeBy_38 rfl kI_1 (by decide) rfl rfl ?_
        refine j_iinc (q := 4) (v := 1) (lv' := [(4, .int (zs1.2 + (1 : Int32))), (3, .int (zs1.1 + (1 : Int32))), (0, .ref this), (1, .int p1), (2, .int p2)]) (pc' := 44) C dX12_cubeBy_41 rfl kI_1 (by decide) rfl rfl ?_
        refine j_goto (tgt := 5) C dX12_cubeBy_44 rfl ?_
        have hr := izs1 ((zs1.1 + (1 : Int32)), (zs1.2 + (1 : Int32))) (Option.some.inj hr).symm
        exact j_lv [2, 3, 4, 1, 0] rfl hr
      · have hr := ifT hc hr
        clear hc
        refine j_iload (q := 4) (pc' := 37) C dX12_cubeBy_35 rfl rfl ?_
        have hr := ezs1 _ (Option.some.inj hr).symm
        subst hr
        have hr := elL rzo2
        have hr := Option.some.inj hr
        subst hr
        exact j_iret C hq hret dX12_cubeBy_37
    · have hr := ifF hc hr
      clear hc
      refine j_goto (tgt := 41) C dX12_cubeBy_27 rfl ?_
      refine j_iinc (q := 4) (v := 1) (lv' := [(4, .int (zs1.2 + (1 : Int32))), (0, .ref this), (1, .int p1), (2, .int p2), (3, .int zs1.1)]) (pc' := 44) C dX12_cubeBy_41 rfl kI_1 (by decide) rfl rfl ?_
      refine j_goto (tgt := 5) C dX12_cubeBy_44 rfl ?_
      have hr := izs1 (zs1.1, (zs1.2 + (1 : Int32))) (Option.some.inj hr).symm
      exact j_lv [1, 2, 3, 4, 0] rfl hr
def m_X12_isAhead (ce : Ce) (this : Nat) (p1 : Int32) (p2 : Int32) : Option (Int32) :=
  (gA ce 9 0 this).bind fun zx1 =>
  (aI ce zx1 (15 : Int32)).bind fun zx2 =>
  if zx2 = 0 then
    (gA ce 9 2 this).bind fun zx9 =>
    (aG ce zx9 p1).bind fun zx10 =>
    (gA ce 9 2 this).bind fun zx11 =>
    (aG ce zx11 p2).bind fun zx12 =>
    if 0 ≤ (Op.cmpValue (FP.fcmp zx10 zx12) .g) then
      some (0 : Int32)
    else
      some (1 : Int32)
  else
    (gA ce 9 0 this).bind fun zx3 =>
    (aI ce zx3 (15 : Int32)).bind fun zx4 =>
    if zx4 = (2 : Int32) then
      (gA ce 9 2 this).bind fun zx5 =>
      (aG ce zx5 p1).bind fun zx6 =>
      (gA ce 9 2 this).bind fun zx7 =>
      (aG ce zx7 p2).bind fun zx8 =>
      if (Op.cmpValue (FP.fcmp zx6 zx8) .l) ≤ 0 then
        some (0 : Int32)
      else
        some (1 : Int32)
    else
      some (0 : Int32)
set_option maxRecDepth 100000 in
set_option maxHeartbeats 4000000 in
theorem c_X12_isAhead {nx : Nat} {ce : Ce} {this : Nat} {p1 : Int32} {p2 : Int32} {q : Int32} (hr : m_X12_isAhead ce this p1 p2 = some q) : Ct yX12_isAhead cX12_isAhead 3 (some .boolean) 0 0 0 0 [.ref this, .int p1, .int p2] nx ce (some (.int q)) ce := by
  unfold m_X12_isAhead at hr
  refine ct_of (by decide) (Nat.le_of_ble_eq_true rfl) ?_
  intro G C hq hret hin
  show Jd G 0 0 nx ce 0 [(0, .ref this), (1, .int p1), (2, .int p2)] []
  refine j_aload_n (q := 0) (pc' := 1) C dX12_isAhead_0 rfl rfl rfl ?_
  obtain ⟨zx1, hzx1, hr⟩ := ob hr
  refine j_getA (pc' := 4) C dX12_isAhead_1 fl_X12_8 hzx1 rfl ?_
  refine j_bipush (v := 15) (pc' := 6) C dX12_isAhead_4 kB_15 rfl ?_
  obtain ⟨zx2, hzx2, hr⟩ := ob hr
  refine j_iald (pc' := 7) C dX12_isAhead_6 hzx2 rfl ?_
  refine j_if_ne (tgt := 34) (pc' := 10) C dX12_isAhead_7 rfl rfl (fun hc => ?_) (fun hc => ?_)
  · have hr := ifF hc hr
    clear hc
    refine j_aload_n (q := 0) (pc' := 35) C dX12_isAhead_34 rfl rfl rfl ?_
    obtain ⟨zx3, hzx3, hr⟩ := ob hr
    refine j_getA (pc' := 38) C dX12_isAhead_35 fl_X12_8 hzx3 rfl ?_
    refine j_bipush (v := 15) (pc' := 40) C dX12_isAhead_38 kB_15 rfl ?_
    obtain ⟨zx4, hzx4, hr⟩ := ob hr
    refine j_iald (pc' := 41) C dX12_isAhead_40 hzx4 rfl ?_
    refine j_iconst (v := 2) (pc' := 42) C dX12_isAhead_41 kI_2 rfl ?_
    refine j_ic_ne (tgt := 65) (pc' := 45) C dX12_isAhead_42 rfl rfl (fun hc => ?_) (fun hc => ?_)
    · have hr := ifF hc hr
      clear hc
      refine j_iconst (v := 0) (pc' := 66) C dX12_isAhead_65 kI_0 rfl ?_
      have hr := Option.some.inj hr
      subst hr
      exact j_zret C hq hret rfl dX12_isAhead_66
    · have hr := ifT hc hr
      clear hc
      refine j_aload_n (q := 0) (pc' := 46) C dX12_isAhead_45 rfl rfl rfl ?_
      obtain ⟨zx5, hzx5, hr⟩ := ob hr
      refine j_getA (pc' := 49) C dX12_isAhead_46 fl_X12_17 hzx5 rfl ?_
      refine j_iload_n (q := 1) (pc' := 50) C dX12_isAhead_49 rfl rfl rfl ?_
      obtain ⟨zx6, hzx6, hr⟩ := ob hr
      refine j_fald (pc' := 51) C dX12_isAhead_50 hzx6 rfl ?_
      refine j_aload_n (q := 0) (pc' := 52) C dX12_isAhead_51 rfl rfl rfl ?_
      obtain ⟨zx7, hzx7, hr⟩ := ob hr
      refine j_getA (pc' := 55) C dX12_isAhead_52 fl_X12_17 hzx7 rfl ?_
      refine j_iload_n (q := 2) (pc' := 56) C dX12_isAhead_55 rfl rfl rfl ?_
      obtain ⟨zx8, hzx8, hr⟩ := ob hr
      refine j_fald (pc' := 57) C dX12_isAhead_56 hzx8 rfl ?_
      refine j_fcmp (pc' := 58) C dX12_isAhead_57 rfl ?_
      refine j_if_le (tgt := 65) (pc' := 61) C dX12_isAhead_58 rfl rfl (fun hc => ?_) (fun hc => ?_)
      · have hr := ifT hc hr
        clear hc
        refine j_iconst (v := 0) (pc' := 66) C dX12_isAhead_65 kI_0 rfl ?_
        have hr := Option.some.inj hr
        subst hr
        exact j_zret C hq hret rfl dX12_isAhead_66
      · have hr := ifF hc hr
        clear hc
        refine j_iconst (v := 1) (pc' := 62) C dX12_isAhead_61 kI_1 rfl ?_
        refine j_goto (tgt := 66) C dX12_isAhead_62 rfl ?_
        have hr := Option.some.inj hr
        subst hr
        exact j_zret C hq hret rfl dX12_isAhead_66
  · have hr := ifT hc hr
    clear hc
    refine j_aload_n (q := 0) (pc' := 11) C dX12_isAhead_10 rfl rfl rfl ?_
    obtain ⟨zx9, hzx9, hr⟩ := ob hr
    refine j_getA (pc' := 14) C dX12_isAhead_11 fl_X12_17 hzx9 rfl ?_
    refine j_iload_n (q := 1) (pc' := 15) C dX12_isAhead_14 rfl rfl rfl ?_
    obtain ⟨zx10, hzx10, hr⟩ := ob hr
    refine j_fald (pc' := 16) C dX12_isAhead_15 hzx10 rfl ?_
    refine j_aload_n (q := 0) (pc' := 17) C dX12_isAhead_16 rfl rfl rfl ?_
    obtain ⟨zx11, hzx11, hr⟩ := ob hr
    refine j_getA (pc' := 20) C dX12_isAhead_17 fl_X12_17 hzx11 rfl ?_
    refine j_iload_n (q := 2) (pc' := 21) C dX12_isAhead_20 rfl rfl rfl ?_
    obtain ⟨zx12, hzx12, hr⟩ := ob hr
    refine j_fald (pc' := 22) C dX12_isAhead_21 hzx12 rfl ?_
    refine j_fcmp (pc' := 23) C dX12_isAhead_22 rfl ?_
    refine j_if_ge (tgt := 30) (pc' := 26) C dX12_isAhead_23 rfl rfl (fun hc => ?_) (fun hc => ?_)
    · have hr := ifT hc hr
      clear hc
      refine j_iconst (v := 0) (pc' := 31) C dX12_isAhead_30 kI_0 rfl ?_
      refine j_goto (tgt := 66) C dX12_isAhead_31 rfl ?_
      have hr := Option.some.inj hr
      subst hr
      exact j_zret C hq hret rfl dX12_isAhead_66
    · have hr := ifF hc hr
      clear hc
      refine j_iconst (v := 1) (pc' := 27) C dX12_isAhead_26 kI_1 rfl ?_
      refine j_goto (tgt := 66) C dX12_isAhead_27 rfl ?_
      have hr := Option.some.inj hr
      subst hr
      exact j_zret C hq hret rfl dX12_isAhead_66
def m_X12_layOrder (ce : Ce) (this : Nat) : Option (Unit × Ce) :=
  (it (fun (zs1 : Int32 × Ce) =>
    (gA zs1.2 9 0 this).bind fun zx4 =>
    (aI zs1.2 zx4 (3 : Int32)).bind fun zx5 =>
    if zx5 ≤ zs1.1 then
      some (Sum.inr ((), zs1.2))
    else
      (it (fun (zs6 : Int32 × Ce) =>
        if zs6.1 ≤ 0 then
          some (Sum.inr (zs6.1, zs6.2))
        else
          (gA zs6.2 9 23 this).bind fun zx11 =>
          (aI zs6.2 zx11 (zs6.1 - (1 : Int32))).bind fun zx12 =>
          (rcv zs6.2 9 this).bind fun zz13 =>
          (m_X12_isAhead zs6.2 this zs1.1 zx12).bind fun zx14 =>
          if zx14 = 0 then
            some (Sum.inr (zs6.1, zs6.2))
          else
            (gA zs6.2 9 23 this).bind fun zx15 =>
            (gA zs6.2 9 23 this).bind fun zx16 =>
            (aI zs6.2 zx16 (zs6.1 - (1 : Int32))).bind fun zx17 =>
            (sI zs6.2 zx15 zs6.1 zx17).bind fun zc18 =>
            some (Sum.inl ((zs6.1 + (-1 : Int32)), zc18))
      ) FU (zs1.1, zs1.2)).bind fun (zo7 : Int32 × Ce) =>
      (gA zo7.2 9 23 this).bind fun zx9 =>
      (sI zo7.2 zx9 zo7.1 zs1.1).bind fun zc10 =>
      some (Sum.inl ((zs1.1 + (1 : Int32)), zc10))
  ) FU ((0 : Int32), ce)).bind fun (zo2 : Unit × Ce) =>
  some ((), zo2.2)
set_option maxRecDepth 100000 in
set_option maxHeartbeats 4000000 in
theorem c_X12_layOrder {nx : Nat} {ce : Ce} {this : Nat} {q : Unit × Ce} (hr : m_X12_layOrder ce this = some q) : Ct yX12_layOrder cX12_layOrder 3 none 1 22 0 0 [.ref this] nx ce none q.2 := by
  unfold m_X12_layOrder at hr
  refine ct_of (by decide) (Nat.le_of_ble_eq_true rfl) ?_
  intro G C hq hret hin
  show Jd G 0 0 nx ce 0 [(0, .ref this)] []
  refine j_iconst (v := 0) (pc' := 1) C dX12_layOrder_0 kI_0 rfl ?_
  refine j_istore_n (lv' := [(1, .int (0 : Int32)), (0, .ref this)]) (pc' := 2) C dX12_layOrder_1 rfl (by decide) rfl rfl ?_
  obtain ⟨zo2, hzo2, rzo2⟩ := ob hr
  have kzo2 : Jd G 0 0 nx zo2.2 67 [] [] := by
    have hr := rzo2
    have hr := Option.some.inj hr
    subst hr
    exact j_vret C hq hret dX12_layOrder_67
  refine j_lv (lv' := [(0, .ref this), (1, .int (0 : Int32))]) [1, 0] rfl ?_
  refine it_J (J := (fun (zs1 : Int32 × Ce) => Jd G 0 0 nx zs1.2 2 [(0, .ref this), (1, .int zs1.1)] [])) ?_ hzo2
  clear hzo2
  intro zs1 zr3 hr izs1 ezs1
  refine j_iload_n (q := 1) (pc' := 3) C dX12_layOrder_2 rfl rfl rfl ?_
  refine j_aload_n (q := 0) (pc' := 4) C dX12_layOrder_3 rfl rfl rfl ?_
  obtain ⟨zx4, hzx4, hr⟩ := ob hr
  refine j_getA (pc' := 7) C dX12_layOrder_4 fl_X12_8 hzx4 rfl ?_
  refine j_iconst (v := 3) (pc' := 8) C dX12_layOrder_7 kI_3 rfl ?_
  obtain ⟨zx5, hzx5, hr⟩ := ob hr
  refine j_iald (pc' := 9) C dX12_layOrder_8 hzx5 rfl ?_
  refine j_ic_ge (tgt := 67) (pc' := 12) C dX12_layOrder_9 rfl rfl (fun hc => ?_) (fun hc => ?_)
  · have hr := ifT hc hr
    clear hc
    have hr := ezs1 _ (Option.some.inj hr).symm
    subst hr
    exact j_lv [] rfl kzo2
  · have hr := ifF hc hr
    clear hc
    refine j_iload_n (q := 1) (pc' := 13) C dX12_layOrder_12 rfl rfl rfl ?_
    refine j_istore_n (lv' := [(2, .int zs1.1), (0, .ref this), (1, .int zs1.1)]) (pc' := 14) C dX12_layOrder_13 rfl (by decide) rfl rfl ?_
    obtain ⟨zo7, hzo7, rzo7⟩ := ob hr
    have kzo7 : Jd G 0 0 nx zo7.2 54 [(0, .ref this), (1, .int zs1.1), (2, .int zo7.1)] [] := by
      have hr := rzo7
      refine j_aload_n (q := 0) (pc' := 55) C dX12_layOrder_54 rfl rfl rfl ?_
      obtain ⟨zx9, hzx9, hr⟩ := ob hr
      refine j_getA (pc' := 58) C dX12_layOrder_55 fl_X12_47 hzx9 rfl ?_
      refine j_iload_n (q := 2) (pc' := 59) C dX12_layOrder_58 rfl rfl rfl ?_
      refine j_iload_n (q := 1) (pc' := 60) C dX12_layOrder_59 rfl rfl rfl ?_
      obtain ⟨zc10, hzc10, hr⟩ := ob hr
      refine j_iast (pc' := 61) C dX12_layOrder_60 hzc10 rfl ?_
      refine j_iinc (q := 1) (v := 1) (lv' := [(1, .int (zs1.1 + (1 : Int32))), (0, .ref this), (2, .int zo7.1)]) (pc' := 64) C dX12_layOrder_61 rfl kI_1 (by decide) rfl rfl ?_
      refine j_goto (tgt := 2) C dX12_layOrder_64 rfl ?_
      have hr := izs1 ((zs1.1 + (1 : Int32)), zc10) (Option.some.inj hr).symm
      exact j_lv [1, 0] rfl hr
    refine j_lv (lv' := [(0, .ref this), (1, .int zs1.1), (2, .int zs1.1)]) [1, 2, 0] rfl ?_
    refine it_J (J := (fun (zs6 : Int32 × Ce) => Jd G 0 0 nx zs6.2 14 [(0, .ref this), (1, .int zs1.1), (2, .int zs6.1)] [])) ?_ hzo7
    clear hzo7
    intro zs6 zr8 hr izs6 ezs6
    refine j_iload_n (q := 2) (pc' := 15) C dX12_layOrder_14 rfl rfl rfl ?_
    refine j_if_le (tgt := 54) (pc' := 18) C dX12_layOrder_15 rfl rfl (fun hc => ?_) (fun hc => ?_)
    · have hr := ifT hc hr
      clear hc
      have hr := ezs6 _ (Option.some.inj hr).symm
      subst hr
      exact j_lv [0, 1, 2] rfl kzo7
    · have hr := ifF hc hr
      clear hc
      refine j_aload_n (q := 0) (pc' := 19) C dX12_layOrder_18 rfl rfl rfl ?_
      refine j_iload_n (q := 1) (pc' := 20) C dX12_layOrder_19 rfl rfl rfl ?_
      refine j_aload_n (q := 0) (pc' := 21) C dX12_layOrder_20 rfl rfl rfl ?_
      obtain ⟨zx11, hzx11, hr⟩ := ob hr
      refine j_getA (pc' := 24) C dX12_layOrder_21 fl_X12_47 hzx11 rfl ?_
      refine j_iload_n (q := 2) (pc' := 25) C dX12_layOrder_24 rfl rfl rfl ?_
      refine j_iconst (v := 1) (pc' := 26) C dX12_layOrder_25 kI_1 rfl ?_
      refine j_isub (pc' := 27) C dX12_layOrder_26 rfl ?_
      obtain ⟨zx12, hzx12, hr⟩ := ob hr
      refine j_iald (pc' := 28) C dX12_layOrder_27 hzx12 rfl ?_
      obtain ⟨zz13, hzz13, hr⟩ := ob hr
      obtain ⟨zx14, hzx14, hr⟩ := ob hr
      obtain ⟨fhzz13, hzz13⟩ := rcv_sp hzz13
      refine j_callV (ci := 9) (As := [.int zs1.1, .int zx12]) (rest := []) (st1 := [.int zx14]) (pc' := 31) C ⟨wm_1785, wm_87⟩ rfl hzz13 (c_X12_isAhead (nx := nx) hzx14) yw_X12_isAhead wm_1783 rfl rfl (Nat.le_of_ble_eq_true rfl) ⟨by decide, by decide⟩ dX12_layOrder_28 rfl rfl ?_
      refine j_if_eq (tgt := 54) (pc' := 34) C dX12_layOrder_31 rfl rfl (fun hc => ?_) (fun hc => ?_)
      · have hr := ifT hc hr
        clear hc
        have hr := ezs6 _ (Option.some.inj hr).symm
        subst hr
        exact j_lv [0, 1, 2] rfl kzo7
      · have hr := ifF hc hr
        clear hc
        refine j_aload_n (q := 0) (pc' := 35) C dX12_layOrder_34 rfl rfl rfl ?_
        obtain ⟨zx15, hzx15, hr⟩ := ob hr
        refine j_getA (pc' := 38) C dX12_layOrder_35 fl_X12_47 hzx15 rfl ?_
        refine j_iload_n (q := 2) (pc' := 39) C dX12_layOrder_38 rfl rfl rfl ?_
        refine j_aload_n (q := 0) (pc' := 40) C dX12_layOrder_39 rfl rfl rfl ?_
        obtain ⟨zx16, hzx16, hr⟩ := ob hr
        refine j_getA (pc' := 43) C dX12_layOrder_40 fl_X12_47 hzx16 rfl ?_
        refine j_iload_n (q := 2) (pc' := 44) C dX12_layOrder_43 rfl rfl rfl ?_
        refine j_iconst (v := 1) (pc' := 45) C dX12_layOrder_44 kI_1 rfl ?_
        refine j_isub (pc' := 46) C dX12_layOrder_45 rfl ?_
        obtain ⟨zx17, hzx17, hr⟩ := ob hr
        refine j_iald (pc' := 47) C dX12_layOrder_46 hzx17 rfl ?_
        obtain ⟨zc18, hzc18, hr⟩ := ob hr
        refine j_iast (pc' := 48) C dX12_layOrder_47 hzc18 rfl ?_
        refine j_iinc (q := 2) (v := -1) (lv' := [(2, .int (zs6.1 + (-1 : Int32))), (0, .ref this), (1, .int zs1.1)]) (pc' := 51) C dX12_layOrder_48 rfl kI_m1 (by decide) rfl rfl ?_
        refine j_goto (tgt := 14) C dX12_layOrder_51 rfl ?_
        have hr := izs6 ((zs6.1 + (-1 : Int32)), zc18) (Option.some.inj hr).symm
        exact j_lv [1, 2, 0] rfl hr
def m_X12_widen (ce : Ce) (this : Nat) (p1 : Int32) (p2 : Int32) : Option (Int32 × Ce) :=
  (rcv ce 9 this).bind fun zz1 =>
  (m_X12_states ce this).bind fun zx2 =>
  (rcv ce 9 this).bind fun zz3 =>
  (m_X12_layOrder ce this).bind fun zq4 =>
  (it (fun (zs5 : (Int32 × Int32) × Ce) =>
    (gA zs5.2 9 0 this).bind fun zx8 =>
    (aI zs5.2 zx8 (3 : Int32)).bind fun zx9 =>
    if zx9 ≤ zs5.1.2 then
      some (Sum.inr (zs5.1.1, zs5.2))
    else
      (gA zs5.2 9 23 this).bind fun zx10 =>
      (aI zs5.2 zx10 zs5.1.2).bind fun zx11 =>
      (rcv zs5.2 9 this).bind fun zz12 =>
      (m_X12_cubeSet zs5.2 this (zs5.1.1 &&& (((1 : Int32) <<< (zx11 &&& 31)) ^^^ (-1 : Int32))) (p1 &&& (zs5.1.1 &&& (((1 : Int32) <<< (zx11 &&& 31)) ^^^ (-1 : Int32))))).bind fun zx13 =>
      (rcv zs5.2 9 this).bind fun zz14 =>
      (m_X12_starts zs5.2 this).bind fun zx15 =>
      if (lg_cmp (zx13 &&& zx15) (0 : Int64)) = 0 then
        (rcv zs5.2 9 this).bind fun zz16 =>
        (m_X12_isAsked zs5.2 this (zs5.1.1 &&& (((1 : Int32) <<< (zx11 &&& 31)) ^^^ (-1 : Int32))) (p1 &&& (zs5.1.1 &&& (((1 : Int32) <<< (zx11 &&& 31)) ^^^ (-1 : Int32)))) (p2 - (1 : Int32))).bind fun zq17 =>
        if zq17.1 = 0 then
          some (Sum.inl ((zs5.1.1, (zs5.1.2 + (1 : Int32))), zq17.2))
        else
          some (Sum.inl (((zs5.1.1 &&& (((1 : Int32) <<< (zx11 &&& 31)) ^^^ (-1 : Int32))), (zs5.1.2 + (1 : Int32))), zq17.2))
      else
        some (Sum.inl ((zs5.1.1, (zs5.1.2 + (1 : Int32))), zs5.2))
  ) FU (((zx2 - (1 : Int32)), (0 : Int32)), zq4.2)).bind fun (zo6 : Int32 × Ce) =>
  some (zo6.1, zo6.2)
set_option maxRecDepth 100000 in
set_option maxHeartbeats 4000000 in
theorem c_X12_widen {nx : Nat} {ce : Ce} {this : Nat} {p1 : Int32} {p2 : Int32} {q : Int32 × Ce} (hr : m_X12_widen ce this p1 p2 = some q) : Ct yX12_widen cX12_widen 6 (some .int) 7 156 0 0 [.ref this, .int p1, .int p2] nx ce (some (.int q.1)) q.2 := by
  unfold m_X12_widen at hr
  refine ct_of (by decide) (Nat.le_of_ble_eq_true rfl) ?_
  intro G C hq hret hin
  show Jd G 0 0 nx ce 0 [(0, .ref this), (1, .int p1), (2, .int p2)] []
  refine j_aload_n (q := 0) (pc' := 1) C dX12_widen_0 rfl rfl rfl ?_
  obtain ⟨zz1, hzz1, hr⟩ := ob hr
  obtain ⟨zx2, hzx2, hr⟩ := ob hr
  obtain ⟨fhzz1, hzz1⟩ := rcv_sp hzz1
  refine j_callV (ci := 9) (As := []) (rest := []) (st1 := [.int zx2]) (pc' := 4) C ⟨wm_1642, wm_58⟩ rfl hzz1 (c_X12_states (nx := nx) hzx2) yw_X12_states wm_1640 rfl rfl (Nat.le_of_ble_eq_true rfl) ⟨by decide, by decide⟩ dX12_widen_1 rfl rfl ?_
  refine j_iconst (v := 1) (pc' := 5) C dX12_widen_4 kI_1 rfl ?_
  refine j_isub (pc' := 6) C dX12_widen_5 rfl ?_
  refine j_istore_n (lv' := [(3, .int (zx2 - (1 : Int32))), (0, .ref this), (1, .int p1), (2, .int p2)]) (pc' := 7) C dX12_widen_6 rfl (by decide) rfl rfl ?_
  refine j_aload_n (q := 1) (pc' := 8) C dX12_widen_7 rfl rfl rfl ?_
  obtain ⟨zz3, hzz3, hr⟩ := ob hr
  obtain ⟨zq4, hzq4, hr⟩ := ob hr
  obtain ⟨fhzz3, hzz3⟩ := rcv_sp hzz3
  refine j_callV (ci := 9) (As := []) (rest := []) (st1 := []) (pc' := 11) C ⟨wm_1781, wm_86⟩ rfl hzz3 (c_X12_layOrder (nx := nx) hzq4) yw_X12_layOrder wm_1779 rfl rfl (Nat.le_of_ble_eq_true rfl) ⟨by decide, by decide⟩ dX12_widen_8 rfl rfl ?_
  refine j_iconst (v := 0) (pc' := 12) C dX12_widen_11 kI_0 rfl ?_
  refine j_istore (lv' := [(4, .int (0 : Int32)), (3, .int (zx2 - (1 : Int32))), (0, .ref this), (1, .int p1), (2, .int p2)]) (pc' := 14) C dX12_widen_12 (by decide) rfl rfl ?_
  obtain ⟨zo6, hzo6, rzo6⟩ := ob hr
  have kzo6 : Jd G 0 0 nx zo6.2 85 [(3, .int zo6.1)] [] := by
    have hr := rzo6
    refine j_iload_n (q := 0) (pc' := 86) C dX12_widen_85 rfl rfl rfl ?_
    have hr := Option.some.inj hr
    subst hr
    exact j_iret C hq hret dX12_widen_86
  refine j_lv (lv' := [(0, .ref this), (1, .int p1), (2, .int p2), (3, .int (zx2 - (1 : Int32))), (4, .int (0 : Int32))]) [2, 3, 4, 1, 0] rfl ?_
  refine it_J (J := (fun (zs5 : (Int32 × Int32) × Ce) => Jd G 0 0 nx zs5.2 14 [(0, .ref this), (1, .int p1), (2, .int p2), (3, .int zs5.1.1), (4, .int zs5.1.2)] [])) ?_ hzo6
  clear hzo6
  intro zs5 zr7 hr izs5 ezs5
  refine j_iload (q := 4) (pc' := 16) C dX12_widen_14 rfl rfl ?_
  refine j_aload_n (q := 0) (pc' := 17) C dX12_widen_16 rfl rfl rfl ?_
  obtain ⟨zx8, hzx8, hr⟩ := ob hr
  refine j_getA (pc' := 20) C dX12_widen_17 fl_X12_8 hzx8 rfl ?_
  refine j_iconst (v := 3) (pc' := 21) C dX12_widen_20 kI_3 rfl ?_
  obtain ⟨zx9, hzx9, hr⟩ := ob hr
  refine j_iald (pc' := 22) C dX12_widen_21 hzx9 rfl ?_
  refine j_ic_ge (tgt := 85) (pc' := 25) C dX12_widen_22 rfl rfl (fun hc => ?_) (fun hc => ?_)
  · have hr := ifT hc hr
    clear hc
    have hr := ezs5 _ (Option.some.inj hr).symm
    subst hr
    exact j_lv [3] rfl kzo6
  · have hr := ifF hc hr
    clear hc
    refine j_iload_n (q := 3) (pc' := 26) C dX12_widen_25 rfl rfl rfl ?_
    refine j_iconst (v := 1) (pc' := 27) C dX12_widen_26 kI_1 rfl ?_
    refine j_aload_n (q := 0) (pc' := 28) C dX12_widen_27 rfl rfl rfl ?_
    obtain ⟨zx10, hzx10, hr⟩ := ob hr
    refine j_getA (pc' := 31) C dX12_widen_28 fl_X12_47 hzx10 rfl ?_
    refine j_iload (q := 4) (pc' := 33) C dX12_widen_31 rfl rfl ?_
    obtain ⟨zx11, hzx11, hr⟩ := ob hr
    refine j_iald (pc' := 34) C dX12_widen_33 hzx11 rfl ?_
    refine j_ishl (pc' := 35) C dX12_widen_34 rfl ?_
    refine j_iconst (v := -1) (pc' := 36) C dX12_widen_35 kI_m1 rfl ?_
    refine j_ixor (pc' := 37) C dX12_widen_36 rfl ?_
    refine j_iand (pc' := 38) C dX12_widen_37 rfl ?_
    refine j_istore (lv' := [(5, .int (zs5.1.1 &&& (((1 : Int32) <<< (zx11 &&& 31)) ^^^ (-1 : Int32)))), (0, .ref this), (1, .int p1), (2, .int p2), (3, .int zs5.1.1), (4, .int zs5.1.2)]) (pc' := 40) C dX12_widen_38 (by decide) rfl rfl ?_
    refine j_aload_n (q := 1) (pc' := 41) C dX12_widen_40 rfl rfl rfl ?_
    refine j_iload (q := 0) (pc' := 43) C dX12_widen_41 rfl rfl ?_
    refine j_iload_n (q := 2) (pc' := 44) C dX12_widen_43 rfl rfl rfl ?_
    refine j_iload (q := 0) (pc' := 46) C dX12_widen_44 rfl rfl ?_
    refine j_iand (pc' := 47) C dX12_widen_46 rfl ?_
    obtain ⟨zz12, hzz12, hr⟩ := ob hr
    obtain ⟨zx13, hzx13, hr⟩ := ob hr
    obtain ⟨fhzz12, hzz12⟩ := rcv_sp hzz12
    refine j_callV (ci := 9) (As := [.int (zs5.1.1 &&& (((1 : Int32) <<< (zx11 &&& 31)) ^^^ (-1 : Int32))), .int (p1 &&& (zs5.1.1 &&& (((1 : Int32) <<< (zx11 &&& 31)) ^^^ (-1 : Int32))))]) (rest := []) (st1 := [.long zx13]) (pc' := 50) C ⟨wm_1726, wm_73⟩ rfl hzz12 (c_X12_cubeSet (nx := nx) hzx13) yw_X12_cubeSet wm_1724 rfl rfl (Nat.le_of_ble_eq_true rfl) ⟨by decide, by decide⟩ dX12_widen_47 rfl rfl ?_
    refine j_aload_n (q := 1) (pc' := 51) C dX12_widen_50 rfl rfl rfl ?_
    obtain ⟨zz14, hzz14, hr⟩ := ob hr
    obtain ⟨zx15, hzx15, hr⟩ := ob hr
    obtain ⟨fhzz14, hzz14⟩ := rcv_sp hzz14
    refine j_callV (ci := 9) (As := []) (rest := [.long zx13]) (st1 := [.long zx15, .long zx13]) (pc' := 54) C ⟨wm_1710, wm_69⟩ rfl hzz14 (c_X12_starts (nx := nx) hzx15) yw_X12_starts wm_1708 rfl rfl (Nat.le_of_ble_eq_true rfl) ⟨by decide, by decide⟩ dX12_widen_51 rfl rfl ?_
    refine j_land (pc' := 55) C dX12_widen_54 rfl ?_
    refine j_lconst (v := 0) (pc' := 56) C dX12_widen_55 kL_0 rfl ?_
    refine j_lcmp (pc' := 57) C dX12_widen_56 rfl ?_
    refine j_if_ne (tgt := 79) (pc' := 60) C dX12_widen_57 rfl rfl (fun hc => ?_) (fun hc => ?_)
    · have hr := ifF hc hr
      clear hc
      refine j_iinc (q := 5) (v := 1) (lv' := [(4, .int (zs5.1.2 + (1 : Int32))), (5, .int (zs5.1.1 &&& (((1 : Int32) <<< (zx11 &&& 31)) ^^^ (-1 : Int32)))), (0, .ref this), (1, .int p1), (2, .int p2), (3, .int zs5.1.1)]) (pc' := 82) C dX12_widen_79 rfl kI_1 (by decide) rfl rfl ?_
      refine j_goto (tgt := 14) C dX12_widen_82 rfl ?_
      have hr := izs5 ((zs5.1.1, (zs5.1.2 + (1 : Int32))), zs5.2) (Option.some.inj hr).symm
      exact j_lv [2, 3, 4, 5, 0] rfl hr
    · have hr := ifT hc hr
      clear hc
      refine j_aload_n (q := 1) (pc' := 61) C dX12_widen_60 rfl rfl rfl ?_
      refine j_iload (q := 0) (pc' := 63) C dX12_widen_61 rfl rfl ?_
      refine j_iload_n (q := 2) (pc' := 64) C dX12_widen_63 rfl rfl rfl ?_
      refine j_iload (q := 0) (pc' := 66) C dX12_widen_64 rfl rfl ?_
      refine j_iand (pc' := 67) C dX12_widen_66 rfl ?_
      refine j_iload_n (q := 3) (pc' := 68) C dX12_widen_67 rfl rfl rfl ?_
      refine j_iconst (v := 1) (pc' := 69) C dX12_widen_68 kI_1 rfl ?_
      refine j_isub (pc' := 70) C dX12_widen_69 rfl ?_
      obtain ⟨zz16, hzz16, hr⟩ := ob hr
      obtain ⟨zq17, hzq17, hr⟩ := ob hr
      obtain ⟨fhzz16, hzz16⟩ := rcv_sp hzz16
      refine j_callV (ci := 9) (As := [.int (zs5.1.1 &&& (((1 : Int32) <<< (zx11 &&& 31)) ^^^ (-1 : Int32))), .int (p1 &&& (zs5.1.1 &&& (((1 : Int32) <<< (zx11 &&& 31)) ^^^ (-1 : Int32)))), .int (p2 - (1 : Int32))]) (rest := []) (st1 := [.int zq17.1]) (pc' := 73) C ⟨wm_1789, wm_88⟩ rfl hzz16 (c_X12_isAsked (nx := nx) hzq17) yw_X12_isAsked wm_1787 rfl rfl (Nat.le_of_ble_eq_true rfl) ⟨by decide, by decide⟩ dX12_widen_70 rfl rfl ?_
      refine j_if_eq (tgt := 79) (pc' := 76) C dX12_widen_73 rfl rfl (fun hc => ?_) (fun hc => ?_)
      · have hr := ifT hc hr
        clear hc
        refine j_iinc (q := 5) (v := 1) (lv' := [(4, .int (zs5.1.2 + (1 : Int32))), (5, .int (zs5.1.1 &&& (((1 : Int32) <<< (zx11 &&& 31)) ^^^ (-1 : Int32)))), (0, .ref this), (1, .int p1), (2, .int p2), (3, .int zs5.1.1)]) (pc' := 82) C dX12_widen_79 rfl kI_1 (by decide) rfl rfl ?_
        refine j_goto (tgt := 14) C dX12_widen_82 rfl ?_
        have hr := izs5 ((zs5.1.1, (zs5.1.2 + (1 : Int32))), zq17.2) (Option.some.inj hr).symm
        exact j_lv [2, 3, 4, 5, 0] rfl hr
      · have hr := ifF hc hr
        clear hc
        refine j_iload (q := 0) (pc' := 78) C dX12_widen_76 rfl rfl ?_
        refine j_istore_n (lv' := [(3, .int (zs5.1.1 &&& (((1 : Int32) <<< (zx11 &&& 31)) ^^^ (-1 : Int32)))), (5, .int (zs5.1.1 &&& (((1 : Int32) <<< (zx11 &&& 31)) ^^^ (-1 : Int32)))), (0, .ref this), (1, .int p1), (2, .int p2), (4, .int zs5.1.2)]) (pc' := 79) C dX12_widen_78 rfl (by decide) rfl rfl ?_
        refine j_iinc (q := 5) (v := 1) (lv' := [(4, .int (zs5.1.2 + (1 : Int32))), (3, .int (zs5.1.1 &&& (((1 : Int32) <<< (zx11 &&& 31)) ^^^ (-1 : Int32)))), (5, .int (zs5.1.1 &&& (((1 : Int32) <<< (zx11 &&& 31)) ^^^ (-1 : Int32)))), (0, .ref this), (1, .int p1), (2, .int p2)]) (pc' := 82) C dX12_widen_79 rfl kI_1 (by decide) rfl rfl ?_
        refine j_goto (tgt := 14) C dX12_widen_82 rfl ?_
        have hr := izs5 (((zs5.1.1 &&& (((1 : Int32) <<< (zx11 &&& 31)) ^^^ (-1 : Int32))), (zs5.1.2 + (1 : Int32))), zq17.2) (Option.some.inj hr).symm
        exact j_lv [3, 4, 5, 1, 0] rfl hr
def m_X12_bump (ce : Ce) (this : Nat) (p1 : Int32) : Option (Unit × Ce) :=
  (it (fun (zs1 : Int32 × Ce) =>
    (gA zs1.2 9 0 this).bind fun zx23 =>
    (aI zs1.2 zx23 (3 : Int32)).bind fun zx24 =>
    if zx24 ≤ zs1.1 then
      some (Sum.inr ((), zs1.2))
    else
      if ((p1 >>> (zs1.1 &&& 31)) &&& (1 : Int32)) = (1 : Int32) then
        (gA zs1.2 9 2 this).bind fun zx25 =>
        (aG zs1.2 zx25 zs1.1).bind fun zx26 =>
        (gA zs1.2 9 2 this).bind fun zx27 =>
        (aG zs1.2 zx27 (6 : Int32)).bind fun zx28 =>
        (fq (FP.fadd zx26 zx28)).bind fun zx29 =>
        (sG zs1.2 zx25 zs1.1 zx29).bind fun zc30 =>
        some (Sum.inl ((zs1.1 + (1 : Int32)), zc30))
      else
        some (Sum.inl ((zs1.1 + (1 : Int32)), zs1.2))
  ) FU ((0 : Int32), ce)).bind fun (zo2 : Unit × Ce) =>
  (gA zo2.2 9 2 this).bind fun zx4 =>
  (aG zo2.2 zx4 (6 : Int32)).bind fun zx5 =>
  (fq (FP.fmul zx5 (1069547520 : UInt32))).bind fun zx6 =>
  (sG zo2.2 zx4 (6 : Int32) zx6).bind fun zc7 =>
  (it (fun (zs8 : Int32 × Int32) =>
    (gA zc7 9 0 this).bind fun zx18 =>
    (aI zc7 zx18 (3 : Int32)).bind fun zx19 =>
    if zx19 ≤ zs8.2 then
      some (Sum.inr zs8.1)
    else
      (
        if zs8.1 = 0 then
          (gA zc7 9 2 this).bind fun zx21 =>
          (aG zc7 zx21 zs8.2).bind fun zx22 =>
          if (Op.cmpValue (FP.fcmp zx22 (1148846080 : UInt32)) .l) ≤ 0 then
            some (Sum.inl (Sum.inl ((0 : Int32), (zs8.2 + (1 : Int32)))))
          else
            some (Sum.inr zs8.2)
        else
          some (Sum.inr zs8.2)
      ).bind fun (zj20 : ((Int32 × Int32) ⊕ Int32) ⊕ Int32) => Sum.elim (fun wzj20 => some wzj20) (fun vzj20 =>
        some (Sum.inl ((1 : Int32), (vzj20 + (1 : Int32))))
      ) zj20
  ) FU ((0 : Int32), (0 : Int32))).bind fun (zo9 : Int32) =>
  (it (fun (zs11 : Int32 × Ce) =>
    if (6 : Int32) < zs11.1 then
      some (Sum.inr ((), zs11.2))
    else
      if zo9 = 0 then
        some (Sum.inr ((), zs11.2))
      else
        (gA zs11.2 9 2 this).bind fun zx14 =>
        (aG zs11.2 zx14 zs11.1).bind fun zx15 =>
        (fq (FP.fmul zx15 (981668463 : UInt32))).bind fun zx16 =>
        (sG zs11.2 zx14 zs11.1 zx16).bind fun zc17 =>
        some (Sum.inl ((zs11.1 + (1 : Int32)), zc17))
  ) FU ((0 : Int32), zc7)).bind fun (zo12 : Unit × Ce) =>
  some ((), zo12.2)
set_option maxRecDepth 100000 in
set_option maxHeartbeats 4000000 in
theorem c_X12_bump {nx : Nat} {ce : Ce} {this : Nat} {p1 : Int32} {q : Unit × Ce} (hr : m_X12_bump ce this p1 = some q) : Ct yX12_bump cX12_bump 4 none 0 0 0 0 [.ref this, .int p1] nx ce none q.2 := by
  unfold m_X12_bump at hr
  refine ct_of (by decide) (Nat.le_of_ble_eq_true rfl) ?_
  intro G C hq hret hin
  show Jd G 0 0 nx ce 0 [(0, .ref this), (1, .int p1)] []
  refine j_iconst (v := 0) (pc' := 1) C dX12_bump_0 kI_0 rfl ?_
  refine j_istore_n (lv' := [(2, .int (0 : Int32)), (0, .ref this), (1, .int p1)]) (pc' := 2) C dX12_bump_1 rfl (by decide) rfl rfl ?_
  refine j_iconst (v := 0) (pc' := 3) C dX12_bump_2 kI_0 rfl ?_
  refine j_istore_n (lv' := [(3, .int (0 : Int32)), (2, .int (0 : Int32)), (0, .ref this), (1, .int p1)]) (pc' := 4) C dX12_bump_3 rfl (by decide) rfl rfl ?_
  obtain ⟨zo2, hzo2, rzo2⟩ := ob hr
  have kzo2 : Jd G 0 0 nx zo2.2 45 [(0, .ref this), (2, .int (0 : Int32))] [] := by
    have hr := rzo2
    refine j_aload_n (q := 0) (pc' := 46) C dX12_bump_45 rfl rfl rfl ?_
    obtain ⟨zx4, hzx4, hr⟩ := ob hr
    refine j_getA (pc' := 49) C dX12_bump_46 fl_X12_17 hzx4 rfl ?_
    refine j_bipush (v := 6) (pc' := 51) C dX12_bump_49 kB_6 rfl ?_
    refine j_dup2 (pc' := 52) C dX12_bump_51 rfl rfl rfl ?_
    obtain ⟨zx5, hzx5, hr⟩ := ob hr
    refine j_fald (pc' := 53) C dX12_bump_52 hzx5 rfl ?_
    refine j_ldcwf (pc' := 56) C dX12_bump_53 wm_1814 rfl ?_
    obtain ⟨zx6, hzx6, hr⟩ := ob hr
    refine j_fmul (pc' := 57) C dX12_bump_56 hzx6 rfl ?_
    obtain ⟨zc7, hzc7, hr⟩ := ob hr
    refine j_fast (pc' := 58) C dX12_bump_57 hzc7 rfl ?_
    refine j_iconst (v := 0) (pc' := 59) C dX12_bump_58 kI_0 rfl ?_
    refine j_istore_n (lv' := [(3, .int (0 : Int32)), (0, .ref this), (2, .int (0 : Int32))]) (pc' := 60) C dX12_bump_59 rfl (by decide) rfl rfl ?_
    obtain ⟨zo9, hzo9, rzo9⟩ := ob hr
    have kzo9 : Jd G 0 0 nx zc7 99 [(0, .ref this), (2, .int zo9)] [] := by
      have hr := rzo9
      refine j_iconst (v := 0) (pc' := 100) C dX12_bump_99 kI_0 rfl ?_
      refine j_istore_n (lv' := [(3, .int (0 : Int32)), (0, .ref this), (2, .int zo9)]) (pc' := 101) C dX12_bump_100 rfl (by decide) rfl rfl ?_
      obtain ⟨zo12, hzo12, rzo12⟩ := ob hr
      have kzo12 : Jd G 0 0 nx zo12.2 129 [] [] := by
        have hr := rzo12
        have hr := Option.some.inj hr
        subst hr
        exact j_vret C hq hret dX12_bump_129
      refine j_lv (lv' := [(0, .ref this), (2, .int zo9), (3, .int (0 : Int32))]) [1, 2, 0] rfl ?_
      refine it_J (J := (fun (zs11 : Int32 × Ce) => Jd G 0 0 nx zs11.2 101 [(0, .ref this), (2, .int zo9), (3, .int zs11.1)] [])) ?_ hzo12
      clear hzo12
      intro zs11 zr13 hr izs11 ezs11
      refine j_iload_n (q := 2) (pc' := 102) C dX12_bump_101 rfl rfl rfl ?_
      refine j_bipush (v := 6) (pc' := 104) C dX12_bump_102 kB_6 rfl ?_
      refine j_ic_gt (tgt := 129) (pc' := 107) C dX12_bump_104 rfl rfl (fun hc => ?_) (fun hc => ?_)
      · have hr := ifT hc hr
        clear hc
        have hr := ezs11 _ (Option.some.inj hr).symm
        subst hr
        exact j_lv [] rfl kzo12
      · have hr := ifF hc hr
        clear hc
        refine j_iload_n (q := 1) (pc' := 108) C dX12_bump_107 rfl rfl rfl ?_
        refine j_if_eq (tgt := 129) (pc' := 111) C dX12_bump_108 rfl rfl (fun hc => ?_) (fun hc => ?_)
        · have hr := ifT hc hr
          clear hc
          have hr := ezs11 _ (Option.some.inj hr).symm
          subst hr
          exact j_lv [] rfl kzo12
        · have hr := ifF hc hr
          clear hc
          refine j_aload_n (q := 0) (pc' := 112) C dX12_bump_111 rfl rfl rfl ?_
          obtain ⟨zx14, hzx14, hr⟩ := ob hr
          refine j_getA (pc' := 115) C dX12_bump_112 fl_X12_17 hzx14 rfl ?_
          refine j_iload_n (q := 2) (pc' := 116) C dX12_bump_115 rfl rfl rfl ?_
          refine j_dup2 (pc' := 117) C dX12_bump_116 rfl rfl rfl ?_
          obtain ⟨zx15, hzx15, hr⟩ := ob hr
          refine j_fald (pc' := 118) C dX12_bump_117 hzx15 rfl ?_
          refine j_ldcwf (pc' := 121) C dX12_bump_118 wm_1816 rfl ?_
          obtain ⟨zx16, hzx16, hr⟩ := ob hr
          refine j_fmul (pc' := 122) C dX12_bump_121 hzx16 rfl ?_
          obtain ⟨zc17, hzc17, hr⟩ := ob hr
          refine j_fast (pc' := 123) C dX12_bump_122 hzc17 rfl ?_
          refine j_iinc (q := 2) (v := 1) (lv' := [(3, .int (zs11.1 + (1 : Int32))), (0, .ref this), (2, .int zo9)]) (pc' := 126) C dX12_bump_123 rfl kI_1 (by decide) rfl rfl ?_
          refine j_goto (tgt := 101) C dX12_bump_126 rfl ?_
          have hr := izs11 ((zs11.1 + (1 : Int32)), zc17) (Option.some.inj hr).symm
          exact j_lv [1, 2, 0] rfl hr
    refine j_lv (lv' := [(0, .ref this), (2, .int (0 : Int32)), (3, .int (0 : Int32))]) [1, 2, 0] rfl ?_
    refine it_J (J := (fun (zs8 : Int32 × Int32) => Jd G 0 0 nx zc7 60 [(0, .ref this), (2, .int zs8.1), (3, .int zs8.2)] [])) ?_ hzo9
    clear hzo9
    intro zs8 zr10 hr izs8 ezs8
    refine j_iload_n (q := 2) (pc' := 61) C dX12_bump_60 rfl rfl rfl ?_
    refine j_aload_n (q := 0) (pc' := 62) C dX12_bump_61 rfl rfl rfl ?_
    obtain ⟨zx18, hzx18, hr⟩ := ob hr
    refine j_getA (pc' := 65) C dX12_bump_62 fl_X12_8 hzx18 rfl ?_
    refine j_iconst (v := 3) (pc' := 66) C dX12_bump_65 kI_3 rfl ?_
    obtain ⟨zx19, hzx19, hr⟩ := ob hr
    refine j_iald (pc' := 67) C dX12_bump_66 hzx19 rfl ?_
    refine j_ic_ge (tgt := 99) (pc' := 70) C dX12_bump_67 rfl rfl (fun hc => ?_) (fun hc => ?_)
    · have hr := ifT hc hr
      clear hc
      have hr := ezs8 _ (Option.some.inj hr).symm
      subst hr
      exact j_lv [0, 1] rfl kzo9
    · have hr := ifF hc hr
      clear hc
      refine j_iload_n (q := 1) (pc' := 71) C dX12_bump_70 rfl rfl rfl ?_
      obtain ⟨zj20, hzj20, rzj20⟩ := ob hr
      have kzj20 : ∀ vzj20, zj20 = Sum.inr vzj20 → Jd G 0 0 nx zc7 87 [(0, .ref this), (3, .int vzj20)] [] := by
        intro vzj20 ezj20
        rw [ezj20] at rzj20
        have hr := elR rzj20
        refine j_iconst (v := 1) (pc' := 88) C dX12_bump_87 kI_1 rfl ?_
        refine j_goto (tgt := 92) C dX12_bump_88 rfl ?_
        refine j_istore_n (lv' := [(2, .int (1 : Int32)), (0, .ref this), (3, .int vzj20)]) (pc' := 93) C dX12_bump_92 rfl (by decide) rfl rfl ?_
        refine j_iinc (q := 2) (v := 1) (lv' := [(3, .int (vzj20 + (1 : Int32))), (2, .int (1 : Int32)), (0, .ref this)]) (pc' := 96) C dX12_bump_93 rfl kI_1 (by decide) rfl rfl ?_
        refine j_goto (tgt := 60) C dX12_bump_96 rfl ?_
        have hr := izs8 ((1 : Int32), (vzj20 + (1 : Int32))) (Option.some.inj hr).symm
        exact j_lv [2, 1, 0] rfl hr
      have hr := hzj20
      clear hzj20
      refine j_if_ne (tgt := 87) (pc' := 74) C dX12_bump_71 rfl rfl (fun hc => ?_) (fun hc => ?_)
      · have hr := ifF hc hr
        clear hc
        have hr := Option.some.inj hr
        subst hr
        exact j_lv [0, 2] rfl (kzj20 _ rfl)
      · have hr := ifT hc hr
        clear hc
        refine j_aload_n (q := 0) (pc' := 75) C dX12_bump_74 rfl rfl rfl ?_
        obtain ⟨zx21, hzx21, hr⟩ := ob hr
        refine j_getA (pc' := 78) C dX12_bump_75 fl_X12_17 hzx21 rfl ?_
        refine j_iload_n (q := 2) (pc' := 79) C dX12_bump_78 rfl rfl rfl ?_
        obtain ⟨zx22, hzx22, hr⟩ := ob hr
        refine j_fald (pc' := 80) C dX12_bump_79 hzx22 rfl ?_
        refine j_ldcwf (pc' := 83) C dX12_bump_80 wm_1815 rfl ?_
        refine j_fcmp (pc' := 84) C dX12_bump_83 rfl ?_
        refine j_if_le (tgt := 91) (pc' := 87) C dX12_bump_84 rfl rfl (fun hc => ?_) (fun hc => ?_)
        · have hr := ifT hc hr
          clear hc
          refine j_iconst (v := 0) (pc' := 92) C dX12_bump_91 kI_0 rfl ?_
          refine j_istore_n (lv' := [(2, .int (0 : Int32)), (0, .ref this), (3, .int zs8.2)]) (pc' := 93) C dX12_bump_92 rfl (by decide) rfl rfl ?_
          refine j_iinc (q := 2) (v := 1) (lv' := [(3, .int (zs8.2 + (1 : Int32))), (2, .int (0 : Int32)), (0, .ref this)]) (pc' := 96) C dX12_bump_93 rfl kI_1 (by decide) rfl rfl ?_
          refine j_goto (tgt := 60) C dX12_bump_96 rfl ?_
          have hr := Option.some.inj hr
          subst hr
          have hr := elL rzj20
          have hr := izs8 ((0 : Int32), (zs8.2 + (1 : Int32))) (Option.some.inj hr).symm
          exact j_lv [2, 1, 0] rfl hr
        · have hr := ifF hc hr
          clear hc
          have hr := Option.some.inj hr
          subst hr
          exact j_lv [0, 2] rfl (kzj20 _ rfl)
  refine j_lv (lv' := [(0, .ref this), (1, .int p1), (2, .int (0 : Int32)), (3, .int (0 : Int32))]) [2, 3, 1, 0] rfl ?_
  refine it_J (J := (fun (zs1 : Int32 × Ce) => Jd G 0 0 nx zs1.2 4 [(0, .ref this), (1, .int p1), (2, .int (0 : Int32)), (3, .int zs1.1)] [])) ?_ hzo2
  clear hzo2
  intro zs1 zr3 hr izs1 ezs1
  refine j_iload_n (q := 3) (pc' := 5) C dX12_bump_4 rfl rfl rfl ?_
  refine j_aload_n (q := 0) (pc' := 6) C dX12_bump_5 rfl rfl rfl ?_
  obtain ⟨zx23, hzx23, hr⟩ := ob hr
  refine j_getA (pc' := 9) C dX12_bump_6 fl_X12_8 hzx23 rfl ?_
  refine j_iconst (v := 3) (pc' := 10) C dX12_bump_9 kI_3 rfl ?_
  obtain ⟨zx24, hzx24, hr⟩ := ob hr
  refine j_iald (pc' := 11) C dX12_bump_10 hzx24 rfl ?_
  refine j_ic_ge (tgt := 45) (pc' := 14) C dX12_bump_11 rfl rfl (fun hc => ?_) (fun hc => ?_)
  · have hr := ifT hc hr
    clear hc
    have hr := ezs1 _ (Option.some.inj hr).symm
    subst hr
    exact j_lv [0, 2] rfl kzo2
  · have hr := ifF hc hr
    clear hc
    refine j_iload_n (q := 1) (pc' := 15) C dX12_bump_14 rfl rfl rfl ?_
    refine j_iload_n (q := 3) (pc' := 16) C dX12_bump_15 rfl rfl rfl ?_
    refine j_ishr (pc' := 17) C dX12_bump_16 rfl ?_
    refine j_iconst (v := 1) (pc' := 18) C dX12_bump_17 kI_1 rfl ?_
    refine j_iand (pc' := 19) C dX12_bump_18 rfl ?_
    refine j_iconst (v := 1) (pc' := 20) C dX12_bump_19 kI_1 rfl ?_
    refine j_ic_ne (tgt := 39) (pc' := 23) C dX12_bump_20 rfl rfl (fun hc => ?_) (fun hc => ?_)
    · have hr := ifF hc hr
      clear hc
      refine j_iinc (q := 3) (v := 1) (lv' := [(3, .int (zs1.1 + (1 : Int32))), (0, .ref this), (1, .int p1), (2, .int (0 : Int32))]) (pc' := 42) C dX12_bump_39 rfl kI_1 (by decide) rfl rfl ?_
      refine j_goto (tgt := 4) C dX12_bump_42 rfl ?_
      have hr := izs1 ((zs1.1 + (1 : Int32)), zs1.2) (Option.some.inj hr).symm
      exact j_lv [1, 2, 3, 0] rfl hr
    · have hr := ifT hc hr
      clear hc
      refine j_aload_n (q := 0) (pc' := 24) C dX12_bump_23 rfl rfl rfl ?_
      obtain ⟨zx25, hzx25, hr⟩ := ob hr
      refine j_getA (pc' := 27) C dX12_bump_24 fl_X12_17 hzx25 rfl ?_
      refine j_iload_n (q := 3) (pc' := 28) C dX12_bump_27 rfl rfl rfl ?_
      refine j_dup2 (pc' := 29) C dX12_bump_28 rfl rfl rfl ?_
      obtain ⟨zx26, hzx26, hr⟩ := ob hr
      refine j_fald (pc' := 30) C dX12_bump_29 hzx26 rfl ?_
      refine j_aload_n (q := 0) (pc' := 31) C dX12_bump_30 rfl rfl rfl ?_
      obtain ⟨zx27, hzx27, hr⟩ := ob hr
      refine j_getA (pc' := 34) C dX12_bump_31 fl_X12_17 hzx27 rfl ?_
      refine j_bipush (v := 6) (pc' := 36) C dX12_bump_34 kB_6 rfl ?_
      obtain ⟨zx28, hzx28, hr⟩ := ob hr
      refine j_fald (pc' := 37) C dX12_bump_36 hzx28 rfl ?_
      obtain ⟨zx29, hzx29, hr⟩ := ob hr
      refine j_fadd (pc' := 38) C dX12_bump_37 hzx29 rfl ?_
      obtain ⟨zc30, hzc30, hr⟩ := ob hr
      refine j_fast (pc' := 39) C dX12_bump_38 hzc30 rfl ?_
      refine j_iinc (q := 3) (v := 1) (lv' := [(3, .int (zs1.1 + (1 : Int32))), (0, .ref this), (1, .int p1), (2, .int (0 : Int32))]) (pc' := 42) C dX12_bump_39 rfl kI_1 (by decide) rfl rfl ?_
      refine j_goto (tgt := 4) C dX12_bump_42 rfl ?_
      have hr := izs1 ((zs1.1 + (1 : Int32)), zc30) (Option.some.inj hr).symm
      exact j_lv [1, 2, 3, 0] rfl hr
def m_X12_ofLine (ce : Ce) (this : Nat) (p1 : Int32) (p2 : Int32) : Option (Int32) :=
  (gA ce 9 0 this).bind fun zx1 =>
  (aI ce zx1 (((5104 : Int32) + ((4 : Int32) * p1)) + p2)).bind fun zx2 =>
  some zx2
set_option maxRecDepth 100000 in
set_option maxHeartbeats 4000000 in
theorem c_X12_ofLine {nx : Nat} {ce : Ce} {this : Nat} {p1 : Int32} {p2 : Int32} {q : Int32} (hr : m_X12_ofLine ce this p1 p2 = some q) : Ct yX12_ofLine cX12_ofLine 3 (some .int) 0 0 0 0 [.ref this, .int p1, .int p2] nx ce (some (.int q)) ce := by
  unfold m_X12_ofLine at hr
  refine ct_of (by decide) (Nat.le_of_ble_eq_true rfl) ?_
  intro G C hq hret hin
  show Jd G 0 0 nx ce 0 [(0, .ref this), (1, .int p1), (2, .int p2)] []
  refine j_aload_n (q := 0) (pc' := 1) C dX12_ofLine_0 rfl rfl rfl ?_
  obtain ⟨zx1, hzx1, hr⟩ := ob hr
  refine j_getA (pc' := 4) C dX12_ofLine_1 fl_X12_8 hzx1 rfl ?_
  refine j_sipush (v := 5104) (pc' := 7) C dX12_ofLine_4 kS_5104 rfl ?_
  refine j_iconst (v := 4) (pc' := 8) C dX12_ofLine_7 kI_4 rfl ?_
  refine j_iload_n (q := 1) (pc' := 9) C dX12_ofLine_8 rfl rfl rfl ?_
  refine j_imul (pc' := 10) C dX12_ofLine_9 rfl ?_
  refine j_iadd (pc' := 11) C dX12_ofLine_10 rfl ?_
  refine j_iload_n (q := 2) (pc' := 12) C dX12_ofLine_11 rfl rfl rfl ?_
  refine j_iadd (pc' := 13) C dX12_ofLine_12 rfl ?_
  obtain ⟨zx2, hzx2, hr⟩ := ob hr
  refine j_iald (pc' := 14) C dX12_ofLine_13 hzx2 rfl ?_
  have hr := Option.some.inj hr
  subst hr
  exact j_iret C hq hret dX12_ofLine_14
def m_X12_oblige (ce : Ce) (this : Nat) (p1 : Int32) (p2 : Int32) (p3 : Int32) : Option (Unit × Ce) :=
  (gA ce 9 0 this).bind fun zx1 =>
  (aI ce zx1 (9 : Int32)).bind fun zx2 =>
  (gA ce 9 0 this).bind fun zx3 =>
  (aI ce zx3 (10 : Int32)).bind fun zx4 =>
  (sI ce zx3 (10 : Int32) (zx4 + (1 : Int32))).bind fun zc5 =>
  (gA zc5 9 0 this).bind fun zx6 =>
  (sI zc5 zx6 ((5104 : Int32) + ((4 : Int32) * zx2)) p1).bind fun zc7 =>
  (gA zc7 9 0 this).bind fun zx8 =>
  (sI zc7 zx8 (((5104 : Int32) + ((4 : Int32) * zx2)) + (1 : Int32)) p2).bind fun zc9 =>
  (gA zc9 9 0 this).bind fun zx10 =>
  (gA zc9 9 0 this).bind fun zx11 =>
  (aI zc9 zx11 (10 : Int32)).bind fun zx12 =>
  (sI zc9 zx10 (((5104 : Int32) + ((4 : Int32) * zx2)) + (2 : Int32)) zx12).bind fun zc13 =>
  (gA zc13 9 0 this).bind fun zx14 =>
  (sI zc13 zx14 (((5104 : Int32) + ((4 : Int32) * zx2)) + (3 : Int32)) p3).bind fun zc15 =>
  (gA zc15 9 0 this).bind fun zx16 =>
  (aI zc15 zx16 (9 : Int32)).bind fun zx17 =>
  (sI zc15 zx16 (9 : Int32) (zx17 + (1 : Int32))).bind fun zc18 =>
  some ((), zc18)
set_option maxRecDepth 100000 in
set_option maxHeartbeats 4000000 in
theorem c_X12_oblige {nx : Nat} {ce : Ce} {this : Nat} {p1 : Int32} {p2 : Int32} {p3 : Int32} {q : Unit × Ce} (hr : m_X12_oblige ce this p1 p2 p3 = some q) : Ct yX12_oblige cX12_oblige 5 none 0 0 0 0 [.ref this, .int p1, .int p2, .int p3] nx ce none q.2 := by
  unfold m_X12_oblige at hr
  refine ct_of (by decide) (Nat.le_of_ble_eq_true rfl) ?_
  intro G C hq hret hin
  show Jd G 0 0 nx ce 0 [(0, .ref this), (1, .int p1), (2, .int p2), (3, .int p3)] []
  refine j_sipush (v := 5104) (pc' := 3) C dX12_oblige_0 kS_5104 rfl ?_
  refine j_iconst (v := 4) (pc' := 4) C dX12_oblige_3 kI_4 rfl ?_
  refine j_aload_n (q := 0) (pc' := 5) C dX12_oblige_4 rfl rfl rfl ?_
  obtain ⟨zx1, hzx1, hr⟩ := ob hr
  refine j_getA (pc' := 8) C dX12_oblige_5 fl_X12_8 hzx1 rfl ?_
  refine j_bipush (v := 9) (pc' := 10) C dX12_oblige_8 kB_9 rfl ?_
  obtain ⟨zx2, hzx2, hr⟩ := ob hr
  refine j_iald (pc' := 11) C dX12_oblige_10 hzx2 rfl ?_
  refine j_imul (pc' := 12) C dX12_oblige_11 rfl ?_
  refine j_iadd (pc' := 13) C dX12_oblige_12 rfl ?_
  refine j_istore (lv' := [(4, .int ((5104 : Int32) + ((4 : Int32) * zx2))), (0, .ref this), (1, .int p1), (2, .int p2), (3, .int p3)]) (pc' := 15) C dX12_oblige_13 (by decide) rfl rfl ?_
  refine j_aload_n (q := 1) (pc' := 16) C dX12_oblige_15 rfl rfl rfl ?_
  obtain ⟨zx3, hzx3, hr⟩ := ob hr
  refine j_getA (pc' := 19) C dX12_oblige_16 fl_X12_8 hzx3 rfl ?_
  refine j_bipush (v := 10) (pc' := 21) C dX12_oblige_19 kB_10 rfl ?_
  refine j_dup2 (pc' := 22) C dX12_oblige_21 rfl rfl rfl ?_
  obtain ⟨zx4, hzx4, hr⟩ := ob hr
  refine j_iald (pc' := 23) C dX12_oblige_22 hzx4 rfl ?_
  refine j_iconst (v := 1) (pc' := 24) C dX12_oblige_23 kI_1 rfl ?_
  refine j_iadd (pc' := 25) C dX12_oblige_24 rfl ?_
  obtain ⟨zc5, hzc5, hr⟩ := ob hr
  refine j_iast (pc' := 26) C dX12_oblige_25 hzc5 rfl ?_
  refine j_aload_n (q := 1) (pc' := 27) C dX12_oblige_26 rfl rfl rfl ?_
  obtain ⟨zx6, hzx6, hr⟩ := ob hr
  refine j_getA (pc' := 30) C dX12_oblige_27 fl_X12_8 hzx6 rfl ?_
  refine j_iload (q := 0) (pc' := 32) C dX12_oblige_30 rfl rfl ?_
  refine j_iload_n (q := 2) (pc' := 33) C dX12_oblige_32 rfl rfl rfl ?_
  obtain ⟨zc7, hzc7, hr⟩ := ob hr
  refine j_iast (pc' := 34) C dX12_oblige_33 hzc7 rfl ?_
  refine j_aload_n (q := 1) (pc' := 35) C dX12_oblige_34 rfl rfl rfl ?_
  obtain ⟨zx8, hzx8, hr⟩ := ob hr
  refine j_getA (pc' := 38) C dX12_oblige_35 fl_X12_8 hzx8 rfl ?_
  refine j_iload (q := 0) (pc' := 40) C dX12_oblige_38 rfl rfl ?_
  refine j_iconst (v := 1) (pc' := 41) C dX12_oblige_40 kI_1 rfl ?_
  refine j_iadd (pc' := 42) C dX12_oblige_41 rfl ?_
  refine j_iload_n (q := 3) (pc' := 43) C dX12_oblige_42 rfl rfl rfl ?_
  obtain ⟨zc9, hzc9, hr⟩ := ob hr
  refine j_iast (pc' := 44) C dX12_oblige_43 hzc9 rfl ?_
  refine j_aload_n (q := 1) (pc' := 45) C dX12_oblige_44 rfl rfl rfl ?_
  obtain ⟨zx10, hzx10, hr⟩ := ob hr
  refine j_getA (pc' := 48) C dX12_oblige_45 fl_X12_8 hzx10 rfl ?_
  refine j_iload (q := 0) (pc' := 50) C dX12_oblige_48 rfl rfl ?_
  refine j_iconst (v := 2) (pc' := 51) C dX12_oblige_50 kI_2 rfl ?_
  refine j_iadd (pc' := 52) C dX12_oblige_51 rfl ?_
  refine j_aload_n (q := 1) (pc' := 53) C dX12_oblige_52 rfl rfl rfl ?_
  obtain ⟨zx11, hzx11, hr⟩ := ob hr
  refine j_getA (pc' := 56) C dX12_oblige_53 fl_X12_8 hzx11 rfl ?_
  refine j_bipush (v := 10) (pc' := 58) C dX12_oblige_56 kB_10 rfl ?_
  obtain ⟨zx12, hzx12, hr⟩ := ob hr
  refine j_iald (pc' := 59) C dX12_oblige_58 hzx12 rfl ?_
  obtain ⟨zc13, hzc13, hr⟩ := ob hr
  refine j_iast (pc' := 60) C dX12_oblige_59 hzc13 rfl ?_
  refine j_aload_n (q := 1) (pc' := 61) C dX12_oblige_60 rfl rfl rfl ?_
  obtain ⟨zx14, hzx14, hr⟩ := ob hr
  refine j_getA (pc' := 64) C dX12_oblige_61 fl_X12_8 hzx14 rfl ?_
  refine j_iload (q := 0) (pc' := 66) C dX12_oblige_64 rfl rfl ?_
  refine j_iconst (v := 3) (pc' := 67) C dX12_oblige_66 kI_3 rfl ?_
  refine j_iadd (pc' := 68) C dX12_oblige_67 rfl ?_
  refine j_iload_n (q := 4) (pc' := 69) C dX12_oblige_68 rfl rfl rfl ?_
  obtain ⟨zc15, hzc15, hr⟩ := ob hr
  refine j_iast (pc' := 70) C dX12_oblige_69 hzc15 rfl ?_
  refine j_aload_n (q := 1) (pc' := 71) C dX12_oblige_70 rfl rfl rfl ?_
  obtain ⟨zx16, hzx16, hr⟩ := ob hr
  refine j_getA (pc' := 74) C dX12_oblige_71 fl_X12_8 hzx16 rfl ?_
  refine j_bipush (v := 9) (pc' := 76) C dX12_oblige_74 kB_9 rfl ?_
  refine j_dup2 (pc' := 77) C dX12_oblige_76 rfl rfl rfl ?_
  obtain ⟨zx17, hzx17, hr⟩ := ob hr
  refine j_iald (pc' := 78) C dX12_oblige_77 hzx17 rfl ?_
  refine j_iconst (v := 1) (pc' := 79) C dX12_oblige_78 kI_1 rfl ?_
  refine j_iadd (pc' := 80) C dX12_oblige_79 rfl ?_
  obtain ⟨zc18, hzc18, hr⟩ := ob hr
  refine j_iast (pc' := 81) C dX12_oblige_80 hzc18 rfl ?_
  have hr := Option.some.inj hr
  subst hr
  exact j_vret C hq hret dX12_oblige_81
def m_X12_outLine (ce : Ce) (this : Nat) (p1 : Int32) : Option (Unit × Ce) :=
  (it (fun (zs1 : Int32 × Ce) =>
    (gA zs1.2 9 0 this).bind fun zx14 =>
    (aI zs1.2 zx14 (9 : Int32)).bind fun zx15 =>
    if (((5104 : Int32) + ((4 : Int32) * zx15)) - (4 : Int32)) ≤ zs1.1 then
      some (Sum.inr ((), zs1.2))
    else
      (gA zs1.2 9 0 this).bind fun zx16 =>
      (gA zs1.2 9 0 this).bind fun zx17 =>
      (aI zs1.2 zx17 (zs1.1 + (4 : Int32))).bind fun zx18 =>
      (sI zs1.2 zx16 zs1.1 zx18).bind fun zc19 =>
      some (Sum.inl ((zs1.1 + (1 : Int32)), zc19))
  ) FU (((5104 : Int32) + ((4 : Int32) * p1)), ce)).bind fun (zo2 : Unit × Ce) =>
  (gA zo2.2 9 0 this).bind fun zx4 =>
  (aI zo2.2 zx4 (9 : Int32)).bind fun zx5 =>
  (sI zo2.2 zx4 (9 : Int32) (zx5 - (1 : Int32))).bind fun zc6 =>
  (it (fun (zs7 : Int32 × Ce) =>
    if (4 : Int32) ≤ zs7.1 then
      some (Sum.inr ((), zs7.2))
    else
      (gA zs7.2 9 0 this).bind fun zx10 =>
      (gA zs7.2 9 0 this).bind fun zx11 =>
      (aI zs7.2 zx11 (9 : Int32)).bind fun zx12 =>
      (sI zs7.2 zx10 (((5104 : Int32) + ((4 : Int32) * zx12)) + zs7.1) (0 : Int32)).bind fun zc13 =>
      some (Sum.inl ((zs7.1 + (1 : Int32)), zc13))
  ) FU ((0 : Int32), zc6)).bind fun (zo8 : Unit × Ce) =>
  some ((), zo8.2)
set_option maxRecDepth 100000 in
set_option maxHeartbeats 4000000 in
theorem c_X12_outLine {nx : Nat} {ce : Ce} {this : Nat} {p1 : Int32} {q : Unit × Ce} (hr : m_X12_outLine ce this p1 = some q) : Ct yX12_outLine cX12_outLine 3 none 0 0 0 0 [.ref this, .int p1] nx ce none q.2 := by
  unfold m_X12_outLine at hr
  refine ct_of (by decide) (Nat.le_of_ble_eq_true rfl) ?_
  intro G C hq hret hin
  show Jd G 0 0 nx ce 0 [(0, .ref this), (1, .int p1)] []
  refine j_sipush (v := 5104) (pc' := 3) C dX12_outLine_0 kS_5104 rfl ?_
  refine j_iconst (v := 4) (pc' := 4) C dX12_outLine_3 kI_4 rfl ?_
  refine j_iload_n (q := 1) (pc' := 5) C dX12_outLine_4 rfl rfl rfl ?_
  refine j_imul (pc' := 6) C dX12_outLine_5 rfl ?_
  refine j_iadd (pc' := 7) C dX12_outLine_6 rfl ?_
  refine j_istore_n (lv' := [(2, .int ((5104 : Int32) + ((4 : Int32) * p1))), (0, .ref this), (1, .int p1)]) (pc' := 8) C dX12_outLine_7 rfl (by decide) rfl rfl ?_
  obtain ⟨zo2, hzo2, rzo2⟩ := ob hr
  have kzo2 : Jd G 0 0 nx zo2.2 47 [(0, .ref this)] [] := by
    have hr := rzo2
    refine j_aload_n (q := 0) (pc' := 48) C dX12_outLine_47 rfl rfl rfl ?_
    obtain ⟨zx4, hzx4, hr⟩ := ob hr
    refine j_getA (pc' := 51) C dX12_outLine_48 fl_X12_8 hzx4 rfl ?_
    refine j_bipush (v := 9) (pc' := 53) C dX12_outLine_51 kB_9 rfl ?_
    refine j_dup2 (pc' := 54) C dX12_outLine_53 rfl rfl rfl ?_
    obtain ⟨zx5, hzx5, hr⟩ := ob hr
    refine j_iald (pc' := 55) C dX12_outLine_54 hzx5 rfl ?_
    refine j_iconst (v := 1) (pc' := 56) C dX12_outLine_55 kI_1 rfl ?_
    refine j_isub (pc' := 57) C dX12_outLine_56 rfl ?_
    obtain ⟨zc6, hzc6, hr⟩ := ob hr
    refine j_iast (pc' := 58) C dX12_outLine_57 hzc6 rfl ?_
    refine j_iconst (v := 0) (pc' := 59) C dX12_outLine_58 kI_0 rfl ?_
    refine j_istore_n (lv' := [(2, .int (0 : Int32)), (0, .ref this)]) (pc' := 60) C dX12_outLine_59 rfl (by decide) rfl rfl ?_
    obtain ⟨zo8, hzo8, rzo8⟩ := ob hr
    have kzo8 : Jd G 0 0 nx zo8.2 92 [] [] := by
      have hr := rzo8
      have hr := Option.some.inj hr
      subst hr
      exact j_vret C hq hret dX12_outLine_92
    refine j_lv (lv' := [(0, .ref this), (2, .int (0 : Int32))]) [1, 0] rfl ?_
    refine it_J (J := (fun (zs7 : Int32 × Ce) => Jd G 0 0 nx zs7.2 60 [(0, .ref this), (2, .int zs7.1)] [])) ?_ hzo8
    clear hzo8
    intro zs7 zr9 hr izs7 ezs7
    refine j_iload_n (q := 1) (pc' := 61) C dX12_outLine_60 rfl rfl rfl ?_
    refine j_iconst (v := 4) (pc' := 62) C dX12_outLine_61 kI_4 rfl ?_
    refine j_ic_ge (tgt := 92) (pc' := 65) C dX12_outLine_62 rfl rfl (fun hc => ?_) (fun hc => ?_)
    · have hr := ifT hc hr
      clear hc
      have hr := ezs7 _ (Option.some.inj hr).symm
      subst hr
      exact j_lv [] rfl kzo8
    · have hr := ifF hc hr
      clear hc
      refine j_aload_n (q := 0) (pc' := 66) C dX12_outLine_65 rfl rfl rfl ?_
      obtain ⟨zx10, hzx10, hr⟩ := ob hr
      refine j_getA (pc' := 69) C dX12_outLine_66 fl_X12_8 hzx10 rfl ?_
      refine j_sipush (v := 5104) (pc' := 72) C dX12_outLine_69 kS_5104 rfl ?_
      refine j_iconst (v := 4) (pc' := 73) C dX12_outLine_72 kI_4 rfl ?_
      refine j_aload_n (q := 0) (pc' := 74) C dX12_outLine_73 rfl rfl rfl ?_
      obtain ⟨zx11, hzx11, hr⟩ := ob hr
      refine j_getA (pc' := 77) C dX12_outLine_74 fl_X12_8 hzx11 rfl ?_
      refine j_bipush (v := 9) (pc' := 79) C dX12_outLine_77 kB_9 rfl ?_
      obtain ⟨zx12, hzx12, hr⟩ := ob hr
      refine j_iald (pc' := 80) C dX12_outLine_79 hzx12 rfl ?_
      refine j_imul (pc' := 81) C dX12_outLine_80 rfl ?_
      refine j_iadd (pc' := 82) C dX12_outLine_81 rfl ?_
      refine j_iload_n (q := 1) (pc' := 83) C dX12_outLine_82 rfl rfl rfl ?_
      refine j_iadd (pc' := 84) C dX12_outLine_83 rfl ?_
      refine j_iconst (v := 0) (pc' := 85) C dX12_outLine_84 kI_0 rfl ?_
      obtain ⟨zc13, hzc13, hr⟩ := ob hr
      refine j_iast (pc' := 86) C dX12_outLine_85 hzc13 rfl ?_
      refine j_iinc (q := 1) (v := 1) (lv' := [(2, .int (zs7.1 + (1 : Int32))), (0, .ref this)]) (pc' := 89) C dX12_outLine_86 rfl kI_1 (by decide) rfl rfl ?_
      refine j_goto (tgt := 60) C dX12_outLine_89 rfl ?_
      have hr := izs7 ((zs7.1 + (1 : Int32)), zc13) (Option.some.inj hr).symm
      exact j_lv [1, 0] rfl hr
  refine j_lv (lv' := [(0, .ref this), (2, .int ((5104 : Int32) + ((4 : Int32) * p1)))]) [1, 0] rfl ?_
  refine it_J (J := (fun (zs1 : Int32 × Ce) => Jd G 0 0 nx zs1.2 8 [(0, .ref this), (2, .int zs1.1)] [])) ?_ hzo2
  clear hzo2
  intro zs1 zr3 hr izs1 ezs1
  refine j_iload_n (q := 1) (pc' := 9) C dX12_outLine_8 rfl rfl rfl ?_
  refine j_sipush (v := 5104) (pc' := 12) C dX12_outLine_9 kS_5104 rfl ?_
  refine j_iconst (v := 4) (pc' := 13) C dX12_outLine_12 kI_4 rfl ?_
  refine j_aload_n (q := 0) (pc' := 14) C dX12_outLine_13 rfl rfl rfl ?_
  obtain ⟨zx14, hzx14, hr⟩ := ob hr
  refine j_getA (pc' := 17) C dX12_outLine_14 fl_X12_8 hzx14 rfl ?_
  refine j_bipush (v := 9) (pc' := 19) C dX12_outLine_17 kB_9 rfl ?_
  obtain ⟨zx15, hzx15, hr⟩ := ob hr
  refine j_iald (pc' := 20) C dX12_outLine_19 hzx15 rfl ?_
  refine j_imul (pc' := 21) C dX12_outLine_20 rfl ?_
  refine j_iadd (pc' := 22) C dX12_outLine_21 rfl ?_
  refine j_iconst (v := 4) (pc' := 23) C dX12_outLine_22 kI_4 rfl ?_
  refine j_isub (pc' := 24) C dX12_outLine_23 rfl ?_
  refine j_ic_ge (tgt := 47) (pc' := 27) C dX12_outLine_24 rfl rfl (fun hc => ?_) (fun hc => ?_)
  · have hr := ifT hc hr
    clear hc
    have hr := ezs1 _ (Option.some.inj hr).symm
    subst hr
    exact j_lv [0] rfl kzo2
  · have hr := ifF hc hr
    clear hc
    refine j_aload_n (q := 0) (pc' := 28) C dX12_outLine_27 rfl rfl rfl ?_
    obtain ⟨zx16, hzx16, hr⟩ := ob hr
    refine j_getA (pc' := 31) C dX12_outLine_28 fl_X12_8 hzx16 rfl ?_
    refine j_iload_n (q := 1) (pc' := 32) C dX12_outLine_31 rfl rfl rfl ?_
    refine j_aload_n (q := 0) (pc' := 33) C dX12_outLine_32 rfl rfl rfl ?_
    obtain ⟨zx17, hzx17, hr⟩ := ob hr
    refine j_getA (pc' := 36) C dX12_outLine_33 fl_X12_8 hzx17 rfl ?_
    refine j_iload_n (q := 1) (pc' := 37) C dX12_outLine_36 rfl rfl rfl ?_
    refine j_iconst (v := 4) (pc' := 38) C dX12_outLine_37 kI_4 rfl ?_
    refine j_iadd (pc' := 39) C dX12_outLine_38 rfl ?_
    obtain ⟨zx18, hzx18, hr⟩ := ob hr
    refine j_iald (pc' := 40) C dX12_outLine_39 hzx18 rfl ?_
    obtain ⟨zc19, hzc19, hr⟩ := ob hr
    refine j_iast (pc' := 41) C dX12_outLine_40 hzc19 rfl ?_
    refine j_iinc (q := 1) (v := 1) (lv' := [(2, .int (zs1.1 + (1 : Int32))), (0, .ref this)]) (pc' := 44) C dX12_outLine_41 rfl kI_1 (by decide) rfl rfl ?_
    refine j_goto (tgt := 8) C dX12_outLine_44 rfl ?_
    have hr := izs1 ((zs1.1 + (1 : Int32)), zc19) (Option.some.inj hr).symm
    exact j_lv [1, 0] rfl hr
def m_X12_isEarlier (ce : Ce) (this : Nat) (p1 : Int32) (p2 : Int32) : Option (Int32) :=
  (rcv ce 9 this).bind fun zz1 =>
  (m_X12_ofLine ce this p1 (1 : Int32)).bind fun zx2 =>
  (rcv ce 9 this).bind fun zz3 =>
  (m_X12_ofLine ce this p2 (1 : Int32)).bind fun zx4 =>
  (
    if zx2 = zx4 then
      (rcv ce 9 this).bind fun zz10 =>
      (m_X12_ofLine ce this p1 (0 : Int32)).bind fun zx11 =>
      (rcv ce 9 this).bind fun zz12 =>
      (m_X12_ofLine ce this p2 (0 : Int32)).bind fun zx13 =>
      if zx11 = zx13 then
        some (2 : Int32)
      else
        some (0 : Int32)
    else
      some (1 : Int32)
  ).bind fun (zj5 : Int32) =>
  (rcv ce 9 this).bind fun zz6 =>
  (m_X12_ofLine ce this p1 zj5).bind fun zx7 =>
  (rcv ce 9 this).bind fun zz8 =>
  (m_X12_ofLine ce this p2 zj5).bind fun zx9 =>
  if zx9 ≤ zx7 then
    some (0 : Int32)
  else
    some (1 : Int32)
set_option maxRecDepth 100000 in
set_option maxHeartbeats 4000000 in
theorem c_X12_isEarlier {nx : Nat} {ce : Ce} {this : Nat} {p1 : Int32} {p2 : Int32} {q : Int32} (hr : m_X12_isEarlier ce this p1 p2 = some q) : Ct yX12_isEarlier cX12_isEarlier 4 (some .boolean) 1 22 0 0 [.ref this, .int p1, .int p2] nx ce (some (.int q)) ce := by
  unfold m_X12_isEarlier at hr
  refine ct_of (by decide) (Nat.le_of_ble_eq_true rfl) ?_
  intro G C hq hret hin
  show Jd G 0 0 nx ce 0 [(0, .ref this), (1, .int p1), (2, .int p2)] []
  refine j_aload_n (q := 0) (pc' := 1) C dX12_isEarlier_0 rfl rfl rfl ?_
  refine j_iload_n (q := 1) (pc' := 2) C dX12_isEarlier_1 rfl rfl rfl ?_
  refine j_iconst (v := 1) (pc' := 3) C dX12_isEarlier_2 kI_1 rfl ?_
  obtain ⟨zz1, hzz1, hr⟩ := ob hr
  obtain ⟨zx2, hzx2, hr⟩ := ob hr
  obtain ⟨fhzz1, hzz1⟩ := rcv_sp hzz1
  refine j_callV (ci := 9) (As := [.int p1, .int (1 : Int32)]) (rest := []) (st1 := [.int zx2]) (pc' := 6) C ⟨wm_1749, wm_78⟩ rfl hzz1 (c_X12_ofLine (nx := nx) hzx2) yw_X12_ofLine wm_1747 rfl rfl (Nat.le_of_ble_eq_true rfl) ⟨by decide, by decide⟩ dX12_isEarlier_3 rfl rfl ?_
  refine j_aload_n (q := 0) (pc' := 7) C dX12_isEarlier_6 rfl rfl rfl ?_
  refine j_iload_n (q := 2) (pc' := 8) C dX12_isEarlier_7 rfl rfl rfl ?_
  refine j_iconst (v := 1) (pc' := 9) C dX12_isEarlier_8 kI_1 rfl ?_
  obtain ⟨zz3, hzz3, hr⟩ := ob hr
  obtain ⟨zx4, hzx4, hr⟩ := ob hr
  obtain ⟨fhzz3, hzz3⟩ := rcv_sp hzz3
  refine j_callV (ci := 9) (As := [.int p2, .int (1 : Int32)]) (rest := [.int zx2]) (st1 := [.int zx4, .int zx2]) (pc' := 12) C ⟨wm_1749, wm_78⟩ rfl hzz3 (c_X12_ofLine (nx := nx) hzx4) yw_X12_ofLine wm_1747 rfl rfl (Nat.le_of_ble_eq_true rfl) ⟨by decide, by decide⟩ dX12_isEarlier_9 rfl rfl ?_
  obtain ⟨zj5, hzj5, rzj5⟩ := ob hr
  have kzj5 : Jd G 0 0 nx ce 39 [(0, .ref this), (1, .int p1), (2, .int p2)] [.int zj5] := by
    have hr := rzj5
    refine j_istore_n (lv' := [(3, .int zj5), (0, .ref this), (1, .int p1), (2, .int p2)]) (pc' := 40) C dX12_isEarlier_39 rfl (by decide) rfl rfl ?_
    refine j_aload_n (q := 1) (pc' := 41) C dX12_isEarlier_40 rfl rfl rfl ?_
    refine j_iload_n (q := 2) (pc' := 42) C dX12_isEarlier_41 rfl rfl rfl ?_
    refine j_iload_n (q := 0) (pc' := 43) C dX12_isEarlier_42 rfl rfl rfl ?_
    obtain ⟨zz6, hzz6, hr⟩ := ob hr
    obtain ⟨zx7, hzx7, hr⟩ := ob hr
    obtain ⟨fhzz6, hzz6⟩ := rcv_sp hzz6
    refine j_callV (ci := 9) (As := [.int p1, .int zj5]) (rest := []) (st1 := [.int zx7]) (pc' := 46) C ⟨wm_1749, wm_78⟩ rfl hzz6 (c_X12_ofLine (nx := nx) hzx7) yw_X12_ofLine wm_1747 rfl rfl (Nat.le_of_ble_eq_true rfl) ⟨by decide, by decide⟩ dX12_isEarlier_43 rfl rfl ?_
    refine j_aload_n (q := 1) (pc' := 47) C dX12_isEarlier_46 rfl rfl rfl ?_
    refine j_iload_n (q := 3) (pc' := 48) C dX12_isEarlier_47 rfl rfl rfl ?_
    refine j_iload_n (q := 0) (pc' := 49) C dX12_isEarlier_48 rfl rfl rfl ?_
    obtain ⟨zz8, hzz8, hr⟩ := ob hr
    obtain ⟨zx9, hzx9, hr⟩ := ob hr
    obtain ⟨fhzz8, hzz8⟩ := rcv_sp hzz8
    refine j_callV (ci := 9) (As := [.int p2, .int zj5]) (rest := [.int zx7]) (st1 := [.int zx9, .int zx7]) (pc' := 52) C ⟨wm_1749, wm_78⟩ rfl hzz8 (c_X12_ofLine (nx := nx) hzx9) yw_X12_ofLine wm_1747 rfl rfl (Nat.le_of_ble_eq_true rfl) ⟨by decide, by decide⟩ dX12_isEarlier_49 rfl rfl ?_
    refine j_ic_ge (tgt := 59) (pc' := 55) C dX12_isEarlier_52 rfl rfl (fun hc => ?_) (fun hc => ?_)
    · have hr := ifT hc hr
      clear hc
      refine j_iconst (v := 0) (pc' := 60) C dX12_isEarlier_59 kI_0 rfl ?_
      have hr := Option.some.inj hr
      subst hr
      exact j_zret C hq hret rfl dX12_isEarlier_60
    · have hr := ifF hc hr
      clear hc
      refine j_iconst (v := 1) (pc' := 56) C dX12_isEarlier_55 kI_1 rfl ?_
      refine j_goto (tgt := 60) C dX12_isEarlier_56 rfl ?_
      have hr := Option.some.inj hr
      subst hr
      exact j_zret C hq hret rfl dX12_isEarlier_60
  clear rzj5
  have hr := hzj5
  clear hzj5
  refine j_ic_eq (tgt := 19) (pc' := 15) C dX12_isEarlier_12 rfl rfl (fun hc => ?_) (fun hc => ?_)
  · have hr := ifT hc hr
    clear hc
    refine j_aload_n (q := 0) (pc' := 20) C dX12_isEarlier_19 rfl rfl rfl ?_
    refine j_iload_n (q := 1) (pc' := 21) C dX12_isEarlier_20 rfl rfl rfl ?_
    refine j_iconst (v := 0) (pc' := 22) C dX12_isEarlier_21 kI_0 rfl ?_
    obtain ⟨zz10, hzz10, hr⟩ := ob hr
    obtain ⟨zx11, hzx11, hr⟩ := ob hr
    obtain ⟨fhzz10, hzz10⟩ := rcv_sp hzz10
    refine j_callV (ci := 9) (As := [.int p1, .int (0 : Int32)]) (rest := []) (st1 := [.int zx11]) (pc' := 25) C ⟨wm_1749, wm_78⟩ rfl hzz10 (c_X12_ofLine (nx := nx) hzx11) yw_X12_ofLine wm_1747 rfl rfl (Nat.le_of_ble_eq_true rfl) ⟨by decide, by decide⟩ dX12_isEarlier_22 rfl rfl ?_
    refine j_aload_n (q := 0) (pc' := 26) C dX12_isEarlier_25 rfl rfl rfl ?_
    refine j_iload_n (q := 2) (pc' := 27) C dX12_isEarlier_26 rfl rfl rfl ?_
    refine j_iconst (v := 0) (pc' := 28) C dX12_isEarlier_27 kI_0 rfl ?_
    obtain ⟨zz12, hzz12, hr⟩ := ob hr
    obtain ⟨zx13, hzx13, hr⟩ := ob hr
    obtain ⟨fhzz12, hzz12⟩ := rcv_sp hzz12
    refine j_callV (ci := 9) (As := [.int p2, .int (0 : Int32)]) (rest := [.int zx11]) (st1 := [.int zx13, .int zx11]) (pc' := 31) C ⟨wm_1749, wm_78⟩ rfl hzz12 (c_X12_ofLine (nx := nx) hzx13) yw_X12_ofLine wm_1747 rfl rfl (Nat.le_of_ble_eq_true rfl) ⟨by decide, by decide⟩ dX12_isEarlier_28 rfl rfl ?_
    refine j_ic_eq (tgt := 38) (pc' := 34) C dX12_isEarlier_31 rfl rfl (fun hc => ?_) (fun hc => ?_)
    · have hr := ifT hc hr
      clear hc
      refine j_iconst (v := 2) (pc' := 39) C dX12_isEarlier_38 kI_2 rfl ?_
      have hr := Option.some.inj hr
      subst hr
      exact j_lv [0, 1, 2] rfl kzj5
    · have hr := ifF hc hr
      clear hc
      refine j_iconst (v := 0) (pc' := 35) C dX12_isEarlier_34 kI_0 rfl ?_
      refine j_goto (tgt := 39) C dX12_isEarlier_35 rfl ?_
      have hr := Option.some.inj hr
      subst hr
      exact j_lv [0, 1, 2] rfl kzj5
  · have hr := ifF hc hr
    clear hc
    refine j_iconst (v := 1) (pc' := 16) C dX12_isEarlier_15 kI_1 rfl ?_
    refine j_goto (tgt := 39) C dX12_isEarlier_16 rfl ?_
    have hr := Option.some.inj hr
    subst hr
    exact j_lv [0, 1, 2] rfl kzj5
def m_X12_nextLine (ce : Ce) (this : Nat) (p1 : Int32) : Option (Int32) :=
  (it (fun (zs1 : Int32 × Int32) =>
    (gA ce 9 0 this).bind fun zx4 =>
    (aI ce zx4 (9 : Int32)).bind fun zx5 =>
    if zx5 ≤ zs1.2 then
      some (Sum.inr zs1.1)
    else
      (
        if p1 = (-1 : Int32) then
          some (Sum.inr zs1.2)
        else
          (rcv ce 9 this).bind fun zz9 =>
          (m_X12_isEarlier ce this p1 zs1.2).bind fun zx10 =>
          if zx10 = 0 then
            some (Sum.inl (Sum.inl (zs1.1, (zs1.2 + (1 : Int32)))))
          else
            some (Sum.inr zs1.2)
      ).bind fun (zj6 : ((Int32 × Int32) ⊕ Int32) ⊕ Int32) => Sum.elim (fun wzj6 => some wzj6) (fun vzj6 =>
        if zs1.1 = (-1 : Int32) then
          some (Sum.inl (vzj6, (vzj6 + (1 : Int32))))
        else
          (rcv ce 9 this).bind fun zz7 =>
          (m_X12_isEarlier ce this vzj6 zs1.1).bind fun zx8 =>
          if zx8 = 0 then
            some (Sum.inl (zs1.1, (vzj6 + (1 : Int32))))
          else
            some (Sum.inl (vzj6, (vzj6 + (1 : Int32))))
      ) zj6
  ) FU ((-1 : Int32), (0 : Int32))).bind fun (zo2 : Int32) =>
  some zo2
set_option maxRecDepth 100000 in
set_option maxHeartbeats 4000000 in
theorem c_X12_nextLine {nx : Nat} {ce : Ce} {this : Nat} {p1 : Int32} {q : Int32} (hr : m_X12_nextLine ce this p1 = some q) : Ct yX12_nextLine cX12_nextLine 4 (some .int) 2 45 0 0 [.ref this, .int p1] nx ce (some (.int q)) ce := by
  unfold m_X12_nextLine at hr
  refine ct_of (by decide) (Nat.le_of_ble_eq_true rfl) ?_
  intro G C hq hret hin
  show Jd G 0 0 nx ce 0 [(0, .ref this), (1, .int p1)] []
  refine j_iconst (v := -1) (pc' := 1) C dX12_nextLine_0 kI_m1 rfl ?_
  refine j_istore_n (lv' := [(2, .int (-1 : Int32)), (0, .ref this), (1, .int p1)]) (pc' := 2) C dX12_nextLine_1 rfl (by decide) rfl rfl ?_
  refine j_iconst (v := 0) (pc' := 3) C dX12_nextLine_2 kI_0 rfl ?_
  refine j_istore_n (lv' := [(3, .int (0 : Int32)), (2, .int (-1 : Int32)), (0, .ref this), (1, .int p1)]) (pc' := 4) C dX12_nextLine_3 rfl (by decide) rfl rfl ?_
  obtain ⟨zo2, hzo2, rzo2⟩ := ob hr
  have kzo2 : Jd G 0 0 nx ce 51 [(2, .int zo2)] [] := by
    have hr := rzo2
    refine j_iload_n (q := 0) (pc' := 52) C dX12_nextLine_51 rfl rfl rfl ?_
    have hr := Option.some.inj hr
    subst hr
    exact j_iret C hq hret dX12_nextLine_52
  refine j_lv (lv' := [(0, .ref this), (1, .int p1), (2, .int (-1 : Int32)), (3, .int (0 : Int32))]) [2, 3, 1, 0] rfl ?_
  refine it_J (J := (fun (zs1 : Int32 × Int32) => Jd G 0 0 nx ce 4 [(0, .ref this), (1, .int p1), (2, .int zs1.1), (3, .int zs1.2)] [])) ?_ hzo2
  clear hzo2
  intro zs1 zr3 hr izs1 ezs1
  refine j_iload_n (q := 3) (pc' := 5) C dX12_nextLine_4 rfl rfl rfl ?_
  refine j_aload_n (q := 0) (pc' := 6) C dX12_nextLine_5 rfl rfl rfl ?_
  obtain ⟨zx4, hzx4, hr⟩ := ob hr
  refine j_getA (pc' := 9) C dX12_nextLine_6 fl_X12_8 hzx4 rfl ?_
  refine j_bipush (v := 9) (pc' := 11) C dX12_nextLine_9 kB_9 rfl ?_
  obtain ⟨zx5, hzx5, hr⟩ := ob hr
  refine j_iald (pc' := 12) C dX12_nextLine_11 hzx5 rfl ?_
  refine j_ic_ge (tgt := 51) (pc' := 15) C dX12_nextLine_12 rfl rfl (fun hc => ?_) (fun hc => ?_)
  · have hr := ifT hc hr
    clear hc
    have hr := ezs1 _ (Option.some.inj hr).symm
    subst hr
    exact j_lv [2] rfl kzo2
  · have hr := ifF hc hr
    clear hc
    refine j_iload_n (q := 1) (pc' := 16) C dX12_nextLine_15 rfl rfl rfl ?_
    refine j_iconst (v := -1) (pc' := 17) C dX12_nextLine_16 kI_m1 rfl ?_
    obtain ⟨zj6, hzj6, rzj6⟩ := ob hr
    have kzj6 : ∀ vzj6, zj6 = Sum.inr vzj6 → Jd G 0 0 nx ce 29 [(0, .ref this), (1, .int p1), (2, .int zs1.1), (3, .int vzj6)] [] := by
      intro vzj6 ezj6
      rw [ezj6] at rzj6
      have hr := elR rzj6
      refine j_iload_n (q := 2) (pc' := 30) C dX12_nextLine_29 rfl rfl rfl ?_
      refine j_iconst (v := -1) (pc' := 31) C dX12_nextLine_30 kI_m1 rfl ?_
      refine j_ic_eq (tgt := 43) (pc' := 34) C dX12_nextLine_31 rfl rfl (fun hc => ?_) (fun hc => ?_)
      · have hr := ifT hc hr
        clear hc
        refine j_iload_n (q := 3) (pc' := 44) C dX12_nextLine_43 rfl rfl rfl ?_
        refine j_istore_n (lv' := [(2, .int vzj6), (0, .ref this), (1, .int p1), (3, .int vzj6)]) (pc' := 45) C dX12_nextLine_44 rfl (by decide) rfl rfl ?_
        refine j_iinc (q := 3) (v := 1) (lv' := [(3, .int (vzj6 + (1 : Int32))), (2, .int vzj6), (0, .ref this), (1, .int p1)]) (pc' := 48) C dX12_nextLine_45 rfl kI_1 (by decide) rfl rfl ?_
        refine j_goto (tgt := 4) C dX12_nextLine_48 rfl ?_
        have hr := izs1 (vzj6, (vzj6 + (1 : Int32))) (Option.some.inj hr).symm
        exact j_lv [2, 3, 1, 0] rfl hr
      · have hr := ifF hc hr
        clear hc
        refine j_aload_n (q := 0) (pc' := 35) C dX12_nextLine_34 rfl rfl rfl ?_
        refine j_iload_n (q := 3) (pc' := 36) C dX12_nextLine_35 rfl rfl rfl ?_
        refine j_iload_n (q := 2) (pc' := 37) C dX12_nextLine_36 rfl rfl rfl ?_
        obtain ⟨zz7, hzz7, hr⟩ := ob hr
        obtain ⟨zx8, hzx8, hr⟩ := ob hr
        obtain ⟨fhzz7, hzz7⟩ := rcv_sp hzz7
        refine j_callV (ci := 9) (As := [.int vzj6, .int zs1.1]) (rest := []) (st1 := [.int zx8]) (pc' := 40) C ⟨wm_1745, wm_77⟩ rfl hzz7 (c_X12_isEarlier (nx := nx) hzx8) yw_X12_isEarlier wm_1743 rfl rfl (Nat.le_of_ble_eq_true rfl) ⟨by decide, by decide⟩ dX12_nextLine_37 rfl rfl ?_
        refine j_if_eq (tgt := 45) (pc' := 43) C dX12_nextLine_40 rfl rfl (fun hc => ?_) (fun hc => ?_)
        · have hr := ifT hc hr
          clear hc
          refine j_iinc (q := 3) (v := 1) (lv' := [(3, .int (vzj6 + (1 : Int32))), (0, .ref this), (1, .int p1), (2, .int zs1.1)]) (pc' := 48) C dX12_nextLine_45 rfl kI_1 (by decide) rfl rfl ?_
          refine j_goto (tgt := 4) C dX12_nextLine_48 rfl ?_
          have hr := izs1 (zs1.1, (vzj6 + (1 : Int32))) (Option.some.inj hr).symm
          exact j_lv [1, 2, 3, 0] rfl hr
        · have hr := ifF hc hr
          clear hc
          refine j_iload_n (q := 3) (pc' := 44) C dX12_nextLine_43 rfl rfl rfl ?_
          refine j_istore_n (lv' := [(2, .int vzj6), (0, .ref this), (1, .int p1), (3, .int vzj6)]) (pc' := 45) C dX12_nextLine_44 rfl (by decide) rfl rfl ?_
          refine j_iinc (q := 3) (v := 1) (lv' := [(3, .int (vzj6 + (1 : Int32))), (2, .int vzj6), (0, .ref this), (1, .int p1)]) (pc' := 48) C dX12_nextLine_45 rfl kI_1 (by decide) rfl rfl ?_
          refine j_goto (tgt := 4) C dX12_nextLine_48 rfl ?_
          have hr := izs1 (vzj6, (vzj6 + (1 : Int32))) (Option.some.inj hr).symm
          exact j_lv [2, 3, 1, 0] rfl hr
    have hr := hzj6
    clear hzj6
    refine j_ic_eq (tgt := 29) (pc' := 20) C dX12_nextLine_17 rfl rfl (fun hc => ?_) (fun hc => ?_)
    · have hr := ifT hc hr
      clear hc
      have hr := Option.some.inj hr
      subst hr
      exact j_lv [0, 1, 2, 3] rfl (kzj6 _ rfl)
    · have hr := ifF hc hr
      clear hc
      refine j_aload_n (q := 0) (pc' := 21) C dX12_nextLine_20 rfl rfl rfl ?_
      refine j_iload_n (q := 1) (pc' := 22) C dX12_nextLine_21 rfl rfl rfl ?_
      refine j_iload_n (q := 3) (pc' := 23) C dX12_nextLine_22 rfl rfl rfl ?_
      obtain ⟨zz9, hzz9, hr⟩ := ob hr
      obtain ⟨zx10, hzx10, hr⟩ := ob hr
      obtain ⟨fhzz9, hzz9⟩ := rcv_sp hzz9
      refine j_callV (ci := 9) (As := [.int p1, .int zs1.2]) (rest := []) (st1 := [.int zx10]) (pc' := 26) C ⟨wm_1745, wm_77⟩ rfl hzz9 (c_X12_isEarlier (nx := nx) hzx10) yw_X12_isEarlier wm_1743 rfl rfl (Nat.le_of_ble_eq_true rfl) ⟨by decide, by decide⟩ dX12_nextLine_23 rfl rfl ?_
      refine j_if_eq (tgt := 45) (pc' := 29) C dX12_nextLine_26 rfl rfl (fun hc => ?_) (fun hc => ?_)
      · have hr := ifT hc hr
        clear hc
        refine j_iinc (q := 3) (v := 1) (lv' := [(3, .int (zs1.2 + (1 : Int32))), (0, .ref this), (1, .int p1), (2, .int zs1.1)]) (pc' := 48) C dX12_nextLine_45 rfl kI_1 (by decide) rfl rfl ?_
        refine j_goto (tgt := 4) C dX12_nextLine_48 rfl ?_
        have hr := Option.some.inj hr
        subst hr
        have hr := elL rzj6
        have hr := izs1 (zs1.1, (zs1.2 + (1 : Int32))) (Option.some.inj hr).symm
        exact j_lv [1, 2, 3, 0] rfl hr
      · have hr := ifF hc hr
        clear hc
        have hr := Option.some.inj hr
        subst hr
        exact j_lv [0, 1, 2, 3] rfl (kzj6 _ rfl)
def m_X12_lineOf (ce : Ce) (this : Nat) (p1 : Int32) : Option (Int32) :=
  (it (fun (zs1 : Int32) =>
    (gA ce 9 0 this).bind fun zx4 =>
    (aI ce zx4 (9 : Int32)).bind fun zx5 =>
    if zx5 ≤ zs1 then
      some (Sum.inr (Sum.inr ()))
    else
      (rcv ce 9 this).bind fun zz6 =>
      (m_X12_ofLine ce this zs1 (2 : Int32)).bind fun zx7 =>
      if zx7 = p1 then
        some (Sum.inr (Sum.inl zs1))
      else
        some (Sum.inl (zs1 + (1 : Int32)))
  ) FU (0 : Int32)).bind fun (zo2 : Int32 ⊕ Unit) =>
  Sum.elim (fun wzo2 => some wzo2) (fun vzo2 =>
    some (-1 : Int32)
  ) zo2
set_option maxRecDepth 100000 in
set_option maxHeartbeats 4000000 in
theorem c_X12_lineOf {nx : Nat} {ce : Ce} {this : Nat} {p1 : Int32} {q : Int32} (hr : m_X12_lineOf ce this p1 = some q) : Ct yX12_lineOf cX12_lineOf 3 (some .int) 1 22 0 0 [.ref this, .int p1] nx ce (some (.int q)) ce := by
  unfold m_X12_lineOf at hr
  refine ct_of (by decide) (Nat.le_of_ble_eq_true rfl) ?_
  intro G C hq hret hin
  show Jd G 0 0 nx ce 0 [(0, .ref this), (1, .int p1)] []
  refine j_iconst (v := 0) (pc' := 1) C dX12_lineOf_0 kI_0 rfl ?_
  refine j_istore_n (lv' := [(2, .int (0 : Int32)), (0, .ref this), (1, .int p1)]) (pc' := 2) C dX12_lineOf_1 rfl (by decide) rfl rfl ?_
  obtain ⟨zo2, hzo2, rzo2⟩ := ob hr
  have kzo2 : ∀ vzo2, zo2 = Sum.inr vzo2 → Jd G 0 0 nx ce 31 [] [] := by
    intro vzo2 ezo2
    rw [ezo2] at rzo2
    have hr := elR rzo2
    refine j_iconst (v := -1) (pc' := 32) C dX12_lineOf_31 kI_m1 rfl ?_
    have hr := Option.some.inj hr
    subst hr
    exact j_iret C hq hret dX12_lineOf_32
  refine j_lv (lv' := [(0, .ref this), (1, .int p1), (2, .int (0 : Int32))]) [1, 2, 0] rfl ?_
  refine it_J (J := (fun (zs1 : Int32) => Jd G 0 0 nx ce 2 [(0, .ref this), (1, .int p1), (2, .int zs1)] [])) ?_ hzo2
  clear hzo2
  intro zs1 zr3 hr izs1 ezs1
  refine j_iload_n (q := 2) (pc' := 3) C dX12_lineOf_2 rfl rfl rfl ?_
  refine j_aload_n (q := 0) (pc' := 4) C dX12_lineOf_3 rfl rfl rfl ?_
  obtain ⟨zx4, hzx4, hr⟩ := ob hr
  refine j_getA (pc' := 7) C dX12_lineOf_4 fl_X12_8 hzx4 rfl ?_
  refine j_bipush (v := 9) (pc' := 9) C dX12_lineOf_7 kB_9 rfl ?_
  obtain ⟨zx5, hzx5, hr⟩ := ob hr
  refine j_iald (pc' := 10) C dX12_lineOf_9 hzx5 rfl ?_
  refine j_ic_ge (tgt := 31) (pc' := 13) C dX12_lineOf_10 rfl rfl (fun hc => ?_) (fun hc => ?_)
  · have hr := ifT hc hr
    clear hc
    have hr := ezs1 _ (Option.some.inj hr).symm
    subst hr
    exact j_lv [] rfl (kzo2 _ rfl)
  · have hr := ifF hc hr
    clear hc
    refine j_aload_n (q := 0) (pc' := 14) C dX12_lineOf_13 rfl rfl rfl ?_
    refine j_iload_n (q := 2) (pc' := 15) C dX12_lineOf_14 rfl rfl rfl ?_
    refine j_iconst (v := 2) (pc' := 16) C dX12_lineOf_15 kI_2 rfl ?_
    obtain ⟨zz6, hzz6, hr⟩ := ob hr
    obtain ⟨zx7, hzx7, hr⟩ := ob hr
    obtain ⟨fhzz6, hzz6⟩ := rcv_sp hzz6
    refine j_callV (ci := 9) (As := [.int zs1, .int (2 : Int32)]) (rest := []) (st1 := [.int zx7]) (pc' := 19) C ⟨wm_1749, wm_78⟩ rfl hzz6 (c_X12_ofLine (nx := nx) hzx7) yw_X12_ofLine wm_1747 rfl rfl (Nat.le_of_ble_eq_true rfl) ⟨by decide, by decide⟩ dX12_lineOf_16 rfl rfl ?_
    refine j_iload_n (q := 1) (pc' := 20) C dX12_lineOf_19 rfl rfl rfl ?_
    refine j_ic_ne (tgt := 25) (pc' := 23) C dX12_lineOf_20 rfl rfl (fun hc => ?_) (fun hc => ?_)
    · have hr := ifF hc hr
      clear hc
      refine j_iinc (q := 2) (v := 1) (lv' := [(2, .int (zs1 + (1 : Int32))), (0, .ref this), (1, .int p1)]) (pc' := 28) C dX12_lineOf_25 rfl kI_1 (by decide) rfl rfl ?_
      refine j_goto (tgt := 2) C dX12_lineOf_28 rfl ?_
      have hr := izs1 (zs1 + (1 : Int32)) (Option.some.inj hr).symm
      exact j_lv [1, 2, 0] rfl hr
    · have hr := ifT hc hr
      clear hc
      refine j_iload_n (q := 2) (pc' := 24) C dX12_lineOf_23 rfl rfl rfl ?_
      have hr := ezs1 _ (Option.some.inj hr).symm
      subst hr
      have hr := elL rzo2
      have hr := Option.some.inj hr
      subst hr
      exact j_iret C hq hret dX12_lineOf_24
def m_X12_aheadOf (ce : Ce) (this : Nat) (p1 : Int32) (p2 : Int64) : Option (Int32) :=
  (it (fun (zs1 : Int32) =>
    (rcv ce 9 this).bind fun zz4 =>
    (m_X12_states ce this).bind fun zx5 =>
    if zx5 ≤ zs1 then
      some (Sum.inr (Sum.inr ()))
    else
      if zs1 = p1 then
        some (Sum.inl (zs1 + (1 : Int32)))
      else
        (m_X12_has p2 zs1).bind fun zx6 =>
        if zx6 = 0 then
          some (Sum.inl (zs1 + (1 : Int32)))
        else
          (rcv ce 9 this).bind fun zz7 =>
          (m_X12_after ce this zs1).bind fun zx8 =>
          (m_X12_has zx8 p1).bind fun zx9 =>
          if zx9 = 0 then
            some (Sum.inl (zs1 + (1 : Int32)))
          else
            some (Sum.inr (Sum.inl zs1))
  ) FU (0 : Int32)).bind fun (zo2 : Int32 ⊕ Unit) =>
  Sum.elim (fun wzo2 => some wzo2) (fun vzo2 =>
    some (-1 : Int32)
  ) zo2
set_option maxRecDepth 100000 in
set_option maxHeartbeats 4000000 in
theorem c_X12_aheadOf {nx : Nat} {ce : Ce} {this : Nat} {p1 : Int32} {p2 : Int64} {q : Int32} (hr : m_X12_aheadOf ce this p1 p2 = some q) : Ct yX12_aheadOf cX12_aheadOf 5 (some .int) 3 68 0 0 [.ref this, .int p1, .long p2] nx ce (some (.int q)) ce := by
  unfold m_X12_aheadOf at hr
  refine ct_of (by decide) (Nat.le_of_ble_eq_true rfl) ?_
  intro G C hq hret hin
  show Jd G 0 0 nx ce 0 [(0, .ref this), (1, .int p1), (2, .long p2)] []
  refine j_iconst (v := 0) (pc' := 1) C dX12_aheadOf_0 kI_0 rfl ?_
  refine j_istore (lv' := [(4, .int (0 : Int32)), (0, .ref this), (1, .int p1), (2, .long p2)]) (pc' := 3) C dX12_aheadOf_1 (by decide) rfl rfl ?_
  obtain ⟨zo2, hzo2, rzo2⟩ := ob hr
  have kzo2 : ∀ vzo2, zo2 = Sum.inr vzo2 → Jd G 0 0 nx ce 49 [] [] := by
    intro vzo2 ezo2
    rw [ezo2] at rzo2
    have hr := elR rzo2
    refine j_iconst (v := -1) (pc' := 50) C dX12_aheadOf_49 kI_m1 rfl ?_
    have hr := Option.some.inj hr
    subst hr
    exact j_iret C hq hret dX12_aheadOf_50
  refine j_lv (lv' := [(0, .ref this), (1, .int p1), (2, .long p2), (4, .int (0 : Int32))]) [1, 2, 3, 0] rfl ?_
  refine it_J (J := (fun (zs1 : Int32) => Jd G 0 0 nx ce 3 [(0, .ref this), (1, .int p1), (2, .long p2), (4, .int zs1)] [])) ?_ hzo2
  clear hzo2
  intro zs1 zr3 hr izs1 ezs1
  refine j_iload (q := 3) (pc' := 5) C dX12_aheadOf_3 rfl rfl ?_
  refine j_aload_n (q := 0) (pc' := 6) C dX12_aheadOf_5 rfl rfl rfl ?_
  obtain ⟨zz4, hzz4, hr⟩ := ob hr
  obtain ⟨zx5, hzx5, hr⟩ := ob hr
  obtain ⟨fhzz4, hzz4⟩ := rcv_sp hzz4
  refine j_callV (ci := 9) (As := []) (rest := [.int zs1]) (st1 := [.int zx5, .int zs1]) (pc' := 9) C ⟨wm_1642, wm_58⟩ rfl hzz4 (c_X12_states (nx := nx) hzx5) yw_X12_states wm_1640 rfl rfl (Nat.le_of_ble_eq_true rfl) ⟨by decide, by decide⟩ dX12_aheadOf_6 rfl rfl ?_
  refine j_ic_ge (tgt := 49) (pc' := 12) C dX12_aheadOf_9 rfl rfl (fun hc => ?_) (fun hc => ?_)
  · have hr := ifT hc hr
    clear hc
    have hr := ezs1 _ (Option.some.inj hr).symm
    subst hr
    exact j_lv [] rfl (kzo2 _ rfl)
  · have hr := ifF hc hr
    clear hc
    refine j_iload (q := 3) (pc' := 14) C dX12_aheadOf_12 rfl rfl ?_
    refine j_iload_n (q := 1) (pc' := 15) C dX12_aheadOf_14 rfl rfl rfl ?_
    refine j_ic_eq (tgt := 43) (pc' := 18) C dX12_aheadOf_15 rfl rfl (fun hc => ?_) (fun hc => ?_)
    · have hr := ifT hc hr
      clear hc
      refine j_iinc (q := 3) (v := 1) (lv' := [(4, .int (zs1 + (1 : Int32))), (0, .ref this), (1, .int p1), (2, .long p2)]) (pc' := 46) C dX12_aheadOf_43 rfl kI_1 (by decide) rfl rfl ?_
      refine j_goto (tgt := 3) C dX12_aheadOf_46 rfl ?_
      have hr := izs1 (zs1 + (1 : Int32)) (Option.some.inj hr).symm
      exact j_lv [1, 2, 3, 0] rfl hr
    · have hr := ifF hc hr
      clear hc
      refine j_lload_n (q := 2) (pc' := 19) C dX12_aheadOf_18 rfl rfl rfl ?_
      refine j_iload (q := 3) (pc' := 21) C dX12_aheadOf_19 rfl rfl ?_
      obtain ⟨zx6, hzx6, hr⟩ := ob hr
      refine j_callS (As := [.long p2, .int zs1]) (rest := []) (st1 := [.int zx6]) (pc' := 24) C wm_1645 (c_X12_has (nx := nx) (ce := ce) hzx6) yw_X12_has wm_1644 rfl rfl (Nat.le_of_ble_eq_true rfl) ⟨by decide, by decide⟩ dX12_aheadOf_21 rfl rfl ?_
      refine j_if_eq (tgt := 43) (pc' := 27) C dX12_aheadOf_24 rfl rfl (fun hc => ?_) (fun hc => ?_)
      · have hr := ifT hc hr
        clear hc
        refine j_iinc (q := 3) (v := 1) (lv' := [(4, .int (zs1 + (1 : Int32))), (0, .ref this), (1, .int p1), (2, .long p2)]) (pc' := 46) C dX12_aheadOf_43 rfl kI_1 (by decide) rfl rfl ?_
        refine j_goto (tgt := 3) C dX12_aheadOf_46 rfl ?_
        have hr := izs1 (zs1 + (1 : Int32)) (Option.some.inj hr).symm
        exact j_lv [1, 2, 3, 0] rfl hr
      · have hr := ifF hc hr
        clear hc
        refine j_aload_n (q := 0) (pc' := 28) C dX12_aheadOf_27 rfl rfl rfl ?_
        refine j_iload (q := 3) (pc' := 30) C dX12_aheadOf_28 rfl rfl ?_
        obtain ⟨zz7, hzz7, hr⟩ := ob hr
        obtain ⟨zx8, hzx8, hr⟩ := ob hr
        obtain ⟨fhzz7, hzz7⟩ := rcv_sp hzz7
        refine j_callV (ci := 9) (As := [.int zs1]) (rest := []) (st1 := [.long zx8]) (pc' := 33) C ⟨wm_1761, wm_81⟩ rfl hzz7 (c_X12_after (nx := nx) hzx8) yw_X12_after wm_1759 rfl rfl (Nat.le_of_ble_eq_true rfl) ⟨by decide, by decide⟩ dX12_aheadOf_30 rfl rfl ?_
        refine j_iload_n (q := 1) (pc' := 34) C dX12_aheadOf_33 rfl rfl rfl ?_
        obtain ⟨zx9, hzx9, hr⟩ := ob hr
        refine j_callS (As := [.long zx8, .int p1]) (rest := []) (st1 := [.int zx9]) (pc' := 37) C wm_1645 (c_X12_has (nx := nx) (ce := ce) hzx9) yw_X12_has wm_1644 rfl rfl (Nat.le_of_ble_eq_true rfl) ⟨by decide, by decide⟩ dX12_aheadOf_34 rfl rfl ?_
        refine j_if_eq (tgt := 43) (pc' := 40) C dX12_aheadOf_37 rfl rfl (fun hc => ?_) (fun hc => ?_)
        · have hr := ifT hc hr
          clear hc
          refine j_iinc (q := 3) (v := 1) (lv' := [(4, .int (zs1 + (1 : Int32))), (0, .ref this), (1, .int p1), (2, .long p2)]) (pc' := 46) C dX12_aheadOf_43 rfl kI_1 (by decide) rfl rfl ?_
          refine j_goto (tgt := 3) C dX12_aheadOf_46 rfl ?_
          have hr := izs1 (zs1 + (1 : Int32)) (Option.some.inj hr).symm
          exact j_lv [1, 2, 3, 0] rfl hr
        · have hr := ifF hc hr
          clear hc
          refine j_iload (q := 3) (pc' := 42) C dX12_aheadOf_40 rfl rfl ?_
          have hr := ezs1 _ (Option.some.inj hr).symm
          subst hr
          have hr := elL rzo2
          have hr := Option.some.inj hr
          subst hr
          exact j_iret C hq hret dX12_aheadOf_42
def m_X12_seek (ce : Ce) (this : Nat) : Option (Unit × Ce) :=
  (rcv ce 9 this).bind fun zz1 =>
  (m_X12_aims ce this).bind fun zx2 =>
  (gA ce 9 0 this).bind fun zx3 =>
  (aI ce zx3 (4 : Int32)).bind fun zx4 =>
  (rcv ce 9 this).bind fun zz5 =>
  (m_X12_openAt ce this zx4).bind fun zx6 =>
  if (lg_cmp (zx2 &&& zx6) (0 : Int64)) = 0 then
    (gA ce 9 0 this).bind fun zx17 =>
    (aI ce zx17 (4 : Int32)).bind fun zx18 =>
    (sI ce zx17 (4 : Int32) (zx18 + (1 : Int32))).bind fun zc19 =>
    (gA zc19 9 0 this).bind fun zx20 =>
    (sI zc19 zx20 (5 : Int32) (2 : Int32)).bind fun zc21 =>
    (gA zc21 9 0 this).bind fun zx22 =>
    (sI zc21 zx22 (6 : Int32) (1 : Int32)).bind fun zc23 =>
    some ((), zc23)
  else
    (it (fun (zs7 : (Int64 × Int32) × Ce) =>
      if (8 : Int32) ≤ zs7.1.2 then
        some (Sum.inr ((), zs7.2))
      else
        if (lg_cmp zs7.1.1 (0 : Int64)) = 0 then
          some (Sum.inr ((), zs7.2))
        else
          (m_X12_lowest zs7.1.1).bind fun zx12 =>
          (gA zs7.2 9 0 this).bind fun zx13 =>
          (aI zs7.2 zx13 (4 : Int32)).bind fun zx14 =>
          (rcv zs7.2 9 this).bind fun zz15 =>
          (m_X12_oblige zs7.2 this zx12 zx14 (0 : Int32)).bind fun zq16 =>
          some (Sum.inl (((zs7.1.1 &&& (zs7.1.1 - (1 : Int64))), (zs7.1.2 + (1 : Int32))), zq16.2))
    ) FU (((zx2 &&& zx6), (0 : Int32)), ce)).bind fun (zo8 : Unit × Ce) =>
    (gA zo8.2 9 0 this).bind fun zx10 =>
    (sI zo8.2 zx10 (5 : Int32) (1 : Int32)).bind fun zc11 =>
    some ((), zc11)
set_option maxRecDepth 100000 in
set_option maxHeartbeats 4000000 in
theorem c_X12_seek {nx : Nat} {ce : Ce} {this : Nat} {q : Unit × Ce} (hr : m_X12_seek ce this = some q) : Ct yX12_seek cX12_seek 4 none 5 110 0 0 [.ref this] nx ce none q.2 := by
  unfold m_X12_seek at hr
  refine ct_of (by decide) (Nat.le_of_ble_eq_true rfl) ?_
  intro G C hq hret hin
  show Jd G 0 0 nx ce 0 [(0, .ref this)] []
  refine j_aload_n (q := 0) (pc' := 1) C dX12_seek_0 rfl rfl rfl ?_
  obtain ⟨zz1, hzz1, hr⟩ := ob hr
  obtain ⟨zx2, hzx2, hr⟩ := ob hr
  obtain ⟨fhzz1, hzz1⟩ := rcv_sp hzz1
  refine j_callV (ci := 9) (As := []) (rest := []) (st1 := [.long zx2]) (pc' := 4) C ⟨wm_1697, wm_66⟩ rfl hzz1 (c_X12_aims (nx := nx) hzx2) yw_X12_aims wm_1695 rfl rfl (Nat.le_of_ble_eq_true rfl) ⟨by decide, by decide⟩ dX12_seek_1 rfl rfl ?_
  refine j_aload_n (q := 0) (pc' := 5) C dX12_seek_4 rfl rfl rfl ?_
  refine j_aload_n (q := 0) (pc' := 6) C dX12_seek_5 rfl rfl rfl ?_
  obtain ⟨zx3, hzx3, hr⟩ := ob hr
  refine j_getA (pc' := 9) C dX12_seek_6 fl_X12_8 hzx3 rfl ?_
  refine j_iconst (v := 4) (pc' := 10) C dX12_seek_9 kI_4 rfl ?_
  obtain ⟨zx4, hzx4, hr⟩ := ob hr
  refine j_iald (pc' := 11) C dX12_seek_10 hzx4 rfl ?_
  obtain ⟨zz5, hzz5, hr⟩ := ob hr
  obtain ⟨zx6, hzx6, hr⟩ := ob hr
  obtain ⟨fhzz5, hzz5⟩ := rcv_sp hzz5
  refine j_callV (ci := 9) (As := [.int zx4]) (rest := [.long zx2]) (st1 := [.long zx6, .long zx2]) (pc' := 14) C ⟨wm_1706, wm_68⟩ rfl hzz5 (c_X12_openAt (nx := nx) hzx6) yw_X12_openAt wm_1704 rfl rfl (Nat.le_of_ble_eq_true rfl) ⟨by decide, by decide⟩ dX12_seek_11 rfl rfl ?_
  refine j_land (pc' := 15) C dX12_seek_14 rfl ?_
  refine j_lstore_n (lv' := [(1, .long (zx2 &&& zx6)), (0, .ref this)]) (pc' := 16) C dX12_seek_15 rfl (by decide) rfl rfl ?_
  refine j_lload_n (q := 0) (pc' := 17) C dX12_seek_16 rfl rfl rfl ?_
  refine j_lconst (v := 0) (pc' := 18) C dX12_seek_17 kL_0 rfl ?_
  refine j_lcmp (pc' := 19) C dX12_seek_18 rfl ?_
  refine j_if_ne (tgt := 48) (pc' := 22) C dX12_seek_19 rfl rfl (fun hc => ?_) (fun hc => ?_)
  · have hr := ifF hc hr
    clear hc
    refine j_iconst (v := 0) (pc' := 49) C dX12_seek_48 kI_0 rfl ?_
    refine j_istore_n (lv' := [(3, .int (0 : Int32)), (1, .long (zx2 &&& zx6)), (0, .ref this)]) (pc' := 50) C dX12_seek_49 rfl (by decide) rfl rfl ?_
    obtain ⟨zo8, hzo8, rzo8⟩ := ob hr
    have kzo8 : Jd G 0 0 nx zo8.2 89 [(0, .ref this)] [] := by
      have hr := rzo8
      refine j_aload_n (q := 0) (pc' := 90) C dX12_seek_89 rfl rfl rfl ?_
      obtain ⟨zx10, hzx10, hr⟩ := ob hr
      refine j_getA (pc' := 93) C dX12_seek_90 fl_X12_8 hzx10 rfl ?_
      refine j_iconst (v := 5) (pc' := 94) C dX12_seek_93 kI_5 rfl ?_
      refine j_iconst (v := 1) (pc' := 95) C dX12_seek_94 kI_1 rfl ?_
      obtain ⟨zc11, hzc11, hr⟩ := ob hr
      refine j_iast (pc' := 96) C dX12_seek_95 hzc11 rfl ?_
      have hr := Option.some.inj hr
      subst hr
      exact j_vret C hq hret dX12_seek_96
    refine j_lv (lv' := [(0, .ref this), (1, .long (zx2 &&& zx6)), (3, .int (0 : Int32))]) [2, 1, 0] rfl ?_
    refine it_J (J := (fun (zs7 : (Int64 × Int32) × Ce) => Jd G 0 0 nx zs7.2 50 [(0, .ref this), (1, .long zs7.1.1), (3, .int zs7.1.2)] [])) ?_ hzo8
    clear hzo8
    intro zs7 zr9 hr izs7 ezs7
    refine j_iload_n (q := 2) (pc' := 51) C dX12_seek_50 rfl rfl rfl ?_
    refine j_bipush (v := 8) (pc' := 53) C dX12_seek_51 kB_8 rfl ?_
    refine j_ic_ge (tgt := 89) (pc' := 56) C dX12_seek_53 rfl rfl (fun hc => ?_) (fun hc => ?_)
    · have hr := ifT hc hr
      clear hc
      have hr := ezs7 _ (Option.some.inj hr).symm
      subst hr
      exact j_lv [0] rfl kzo8
    · have hr := ifF hc hr
      clear hc
      refine j_lload_n (q := 1) (pc' := 57) C dX12_seek_56 rfl rfl rfl ?_
      refine j_lconst (v := 0) (pc' := 58) C dX12_seek_57 kL_0 rfl ?_
      refine j_lcmp (pc' := 59) C dX12_seek_58 rfl ?_
      refine j_if_eq (tgt := 89) (pc' := 62) C dX12_seek_59 rfl rfl (fun hc => ?_) (fun hc => ?_)
      · have hr := ifT hc hr
        clear hc
        have hr := ezs7 _ (Option.some.inj hr).symm
        subst hr
        exact j_lv [0] rfl kzo8
      · have hr := ifF hc hr
        clear hc
        refine j_aload_n (q := 0) (pc' := 63) C dX12_seek_62 rfl rfl rfl ?_
        refine j_lload_n (q := 1) (pc' := 64) C dX12_seek_63 rfl rfl rfl ?_
        obtain ⟨zx12, hzx12, hr⟩ := ob hr
        refine j_callS (As := [.long zs7.1.1]) (rest := [.ref this]) (st1 := [.int zx12, .ref this]) (pc' := 67) C wm_1729 (c_X12_lowest (nx := nx) (ce := zs7.2) hzx12) yw_X12_lowest wm_1728 rfl rfl (Nat.le_of_ble_eq_true rfl) ⟨by decide, by decide⟩ dX12_seek_64 rfl rfl ?_
        refine j_aload_n (q := 0) (pc' := 68) C dX12_seek_67 rfl rfl rfl ?_
        obtain ⟨zx13, hzx13, hr⟩ := ob hr
        refine j_getA (pc' := 71) C dX12_seek_68 fl_X12_8 hzx13 rfl ?_
        refine j_iconst (v := 4) (pc' := 72) C dX12_seek_71 kI_4 rfl ?_
        obtain ⟨zx14, hzx14, hr⟩ := ob hr
        refine j_iald (pc' := 73) C dX12_seek_72 hzx14 rfl ?_
        refine j_iconst (v := 0) (pc' := 74) C dX12_seek_73 kI_0 rfl ?_
        obtain ⟨zz15, hzz15, hr⟩ := ob hr
        obtain ⟨zq16, hzq16, hr⟩ := ob hr
        obtain ⟨fhzz15, hzz15⟩ := rcv_sp hzz15
        refine j_callV (ci := 9) (As := [.int zx12, .int zx14, .int (0 : Int32)]) (rest := []) (st1 := []) (pc' := 77) C ⟨wm_1733, wm_74⟩ rfl hzz15 (c_X12_oblige (nx := nx) hzq16) yw_X12_oblige wm_1731 rfl rfl (Nat.le_of_ble_eq_true rfl) ⟨by decide, by decide⟩ dX12_seek_74 rfl rfl ?_
        refine j_lload_n (q := 1) (pc' := 78) C dX12_seek_77 rfl rfl rfl ?_
        refine j_lload_n (q := 1) (pc' := 79) C dX12_seek_78 rfl rfl rfl ?_
        refine j_lconst (v := 1) (pc' := 80) C dX12_seek_79 kL_1 rfl ?_
        refine j_lsub (pc' := 81) C dX12_seek_80 rfl ?_
        refine j_land (pc' := 82) C dX12_seek_81 rfl ?_
        refine j_lstore_n (lv' := [(1, .long (zs7.1.1 &&& (zs7.1.1 - (1 : Int64)))), (0, .ref this), (3, .int zs7.1.2)]) (pc' := 83) C dX12_seek_82 rfl (by decide) rfl rfl ?_
        refine j_iinc (q := 2) (v := 1) (lv' := [(3, .int (zs7.1.2 + (1 : Int32))), (1, .long (zs7.1.1 &&& (zs7.1.1 - (1 : Int64)))), (0, .ref this)]) (pc' := 86) C dX12_seek_83 rfl kI_1 (by decide) rfl rfl ?_
        refine j_goto (tgt := 50) C dX12_seek_86 rfl ?_
        have hr := izs7 (((zs7.1.1 &&& (zs7.1.1 - (1 : Int64))), (zs7.1.2 + (1 : Int32))), zq16.2) (Option.some.inj hr).symm
        exact j_lv [2, 1, 0] rfl hr
  · have hr := ifT hc hr
    clear hc
    refine j_aload_n (q := 1) (pc' := 23) C dX12_seek_22 rfl rfl rfl ?_
    obtain ⟨zx17, hzx17, hr⟩ := ob hr
    refine j_getA (pc' := 26) C dX12_seek_23 fl_X12_8 hzx17 rfl ?_
    refine j_iconst (v := 4) (pc' := 27) C dX12_seek_26 kI_4 rfl ?_
    refine j_dup2 (pc' := 28) C dX12_seek_27 rfl rfl rfl ?_
    obtain ⟨zx18, hzx18, hr⟩ := ob hr
    refine j_iald (pc' := 29) C dX12_seek_28 hzx18 rfl ?_
    refine j_iconst (v := 1) (pc' := 30) C dX12_seek_29 kI_1 rfl ?_
    refine j_iadd (pc' := 31) C dX12_seek_30 rfl ?_
    obtain ⟨zc19, hzc19, hr⟩ := ob hr
    refine j_iast (pc' := 32) C dX12_seek_31 hzc19 rfl ?_
    refine j_aload_n (q := 1) (pc' := 33) C dX12_seek_32 rfl rfl rfl ?_
    obtain ⟨zx20, hzx20, hr⟩ := ob hr
    refine j_getA (pc' := 36) C dX12_seek_33 fl_X12_8 hzx20 rfl ?_
    refine j_iconst (v := 5) (pc' := 37) C dX12_seek_36 kI_5 rfl ?_
    refine j_iconst (v := 2) (pc' := 38) C dX12_seek_37 kI_2 rfl ?_
    obtain ⟨zc21, hzc21, hr⟩ := ob hr
    refine j_iast (pc' := 39) C dX12_seek_38 hzc21 rfl ?_
    refine j_aload_n (q := 1) (pc' := 40) C dX12_seek_39 rfl rfl rfl ?_
    obtain ⟨zx22, hzx22, hr⟩ := ob hr
    refine j_getA (pc' := 43) C dX12_seek_40 fl_X12_8 hzx22 rfl ?_
    refine j_bipush (v := 6) (pc' := 45) C dX12_seek_43 kB_6 rfl ?_
    refine j_iconst (v := 1) (pc' := 46) C dX12_seek_45 kI_1 rfl ?_
    obtain ⟨zc23, hzc23, hr⟩ := ob hr
    refine j_iast (pc' := 47) C dX12_seek_46 hzc23 rfl ?_
    have hr := Option.some.inj hr
    subst hr
    exact j_vret C hq hret dX12_seek_47
def m_X12_barState (ce : Ce) (this : Nat) (p1 : Int32) : Option (Unit × Ce) :=
  (rcv ce 9 this).bind fun zz1 =>
  (m_X12_ofLine ce this p1 (0 : Int32)).bind fun zx2 =>
  (rcv ce 9 this).bind fun zz3 =>
  (m_X12_ofLine ce this p1 (1 : Int32)).bind fun zx4 =>
  (rcv ce 9 this).bind fun zz5 =>
  (m_X12_widen ce this zx2 zx4).bind fun zq6 =>
  (it (fun (zs7 : Int32 × Ce) =>
    (gA zs7.2 9 0 this).bind fun zx19 =>
    (aI zs7.2 zx19 (4 : Int32)).bind fun zx20 =>
    if zx20 ≤ zs7.1 then
      some (Sum.inr (zs7.1, zs7.2))
    else
      (rcv zs7.2 9 this).bind fun zz21 =>
      (m_X12_isAsked zs7.2 this zq6.1 (zx2 &&& zq6.1) zs7.1).bind fun zq22 =>
      if zq22.1 = 0 then
        some (Sum.inr (zs7.1, zq22.2))
      else
        some (Sum.inl ((zs7.1 + (1 : Int32)), zq22.2))
  ) FU (zx4, zq6.2)).bind fun (zo8 : Int32 × Ce) =>
  (rcv zo8.2 9 this).bind fun zz10 =>
  (m_X12_addCube zo8.2 this zq6.1 (zx2 &&& zq6.1) zo8.1).bind fun zq11 =>
  (gA zq11.2 9 0 this).bind fun zx12 =>
  (aI zq11.2 zx12 (13 : Int32)).bind fun zx13 =>
  (sI zq11.2 zx12 (13 : Int32) (zx13 + (1 : Int32))).bind fun zc14 =>
  (rcv zc14 9 this).bind fun zz15 =>
  (m_X12_bump zc14 this zq6.1).bind fun zq16 =>
  (rcv zq16.2 9 this).bind fun zz17 =>
  (m_X12_outLine zq16.2 this p1).bind fun zq18 =>
  some ((), zq18.2)
set_option maxRecDepth 100000 in
set_option maxHeartbeats 4000000 in
theorem c_X12_barState {nx : Nat} {ce : Ce} {this : Nat} {p1 : Int32} {q : Unit × Ce} (hr : m_X12_barState ce this p1 = some q) : Ct yX12_barState cX12_barState 6 none 8 181 0 0 [.ref this, .int p1] nx ce none q.2 := by
  unfold m_X12_barState at hr
  refine ct_of (by decide) (Nat.le_of_ble_eq_true rfl) ?_
  intro G C hq hret hin
  show Jd G 0 0 nx ce 0 [(0, .ref this), (1, .int p1)] []
  refine j_aload_n (q := 0) (pc' := 1) C dX12_barState_0 rfl rfl rfl ?_
  refine j_iload_n (q := 1) (pc' := 2) C dX12_barState_1 rfl rfl rfl ?_
  refine j_iconst (v := 0) (pc' := 3) C dX12_barState_2 kI_0 rfl ?_
  obtain ⟨zz1, hzz1, hr⟩ := ob hr
  obtain ⟨zx2, hzx2, hr⟩ := ob hr
  obtain ⟨fhzz1, hzz1⟩ := rcv_sp hzz1
  refine j_callV (ci := 9) (As := [.int p1, .int (0 : Int32)]) (rest := []) (st1 := [.int zx2]) (pc' := 6) C ⟨wm_1749, wm_78⟩ rfl hzz1 (c_X12_ofLine (nx := nx) hzx2) yw_X12_ofLine wm_1747 rfl rfl (Nat.le_of_ble_eq_true rfl) ⟨by decide, by decide⟩ dX12_barState_3 rfl rfl ?_
  refine j_istore_n (lv' := [(2, .int zx2), (0, .ref this), (1, .int p1)]) (pc' := 7) C dX12_barState_6 rfl (by decide) rfl rfl ?_
  refine j_aload_n (q := 1) (pc' := 8) C dX12_barState_7 rfl rfl rfl ?_
  refine j_iload_n (q := 2) (pc' := 9) C dX12_barState_8 rfl rfl rfl ?_
  refine j_iconst (v := 1) (pc' := 10) C dX12_barState_9 kI_1 rfl ?_
  obtain ⟨zz3, hzz3, hr⟩ := ob hr
  obtain ⟨zx4, hzx4, hr⟩ := ob hr
  obtain ⟨fhzz3, hzz3⟩ := rcv_sp hzz3
  refine j_callV (ci := 9) (As := [.int p1, .int (1 : Int32)]) (rest := []) (st1 := [.int zx4]) (pc' := 13) C ⟨wm_1749, wm_78⟩ rfl hzz3 (c_X12_ofLine (nx := nx) hzx4) yw_X12_ofLine wm_1747 rfl rfl (Nat.le_of_ble_eq_true rfl) ⟨by decide, by decide⟩ dX12_barState_10 rfl rfl ?_
  refine j_istore_n (lv' := [(3, .int zx4), (2, .int zx2), (0, .ref this), (1, .int p1)]) (pc' := 14) C dX12_barState_13 rfl (by decide) rfl rfl ?_
  refine j_aload_n (q := 2) (pc' := 15) C dX12_barState_14 rfl rfl rfl ?_
  refine j_iload_n (q := 1) (pc' := 16) C dX12_barState_15 rfl rfl rfl ?_
  refine j_iload_n (q := 0) (pc' := 17) C dX12_barState_16 rfl rfl rfl ?_
  obtain ⟨zz5, hzz5, hr⟩ := ob hr
  obtain ⟨zq6, hzq6, hr⟩ := ob hr
  obtain ⟨fhzz5, hzz5⟩ := rcv_sp hzz5
  refine j_callV (ci := 9) (As := [.int zx2, .int zx4]) (rest := []) (st1 := [.int zq6.1]) (pc' := 20) C ⟨wm_1777, wm_85⟩ rfl hzz5 (c_X12_widen (nx := nx) hzq6) yw_X12_widen wm_1775 rfl rfl (Nat.le_of_ble_eq_true rfl) ⟨by decide, by decide⟩ dX12_barState_17 rfl rfl ?_
  refine j_istore (lv' := [(4, .int zq6.1), (3, .int zx4), (2, .int zx2), (0, .ref this), (1, .int p1)]) (pc' := 22) C dX12_barState_20 (by decide) rfl rfl ?_
  refine j_iload_n (q := 2) (pc' := 23) C dX12_barState_22 rfl rfl rfl ?_
  refine j_iload (q := 0) (pc' := 25) C dX12_barState_23 rfl rfl ?_
  refine j_iand (pc' := 26) C dX12_barState_25 rfl ?_
  refine j_istore (lv' := [(5, .int (zx2 &&& zq6.1)), (4, .int zq6.1), (3, .int zx4), (2, .int zx2), (0, .ref this), (1, .int p1)]) (pc' := 28) C dX12_barState_26 (by decide) rfl rfl ?_
  obtain ⟨zo8, hzo8, rzo8⟩ := ob hr
  have kzo8 : Jd G 0 0 nx zo8.2 56 [(0, .ref this), (1, .int p1), (3, .int zo8.1), (4, .int zq6.1), (5, .int (zx2 &&& zq6.1))] [] := by
    have hr := rzo8
    refine j_aload_n (q := 0) (pc' := 57) C dX12_barState_56 rfl rfl rfl ?_
    refine j_iload (q := 3) (pc' := 59) C dX12_barState_57 rfl rfl ?_
    refine j_iload (q := 4) (pc' := 61) C dX12_barState_59 rfl rfl ?_
    refine j_iload_n (q := 2) (pc' := 62) C dX12_barState_61 rfl rfl rfl ?_
    obtain ⟨zz10, hzz10, hr⟩ := ob hr
    obtain ⟨zq11, hzq11, hr⟩ := ob hr
    obtain ⟨fhzz10, hzz10⟩ := rcv_sp hzz10
    refine j_callV (ci := 9) (As := [.int zq6.1, .int (zx2 &&& zq6.1), .int zo8.1]) (rest := []) (st1 := []) (pc' := 65) C ⟨wm_1801, wm_91⟩ rfl hzz10 (c_X12_addCube (nx := nx) hzq11) yw_X12_addCube wm_1799 rfl rfl (Nat.le_of_ble_eq_true rfl) ⟨by decide, by decide⟩ dX12_barState_62 rfl rfl ?_
    refine j_aload_n (q := 0) (pc' := 66) C dX12_barState_65 rfl rfl rfl ?_
    obtain ⟨zx12, hzx12, hr⟩ := ob hr
    refine j_getA (pc' := 69) C dX12_barState_66 fl_X12_8 hzx12 rfl ?_
    refine j_bipush (v := 13) (pc' := 71) C dX12_barState_69 kB_13 rfl ?_
    refine j_dup2 (pc' := 72) C dX12_barState_71 rfl rfl rfl ?_
    obtain ⟨zx13, hzx13, hr⟩ := ob hr
    refine j_iald (pc' := 73) C dX12_barState_72 hzx13 rfl ?_
    refine j_iconst (v := 1) (pc' := 74) C dX12_barState_73 kI_1 rfl ?_
    refine j_iadd (pc' := 75) C dX12_barState_74 rfl ?_
    obtain ⟨zc14, hzc14, hr⟩ := ob hr
    refine j_iast (pc' := 76) C dX12_barState_75 hzc14 rfl ?_
    refine j_aload_n (q := 0) (pc' := 77) C dX12_barState_76 rfl rfl rfl ?_
    refine j_iload (q := 3) (pc' := 79) C dX12_barState_77 rfl rfl ?_
    obtain ⟨zz15, hzz15, hr⟩ := ob hr
    obtain ⟨zq16, hzq16, hr⟩ := ob hr
    obtain ⟨fhzz15, hzz15⟩ := rcv_sp hzz15
    refine j_callV (ci := 9) (As := [.int zq6.1]) (rest := []) (st1 := []) (pc' := 82) C ⟨wm_1812, wm_93⟩ rfl hzz15 (c_X12_bump (nx := nx) hzq16) yw_X12_bump wm_1810 rfl rfl (Nat.le_of_ble_eq_true rfl) ⟨by decide, by decide⟩ dX12_barState_79 rfl rfl ?_
    refine j_aload_n (q := 0) (pc' := 83) C dX12_barState_82 rfl rfl rfl ?_
    refine j_iload_n (q := 1) (pc' := 84) C dX12_barState_83 rfl rfl rfl ?_
    obtain ⟨zz17, hzz17, hr⟩ := ob hr
    obtain ⟨zq18, hzq18, hr⟩ := ob hr
    obtain ⟨fhzz17, hzz17⟩ := rcv_sp hzz17
    refine j_callV (ci := 9) (As := [.int p1]) (rest := []) (st1 := []) (pc' := 87) C ⟨wm_1753, wm_79⟩ rfl hzz17 (c_X12_outLine (nx := nx) hzq18) yw_X12_outLine wm_1751 rfl rfl (Nat.le_of_ble_eq_true rfl) ⟨by decide, by decide⟩ dX12_barState_84 rfl rfl ?_
    have hr := Option.some.inj hr
    subst hr
    exact j_vret C hq hret dX12_barState_87
  refine j_lv (lv' := [(0, .ref this), (1, .int p1), (3, .int zx4), (4, .int zq6.1), (5, .int (zx2 &&& zq6.1))]) [4, 5, 2, 1, 0] rfl ?_
  refine it_J (J := (fun (zs7 : Int32 × Ce) => Jd G 0 0 nx zs7.2 28 [(0, .ref this), (1, .int p1), (3, .int zs7.1), (4, .int zq6.1), (5, .int (zx2 &&& zq6.1))] [])) ?_ hzo8
  clear hzo8
  intro zs7 zr9 hr izs7 ezs7
  refine j_iload_n (q := 2) (pc' := 29) C dX12_barState_28 rfl rfl rfl ?_
  refine j_aload_n (q := 0) (pc' := 30) C dX12_barState_29 rfl rfl rfl ?_
  obtain ⟨zx19, hzx19, hr⟩ := ob hr
  refine j_getA (pc' := 33) C dX12_barState_30 fl_X12_8 hzx19 rfl ?_
  refine j_iconst (v := 4) (pc' := 34) C dX12_barState_33 kI_4 rfl ?_
  obtain ⟨zx20, hzx20, hr⟩ := ob hr
  refine j_iald (pc' := 35) C dX12_barState_34 hzx20 rfl ?_
  refine j_ic_ge (tgt := 56) (pc' := 38) C dX12_barState_35 rfl rfl (fun hc => ?_) (fun hc => ?_)
  · have hr := ifT hc hr
    clear hc
    have hr := ezs7 _ (Option.some.inj hr).symm
    subst hr
    exact j_lv [0, 1, 2, 3, 4] rfl kzo8
  · have hr := ifF hc hr
    clear hc
    refine j_aload_n (q := 0) (pc' := 39) C dX12_barState_38 rfl rfl rfl ?_
    refine j_iload (q := 3) (pc' := 41) C dX12_barState_39 rfl rfl ?_
    refine j_iload (q := 4) (pc' := 43) C dX12_barState_41 rfl rfl ?_
    refine j_iload_n (q := 2) (pc' := 44) C dX12_barState_43 rfl rfl rfl ?_
    obtain ⟨zz21, hzz21, hr⟩ := ob hr
    obtain ⟨zq22, hzq22, hr⟩ := ob hr
    obtain ⟨fhzz21, hzz21⟩ := rcv_sp hzz21
    refine j_callV (ci := 9) (As := [.int zq6.1, .int (zx2 &&& zq6.1), .int zs7.1]) (rest := []) (st1 := [.int zq22.1]) (pc' := 47) C ⟨wm_1789, wm_88⟩ rfl hzz21 (c_X12_isAsked (nx := nx) hzq22) yw_X12_isAsked wm_1787 rfl rfl (Nat.le_of_ble_eq_true rfl) ⟨by decide, by decide⟩ dX12_barState_44 rfl rfl ?_
    refine j_if_eq (tgt := 56) (pc' := 50) C dX12_barState_47 rfl rfl (fun hc => ?_) (fun hc => ?_)
    · have hr := ifT hc hr
      clear hc
      have hr := ezs7 _ (Option.some.inj hr).symm
      subst hr
      exact j_lv [0, 1, 2, 3, 4] rfl kzo8
    · have hr := ifF hc hr
      clear hc
      refine j_iinc (q := 2) (v := 1) (lv' := [(3, .int (zs7.1 + (1 : Int32))), (0, .ref this), (1, .int p1), (4, .int zq6.1), (5, .int (zx2 &&& zq6.1))]) (pc' := 53) C dX12_barState_50 rfl kI_1 (by decide) rfl rfl ?_
      refine j_goto (tgt := 28) C dX12_barState_53 rfl ?_
      have hr := izs7 ((zs7.1 + (1 : Int32)), zq22.2) (Option.some.inj hr).symm
      exact j_lv [1, 2, 0, 3, 4] rfl hr
def m_X12_obligeOne (ce : Ce) (this : Nat) : Option (Unit × Ce) :=
  (rcv ce 9 this).bind fun zz1 =>
  (m_X12_nextLine ce this (-1 : Int32)).bind fun zx2 =>
  if zx2 = (-1 : Int32) then
    (gA ce 9 0 this).bind fun zx30 =>
    (sI ce zx30 (5 : Int32) (0 : Int32)).bind fun zc31 =>
    some ((), zc31)
  else
    (rcv ce 9 this).bind fun zz3 =>
    (m_X12_ofLine ce this zx2 (0 : Int32)).bind fun zx4 =>
    (rcv ce 9 this).bind fun zz5 =>
    (m_X12_ofLine ce this zx2 (1 : Int32)).bind fun zx6 =>
    (rcv ce 9 this).bind fun zz7 =>
    (m_X12_starts ce this).bind fun zx8 =>
    (m_X12_has zx8 zx4).bind fun zx9 =>
    if zx9 = 0 then
      (rcv ce 9 this).bind fun zz10 =>
      (m_X12_openAt ce this zx6).bind fun zx11 =>
      (m_X12_has zx11 zx4).bind fun zx12 =>
      if zx12 = 0 then
        (rcv ce 9 this).bind fun zz26 =>
        (m_X12_outLine ce this zx2).bind fun zq27 =>
        some ((), zq27.2)
      else
        (gA ce 9 0 this).bind fun zx13 =>
        (aI ce zx13 (12 : Int32)).bind fun zx14 =>
        (sI ce zx13 (12 : Int32) (zx14 + (1 : Int32))).bind fun zc15 =>
        (rcv zc15 9 this).bind fun zz16 =>
        (m_X12_openAt zc15 this (zx6 - (1 : Int32))).bind fun zx17 =>
        (rcv zc15 9 this).bind fun zz18 =>
        (m_X12_aheadOf zc15 this zx4 zx17).bind fun zx19 =>
        if zx19 = (-1 : Int32) then
          (rcv zc15 9 this).bind fun zz24 =>
          (m_X12_barState zc15 this zx2).bind fun zq25 =>
          some ((), zq25.2)
        else
          (rcv zc15 9 this).bind fun zz20 =>
          (m_X12_ofLine zc15 this zx2 (2 : Int32)).bind fun zx21 =>
          (rcv zc15 9 this).bind fun zz22 =>
          (m_X12_oblige zc15 this zx19 (zx6 - (1 : Int32)) zx21).bind fun zq23 =>
          some ((), zq23.2)
    else
      (gA ce 9 0 this).bind fun zx28 =>
      (sI ce zx28 (5 : Int32) (4 : Int32)).bind fun zc29 =>
      some ((), zc29)
set_option maxRecDepth 100000 in
set_option maxHeartbeats 4000000 in
theorem c_X12_obligeOne {nx : Nat} {ce : Ce} {this : Nat} {q : Unit × Ce} (hr : m_X12_obligeOne ce this = some q) : Ct yX12_obligeOne cX12_obligeOne 5 none 9 206 0 0 [.ref this] nx ce none q.2 := by
  unfold m_X12_obligeOne at hr
  refine ct_of (by decide) (Nat.le_of_ble_eq_true rfl) ?_
  intro G C hq hret hin
  show Jd G 0 0 nx ce 0 [(0, .ref this)] []
  refine j_aload_n (q := 0) (pc' := 1) C dX12_obligeOne_0 rfl rfl rfl ?_
  refine j_iconst (v := -1) (pc' := 2) C dX12_obligeOne_1 kI_m1 rfl ?_
  obtain ⟨zz1, hzz1, hr⟩ := ob hr
  obtain ⟨zx2, hzx2, hr⟩ := ob hr
  obtain ⟨fhzz1, hzz1⟩ := rcv_sp hzz1
  refine j_callV (ci := 9) (As := [.int (-1 : Int32)]) (rest := []) (st1 := [.int zx2]) (pc' := 5) C ⟨wm_1741, wm_76⟩ rfl hzz1 (c_X12_nextLine (nx := nx) hzx2) yw_X12_nextLine wm_1739 rfl rfl (Nat.le_of_ble_eq_true rfl) ⟨by decide, by decide⟩ dX12_obligeOne_2 rfl rfl ?_
  refine j_istore_n (lv' := [(1, .int zx2), (0, .ref this)]) (pc' := 6) C dX12_obligeOne_5 rfl (by decide) rfl rfl ?_
  refine j_iload_n (q := 0) (pc' := 7) C dX12_obligeOne_6 rfl rfl rfl ?_
  refine j_iconst (v := -1) (pc' := 8) C dX12_obligeOne_7 kI_m1 rfl ?_
  refine j_ic_ne (tgt := 19) (pc' := 11) C dX12_obligeOne_8 rfl rfl (fun hc => ?_) (fun hc => ?_)
  · have hr := ifF hc hr
    clear hc
    refine j_aload_n (q := 1) (pc' := 20) C dX12_obligeOne_19 rfl rfl rfl ?_
    refine j_iload_n (q := 0) (pc' := 21) C dX12_obligeOne_20 rfl rfl rfl ?_
    refine j_iconst (v := 0) (pc' := 22) C dX12_obligeOne_21 kI_0 rfl ?_
    obtain ⟨zz3, hzz3, hr⟩ := ob hr
    obtain ⟨zx4, hzx4, hr⟩ := ob hr
    obtain ⟨fhzz3, hzz3⟩ := rcv_sp hzz3
    refine j_callV (ci := 9) (As := [.int zx2, .int (0 : Int32)]) (rest := []) (st1 := [.int zx4]) (pc' := 25) C ⟨wm_1749, wm_78⟩ rfl hzz3 (c_X12_ofLine (nx := nx) hzx4) yw_X12_ofLine wm_1747 rfl rfl (Nat.le_of_ble_eq_true rfl) ⟨by decide, by decide⟩ dX12_obligeOne_22 rfl rfl ?_
    refine j_istore_n (lv' := [(2, .int zx4), (1, .int zx2), (0, .ref this)]) (pc' := 26) C dX12_obligeOne_25 rfl (by decide) rfl rfl ?_
    refine j_aload_n (q := 2) (pc' := 27) C dX12_obligeOne_26 rfl rfl rfl ?_
    refine j_iload_n (q := 1) (pc' := 28) C dX12_obligeOne_27 rfl rfl rfl ?_
    refine j_iconst (v := 1) (pc' := 29) C dX12_obligeOne_28 kI_1 rfl ?_
    obtain ⟨zz5, hzz5, hr⟩ := ob hr
    obtain ⟨zx6, hzx6, hr⟩ := ob hr
    obtain ⟨fhzz5, hzz5⟩ := rcv_sp hzz5
    refine j_callV (ci := 9) (As := [.int zx2, .int (1 : Int32)]) (rest := []) (st1 := [.int zx6]) (pc' := 32) C ⟨wm_1749, wm_78⟩ rfl hzz5 (c_X12_ofLine (nx := nx) hzx6) yw_X12_ofLine wm_1747 rfl rfl (Nat.le_of_ble_eq_true rfl) ⟨by decide, by decide⟩ dX12_obligeOne_29 rfl rfl ?_
    refine j_istore_n (lv' := [(3, .int zx6), (2, .int zx4), (1, .int zx2), (0, .ref this)]) (pc' := 33) C dX12_obligeOne_32 rfl (by decide) rfl rfl ?_
    refine j_aload_n (q := 3) (pc' := 34) C dX12_obligeOne_33 rfl rfl rfl ?_
    obtain ⟨zz7, hzz7, hr⟩ := ob hr
    obtain ⟨zx8, hzx8, hr⟩ := ob hr
    obtain ⟨fhzz7, hzz7⟩ := rcv_sp hzz7
    refine j_callV (ci := 9) (As := []) (rest := []) (st1 := [.long zx8]) (pc' := 37) C ⟨wm_1710, wm_69⟩ rfl hzz7 (c_X12_starts (nx := nx) hzx8) yw_X12_starts wm_1708 rfl rfl (Nat.le_of_ble_eq_true rfl) ⟨by decide, by decide⟩ dX12_obligeOne_34 rfl rfl ?_
    refine j_iload_n (q := 1) (pc' := 38) C dX12_obligeOne_37 rfl rfl rfl ?_
    obtain ⟨zx9, hzx9, hr⟩ := ob hr
    refine j_callS (As := [.long zx8, .int zx4]) (rest := []) (st1 := [.int zx9]) (pc' := 41) C wm_1645 (c_X12_has (nx := nx) (ce := ce) hzx9) yw_X12_has wm_1644 rfl rfl (Nat.le_of_ble_eq_true rfl) ⟨by decide, by decide⟩ dX12_obligeOne_38 rfl rfl ?_
    refine j_if_eq (tgt := 52) (pc' := 44) C dX12_obligeOne_41 rfl rfl (fun hc => ?_) (fun hc => ?_)
    · have hr := ifT hc hr
      clear hc
      refine j_aload_n (q := 3) (pc' := 53) C dX12_obligeOne_52 rfl rfl rfl ?_
      refine j_iload_n (q := 0) (pc' := 54) C dX12_obligeOne_53 rfl rfl rfl ?_
      obtain ⟨zz10, hzz10, hr⟩ := ob hr
      obtain ⟨zx11, hzx11, hr⟩ := ob hr
      obtain ⟨fhzz10, hzz10⟩ := rcv_sp hzz10
      refine j_callV (ci := 9) (As := [.int zx6]) (rest := []) (st1 := [.long zx11]) (pc' := 57) C ⟨wm_1706, wm_68⟩ rfl hzz10 (c_X12_openAt (nx := nx) hzx11) yw_X12_openAt wm_1704 rfl rfl (Nat.le_of_ble_eq_true rfl) ⟨by decide, by decide⟩ dX12_obligeOne_54 rfl rfl ?_
      refine j_iload_n (q := 1) (pc' := 58) C dX12_obligeOne_57 rfl rfl rfl ?_
      obtain ⟨zx12, hzx12, hr⟩ := ob hr
      refine j_callS (As := [.long zx11, .int zx4]) (rest := []) (st1 := [.int zx12]) (pc' := 61) C wm_1645 (c_X12_has (nx := nx) (ce := ce) hzx12) yw_X12_has wm_1644 rfl rfl (Nat.le_of_ble_eq_true rfl) ⟨by decide, by decide⟩ dX12_obligeOne_58 rfl rfl ?_
      refine j_if_ne (tgt := 70) (pc' := 64) C dX12_obligeOne_61 rfl rfl (fun hc => ?_) (fun hc => ?_)
      · have hr := ifF hc hr
        clear hc
        refine j_aload_n (q := 3) (pc' := 71) C dX12_obligeOne_70 rfl rfl rfl ?_
        obtain ⟨zx13, hzx13, hr⟩ := ob hr
        refine j_getA (pc' := 74) C dX12_obligeOne_71 fl_X12_8 hzx13 rfl ?_
        refine j_bipush (v := 12) (pc' := 76) C dX12_obligeOne_74 kB_12 rfl ?_
        refine j_dup2 (pc' := 77) C dX12_obligeOne_76 rfl rfl rfl ?_
        obtain ⟨zx14, hzx14, hr⟩ := ob hr
        refine j_iald (pc' := 78) C dX12_obligeOne_77 hzx14 rfl ?_
        refine j_iconst (v := 1) (pc' := 79) C dX12_obligeOne_78 kI_1 rfl ?_
        refine j_iadd (pc' := 80) C dX12_obligeOne_79 rfl ?_
        obtain ⟨zc15, hzc15, hr⟩ := ob hr
        refine j_iast (pc' := 81) C dX12_obligeOne_80 hzc15 rfl ?_
        refine j_aload_n (q := 3) (pc' := 82) C dX12_obligeOne_81 rfl rfl rfl ?_
        refine j_iload_n (q := 1) (pc' := 83) C dX12_obligeOne_82 rfl rfl rfl ?_
        refine j_aload_n (q := 3) (pc' := 84) C dX12_obligeOne_83 rfl rfl rfl ?_
        refine j_iload_n (q := 0) (pc' := 85) C dX12_obligeOne_84 rfl rfl rfl ?_
        refine j_iconst (v := 1) (pc' := 86) C dX12_obligeOne_85 kI_1 rfl ?_
        refine j_isub (pc' := 87) C dX12_obligeOne_86 rfl ?_
        obtain ⟨zz16, hzz16, hr⟩ := ob hr
        obtain ⟨zx17, hzx17, hr⟩ := ob hr
        obtain ⟨fhzz16, hzz16⟩ := rcv_sp hzz16
        refine j_callV (ci := 9) (As := [.int (zx6 - (1 : Int32))]) (rest := [.int zx4, .ref this]) (st1 := [.long zx17, .int zx4, .ref this]) (pc' := 90) C ⟨wm_1706, wm_68⟩ rfl hzz16 (c_X12_openAt (nx := nx) hzx17) yw_X12_openAt wm_1704 rfl rfl (Nat.le_of_ble_eq_true rfl) ⟨by decide, by decide⟩ dX12_obligeOne_87 rfl rfl ?_
        obtain ⟨zz18, hzz18, hr⟩ := ob hr
        obtain ⟨zx19, hzx19, hr⟩ := ob hr
        obtain ⟨fhzz18, hzz18⟩ := rcv_sp hzz18
        refine j_callV (ci := 9) (As := [.int zx4, .long zx17]) (rest := []) (st1 := [.int zx19]) (pc' := 93) C ⟨wm_1757, wm_80⟩ rfl hzz18 (c_X12_aheadOf (nx := nx) hzx19) yw_X12_aheadOf wm_1755 rfl rfl (Nat.le_of_ble_eq_true rfl) ⟨by decide, by decide⟩ dX12_obligeOne_90 rfl rfl ?_
        refine j_istore (lv' := [(4, .int zx19), (3, .int zx6), (2, .int zx4), (1, .int zx2), (0, .ref this)]) (pc' := 95) C dX12_obligeOne_93 (by decide) rfl rfl ?_
        refine j_iload (q := 0) (pc' := 97) C dX12_obligeOne_95 rfl rfl ?_
        refine j_iconst (v := -1) (pc' := 98) C dX12_obligeOne_97 kI_m1 rfl ?_
        refine j_ic_ne (tgt := 109) (pc' := 101) C dX12_obligeOne_98 rfl rfl (fun hc => ?_) (fun hc => ?_)
        · have hr := ifF hc hr
          clear hc
          refine j_aload_n (q := 4) (pc' := 110) C dX12_obligeOne_109 rfl rfl rfl ?_
          refine j_iload (q := 0) (pc' := 112) C dX12_obligeOne_110 rfl rfl ?_
          refine j_iload_n (q := 1) (pc' := 113) C dX12_obligeOne_112 rfl rfl rfl ?_
          refine j_iconst (v := 1) (pc' := 114) C dX12_obligeOne_113 kI_1 rfl ?_
          refine j_isub (pc' := 115) C dX12_obligeOne_114 rfl ?_
          refine j_aload_n (q := 4) (pc' := 116) C dX12_obligeOne_115 rfl rfl rfl ?_
          refine j_iload_n (q := 3) (pc' := 117) C dX12_obligeOne_116 rfl rfl rfl ?_
          refine j_iconst (v := 2) (pc' := 118) C dX12_obligeOne_117 kI_2 rfl ?_
          obtain ⟨zz20, hzz20, hr⟩ := ob hr
          obtain ⟨zx21, hzx21, hr⟩ := ob hr
          obtain ⟨fhzz20, hzz20⟩ := rcv_sp hzz20
          refine j_callV (ci := 9) (As := [.int zx2, .int (2 : Int32)]) (rest := [.int (zx6 - (1 : Int32)), .int zx19, .ref this]) (st1 := [.int zx21, .int (zx6 - (1 : Int32)), .int zx19, .ref this]) (pc' := 121) C ⟨wm_1749, wm_78⟩ rfl hzz20 (c_X12_ofLine (nx := nx) hzx21) yw_X12_ofLine wm_1747 rfl rfl (Nat.le_of_ble_eq_true rfl) ⟨by decide, by decide⟩ dX12_obligeOne_118 rfl rfl ?_
          obtain ⟨zz22, hzz22, hr⟩ := ob hr
          obtain ⟨zq23, hzq23, hr⟩ := ob hr
          obtain ⟨fhzz22, hzz22⟩ := rcv_sp hzz22
          refine j_callV (ci := 9) (As := [.int zx19, .int (zx6 - (1 : Int32)), .int zx21]) (rest := []) (st1 := []) (pc' := 124) C ⟨wm_1733, wm_74⟩ rfl hzz22 (c_X12_oblige (nx := nx) hzq23) yw_X12_oblige wm_1731 rfl rfl (Nat.le_of_ble_eq_true rfl) ⟨by decide, by decide⟩ dX12_obligeOne_121 rfl rfl ?_
          have hr := Option.some.inj hr
          subst hr
          exact j_vret C hq hret dX12_obligeOne_124
        · have hr := ifT hc hr
          clear hc
          refine j_aload_n (q := 4) (pc' := 102) C dX12_obligeOne_101 rfl rfl rfl ?_
          refine j_iload_n (q := 3) (pc' := 103) C dX12_obligeOne_102 rfl rfl rfl ?_
          obtain ⟨zz24, hzz24, hr⟩ := ob hr
          obtain ⟨zq25, hzq25, hr⟩ := ob hr
          obtain ⟨fhzz24, hzz24⟩ := rcv_sp hzz24
          refine j_callV (ci := 9) (As := [.int zx2]) (rest := []) (st1 := []) (pc' := 106) C ⟨wm_1773, wm_84⟩ rfl hzz24 (c_X12_barState (nx := nx) hzq25) yw_X12_barState wm_1771 rfl rfl (Nat.le_of_ble_eq_true rfl) ⟨by decide, by decide⟩ dX12_obligeOne_103 rfl rfl ?_
          refine j_goto (tgt := 124) C dX12_obligeOne_106 rfl ?_
          have hr := Option.some.inj hr
          subst hr
          exact j_vret C hq hret dX12_obligeOne_124
      · have hr := ifT hc hr
        clear hc
        refine j_aload_n (q := 3) (pc' := 65) C dX12_obligeOne_64 rfl rfl rfl ?_
        refine j_iload_n (q := 2) (pc' := 66) C dX12_obligeOne_65 rfl rfl rfl ?_
        obtain ⟨zz26, hzz26, hr⟩ := ob hr
        obtain ⟨zq27, hzq27, hr⟩ := ob hr
        obtain ⟨fhzz26, hzz26⟩ := rcv_sp hzz26
        refine j_callV (ci := 9) (As := [.int zx2]) (rest := []) (st1 := []) (pc' := 69) C ⟨wm_1753, wm_79⟩ rfl hzz26 (c_X12_outLine (nx := nx) hzq27) yw_X12_outLine wm_1751 rfl rfl (Nat.le_of_ble_eq_true rfl) ⟨by decide, by decide⟩ dX12_obligeOne_66 rfl rfl ?_
        have hr := Option.some.inj hr
        subst hr
        exact j_vret C hq hret dX12_obligeOne_69
    · have hr := ifF hc hr
      clear hc
      refine j_aload_n (q := 3) (pc' := 45) C dX12_obligeOne_44 rfl rfl rfl ?_
      obtain ⟨zx28, hzx28, hr⟩ := ob hr
      refine j_getA (pc' := 48) C dX12_obligeOne_45 fl_X12_8 hzx28 rfl ?_
      refine j_iconst (v := 5) (pc' := 49) C dX12_obligeOne_48 kI_5 rfl ?_
      refine j_iconst (v := 4) (pc' := 50) C dX12_obligeOne_49 kI_4 rfl ?_
      obtain ⟨zc29, hzc29, hr⟩ := ob hr
      refine j_iast (pc' := 51) C dX12_obligeOne_50 hzc29 rfl ?_
      have hr := Option.some.inj hr
      subst hr
      exact j_vret C hq hret dX12_obligeOne_51
  · have hr := ifT hc hr
    clear hc
    refine j_aload_n (q := 1) (pc' := 12) C dX12_obligeOne_11 rfl rfl rfl ?_
    obtain ⟨zx30, hzx30, hr⟩ := ob hr
    refine j_getA (pc' := 15) C dX12_obligeOne_12 fl_X12_8 hzx30 rfl ?_
    refine j_iconst (v := 5) (pc' := 16) C dX12_obligeOne_15 kI_5 rfl ?_
    refine j_iconst (v := 0) (pc' := 17) C dX12_obligeOne_16 kI_0 rfl ?_
    obtain ⟨zc31, hzc31, hr⟩ := ob hr
    refine j_iast (pc' := 18) C dX12_obligeOne_17 hzc31 rfl ?_
    have hr := Option.some.inj hr
    subst hr
    exact j_vret C hq hret dX12_obligeOne_18
def m_X12_pushAll (ce : Ce) (this : Nat) : Option (Unit × Ce) :=
  (gA ce 9 0 this).bind fun zx1 =>
  (aI ce zx1 (6 : Int32)).bind fun zx2 =>
  (it (fun (zs3 : (Int32 × Int32) × Ce) =>
    (gA zs3.2 9 0 this).bind fun zx43 =>
    (aI zs3.2 zx43 (17 : Int32)).bind fun zx44 =>
    if zx44 ≤ zs3.1.2 then
      some (Sum.inr (zs3.1.1, zs3.2))
    else
      (rcv zs3.2 9 this).bind fun zz45 =>
      (m_X12_frameOf zs3.2 this zs3.1.2).bind fun zx46 =>
      if zx46 = zx2 then
        (gA zs3.2 9 24 this).bind fun zx47 =>
        (gA zs3.2 9 0 this).bind fun zx48 =>
        (aI zs3.2 zx48 ((104 : Int32) + zs3.1.2)).bind fun zx49 =>
        (sI zs3.2 zx47 zs3.1.1 zx49).bind fun zc50 =>
        some (Sum.inl (((zs3.1.1 + (1 : Int32)), (zs3.1.2 + (1 : Int32))), zc50))
      else
        some (Sum.inl ((zs3.1.1, (zs3.1.2 + (1 : Int32))), zs3.2))
  ) FU (((0 : Int32), (0 : Int32)), ce)).bind fun (zo4 : Int32 × Ce) =>
  (it (fun (zs6 : Int32 × Ce) =>
    if zo4.1 ≤ zs6.1 then
      some (Sum.inr ((), zs6.2))
    else
      (it (fun (zs22 : Int32 × Int32) =>
        (gA zs6.2 9 0 this).bind fun zx36 =>
        (aI zs6.2 zx36 (17 : Int32)).bind fun zx37 =>
        if zx37 ≤ zs22.2 then
          some (Sum.inr zs22.1)
        else
          (
            if zs22.1 = 0 then
              (gA zs6.2 9 0 this).bind fun zx39 =>
              (aI zs6.2 zx39 ((104 : Int32) + zs22.2)).bind fun zx40 =>
              (gA zs6.2 9 24 this).bind fun zx41 =>
              (aI zs6.2 zx41 zs6.1).bind fun zx42 =>
              if zx40 = zx42 then
                some (Sum.inr zs22.2)
              else
                some (Sum.inl (Sum.inl ((0 : Int32), (zs22.2 + (1 : Int32)))))
            else
              some (Sum.inr zs22.2)
          ).bind fun (zj38 : ((Int32 × Int32) ⊕ Int32) ⊕ Int32) => Sum.elim (fun wzj38 => some wzj38) (fun vzj38 =>
            some (Sum.inl ((1 : Int32), (vzj38 + (1 : Int32))))
          ) zj38
      ) FU ((0 : Int32), (0 : Int32))).bind fun (zo23 : Int32) =>
      (gA zs6.2 9 24 this).bind fun zx25 =>
      (aI zs6.2 zx25 zs6.1).bind fun zx26 =>
      (gA zs6.2 9 24 this).bind fun zx27 =>
      (aI zs6.2 zx27 zs6.1).bind fun zx28 =>
      if zo23 = 0 then
        some (Sum.inl ((zs6.1 + (1 : Int32)), zs6.2))
      else
        (rcv zs6.2 9 this).bind fun zz29 =>
        (m_X12_isAsked zs6.2 this ((zx26 >>> ((6 : Int32) &&& 31)) &&& (63 : Int32)) (zx28 &&& (63 : Int32)) zx2).bind fun zq30 =>
        if zq30.1 = 0 then
          some (Sum.inl ((zs6.1 + (1 : Int32)), zq30.2))
        else
          (rcv zq30.2 9 this).bind fun zz31 =>
          (m_X12_addCube zq30.2 this ((zx26 >>> ((6 : Int32) &&& 31)) &&& (63 : Int32)) (zx28 &&& (63 : Int32)) (zx2 + (1 : Int32))).bind fun zq32 =>
          (gA zq32.2 9 0 this).bind fun zx33 =>
          (aI zq32.2 zx33 (14 : Int32)).bind fun zx34 =>
          (sI zq32.2 zx33 (14 : Int32) (zx34 + (1 : Int32))).bind fun zc35 =>
          some (Sum.inl ((zs6.1 + (1 : Int32)), zc35))
  ) FU ((0 : Int32), zo4.2)).bind fun (zo7 : Unit × Ce) =>
  (rcv zo7.2 9 this).bind fun zz9 =>
  (m_X12_manyOf zo7.2 this zx2).bind fun zx10 =>
  if zx10 = 0 then
    (gA zo7.2 9 0 this).bind fun zx20 =>
    (sI zo7.2 zx20 (5 : Int32) (3 : Int32)).bind fun zc21 =>
    some ((), zc21)
  else
    (gA zo7.2 9 0 this).bind fun zx11 =>
    (aI zo7.2 zx11 (6 : Int32)).bind fun zx12 =>
    (sI zo7.2 zx11 (6 : Int32) (zx12 + (1 : Int32))).bind fun zc13 =>
    (gA zc13 9 0 this).bind fun zx14 =>
    (aI zc13 zx14 (6 : Int32)).bind fun zx15 =>
    (gA zc13 9 0 this).bind fun zx16 =>
    (aI zc13 zx16 (4 : Int32)).bind fun zx17 =>
    if zx15 = zx17 then
      (gA zc13 9 0 this).bind fun zx18 =>
      (sI zc13 zx18 (5 : Int32) (0 : Int32)).bind fun zc19 =>
      some ((), zc19)
    else
      some ((), zc13)
set_option maxRecDepth 100000 in
set_option maxHeartbeats 4000000 in
theorem c_X12_pushAll {nx : Nat} {ce : Ce} {this : Nat} {q : Unit × Ce} (hr : m_X12_pushAll ce this = some q) : Ct yX12_pushAll cX12_pushAll 7 none 7 156 0 0 [.ref this] nx ce none q.2 := by
  unfold m_X12_pushAll at hr
  refine ct_of (by decide) (Nat.le_of_ble_eq_true rfl) ?_
  intro G C hq hret hin
  show Jd G 0 0 nx ce 0 [(0, .ref this)] []
  refine j_aload_n (q := 0) (pc' := 1) C dX12_pushAll_0 rfl rfl rfl ?_
  obtain ⟨zx1, hzx1, hr⟩ := ob hr
  refine j_getA (pc' := 4) C dX12_pushAll_1 fl_X12_8 hzx1 rfl ?_
  refine j_bipush (v := 6) (pc' := 6) C dX12_pushAll_4 kB_6 rfl ?_
  obtain ⟨zx2, hzx2, hr⟩ := ob hr
  refine j_iald (pc' := 7) C dX12_pushAll_6 hzx2 rfl ?_
  refine j_istore_n (lv' := [(1, .int zx2), (0, .ref this)]) (pc' := 8) C dX12_pushAll_7 rfl (by decide) rfl rfl ?_
  refine j_iconst (v := 0) (pc' := 9) C dX12_pushAll_8 kI_0 rfl ?_
  refine j_istore_n (lv' := [(2, .int (0 : Int32)), (1, .int zx2), (0, .ref this)]) (pc' := 10) C dX12_pushAll_9 rfl (by decide) rfl rfl ?_
  refine j_iconst (v := 0) (pc' := 11) C dX12_pushAll_10 kI_0 rfl ?_
  refine j_istore_n (lv' := [(3, .int (0 : Int32)), (2, .int (0 : Int32)), (1, .int zx2), (0, .ref this)]) (pc' := 12) C dX12_pushAll_11 rfl (by decide) rfl rfl ?_
  obtain ⟨zo4, hzo4, rzo4⟩ := ob hr
  have kzo4 : Jd G 0 0 nx zo4.2 59 [(0, .ref this), (1, .int zx2), (2, .int zo4.1)] [] := by
    have hr := rzo4
    refine j_iconst (v := 0) (pc' := 60) C dX12_pushAll_59 kI_0 rfl ?_
    refine j_istore_n (lv' := [(3, .int (0 : Int32)), (0, .ref this), (1, .int zx2), (2, .int zo4.1)]) (pc' := 61) C dX12_pushAll_60 rfl (by decide) rfl rfl ?_
    obtain ⟨zo7, hzo7, rzo7⟩ := ob hr
    have kzo7 : Jd G 0 0 nx zo7.2 194 [(0, .ref this), (1, .int zx2)] [] := by
      have hr := rzo7
      refine j_aload_n (q := 0) (pc' := 195) C dX12_pushAll_194 rfl rfl rfl ?_
      refine j_iload_n (q := 1) (pc' := 196) C dX12_pushAll_195 rfl rfl rfl ?_
      obtain ⟨zz9, hzz9, hr⟩ := ob hr
      obtain ⟨zx10, hzx10, hr⟩ := ob hr
      obtain ⟨fhzz9, hzz9⟩ := rcv_sp hzz9
      refine j_callV (ci := 9) (As := [.int zx2]) (rest := []) (st1 := [.int zx10]) (pc' := 199) C ⟨wm_1823, wm_95⟩ rfl hzz9 (c_X12_manyOf (nx := nx) hzx10) yw_X12_manyOf wm_1821 rfl rfl (Nat.le_of_ble_eq_true rfl) ⟨by decide, by decide⟩ dX12_pushAll_196 rfl rfl ?_
      refine j_if_ne (tgt := 210) (pc' := 202) C dX12_pushAll_199 rfl rfl (fun hc => ?_) (fun hc => ?_)
      · have hr := ifF hc hr
        clear hc
        refine j_aload_n (q := 0) (pc' := 211) C dX12_pushAll_210 rfl rfl rfl ?_
        obtain ⟨zx11, hzx11, hr⟩ := ob hr
        refine j_getA (pc' := 214) C dX12_pushAll_211 fl_X12_8 hzx11 rfl ?_
        refine j_bipush (v := 6) (pc' := 216) C dX12_pushAll_214 kB_6 rfl ?_
        refine j_dup2 (pc' := 217) C dX12_pushAll_216 rfl rfl rfl ?_
        obtain ⟨zx12, hzx12, hr⟩ := ob hr
        refine j_iald (pc' := 218) C dX12_pushAll_217 hzx12 rfl ?_
        refine j_iconst (v := 1) (pc' := 219) C dX12_pushAll_218 kI_1 rfl ?_
        refine j_iadd (pc' := 220) C dX12_pushAll_219 rfl ?_
        obtain ⟨zc13, hzc13, hr⟩ := ob hr
        refine j_iast (pc' := 221) C dX12_pushAll_220 hzc13 rfl ?_
        refine j_aload_n (q := 0) (pc' := 222) C dX12_pushAll_221 rfl rfl rfl ?_
        obtain ⟨zx14, hzx14, hr⟩ := ob hr
        refine j_getA (pc' := 225) C dX12_pushAll_222 fl_X12_8 hzx14 rfl ?_
        refine j_bipush (v := 6) (pc' := 227) C dX12_pushAll_225 kB_6 rfl ?_
        obtain ⟨zx15, hzx15, hr⟩ := ob hr
        refine j_iald (pc' := 228) C dX12_pushAll_227 hzx15 rfl ?_
        refine j_aload_n (q := 0) (pc' := 229) C dX12_pushAll_228 rfl rfl rfl ?_
        obtain ⟨zx16, hzx16, hr⟩ := ob hr
        refine j_getA (pc' := 232) C dX12_pushAll_229 fl_X12_8 hzx16 rfl ?_
        refine j_iconst (v := 4) (pc' := 233) C dX12_pushAll_232 kI_4 rfl ?_
        obtain ⟨zx17, hzx17, hr⟩ := ob hr
        refine j_iald (pc' := 234) C dX12_pushAll_233 hzx17 rfl ?_
        refine j_ic_ne (tgt := 244) (pc' := 237) C dX12_pushAll_234 rfl rfl (fun hc => ?_) (fun hc => ?_)
        · have hr := ifF hc hr
          clear hc
          have hr := Option.some.inj hr
          subst hr
          exact j_vret C hq hret dX12_pushAll_244
        · have hr := ifT hc hr
          clear hc
          refine j_aload_n (q := 0) (pc' := 238) C dX12_pushAll_237 rfl rfl rfl ?_
          obtain ⟨zx18, hzx18, hr⟩ := ob hr
          refine j_getA (pc' := 241) C dX12_pushAll_238 fl_X12_8 hzx18 rfl ?_
          refine j_iconst (v := 5) (pc' := 242) C dX12_pushAll_241 kI_5 rfl ?_
          refine j_iconst (v := 0) (pc' := 243) C dX12_pushAll_242 kI_0 rfl ?_
          obtain ⟨zc19, hzc19, hr⟩ := ob hr
          refine j_iast (pc' := 244) C dX12_pushAll_243 hzc19 rfl ?_
          have hr := Option.some.inj hr
          subst hr
          exact j_vret C hq hret dX12_pushAll_244
      · have hr := ifT hc hr
        clear hc
        refine j_aload_n (q := 0) (pc' := 203) C dX12_pushAll_202 rfl rfl rfl ?_
        obtain ⟨zx20, hzx20, hr⟩ := ob hr
        refine j_getA (pc' := 206) C dX12_pushAll_203 fl_X12_8 hzx20 rfl ?_
        refine j_iconst (v := 5) (pc' := 207) C dX12_pushAll_206 kI_5 rfl ?_
        refine j_iconst (v := 3) (pc' := 208) C dX12_pushAll_207 kI_3 rfl ?_
        obtain ⟨zc21, hzc21, hr⟩ := ob hr
        refine j_iast (pc' := 209) C dX12_pushAll_208 hzc21 rfl ?_
        have hr := Option.some.inj hr
        subst hr
        exact j_vret C hq hret dX12_pushAll_209
    refine j_lv (lv' := [(0, .ref this), (1, .int zx2), (2, .int zo4.1), (3, .int (0 : Int32))]) [1, 2, 3, 0] rfl ?_
    refine it_J (J := (fun (zs6 : Int32 × Ce) => Jd G 0 0 nx zs6.2 61 [(0, .ref this), (1, .int zx2), (2, .int zo4.1), (3, .int zs6.1)] [])) ?_ hzo7
    clear hzo7
    intro zs6 zr8 hr izs6 ezs6
    refine j_iload_n (q := 3) (pc' := 62) C dX12_pushAll_61 rfl rfl rfl ?_
    refine j_iload_n (q := 2) (pc' := 63) C dX12_pushAll_62 rfl rfl rfl ?_
    refine j_ic_ge (tgt := 194) (pc' := 66) C dX12_pushAll_63 rfl rfl (fun hc => ?_) (fun hc => ?_)
    · have hr := ifT hc hr
      clear hc
      have hr := ezs6 _ (Option.some.inj hr).symm
      subst hr
      exact j_lv [0, 1] rfl kzo7
    · have hr := ifF hc hr
      clear hc
      refine j_iconst (v := 0) (pc' := 67) C dX12_pushAll_66 kI_0 rfl ?_
      refine j_istore (lv' := [(4, .int (0 : Int32)), (0, .ref this), (1, .int zx2), (2, .int zo4.1), (3, .int zs6.1)]) (pc' := 69) C dX12_pushAll_67 (by decide) rfl rfl ?_
      refine j_iconst (v := 0) (pc' := 70) C dX12_pushAll_69 kI_0 rfl ?_
      refine j_istore (lv' := [(5, .int (0 : Int32)), (4, .int (0 : Int32)), (0, .ref this), (1, .int zx2), (2, .int zo4.1), (3, .int zs6.1)]) (pc' := 72) C dX12_pushAll_70 (by decide) rfl rfl ?_
      obtain ⟨zo23, hzo23, rzo23⟩ := ob hr
      have kzo23 : Jd G 0 0 nx zs6.2 121 [(0, .ref this), (1, .int zx2), (2, .int zo4.1), (3, .int zs6.1), (4, .int zo23)] [] := by
        have hr := rzo23
        refine j_aload_n (q := 0) (pc' := 122) C dX12_pushAll_121 rfl rfl rfl ?_
        obtain ⟨zx25, hzx25, hr⟩ := ob hr
        refine j_getA (pc' := 125) C dX12_pushAll_122 fl_X12_50 hzx25 rfl ?_
        refine j_iload_n (q := 3) (pc' := 126) C dX12_pushAll_125 rfl rfl rfl ?_
        obtain ⟨zx26, hzx26, hr⟩ := ob hr
        refine j_iald (pc' := 127) C dX12_pushAll_126 hzx26 rfl ?_
        refine j_bipush (v := 6) (pc' := 129) C dX12_pushAll_127 kB_6 rfl ?_
        refine j_ishr (pc' := 130) C dX12_pushAll_129 rfl ?_
        refine j_bipush (v := 63) (pc' := 132) C dX12_pushAll_130 kB_63 rfl ?_
        refine j_iand (pc' := 133) C dX12_pushAll_132 rfl ?_
        refine j_istore (lv' := [(5, .int ((zx26 >>> ((6 : Int32) &&& 31)) &&& (63 : Int32))), (0, .ref this), (1, .int zx2), (2, .int zo4.1), (3, .int zs6.1), (4, .int zo23)]) (pc' := 135) C dX12_pushAll_133 (by decide) rfl rfl ?_
        refine j_aload_n (q := 1) (pc' := 136) C dX12_pushAll_135 rfl rfl rfl ?_
        obtain ⟨zx27, hzx27, hr⟩ := ob hr
        refine j_getA (pc' := 139) C dX12_pushAll_136 fl_X12_50 hzx27 rfl ?_
        refine j_iload_n (q := 4) (pc' := 140) C dX12_pushAll_139 rfl rfl rfl ?_
        obtain ⟨zx28, hzx28, hr⟩ := ob hr
        refine j_iald (pc' := 141) C dX12_pushAll_140 hzx28 rfl ?_
        refine j_bipush (v := 63) (pc' := 143) C dX12_pushAll_141 kB_63 rfl ?_
        refine j_iand (pc' := 144) C dX12_pushAll_143 rfl ?_
        refine j_istore (lv' := [(6, .int (zx28 &&& (63 : Int32))), (5, .int ((zx26 >>> ((6 : Int32) &&& 31)) &&& (63 : Int32))), (0, .ref this), (1, .int zx2), (2, .int zo4.1), (3, .int zs6.1), (4, .int zo23)]) (pc' := 146) C dX12_pushAll_144 (by decide) rfl rfl ?_
        refine j_iload (q := 6) (pc' := 148) C dX12_pushAll_146 rfl rfl ?_
        refine j_if_eq (tgt := 188) (pc' := 151) C dX12_pushAll_148 rfl rfl (fun hc => ?_) (fun hc => ?_)
        · have hr := ifT hc hr
          clear hc
          refine j_iinc (q := 5) (v := 1) (lv' := [(3, .int (zs6.1 + (1 : Int32))), (6, .int (zx28 &&& (63 : Int32))), (5, .int ((zx26 >>> ((6 : Int32) &&& 31)) &&& (63 : Int32))), (0, .ref this), (1, .int zx2), (2, .int zo4.1), (4, .int zo23)]) (pc' := 191) C dX12_pushAll_188 rfl kI_1 (by decide) rfl rfl ?_
          refine j_goto (tgt := 61) C dX12_pushAll_191 rfl ?_
          have hr := izs6 ((zs6.1 + (1 : Int32)), zs6.2) (Option.some.inj hr).symm
          exact j_lv [3, 4, 5, 0] rfl hr
        · have hr := ifF hc hr
          clear hc
          refine j_aload_n (q := 2) (pc' := 152) C dX12_pushAll_151 rfl rfl rfl ?_
          refine j_iload (q := 1) (pc' := 154) C dX12_pushAll_152 rfl rfl ?_
          refine j_iload (q := 0) (pc' := 156) C dX12_pushAll_154 rfl rfl ?_
          refine j_iload_n (q := 3) (pc' := 157) C dX12_pushAll_156 rfl rfl rfl ?_
          obtain ⟨zz29, hzz29, hr⟩ := ob hr
          obtain ⟨zq30, hzq30, hr⟩ := ob hr
          obtain ⟨fhzz29, hzz29⟩ := rcv_sp hzz29
          refine j_callV (ci := 9) (As := [.int ((zx26 >>> ((6 : Int32) &&& 31)) &&& (63 : Int32)), .int (zx28 &&& (63 : Int32)), .int zx2]) (rest := []) (st1 := [.int zq30.1]) (pc' := 160) C ⟨wm_1789, wm_88⟩ rfl hzz29 (c_X12_isAsked (nx := nx) hzq30) yw_X12_isAsked wm_1787 rfl rfl (Nat.le_of_ble_eq_true rfl) ⟨by decide, by decide⟩ dX12_pushAll_157 rfl rfl ?_
          refine j_if_ne (tgt := 166) (pc' := 163) C dX12_pushAll_160 rfl rfl (fun hc => ?_) (fun hc => ?_)
          · have hr := ifF hc hr
            clear hc
            refine j_aload_n (q := 2) (pc' := 167) C dX12_pushAll_166 rfl rfl rfl ?_
            refine j_iload (q := 1) (pc' := 169) C dX12_pushAll_167 rfl rfl ?_
            refine j_iload (q := 0) (pc' := 171) C dX12_pushAll_169 rfl rfl ?_
            refine j_iload_n (q := 3) (pc' := 172) C dX12_pushAll_171 rfl rfl rfl ?_
            refine j_iconst (v := 1) (pc' := 173) C dX12_pushAll_172 kI_1 rfl ?_
            refine j_iadd (pc' := 174) C dX12_pushAll_173 rfl ?_
            obtain ⟨zz31, hzz31, hr⟩ := ob hr
            obtain ⟨zq32, hzq32, hr⟩ := ob hr
            obtain ⟨fhzz31, hzz31⟩ := rcv_sp hzz31
            refine j_callV (ci := 9) (As := [.int ((zx26 >>> ((6 : Int32) &&& 31)) &&& (63 : Int32)), .int (zx28 &&& (63 : Int32)), .int (zx2 + (1 : Int32))]) (rest := []) (st1 := []) (pc' := 177) C ⟨wm_1801, wm_91⟩ rfl hzz31 (c_X12_addCube (nx := nx) hzq32) yw_X12_addCube wm_1799 rfl rfl (Nat.le_of_ble_eq_true rfl) ⟨by decide, by decide⟩ dX12_pushAll_174 rfl rfl ?_
            refine j_aload_n (q := 2) (pc' := 178) C dX12_pushAll_177 rfl rfl rfl ?_
            obtain ⟨zx33, hzx33, hr⟩ := ob hr
            refine j_getA (pc' := 181) C dX12_pushAll_178 fl_X12_8 hzx33 rfl ?_
            refine j_bipush (v := 14) (pc' := 183) C dX12_pushAll_181 kB_14 rfl ?_
            refine j_dup2 (pc' := 184) C dX12_pushAll_183 rfl rfl rfl ?_
            obtain ⟨zx34, hzx34, hr⟩ := ob hr
            refine j_iald (pc' := 185) C dX12_pushAll_184 hzx34 rfl ?_
            refine j_iconst (v := 1) (pc' := 186) C dX12_pushAll_185 kI_1 rfl ?_
            refine j_iadd (pc' := 187) C dX12_pushAll_186 rfl ?_
            obtain ⟨zc35, hzc35, hr⟩ := ob hr
            refine j_iast (pc' := 188) C dX12_pushAll_187 hzc35 rfl ?_
            refine j_iinc (q := 5) (v := 1) (lv' := [(3, .int (zs6.1 + (1 : Int32))), (6, .int (zx28 &&& (63 : Int32))), (5, .int ((zx26 >>> ((6 : Int32) &&& 31)) &&& (63 : Int32))), (0, .ref this), (1, .int zx2), (2, .int zo4.1), (4, .int zo23)]) (pc' := 191) C dX12_pushAll_188 rfl kI_1 (by decide) rfl rfl ?_
            refine j_goto (tgt := 61) C dX12_pushAll_191 rfl ?_
            have hr := izs6 ((zs6.1 + (1 : Int32)), zc35) (Option.some.inj hr).symm
            exact j_lv [3, 4, 5, 0] rfl hr
          · have hr := ifT hc hr
            clear hc
            refine j_goto (tgt := 188) C dX12_pushAll_163 rfl ?_
            refine j_iinc (q := 5) (v := 1) (lv' := [(3, .int (zs6.1 + (1 : Int32))), (6, .int (zx28 &&& (63 : Int32))), (5, .int ((zx26 >>> ((6 : Int32) &&& 31)) &&& (63 : Int32))), (0, .ref this), (1, .int zx2), (2, .int zo4.1), (4, .int zo23)]) (pc' := 191) C dX12_pushAll_188 rfl kI_1 (by decide) rfl rfl ?_
            refine j_goto (tgt := 61) C dX12_pushAll_191 rfl ?_
            have hr := izs6 ((zs6.1 + (1 : Int32)), zq30.2) (Option.some.inj hr).symm
            exact j_lv [3, 4, 5, 0] rfl hr
      refine j_lv (lv' := [(0, .ref this), (1, .int zx2), (2, .int zo4.1), (3, .int zs6.1), (4, .int (0 : Int32)), (5, .int (0 : Int32))]) [2, 3, 4, 5, 1, 0] rfl ?_
      refine it_J (J := (fun (zs22 : Int32 × Int32) => Jd G 0 0 nx zs6.2 72 [(0, .ref this), (1, .int zx2), (2, .int zo4.1), (3, .int zs6.1), (4, .int zs22.1), (5, .int zs22.2)] [])) ?_ hzo23
      clear hzo23
      intro zs22 zr24 hr izs22 ezs22
      refine j_iload (q := 5) (pc' := 74) C dX12_pushAll_72 rfl rfl ?_
      refine j_aload_n (q := 0) (pc' := 75) C dX12_pushAll_74 rfl rfl rfl ?_
      obtain ⟨zx36, hzx36, hr⟩ := ob hr
      refine j_getA (pc' := 78) C dX12_pushAll_75 fl_X12_8 hzx36 rfl ?_
      refine j_bipush (v := 17) (pc' := 80) C dX12_pushAll_78 kB_17 rfl ?_
      obtain ⟨zx37, hzx37, hr⟩ := ob hr
      refine j_iald (pc' := 81) C dX12_pushAll_80 hzx37 rfl ?_
      refine j_ic_ge (tgt := 121) (pc' := 84) C dX12_pushAll_81 rfl rfl (fun hc => ?_) (fun hc => ?_)
      · have hr := ifT hc hr
        clear hc
        have hr := ezs22 _ (Option.some.inj hr).symm
        subst hr
        exact j_lv [0, 1, 2, 3, 4] rfl kzo23
      · have hr := ifF hc hr
        clear hc
        refine j_iload (q := 4) (pc' := 86) C dX12_pushAll_84 rfl rfl ?_
        obtain ⟨zj38, hzj38, rzj38⟩ := ob hr
        have kzj38 : ∀ vzj38, zj38 = Sum.inr vzj38 → Jd G 0 0 nx zs6.2 108 [(0, .ref this), (1, .int zx2), (2, .int zo4.1), (3, .int zs6.1), (5, .int vzj38)] [] := by
          intro vzj38 ezj38
          rw [ezj38] at rzj38
          have hr := elR rzj38
          refine j_iconst (v := 1) (pc' := 109) C dX12_pushAll_108 kI_1 rfl ?_
          refine j_goto (tgt := 113) C dX12_pushAll_109 rfl ?_
          refine j_istore (lv' := [(4, .int (1 : Int32)), (0, .ref this), (1, .int zx2), (2, .int zo4.1), (3, .int zs6.1), (5, .int vzj38)]) (pc' := 115) C dX12_pushAll_113 (by decide) rfl rfl ?_
          refine j_iinc (q := 5) (v := 1) (lv' := [(5, .int (vzj38 + (1 : Int32))), (4, .int (1 : Int32)), (0, .ref this), (1, .int zx2), (2, .int zo4.1), (3, .int zs6.1)]) (pc' := 118) C dX12_pushAll_115 rfl kI_1 (by decide) rfl rfl ?_
          refine j_goto (tgt := 72) C dX12_pushAll_118 rfl ?_
          have hr := izs22 ((1 : Int32), (vzj38 + (1 : Int32))) (Option.some.inj hr).symm
          exact j_lv [2, 3, 4, 5, 1, 0] rfl hr
        have hr := hzj38
        clear hzj38
        refine j_if_ne (tgt := 108) (pc' := 89) C dX12_pushAll_86 rfl rfl (fun hc => ?_) (fun hc => ?_)
        · have hr := ifF hc hr
          clear hc
          have hr := Option.some.inj hr
          subst hr
          exact j_lv [0, 1, 2, 3, 5] rfl (kzj38 _ rfl)
        · have hr := ifT hc hr
          clear hc
          refine j_aload_n (q := 0) (pc' := 90) C dX12_pushAll_89 rfl rfl rfl ?_
          obtain ⟨zx39, hzx39, hr⟩ := ob hr
          refine j_getA (pc' := 93) C dX12_pushAll_90 fl_X12_8 hzx39 rfl ?_
          refine j_bipush (v := 104) (pc' := 95) C dX12_pushAll_93 kB_104 rfl ?_
          refine j_iload (q := 5) (pc' := 97) C dX12_pushAll_95 rfl rfl ?_
          refine j_iadd (pc' := 98) C dX12_pushAll_97 rfl ?_
          obtain ⟨zx40, hzx40, hr⟩ := ob hr
          refine j_iald (pc' := 99) C dX12_pushAll_98 hzx40 rfl ?_
          refine j_aload_n (q := 0) (pc' := 100) C dX12_pushAll_99 rfl rfl rfl ?_
          obtain ⟨zx41, hzx41, hr⟩ := ob hr
          refine j_getA (pc' := 103) C dX12_pushAll_100 fl_X12_50 hzx41 rfl ?_
          refine j_iload_n (q := 3) (pc' := 104) C dX12_pushAll_103 rfl rfl rfl ?_
          obtain ⟨zx42, hzx42, hr⟩ := ob hr
          refine j_iald (pc' := 105) C dX12_pushAll_104 hzx42 rfl ?_
          refine j_ic_ne (tgt := 112) (pc' := 108) C dX12_pushAll_105 rfl rfl (fun hc => ?_) (fun hc => ?_)
          · have hr := ifF hc hr
            clear hc
            refine j_iconst (v := 0) (pc' := 113) C dX12_pushAll_112 kI_0 rfl ?_
            refine j_istore (lv' := [(4, .int (0 : Int32)), (0, .ref this), (1, .int zx2), (2, .int zo4.1), (3, .int zs6.1), (5, .int zs22.2)]) (pc' := 115) C dX12_pushAll_113 (by decide) rfl rfl ?_
            refine j_iinc (q := 5) (v := 1) (lv' := [(5, .int (zs22.2 + (1 : Int32))), (4, .int (0 : Int32)), (0, .ref this), (1, .int zx2), (2, .int zo4.1), (3, .int zs6.1)]) (pc' := 118) C dX12_pushAll_115 rfl kI_1 (by decide) rfl rfl ?_
            refine j_goto (tgt := 72) C dX12_pushAll_118 rfl ?_
            have hr := Option.some.inj hr
            subst hr
            have hr := elL rzj38
            have hr := izs22 ((0 : Int32), (zs22.2 + (1 : Int32))) (Option.some.inj hr).symm
            exact j_lv [2, 3, 4, 5, 1, 0] rfl hr
          · have hr := ifT hc hr
            clear hc
            have hr := Option.some.inj hr
            subst hr
            exact j_lv [0, 1, 2, 3, 5] rfl (kzj38 _ rfl)
  refine j_lv (lv' := [(0, .ref this), (1, .int zx2), (2, .int (0 : Int32)), (3, .int (0 : Int32))]) [3, 2, 1, 0] rfl ?_
  refine it_J (J := (fun (zs3 : (Int32 × Int32) × Ce) => Jd G 0 0 nx zs3.2 12 [(0, .ref this), (1, .int zx2), (2, .int zs3.1.1), (3, .int zs3.1.2)] [])) ?_ hzo4
  clear hzo4
  intro zs3 zr5 hr izs3 ezs3
  refine j_iload_n (q := 3) (pc' := 13) C dX12_pushAll_12 rfl rfl rfl ?_
  refine j_aload_n (q := 0) (pc' := 14) C dX12_pushAll_13 rfl rfl rfl ?_
  obtain ⟨zx43, hzx43, hr⟩ := ob hr
  refine j_getA (pc' := 17) C dX12_pushAll_14 fl_X12_8 hzx43 rfl ?_
  refine j_bipush (v := 17) (pc' := 19) C dX12_pushAll_17 kB_17 rfl ?_
  obtain ⟨zx44, hzx44, hr⟩ := ob hr
  refine j_iald (pc' := 20) C dX12_pushAll_19 hzx44 rfl ?_
  refine j_ic_ge (tgt := 59) (pc' := 23) C dX12_pushAll_20 rfl rfl (fun hc => ?_) (fun hc => ?_)
  · have hr := ifT hc hr
    clear hc
    have hr := ezs3 _ (Option.some.inj hr).symm
    subst hr
    exact j_lv [0, 1, 2] rfl kzo4
  · have hr := ifF hc hr
    clear hc
    refine j_aload_n (q := 0) (pc' := 24) C dX12_pushAll_23 rfl rfl rfl ?_
    refine j_iload_n (q := 3) (pc' := 25) C dX12_pushAll_24 rfl rfl rfl ?_
    obtain ⟨zz45, hzz45, hr⟩ := ob hr
    obtain ⟨zx46, hzx46, hr⟩ := ob hr
    obtain ⟨fhzz45, hzz45⟩ := rcv_sp hzz45
    refine j_callV (ci := 9) (As := [.int zs3.1.2]) (rest := []) (st1 := [.int zx46]) (pc' := 28) C ⟨wm_1665, wm_61⟩ rfl hzz45 (c_X12_frameOf (nx := nx) hzx46) yw_X12_frameOf wm_1663 rfl rfl (Nat.le_of_ble_eq_true rfl) ⟨by decide, by decide⟩ dX12_pushAll_25 rfl rfl ?_
    refine j_iload_n (q := 1) (pc' := 29) C dX12_pushAll_28 rfl rfl rfl ?_
    refine j_ic_eq (tgt := 35) (pc' := 32) C dX12_pushAll_29 rfl rfl (fun hc => ?_) (fun hc => ?_)
    · have hr := ifT hc hr
      clear hc
      refine j_aload_n (q := 0) (pc' := 36) C dX12_pushAll_35 rfl rfl rfl ?_
      obtain ⟨zx47, hzx47, hr⟩ := ob hr
      refine j_getA (pc' := 39) C dX12_pushAll_36 fl_X12_50 hzx47 rfl ?_
      refine j_iload_n (q := 2) (pc' := 40) C dX12_pushAll_39 rfl rfl rfl ?_
      refine j_aload_n (q := 0) (pc' := 41) C dX12_pushAll_40 rfl rfl rfl ?_
      obtain ⟨zx48, hzx48, hr⟩ := ob hr
      refine j_getA (pc' := 44) C dX12_pushAll_41 fl_X12_8 hzx48 rfl ?_
      refine j_bipush (v := 104) (pc' := 46) C dX12_pushAll_44 kB_104 rfl ?_
      refine j_iload_n (q := 3) (pc' := 47) C dX12_pushAll_46 rfl rfl rfl ?_
      refine j_iadd (pc' := 48) C dX12_pushAll_47 rfl ?_
      obtain ⟨zx49, hzx49, hr⟩ := ob hr
      refine j_iald (pc' := 49) C dX12_pushAll_48 hzx49 rfl ?_
      obtain ⟨zc50, hzc50, hr⟩ := ob hr
      refine j_iast (pc' := 50) C dX12_pushAll_49 hzc50 rfl ?_
      refine j_iinc (q := 2) (v := 1) (lv' := [(2, .int (zs3.1.1 + (1 : Int32))), (0, .ref this), (1, .int zx2), (3, .int zs3.1.2)]) (pc' := 53) C dX12_pushAll_50 rfl kI_1 (by decide) rfl rfl ?_
      refine j_iinc (q := 3) (v := 1) (lv' := [(3, .int (zs3.1.2 + (1 : Int32))), (2, .int (zs3.1.1 + (1 : Int32))), (0, .ref this), (1, .int zx2)]) (pc' := 56) C dX12_pushAll_53 rfl kI_1 (by decide) rfl rfl ?_
      refine j_goto (tgt := 12) C dX12_pushAll_56 rfl ?_
      have hr := izs3 (((zs3.1.1 + (1 : Int32)), (zs3.1.2 + (1 : Int32))), zc50) (Option.some.inj hr).symm
      exact j_lv [2, 3, 1, 0] rfl hr
    · have hr := ifF hc hr
      clear hc
      refine j_goto (tgt := 53) C dX12_pushAll_32 rfl ?_
      refine j_iinc (q := 3) (v := 1) (lv' := [(3, .int (zs3.1.2 + (1 : Int32))), (0, .ref this), (1, .int zx2), (2, .int zs3.1.1)]) (pc' := 56) C dX12_pushAll_53 rfl kI_1 (by decide) rfl rfl ?_
      refine j_goto (tgt := 12) C dX12_pushAll_56 rfl ?_
      have hr := izs3 ((zs3.1.1, (zs3.1.2 + (1 : Int32))), zs3.2) (Option.some.inj hr).symm
      exact j_lv [1, 2, 3, 0] rfl hr
def m_X12_isOver (ce : Ce) (this : Nat) : Option (Int32) :=
  (gA ce 9 0 this).bind fun zx1 =>
  (aI ce zx1 (5 : Int32)).bind fun zx2 =>
  if zx2 < (3 : Int32) then
    some (0 : Int32)
  else
    some (1 : Int32)
set_option maxRecDepth 100000 in
set_option maxHeartbeats 4000000 in
theorem c_X12_isOver {nx : Nat} {ce : Ce} {this : Nat} {q : Int32} (hr : m_X12_isOver ce this = some q) : Ct yX12_isOver cX12_isOver 1 (some .boolean) 0 0 0 0 [.ref this] nx ce (some (.int q)) ce := by
  unfold m_X12_isOver at hr
  refine ct_of (by decide) (Nat.le_of_ble_eq_true rfl) ?_
  intro G C hq hret hin
  show Jd G 0 0 nx ce 0 [(0, .ref this)] []
  refine j_aload_n (q := 0) (pc' := 1) C dX12_isOver_0 rfl rfl rfl ?_
  obtain ⟨zx1, hzx1, hr⟩ := ob hr
  refine j_getA (pc' := 4) C dX12_isOver_1 fl_X12_8 hzx1 rfl ?_
  refine j_iconst (v := 5) (pc' := 5) C dX12_isOver_4 kI_5 rfl ?_
  obtain ⟨zx2, hzx2, hr⟩ := ob hr
  refine j_iald (pc' := 6) C dX12_isOver_5 hzx2 rfl ?_
  refine j_iconst (v := 3) (pc' := 7) C dX12_isOver_6 kI_3 rfl ?_
  refine j_ic_lt (tgt := 14) (pc' := 10) C dX12_isOver_7 rfl rfl (fun hc => ?_) (fun hc => ?_)
  · have hr := ifT hc hr
    clear hc
    refine j_iconst (v := 0) (pc' := 15) C dX12_isOver_14 kI_0 rfl ?_
    have hr := Option.some.inj hr
    subst hr
    exact j_zret C hq hret rfl dX12_isOver_15
  · have hr := ifF hc hr
    clear hc
    refine j_iconst (v := 1) (pc' := 11) C dX12_isOver_10 kI_1 rfl ?_
    refine j_goto (tgt := 15) C dX12_isOver_11 rfl ?_
    have hr := Option.some.inj hr
    subst hr
    exact j_zret C hq hret rfl dX12_isOver_15
