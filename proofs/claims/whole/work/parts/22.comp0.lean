def m_X0_init (nx : Nat) (ce : Ce) (this : Nat) : Option (Unit × Ce × Nat × Nat) :=
  (nwa (6 : Int32)).bind fun zk3 =>
  adcK 1 zk3 fun _ =>
  (some (gx_up ce nx (.inl (.float, zk3, .inr (.inr (.inl (fun _ => 0))))))).bind fun zc2 =>
  (pV zc2 0 0 this (.ref nx)).bind fun zc4 =>
  (pV zc4 0 1 this (.float FP.fconst1)).bind fun zc5 =>
  some ((), zc5, 0, 0)
set_option maxRecDepth 100000 in
set_option maxHeartbeats 4000000 in
theorem c_X0_init {nx : Nat} {ce : Ce} {this : Nat} {q : Unit × Ce × Nat × Nat} (hr : m_X0_init nx ce this = some q) : Ct yX0_init cX0_init 1 none 1 20 q.2.2.1 q.2.2.2 [.ref this] nx ce none q.2.1 := by
  unfold m_X0_init at hr
  refine ct_of (by decide) (Nat.le_of_ble_eq_true rfl) ?_
  intro G C hq hret hin
  show Jd G q.2.2.1 q.2.2.2 nx ce 0 [(0, .ref this)] []
  refine j_aload_n (q := 0) (pc' := 1) C dX0_init_0 rfl rfl rfl ?_
  refine j_objInit (pc' := 4) C dX0_init_1 wm_314 wm_157 wm_oi ⟨by decide, by decide⟩ (Nat.le_of_ble_eq_true rfl) rfl ?_
  refine j_aload_n (q := 0) (pc' := 5) C dX0_init_4 rfl rfl rfl ?_
  refine j_bipush (v := 6) (pc' := 7) C dX0_init_5 kB_6 rfl ?_
  obtain ⟨zk3, hzk3, hr⟩ := ob hr
  obtain ⟨nzk3, ezk3, bzk3⟩ := nwa_sp hzk3
  obtain ⟨zt1, hr, azt1, bzt1, czt1, dzt1⟩ := adcK_s hr
  obtain ⟨zc2, hzc2, hr⟩ := ob hr
  have hzc2 := Option.some.inj hzc2
  refine j_k (kc' := zt1.2.2.1 + 1) (ks' := zt1.2.2.2 + zk3) (by omega) (by omega) ?_
  refine j_newa (ty := .float) (t0 := 2) (a0 := (zk3, .inr (.inr (.inl (fun _ => 0))))) (N := zk3) (pc' := 9) C dX0_init_7 rfl (fun _ => rfl) (fun _ _ => rfl) wm_323 (fun _ => rfl) nzk3 ezk3 (Nat.le_trans (Nat.mul_le_mul_left _ (by decide)) bzk3) rfl ?_
  rw [hzc2]
  obtain ⟨zc4, hzc4, hr⟩ := ob hr
  refine j_putF (pc' := 12) C hin dX0_init_9 fw_X0_9 rfl rfl hzc4 rfl ?_
  refine j_aload_n (q := 0) (pc' := 13) C dX0_init_12 rfl rfl rfl ?_
  refine j_fconst1 (pc' := 14) C dX0_init_13 rfl ?_
  obtain ⟨zc5, hzc5, hr⟩ := ob hr
  refine j_put (pc' := 17) C dX0_init_14 fw_X0_15 rfl rfl hzc5 rfl ?_
  obtain ⟨azf6, bzf7, czf8, dzf9⟩ := some4 hr
  refine j_k (kc' := 0) (ks' := 0) (by omega) (by omega) ?_
  rw [show nx + q.2.2.1 = (nx + 1) by omega, (bzt1.trans bzf7)] at hq
  exact j_vret C hq hret dX0_init_17
def m_J7_fill_e525d (ce : Ce) (p0 : Nat) (p1 : UInt32) : Option (Unit × Ce) :=
  (alen ce p0).bind fun zx1 =>
  (it (fun (zs2 : Int32 × Ce) =>
    if zx1 ≤ zs2.1 then
      some (Sum.inr ((), zs2.2))
    else
      (sG zs2.2 p0 zs2.1 p1).bind fun zc5 =>
      some (Sum.inl ((zs2.1 + (1 : Int32)), zc5))
  ) FU ((0 : Int32), ce)).bind fun (zo3 : Unit × Ce) =>
  some ((), zo3.2)
set_option maxRecDepth 100000 in
set_option maxHeartbeats 4000000 in
theorem c_J7_fill_e525d {nx : Nat} {ce : Ce} {p0 : Nat} {p1 : UInt32} {q : Unit × Ce} (hr : m_J7_fill_e525d ce p0 p1 = some q) : Ct yJ7_fill_e525d cJ7_fill_e525d 4 none 0 0 0 0 [.ref p0, .float p1] nx ce none q.2 := by
  unfold m_J7_fill_e525d at hr
  refine ct_of (by decide) (Nat.le_of_ble_eq_true rfl) ?_
  intro G C hq hret hin
  show Jd G 0 0 nx ce 0 [(0, .ref p0), (1, .float p1)] []
  refine j_iconst (v := 0) (pc' := 1) C dJ7_fill_e525d_0 kI_0 rfl ?_
  refine j_istore_n (lv' := [(2, .int (0 : Int32)), (0, .ref p0), (1, .float p1)]) (pc' := 2) C dJ7_fill_e525d_1 rfl (by decide) rfl rfl ?_
  refine j_aload_n (q := 1) (pc' := 3) C dJ7_fill_e525d_2 rfl rfl rfl ?_
  obtain ⟨zx1, hzx1, hr⟩ := ob hr
  refine j_alen (pc' := 4) C dJ7_fill_e525d_3 hzx1 rfl ?_
  refine j_istore_n (lv' := [(3, .int zx1), (2, .int (0 : Int32)), (0, .ref p0), (1, .float p1)]) (pc' := 5) C dJ7_fill_e525d_4 rfl (by decide) rfl rfl ?_
  obtain ⟨zo3, hzo3, rzo3⟩ := ob hr
  have kzo3 : Jd G 0 0 nx zo3.2 20 [] [] := by
    have hr := rzo3
    have hr := Option.some.inj hr
    subst hr
    exact j_vret C hq hret dJ7_fill_e525d_20
  refine j_lv (lv' := [(0, .ref p0), (1, .float p1), (2, .int (0 : Int32)), (3, .int zx1)]) [2, 3, 1, 0] rfl ?_
  refine it_J (J := (fun (zs2 : Int32 × Ce) => Jd G 0 0 nx zs2.2 5 [(0, .ref p0), (1, .float p1), (2, .int zs2.1), (3, .int zx1)] [])) ?_ hzo3
  clear hzo3
  intro zs2 zr4 hr izs2 ezs2
  refine j_iload_n (q := 2) (pc' := 6) C dJ7_fill_e525d_5 rfl rfl rfl ?_
  refine j_iload_n (q := 3) (pc' := 7) C dJ7_fill_e525d_6 rfl rfl rfl ?_
  refine j_ic_ge (tgt := 20) (pc' := 10) C dJ7_fill_e525d_7 rfl rfl (fun hc => ?_) (fun hc => ?_)
  · have hr := ifT hc hr
    clear hc
    have hr := ezs2 _ (Option.some.inj hr).symm
    subst hr
    exact j_lv [] rfl kzo3
  · have hr := ifF hc hr
    clear hc
    refine j_aload_n (q := 0) (pc' := 11) C dJ7_fill_e525d_10 rfl rfl rfl ?_
    refine j_iload_n (q := 2) (pc' := 12) C dJ7_fill_e525d_11 rfl rfl rfl ?_
    refine j_fload_n (q := 1) (pc' := 13) C dJ7_fill_e525d_12 rfl rfl rfl ?_
    obtain ⟨zc5, hzc5, hr⟩ := ob hr
    refine j_fast (pc' := 14) C dJ7_fill_e525d_13 hzc5 rfl ?_
    refine j_iinc (q := 2) (v := 1) (lv' := [(2, .int (zs2.1 + (1 : Int32))), (0, .ref p0), (1, .float p1), (3, .int zx1)]) (pc' := 17) C dJ7_fill_e525d_14 rfl kI_1 (by decide) rfl rfl ?_
    refine j_goto (tgt := 5) C dJ7_fill_e525d_17 rfl ?_
    have hr := izs2 ((zs2.1 + (1 : Int32)), zc5) (Option.some.inj hr).symm
    exact j_lv [1, 2, 0, 3] rfl hr
def m_X0_clear (ce : Ce) (this : Nat) : Option (Unit × Ce) :=
  (gA ce 0 0 this).bind fun zx1 =>
  (m_J7_fill_e525d ce zx1 FP.fconst0).bind fun zq2 =>
  (pV zq2.2 0 1 this (.float FP.fconst1)).bind fun zc3 =>
  some ((), zc3)
set_option maxRecDepth 100000 in
set_option maxHeartbeats 4000000 in
theorem c_X0_clear {nx : Nat} {ce : Ce} {this : Nat} {q : Unit × Ce} (hr : m_X0_clear ce this = some q) : Ct yX0_clear cX0_clear 1 none 1 23 0 0 [.ref this] nx ce none q.2 := by
  unfold m_X0_clear at hr
  refine ct_of (by decide) (Nat.le_of_ble_eq_true rfl) ?_
  intro G C hq hret hin
  show Jd G 0 0 nx ce 0 [(0, .ref this)] []
  refine j_aload_n (q := 0) (pc' := 1) C dX0_clear_0 rfl rfl rfl ?_
  obtain ⟨zx1, hzx1, hr⟩ := ob hr
  refine j_getA (pc' := 4) C dX0_clear_1 fl_X0_9 hzx1 rfl ?_
  refine j_fconst0 (pc' := 5) C dX0_clear_4 rfl ?_
  obtain ⟨zq2, hzq2, hr⟩ := ob hr
  refine j_callS (As := [.ref zx1, .float FP.fconst0]) (rest := []) (st1 := []) (pc' := 8) C wm_776 (c_J7_fill_e525d (nx := nx) hzq2) yw_J7_fill_e525d wm_775 rfl rfl (Nat.le_of_ble_eq_true rfl) ⟨by decide, by decide⟩ dX0_clear_5 rfl rfl ?_
  refine j_aload_n (q := 0) (pc' := 9) C dX0_clear_8 rfl rfl rfl ?_
  refine j_fconst1 (pc' := 10) C dX0_clear_9 rfl ?_
  obtain ⟨zc3, hzc3, hr⟩ := ob hr
  refine j_put (pc' := 13) C dX0_clear_10 fw_X0_15 rfl rfl hzc3 rfl ?_
  have hr := Option.some.inj hr
  subst hr
  exact j_vret C hq hret dX0_clear_13
def m_X0_become (ce : Ce) (this : Nat) (p1 : Nat) : Option (Unit × Ce) :=
  (gA ce 0 0 p1).bind fun zx1 =>
  (gA ce 0 0 this).bind fun zx2 =>
  (gA ce 0 0 this).bind fun zx3 =>
  (alen ce zx3).bind fun zx4 =>
  (cpG ce zx1 (0 : Int32) zx2 (0 : Int32) zx4).bind fun zc5 =>
  (gF zc5 0 1 p1).bind fun zx6 =>
  (pV zc5 0 1 this (.float zx6)).bind fun zc7 =>
  some ((), zc7)
set_option maxRecDepth 100000 in
set_option maxHeartbeats 4000000 in
theorem c_X0_become {nx : Nat} {ce : Ce} {this : Nat} {p1 : Nat} {q : Unit × Ce} (hr : m_X0_become ce this p1 = some q) : Ct yX0_become cX0_become 2 none 1 60 0 0 [.ref this, .ref p1] nx ce none q.2 := by
  unfold m_X0_become at hr
  refine ct_of (by decide) (Nat.le_of_ble_eq_true rfl) ?_
  intro G C hq hret hin
  show Jd G 0 0 nx ce 0 [(0, .ref this), (1, .ref p1)] []
  refine j_aload_n (q := 1) (pc' := 1) C dX0_become_0 rfl rfl rfl ?_
  obtain ⟨zx1, hzx1, hr⟩ := ob hr
  refine j_getA (pc' := 4) C dX0_become_1 fl_X0_9 hzx1 rfl ?_
  refine j_iconst (v := 0) (pc' := 5) C dX0_become_4 kI_0 rfl ?_
  refine j_aload_n (q := 0) (pc' := 6) C dX0_become_5 rfl rfl rfl ?_
  obtain ⟨zx2, hzx2, hr⟩ := ob hr
  refine j_getA (pc' := 9) C dX0_become_6 fl_X0_9 hzx2 rfl ?_
  refine j_iconst (v := 0) (pc' := 10) C dX0_become_9 kI_0 rfl ?_
  refine j_aload_n (q := 0) (pc' := 11) C dX0_become_10 rfl rfl rfl ?_
  obtain ⟨zx3, hzx3, hr⟩ := ob hr
  refine j_getA (pc' := 14) C dX0_become_11 fl_X0_9 hzx3 rfl ?_
  obtain ⟨zx4, hzx4, hr⟩ := ob hr
  refine j_alen (pc' := 15) C dX0_become_14 hzx4 rfl ?_
  obtain ⟨zc5, hzc5, hr⟩ := ob hr
  refine j_cpG (pc' := 18) C dX0_become_15 wm_766 wm_708 wm_707 wm_143 ⟨by decide, by decide⟩ (Nat.le_of_ble_eq_true rfl) hzc5 rfl ?_
  refine j_aload_n (q := 0) (pc' := 19) C dX0_become_18 rfl rfl rfl ?_
  refine j_aload_n (q := 1) (pc' := 20) C dX0_become_19 rfl rfl rfl ?_
  obtain ⟨zx6, hzx6, hr⟩ := ob hr
  refine j_getF (pc' := 23) C dX0_become_20 fl_X0_15 hzx6 rfl ?_
  obtain ⟨zc7, hzc7, hr⟩ := ob hr
  refine j_put (pc' := 26) C dX0_become_23 fw_X0_15 rfl rfl hzc7 rfl ?_
  have hr := Option.some.inj hr
  subst hr
  exact j_vret C hq hret dX0_become_26
def m_X0_valueOf (ce : Ce) (this : Nat) (p1 : Int32) : Option (UInt32) :=
  if p1 < 0 then
    some FP.fconst0
  else
    (gA ce 0 0 this).bind fun zx1 =>
    (alen ce zx1).bind fun zx2 =>
    if zx2 ≤ p1 then
      some FP.fconst0
    else
      (gA ce 0 0 this).bind fun zx3 =>
      (aG ce zx3 p1).bind fun zx4 =>
      some zx4
set_option maxRecDepth 100000 in
set_option maxHeartbeats 4000000 in
theorem c_X0_valueOf {nx : Nat} {ce : Ce} {this : Nat} {p1 : Int32} {q : UInt32} (hr : m_X0_valueOf ce this p1 = some q) : Ct yX0_valueOf cX0_valueOf 2 (some .float) 0 0 0 0 [.ref this, .int p1] nx ce (some (.float q)) ce := by
  unfold m_X0_valueOf at hr
  refine ct_of (by decide) (Nat.le_of_ble_eq_true rfl) ?_
  intro G C hq hret hin
  show Jd G 0 0 nx ce 0 [(0, .ref this), (1, .int p1)] []
  refine j_iload_n (q := 1) (pc' := 1) C dX0_valueOf_0 rfl rfl rfl ?_
  refine j_if_lt (tgt := 22) (pc' := 4) C dX0_valueOf_1 rfl rfl (fun hc => ?_) (fun hc => ?_)
  · have hr := ifT hc hr
    clear hc
    refine j_fconst0 (pc' := 23) C dX0_valueOf_22 rfl ?_
    have hr := Option.some.inj hr
    subst hr
    exact j_fret C hq hret dX0_valueOf_23
  · have hr := ifF hc hr
    clear hc
    refine j_iload_n (q := 1) (pc' := 5) C dX0_valueOf_4 rfl rfl rfl ?_
    refine j_aload_n (q := 0) (pc' := 6) C dX0_valueOf_5 rfl rfl rfl ?_
    obtain ⟨zx1, hzx1, hr⟩ := ob hr
    refine j_getA (pc' := 9) C dX0_valueOf_6 fl_X0_9 hzx1 rfl ?_
    obtain ⟨zx2, hzx2, hr⟩ := ob hr
    refine j_alen (pc' := 10) C dX0_valueOf_9 hzx2 rfl ?_
    refine j_ic_ge (tgt := 22) (pc' := 13) C dX0_valueOf_10 rfl rfl (fun hc => ?_) (fun hc => ?_)
    · have hr := ifT hc hr
      clear hc
      refine j_fconst0 (pc' := 23) C dX0_valueOf_22 rfl ?_
      have hr := Option.some.inj hr
      subst hr
      exact j_fret C hq hret dX0_valueOf_23
    · have hr := ifF hc hr
      clear hc
      refine j_aload_n (q := 0) (pc' := 14) C dX0_valueOf_13 rfl rfl rfl ?_
      obtain ⟨zx3, hzx3, hr⟩ := ob hr
      refine j_getA (pc' := 17) C dX0_valueOf_14 fl_X0_9 hzx3 rfl ?_
      refine j_iload_n (q := 1) (pc' := 18) C dX0_valueOf_17 rfl rfl rfl ?_
      obtain ⟨zx4, hzx4, hr⟩ := ob hr
      refine j_fald (pc' := 19) C dX0_valueOf_18 hzx4 rfl ?_
      refine j_goto (tgt := 23) C dX0_valueOf_19 rfl ?_
      have hr := Option.some.inj hr
      subst hr
      exact j_fret C hq hret dX0_valueOf_23
def m_X0_lower (ce : Ce) (this : Nat) : Option (Unit × Ce) :=
  (it (fun (zs1 : Int32 × Ce) =>
    (gA zs1.2 0 0 this).bind fun zx7 =>
    (alen zs1.2 zx7).bind fun zx8 =>
    if zx8 ≤ zs1.1 then
      some (Sum.inr ((), zs1.2))
    else
      (gA zs1.2 0 0 this).bind fun zx9 =>
      (gA zs1.2 0 0 this).bind fun zx10 =>
      (aG zs1.2 zx10 zs1.1).bind fun zx11 =>
      (fq (FP.fmul zx11 (981668463 : UInt32))).bind fun zx12 =>
      (sG zs1.2 zx9 zs1.1 zx12).bind fun zc13 =>
      some (Sum.inl ((zs1.1 + (1 : Int32)), zc13))
  ) FU ((0 : Int32), ce)).bind fun (zo2 : Unit × Ce) =>
  (gF zo2.2 0 1 this).bind fun zx4 =>
  (fq (FP.fmul zx4 (981668463 : UInt32))).bind fun zx5 =>
  (pV zo2.2 0 1 this (.float zx5)).bind fun zc6 =>
  some ((), zc6)
set_option maxRecDepth 100000 in
set_option maxHeartbeats 4000000 in
theorem c_X0_lower {nx : Nat} {ce : Ce} {this : Nat} {q : Unit × Ce} (hr : m_X0_lower ce this = some q) : Ct yX0_lower cX0_lower 2 none 0 0 0 0 [.ref this] nx ce none q.2 := by
  unfold m_X0_lower at hr
  refine ct_of (by decide) (Nat.le_of_ble_eq_true rfl) ?_
  intro G C hq hret hin
  show Jd G 0 0 nx ce 0 [(0, .ref this)] []
  refine j_iconst (v := 0) (pc' := 1) C dX0_lower_0 kI_0 rfl ?_
  refine j_istore_n (lv' := [(1, .int (0 : Int32)), (0, .ref this)]) (pc' := 2) C dX0_lower_1 rfl (by decide) rfl rfl ?_
  obtain ⟨zo2, hzo2, rzo2⟩ := ob hr
  have kzo2 : Jd G 0 0 nx zo2.2 32 [(0, .ref this)] [] := by
    have hr := rzo2
    refine j_aload_n (q := 0) (pc' := 33) C dX0_lower_32 rfl rfl rfl ?_
    refine j_aload_n (q := 0) (pc' := 34) C dX0_lower_33 rfl rfl rfl ?_
    obtain ⟨zx4, hzx4, hr⟩ := ob hr
    refine j_getF (pc' := 37) C dX0_lower_34 fl_X0_15 hzx4 rfl ?_
    refine j_ldcf (pc' := 39) C dX0_lower_37 wm_989 rfl ?_
    obtain ⟨zx5, hzx5, hr⟩ := ob hr
    refine j_fmul (pc' := 40) C dX0_lower_39 hzx5 rfl ?_
    obtain ⟨zc6, hzc6, hr⟩ := ob hr
    refine j_put (pc' := 43) C dX0_lower_40 fw_X0_15 rfl rfl hzc6 rfl ?_
    have hr := Option.some.inj hr
    subst hr
    exact j_vret C hq hret dX0_lower_43
  refine j_lv (lv' := [(0, .ref this), (1, .int (0 : Int32))]) [1, 0] rfl ?_
  refine it_J (J := (fun (zs1 : Int32 × Ce) => Jd G 0 0 nx zs1.2 2 [(0, .ref this), (1, .int zs1.1)] [])) ?_ hzo2
  clear hzo2
  intro zs1 zr3 hr izs1 ezs1
  refine j_iload_n (q := 1) (pc' := 3) C dX0_lower_2 rfl rfl rfl ?_
  refine j_aload_n (q := 0) (pc' := 4) C dX0_lower_3 rfl rfl rfl ?_
  obtain ⟨zx7, hzx7, hr⟩ := ob hr
  refine j_getA (pc' := 7) C dX0_lower_4 fl_X0_9 hzx7 rfl ?_
  obtain ⟨zx8, hzx8, hr⟩ := ob hr
  refine j_alen (pc' := 8) C dX0_lower_7 hzx8 rfl ?_
  refine j_ic_ge (tgt := 32) (pc' := 11) C dX0_lower_8 rfl rfl (fun hc => ?_) (fun hc => ?_)
  · have hr := ifT hc hr
    clear hc
    have hr := ezs1 _ (Option.some.inj hr).symm
    subst hr
    exact j_lv [0] rfl kzo2
  · have hr := ifF hc hr
    clear hc
    refine j_aload_n (q := 0) (pc' := 12) C dX0_lower_11 rfl rfl rfl ?_
    obtain ⟨zx9, hzx9, hr⟩ := ob hr
    refine j_getA (pc' := 15) C dX0_lower_12 fl_X0_9 hzx9 rfl ?_
    refine j_iload_n (q := 1) (pc' := 16) C dX0_lower_15 rfl rfl rfl ?_
    refine j_aload_n (q := 0) (pc' := 17) C dX0_lower_16 rfl rfl rfl ?_
    obtain ⟨zx10, hzx10, hr⟩ := ob hr
    refine j_getA (pc' := 20) C dX0_lower_17 fl_X0_9 hzx10 rfl ?_
    refine j_iload_n (q := 1) (pc' := 21) C dX0_lower_20 rfl rfl rfl ?_
    obtain ⟨zx11, hzx11, hr⟩ := ob hr
    refine j_fald (pc' := 22) C dX0_lower_21 hzx11 rfl ?_
    refine j_ldcf (pc' := 24) C dX0_lower_22 wm_989 rfl ?_
    obtain ⟨zx12, hzx12, hr⟩ := ob hr
    refine j_fmul (pc' := 25) C dX0_lower_24 hzx12 rfl ?_
    obtain ⟨zc13, hzc13, hr⟩ := ob hr
    refine j_fast (pc' := 26) C dX0_lower_25 hzc13 rfl ?_
    refine j_iinc (q := 1) (v := 1) (lv' := [(1, .int (zs1.1 + (1 : Int32))), (0, .ref this)]) (pc' := 29) C dX0_lower_26 rfl kI_1 (by decide) rfl rfl ?_
    refine j_goto (tgt := 2) C dX0_lower_29 rfl ?_
    have hr := izs1 ((zs1.1 + (1 : Int32)), zc13) (Option.some.inj hr).symm
    exact j_lv [1, 0] rfl hr
def m_X0_raise (ce : Ce) (this : Nat) (p1 : Int32) : Option (Unit × Ce) :=
  (it (fun (zs1 : (Int32 × Int32) × Ce) =>
    (gA zs1.2 0 0 this).bind fun zx9 =>
    (alen zs1.2 zx9).bind fun zx10 =>
    if zx10 ≤ zs1.1.2 then
      some (Sum.inr (zs1.1.1, zs1.2))
    else
      if ((p1 >>> (zs1.1.2 &&& 31)) &&& (1 : Int32)) = 0 then
        some (Sum.inl ((zs1.1.1, (zs1.1.2 + (1 : Int32))), zs1.2))
      else
        (gA zs1.2 0 0 this).bind fun zx11 =>
        (gA zs1.2 0 0 this).bind fun zx12 =>
        (aG zs1.2 zx12 zs1.1.2).bind fun zx13 =>
        (gF zs1.2 0 1 this).bind fun zx14 =>
        (fq (FP.fadd zx13 zx14)).bind fun zx15 =>
        (sG zs1.2 zx11 zs1.1.2 zx15).bind fun zc16 =>
        (
          if zs1.1.1 = 0 then
            (gA zc16 0 0 this).bind fun zx18 =>
            (aG zc16 zx18 zs1.1.2).bind fun zx19 =>
            if (Op.cmpValue (FP.fcmp zx19 (1148846080 : UInt32)) .l) ≤ 0 then
              some (Sum.inl (Sum.inl (((0 : Int32), (zs1.1.2 + (1 : Int32))), zc16)))
            else
              some (Sum.inr zs1.1.2)
          else
            some (Sum.inr zs1.1.2)
        ).bind fun (zj17 : (((Int32 × Int32) × Ce) ⊕ (Int32 × Ce)) ⊕ Int32) => Sum.elim (fun wzj17 => some wzj17) (fun vzj17 =>
          some (Sum.inl (((1 : Int32), (vzj17 + (1 : Int32))), zc16))
        ) zj17
  ) FU (((0 : Int32), (0 : Int32)), ce)).bind fun (zo2 : Int32 × Ce) =>
  (gF zo2.2 0 1 this).bind fun zx4 =>
  (fq (FP.fmul zx4 (1069547520 : UInt32))).bind fun zx5 =>
  (pV zo2.2 0 1 this (.float zx5)).bind fun zc6 =>
  if zo2.1 = 0 then
    some ((), zc6)
  else
    (rcv zc6 0 this).bind fun zz7 =>
    (m_X0_lower zc6 this).bind fun zq8 =>
    some ((), zq8.2)
set_option maxRecDepth 100000 in
set_option maxHeartbeats 4000000 in
theorem c_X0_raise {nx : Nat} {ce : Ce} {this : Nat} {p1 : Int32} {q : Unit × Ce} (hr : m_X0_raise ce this p1 = some q) : Ct yX0_raise cX0_raise 4 none 1 21 0 0 [.ref this, .int p1] nx ce none q.2 := by
  unfold m_X0_raise at hr
  refine ct_of (by decide) (Nat.le_of_ble_eq_true rfl) ?_
  intro G C hq hret hin
  show Jd G 0 0 nx ce 0 [(0, .ref this), (1, .int p1)] []
  refine j_iconst (v := 0) (pc' := 1) C dX0_raise_0 kI_0 rfl ?_
  refine j_istore_n (lv' := [(2, .int (0 : Int32)), (0, .ref this), (1, .int p1)]) (pc' := 2) C dX0_raise_1 rfl (by decide) rfl rfl ?_
  refine j_iconst (v := 0) (pc' := 3) C dX0_raise_2 kI_0 rfl ?_
  refine j_istore_n (lv' := [(3, .int (0 : Int32)), (2, .int (0 : Int32)), (0, .ref this), (1, .int p1)]) (pc' := 4) C dX0_raise_3 rfl (by decide) rfl rfl ?_
  obtain ⟨zo2, hzo2, rzo2⟩ := ob hr
  have kzo2 : Jd G 0 0 nx zo2.2 66 [(0, .ref this), (2, .int zo2.1)] [] := by
    have hr := rzo2
    refine j_aload_n (q := 0) (pc' := 67) C dX0_raise_66 rfl rfl rfl ?_
    refine j_aload_n (q := 0) (pc' := 68) C dX0_raise_67 rfl rfl rfl ?_
    obtain ⟨zx4, hzx4, hr⟩ := ob hr
    refine j_getF (pc' := 71) C dX0_raise_68 fl_X0_15 hzx4 rfl ?_
    refine j_ldcf (pc' := 73) C dX0_raise_71 wm_984 rfl ?_
    obtain ⟨zx5, hzx5, hr⟩ := ob hr
    refine j_fmul (pc' := 74) C dX0_raise_73 hzx5 rfl ?_
    obtain ⟨zc6, hzc6, hr⟩ := ob hr
    refine j_put (pc' := 77) C dX0_raise_74 fw_X0_15 rfl rfl hzc6 rfl ?_
    refine j_iload_n (q := 1) (pc' := 78) C dX0_raise_77 rfl rfl rfl ?_
    refine j_if_eq (tgt := 85) (pc' := 81) C dX0_raise_78 rfl rfl (fun hc => ?_) (fun hc => ?_)
    · have hr := ifT hc hr
      clear hc
      have hr := Option.some.inj hr
      subst hr
      exact j_vret C hq hret dX0_raise_85
    · have hr := ifF hc hr
      clear hc
      refine j_aload_n (q := 0) (pc' := 82) C dX0_raise_81 rfl rfl rfl ?_
      obtain ⟨zz7, hzz7, hr⟩ := ob hr
      obtain ⟨zq8, hzq8, hr⟩ := ob hr
      obtain ⟨fhzz7, hzz7⟩ := rcv_sp hzz7
      refine j_callV (ci := 0) (As := []) (rest := []) (st1 := []) (pc' := 85) C ⟨wm_987, wm_27⟩ rfl hzz7 (c_X0_lower (nx := nx) hzq8) yw_X0_lower wm_985 rfl rfl (Nat.le_of_ble_eq_true rfl) ⟨by decide, by decide⟩ dX0_raise_82 rfl rfl ?_
      have hr := Option.some.inj hr
      subst hr
      exact j_vret C hq hret dX0_raise_85
  refine j_lv (lv' := [(0, .ref this), (1, .int p1), (2, .int (0 : Int32)), (3, .int (0 : Int32))]) [2, 3, 1, 0] rfl ?_
  refine it_J (J := (fun (zs1 : (Int32 × Int32) × Ce) => Jd G 0 0 nx zs1.2 4 [(0, .ref this), (1, .int p1), (2, .int zs1.1.1), (3, .int zs1.1.2)] [])) ?_ hzo2
  clear hzo2
  intro zs1 zr3 hr izs1 ezs1
  refine j_iload_n (q := 3) (pc' := 5) C dX0_raise_4 rfl rfl rfl ?_
  refine j_aload_n (q := 0) (pc' := 6) C dX0_raise_5 rfl rfl rfl ?_
  obtain ⟨zx9, hzx9, hr⟩ := ob hr
  refine j_getA (pc' := 9) C dX0_raise_6 fl_X0_9 hzx9 rfl ?_
  obtain ⟨zx10, hzx10, hr⟩ := ob hr
  refine j_alen (pc' := 10) C dX0_raise_9 hzx10 rfl ?_
  refine j_ic_ge (tgt := 66) (pc' := 13) C dX0_raise_10 rfl rfl (fun hc => ?_) (fun hc => ?_)
  · have hr := ifT hc hr
    clear hc
    have hr := ezs1 _ (Option.some.inj hr).symm
    subst hr
    exact j_lv [0, 2] rfl kzo2
  · have hr := ifF hc hr
    clear hc
    refine j_iload_n (q := 1) (pc' := 14) C dX0_raise_13 rfl rfl rfl ?_
    refine j_iload_n (q := 3) (pc' := 15) C dX0_raise_14 rfl rfl rfl ?_
    refine j_ishr (pc' := 16) C dX0_raise_15 rfl ?_
    refine j_iconst (v := 1) (pc' := 17) C dX0_raise_16 kI_1 rfl ?_
    refine j_iand (pc' := 18) C dX0_raise_17 rfl ?_
    refine j_if_eq (tgt := 60) (pc' := 21) C dX0_raise_18 rfl rfl (fun hc => ?_) (fun hc => ?_)
    · have hr := ifT hc hr
      clear hc
      refine j_iinc (q := 3) (v := 1) (lv' := [(3, .int (zs1.1.2 + (1 : Int32))), (0, .ref this), (1, .int p1), (2, .int zs1.1.1)]) (pc' := 63) C dX0_raise_60 rfl kI_1 (by decide) rfl rfl ?_
      refine j_goto (tgt := 4) C dX0_raise_63 rfl ?_
      have hr := izs1 ((zs1.1.1, (zs1.1.2 + (1 : Int32))), zs1.2) (Option.some.inj hr).symm
      exact j_lv [1, 2, 3, 0] rfl hr
    · have hr := ifF hc hr
      clear hc
      refine j_aload_n (q := 0) (pc' := 22) C dX0_raise_21 rfl rfl rfl ?_
      obtain ⟨zx11, hzx11, hr⟩ := ob hr
      refine j_getA (pc' := 25) C dX0_raise_22 fl_X0_9 hzx11 rfl ?_
      refine j_iload_n (q := 3) (pc' := 26) C dX0_raise_25 rfl rfl rfl ?_
      refine j_aload_n (q := 0) (pc' := 27) C dX0_raise_26 rfl rfl rfl ?_
      obtain ⟨zx12, hzx12, hr⟩ := ob hr
      refine j_getA (pc' := 30) C dX0_raise_27 fl_X0_9 hzx12 rfl ?_
      refine j_iload_n (q := 3) (pc' := 31) C dX0_raise_30 rfl rfl rfl ?_
      obtain ⟨zx13, hzx13, hr⟩ := ob hr
      refine j_fald (pc' := 32) C dX0_raise_31 hzx13 rfl ?_
      refine j_aload_n (q := 0) (pc' := 33) C dX0_raise_32 rfl rfl rfl ?_
      obtain ⟨zx14, hzx14, hr⟩ := ob hr
      refine j_getF (pc' := 36) C dX0_raise_33 fl_X0_15 hzx14 rfl ?_
      obtain ⟨zx15, hzx15, hr⟩ := ob hr
      refine j_fadd (pc' := 37) C dX0_raise_36 hzx15 rfl ?_
      obtain ⟨zc16, hzc16, hr⟩ := ob hr
      refine j_fast (pc' := 38) C dX0_raise_37 hzc16 rfl ?_
      refine j_iload_n (q := 2) (pc' := 39) C dX0_raise_38 rfl rfl rfl ?_
      obtain ⟨zj17, hzj17, rzj17⟩ := ob hr
      have kzj17 : ∀ vzj17, zj17 = Sum.inr vzj17 → Jd G 0 0 nx zc16 54 [(0, .ref this), (1, .int p1), (3, .int vzj17)] [] := by
        intro vzj17 ezj17
        rw [ezj17] at rzj17
        have hr := elR rzj17
        refine j_iconst (v := 1) (pc' := 55) C dX0_raise_54 kI_1 rfl ?_
        refine j_goto (tgt := 59) C dX0_raise_55 rfl ?_
        refine j_istore_n (lv' := [(2, .int (1 : Int32)), (0, .ref this), (1, .int p1), (3, .int vzj17)]) (pc' := 60) C dX0_raise_59 rfl (by decide) rfl rfl ?_
        refine j_iinc (q := 3) (v := 1) (lv' := [(3, .int (vzj17 + (1 : Int32))), (2, .int (1 : Int32)), (0, .ref this), (1, .int p1)]) (pc' := 63) C dX0_raise_60 rfl kI_1 (by decide) rfl rfl ?_
        refine j_goto (tgt := 4) C dX0_raise_63 rfl ?_
        have hr := izs1 (((1 : Int32), (vzj17 + (1 : Int32))), zc16) (Option.some.inj hr).symm
        exact j_lv [2, 3, 1, 0] rfl hr
      have hr := hzj17
      clear hzj17
      refine j_if_ne (tgt := 54) (pc' := 42) C dX0_raise_39 rfl rfl (fun hc => ?_) (fun hc => ?_)
      · have hr := ifF hc hr
        clear hc
        have hr := Option.some.inj hr
        subst hr
        exact j_lv [0, 1, 3] rfl (kzj17 _ rfl)
      · have hr := ifT hc hr
        clear hc
        refine j_aload_n (q := 0) (pc' := 43) C dX0_raise_42 rfl rfl rfl ?_
        obtain ⟨zx18, hzx18, hr⟩ := ob hr
        refine j_getA (pc' := 46) C dX0_raise_43 fl_X0_9 hzx18 rfl ?_
        refine j_iload_n (q := 3) (pc' := 47) C dX0_raise_46 rfl rfl rfl ?_
        obtain ⟨zx19, hzx19, hr⟩ := ob hr
        refine j_fald (pc' := 48) C dX0_raise_47 hzx19 rfl ?_
        refine j_ldcf (pc' := 50) C dX0_raise_48 wm_983 rfl ?_
        refine j_fcmp (pc' := 51) C dX0_raise_50 rfl ?_
        refine j_if_le (tgt := 58) (pc' := 54) C dX0_raise_51 rfl rfl (fun hc => ?_) (fun hc => ?_)
        · have hr := ifT hc hr
          clear hc
          refine j_iconst (v := 0) (pc' := 59) C dX0_raise_58 kI_0 rfl ?_
          refine j_istore_n (lv' := [(2, .int (0 : Int32)), (0, .ref this), (1, .int p1), (3, .int zs1.1.2)]) (pc' := 60) C dX0_raise_59 rfl (by decide) rfl rfl ?_
          refine j_iinc (q := 3) (v := 1) (lv' := [(3, .int (zs1.1.2 + (1 : Int32))), (2, .int (0 : Int32)), (0, .ref this), (1, .int p1)]) (pc' := 63) C dX0_raise_60 rfl kI_1 (by decide) rfl rfl ?_
          refine j_goto (tgt := 4) C dX0_raise_63 rfl ?_
          have hr := Option.some.inj hr
          subst hr
          have hr := elL rzj17
          have hr := izs1 (((0 : Int32), (zs1.1.2 + (1 : Int32))), zc16) (Option.some.inj hr).symm
          exact j_lv [2, 3, 1, 0] rfl hr
        · have hr := ifF hc hr
          clear hc
          have hr := Option.some.inj hr
          subst hr
          exact j_lv [0, 1, 3] rfl (kzj17 _ rfl)
def m_X0_rankOf (ce : Ce) (this : Nat) (p1 : Int32) (p2 : Int32) (p3 : Int32) : Option (Int32) :=
  (rcv ce 0 this).bind fun zz1 =>
  (m_X0_valueOf ce this p1).bind fun zx2 =>
  (it (fun (zs3 : Int32 × Int32) =>
    if p3 ≤ zs3.2 then
      some (Sum.inr zs3.1)
    else
      (gA ce 0 0 this).bind fun zx6 =>
      (alen ce zx6).bind fun zx7 =>
      if zx7 ≤ zs3.2 then
        some (Sum.inr zs3.1)
      else
        (gA ce 0 0 this).bind fun zx8 =>
        (aG ce zx8 zs3.2).bind fun zx9 =>
        (
          if p1 ≤ zs3.2 then
            some (0 : Int32)
          else
            some (1 : Int32)
        ).bind fun (zj10 : Int32) =>
        (
          if p2 = (1 : Int32) then
            some zj10
          else
            if (Op.cmpValue (FP.fcmp zx9 zx2) .l) = 0 then
              some zj10
            else
              if p2 = 0 then
                if 0 ≤ (Op.cmpValue (FP.fcmp zx9 zx2) .g) then
                  some (0 : Int32)
                else
                  some (1 : Int32)
              else
                if (Op.cmpValue (FP.fcmp zx9 zx2) .l) ≤ 0 then
                  some (0 : Int32)
                else
                  some (1 : Int32)
        ).bind fun (zj11 : Int32) =>
        if zj11 = 0 then
          some (Sum.inl ((zs3.1 + (0 : Int32)), (zs3.2 + (1 : Int32))))
        else
          some (Sum.inl ((zs3.1 + (1 : Int32)), (zs3.2 + (1 : Int32))))
  ) FU ((0 : Int32), (0 : Int32))).bind fun (zo4 : Int32) =>
  some zo4
set_option maxRecDepth 100000 in
set_option maxHeartbeats 4000000 in
theorem c_X0_rankOf {nx : Nat} {ce : Ce} {this : Nat} {p1 : Int32} {p2 : Int32} {p3 : Int32} {q : Int32} (hr : m_X0_rankOf ce this p1 p2 p3 = some q) : Ct yX0_rankOf cX0_rankOf 9 (some .int) 1 21 0 0 [.ref this, .int p1, .int p2, .int p3] nx ce (some (.int q)) ce := by
  unfold m_X0_rankOf at hr
  refine ct_of (by decide) (Nat.le_of_ble_eq_true rfl) ?_
  intro G C hq hret hin
  show Jd G 0 0 nx ce 0 [(0, .ref this), (1, .int p1), (2, .int p2), (3, .int p3)] []
  refine j_aload_n (q := 0) (pc' := 1) C dX0_rankOf_0 rfl rfl rfl ?_
  refine j_iload_n (q := 1) (pc' := 2) C dX0_rankOf_1 rfl rfl rfl ?_
  obtain ⟨zz1, hzz1, hr⟩ := ob hr
  obtain ⟨zx2, hzx2, hr⟩ := ob hr
  obtain ⟨fhzz1, hzz1⟩ := rcv_sp hzz1
  refine j_callV (ci := 0) (As := [.int p1]) (rest := []) (st1 := [.float zx2]) (pc' := 5) C ⟨wm_966, wm_967⟩ rfl hzz1 (c_X0_valueOf (nx := nx) hzx2) yw_X0_valueOf wm_965 rfl rfl (Nat.le_of_ble_eq_true rfl) ⟨by decide, by decide⟩ dX0_rankOf_2 rfl rfl ?_
  refine j_fstore (lv' := [(4, .float zx2), (0, .ref this), (1, .int p1), (2, .int p2), (3, .int p3)]) (pc' := 7) C dX0_rankOf_5 (by decide) rfl rfl ?_
  refine j_iconst (v := 0) (pc' := 8) C dX0_rankOf_7 kI_0 rfl ?_
  refine j_istore (lv' := [(5, .int (0 : Int32)), (4, .float zx2), (0, .ref this), (1, .int p1), (2, .int p2), (3, .int p3)]) (pc' := 10) C dX0_rankOf_8 (by decide) rfl rfl ?_
  refine j_iconst (v := 0) (pc' := 11) C dX0_rankOf_10 kI_0 rfl ?_
  refine j_istore (lv' := [(6, .int (0 : Int32)), (5, .int (0 : Int32)), (4, .float zx2), (0, .ref this), (1, .int p1), (2, .int p2), (3, .int p3)]) (pc' := 13) C dX0_rankOf_11 (by decide) rfl rfl ?_
  obtain ⟨zo4, hzo4, rzo4⟩ := ob hr
  have kzo4 : Jd G 0 0 nx ce 120 [(5, .int zo4)] [] := by
    have hr := rzo4
    refine j_iload (q := 0) (pc' := 122) C dX0_rankOf_120 rfl rfl ?_
    have hr := Option.some.inj hr
    subst hr
    exact j_iret C hq hret dX0_rankOf_122
  refine j_lv (lv' := [(0, .ref this), (1, .int p1), (2, .int p2), (3, .int p3), (4, .float zx2), (5, .int (0 : Int32)), (6, .int (0 : Int32))]) [3, 4, 5, 6, 2, 1, 0] rfl ?_
  refine it_J (J := (fun (zs3 : Int32 × Int32) => Jd G 0 0 nx ce 13 [(0, .ref this), (1, .int p1), (2, .int p2), (3, .int p3), (4, .float zx2), (5, .int zs3.1), (6, .int zs3.2)] [])) ?_ hzo4
  clear hzo4
  intro zs3 zr5 hr izs3 ezs3
  refine j_iload (q := 6) (pc' := 15) C dX0_rankOf_13 rfl rfl ?_
  refine j_iload_n (q := 3) (pc' := 16) C dX0_rankOf_15 rfl rfl rfl ?_
  refine j_ic_ge (tgt := 120) (pc' := 19) C dX0_rankOf_16 rfl rfl (fun hc => ?_) (fun hc => ?_)
  · have hr := ifT hc hr
    clear hc
    have hr := ezs3 _ (Option.some.inj hr).symm
    subst hr
    exact j_lv [5] rfl kzo4
  · have hr := ifF hc hr
    clear hc
    refine j_iload (q := 6) (pc' := 21) C dX0_rankOf_19 rfl rfl ?_
    refine j_aload_n (q := 0) (pc' := 22) C dX0_rankOf_21 rfl rfl rfl ?_
    obtain ⟨zx6, hzx6, hr⟩ := ob hr
    refine j_getA (pc' := 25) C dX0_rankOf_22 fl_X0_9 hzx6 rfl ?_
    obtain ⟨zx7, hzx7, hr⟩ := ob hr
    refine j_alen (pc' := 26) C dX0_rankOf_25 hzx7 rfl ?_
    refine j_ic_ge (tgt := 120) (pc' := 29) C dX0_rankOf_26 rfl rfl (fun hc => ?_) (fun hc => ?_)
    · have hr := ifT hc hr
      clear hc
      have hr := ezs3 _ (Option.some.inj hr).symm
      subst hr
      exact j_lv [5] rfl kzo4
    · have hr := ifF hc hr
      clear hc
      refine j_aload_n (q := 0) (pc' := 30) C dX0_rankOf_29 rfl rfl rfl ?_
      obtain ⟨zx8, hzx8, hr⟩ := ob hr
      refine j_getA (pc' := 33) C dX0_rankOf_30 fl_X0_9 hzx8 rfl ?_
      refine j_iload (q := 6) (pc' := 35) C dX0_rankOf_33 rfl rfl ?_
      obtain ⟨zx9, hzx9, hr⟩ := ob hr
      refine j_fald (pc' := 36) C dX0_rankOf_35 hzx9 rfl ?_
      refine j_fstore (lv' := [(7, .float zx9), (0, .ref this), (1, .int p1), (2, .int p2), (3, .int p3), (4, .float zx2), (5, .int zs3.1), (6, .int zs3.2)]) (pc' := 38) C dX0_rankOf_36 (by decide) rfl rfl ?_
      refine j_iload (q := 7) (pc' := 40) C dX0_rankOf_38 rfl rfl ?_
      refine j_iload_n (q := 2) (pc' := 41) C dX0_rankOf_40 rfl rfl rfl ?_
      obtain ⟨zj10, hzj10, rzj10⟩ := ob hr
      have kzj10 : Jd G 0 0 nx ce 49 [(0, .ref this), (1, .int p1), (2, .int p2), (3, .int p3), (4, .float zx2), (5, .int zs3.1), (6, .int zs3.2), (7, .float zx9)] [.int zj10] := by
        have hr := rzj10
        refine j_istore (lv' := [(8, .int zj10), (0, .ref this), (1, .int p1), (2, .int p2), (3, .int p3), (4, .float zx2), (5, .int zs3.1), (6, .int zs3.2), (7, .float zx9)]) (pc' := 51) C dX0_rankOf_49 (by decide) rfl rfl ?_
        refine j_iload_n (q := 3) (pc' := 52) C dX0_rankOf_51 rfl rfl rfl ?_
        refine j_iconst (v := 1) (pc' := 53) C dX0_rankOf_52 kI_1 rfl ?_
        obtain ⟨zj11, hzj11, rzj11⟩ := ob hr
        have kzj11 : Jd G 0 0 nx ce 99 [(0, .ref this), (1, .int p1), (2, .int p2), (3, .int p3), (4, .float zx2), (5, .int zs3.1), (6, .int zs3.2), (8, .int zj11)] [] := by
          have hr := rzj11
          refine j_iload (q := 5) (pc' := 101) C dX0_rankOf_99 rfl rfl ?_
          refine j_iload (q := 7) (pc' := 103) C dX0_rankOf_101 rfl rfl ?_
          refine j_if_eq (tgt := 110) (pc' := 106) C dX0_rankOf_103 rfl rfl (fun hc => ?_) (fun hc => ?_)
          · have hr := ifT hc hr
            clear hc
            refine j_iconst (v := 0) (pc' := 111) C dX0_rankOf_110 kI_0 rfl ?_
            refine j_iadd (pc' := 112) C dX0_rankOf_111 rfl ?_
            refine j_istore (lv' := [(5, .int (zs3.1 + (0 : Int32))), (0, .ref this), (1, .int p1), (2, .int p2), (3, .int p3), (4, .float zx2), (6, .int zs3.2), (8, .int zj11)]) (pc' := 114) C dX0_rankOf_112 (by decide) rfl rfl ?_
            refine j_iinc (q := 6) (v := 1) (lv' := [(6, .int (zs3.2 + (1 : Int32))), (5, .int (zs3.1 + (0 : Int32))), (0, .ref this), (1, .int p1), (2, .int p2), (3, .int p3), (4, .float zx2), (8, .int zj11)]) (pc' := 117) C dX0_rankOf_114 rfl kI_1 (by decide) rfl rfl ?_
            refine j_goto (tgt := 13) C dX0_rankOf_117 rfl ?_
            have hr := izs3 ((zs3.1 + (0 : Int32)), (zs3.2 + (1 : Int32))) (Option.some.inj hr).symm
            exact j_lv [2, 3, 4, 5, 6, 1, 0] rfl hr
          · have hr := ifF hc hr
            clear hc
            refine j_iconst (v := 1) (pc' := 107) C dX0_rankOf_106 kI_1 rfl ?_
            refine j_goto (tgt := 111) C dX0_rankOf_107 rfl ?_
            refine j_iadd (pc' := 112) C dX0_rankOf_111 rfl ?_
            refine j_istore (lv' := [(5, .int (zs3.1 + (1 : Int32))), (0, .ref this), (1, .int p1), (2, .int p2), (3, .int p3), (4, .float zx2), (6, .int zs3.2), (8, .int zj11)]) (pc' := 114) C dX0_rankOf_112 (by decide) rfl rfl ?_
            refine j_iinc (q := 6) (v := 1) (lv' := [(6, .int (zs3.2 + (1 : Int32))), (5, .int (zs3.1 + (1 : Int32))), (0, .ref this), (1, .int p1), (2, .int p2), (3, .int p3), (4, .float zx2), (8, .int zj11)]) (pc' := 117) C dX0_rankOf_114 rfl kI_1 (by decide) rfl rfl ?_
            refine j_goto (tgt := 13) C dX0_rankOf_117 rfl ?_
            have hr := izs3 ((zs3.1 + (1 : Int32)), (zs3.2 + (1 : Int32))) (Option.some.inj hr).symm
            exact j_lv [2, 3, 4, 5, 6, 1, 0] rfl hr
        clear rzj11
        have hr := hzj11
        clear hzj11
        refine j_ic_eq (tgt := 99) (pc' := 56) C dX0_rankOf_53 rfl rfl (fun hc => ?_) (fun hc => ?_)
        · have hr := ifT hc hr
          clear hc
          have hr := Option.some.inj hr
          subst hr
          exact j_lv [1, 2, 3, 4, 5, 6, 7, 0] rfl kzj11
        · have hr := ifF hc hr
          clear hc
          refine j_fload (q := 8) (pc' := 58) C dX0_rankOf_56 rfl rfl ?_
          refine j_fload (q := 5) (pc' := 60) C dX0_rankOf_58 rfl rfl ?_
          refine j_fcmp (pc' := 61) C dX0_rankOf_60 rfl ?_
          refine j_if_eq (tgt := 99) (pc' := 64) C dX0_rankOf_61 rfl rfl (fun hc => ?_) (fun hc => ?_)
          · have hr := ifT hc hr
            clear hc
            have hr := Option.some.inj hr
            subst hr
            exact j_lv [1, 2, 3, 4, 5, 6, 7, 0] rfl kzj11
          · have hr := ifF hc hr
            clear hc
            refine j_iload_n (q := 3) (pc' := 65) C dX0_rankOf_64 rfl rfl rfl ?_
            refine j_if_ne (tgt := 84) (pc' := 68) C dX0_rankOf_65 rfl rfl (fun hc => ?_) (fun hc => ?_)
            · have hr := ifF hc hr
              clear hc
              refine j_fload (q := 8) (pc' := 86) C dX0_rankOf_84 rfl rfl ?_
              refine j_fload (q := 5) (pc' := 88) C dX0_rankOf_86 rfl rfl ?_
              refine j_fcmp (pc' := 89) C dX0_rankOf_88 rfl ?_
              refine j_if_le (tgt := 96) (pc' := 92) C dX0_rankOf_89 rfl rfl (fun hc => ?_) (fun hc => ?_)
              · have hr := ifT hc hr
                clear hc
                refine j_iconst (v := 0) (pc' := 97) C dX0_rankOf_96 kI_0 rfl ?_
                refine j_istore (lv' := [(8, .int (0 : Int32)), (0, .ref this), (1, .int p1), (2, .int p2), (3, .int p3), (4, .float zx2), (5, .int zs3.1), (6, .int zs3.2), (7, .float zx9)]) (pc' := 99) C dX0_rankOf_97 (by decide) rfl rfl ?_
                have hr := Option.some.inj hr
                subst hr
                exact j_lv [1, 2, 3, 4, 5, 6, 7, 0] rfl kzj11
              · have hr := ifF hc hr
                clear hc
                refine j_iconst (v := 1) (pc' := 93) C dX0_rankOf_92 kI_1 rfl ?_
                refine j_goto (tgt := 97) C dX0_rankOf_93 rfl ?_
                refine j_istore (lv' := [(8, .int (1 : Int32)), (0, .ref this), (1, .int p1), (2, .int p2), (3, .int p3), (4, .float zx2), (5, .int zs3.1), (6, .int zs3.2), (7, .float zx9)]) (pc' := 99) C dX0_rankOf_97 (by decide) rfl rfl ?_
                have hr := Option.some.inj hr
                subst hr
                exact j_lv [1, 2, 3, 4, 5, 6, 7, 0] rfl kzj11
            · have hr := ifT hc hr
              clear hc
              refine j_fload (q := 8) (pc' := 70) C dX0_rankOf_68 rfl rfl ?_
              refine j_fload (q := 5) (pc' := 72) C dX0_rankOf_70 rfl rfl ?_
              refine j_fcmp (pc' := 73) C dX0_rankOf_72 rfl ?_
              refine j_if_ge (tgt := 80) (pc' := 76) C dX0_rankOf_73 rfl rfl (fun hc => ?_) (fun hc => ?_)
              · have hr := ifT hc hr
                clear hc
                refine j_iconst (v := 0) (pc' := 81) C dX0_rankOf_80 kI_0 rfl ?_
                refine j_goto (tgt := 97) C dX0_rankOf_81 rfl ?_
                refine j_istore (lv' := [(8, .int (0 : Int32)), (0, .ref this), (1, .int p1), (2, .int p2), (3, .int p3), (4, .float zx2), (5, .int zs3.1), (6, .int zs3.2), (7, .float zx9)]) (pc' := 99) C dX0_rankOf_97 (by decide) rfl rfl ?_
                have hr := Option.some.inj hr
                subst hr
                exact j_lv [1, 2, 3, 4, 5, 6, 7, 0] rfl kzj11
              · have hr := ifF hc hr
                clear hc
                refine j_iconst (v := 1) (pc' := 77) C dX0_rankOf_76 kI_1 rfl ?_
                refine j_goto (tgt := 97) C dX0_rankOf_77 rfl ?_
                refine j_istore (lv' := [(8, .int (1 : Int32)), (0, .ref this), (1, .int p1), (2, .int p2), (3, .int p3), (4, .float zx2), (5, .int zs3.1), (6, .int zs3.2), (7, .float zx9)]) (pc' := 99) C dX0_rankOf_97 (by decide) rfl rfl ?_
                have hr := Option.some.inj hr
                subst hr
                exact j_lv [1, 2, 3, 4, 5, 6, 7, 0] rfl kzj11
      clear rzj10
      have hr := hzj10
      clear hzj10
      refine j_ic_ge (tgt := 48) (pc' := 44) C dX0_rankOf_41 rfl rfl (fun hc => ?_) (fun hc => ?_)
      · have hr := ifT hc hr
        clear hc
        refine j_iconst (v := 0) (pc' := 49) C dX0_rankOf_48 kI_0 rfl ?_
        have hr := Option.some.inj hr
        subst hr
        exact j_lv [1, 2, 3, 4, 5, 6, 7, 0] rfl kzj10
      · have hr := ifF hc hr
        clear hc
        refine j_iconst (v := 1) (pc' := 45) C dX0_rankOf_44 kI_1 rfl ?_
        refine j_goto (tgt := 49) C dX0_rankOf_45 rfl ?_
        have hr := Option.some.inj hr
        subst hr
        exact j_lv [1, 2, 3, 4, 5, 6, 7, 0] rfl kzj10
def m_X0_letterAt (ce : Ce) (this : Nat) (p1 : Int32) (p2 : Int32) (p3 : Int32) : Option (Int32) :=
  (it (fun (zs1 : Int32) =>
    if p3 ≤ zs1 then
      some (Sum.inr (Sum.inr ()))
    else
      (gA ce 0 0 this).bind fun zx4 =>
      (alen ce zx4).bind fun zx5 =>
      if zx5 ≤ zs1 then
        some (Sum.inr (Sum.inr ()))
      else
        (rcv ce 0 this).bind fun zz6 =>
        (m_X0_rankOf ce this zs1 p2 p3).bind fun zx7 =>
        if zx7 = p1 then
          some (Sum.inr (Sum.inl zs1))
        else
          some (Sum.inl (zs1 + (1 : Int32)))
  ) FU (0 : Int32)).bind fun (zo2 : Int32 ⊕ Unit) =>
  Sum.elim (fun wzo2 => some wzo2) (fun vzo2 =>
    some (-1 : Int32)
  ) zo2
set_option maxRecDepth 100000 in
set_option maxHeartbeats 4000000 in
theorem c_X0_letterAt {nx : Nat} {ce : Ce} {this : Nat} {p1 : Int32} {p2 : Int32} {p3 : Int32} {q : Int32} (hr : m_X0_letterAt ce this p1 p2 p3 = some q) : Ct yX0_letterAt cX0_letterAt 5 (some .int) 2 49 0 0 [.ref this, .int p1, .int p2, .int p3] nx ce (some (.int q)) ce := by
  unfold m_X0_letterAt at hr
  refine ct_of (by decide) (Nat.le_of_ble_eq_true rfl) ?_
  intro G C hq hret hin
  show Jd G 0 0 nx ce 0 [(0, .ref this), (1, .int p1), (2, .int p2), (3, .int p3)] []
  refine j_iconst (v := 0) (pc' := 1) C dX0_letterAt_0 kI_0 rfl ?_
  refine j_istore (lv' := [(4, .int (0 : Int32)), (0, .ref this), (1, .int p1), (2, .int p2), (3, .int p3)]) (pc' := 3) C dX0_letterAt_1 (by decide) rfl rfl ?_
  obtain ⟨zo2, hzo2, rzo2⟩ := ob hr
  have kzo2 : ∀ vzo2, zo2 = Sum.inr vzo2 → Jd G 0 0 nx ce 40 [] [] := by
    intro vzo2 ezo2
    rw [ezo2] at rzo2
    have hr := elR rzo2
    refine j_iconst (v := -1) (pc' := 41) C dX0_letterAt_40 kI_m1 rfl ?_
    have hr := Option.some.inj hr
    subst hr
    exact j_iret C hq hret dX0_letterAt_41
  refine j_lv (lv' := [(0, .ref this), (1, .int p1), (2, .int p2), (3, .int p3), (4, .int (0 : Int32))]) [1, 2, 3, 4, 0] rfl ?_
  refine it_J (J := (fun (zs1 : Int32) => Jd G 0 0 nx ce 3 [(0, .ref this), (1, .int p1), (2, .int p2), (3, .int p3), (4, .int zs1)] [])) ?_ hzo2
  clear hzo2
  intro zs1 zr3 hr izs1 ezs1
  refine j_iload (q := 4) (pc' := 5) C dX0_letterAt_3 rfl rfl ?_
  refine j_iload_n (q := 3) (pc' := 6) C dX0_letterAt_5 rfl rfl rfl ?_
  refine j_ic_ge (tgt := 40) (pc' := 9) C dX0_letterAt_6 rfl rfl (fun hc => ?_) (fun hc => ?_)
  · have hr := ifT hc hr
    clear hc
    have hr := ezs1 _ (Option.some.inj hr).symm
    subst hr
    exact j_lv [] rfl (kzo2 _ rfl)
  · have hr := ifF hc hr
    clear hc
    refine j_iload (q := 4) (pc' := 11) C dX0_letterAt_9 rfl rfl ?_
    refine j_aload_n (q := 0) (pc' := 12) C dX0_letterAt_11 rfl rfl rfl ?_
    obtain ⟨zx4, hzx4, hr⟩ := ob hr
    refine j_getA (pc' := 15) C dX0_letterAt_12 fl_X0_9 hzx4 rfl ?_
    obtain ⟨zx5, hzx5, hr⟩ := ob hr
    refine j_alen (pc' := 16) C dX0_letterAt_15 hzx5 rfl ?_
    refine j_ic_ge (tgt := 40) (pc' := 19) C dX0_letterAt_16 rfl rfl (fun hc => ?_) (fun hc => ?_)
    · have hr := ifT hc hr
      clear hc
      have hr := ezs1 _ (Option.some.inj hr).symm
      subst hr
      exact j_lv [] rfl (kzo2 _ rfl)
    · have hr := ifF hc hr
      clear hc
      refine j_aload_n (q := 0) (pc' := 20) C dX0_letterAt_19 rfl rfl rfl ?_
      refine j_iload (q := 4) (pc' := 22) C dX0_letterAt_20 rfl rfl ?_
      refine j_iload_n (q := 2) (pc' := 23) C dX0_letterAt_22 rfl rfl rfl ?_
      refine j_iload_n (q := 3) (pc' := 24) C dX0_letterAt_23 rfl rfl rfl ?_
      obtain ⟨zz6, hzz6, hr⟩ := ob hr
      obtain ⟨zx7, hzx7, hr⟩ := ob hr
      obtain ⟨fhzz6, hzz6⟩ := rcv_sp hzz6
      refine j_callV (ci := 0) (As := [.int zs1, .int p2, .int p3]) (rest := []) (st1 := [.int zx7]) (pc' := 27) C ⟨wm_963, wm_25⟩ rfl hzz6 (c_X0_rankOf (nx := nx) hzx7) yw_X0_rankOf wm_961 rfl rfl (Nat.le_of_ble_eq_true rfl) ⟨by decide, by decide⟩ dX0_letterAt_24 rfl rfl ?_
      refine j_iload_n (q := 1) (pc' := 28) C dX0_letterAt_27 rfl rfl rfl ?_
      refine j_ic_ne (tgt := 34) (pc' := 31) C dX0_letterAt_28 rfl rfl (fun hc => ?_) (fun hc => ?_)
      · have hr := ifF hc hr
        clear hc
        refine j_iinc (q := 4) (v := 1) (lv' := [(4, .int (zs1 + (1 : Int32))), (0, .ref this), (1, .int p1), (2, .int p2), (3, .int p3)]) (pc' := 37) C dX0_letterAt_34 rfl kI_1 (by decide) rfl rfl ?_
        refine j_goto (tgt := 3) C dX0_letterAt_37 rfl ?_
        have hr := izs1 (zs1 + (1 : Int32)) (Option.some.inj hr).symm
        exact j_lv [1, 2, 3, 4, 0] rfl hr
      · have hr := ifT hc hr
        clear hc
        refine j_iload (q := 4) (pc' := 33) C dX0_letterAt_31 rfl rfl ?_
        have hr := ezs1 _ (Option.some.inj hr).symm
        subst hr
        have hr := elL rzo2
        have hr := Option.some.inj hr
        subst hr
        exact j_iret C hq hret dX0_letterAt_33
def m_X1_init (nx : Nat) (ce : Ce) (this : Nat) : Option (Unit × Ce × Nat × Nat) :=
  (nwa (12 : Int32)).bind fun zk3 =>
  adcK 1 zk3 fun _ =>
  (some (gx_up ce nx (.inl (.long, zk3, .inr (.inl (fun _ => 0)))))).bind fun zc2 =>
  (pV zc2 1 0 this (.ref nx)).bind fun zc4 =>
  (nwa (12 : Int32)).bind fun zk7 =>
  adcK 1 zk7 fun _ =>
  (some (gx_up zc4 (nx + 1) (.inl (.long, zk7, .inr (.inl (fun _ => 0)))))).bind fun zc6 =>
  (pV zc6 1 1 this (.ref (nx + 1))).bind fun zc8 =>
  some ((), zc8, 0, 0)
set_option maxRecDepth 100000 in
set_option maxHeartbeats 4000000 in
theorem c_X1_init {nx : Nat} {ce : Ce} {this : Nat} {q : Unit × Ce × Nat × Nat} (hr : m_X1_init nx ce this = some q) : Ct yX1_init cX1_init 1 none 1 20 q.2.2.1 q.2.2.2 [.ref this] nx ce none q.2.1 := by
  unfold m_X1_init at hr
  refine ct_of (by decide) (Nat.le_of_ble_eq_true rfl) ?_
  intro G C hq hret hin
  show Jd G q.2.2.1 q.2.2.2 nx ce 0 [(0, .ref this)] []
  refine j_aload_n (q := 0) (pc' := 1) C dX1_init_0 rfl rfl rfl ?_
  refine j_objInit (pc' := 4) C dX1_init_1 wm_415 wm_157 wm_oi ⟨by decide, by decide⟩ (Nat.le_of_ble_eq_true rfl) rfl ?_
  refine j_aload_n (q := 0) (pc' := 5) C dX1_init_4 rfl rfl rfl ?_
  refine j_bipush (v := 12) (pc' := 7) C dX1_init_5 kB_12 rfl ?_
  obtain ⟨zk3, hzk3, hr⟩ := ob hr
  obtain ⟨nzk3, ezk3, bzk3⟩ := nwa_sp hzk3
  obtain ⟨zt1, hr, azt1, bzt1, czt1, dzt1⟩ := adcK_s hr
  obtain ⟨zc2, hzc2, hr⟩ := ob hr
  have hzc2 := Option.some.inj hzc2
  refine j_k (kc' := zt1.2.2.1 + 1) (ks' := zt1.2.2.2 + zk3) (by omega) (by omega) ?_
  refine j_newa (ty := .long) (t0 := 1) (a0 := (zk3, .inr (.inl (fun _ => 0)))) (N := zk3) (pc' := 9) C dX1_init_7 rfl (fun _ => rfl) (fun _ _ => rfl) wm_215 (fun _ => rfl) nzk3 ezk3 (Nat.le_trans (Nat.mul_le_mul_left _ (by decide)) bzk3) rfl ?_
  rw [hzc2]
  obtain ⟨zc4, hzc4, hr⟩ := ob hr
  refine j_putF (pc' := 12) C hin dX1_init_9 fw_X1_9 rfl rfl hzc4 rfl ?_
  refine j_aload_n (q := 0) (pc' := 13) C dX1_init_12 rfl rfl rfl ?_
  refine j_bipush (v := 12) (pc' := 15) C dX1_init_13 kB_12 rfl ?_
  obtain ⟨zk7, hzk7, hr⟩ := ob hr
  obtain ⟨nzk7, ezk7, bzk7⟩ := nwa_sp hzk7
  obtain ⟨zt5, hr, azt5, bzt5, czt5, dzt5⟩ := adcK_s hr
  obtain ⟨zc6, hzc6, hr⟩ := ob hr
  have hzc6 := Option.some.inj hzc6
  refine j_k (kc' := zt5.2.2.1 + 1) (ks' := zt5.2.2.2 + zk7) (by omega) (by omega) ?_
  refine j_newa (ty := .long) (t0 := 1) (a0 := (zk7, .inr (.inl (fun _ => 0)))) (N := zk7) (pc' := 17) C dX1_init_15 rfl (fun _ => rfl) (fun _ _ => rfl) wm_215 (fun _ => rfl) nzk7 ezk7 (Nat.le_trans (Nat.mul_le_mul_left _ (by decide)) bzk7) rfl ?_
  rw [hzc6]
  obtain ⟨zc8, hzc8, hr⟩ := ob hr
  refine j_putF (pc' := 20) C hin dX1_init_17 fw_X1_15 rfl rfl hzc8 rfl ?_
  obtain ⟨azf9, bzf10, czf11, dzf12⟩ := some4 hr
  refine j_k (kc' := 0) (ks' := 0) (by omega) (by omega) ?_
  rw [show nx + q.2.2.1 = ((nx + 1) + 1) by omega, (bzt1.trans (bzt5.trans bzf10))] at hq
  exact j_vret C hq hret dX1_init_20
def m_X2_statesAt (ce : Ce) (this : Nat) (p1 : Int32) : Option (Int64) :=
  if p1 < 0 then
    some (0 : Int64)
  else
    (gI ce 2 3 this).bind fun zx1 =>
    if zx1 ≤ p1 then
      some (0 : Int64)
    else
      (gA ce 2 2 this).bind fun zx2 =>
      (aL ce zx2 p1).bind fun zx3 =>
      some zx3
set_option maxRecDepth 100000 in
set_option maxHeartbeats 4000000 in
theorem c_X2_statesAt {nx : Nat} {ce : Ce} {this : Nat} {p1 : Int32} {q : Int64} (hr : m_X2_statesAt ce this p1 = some q) : Ct yX2_statesAt cX2_statesAt 2 (some .long) 0 0 0 0 [.ref this, .int p1] nx ce (some (.long q)) ce := by
  unfold m_X2_statesAt at hr
  refine ct_of (by decide) (Nat.le_of_ble_eq_true rfl) ?_
  intro G C hq hret hin
  show Jd G 0 0 nx ce 0 [(0, .ref this), (1, .int p1)] []
  refine j_iload_n (q := 1) (pc' := 1) C dX2_statesAt_0 rfl rfl rfl ?_
  refine j_if_lt (tgt := 21) (pc' := 4) C dX2_statesAt_1 rfl rfl (fun hc => ?_) (fun hc => ?_)
  · have hr := ifT hc hr
    clear hc
    refine j_lconst (v := 0) (pc' := 22) C dX2_statesAt_21 kL_0 rfl ?_
    have hr := Option.some.inj hr
    subst hr
    exact j_lret C hq hret dX2_statesAt_22
  · have hr := ifF hc hr
    clear hc
    refine j_iload_n (q := 1) (pc' := 5) C dX2_statesAt_4 rfl rfl rfl ?_
    refine j_aload_n (q := 0) (pc' := 6) C dX2_statesAt_5 rfl rfl rfl ?_
    obtain ⟨zx1, hzx1, hr⟩ := ob hr
    refine j_getI (pc' := 9) C dX2_statesAt_6 fl_X2_20 hzx1 rfl ?_
    refine j_ic_ge (tgt := 21) (pc' := 12) C dX2_statesAt_9 rfl rfl (fun hc => ?_) (fun hc => ?_)
    · have hr := ifT hc hr
      clear hc
      refine j_lconst (v := 0) (pc' := 22) C dX2_statesAt_21 kL_0 rfl ?_
      have hr := Option.some.inj hr
      subst hr
      exact j_lret C hq hret dX2_statesAt_22
    · have hr := ifF hc hr
      clear hc
      refine j_aload_n (q := 0) (pc' := 13) C dX2_statesAt_12 rfl rfl rfl ?_
      obtain ⟨zx2, hzx2, hr⟩ := ob hr
      refine j_getA (pc' := 16) C dX2_statesAt_13 fl_X2_16 hzx2 rfl ?_
      refine j_iload_n (q := 1) (pc' := 17) C dX2_statesAt_16 rfl rfl rfl ?_
      obtain ⟨zx3, hzx3, hr⟩ := ob hr
      refine j_lald (pc' := 18) C dX2_statesAt_17 hzx3 rfl ?_
      refine j_goto (tgt := 22) C dX2_statesAt_18 rfl ?_
      have hr := Option.some.inj hr
      subst hr
      exact j_lret C hq hret dX2_statesAt_22
def m_X5_before (ce : Ce) (this : Nat) (p1 : Int64) : Option (Int64) :=
  (it (fun (zs1 : Int64 × Int64 × Int32) =>
    (gA ce 3 6 this).bind fun zx4 =>
    (alen ce zx4).bind fun zx5 =>
    if zx5 ≤ zs1.2.2 then
      some (Sum.inr zs1.1)
    else
      if (lg_cmp zs1.2.1 (0 : Int64)) = 0 then
        some (Sum.inr zs1.1)
      else
        (
          if (lg_cmp (zs1.2.1 &&& (1 : Int64)) (0 : Int64)) = 0 then
            some zs1.1
          else
            (gA ce 3 6 this).bind fun zx7 =>
            (aL ce zx7 zs1.2.2).bind fun zx8 =>
            some (zs1.1 ||| zx8)
        ).bind fun (zj6 : Int64) =>
        some (Sum.inl (zj6, (usr64 zs1.2.1 (1 : Int32)), (zs1.2.2 + (1 : Int32))))
  ) FU ((0 : Int64), p1, (0 : Int32))).bind fun (zo2 : Int64) =>
  some zo2
set_option maxRecDepth 100000 in
set_option maxHeartbeats 4000000 in
theorem c_X5_before {nx : Nat} {ce : Ce} {this : Nat} {p1 : Int64} {q : Int64} (hr : m_X5_before ce this p1 = some q) : Ct yX5_before cX5_before 8 (some .long) 0 0 0 0 [.ref this, .long p1] nx ce (some (.long q)) ce := by
  unfold m_X5_before at hr
  refine ct_of (by decide) (Nat.le_of_ble_eq_true rfl) ?_
  intro G C hq hret hin
  show Jd G 0 0 nx ce 0 [(0, .ref this), (1, .long p1)] []
  refine j_lconst (v := 0) (pc' := 1) C dX5_before_0 kL_0 rfl ?_
  refine j_lstore_n (lv' := [(3, .long (0 : Int64)), (0, .ref this), (1, .long p1)]) (pc' := 2) C dX5_before_1 rfl (by decide) rfl rfl ?_
  refine j_lload_n (q := 2) (pc' := 3) C dX5_before_2 rfl rfl rfl ?_
  refine j_lstore (lv' := [(5, .long p1), (3, .long (0 : Int64)), (0, .ref this), (1, .long p1)]) (pc' := 5) C dX5_before_3 (by decide) rfl rfl ?_
  refine j_iconst (v := 0) (pc' := 6) C dX5_before_5 kI_0 rfl ?_
  refine j_istore (lv' := [(7, .int (0 : Int32)), (5, .long p1), (3, .long (0 : Int64)), (0, .ref this), (1, .long p1)]) (pc' := 8) C dX5_before_6 (by decide) rfl rfl ?_
  obtain ⟨zo2, hzo2, rzo2⟩ := ob hr
  have kzo2 : Jd G 0 0 nx ce 56 [(3, .long zo2)] [] := by
    have hr := rzo2
    refine j_lload_n (q := 0) (pc' := 57) C dX5_before_56 rfl rfl rfl ?_
    have hr := Option.some.inj hr
    subst hr
    exact j_lret C hq hret dX5_before_57
  refine j_lv (lv' := [(0, .ref this), (3, .long (0 : Int64)), (5, .long p1), (7, .int (0 : Int32))]) [3, 2, 1, 0] rfl ?_
  refine it_J (J := (fun (zs1 : Int64 × Int64 × Int32) => Jd G 0 0 nx ce 8 [(0, .ref this), (3, .long zs1.1), (5, .long zs1.2.1), (7, .int zs1.2.2)] [])) ?_ hzo2
  clear hzo2
  intro zs1 zr3 hr izs1 ezs1
  refine j_iload (q := 3) (pc' := 10) C dX5_before_8 rfl rfl ?_
  refine j_aload_n (q := 0) (pc' := 11) C dX5_before_10 rfl rfl rfl ?_
  obtain ⟨zx4, hzx4, hr⟩ := ob hr
  refine j_getA (pc' := 14) C dX5_before_11 fl_X5_35 hzx4 rfl ?_
  obtain ⟨zx5, hzx5, hr⟩ := ob hr
  refine j_alen (pc' := 15) C dX5_before_14 hzx5 rfl ?_
  refine j_ic_ge (tgt := 56) (pc' := 18) C dX5_before_15 rfl rfl (fun hc => ?_) (fun hc => ?_)
  · have hr := ifT hc hr
    clear hc
    have hr := ezs1 _ (Option.some.inj hr).symm
    subst hr
    exact j_lv [1] rfl kzo2
  · have hr := ifF hc hr
    clear hc
    refine j_lload (q := 2) (pc' := 20) C dX5_before_18 rfl rfl ?_
    refine j_lconst (v := 0) (pc' := 21) C dX5_before_20 kL_0 rfl ?_
    refine j_lcmp (pc' := 22) C dX5_before_21 rfl ?_
    refine j_if_eq (tgt := 56) (pc' := 25) C dX5_before_22 rfl rfl (fun hc => ?_) (fun hc => ?_)
    · have hr := ifT hc hr
      clear hc
      have hr := ezs1 _ (Option.some.inj hr).symm
      subst hr
      exact j_lv [1] rfl kzo2
    · have hr := ifF hc hr
      clear hc
      refine j_lload (q := 2) (pc' := 27) C dX5_before_25 rfl rfl ?_
      refine j_lconst (v := 1) (pc' := 28) C dX5_before_27 kL_1 rfl ?_
      refine j_land (pc' := 29) C dX5_before_28 rfl ?_
      refine j_lconst (v := 0) (pc' := 30) C dX5_before_29 kL_0 rfl ?_
      refine j_lcmp (pc' := 31) C dX5_before_30 rfl ?_
      obtain ⟨zj6, hzj6, rzj6⟩ := ob hr
      have kzj6 : Jd G 0 0 nx ce 44 [(0, .ref this), (3, .long zj6), (5, .long zs1.2.1), (7, .int zs1.2.2)] [] := by
        have hr := rzj6
        refine j_lload (q := 2) (pc' := 46) C dX5_before_44 rfl rfl ?_
        refine j_iconst (v := 1) (pc' := 47) C dX5_before_46 kI_1 rfl ?_
        refine j_lushr (pc' := 48) C dX5_before_47 rfl ?_
        refine j_lstore (lv' := [(5, .long (usr64 zs1.2.1 (1 : Int32))), (0, .ref this), (3, .long zj6), (7, .int zs1.2.2)]) (pc' := 50) C dX5_before_48 (by decide) rfl rfl ?_
        refine j_iinc (q := 3) (v := 1) (lv' := [(7, .int (zs1.2.2 + (1 : Int32))), (5, .long (usr64 zs1.2.1 (1 : Int32))), (0, .ref this), (3, .long zj6)]) (pc' := 53) C dX5_before_50 rfl kI_1 (by decide) rfl rfl ?_
        refine j_goto (tgt := 8) C dX5_before_53 rfl ?_
        have hr := izs1 (zj6, (usr64 zs1.2.1 (1 : Int32)), (zs1.2.2 + (1 : Int32))) (Option.some.inj hr).symm
        exact j_lv [2, 3, 1, 0] rfl hr
      clear rzj6
      have hr := hzj6
      clear hzj6
      refine j_if_eq (tgt := 44) (pc' := 34) C dX5_before_31 rfl rfl (fun hc => ?_) (fun hc => ?_)
      · have hr := ifT hc hr
        clear hc
        have hr := Option.some.inj hr
        subst hr
        exact j_lv [0, 1, 2, 3] rfl kzj6
      · have hr := ifF hc hr
        clear hc
        refine j_lload_n (q := 1) (pc' := 35) C dX5_before_34 rfl rfl rfl ?_
        refine j_aload_n (q := 0) (pc' := 36) C dX5_before_35 rfl rfl rfl ?_
        obtain ⟨zx7, hzx7, hr⟩ := ob hr
        refine j_getA (pc' := 39) C dX5_before_36 fl_X5_35 hzx7 rfl ?_
        refine j_iload (q := 3) (pc' := 41) C dX5_before_39 rfl rfl ?_
        obtain ⟨zx8, hzx8, hr⟩ := ob hr
        refine j_lald (pc' := 42) C dX5_before_41 hzx8 rfl ?_
        refine j_lor (pc' := 43) C dX5_before_42 rfl ?_
        refine j_lstore_n (lv' := [(3, .long (zs1.1 ||| zx8)), (0, .ref this), (5, .long zs1.2.1), (7, .int zs1.2.2)]) (pc' := 44) C dX5_before_43 rfl (by decide) rfl rfl ?_
        have hr := Option.some.inj hr
        subst hr
        exact j_lv [1, 0, 2, 3] rfl kzj6
def m_X5_hasAim (ce : Ce) (this : Nat) (p1 : Int32) : Option (Int32) :=
  if p1 < 0 then
    some (0 : Int32)
  else
    (gA ce 3 4 this).bind fun zx1 =>
    (alen ce zx1).bind fun zx2 =>
    if zx2 ≤ p1 then
      some (0 : Int32)
    else
      some (1 : Int32)
set_option maxRecDepth 100000 in
set_option maxHeartbeats 4000000 in
theorem c_X5_hasAim {nx : Nat} {ce : Ce} {this : Nat} {p1 : Int32} {q : Int32} (hr : m_X5_hasAim ce this p1 = some q) : Ct yX5_hasAim cX5_hasAim 2 (some .boolean) 0 0 0 0 [.ref this, .int p1] nx ce (some (.int q)) ce := by
  unfold m_X5_hasAim at hr
  refine ct_of (by decide) (Nat.le_of_ble_eq_true rfl) ?_
  intro G C hq hret hin
  show Jd G 0 0 nx ce 0 [(0, .ref this), (1, .int p1)] []
  refine j_iload_n (q := 1) (pc' := 1) C dX5_hasAim_0 rfl rfl rfl ?_
  refine j_if_lt (tgt := 17) (pc' := 4) C dX5_hasAim_1 rfl rfl (fun hc => ?_) (fun hc => ?_)
  · have hr := ifT hc hr
    clear hc
    refine j_iconst (v := 0) (pc' := 18) C dX5_hasAim_17 kI_0 rfl ?_
    have hr := Option.some.inj hr
    subst hr
    exact j_zret C hq hret rfl dX5_hasAim_18
  · have hr := ifF hc hr
    clear hc
    refine j_iload_n (q := 1) (pc' := 5) C dX5_hasAim_4 rfl rfl rfl ?_
    refine j_aload_n (q := 0) (pc' := 6) C dX5_hasAim_5 rfl rfl rfl ?_
    obtain ⟨zx1, hzx1, hr⟩ := ob hr
    refine j_getA (pc' := 9) C dX5_hasAim_6 fl_X5_27 hzx1 rfl ?_
    obtain ⟨zx2, hzx2, hr⟩ := ob hr
    refine j_alen (pc' := 10) C dX5_hasAim_9 hzx2 rfl ?_
    refine j_ic_ge (tgt := 17) (pc' := 13) C dX5_hasAim_10 rfl rfl (fun hc => ?_) (fun hc => ?_)
    · have hr := ifT hc hr
      clear hc
      refine j_iconst (v := 0) (pc' := 18) C dX5_hasAim_17 kI_0 rfl ?_
      have hr := Option.some.inj hr
      subst hr
      exact j_zret C hq hret rfl dX5_hasAim_18
    · have hr := ifF hc hr
      clear hc
      refine j_iconst (v := 1) (pc' := 14) C dX5_hasAim_13 kI_1 rfl ?_
      refine j_goto (tgt := 18) C dX5_hasAim_14 rfl ?_
      have hr := Option.some.inj hr
      subst hr
      exact j_zret C hq hret rfl dX5_hasAim_18
def m_X8_aimStates (ce : Ce) (this : Nat) : Option (Int64) :=
  (gA ce 6 0 this).bind fun zx1 =>
  (gI ce 6 1 this).bind fun zx2 =>
  (rcv ce 3 zx1).bind fun zz3 =>
  (m_X5_hasAim ce zx1 zx2).bind fun zx4 =>
  if zx4 = 0 then
    some (0 : Int64)
  else
    (gA ce 6 0 this).bind fun zx5 =>
    (gA ce 3 4 zx5).bind fun zx6 =>
    (gI ce 6 1 this).bind fun zx7 =>
    (aL ce zx6 zx7).bind fun zx8 =>
    some zx8
set_option maxRecDepth 100000 in
set_option maxHeartbeats 4000000 in
theorem c_X8_aimStates {nx : Nat} {ce : Ce} {this : Nat} {q : Int64} (hr : m_X8_aimStates ce this = some q) : Ct yX8_aimStates cX8_aimStates 1 (some .long) 1 21 0 0 [.ref this] nx ce (some (.long q)) ce := by
  unfold m_X8_aimStates at hr
  refine ct_of (by decide) (Nat.le_of_ble_eq_true rfl) ?_
  intro G C hq hret hin
  show Jd G 0 0 nx ce 0 [(0, .ref this)] []
  refine j_aload_n (q := 0) (pc' := 1) C dX8_aimStates_0 rfl rfl rfl ?_
  obtain ⟨zx1, hzx1, hr⟩ := ob hr
  refine j_getA (pc' := 4) C dX8_aimStates_1 fl_X8_9 hzx1 rfl ?_
  refine j_aload_n (q := 0) (pc' := 5) C dX8_aimStates_4 rfl rfl rfl ?_
  obtain ⟨zx2, hzx2, hr⟩ := ob hr
  refine j_getI (pc' := 8) C dX8_aimStates_5 fl_X8_46 hzx2 rfl ?_
  obtain ⟨zz3, hzz3, hr⟩ := ob hr
  obtain ⟨zx4, hzx4, hr⟩ := ob hr
  obtain ⟨fhzz3, hzz3⟩ := rcv_sp hzz3
  refine j_callV (ci := 3) (As := [.int zx2]) (rest := []) (st1 := [.int zx4]) (pc' := 11) C ⟨wm_790, wm_791⟩ rfl hzz3 (c_X5_hasAim (nx := nx) hzx4) yw_X5_hasAim wm_907 rfl rfl (Nat.le_of_ble_eq_true rfl) ⟨by decide, by decide⟩ dX8_aimStates_8 rfl rfl ?_
  refine j_if_eq (tgt := 29) (pc' := 14) C dX8_aimStates_11 rfl rfl (fun hc => ?_) (fun hc => ?_)
  · have hr := ifT hc hr
    clear hc
    refine j_lconst (v := 0) (pc' := 30) C dX8_aimStates_29 kL_0 rfl ?_
    have hr := Option.some.inj hr
    subst hr
    exact j_lret C hq hret dX8_aimStates_30
  · have hr := ifF hc hr
    clear hc
    refine j_aload_n (q := 0) (pc' := 15) C dX8_aimStates_14 rfl rfl rfl ?_
    obtain ⟨zx5, hzx5, hr⟩ := ob hr
    refine j_getA (pc' := 18) C dX8_aimStates_15 fl_X8_9 hzx5 rfl ?_
    obtain ⟨zx6, hzx6, hr⟩ := ob hr
    refine j_getA (pc' := 21) C dX8_aimStates_18 fl_X8_103 hzx6 rfl ?_
    refine j_aload_n (q := 0) (pc' := 22) C dX8_aimStates_21 rfl rfl rfl ?_
    obtain ⟨zx7, hzx7, hr⟩ := ob hr
    refine j_getI (pc' := 25) C dX8_aimStates_22 fl_X8_46 hzx7 rfl ?_
    obtain ⟨zx8, hzx8, hr⟩ := ob hr
    refine j_lald (pc' := 26) C dX8_aimStates_25 hzx8 rfl ?_
    refine j_goto (tgt := 30) C dX8_aimStates_26 rfl ?_
    have hr := Option.some.inj hr
    subst hr
    exact j_lret C hq hret dX8_aimStates_30
def m_X1_suffices (ce : Ce) (this : Nat) (p1 : Int32) (p2 : Int32) (p3 : Int64) : Option (Int32) :=
  (it (fun (zs1 : Int64 × Int64 × Int32) =>
    if p2 ≤ zs1.2.2 then
      some (Sum.inr (zs1.1, zs1.2.1))
    else
      if ((p1 >>> (zs1.2.2 &&& 31)) &&& (1 : Int32)) = 0 then
        some (Sum.inl (zs1.1, zs1.2.1, (zs1.2.2 + (1 : Int32))))
      else
        (gA ce 1 0 this).bind fun zx4 =>
        (aL ce zx4 zs1.2.2).bind fun zx5 =>
        (gA ce 1 1 this).bind fun zx6 =>
        (aL ce zx6 zs1.2.2).bind fun zx7 =>
        some (Sum.inl ((zs1.1 ||| zx5), (zs1.2.1 ||| zx7), (zs1.2.2 + (1 : Int32))))
  ) FU ((0 : Int64), (0 : Int64), (0 : Int32))).bind fun (zo2 : Int64 × Int64) =>
  if (lg_cmp ((p3 ||| zo2.2) &&& (zo2.1 ^^^ (-1 : Int64))) (0 : Int64)) = 0 then
    some (1 : Int32)
  else
    some (0 : Int32)
set_option maxRecDepth 100000 in
set_option maxHeartbeats 4000000 in
theorem c_X1_suffices {nx : Nat} {ce : Ce} {this : Nat} {p1 : Int32} {p2 : Int32} {p3 : Int64} {q : Int32} (hr : m_X1_suffices ce this p1 p2 p3 = some q) : Ct yX1_suffices cX1_suffices 10 (some .boolean) 0 0 0 0 [.ref this, .int p1, .int p2, .long p3] nx ce (some (.int q)) ce := by
  unfold m_X1_suffices at hr
  refine ct_of (by decide) (Nat.le_of_ble_eq_true rfl) ?_
  intro G C hq hret hin
  show Jd G 0 0 nx ce 0 [(0, .ref this), (1, .int p1), (2, .int p2), (3, .long p3)] []
  refine j_lconst (v := 0) (pc' := 1) C dX1_suffices_0 kL_0 rfl ?_
  refine j_lstore (lv' := [(5, .long (0 : Int64)), (0, .ref this), (1, .int p1), (2, .int p2), (3, .long p3)]) (pc' := 3) C dX1_suffices_1 (by decide) rfl rfl ?_
  refine j_lconst (v := 0) (pc' := 4) C dX1_suffices_3 kL_0 rfl ?_
  refine j_lstore (lv' := [(7, .long (0 : Int64)), (5, .long (0 : Int64)), (0, .ref this), (1, .int p1), (2, .int p2), (3, .long p3)]) (pc' := 6) C dX1_suffices_4 (by decide) rfl rfl ?_
  refine j_iconst (v := 0) (pc' := 7) C dX1_suffices_6 kI_0 rfl ?_
  refine j_istore (lv' := [(9, .int (0 : Int32)), (7, .long (0 : Int64)), (5, .long (0 : Int64)), (0, .ref this), (1, .int p1), (2, .int p2), (3, .long p3)]) (pc' := 9) C dX1_suffices_7 (by decide) rfl rfl ?_
  obtain ⟨zo2, hzo2, rzo2⟩ := ob hr
  have kzo2 : Jd G 0 0 nx ce 54 [(3, .long p3), (5, .long zo2.1), (7, .long zo2.2)] [] := by
    have hr := rzo2
    refine j_lload_n (q := 0) (pc' := 55) C dX1_suffices_54 rfl rfl rfl ?_
    refine j_lload (q := 2) (pc' := 57) C dX1_suffices_55 rfl rfl ?_
    refine j_lor (pc' := 58) C dX1_suffices_57 rfl ?_
    refine j_lload (q := 1) (pc' := 60) C dX1_suffices_58 rfl rfl ?_
    refine j_ldc2 (pc' := 63) C dX1_suffices_60 wm_1341 rfl ?_
    refine j_lxor (pc' := 64) C dX1_suffices_63 rfl ?_
    refine j_land (pc' := 65) C dX1_suffices_64 rfl ?_
    refine j_lconst (v := 0) (pc' := 66) C dX1_suffices_65 kL_0 rfl ?_
    refine j_lcmp (pc' := 67) C dX1_suffices_66 rfl ?_
    refine j_if_ne (tgt := 74) (pc' := 70) C dX1_suffices_67 rfl rfl (fun hc => ?_) (fun hc => ?_)
    · have hr := ifF hc hr
      clear hc
      refine j_iconst (v := 0) (pc' := 75) C dX1_suffices_74 kI_0 rfl ?_
      have hr := Option.some.inj hr
      subst hr
      exact j_zret C hq hret rfl dX1_suffices_75
    · have hr := ifT hc hr
      clear hc
      refine j_iconst (v := 1) (pc' := 71) C dX1_suffices_70 kI_1 rfl ?_
      refine j_goto (tgt := 75) C dX1_suffices_71 rfl ?_
      have hr := Option.some.inj hr
      subst hr
      exact j_zret C hq hret rfl dX1_suffices_75
  refine j_lv (lv' := [(0, .ref this), (1, .int p1), (2, .int p2), (3, .long p3), (5, .long (0 : Int64)), (7, .long (0 : Int64)), (9, .int (0 : Int32))]) [3, 4, 5, 6, 2, 1, 0] rfl ?_
  refine it_J (J := (fun (zs1 : Int64 × Int64 × Int32) => Jd G 0 0 nx ce 9 [(0, .ref this), (1, .int p1), (2, .int p2), (3, .long p3), (5, .long zs1.1), (7, .long zs1.2.1), (9, .int zs1.2.2)] [])) ?_ hzo2
  clear hzo2
  intro zs1 zr3 hr izs1 ezs1
  refine j_iload (q := 6) (pc' := 11) C dX1_suffices_9 rfl rfl ?_
  refine j_iload_n (q := 2) (pc' := 12) C dX1_suffices_11 rfl rfl rfl ?_
  refine j_ic_ge (tgt := 54) (pc' := 15) C dX1_suffices_12 rfl rfl (fun hc => ?_) (fun hc => ?_)
  · have hr := ifT hc hr
    clear hc
    have hr := ezs1 _ (Option.some.inj hr).symm
    subst hr
    exact j_lv [3, 4, 5] rfl kzo2
  · have hr := ifF hc hr
    clear hc
    refine j_iload_n (q := 1) (pc' := 16) C dX1_suffices_15 rfl rfl rfl ?_
    refine j_iload (q := 6) (pc' := 18) C dX1_suffices_16 rfl rfl ?_
    refine j_ishr (pc' := 19) C dX1_suffices_18 rfl ?_
    refine j_iconst (v := 1) (pc' := 20) C dX1_suffices_19 kI_1 rfl ?_
    refine j_iand (pc' := 21) C dX1_suffices_20 rfl ?_
    refine j_if_eq (tgt := 48) (pc' := 24) C dX1_suffices_21 rfl rfl (fun hc => ?_) (fun hc => ?_)
    · have hr := ifT hc hr
      clear hc
      refine j_iinc (q := 6) (v := 1) (lv' := [(9, .int (zs1.2.2 + (1 : Int32))), (0, .ref this), (1, .int p1), (2, .int p2), (3, .long p3), (5, .long zs1.1), (7, .long zs1.2.1)]) (pc' := 51) C dX1_suffices_48 rfl kI_1 (by decide) rfl rfl ?_
      refine j_goto (tgt := 9) C dX1_suffices_51 rfl ?_
      have hr := izs1 (zs1.1, zs1.2.1, (zs1.2.2 + (1 : Int32))) (Option.some.inj hr).symm
      exact j_lv [1, 2, 3, 4, 5, 6, 0] rfl hr
    · have hr := ifF hc hr
      clear hc
      refine j_lload (q := 4) (pc' := 26) C dX1_suffices_24 rfl rfl ?_
      refine j_aload_n (q := 0) (pc' := 27) C dX1_suffices_26 rfl rfl rfl ?_
      obtain ⟨zx4, hzx4, hr⟩ := ob hr
      refine j_getA (pc' := 30) C dX1_suffices_27 fl_X1_9 hzx4 rfl ?_
      refine j_iload (q := 6) (pc' := 32) C dX1_suffices_30 rfl rfl ?_
      obtain ⟨zx5, hzx5, hr⟩ := ob hr
      refine j_lald (pc' := 33) C dX1_suffices_32 hzx5 rfl ?_
      refine j_lor (pc' := 34) C dX1_suffices_33 rfl ?_
      refine j_lstore (lv' := [(5, .long (zs1.1 ||| zx5)), (0, .ref this), (1, .int p1), (2, .int p2), (3, .long p3), (7, .long zs1.2.1), (9, .int zs1.2.2)]) (pc' := 36) C dX1_suffices_34 (by decide) rfl rfl ?_
      refine j_lload (q := 5) (pc' := 38) C dX1_suffices_36 rfl rfl ?_
      refine j_aload_n (q := 1) (pc' := 39) C dX1_suffices_38 rfl rfl rfl ?_
      obtain ⟨zx6, hzx6, hr⟩ := ob hr
      refine j_getA (pc' := 42) C dX1_suffices_39 fl_X1_15 hzx6 rfl ?_
      refine j_iload (q := 6) (pc' := 44) C dX1_suffices_42 rfl rfl ?_
      obtain ⟨zx7, hzx7, hr⟩ := ob hr
      refine j_lald (pc' := 45) C dX1_suffices_44 hzx7 rfl ?_
      refine j_lor (pc' := 46) C dX1_suffices_45 rfl ?_
      refine j_lstore (lv' := [(7, .long (zs1.2.1 ||| zx7)), (5, .long (zs1.1 ||| zx5)), (0, .ref this), (1, .int p1), (2, .int p2), (3, .long p3), (9, .int zs1.2.2)]) (pc' := 48) C dX1_suffices_46 (by decide) rfl rfl ?_
      refine j_iinc (q := 6) (v := 1) (lv' := [(9, .int (zs1.2.2 + (1 : Int32))), (7, .long (zs1.2.1 ||| zx7)), (5, .long (zs1.1 ||| zx5)), (0, .ref this), (1, .int p1), (2, .int p2), (3, .long p3)]) (pc' := 51) C dX1_suffices_48 rfl kI_1 (by decide) rfl rfl ?_
      refine j_goto (tgt := 9) C dX1_suffices_51 rfl ?_
      have hr := izs1 ((zs1.1 ||| zx5), (zs1.2.1 ||| zx7), (zs1.2.2 + (1 : Int32))) (Option.some.inj hr).symm
      exact j_lv [3, 4, 5, 6, 2, 1, 0] rfl hr
def m_J6_numberOfTrailingZeros_0f7a4 (p0 : Int32) : Option (Int32) :=
  if 0 < ((p0 ^^^ (-1 : Int32)) &&& (p0 - (1 : Int32))) then
    (
      if ((p0 ^^^ (-1 : Int32)) &&& (p0 - (1 : Int32))) ≤ (65536 : Int32) then
        some (((p0 ^^^ (-1 : Int32)) &&& (p0 - (1 : Int32))), (1 : Int32))
      else
        some ((usr32 ((p0 ^^^ (-1 : Int32)) &&& (p0 - (1 : Int32))) (16 : Int32)), ((1 : Int32) + (16 : Int32)))
    ).bind fun (zj1 : Int32 × Int32) =>
    (
      if zj1.1 ≤ (256 : Int32) then
        some (zj1.1, zj1.2)
      else
        some ((usr32 zj1.1 (8 : Int32)), (zj1.2 + (8 : Int32)))
    ).bind fun (zj2 : Int32 × Int32) =>
    (
      if zj2.1 ≤ (16 : Int32) then
        some (zj2.1, zj2.2)
      else
        some ((usr32 zj2.1 (4 : Int32)), (zj2.2 + (4 : Int32)))
    ).bind fun (zj3 : Int32 × Int32) =>
    (
      if zj3.1 ≤ (4 : Int32) then
        some (zj3.1, zj3.2)
      else
        some ((usr32 zj3.1 (2 : Int32)), (zj3.2 + (2 : Int32)))
    ).bind fun (zj4 : Int32 × Int32) =>
    some (zj4.2 + (usr32 zj4.1 (1 : Int32)))
  else
    some (((p0 ^^^ (-1 : Int32)) &&& (p0 - (1 : Int32))) &&& (32 : Int32))
set_option maxRecDepth 100000 in
set_option maxHeartbeats 4000000 in
theorem c_J6_numberOfTrailingZeros_0f7a4 {nx : Nat} {ce : Ce} {p0 : Int32} {q : Int32} (hr : m_J6_numberOfTrailingZeros_0f7a4 p0 = some q) : Ct yJ6_numberOfTrailingZeros_0f7a4 cJ6_numberOfTrailingZeros_0f7a4 2 (some .int) 0 0 0 0 [.int p0] nx ce (some (.int q)) ce := by
  unfold m_J6_numberOfTrailingZeros_0f7a4 at hr
  refine ct_of (by decide) (Nat.le_of_ble_eq_true rfl) ?_
  intro G C hq hret hin
  show Jd G 0 0 nx ce 0 [(0, .int p0)] []
  refine j_iload_n (q := 0) (pc' := 1) C dJ6_numberOfTrailingZeros_0f7a4_0 rfl rfl rfl ?_
  refine j_iconst (v := -1) (pc' := 2) C dJ6_numberOfTrailingZeros_0f7a4_1 kI_m1 rfl ?_
  refine j_ixor (pc' := 3) C dJ6_numberOfTrailingZeros_0f7a4_2 rfl ?_
  refine j_iload_n (q := 0) (pc' := 4) C dJ6_numberOfTrailingZeros_0f7a4_3 rfl rfl rfl ?_
  refine j_iconst (v := 1) (pc' := 5) C dJ6_numberOfTrailingZeros_0f7a4_4 kI_1 rfl ?_
  refine j_isub (pc' := 6) C dJ6_numberOfTrailingZeros_0f7a4_5 rfl ?_
  refine j_iand (pc' := 7) C dJ6_numberOfTrailingZeros_0f7a4_6 rfl ?_
  refine j_istore_n (lv' := [(0, .int ((p0 ^^^ (-1 : Int32)) &&& (p0 - (1 : Int32))))]) (pc' := 8) C dJ6_numberOfTrailingZeros_0f7a4_7 rfl (by decide) rfl rfl ?_
  refine j_iload_n (q := 0) (pc' := 9) C dJ6_numberOfTrailingZeros_0f7a4_8 rfl rfl rfl ?_
  refine j_if_gt (tgt := 17) (pc' := 12) C dJ6_numberOfTrailingZeros_0f7a4_9 rfl rfl (fun hc => ?_) (fun hc => ?_)
  · have hr := ifT hc hr
    clear hc
    refine j_iconst (v := 1) (pc' := 18) C dJ6_numberOfTrailingZeros_0f7a4_17 kI_1 rfl ?_
    refine j_istore_n (lv' := [(1, .int (1 : Int32)), (0, .int ((p0 ^^^ (-1 : Int32)) &&& (p0 - (1 : Int32))))]) (pc' := 19) C dJ6_numberOfTrailingZeros_0f7a4_18 rfl (by decide) rfl rfl ?_
    refine j_iload_n (q := 1) (pc' := 20) C dJ6_numberOfTrailingZeros_0f7a4_19 rfl rfl rfl ?_
    refine j_ldcw (pc' := 23) C dJ6_numberOfTrailingZeros_0f7a4_20 wm_951 rfl ?_
    obtain ⟨zj1, hzj1, rzj1⟩ := ob hr
    have kzj1 : Jd G 0 0 nx ce 34 [(0, .int zj1.1), (1, .int zj1.2)] [] := by
      have hr := rzj1
      refine j_iload_n (q := 0) (pc' := 35) C dJ6_numberOfTrailingZeros_0f7a4_34 rfl rfl rfl ?_
      refine j_sipush (v := 256) (pc' := 38) C dJ6_numberOfTrailingZeros_0f7a4_35 kS_256 rfl ?_
      obtain ⟨zj2, hzj2, rzj2⟩ := ob hr
      have kzj2 : Jd G 0 0 nx ce 49 [(0, .int zj2.1), (1, .int zj2.2)] [] := by
        have hr := rzj2
        refine j_iload_n (q := 0) (pc' := 50) C dJ6_numberOfTrailingZeros_0f7a4_49 rfl rfl rfl ?_
        refine j_bipush (v := 16) (pc' := 52) C dJ6_numberOfTrailingZeros_0f7a4_50 kB_16 rfl ?_
        obtain ⟨zj3, hzj3, rzj3⟩ := ob hr
        have kzj3 : Jd G 0 0 nx ce 62 [(0, .int zj3.1), (1, .int zj3.2)] [] := by
          have hr := rzj3
          refine j_iload_n (q := 0) (pc' := 63) C dJ6_numberOfTrailingZeros_0f7a4_62 rfl rfl rfl ?_
          refine j_iconst (v := 4) (pc' := 64) C dJ6_numberOfTrailingZeros_0f7a4_63 kI_4 rfl ?_
          obtain ⟨zj4, hzj4, rzj4⟩ := ob hr
          have kzj4 : Jd G 0 0 nx ce 74 [(0, .int zj4.1), (1, .int zj4.2)] [] := by
            have hr := rzj4
            refine j_iload_n (q := 1) (pc' := 75) C dJ6_numberOfTrailingZeros_0f7a4_74 rfl rfl rfl ?_
            refine j_iload_n (q := 0) (pc' := 76) C dJ6_numberOfTrailingZeros_0f7a4_75 rfl rfl rfl ?_
            refine j_iconst (v := 1) (pc' := 77) C dJ6_numberOfTrailingZeros_0f7a4_76 kI_1 rfl ?_
            refine j_iushr (pc' := 78) C dJ6_numberOfTrailingZeros_0f7a4_77 rfl ?_
            refine j_iadd (pc' := 79) C dJ6_numberOfTrailingZeros_0f7a4_78 rfl ?_
            have hr := Option.some.inj hr
            subst hr
            exact j_iret C hq hret dJ6_numberOfTrailingZeros_0f7a4_79
          clear rzj4
          have hr := hzj4
          clear hzj4
          refine j_ic_le (tgt := 74) (pc' := 67) C dJ6_numberOfTrailingZeros_0f7a4_64 rfl rfl (fun hc => ?_) (fun hc => ?_)
          · have hr := ifT hc hr
            clear hc
            have hr := Option.some.inj hr
            subst hr
            exact j_lv [0, 1] rfl kzj4
          · have hr := ifF hc hr
            clear hc
            refine j_iinc (q := 1) (v := 2) (lv' := [(1, .int (zj3.2 + (2 : Int32))), (0, .int zj3.1)]) (pc' := 70) C dJ6_numberOfTrailingZeros_0f7a4_67 rfl kI_2 (by decide) rfl rfl ?_
            refine j_iload_n (q := 1) (pc' := 71) C dJ6_numberOfTrailingZeros_0f7a4_70 rfl rfl rfl ?_
            refine j_iconst (v := 2) (pc' := 72) C dJ6_numberOfTrailingZeros_0f7a4_71 kI_2 rfl ?_
            refine j_iushr (pc' := 73) C dJ6_numberOfTrailingZeros_0f7a4_72 rfl ?_
            refine j_istore_n (lv' := [(0, .int (usr32 zj3.1 (2 : Int32))), (1, .int (zj3.2 + (2 : Int32)))]) (pc' := 74) C dJ6_numberOfTrailingZeros_0f7a4_73 rfl (by decide) rfl rfl ?_
            have hr := Option.some.inj hr
            subst hr
            exact j_lv [0, 1] rfl kzj4
        clear rzj3
        have hr := hzj3
        clear hzj3
        refine j_ic_le (tgt := 62) (pc' := 55) C dJ6_numberOfTrailingZeros_0f7a4_52 rfl rfl (fun hc => ?_) (fun hc => ?_)
        · have hr := ifT hc hr
          clear hc
          have hr := Option.some.inj hr
          subst hr
          exact j_lv [0, 1] rfl kzj3
        · have hr := ifF hc hr
          clear hc
          refine j_iinc (q := 1) (v := 4) (lv' := [(1, .int (zj2.2 + (4 : Int32))), (0, .int zj2.1)]) (pc' := 58) C dJ6_numberOfTrailingZeros_0f7a4_55 rfl kI_4 (by decide) rfl rfl ?_
          refine j_iload_n (q := 1) (pc' := 59) C dJ6_numberOfTrailingZeros_0f7a4_58 rfl rfl rfl ?_
          refine j_iconst (v := 4) (pc' := 60) C dJ6_numberOfTrailingZeros_0f7a4_59 kI_4 rfl ?_
          refine j_iushr (pc' := 61) C dJ6_numberOfTrailingZeros_0f7a4_60 rfl ?_
          refine j_istore_n (lv' := [(0, .int (usr32 zj2.1 (4 : Int32))), (1, .int (zj2.2 + (4 : Int32)))]) (pc' := 62) C dJ6_numberOfTrailingZeros_0f7a4_61 rfl (by decide) rfl rfl ?_
          have hr := Option.some.inj hr
          subst hr
          exact j_lv [0, 1] rfl kzj3
      clear rzj2
      have hr := hzj2
      clear hzj2
      refine j_ic_le (tgt := 49) (pc' := 41) C dJ6_numberOfTrailingZeros_0f7a4_38 rfl rfl (fun hc => ?_) (fun hc => ?_)
      · have hr := ifT hc hr
        clear hc
        have hr := Option.some.inj hr
        subst hr
        exact j_lv [0, 1] rfl kzj2
      · have hr := ifF hc hr
        clear hc
        refine j_iinc (q := 1) (v := 8) (lv' := [(1, .int (zj1.2 + (8 : Int32))), (0, .int zj1.1)]) (pc' := 44) C dJ6_numberOfTrailingZeros_0f7a4_41 rfl kI_8 (by decide) rfl rfl ?_
        refine j_iload_n (q := 1) (pc' := 45) C dJ6_numberOfTrailingZeros_0f7a4_44 rfl rfl rfl ?_
        refine j_bipush (v := 8) (pc' := 47) C dJ6_numberOfTrailingZeros_0f7a4_45 kB_8 rfl ?_
        refine j_iushr (pc' := 48) C dJ6_numberOfTrailingZeros_0f7a4_47 rfl ?_
        refine j_istore_n (lv' := [(0, .int (usr32 zj1.1 (8 : Int32))), (1, .int (zj1.2 + (8 : Int32)))]) (pc' := 49) C dJ6_numberOfTrailingZeros_0f7a4_48 rfl (by decide) rfl rfl ?_
        have hr := Option.some.inj hr
        subst hr
        exact j_lv [0, 1] rfl kzj2
    clear rzj1
    have hr := hzj1
    clear hzj1
    refine j_ic_le (tgt := 34) (pc' := 26) C dJ6_numberOfTrailingZeros_0f7a4_23 rfl rfl (fun hc => ?_) (fun hc => ?_)
    · have hr := ifT hc hr
      clear hc
      have hr := Option.some.inj hr
      subst hr
      exact j_lv [1, 0] rfl kzj1
    · have hr := ifF hc hr
      clear hc
      refine j_iinc (q := 0) (v := 16) (lv' := [(1, .int ((1 : Int32) + (16 : Int32))), (0, .int ((p0 ^^^ (-1 : Int32)) &&& (p0 - (1 : Int32))))]) (pc' := 29) C dJ6_numberOfTrailingZeros_0f7a4_26 rfl kI_16 (by decide) rfl rfl ?_
      refine j_iload_n (q := 1) (pc' := 30) C dJ6_numberOfTrailingZeros_0f7a4_29 rfl rfl rfl ?_
      refine j_bipush (v := 16) (pc' := 32) C dJ6_numberOfTrailingZeros_0f7a4_30 kB_16 rfl ?_
      refine j_iushr (pc' := 33) C dJ6_numberOfTrailingZeros_0f7a4_32 rfl ?_
      refine j_istore_n (lv' := [(0, .int (usr32 ((p0 ^^^ (-1 : Int32)) &&& (p0 - (1 : Int32))) (16 : Int32))), (1, .int ((1 : Int32) + (16 : Int32)))]) (pc' := 34) C dJ6_numberOfTrailingZeros_0f7a4_33 rfl (by decide) rfl rfl ?_
      have hr := Option.some.inj hr
      subst hr
      exact j_lv [0, 1] rfl kzj1
  · have hr := ifF hc hr
    clear hc
    refine j_iload_n (q := 0) (pc' := 13) C dJ6_numberOfTrailingZeros_0f7a4_12 rfl rfl rfl ?_
    refine j_bipush (v := 32) (pc' := 15) C dJ6_numberOfTrailingZeros_0f7a4_13 kB_32 rfl ?_
    refine j_iand (pc' := 16) C dJ6_numberOfTrailingZeros_0f7a4_15 rfl ?_
    have hr := Option.some.inj hr
    subst hr
    exact j_iret C hq hret dJ6_numberOfTrailingZeros_0f7a4_16
def m_X1_nextOfLikeMany (p0 : Int32) : Option (Int32) :=
  if p0 = 0 then
    some (4096 : Int32)
  else
    (m_J6_numberOfTrailingZeros_0f7a4 p0).bind fun zx1 =>
    some ((p0 + (p0 &&& (-p0))) ||| (usr32 ((p0 + (p0 &&& (-p0))) ^^^ p0) ((2 : Int32) + zx1)))
set_option maxRecDepth 100000 in
set_option maxHeartbeats 4000000 in
theorem c_X1_nextOfLikeMany {nx : Nat} {ce : Ce} {p0 : Int32} {q : Int32} (hr : m_X1_nextOfLikeMany p0 = some q) : Ct yX1_nextOfLikeMany cX1_nextOfLikeMany 2 (some .int) 1 21 0 0 [.int p0] nx ce (some (.int q)) ce := by
  unfold m_X1_nextOfLikeMany at hr
  refine ct_of (by decide) (Nat.le_of_ble_eq_true rfl) ?_
  intro G C hq hret hin
  show Jd G 0 0 nx ce 0 [(0, .int p0)] []
  refine j_iload_n (q := 0) (pc' := 1) C dX1_nextOfLikeMany_0 rfl rfl rfl ?_
  refine j_if_ne (tgt := 8) (pc' := 4) C dX1_nextOfLikeMany_1 rfl rfl (fun hc => ?_) (fun hc => ?_)
  · have hr := ifF hc hr
    clear hc
    refine j_iload_n (q := 0) (pc' := 9) C dX1_nextOfLikeMany_8 rfl rfl rfl ?_
    refine j_iload_n (q := 0) (pc' := 10) C dX1_nextOfLikeMany_9 rfl rfl rfl ?_
    refine j_iload_n (q := 0) (pc' := 11) C dX1_nextOfLikeMany_10 rfl rfl rfl ?_
    refine j_ineg (pc' := 12) C dX1_nextOfLikeMany_11 rfl ?_
    refine j_iand (pc' := 13) C dX1_nextOfLikeMany_12 rfl ?_
    refine j_iadd (pc' := 14) C dX1_nextOfLikeMany_13 rfl ?_
    refine j_istore_n (lv' := [(1, .int (p0 + (p0 &&& (-p0)))), (0, .int p0)]) (pc' := 15) C dX1_nextOfLikeMany_14 rfl (by decide) rfl rfl ?_
    refine j_iload_n (q := 0) (pc' := 16) C dX1_nextOfLikeMany_15 rfl rfl rfl ?_
    refine j_iload_n (q := 0) (pc' := 17) C dX1_nextOfLikeMany_16 rfl rfl rfl ?_
    refine j_iload_n (q := 1) (pc' := 18) C dX1_nextOfLikeMany_17 rfl rfl rfl ?_
    refine j_ixor (pc' := 19) C dX1_nextOfLikeMany_18 rfl ?_
    refine j_iconst (v := 2) (pc' := 20) C dX1_nextOfLikeMany_19 kI_2 rfl ?_
    refine j_iload_n (q := 1) (pc' := 21) C dX1_nextOfLikeMany_20 rfl rfl rfl ?_
    obtain ⟨zx1, hzx1, hr⟩ := ob hr
    refine j_callS (As := [.int p0]) (rest := [.int (2 : Int32), .int ((p0 + (p0 &&& (-p0))) ^^^ p0), .int (p0 + (p0 &&& (-p0)))]) (st1 := [.int zx1, .int (2 : Int32), .int ((p0 + (p0 &&& (-p0))) ^^^ p0), .int (p0 + (p0 &&& (-p0)))]) (pc' := 24) C wm_949 (c_J6_numberOfTrailingZeros_0f7a4 (nx := nx) (ce := ce) hzx1) yw_J6_numberOfTrailingZeros_0f7a4 wm_1345 rfl rfl (Nat.le_of_ble_eq_true rfl) ⟨by decide, by decide⟩ dX1_nextOfLikeMany_21 rfl rfl ?_
    refine j_iadd (pc' := 25) C dX1_nextOfLikeMany_24 rfl ?_
    refine j_iushr (pc' := 26) C dX1_nextOfLikeMany_25 rfl ?_
    refine j_ior (pc' := 27) C dX1_nextOfLikeMany_26 rfl ?_
    have hr := Option.some.inj hr
    subst hr
    exact j_iret C hq hret dX1_nextOfLikeMany_27
  · have hr := ifT hc hr
    clear hc
    refine j_sipush (v := 4096) (pc' := 7) C dX1_nextOfLikeMany_4 kS_4096 rfl ?_
    have hr := Option.some.inj hr
    subst hr
    exact j_iret C hq hret dX1_nextOfLikeMany_7
def m_X1_firstOf (ce : Ce) (this : Nat) (p1 : Int32) (p2 : Int32) (p3 : Int64) : Option (Int32) :=
  (it (fun (zs1 : Int32 × Int32) =>
    if (4096 : Int32) ≤ zs1.2 then
      some (Sum.inr (Sum.inr ()))
    else
      if ((1 : Int32) <<< (p2 &&& 31)) ≤ zs1.1 then
        some (Sum.inr (Sum.inr ()))
      else
        (rcv ce 1 this).bind fun zz4 =>
        (m_X1_suffices ce this zs1.1 p2 p3).bind fun zx5 =>
        if zx5 = 0 then
          (m_X1_nextOfLikeMany zs1.1).bind fun zx6 =>
          some (Sum.inl (zx6, (zs1.2 + (1 : Int32))))
        else
          some (Sum.inr (Sum.inl zs1.1))
  ) FU ((((1 : Int32) <<< (p1 &&& 31)) - (1 : Int32)), (0 : Int32))).bind fun (zo2 : Int32 ⊕ Unit) =>
  Sum.elim (fun wzo2 => some wzo2) (fun vzo2 =>
    some (-1 : Int32)
  ) zo2
set_option maxRecDepth 100000 in
set_option maxHeartbeats 4000000 in
theorem c_X1_firstOf {nx : Nat} {ce : Ce} {this : Nat} {p1 : Int32} {p2 : Int32} {p3 : Int64} {q : Int32} (hr : m_X1_firstOf ce this p1 p2 p3 = some q) : Ct yX1_firstOf cX1_firstOf 7 (some .int) 2 42 0 0 [.ref this, .int p1, .int p2, .long p3] nx ce (some (.int q)) ce := by
  unfold m_X1_firstOf at hr
  refine ct_of (by decide) (Nat.le_of_ble_eq_true rfl) ?_
  intro G C hq hret hin
  show Jd G 0 0 nx ce 0 [(0, .ref this), (1, .int p1), (2, .int p2), (3, .long p3)] []
  refine j_iconst (v := 1) (pc' := 1) C dX1_firstOf_0 kI_1 rfl ?_
  refine j_iload_n (q := 1) (pc' := 2) C dX1_firstOf_1 rfl rfl rfl ?_
  refine j_ishl (pc' := 3) C dX1_firstOf_2 rfl ?_
  refine j_iconst (v := 1) (pc' := 4) C dX1_firstOf_3 kI_1 rfl ?_
  refine j_isub (pc' := 5) C dX1_firstOf_4 rfl ?_
  refine j_istore (lv' := [(5, .int (((1 : Int32) <<< (p1 &&& 31)) - (1 : Int32))), (0, .ref this), (1, .int p1), (2, .int p2), (3, .long p3)]) (pc' := 7) C dX1_firstOf_5 (by decide) rfl rfl ?_
  refine j_iconst (v := 0) (pc' := 8) C dX1_firstOf_7 kI_0 rfl ?_
  refine j_istore (lv' := [(6, .int (0 : Int32)), (5, .int (((1 : Int32) <<< (p1 &&& 31)) - (1 : Int32))), (0, .ref this), (1, .int p1), (2, .int p2), (3, .long p3)]) (pc' := 10) C dX1_firstOf_8 (by decide) rfl rfl ?_
  obtain ⟨zo2, hzo2, rzo2⟩ := ob hr
  have kzo2 : ∀ vzo2, zo2 = Sum.inr vzo2 → Jd G 0 0 nx ce 53 [] [] := by
    intro vzo2 ezo2
    rw [ezo2] at rzo2
    have hr := elR rzo2
    refine j_iconst (v := -1) (pc' := 54) C dX1_firstOf_53 kI_m1 rfl ?_
    have hr := Option.some.inj hr
    subst hr
    exact j_iret C hq hret dX1_firstOf_54
  refine j_lv (lv' := [(0, .ref this), (2, .int p2), (3, .long p3), (5, .int (((1 : Int32) <<< (p1 &&& 31)) - (1 : Int32))), (6, .int (0 : Int32))]) [2, 4, 5, 1, 0] rfl ?_
  refine it_J (J := (fun (zs1 : Int32 × Int32) => Jd G 0 0 nx ce 10 [(0, .ref this), (2, .int p2), (3, .long p3), (5, .int zs1.1), (6, .int zs1.2)] [])) ?_ hzo2
  clear hzo2
  intro zs1 zr3 hr izs1 ezs1
  refine j_iload (q := 4) (pc' := 12) C dX1_firstOf_10 rfl rfl ?_
  refine j_sipush (v := 4096) (pc' := 15) C dX1_firstOf_12 kS_4096 rfl ?_
  refine j_ic_ge (tgt := 53) (pc' := 18) C dX1_firstOf_15 rfl rfl (fun hc => ?_) (fun hc => ?_)
  · have hr := ifT hc hr
    clear hc
    have hr := ezs1 _ (Option.some.inj hr).symm
    subst hr
    exact j_lv [] rfl (kzo2 _ rfl)
  · have hr := ifF hc hr
    clear hc
    refine j_iload (q := 3) (pc' := 20) C dX1_firstOf_18 rfl rfl ?_
    refine j_iconst (v := 1) (pc' := 21) C dX1_firstOf_20 kI_1 rfl ?_
    refine j_iload_n (q := 1) (pc' := 22) C dX1_firstOf_21 rfl rfl rfl ?_
    refine j_ishl (pc' := 23) C dX1_firstOf_22 rfl ?_
    refine j_ic_ge (tgt := 53) (pc' := 26) C dX1_firstOf_23 rfl rfl (fun hc => ?_) (fun hc => ?_)
    · have hr := ifT hc hr
      clear hc
      have hr := ezs1 _ (Option.some.inj hr).symm
      subst hr
      exact j_lv [] rfl (kzo2 _ rfl)
    · have hr := ifF hc hr
      clear hc
      refine j_aload_n (q := 0) (pc' := 27) C dX1_firstOf_26 rfl rfl rfl ?_
      refine j_iload (q := 3) (pc' := 29) C dX1_firstOf_27 rfl rfl ?_
      refine j_iload_n (q := 1) (pc' := 30) C dX1_firstOf_29 rfl rfl rfl ?_
      refine j_lload_n (q := 2) (pc' := 31) C dX1_firstOf_30 rfl rfl rfl ?_
      obtain ⟨zz4, hzz4, hr⟩ := ob hr
      obtain ⟨zx5, hzx5, hr⟩ := ob hr
      obtain ⟨fhzz4, hzz4⟩ := rcv_sp hzz4
      refine j_callV (ci := 1) (As := [.int zs1.1, .int p2, .long p3]) (rest := []) (st1 := [.int zx5]) (pc' := 34) C ⟨wm_1339, wm_36⟩ rfl hzz4 (c_X1_suffices (nx := nx) hzx5) yw_X1_suffices wm_1337 rfl rfl (Nat.le_of_ble_eq_true rfl) ⟨by decide, by decide⟩ dX1_firstOf_31 rfl rfl ?_
      refine j_if_eq (tgt := 40) (pc' := 37) C dX1_firstOf_34 rfl rfl (fun hc => ?_) (fun hc => ?_)
      · have hr := ifT hc hr
        clear hc
        refine j_iload (q := 3) (pc' := 42) C dX1_firstOf_40 rfl rfl ?_
        obtain ⟨zx6, hzx6, hr⟩ := ob hr
        refine j_callS (As := [.int zs1.1]) (rest := []) (st1 := [.int zx6]) (pc' := 45) C wm_1343 (c_X1_nextOfLikeMany (nx := nx) (ce := ce) hzx6) yw_X1_nextOfLikeMany wm_1342 rfl rfl (Nat.le_of_ble_eq_true rfl) ⟨by decide, by decide⟩ dX1_firstOf_42 rfl rfl ?_
        refine j_istore (lv' := [(5, .int zx6), (0, .ref this), (2, .int p2), (3, .long p3), (6, .int zs1.2)]) (pc' := 47) C dX1_firstOf_45 (by decide) rfl rfl ?_
        refine j_iinc (q := 4) (v := 1) (lv' := [(6, .int (zs1.2 + (1 : Int32))), (5, .int zx6), (0, .ref this), (2, .int p2), (3, .long p3)]) (pc' := 50) C dX1_firstOf_47 rfl kI_1 (by decide) rfl rfl ?_
        refine j_goto (tgt := 10) C dX1_firstOf_50 rfl ?_
        have hr := izs1 (zx6, (zs1.2 + (1 : Int32))) (Option.some.inj hr).symm
        exact j_lv [2, 3, 4, 1, 0] rfl hr
      · have hr := ifF hc hr
        clear hc
        refine j_iload (q := 3) (pc' := 39) C dX1_firstOf_37 rfl rfl ?_
        have hr := ezs1 _ (Option.some.inj hr).symm
        subst hr
        have hr := elL rzo2
        have hr := Option.some.inj hr
        subst hr
        exact j_iret C hq hret dX1_firstOf_39
def m_X1_choose (ce : Ce) (this : Nat) (p1 : Option Nat) (p2 : Int32) (p3 : Nat) : Option (Int32 × Ce) :=
  match p1 with
  | none =>
    some ((-1 : Int32), ce)
  | some za1 =>
    (gI ce 2 3 za1).bind fun zx2 =>
    if (zx2 - p2) ≤ (12 : Int32) then
      (gI ce 2 3 za1).bind fun zx3 =>
      (it (fun (zs4 : Int32 × Ce) =>
        if (zx3 - p2) ≤ zs4.1 then
          some (Sum.inr ((), zs4.2))
        else
          (gA zs4.2 1 0 this).bind fun zx14 =>
          (rcv zs4.2 2 za1).bind fun zz15 =>
          (m_X2_statesAt zs4.2 za1 (p2 + zs4.1)).bind fun zx16 =>
          (sL zs4.2 zx14 zs4.1 zx16).bind fun zc17 =>
          (gA zc17 1 1 this).bind fun zx18 =>
          (gA zc17 6 0 p3).bind fun zx19 =>
          (gA zc17 1 0 this).bind fun zx20 =>
          (aL zc17 zx20 zs4.1).bind fun zx21 =>
          (rcv zc17 3 zx19).bind fun zz22 =>
          (m_X5_before zc17 zx19 zx21).bind fun zx23 =>
          (sL zc17 zx18 zs4.1 zx23).bind fun zc24 =>
          some (Sum.inl ((zs4.1 + (1 : Int32)), zc24))
      ) FU ((0 : Int32), ce)).bind fun (zo5 : Unit × Ce) =>
      (it (fun (zs7 : Int32) =>
        if (zx3 - p2) < zs7 then
          some (Sum.inr (Sum.inr ()))
        else
          (rcv zo5.2 6 p3).bind fun zz10 =>
          (m_X8_aimStates zo5.2 p3).bind fun zx11 =>
          (rcv zo5.2 1 this).bind fun zz12 =>
          (m_X1_firstOf zo5.2 this zs7 (zx3 - p2) zx11).bind fun zx13 =>
          if zx13 = (-1 : Int32) then
            some (Sum.inl (zs7 + (1 : Int32)))
          else
            some (Sum.inr (Sum.inl zx13))
      ) FU (0 : Int32)).bind fun (zo8 : Int32 ⊕ Unit) =>
      Sum.elim (fun wzo8 => some (wzo8, zo5.2)) (fun vzo8 =>
        some ((-1 : Int32), zo5.2)
      ) zo8
    else
      some ((-1 : Int32), ce)
set_option maxRecDepth 100000 in
set_option maxHeartbeats 4000000 in
theorem c_X1_choose {nx : Nat} {ce : Ce} {this : Nat} {p1 : Option Nat} {p2 : Int32} {p3 : Nat} {q : Int32 × Ce} (hr : m_X1_choose ce this p1 p2 p3 = some q) : Ct yX1_choose cX1_choose 7 (some .int) 3 68 0 0 [.ref this, va_rf p1, .int p2, .ref p3] nx ce (some (.int q.1)) q.2 := by
  unfold m_X1_choose at hr
  refine ct_of (by decide) (by cases p1 <;> exact Nat.le_of_ble_eq_true rfl) ?_
  intro G C hq hret hin
  rw [show lv_args 0 [.ref this, va_rf p1, .int p2, .ref p3] = [(0, .ref this), (1, va_rf p1), (2, .int p2), (3, .ref p3)] by cases p1 <;> rfl]
  refine j_qload_n (q := 1) (pc' := 1) C dX1_choose_0 rfl rfl rfl ?_
  refine j_ifnull (tgt := 15) (pc' := 4) C dX1_choose_1 rfl rfl (fun hc => ?_) (fun za1 hc => ?_)
  · subst hc
    refine j_iconst (v := -1) (pc' := 16) C dX1_choose_15 kI_m1 rfl ?_
    have hr := Option.some.inj hr
    subst hr
    exact j_iret C hq hret dX1_choose_16
  · subst hc
    refine j_aload_n (q := 1) (pc' := 5) C dX1_choose_4 rfl rfl rfl ?_
    obtain ⟨zx2, hzx2, hr⟩ := ob hr
    refine j_getI (pc' := 8) C dX1_choose_5 fl_X1_18 hzx2 rfl ?_
    refine j_iload_n (q := 2) (pc' := 9) C dX1_choose_8 rfl rfl rfl ?_
    refine j_isub (pc' := 10) C dX1_choose_9 rfl ?_
    refine j_bipush (v := 12) (pc' := 12) C dX1_choose_10 kB_12 rfl ?_
    refine j_ic_le (tgt := 17) (pc' := 15) C dX1_choose_12 rfl rfl (fun hc => ?_) (fun hc => ?_)
    · have hr := ifT hc hr
      clear hc
      refine j_aload_n (q := 1) (pc' := 18) C dX1_choose_17 rfl rfl rfl ?_
      obtain ⟨zx3, hzx3, hr⟩ := ob hr
      refine j_getI (pc' := 21) C dX1_choose_18 fl_X1_18 hzx3 rfl ?_
      refine j_iload_n (q := 2) (pc' := 22) C dX1_choose_21 rfl rfl rfl ?_
      refine j_isub (pc' := 23) C dX1_choose_22 rfl ?_
      refine j_istore (lv' := [(4, .int (zx3 - p2)), (0, .ref this), (1, .ref za1), (2, .int p2), (3, .ref p3)]) (pc' := 25) C dX1_choose_23 (by decide) rfl rfl ?_
      refine j_iconst (v := 0) (pc' := 26) C dX1_choose_25 kI_0 rfl ?_
      refine j_istore (lv' := [(5, .int (0 : Int32)), (4, .int (zx3 - p2)), (0, .ref this), (1, .ref za1), (2, .int p2), (3, .ref p3)]) (pc' := 28) C dX1_choose_26 (by decide) rfl rfl ?_
      obtain ⟨zo5, hzo5, rzo5⟩ := ob hr
      have kzo5 : Jd G 0 0 nx zo5.2 77 [(0, .ref this), (3, .ref p3), (4, .int (zx3 - p2))] [] := by
        have hr := rzo5
        refine j_iconst (v := 0) (pc' := 78) C dX1_choose_77 kI_0 rfl ?_
        refine j_istore (lv' := [(5, .int (0 : Int32)), (0, .ref this), (3, .ref p3), (4, .int (zx3 - p2))]) (pc' := 80) C dX1_choose_78 (by decide) rfl rfl ?_
        obtain ⟨zo8, hzo8, rzo8⟩ := ob hr
        have kzo8 : ∀ vzo8, zo8 = Sum.inr vzo8 → Jd G 0 0 nx zo5.2 116 [] [] := by
          intro vzo8 ezo8
          rw [ezo8] at rzo8
          have hr := elR rzo8
          refine j_iconst (v := -1) (pc' := 117) C dX1_choose_116 kI_m1 rfl ?_
          have hr := Option.some.inj hr
          subst hr
          exact j_iret C hq hret dX1_choose_117
        refine j_lv (lv' := [(0, .ref this), (3, .ref p3), (4, .int (zx3 - p2)), (5, .int (0 : Int32))]) [1, 2, 3, 0] rfl ?_
        refine it_J (J := (fun (zs7 : Int32) => Jd G 0 0 nx zo5.2 80 [(0, .ref this), (3, .ref p3), (4, .int (zx3 - p2)), (5, .int zs7)] [])) ?_ hzo8
        clear hzo8
        intro zs7 zr9 hr izs7 ezs7
        refine j_iload (q := 3) (pc' := 82) C dX1_choose_80 rfl rfl ?_
        refine j_iload (q := 2) (pc' := 84) C dX1_choose_82 rfl rfl ?_
        refine j_ic_gt (tgt := 116) (pc' := 87) C dX1_choose_84 rfl rfl (fun hc => ?_) (fun hc => ?_)
        · have hr := ifT hc hr
          clear hc
          have hr := ezs7 _ (Option.some.inj hr).symm
          subst hr
          exact j_lv [] rfl (kzo8 _ rfl)
        · have hr := ifF hc hr
          clear hc
          refine j_aload_n (q := 0) (pc' := 88) C dX1_choose_87 rfl rfl rfl ?_
          refine j_iload (q := 3) (pc' := 90) C dX1_choose_88 rfl rfl ?_
          refine j_iload (q := 2) (pc' := 92) C dX1_choose_90 rfl rfl ?_
          refine j_aload_n (q := 1) (pc' := 93) C dX1_choose_92 rfl rfl rfl ?_
          obtain ⟨zz10, hzz10, hr⟩ := ob hr
          obtain ⟨zx11, hzx11, hr⟩ := ob hr
          obtain ⟨fhzz10, hzz10⟩ := rcv_sp hzz10
          refine j_callV (ci := 6) (As := []) (rest := [.int (zx3 - p2), .int zs7, .ref this]) (st1 := [.long zx11, .int (zx3 - p2), .int zs7, .ref this]) (pc' := 96) C ⟨wm_904, wm_905⟩ rfl hzz10 (c_X8_aimStates (nx := nx) hzx11) yw_X8_aimStates wm_1332 rfl rfl (Nat.le_of_ble_eq_true rfl) ⟨by decide, by decide⟩ dX1_choose_93 rfl rfl ?_
          obtain ⟨zz12, hzz12, hr⟩ := ob hr
          obtain ⟨zx13, hzx13, hr⟩ := ob hr
          obtain ⟨fhzz12, hzz12⟩ := rcv_sp hzz12
          refine j_callV (ci := 1) (As := [.int zs7, .int (zx3 - p2), .long zx11]) (rest := []) (st1 := [.int zx13]) (pc' := 99) C ⟨wm_1335, wm_35⟩ rfl hzz12 (c_X1_firstOf (nx := nx) hzx13) yw_X1_firstOf wm_1333 rfl rfl (Nat.le_of_ble_eq_true rfl) ⟨by decide, by decide⟩ dX1_choose_96 rfl rfl ?_
          refine j_istore (lv' := [(6, .int zx13), (0, .ref this), (3, .ref p3), (4, .int (zx3 - p2)), (5, .int zs7)]) (pc' := 101) C dX1_choose_99 (by decide) rfl rfl ?_
          refine j_iload (q := 0) (pc' := 103) C dX1_choose_101 rfl rfl ?_
          refine j_iconst (v := -1) (pc' := 104) C dX1_choose_103 kI_m1 rfl ?_
          refine j_ic_eq (tgt := 110) (pc' := 107) C dX1_choose_104 rfl rfl (fun hc => ?_) (fun hc => ?_)
          · have hr := ifT hc hr
            clear hc
            refine j_iinc (q := 4) (v := 1) (lv' := [(5, .int (zs7 + (1 : Int32))), (6, .int zx13), (0, .ref this), (3, .ref p3), (4, .int (zx3 - p2))]) (pc' := 113) C dX1_choose_110 rfl kI_1 (by decide) rfl rfl ?_
            refine j_goto (tgt := 80) C dX1_choose_113 rfl ?_
            have hr := izs7 (zs7 + (1 : Int32)) (Option.some.inj hr).symm
            exact j_lv [2, 3, 4, 0] rfl hr
          · have hr := ifF hc hr
            clear hc
            refine j_iload (q := 0) (pc' := 109) C dX1_choose_107 rfl rfl ?_
            have hr := ezs7 _ (Option.some.inj hr).symm
            subst hr
            have hr := elL rzo8
            have hr := Option.some.inj hr
            subst hr
            exact j_iret C hq hret dX1_choose_109
      refine j_lv (lv' := [(0, .ref this), (1, va_rf (some za1)), (2, .int p2), (3, .ref p3), (4, .int (zx3 - p2)), (5, .int (0 : Int32))]) [2, 3, 4, 5, 1, 0] rfl ?_
      refine it_J (J := (fun (zs4 : Int32 × Ce) => Jd G 0 0 nx zs4.2 28 [(0, .ref this), (1, .ref za1), (2, .int p2), (3, .ref p3), (4, .int (zx3 - p2)), (5, .int zs4.1)] [])) ?_ hzo5
      clear hzo5
      intro zs4 zr6 hr izs4 ezs4
      refine j_iload (q := 5) (pc' := 30) C dX1_choose_28 rfl rfl ?_
      refine j_iload (q := 4) (pc' := 32) C dX1_choose_30 rfl rfl ?_
      refine j_ic_ge (tgt := 77) (pc' := 35) C dX1_choose_32 rfl rfl (fun hc => ?_) (fun hc => ?_)
      · have hr := ifT hc hr
        clear hc
        have hr := ezs4 _ (Option.some.inj hr).symm
        subst hr
        exact j_lv [0, 3, 4] rfl kzo5
      · have hr := ifF hc hr
        clear hc
        refine j_aload_n (q := 0) (pc' := 36) C dX1_choose_35 rfl rfl rfl ?_
        obtain ⟨zx14, hzx14, hr⟩ := ob hr
        refine j_getA (pc' := 39) C dX1_choose_36 fl_X1_9 hzx14 rfl ?_
        refine j_iload (q := 5) (pc' := 41) C dX1_choose_39 rfl rfl ?_
        refine j_aload_n (q := 1) (pc' := 42) C dX1_choose_41 rfl rfl rfl ?_
        refine j_iload_n (q := 2) (pc' := 43) C dX1_choose_42 rfl rfl rfl ?_
        refine j_iload (q := 5) (pc' := 45) C dX1_choose_43 rfl rfl ?_
        refine j_iadd (pc' := 46) C dX1_choose_45 rfl ?_
        obtain ⟨zz15, hzz15, hr⟩ := ob hr
        obtain ⟨zx16, hzx16, hr⟩ := ob hr
        obtain ⟨fhzz15, hzz15⟩ := rcv_sp hzz15
        refine j_callV (ci := 2) (As := [.int (p2 + zs4.1)]) (rest := [.int zs4.1, .ref zx14]) (st1 := [.long zx16, .int zs4.1, .ref zx14]) (pc' := 49) C ⟨wm_1328, wm_1329⟩ rfl hzz15 (c_X2_statesAt (nx := nx) hzx16) yw_X2_statesAt wm_1327 rfl rfl (Nat.le_of_ble_eq_true rfl) ⟨by decide, by decide⟩ dX1_choose_46 rfl rfl ?_
        obtain ⟨zc17, hzc17, hr⟩ := ob hr
        refine j_last (pc' := 50) C dX1_choose_49 hzc17 rfl ?_
        refine j_aload_n (q := 0) (pc' := 51) C dX1_choose_50 rfl rfl rfl ?_
        obtain ⟨zx18, hzx18, hr⟩ := ob hr
        refine j_getA (pc' := 54) C dX1_choose_51 fl_X1_15 hzx18 rfl ?_
        refine j_iload (q := 5) (pc' := 56) C dX1_choose_54 rfl rfl ?_
        refine j_aload_n (q := 3) (pc' := 57) C dX1_choose_56 rfl rfl rfl ?_
        obtain ⟨zx19, hzx19, hr⟩ := ob hr
        refine j_getA (pc' := 60) C dX1_choose_57 fl_X1_28 hzx19 rfl ?_
        refine j_aload_n (q := 0) (pc' := 61) C dX1_choose_60 rfl rfl rfl ?_
        obtain ⟨zx20, hzx20, hr⟩ := ob hr
        refine j_getA (pc' := 64) C dX1_choose_61 fl_X1_9 hzx20 rfl ?_
        refine j_iload (q := 5) (pc' := 66) C dX1_choose_64 rfl rfl ?_
        obtain ⟨zx21, hzx21, hr⟩ := ob hr
        refine j_lald (pc' := 67) C dX1_choose_66 hzx21 rfl ?_
        obtain ⟨zz22, hzz22, hr⟩ := ob hr
        obtain ⟨zx23, hzx23, hr⟩ := ob hr
        obtain ⟨fhzz22, hzz22⟩ := rcv_sp hzz22
        refine j_callV (ci := 3) (As := [.long zx21]) (rest := [.int zs4.1, .ref zx18]) (st1 := [.long zx23, .int zs4.1, .ref zx18]) (pc' := 70) C ⟨wm_858, wm_859⟩ rfl hzz22 (c_X5_before (nx := nx) hzx23) yw_X5_before wm_1331 rfl rfl (Nat.le_of_ble_eq_true rfl) ⟨by decide, by decide⟩ dX1_choose_67 rfl rfl ?_
        obtain ⟨zc24, hzc24, hr⟩ := ob hr
        refine j_last (pc' := 71) C dX1_choose_70 hzc24 rfl ?_
        refine j_iinc (q := 5) (v := 1) (lv' := [(5, .int (zs4.1 + (1 : Int32))), (0, .ref this), (1, .ref za1), (2, .int p2), (3, .ref p3), (4, .int (zx3 - p2))]) (pc' := 74) C dX1_choose_71 rfl kI_1 (by decide) rfl rfl ?_
        refine j_goto (tgt := 28) C dX1_choose_74 rfl ?_
        have hr := izs4 ((zs4.1 + (1 : Int32)), zc24) (Option.some.inj hr).symm
        exact j_lv [1, 2, 3, 4, 5, 0] rfl hr
    · have hr := ifF hc hr
      clear hc
      refine j_iconst (v := -1) (pc' := 16) C dX1_choose_15 kI_m1 rfl ?_
      have hr := Option.some.inj hr
      subst hr
      exact j_iret C hq hret dX1_choose_16
def m_X2_init (nx : Nat) (ce : Ce) (this : Nat) : Option (Unit × Ce × Nat × Nat) :=
  (nwa (0 : Int32)).bind fun zk3 =>
  adcK 1 zk3 fun _ =>
  (some (gx_up ce nx (.inl (.int, zk3, .inl (fun _ => 0))))).bind fun zc2 =>
  (pV zc2 2 0 this (.ref nx)).bind fun zc4 =>
  (nwa (0 : Int32)).bind fun zk7 =>
  adcK 1 zk7 fun _ =>
  (some (gx_up zc4 (nx + 1) (.inl (.int, zk7, .inl (fun _ => 0))))).bind fun zc6 =>
  (pV zc6 2 1 this (.ref (nx + 1))).bind fun zc8 =>
  (nwa (0 : Int32)).bind fun zk11 =>
  adcK 1 zk11 fun _ =>
  (some (gx_up zc8 ((nx + 1) + 1) (.inl (.long, zk11, .inr (.inl (fun _ => 0)))))).bind fun zc10 =>
  (pV zc10 2 2 this (.ref ((nx + 1) + 1))).bind fun zc12 =>
  some ((), zc12, 0, 0)
set_option maxRecDepth 100000 in
set_option maxHeartbeats 4000000 in
theorem c_X2_init {nx : Nat} {ce : Ce} {this : Nat} {q : Unit × Ce × Nat × Nat} (hr : m_X2_init nx ce this = some q) : Ct yX2_init cX2_init 1 none 1 20 q.2.2.1 q.2.2.2 [.ref this] nx ce none q.2.1 := by
  unfold m_X2_init at hr
  refine ct_of (by decide) (Nat.le_of_ble_eq_true rfl) ?_
  intro G C hq hret hin
  show Jd G q.2.2.1 q.2.2.2 nx ce 0 [(0, .ref this)] []
  refine j_aload_n (q := 0) (pc' := 1) C dX2_init_0 rfl rfl rfl ?_
  refine j_objInit (pc' := 4) C dX2_init_1 wm_277 wm_157 wm_oi ⟨by decide, by decide⟩ (Nat.le_of_ble_eq_true rfl) rfl ?_
  refine j_aload_n (q := 0) (pc' := 5) C dX2_init_4 rfl rfl rfl ?_
  refine j_iconst (v := 0) (pc' := 6) C dX2_init_5 kI_0 rfl ?_
  obtain ⟨zk3, hzk3, hr⟩ := ob hr
  obtain ⟨nzk3, ezk3, bzk3⟩ := nwa_sp hzk3
  obtain ⟨zt1, hr, azt1, bzt1, czt1, dzt1⟩ := adcK_s hr
  obtain ⟨zc2, hzc2, hr⟩ := ob hr
  have hzc2 := Option.some.inj hzc2
  refine j_k (kc' := zt1.2.2.1 + 1) (ks' := zt1.2.2.2 + zk3) (by omega) (by omega) ?_
  refine j_newa (ty := .int) (t0 := 0) (a0 := (zk3, .inl (fun _ => 0))) (N := zk3) (pc' := 8) C dX2_init_6 rfl (fun _ => rfl) (fun _ _ => rfl) wm_214 (fun _ => rfl) nzk3 ezk3 (Nat.le_trans (Nat.mul_le_mul_left _ (by decide)) bzk3) rfl ?_
  rw [hzc2]
  obtain ⟨zc4, hzc4, hr⟩ := ob hr
  refine j_put (pc' := 11) C dX2_init_8 fw_X2_7 rfl rfl hzc4 rfl ?_
  refine j_aload_n (q := 0) (pc' := 12) C dX2_init_11 rfl rfl rfl ?_
  refine j_iconst (v := 0) (pc' := 13) C dX2_init_12 kI_0 rfl ?_
  obtain ⟨zk7, hzk7, hr⟩ := ob hr
  obtain ⟨nzk7, ezk7, bzk7⟩ := nwa_sp hzk7
  obtain ⟨zt5, hr, azt5, bzt5, czt5, dzt5⟩ := adcK_s hr
  obtain ⟨zc6, hzc6, hr⟩ := ob hr
  have hzc6 := Option.some.inj hzc6
  refine j_k (kc' := zt5.2.2.1 + 1) (ks' := zt5.2.2.2 + zk7) (by omega) (by omega) ?_
  refine j_newa (ty := .int) (t0 := 0) (a0 := (zk7, .inl (fun _ => 0))) (N := zk7) (pc' := 15) C dX2_init_13 rfl (fun _ => rfl) (fun _ _ => rfl) wm_214 (fun _ => rfl) nzk7 ezk7 (Nat.le_trans (Nat.mul_le_mul_left _ (by decide)) bzk7) rfl ?_
  rw [hzc6]
  obtain ⟨zc8, hzc8, hr⟩ := ob hr
  refine j_put (pc' := 18) C dX2_init_15 fw_X2_13 rfl rfl hzc8 rfl ?_
  refine j_aload_n (q := 0) (pc' := 19) C dX2_init_18 rfl rfl rfl ?_
  refine j_iconst (v := 0) (pc' := 20) C dX2_init_19 kI_0 rfl ?_
  obtain ⟨zk11, hzk11, hr⟩ := ob hr
  obtain ⟨nzk11, ezk11, bzk11⟩ := nwa_sp hzk11
  obtain ⟨zt9, hr, azt9, bzt9, czt9, dzt9⟩ := adcK_s hr
  obtain ⟨zc10, hzc10, hr⟩ := ob hr
  have hzc10 := Option.some.inj hzc10
  refine j_k (kc' := zt9.2.2.1 + 1) (ks' := zt9.2.2.2 + zk11) (by omega) (by omega) ?_
  refine j_newa (ty := .long) (t0 := 1) (a0 := (zk11, .inr (.inl (fun _ => 0)))) (N := zk11) (pc' := 22) C dX2_init_20 rfl (fun _ => rfl) (fun _ _ => rfl) wm_215 (fun _ => rfl) nzk11 ezk11 (Nat.le_trans (Nat.mul_le_mul_left _ (by decide)) bzk11) rfl ?_
  rw [hzc10]
  obtain ⟨zc12, hzc12, hr⟩ := ob hr
  refine j_put (pc' := 25) C dX2_init_22 fw_X2_16 rfl rfl hzc12 rfl ?_
  obtain ⟨azf13, bzf14, czf15, dzf16⟩ := some4 hr
  refine j_k (kc' := 0) (ks' := 0) (by omega) (by omega) ?_
  rw [show nx + q.2.2.1 = (((nx + 1) + 1) + 1) by omega, (bzt1.trans (bzt5.trans (bzt9.trans bzf14)))] at hq
  exact j_vret C hq hret dX2_init_25
def m_J9_min_7cf53 (p0 : Int32) (p1 : Int32) : Option (Int32) :=
  if p1 < p0 then
    some p1
  else
    some p0
set_option maxRecDepth 100000 in
set_option maxHeartbeats 4000000 in
theorem c_J9_min_7cf53 {nx : Nat} {ce : Ce} {p0 : Int32} {p1 : Int32} {q : Int32} (hr : m_J9_min_7cf53 p0 p1 = some q) : Ct yJ9_min_7cf53 cJ9_min_7cf53 2 (some .int) 0 0 0 0 [.int p0, .int p1] nx ce (some (.int q)) ce := by
  unfold m_J9_min_7cf53 at hr
  refine ct_ofF (by decide +kernel) (Nat.le_of_ble_eq_true rfl) ?_
  intro G C hq hret hin
  show Jd G 0 0 nx ce 0 [(0, .int p0), (1, .int p1)] []
  refine j_iload_n (q := 0) (pc' := 1) C dJ9_min_7cf53_0 rfl rfl rfl ?_
  refine j_iload_n (q := 1) (pc' := 2) C dJ9_min_7cf53_1 rfl rfl rfl ?_
  refine j_ic_gt (tgt := 9) (pc' := 5) C dJ9_min_7cf53_2 rfl rfl (fun hc => ?_) (fun hc => ?_)
  · have hr := ifT hc hr
    clear hc
    refine j_iload_n (q := 1) (pc' := 10) C dJ9_min_7cf53_9 rfl rfl rfl ?_
    have hr := Option.some.inj hr
    subst hr
    exact j_iret C hq hret dJ9_min_7cf53_10
  · have hr := ifF hc hr
    clear hc
    refine j_iload_n (q := 0) (pc' := 6) C dJ9_min_7cf53_5 rfl rfl rfl ?_
    refine j_goto (tgt := 10) C dJ9_min_7cf53_6 rfl ?_
    have hr := Option.some.inj hr
    subst hr
    exact j_iret C hq hret dJ9_min_7cf53_10
def m_J7_copyOf_59c91 (nx : Nat) (ce : Ce) (p0 : Nat) (p1 : Int32) : Option (Nat × Ce × Nat × Nat) :=
  (alen ce p0).bind fun zx1 =>
  if p1 = zx1 then
    (clnI ce p0).bind fun zx12 =>
    adcK 1 zx12.1 fun _ =>
    (some (gx_up ce nx (.inl (.int, zx12.1, .inl zx12.2)))).bind fun zc14 =>
    some (nx, zc14, 0, 0)
  else
    (nwa p1).bind fun zk4 =>
    adcK 1 zk4 fun _ =>
    (some (gx_up ce nx (.inl (.int, zk4, .inl (fun _ => 0))))).bind fun zc3 =>
    (alen zc3 p0).bind fun zx5 =>
    (m_J9_min_7cf53 zx5 p1).bind fun zx6 =>
    (cpI zc3 p0 (0 : Int32) nx (0 : Int32) zx6).bind fun zc7 =>
    some (nx, zc7, 0, 0)
set_option maxRecDepth 100000 in
set_option maxHeartbeats 4000000 in
theorem c_J7_copyOf_59c91 {nx : Nat} {ce : Ce} {p0 : Nat} {p1 : Int32} {q : Nat × Ce × Nat × Nat} (hr : m_J7_copyOf_59c91 nx ce p0 p1 = some q) : Ct yJ7_copyOf_59c91 cJ7_copyOf_59c91 3 (some (.array .int)) 1 60 q.2.2.1 q.2.2.2 [.ref p0, .int p1] nx ce (some (.ref q.1)) q.2.1 := by
  unfold m_J7_copyOf_59c91 at hr
  refine ct_of (by decide) (Nat.le_of_ble_eq_true rfl) ?_
  intro G C hq hret hin
  show Jd G q.2.2.1 q.2.2.2 nx ce 0 [(0, .ref p0), (1, .int p1)] []
  refine j_iload_n (q := 1) (pc' := 1) C dJ7_copyOf_59c91_0 rfl rfl rfl ?_
  refine j_aload_n (q := 0) (pc' := 2) C dJ7_copyOf_59c91_1 rfl rfl rfl ?_
  obtain ⟨zx1, hzx1, hr⟩ := ob hr
  refine j_alen (pc' := 3) C dJ7_copyOf_59c91_2 hzx1 rfl ?_
  refine j_ic_ne (tgt := 14) (pc' := 6) C dJ7_copyOf_59c91_3 rfl rfl (fun hc => ?_) (fun hc => ?_)
  · have hr := ifF hc hr
    clear hc
    refine j_iload_n (q := 1) (pc' := 15) C dJ7_copyOf_59c91_14 rfl rfl rfl ?_
    obtain ⟨zk4, hzk4, hr⟩ := ob hr
    obtain ⟨nzk4, ezk4, bzk4⟩ := nwa_sp hzk4
    obtain ⟨zt2, hr, azt2, bzt2, czt2, dzt2⟩ := adcK_s hr
    obtain ⟨zc3, hzc3, hr⟩ := ob hr
    have hzc3 := Option.some.inj hzc3
    refine j_k (kc' := zt2.2.2.1 + 1) (ks' := zt2.2.2.2 + zk4) (by omega) (by omega) ?_
    refine j_newa (ty := .int) (t0 := 0) (a0 := (zk4, .inl (fun _ => 0))) (N := zk4) (pc' := 17) C dJ7_copyOf_59c91_15 rfl (fun _ => rfl) (fun _ _ => rfl) wm_214 (fun _ => rfl) nzk4 ezk4 (Nat.le_trans (Nat.mul_le_mul_left _ (by decide)) bzk4) rfl ?_
    rw [hzc3]
    refine j_astore_n (lv' := [(2, .ref nx), (0, .ref p0), (1, .int p1)]) (pc' := 18) C dJ7_copyOf_59c91_17 rfl (by decide) rfl rfl ?_
    refine j_aload_n (q := 1) (pc' := 19) C dJ7_copyOf_59c91_18 rfl rfl rfl ?_
    refine j_iconst (v := 0) (pc' := 20) C dJ7_copyOf_59c91_19 kI_0 rfl ?_
    refine j_aload_n (q := 0) (pc' := 21) C dJ7_copyOf_59c91_20 rfl rfl rfl ?_
    refine j_iconst (v := 0) (pc' := 22) C dJ7_copyOf_59c91_21 kI_0 rfl ?_
    refine j_aload_n (q := 1) (pc' := 23) C dJ7_copyOf_59c91_22 rfl rfl rfl ?_
    obtain ⟨zx5, hzx5, hr⟩ := ob hr
    refine j_alen (pc' := 24) C dJ7_copyOf_59c91_23 hzx5 rfl ?_
    refine j_iload_n (q := 2) (pc' := 25) C dJ7_copyOf_59c91_24 rfl rfl rfl ?_
    obtain ⟨zx6, hzx6, hr⟩ := ob hr
    refine j_callS (As := [.int zx5, .int p1]) (rest := [.int (0 : Int32), .ref nx, .int (0 : Int32), .ref p0]) (st1 := [.int zx6, .int (0 : Int32), .ref nx, .int (0 : Int32), .ref p0]) (pc' := 28) C wm_493 (c_J9_min_7cf53 (nx := (nx + 1)) (ce := zc3) hzx6) yw_J9_min_7cf53 wm_705 rfl rfl (Nat.le_of_ble_eq_true rfl) ⟨by decide, by decide⟩ dJ7_copyOf_59c91_25 rfl rfl ?_
    obtain ⟨zc7, hzc7, hr⟩ := ob hr
    refine j_cpI (pc' := 31) C dJ7_copyOf_59c91_28 wm_706 wm_708 wm_707 wm_143 ⟨by decide, by decide⟩ (Nat.le_of_ble_eq_true rfl) hzc7 rfl ?_
    refine j_aload_n (q := 0) (pc' := 32) C dJ7_copyOf_59c91_31 rfl rfl rfl ?_
    obtain ⟨azf8, bzf9, czf10, dzf11⟩ := some4 hr
    refine j_k (kc' := 0) (ks' := 0) (by omega) (by omega) ?_
    rw [show nx + q.2.2.1 = (nx + 1) by omega, (bzt2.trans bzf9), (azt2.trans azf8)] at hq
    exact j_aret (x := some _) C hq hret (by first | exact Or.inl ⟨_, rfl⟩ | exact Or.inr ⟨_, rfl⟩) dJ7_copyOf_59c91_32
  · have hr := ifT hc hr
    clear hc
    refine j_aload_n (q := 0) (pc' := 7) C dJ7_copyOf_59c91_6 rfl rfl rfl ?_
    obtain ⟨zx12, hzx12, hr⟩ := ob hr
    obtain ⟨zt13, hr, azt13, bzt13, czt13, dzt13⟩ := adcK_s hr
    obtain ⟨zc14, hzc14, hr⟩ := ob hr
    have hzc14 := Option.some.inj hzc14
    refine j_k (kc' := zt13.2.2.1 + 1) (ks' := zt13.2.2.2 + zx12.1) (by omega) (by omega) ?_
    refine j_cloneI (pc' := 10) C dJ7_copyOf_59c91_7 wm_745 wm_746 wm_700 wm_701 wm_747 ⟨by decide, by decide⟩ (Nat.le_of_ble_eq_true rfl) (clnI_sp hzx12) rfl ?_
    refine j_castI (pc' := 13) C dJ7_copyOf_59c91_10 wm_749 (gx_up_at _ _ _) rfl ?_
    rw [hzc14]
    obtain ⟨azf15, bzf16, czf17, dzf18⟩ := some4 hr
    refine j_k (kc' := 0) (ks' := 0) (by omega) (by omega) ?_
    rw [show nx + q.2.2.1 = (nx + 1) by omega, (bzt13.trans bzf16), (azt13.trans azf15)] at hq
    exact j_aret (x := some _) C hq hret (by first | exact Or.inl ⟨_, rfl⟩ | exact Or.inr ⟨_, rfl⟩) dJ7_copyOf_59c91_13
def m_J7_copyOf_c38d5 (nx : Nat) (ce : Ce) (p0 : Nat) (p1 : Int32) : Option (Nat × Ce × Nat × Nat) :=
  (alen ce p0).bind fun zx1 =>
  if p1 = zx1 then
    (clnL ce p0).bind fun zx12 =>
    adcK 1 zx12.1 fun _ =>
    (some (gx_up ce nx (.inl (.long, zx12.1, .inr (.inl zx12.2))))).bind fun zc14 =>
    some (nx, zc14, 0, 0)
  else
    (nwa p1).bind fun zk4 =>
    adcK 1 zk4 fun _ =>
    (some (gx_up ce nx (.inl (.long, zk4, .inr (.inl (fun _ => 0)))))).bind fun zc3 =>
    (alen zc3 p0).bind fun zx5 =>
    (m_J9_min_7cf53 zx5 p1).bind fun zx6 =>
    (cpL zc3 p0 (0 : Int32) nx (0 : Int32) zx6).bind fun zc7 =>
    some (nx, zc7, 0, 0)
set_option maxRecDepth 100000 in
set_option maxHeartbeats 4000000 in
theorem c_J7_copyOf_c38d5 {nx : Nat} {ce : Ce} {p0 : Nat} {p1 : Int32} {q : Nat × Ce × Nat × Nat} (hr : m_J7_copyOf_c38d5 nx ce p0 p1 = some q) : Ct yJ7_copyOf_c38d5 cJ7_copyOf_c38d5 3 (some (.array .long)) 1 60 q.2.2.1 q.2.2.2 [.ref p0, .int p1] nx ce (some (.ref q.1)) q.2.1 := by
  unfold m_J7_copyOf_c38d5 at hr
  refine ct_of (by decide) (Nat.le_of_ble_eq_true rfl) ?_
  intro G C hq hret hin
  show Jd G q.2.2.1 q.2.2.2 nx ce 0 [(0, .ref p0), (1, .int p1)] []
  refine j_iload_n (q := 1) (pc' := 1) C dJ7_copyOf_c38d5_0 rfl rfl rfl ?_
  refine j_aload_n (q := 0) (pc' := 2) C dJ7_copyOf_c38d5_1 rfl rfl rfl ?_
  obtain ⟨zx1, hzx1, hr⟩ := ob hr
  refine j_alen (pc' := 3) C dJ7_copyOf_c38d5_2 hzx1 rfl ?_
  refine j_ic_ne (tgt := 14) (pc' := 6) C dJ7_copyOf_c38d5_3 rfl rfl (fun hc => ?_) (fun hc => ?_)
  · have hr := ifF hc hr
    clear hc
    refine j_iload_n (q := 1) (pc' := 15) C dJ7_copyOf_c38d5_14 rfl rfl rfl ?_
    obtain ⟨zk4, hzk4, hr⟩ := ob hr
    obtain ⟨nzk4, ezk4, bzk4⟩ := nwa_sp hzk4
    obtain ⟨zt2, hr, azt2, bzt2, czt2, dzt2⟩ := adcK_s hr
    obtain ⟨zc3, hzc3, hr⟩ := ob hr
    have hzc3 := Option.some.inj hzc3
    refine j_k (kc' := zt2.2.2.1 + 1) (ks' := zt2.2.2.2 + zk4) (by omega) (by omega) ?_
    refine j_newa (ty := .long) (t0 := 1) (a0 := (zk4, .inr (.inl (fun _ => 0)))) (N := zk4) (pc' := 17) C dJ7_copyOf_c38d5_15 rfl (fun _ => rfl) (fun _ _ => rfl) wm_215 (fun _ => rfl) nzk4 ezk4 (Nat.le_trans (Nat.mul_le_mul_left _ (by decide)) bzk4) rfl ?_
    rw [hzc3]
    refine j_astore_n (lv' := [(2, .ref nx), (0, .ref p0), (1, .int p1)]) (pc' := 18) C dJ7_copyOf_c38d5_17 rfl (by decide) rfl rfl ?_
    refine j_aload_n (q := 1) (pc' := 19) C dJ7_copyOf_c38d5_18 rfl rfl rfl ?_
    refine j_iconst (v := 0) (pc' := 20) C dJ7_copyOf_c38d5_19 kI_0 rfl ?_
    refine j_aload_n (q := 0) (pc' := 21) C dJ7_copyOf_c38d5_20 rfl rfl rfl ?_
    refine j_iconst (v := 0) (pc' := 22) C dJ7_copyOf_c38d5_21 kI_0 rfl ?_
    refine j_aload_n (q := 1) (pc' := 23) C dJ7_copyOf_c38d5_22 rfl rfl rfl ?_
    obtain ⟨zx5, hzx5, hr⟩ := ob hr
    refine j_alen (pc' := 24) C dJ7_copyOf_c38d5_23 hzx5 rfl ?_
    refine j_iload_n (q := 2) (pc' := 25) C dJ7_copyOf_c38d5_24 rfl rfl rfl ?_
    obtain ⟨zx6, hzx6, hr⟩ := ob hr
    refine j_callS (As := [.int zx5, .int p1]) (rest := [.int (0 : Int32), .ref nx, .int (0 : Int32), .ref p0]) (st1 := [.int zx6, .int (0 : Int32), .ref nx, .int (0 : Int32), .ref p0]) (pc' := 28) C wm_493 (c_J9_min_7cf53 (nx := (nx + 1)) (ce := zc3) hzx6) yw_J9_min_7cf53 wm_705 rfl rfl (Nat.le_of_ble_eq_true rfl) ⟨by decide, by decide⟩ dJ7_copyOf_c38d5_25 rfl rfl ?_
    obtain ⟨zc7, hzc7, hr⟩ := ob hr
    refine j_cpL (pc' := 31) C dJ7_copyOf_c38d5_28 wm_706 wm_708 wm_707 wm_143 ⟨by decide, by decide⟩ (Nat.le_of_ble_eq_true rfl) hzc7 rfl ?_
    refine j_aload_n (q := 0) (pc' := 32) C dJ7_copyOf_c38d5_31 rfl rfl rfl ?_
    obtain ⟨azf8, bzf9, czf10, dzf11⟩ := some4 hr
    refine j_k (kc' := 0) (ks' := 0) (by omega) (by omega) ?_
    rw [show nx + q.2.2.1 = (nx + 1) by omega, (bzt2.trans bzf9), (azt2.trans azf8)] at hq
    exact j_aret (x := some _) C hq hret (by first | exact Or.inl ⟨_, rfl⟩ | exact Or.inr ⟨_, rfl⟩) dJ7_copyOf_c38d5_32
  · have hr := ifT hc hr
    clear hc
    refine j_aload_n (q := 0) (pc' := 7) C dJ7_copyOf_c38d5_6 rfl rfl rfl ?_
    obtain ⟨zx12, hzx12, hr⟩ := ob hr
    obtain ⟨zt13, hr, azt13, bzt13, czt13, dzt13⟩ := adcK_s hr
    obtain ⟨zc14, hzc14, hr⟩ := ob hr
    have hzc14 := Option.some.inj hzc14
    refine j_k (kc' := zt13.2.2.1 + 1) (ks' := zt13.2.2.2 + zx12.1) (by omega) (by omega) ?_
    refine j_cloneL (pc' := 10) C dJ7_copyOf_c38d5_7 wm_698 wm_699 wm_700 wm_701 wm_702 ⟨by decide, by decide⟩ (Nat.le_of_ble_eq_true rfl) (clnL_sp hzx12) rfl ?_
    refine j_castL (pc' := 13) C dJ7_copyOf_c38d5_10 wm_704 (gx_up_at _ _ _) rfl ?_
    rw [hzc14]
    obtain ⟨azf15, bzf16, czf17, dzf18⟩ := some4 hr
    refine j_k (kc' := 0) (ks' := 0) (by omega) (by omega) ?_
    rw [show nx + q.2.2.1 = (nx + 1) by omega, (bzt13.trans bzf16), (azt13.trans azf15)] at hq
    exact j_aret (x := some _) C hq hret (by first | exact Or.inl ⟨_, rfl⟩ | exact Or.inr ⟨_, rfl⟩) dJ7_copyOf_c38d5_13
def m_X2_makeRoom (nx : Nat) (ce : Ce) (this : Nat) (p1 : Int32) : Option (Unit × Ce × Nat × Nat) :=
  (gA ce 2 0 this).bind fun zx1 =>
  (alen ce zx1).bind fun zx2 =>
  if p1 ≤ zx2 then
    some ((), ce, 0, 0)
  else
    (gA ce 2 0 this).bind fun zx7 =>
    adcB (m_J7_copyOf_59c91 nx ce zx7 p1) fun zq8 =>
    (pV zq8.2.1 2 0 this (.ref zq8.1)).bind fun zc10 =>
    (gA zc10 2 1 this).bind fun zx11 =>
    adcB (m_J7_copyOf_59c91 (nx + zq8.2.2.1) zc10 zx11 p1) fun zq12 =>
    (pV zq12.2.1 2 1 this (.ref zq12.1)).bind fun zc14 =>
    (gA zc14 2 2 this).bind fun zx15 =>
    adcB (m_J7_copyOf_c38d5 ((nx + zq8.2.2.1) + zq12.2.2.1) zc14 zx15 p1) fun zq16 =>
    (pV zq16.2.1 2 2 this (.ref zq16.1)).bind fun zc18 =>
    some ((), zc18, 0, 0)
set_option maxRecDepth 100000 in
set_option maxHeartbeats 4000000 in
theorem c_X2_makeRoom {nx : Nat} {ce : Ce} {this : Nat} {p1 : Int32} {q : Unit × Ce × Nat × Nat} (hr : m_X2_makeRoom nx ce this p1 = some q) : Ct yX2_makeRoom cX2_makeRoom 2 none 2 82 q.2.2.1 q.2.2.2 [.ref this, .int p1] nx ce none q.2.1 := by
  unfold m_X2_makeRoom at hr
  refine ct_of (by decide) (Nat.le_of_ble_eq_true rfl) ?_
  intro G C hq hret hin
  show Jd G q.2.2.1 q.2.2.2 nx ce 0 [(0, .ref this), (1, .int p1)] []
  refine j_iload_n (q := 1) (pc' := 1) C dX2_makeRoom_0 rfl rfl rfl ?_
  refine j_aload_n (q := 0) (pc' := 2) C dX2_makeRoom_1 rfl rfl rfl ?_
  obtain ⟨zx1, hzx1, hr⟩ := ob hr
  refine j_getA (pc' := 5) C dX2_makeRoom_2 fl_X2_7 hzx1 rfl ?_
  obtain ⟨zx2, hzx2, hr⟩ := ob hr
  refine j_alen (pc' := 6) C dX2_makeRoom_5 hzx2 rfl ?_
  refine j_ic_le (tgt := 45) (pc' := 9) C dX2_makeRoom_6 rfl rfl (fun hc => ?_) (fun hc => ?_)
  · have hr := ifT hc hr
    clear hc
    obtain ⟨azf3, bzf4, czf5, dzf6⟩ := some4 hr
    refine j_k (kc' := 0) (ks' := 0) (by omega) (by omega) ?_
    rw [show nx + q.2.2.1 = nx by omega, bzf4] at hq
    exact j_vret C hq hret dX2_makeRoom_45
  · have hr := ifF hc hr
    clear hc
    refine j_aload_n (q := 0) (pc' := 10) C dX2_makeRoom_9 rfl rfl rfl ?_
    refine j_aload_n (q := 0) (pc' := 11) C dX2_makeRoom_10 rfl rfl rfl ?_
    obtain ⟨zx7, hzx7, hr⟩ := ob hr
    refine j_getA (pc' := 14) C dX2_makeRoom_11 fl_X2_7 hzx7 rfl ?_
    refine j_iload_n (q := 1) (pc' := 15) C dX2_makeRoom_14 rfl rfl rfl ?_
    obtain ⟨zq8, zt9, hzq8, hr, azt9, bzt9, czt9, dzt9⟩ := adcB_s hr
    refine j_k (kc' := zt9.2.2.1 + zq8.2.2.1) (ks' := zt9.2.2.2 + zq8.2.2.2) (by omega) (by omega) ?_
    refine j_callSA (As := [.ref zx7, .int p1]) (rest := [.ref this]) (st1 := [.ref zq8.1, .ref this]) (pc' := 18) C wm_743 (c_J7_copyOf_59c91 hzq8) yw_J7_copyOf_59c91 wm_742 rfl rfl (Nat.le_of_ble_eq_true rfl) ⟨by decide, by decide⟩ dX2_makeRoom_15 rfl rfl ?_
    obtain ⟨zc10, hzc10, hr⟩ := ob hr
    refine j_put (pc' := 21) C dX2_makeRoom_18 fw_X2_7 rfl rfl hzc10 rfl ?_
    refine j_aload_n (q := 0) (pc' := 22) C dX2_makeRoom_21 rfl rfl rfl ?_
    refine j_aload_n (q := 0) (pc' := 23) C dX2_makeRoom_22 rfl rfl rfl ?_
    obtain ⟨zx11, hzx11, hr⟩ := ob hr
    refine j_getA (pc' := 26) C dX2_makeRoom_23 fl_X2_13 hzx11 rfl ?_
    refine j_iload_n (q := 1) (pc' := 27) C dX2_makeRoom_26 rfl rfl rfl ?_
    obtain ⟨zq12, zt13, hzq12, hr, azt13, bzt13, czt13, dzt13⟩ := adcB_s hr
    refine j_k (kc' := zt13.2.2.1 + zq12.2.2.1) (ks' := zt13.2.2.2 + zq12.2.2.2) (by omega) (by omega) ?_
    refine j_callSA (As := [.ref zx11, .int p1]) (rest := [.ref this]) (st1 := [.ref zq12.1, .ref this]) (pc' := 30) C wm_743 (c_J7_copyOf_59c91 hzq12) yw_J7_copyOf_59c91 wm_742 rfl rfl (Nat.le_of_ble_eq_true rfl) ⟨by decide, by decide⟩ dX2_makeRoom_27 rfl rfl ?_
    obtain ⟨zc14, hzc14, hr⟩ := ob hr
    refine j_put (pc' := 33) C dX2_makeRoom_30 fw_X2_13 rfl rfl hzc14 rfl ?_
    refine j_aload_n (q := 0) (pc' := 34) C dX2_makeRoom_33 rfl rfl rfl ?_
    refine j_aload_n (q := 0) (pc' := 35) C dX2_makeRoom_34 rfl rfl rfl ?_
    obtain ⟨zx15, hzx15, hr⟩ := ob hr
    refine j_getA (pc' := 38) C dX2_makeRoom_35 fl_X2_16 hzx15 rfl ?_
    refine j_iload_n (q := 1) (pc' := 39) C dX2_makeRoom_38 rfl rfl rfl ?_
    obtain ⟨zq16, zt17, hzq16, hr, azt17, bzt17, czt17, dzt17⟩ := adcB_s hr
    refine j_k (kc' := zt17.2.2.1 + zq16.2.2.1) (ks' := zt17.2.2.2 + zq16.2.2.2) (by omega) (by omega) ?_
    refine j_callSA (As := [.ref zx15, .int p1]) (rest := [.ref this]) (st1 := [.ref zq16.1, .ref this]) (pc' := 42) C wm_696 (c_J7_copyOf_c38d5 hzq16) yw_J7_copyOf_c38d5 wm_750 rfl rfl (Nat.le_of_ble_eq_true rfl) ⟨by decide, by decide⟩ dX2_makeRoom_39 rfl rfl ?_
    obtain ⟨zc18, hzc18, hr⟩ := ob hr
    refine j_put (pc' := 45) C dX2_makeRoom_42 fw_X2_16 rfl rfl hzc18 rfl ?_
    obtain ⟨azf19, bzf20, czf21, dzf22⟩ := some4 hr
    refine j_k (kc' := 0) (ks' := 0) (by omega) (by omega) ?_
    rw [show nx + q.2.2.1 = (((nx + zq8.2.2.1) + zq12.2.2.1) + zq16.2.2.1) by omega, (bzt9.trans (bzt13.trans (bzt17.trans bzf20)))] at hq
    exact j_vret C hq hret dX2_makeRoom_45
def m_X2_become (nx : Nat) (ce : Ce) (this : Nat) (p1 : Nat) : Option (Unit × Ce × Nat × Nat) :=
  (gI ce 2 3 p1).bind fun zx1 =>
  (rcv ce 2 this).bind fun zz2 =>
  adcB (m_X2_makeRoom nx ce this zx1) fun zq3 =>
  (gA zq3.2.1 2 0 p1).bind fun zx5 =>
  (gA zq3.2.1 2 0 this).bind fun zx6 =>
  (gI zq3.2.1 2 3 p1).bind fun zx7 =>
  (cpI zq3.2.1 zx5 (0 : Int32) zx6 (0 : Int32) zx7).bind fun zc8 =>
  (gA zc8 2 1 p1).bind fun zx9 =>
  (gA zc8 2 1 this).bind fun zx10 =>
  (gI zc8 2 3 p1).bind fun zx11 =>
  (cpI zc8 zx9 (0 : Int32) zx10 (0 : Int32) zx11).bind fun zc12 =>
  (gA zc12 2 2 p1).bind fun zx13 =>
  (gA zc12 2 2 this).bind fun zx14 =>
  (gI zc12 2 3 p1).bind fun zx15 =>
  (cpL zc12 zx13 (0 : Int32) zx14 (0 : Int32) zx15).bind fun zc16 =>
  (gI zc16 2 3 p1).bind fun zx17 =>
  (pV zc16 2 3 this (.int zx17)).bind fun zc18 =>
  some ((), zc18, 0, 0)
set_option maxRecDepth 100000 in
set_option maxHeartbeats 4000000 in
theorem c_X2_become {nx : Nat} {ce : Ce} {this : Nat} {p1 : Nat} {q : Unit × Ce × Nat × Nat} (hr : m_X2_become nx ce this p1 = some q) : Ct yX2_become cX2_become 2 none 3 103 q.2.2.1 q.2.2.2 [.ref this, .ref p1] nx ce none q.2.1 := by
  unfold m_X2_become at hr
  refine ct_of (by decide) (Nat.le_of_ble_eq_true rfl) ?_
  intro G C hq hret hin
  show Jd G q.2.2.1 q.2.2.2 nx ce 0 [(0, .ref this), (1, .ref p1)] []
  refine j_aload_n (q := 0) (pc' := 1) C dX2_become_0 rfl rfl rfl ?_
  refine j_aload_n (q := 1) (pc' := 2) C dX2_become_1 rfl rfl rfl ?_
  obtain ⟨zx1, hzx1, hr⟩ := ob hr
  refine j_getI (pc' := 5) C dX2_become_2 fl_X2_20 hzx1 rfl ?_
  obtain ⟨zz2, hzz2, hr⟩ := ob hr
  obtain ⟨zq3, zt4, hzq3, hr, azt4, bzt4, czt4, dzt4⟩ := adcB_s hr
  refine j_k (kc' := zt4.2.2.1 + zq3.2.2.1) (ks' := zt4.2.2.2 + zq3.2.2.2) (by omega) (by omega) ?_
  obtain ⟨fhzz2, hzz2⟩ := rcv_sp hzz2
  refine j_callVA (ci := 2) (As := [.int zx1]) (rest := []) (st1 := []) (pc' := 8) C ⟨wm_740, wm_18⟩ rfl hzz2 (c_X2_makeRoom hzq3) yw_X2_makeRoom wm_738 rfl rfl (Nat.le_of_ble_eq_true rfl) ⟨by decide, by decide⟩ dX2_become_5 rfl rfl ?_
  refine j_aload_n (q := 1) (pc' := 9) C dX2_become_8 rfl rfl rfl ?_
  obtain ⟨zx5, hzx5, hr⟩ := ob hr
  refine j_getA (pc' := 12) C dX2_become_9 fl_X2_7 hzx5 rfl ?_
  refine j_iconst (v := 0) (pc' := 13) C dX2_become_12 kI_0 rfl ?_
  refine j_aload_n (q := 0) (pc' := 14) C dX2_become_13 rfl rfl rfl ?_
  obtain ⟨zx6, hzx6, hr⟩ := ob hr
  refine j_getA (pc' := 17) C dX2_become_14 fl_X2_7 hzx6 rfl ?_
  refine j_iconst (v := 0) (pc' := 18) C dX2_become_17 kI_0 rfl ?_
  refine j_aload_n (q := 1) (pc' := 19) C dX2_become_18 rfl rfl rfl ?_
  obtain ⟨zx7, hzx7, hr⟩ := ob hr
  refine j_getI (pc' := 22) C dX2_become_19 fl_X2_20 hzx7 rfl ?_
  obtain ⟨zc8, hzc8, hr⟩ := ob hr
  refine j_cpI (pc' := 25) C dX2_become_22 wm_751 wm_708 wm_707 wm_143 ⟨by decide, by decide⟩ (Nat.le_of_ble_eq_true rfl) hzc8 rfl ?_
  refine j_aload_n (q := 1) (pc' := 26) C dX2_become_25 rfl rfl rfl ?_
  obtain ⟨zx9, hzx9, hr⟩ := ob hr
  refine j_getA (pc' := 29) C dX2_become_26 fl_X2_13 hzx9 rfl ?_
  refine j_iconst (v := 0) (pc' := 30) C dX2_become_29 kI_0 rfl ?_
  refine j_aload_n (q := 0) (pc' := 31) C dX2_become_30 rfl rfl rfl ?_
  obtain ⟨zx10, hzx10, hr⟩ := ob hr
  refine j_getA (pc' := 34) C dX2_become_31 fl_X2_13 hzx10 rfl ?_
  refine j_iconst (v := 0) (pc' := 35) C dX2_become_34 kI_0 rfl ?_
  refine j_aload_n (q := 1) (pc' := 36) C dX2_become_35 rfl rfl rfl ?_
  obtain ⟨zx11, hzx11, hr⟩ := ob hr
  refine j_getI (pc' := 39) C dX2_become_36 fl_X2_20 hzx11 rfl ?_
  obtain ⟨zc12, hzc12, hr⟩ := ob hr
  refine j_cpI (pc' := 42) C dX2_become_39 wm_751 wm_708 wm_707 wm_143 ⟨by decide, by decide⟩ (Nat.le_of_ble_eq_true rfl) hzc12 rfl ?_
  refine j_aload_n (q := 1) (pc' := 43) C dX2_become_42 rfl rfl rfl ?_
  obtain ⟨zx13, hzx13, hr⟩ := ob hr
  refine j_getA (pc' := 46) C dX2_become_43 fl_X2_16 hzx13 rfl ?_
  refine j_iconst (v := 0) (pc' := 47) C dX2_become_46 kI_0 rfl ?_
  refine j_aload_n (q := 0) (pc' := 48) C dX2_become_47 rfl rfl rfl ?_
  obtain ⟨zx14, hzx14, hr⟩ := ob hr
  refine j_getA (pc' := 51) C dX2_become_48 fl_X2_16 hzx14 rfl ?_
  refine j_iconst (v := 0) (pc' := 52) C dX2_become_51 kI_0 rfl ?_
  refine j_aload_n (q := 1) (pc' := 53) C dX2_become_52 rfl rfl rfl ?_
  obtain ⟨zx15, hzx15, hr⟩ := ob hr
  refine j_getI (pc' := 56) C dX2_become_53 fl_X2_20 hzx15 rfl ?_
  obtain ⟨zc16, hzc16, hr⟩ := ob hr
  refine j_cpL (pc' := 59) C dX2_become_56 wm_751 wm_708 wm_707 wm_143 ⟨by decide, by decide⟩ (Nat.le_of_ble_eq_true rfl) hzc16 rfl ?_
  refine j_aload_n (q := 0) (pc' := 60) C dX2_become_59 rfl rfl rfl ?_
  refine j_aload_n (q := 1) (pc' := 61) C dX2_become_60 rfl rfl rfl ?_
  obtain ⟨zx17, hzx17, hr⟩ := ob hr
  refine j_getI (pc' := 64) C dX2_become_61 fl_X2_20 hzx17 rfl ?_
  obtain ⟨zc18, hzc18, hr⟩ := ob hr
  refine j_put (pc' := 67) C dX2_become_64 fw_X2_20 rfl rfl hzc18 rfl ?_
  obtain ⟨azf19, bzf20, czf21, dzf22⟩ := some4 hr
  refine j_k (kc' := 0) (ks' := 0) (by omega) (by omega) ?_
  rw [show nx + q.2.2.1 = (nx + zq3.2.2.1) by omega, (bzt4.trans bzf20)] at hq
  exact j_vret C hq hret dX2_become_67
def m_X2_cubeAt (ce : Ce) (this : Nat) (p1 : Int32) : Option (Int32) :=
  if p1 < 0 then
    some (0 : Int32)
  else
    (gI ce 2 3 this).bind fun zx1 =>
    if zx1 ≤ p1 then
      some (0 : Int32)
    else
      (gA ce 2 1 this).bind fun zx2 =>
      (aI ce zx2 p1).bind fun zx3 =>
      some zx3
set_option maxRecDepth 100000 in
set_option maxHeartbeats 4000000 in
theorem c_X2_cubeAt {nx : Nat} {ce : Ce} {this : Nat} {p1 : Int32} {q : Int32} (hr : m_X2_cubeAt ce this p1 = some q) : Ct yX2_cubeAt cX2_cubeAt 2 (some .int) 0 0 0 0 [.ref this, .int p1] nx ce (some (.int q)) ce := by
  unfold m_X2_cubeAt at hr
  refine ct_of (by decide) (Nat.le_of_ble_eq_true rfl) ?_
  intro G C hq hret hin
  show Jd G 0 0 nx ce 0 [(0, .ref this), (1, .int p1)] []
  refine j_iload_n (q := 1) (pc' := 1) C dX2_cubeAt_0 rfl rfl rfl ?_
  refine j_if_lt (tgt := 21) (pc' := 4) C dX2_cubeAt_1 rfl rfl (fun hc => ?_) (fun hc => ?_)
  · have hr := ifT hc hr
    clear hc
    refine j_iconst (v := 0) (pc' := 22) C dX2_cubeAt_21 kI_0 rfl ?_
    have hr := Option.some.inj hr
    subst hr
    exact j_iret C hq hret dX2_cubeAt_22
  · have hr := ifF hc hr
    clear hc
    refine j_iload_n (q := 1) (pc' := 5) C dX2_cubeAt_4 rfl rfl rfl ?_
    refine j_aload_n (q := 0) (pc' := 6) C dX2_cubeAt_5 rfl rfl rfl ?_
    obtain ⟨zx1, hzx1, hr⟩ := ob hr
    refine j_getI (pc' := 9) C dX2_cubeAt_6 fl_X2_20 hzx1 rfl ?_
    refine j_ic_ge (tgt := 21) (pc' := 12) C dX2_cubeAt_9 rfl rfl (fun hc => ?_) (fun hc => ?_)
    · have hr := ifT hc hr
      clear hc
      refine j_iconst (v := 0) (pc' := 22) C dX2_cubeAt_21 kI_0 rfl ?_
      have hr := Option.some.inj hr
      subst hr
      exact j_iret C hq hret dX2_cubeAt_22
    · have hr := ifF hc hr
      clear hc
      refine j_aload_n (q := 0) (pc' := 13) C dX2_cubeAt_12 rfl rfl rfl ?_
      obtain ⟨zx2, hzx2, hr⟩ := ob hr
      refine j_getA (pc' := 16) C dX2_cubeAt_13 fl_X2_13 hzx2 rfl ?_
      refine j_iload_n (q := 1) (pc' := 17) C dX2_cubeAt_16 rfl rfl rfl ?_
      obtain ⟨zx3, hzx3, hr⟩ := ob hr
      refine j_iald (pc' := 18) C dX2_cubeAt_17 hzx3 rfl ?_
      refine j_goto (tgt := 22) C dX2_cubeAt_18 rfl ?_
      have hr := Option.some.inj hr
      subst hr
      exact j_iret C hq hret dX2_cubeAt_22
def m_X3_maskOf (p0 : Int32) : Option (Int32) :=
  (nz (64 : Int32)).bind fun zz1 =>
  some (p0 / (64 : Int32))
set_option maxRecDepth 100000 in
set_option maxHeartbeats 4000000 in
theorem c_X3_maskOf {nx : Nat} {ce : Ce} {p0 : Int32} {q : Int32} (hr : m_X3_maskOf p0 = some q) : Ct yX3_maskOf cX3_maskOf 1 (some .int) 0 0 0 0 [.int p0] nx ce (some (.int q)) ce := by
  unfold m_X3_maskOf at hr
  refine ct_of (by decide) (Nat.le_of_ble_eq_true rfl) ?_
  intro G C hq hret hin
  show Jd G 0 0 nx ce 0 [(0, .int p0)] []
  refine j_iload_n (q := 0) (pc' := 1) C dX3_maskOf_0 rfl rfl rfl ?_
  refine j_bipush (v := 64) (pc' := 3) C dX3_maskOf_1 kB_64 rfl ?_
  obtain ⟨zz1, hzz1, hr⟩ := ob hr
  refine j_idiv (pc' := 4) C dX3_maskOf_3 hzz1 rfl ?_
  have hr := Option.some.inj hr
  subst hr
  exact j_iret C hq hret dX3_maskOf_4
def m_X3_bitsOf (p0 : Int32) : Option (Int32) :=
  (nz (64 : Int32)).bind fun zz1 =>
  some (rm32 p0 (64 : Int32))
set_option maxRecDepth 100000 in
set_option maxHeartbeats 4000000 in
theorem c_X3_bitsOf {nx : Nat} {ce : Ce} {p0 : Int32} {q : Int32} (hr : m_X3_bitsOf p0 = some q) : Ct yX3_bitsOf cX3_bitsOf 1 (some .int) 0 0 0 0 [.int p0] nx ce (some (.int q)) ce := by
  unfold m_X3_bitsOf at hr
  refine ct_of (by decide) (Nat.le_of_ble_eq_true rfl) ?_
  intro G C hq hret hin
  show Jd G 0 0 nx ce 0 [(0, .int p0)] []
  refine j_iload_n (q := 0) (pc' := 1) C dX3_bitsOf_0 rfl rfl rfl ?_
  refine j_bipush (v := 64) (pc' := 3) C dX3_bitsOf_1 kB_64 rfl ?_
  obtain ⟨zz1, hzz1, hr⟩ := ob hr
  refine j_irem (pc' := 4) C dX3_bitsOf_3 hzz1 rfl ?_
  have hr := Option.some.inj hr
  subst hr
  exact j_iret C hq hret dX3_bitsOf_4
def m_X3_statesOf (ce : Ce) (p0 : Int32) : Option (Int64) :=
  (m_X3_maskOf p0).bind fun zx1 =>
  (m_X3_bitsOf p0).bind fun zx2 =>
  (it (fun (zs3 : Int64 × Int32) =>
    if (6 : Int32) ≤ zs3.2 then
      some (Sum.inr zs3.1)
    else
      if ((zx1 >>> (zs3.2 &&& 31)) &&& (1 : Int32)) = 0 then
        some (Sum.inl (zs3.1, (zs3.2 + (1 : Int32))))
      else
        (
          if ((zx2 >>> (zs3.2 &&& 31)) &&& (1 : Int32)) = 0 then
            some (0 : Int32)
          else
            some (1 : Int32)
        ).bind fun (zj6 : Int32) =>
        if zj6 = 0 then
          (aLS zs3.2).bind fun zx7 =>
          some (Sum.inl ((zs3.1 &&& (zx7 ^^^ (-1 : Int64))), (zs3.2 + (1 : Int32))))
        else
          (aLS zs3.2).bind fun zx8 =>
          some (Sum.inl ((zs3.1 &&& zx8), (zs3.2 + (1 : Int32))))
  ) FU ((-1 : Int64), (0 : Int32))).bind fun (zo4 : Int64) =>
  some zo4
set_option maxRecDepth 100000 in
set_option maxHeartbeats 4000000 in
theorem c_X3_statesOf {nx : Nat} {ce : Ce} {p0 : Int32} {q : Int64} (hr : m_X3_statesOf ce p0 = some q) : Ct yX3_statesOf cX3_statesOf 7 (some .long) 1 20 0 0 [.int p0] nx ce (some (.long q)) ce := by
  unfold m_X3_statesOf at hr
  refine ct_of (by decide) (Nat.le_of_ble_eq_true rfl) ?_
  intro G C hq hret hin
  show Jd G 0 0 nx ce 0 [(0, .int p0)] []
  refine j_iload_n (q := 0) (pc' := 1) C dX3_statesOf_0 rfl rfl rfl ?_
  obtain ⟨zx1, hzx1, hr⟩ := ob hr
  refine j_callS (As := [.int p0]) (rest := []) (st1 := [.int zx1]) (pc' := 4) C wm_833 (c_X3_maskOf (nx := nx) (ce := ce) hzx1) yw_X3_maskOf wm_832 rfl rfl (Nat.le_of_ble_eq_true rfl) ⟨by decide, by decide⟩ dX3_statesOf_1 rfl rfl ?_
  refine j_istore_n (lv' := [(1, .int zx1), (0, .int p0)]) (pc' := 5) C dX3_statesOf_4 rfl (by decide) rfl rfl ?_
  refine j_iload_n (q := 1) (pc' := 6) C dX3_statesOf_5 rfl rfl rfl ?_
  obtain ⟨zx2, hzx2, hr⟩ := ob hr
  refine j_callS (As := [.int p0]) (rest := []) (st1 := [.int zx2]) (pc' := 9) C wm_836 (c_X3_bitsOf (nx := nx) (ce := ce) hzx2) yw_X3_bitsOf wm_835 rfl rfl (Nat.le_of_ble_eq_true rfl) ⟨by decide, by decide⟩ dX3_statesOf_6 rfl rfl ?_
  refine j_istore_n (lv' := [(2, .int zx2), (1, .int zx1), (0, .int p0)]) (pc' := 10) C dX3_statesOf_9 rfl (by decide) rfl rfl ?_
  refine j_ldc2 (pc' := 13) C dX3_statesOf_10 wm_838 rfl ?_
  refine j_lstore_n (lv' := [(3, .long (-1 : Int64)), (2, .int zx2), (1, .int zx1), (0, .int p0)]) (pc' := 14) C dX3_statesOf_13 rfl (by decide) rfl rfl ?_
  refine j_iconst (v := 0) (pc' := 15) C dX3_statesOf_14 kI_0 rfl ?_
  refine j_istore (lv' := [(5, .int (0 : Int32)), (3, .long (-1 : Int64)), (2, .int zx2), (1, .int zx1), (0, .int p0)]) (pc' := 17) C dX3_statesOf_15 (by decide) rfl rfl ?_
  obtain ⟨zo4, hzo4, rzo4⟩ := ob hr
  have kzo4 : Jd G 0 0 nx ce 84 [(3, .long zo4)] [] := by
    have hr := rzo4
    refine j_lload_n (q := 0) (pc' := 85) C dX3_statesOf_84 rfl rfl rfl ?_
    have hr := Option.some.inj hr
    subst hr
    exact j_lret C hq hret dX3_statesOf_85
  refine j_lv (lv' := [(1, .int zx1), (2, .int zx2), (3, .long (-1 : Int64)), (5, .int (0 : Int32))]) [3, 2, 1, 0] rfl ?_
  refine it_J (J := (fun (zs3 : Int64 × Int32) => Jd G 0 0 nx ce 17 [(1, .int zx1), (2, .int zx2), (3, .long zs3.1), (5, .int zs3.2)] [])) ?_ hzo4
  clear hzo4
  intro zs3 zr5 hr izs3 ezs3
  refine j_iload (q := 3) (pc' := 19) C dX3_statesOf_17 rfl rfl ?_
  refine j_lsC (pc' := 22) C dX3_statesOf_19 rfl rfl ?_
  refine j_lslen (pc' := 23) C dX3_statesOf_22 rfl ?_
  refine j_ic_ge (tgt := 84) (pc' := 26) C dX3_statesOf_23 rfl rfl (fun hc => ?_) (fun hc => ?_)
  · have hr := ifT hc hr
    clear hc
    have hr := ezs3 _ (Option.some.inj hr).symm
    subst hr
    exact j_lv [2] rfl kzo4
  · have hr := ifF hc hr
    clear hc
    refine j_iload_n (q := 0) (pc' := 27) C dX3_statesOf_26 rfl rfl rfl ?_
    refine j_iload (q := 3) (pc' := 29) C dX3_statesOf_27 rfl rfl ?_
    refine j_ishr (pc' := 30) C dX3_statesOf_29 rfl ?_
    refine j_iconst (v := 1) (pc' := 31) C dX3_statesOf_30 kI_1 rfl ?_
    refine j_iand (pc' := 32) C dX3_statesOf_31 rfl ?_
    refine j_if_eq (tgt := 78) (pc' := 35) C dX3_statesOf_32 rfl rfl (fun hc => ?_) (fun hc => ?_)
    · have hr := ifT hc hr
      clear hc
      refine j_iinc (q := 3) (v := 1) (lv' := [(5, .int (zs3.2 + (1 : Int32))), (1, .int zx1), (2, .int zx2), (3, .long zs3.1)]) (pc' := 81) C dX3_statesOf_78 rfl kI_1 (by decide) rfl rfl ?_
      refine j_goto (tgt := 17) C dX3_statesOf_81 rfl ?_
      have hr := izs3 (zs3.1, (zs3.2 + (1 : Int32))) (Option.some.inj hr).symm
      exact j_lv [1, 2, 3, 0] rfl hr
    · have hr := ifF hc hr
      clear hc
      refine j_iload_n (q := 1) (pc' := 36) C dX3_statesOf_35 rfl rfl rfl ?_
      refine j_iload (q := 3) (pc' := 38) C dX3_statesOf_36 rfl rfl ?_
      refine j_ishr (pc' := 39) C dX3_statesOf_38 rfl ?_
      refine j_iconst (v := 1) (pc' := 40) C dX3_statesOf_39 kI_1 rfl ?_
      refine j_iand (pc' := 41) C dX3_statesOf_40 rfl ?_
      obtain ⟨zj6, hzj6, rzj6⟩ := ob hr
      have kzj6 : Jd G 0 0 nx ce 49 [(1, .int zx1), (2, .int zx2), (3, .long zs3.1), (5, .int zs3.2)] [.int zj6] := by
        have hr := rzj6
        refine j_istore (lv' := [(6, .int zj6), (1, .int zx1), (2, .int zx2), (3, .long zs3.1), (5, .int zs3.2)]) (pc' := 51) C dX3_statesOf_49 (by decide) rfl rfl ?_
        refine j_lload_n (q := 3) (pc' := 52) C dX3_statesOf_51 rfl rfl rfl ?_
        refine j_iload (q := 0) (pc' := 54) C dX3_statesOf_52 rfl rfl ?_
        refine j_if_eq (tgt := 66) (pc' := 57) C dX3_statesOf_54 rfl rfl (fun hc => ?_) (fun hc => ?_)
        · have hr := ifT hc hr
          clear hc
          refine j_lsC (pc' := 69) C dX3_statesOf_66 rfl rfl ?_
          refine j_iload (q := 4) (pc' := 71) C dX3_statesOf_69 rfl rfl ?_
          obtain ⟨zx7, hzx7, hr⟩ := ob hr
          refine j_lsld (pc' := 72) C dX3_statesOf_71 hzx7 rfl ?_
          refine j_ldc2 (pc' := 75) C dX3_statesOf_72 wm_838 rfl ?_
          refine j_lxor (pc' := 76) C dX3_statesOf_75 rfl ?_
          refine j_land (pc' := 77) C dX3_statesOf_76 rfl ?_
          refine j_lstore_n (lv' := [(3, .long (zs3.1 &&& (zx7 ^^^ (-1 : Int64)))), (6, .int zj6), (1, .int zx1), (2, .int zx2), (5, .int zs3.2)]) (pc' := 78) C dX3_statesOf_77 rfl (by decide) rfl rfl ?_
          refine j_iinc (q := 4) (v := 1) (lv' := [(5, .int (zs3.2 + (1 : Int32))), (3, .long (zs3.1 &&& (zx7 ^^^ (-1 : Int64)))), (6, .int zj6), (1, .int zx1), (2, .int zx2)]) (pc' := 81) C dX3_statesOf_78 rfl kI_1 (by decide) rfl rfl ?_
          refine j_goto (tgt := 17) C dX3_statesOf_81 rfl ?_
          have hr := izs3 ((zs3.1 &&& (zx7 ^^^ (-1 : Int64))), (zs3.2 + (1 : Int32))) (Option.some.inj hr).symm
          exact j_lv [3, 4, 1, 0] rfl hr
        · have hr := ifF hc hr
          clear hc
          refine j_lsC (pc' := 60) C dX3_statesOf_57 rfl rfl ?_
          refine j_iload (q := 4) (pc' := 62) C dX3_statesOf_60 rfl rfl ?_
          obtain ⟨zx8, hzx8, hr⟩ := ob hr
          refine j_lsld (pc' := 63) C dX3_statesOf_62 hzx8 rfl ?_
          refine j_goto (tgt := 76) C dX3_statesOf_63 rfl ?_
          refine j_land (pc' := 77) C dX3_statesOf_76 rfl ?_
          refine j_lstore_n (lv' := [(3, .long (zs3.1 &&& zx8)), (6, .int zj6), (1, .int zx1), (2, .int zx2), (5, .int zs3.2)]) (pc' := 78) C dX3_statesOf_77 rfl (by decide) rfl rfl ?_
          refine j_iinc (q := 4) (v := 1) (lv' := [(5, .int (zs3.2 + (1 : Int32))), (3, .long (zs3.1 &&& zx8)), (6, .int zj6), (1, .int zx1), (2, .int zx2)]) (pc' := 81) C dX3_statesOf_78 rfl kI_1 (by decide) rfl rfl ?_
          refine j_goto (tgt := 17) C dX3_statesOf_81 rfl ?_
          have hr := izs3 ((zs3.1 &&& zx8), (zs3.2 + (1 : Int32))) (Option.some.inj hr).symm
          exact j_lv [3, 4, 1, 0] rfl hr
      clear rzj6
      have hr := hzj6
      clear hzj6
      refine j_if_eq (tgt := 48) (pc' := 44) C dX3_statesOf_41 rfl rfl (fun hc => ?_) (fun hc => ?_)
      · have hr := ifT hc hr
        clear hc
        refine j_iconst (v := 0) (pc' := 49) C dX3_statesOf_48 kI_0 rfl ?_
        have hr := Option.some.inj hr
        subst hr
        exact j_lv [0, 1, 2, 3] rfl kzj6
      · have hr := ifF hc hr
        clear hc
        refine j_iconst (v := 1) (pc' := 45) C dX3_statesOf_44 kI_1 rfl ?_
        refine j_goto (tgt := 49) C dX3_statesOf_45 rfl ?_
        have hr := Option.some.inj hr
        subst hr
        exact j_lv [0, 1, 2, 3] rfl kzj6
def m_X2_insert (nx : Nat) (ce : Ce) (this : Nat) (p1 : Int32) (p2 : Int32) (p3 : Int32) : Option (Unit × Ce × Nat × Nat) :=
  if p1 < 0 then
    some ((), ce, 0, 0)
  else
    (gI ce 2 3 this).bind fun zx5 =>
    if p1 ≤ zx5 then
      (gI ce 2 3 this).bind fun zx6 =>
      (gA ce 2 0 this).bind fun zx7 =>
      (alen ce zx7).bind fun zx8 =>
      adcB (
        if zx6 < zx8 then
          some ((), ce, 0, 0)
        else
          (gI ce 2 3 this).bind fun zx40 =>
          (rcv ce 2 this).bind fun zz41 =>
          adcB (m_X2_makeRoom nx ce this ((zx40 * (2 : Int32)) + (8 : Int32))) fun zq42 =>
          some ((), zq42.2.1, 0, 0)
      ) fun (zj9 : Unit × Ce × Nat × Nat) =>
      (gA zj9.2.1 2 0 this).bind fun zx11 =>
      (gA zj9.2.1 2 0 this).bind fun zx12 =>
      (gI zj9.2.1 2 3 this).bind fun zx13 =>
      (cpI zj9.2.1 zx11 p1 zx12 (p1 + (1 : Int32)) (zx13 - p1)).bind fun zc14 =>
      (gA zc14 2 1 this).bind fun zx15 =>
      (gA zc14 2 1 this).bind fun zx16 =>
      (gI zc14 2 3 this).bind fun zx17 =>
      (cpI zc14 zx15 p1 zx16 (p1 + (1 : Int32)) (zx17 - p1)).bind fun zc18 =>
      (gA zc18 2 2 this).bind fun zx19 =>
      (gA zc18 2 2 this).bind fun zx20 =>
      (gI zc18 2 3 this).bind fun zx21 =>
      (cpL zc18 zx19 p1 zx20 (p1 + (1 : Int32)) (zx21 - p1)).bind fun zc22 =>
      (gA zc22 2 0 this).bind fun zx23 =>
      (sI zc22 zx23 p1 p2).bind fun zc24 =>
      (gA zc24 2 1 this).bind fun zx25 =>
      (sI zc24 zx25 p1 p3).bind fun zc26 =>
      (gA zc26 2 2 this).bind fun zx27 =>
      (m_X3_statesOf zc26 p3).bind fun zx28 =>
      (sL zc26 zx27 p1 zx28).bind fun zc29 =>
      (gI zc29 2 3 this).bind fun zx30 =>
      (pV zc29 2 3 this (.int (zx30 + (1 : Int32)))).bind fun zc31 =>
      some ((), zc31, 0, 0)
    else
      some ((), ce, 0, 0)
set_option maxRecDepth 100000 in
set_option maxHeartbeats 4000000 in
theorem c_X2_insert {nx : Nat} {ce : Ce} {this : Nat} {p1 : Int32} {p2 : Int32} {p3 : Int32} {q : Unit × Ce × Nat × Nat} (hr : m_X2_insert nx ce this p1 p2 p3 = some q) : Ct yX2_insert cX2_insert 4 none 3 103 q.2.2.1 q.2.2.2 [.ref this, .int p1, .int p2, .int p3] nx ce none q.2.1 := by
  unfold m_X2_insert at hr
  refine ct_of (by decide) (Nat.le_of_ble_eq_true rfl) ?_
  intro G C hq hret hin
  show Jd G q.2.2.1 q.2.2.2 nx ce 0 [(0, .ref this), (1, .int p1), (2, .int p2), (3, .int p3)] []
  refine j_iload_n (q := 1) (pc' := 1) C dX2_insert_0 rfl rfl rfl ?_
  refine j_if_lt (tgt := 12) (pc' := 4) C dX2_insert_1 rfl rfl (fun hc => ?_) (fun hc => ?_)
  · have hr := ifT hc hr
    clear hc
    obtain ⟨azf1, bzf2, czf3, dzf4⟩ := some4 hr
    refine j_k (kc' := 0) (ks' := 0) (by omega) (by omega) ?_
    rw [show nx + q.2.2.1 = nx by omega, bzf2] at hq
    exact j_vret C hq hret dX2_insert_12
  · have hr := ifF hc hr
    clear hc
    refine j_iload_n (q := 1) (pc' := 5) C dX2_insert_4 rfl rfl rfl ?_
    refine j_aload_n (q := 0) (pc' := 6) C dX2_insert_5 rfl rfl rfl ?_
    obtain ⟨zx5, hzx5, hr⟩ := ob hr
    refine j_getI (pc' := 9) C dX2_insert_6 fl_X2_20 hzx5 rfl ?_
    refine j_ic_le (tgt := 13) (pc' := 12) C dX2_insert_9 rfl rfl (fun hc => ?_) (fun hc => ?_)
    · have hr := ifT hc hr
      clear hc
      refine j_aload_n (q := 0) (pc' := 14) C dX2_insert_13 rfl rfl rfl ?_
      obtain ⟨zx6, hzx6, hr⟩ := ob hr
      refine j_getI (pc' := 17) C dX2_insert_14 fl_X2_20 hzx6 rfl ?_
      refine j_aload_n (q := 0) (pc' := 18) C dX2_insert_17 rfl rfl rfl ?_
      obtain ⟨zx7, hzx7, hr⟩ := ob hr
      refine j_getA (pc' := 21) C dX2_insert_18 fl_X2_7 hzx7 rfl ?_
      obtain ⟨zx8, hzx8, hr⟩ := ob hr
      refine j_alen (pc' := 22) C dX2_insert_21 hzx8 rfl ?_
      obtain ⟨zj9, zt10, hzj9, rzj9, azt10, bzt10, czt10, dzt10⟩ := adcB_s hr
      have kzj9 : ∀ (vzj9 : Unit) (czj9 : Ce) (nzj9 : Nat), zj9.1 = vzj9 → zj9.2.1 = czj9 → nx + zj9.2.2.1 = nzj9 → Jd G (zt10.2.2.1) (zt10.2.2.2) nzj9 czj9 38 [(0, .ref this), (1, .int p1), (2, .int p2), (3, .int p3)] [] := by
        rintro _ _ _ rfl rfl rfl
        have hr := rzj9
        refine j_aload_n (q := 0) (pc' := 39) C dX2_insert_38 rfl rfl rfl ?_
        obtain ⟨zx11, hzx11, hr⟩ := ob hr
        refine j_getA (pc' := 42) C dX2_insert_39 fl_X2_7 hzx11 rfl ?_
        refine j_iload_n (q := 1) (pc' := 43) C dX2_insert_42 rfl rfl rfl ?_
        refine j_aload_n (q := 0) (pc' := 44) C dX2_insert_43 rfl rfl rfl ?_
        obtain ⟨zx12, hzx12, hr⟩ := ob hr
        refine j_getA (pc' := 47) C dX2_insert_44 fl_X2_7 hzx12 rfl ?_
        refine j_iload_n (q := 1) (pc' := 48) C dX2_insert_47 rfl rfl rfl ?_
        refine j_iconst (v := 1) (pc' := 49) C dX2_insert_48 kI_1 rfl ?_
        refine j_iadd (pc' := 50) C dX2_insert_49 rfl ?_
        refine j_aload_n (q := 0) (pc' := 51) C dX2_insert_50 rfl rfl rfl ?_
        obtain ⟨zx13, hzx13, hr⟩ := ob hr
        refine j_getI (pc' := 54) C dX2_insert_51 fl_X2_20 hzx13 rfl ?_
        refine j_iload_n (q := 1) (pc' := 55) C dX2_insert_54 rfl rfl rfl ?_
        refine j_isub (pc' := 56) C dX2_insert_55 rfl ?_
        obtain ⟨zc14, hzc14, hr⟩ := ob hr
        refine j_cpI (pc' := 59) C dX2_insert_56 wm_751 wm_708 wm_707 wm_143 ⟨by decide, by decide⟩ (Nat.le_of_ble_eq_true rfl) hzc14 rfl ?_
        refine j_aload_n (q := 0) (pc' := 60) C dX2_insert_59 rfl rfl rfl ?_
        obtain ⟨zx15, hzx15, hr⟩ := ob hr
        refine j_getA (pc' := 63) C dX2_insert_60 fl_X2_13 hzx15 rfl ?_
        refine j_iload_n (q := 1) (pc' := 64) C dX2_insert_63 rfl rfl rfl ?_
        refine j_aload_n (q := 0) (pc' := 65) C dX2_insert_64 rfl rfl rfl ?_
        obtain ⟨zx16, hzx16, hr⟩ := ob hr
        refine j_getA (pc' := 68) C dX2_insert_65 fl_X2_13 hzx16 rfl ?_
        refine j_iload_n (q := 1) (pc' := 69) C dX2_insert_68 rfl rfl rfl ?_
        refine j_iconst (v := 1) (pc' := 70) C dX2_insert_69 kI_1 rfl ?_
        refine j_iadd (pc' := 71) C dX2_insert_70 rfl ?_
        refine j_aload_n (q := 0) (pc' := 72) C dX2_insert_71 rfl rfl rfl ?_
        obtain ⟨zx17, hzx17, hr⟩ := ob hr
        refine j_getI (pc' := 75) C dX2_insert_72 fl_X2_20 hzx17 rfl ?_
        refine j_iload_n (q := 1) (pc' := 76) C dX2_insert_75 rfl rfl rfl ?_
        refine j_isub (pc' := 77) C dX2_insert_76 rfl ?_
        obtain ⟨zc18, hzc18, hr⟩ := ob hr
        refine j_cpI (pc' := 80) C dX2_insert_77 wm_751 wm_708 wm_707 wm_143 ⟨by decide, by decide⟩ (Nat.le_of_ble_eq_true rfl) hzc18 rfl ?_
        refine j_aload_n (q := 0) (pc' := 81) C dX2_insert_80 rfl rfl rfl ?_
        obtain ⟨zx19, hzx19, hr⟩ := ob hr
        refine j_getA (pc' := 84) C dX2_insert_81 fl_X2_16 hzx19 rfl ?_
        refine j_iload_n (q := 1) (pc' := 85) C dX2_insert_84 rfl rfl rfl ?_
        refine j_aload_n (q := 0) (pc' := 86) C dX2_insert_85 rfl rfl rfl ?_
        obtain ⟨zx20, hzx20, hr⟩ := ob hr
        refine j_getA (pc' := 89) C dX2_insert_86 fl_X2_16 hzx20 rfl ?_
        refine j_iload_n (q := 1) (pc' := 90) C dX2_insert_89 rfl rfl rfl ?_
        refine j_iconst (v := 1) (pc' := 91) C dX2_insert_90 kI_1 rfl ?_
        refine j_iadd (pc' := 92) C dX2_insert_91 rfl ?_
        refine j_aload_n (q := 0) (pc' := 93) C dX2_insert_92 rfl rfl rfl ?_
        obtain ⟨zx21, hzx21, hr⟩ := ob hr
        refine j_getI (pc' := 96) C dX2_insert_93 fl_X2_20 hzx21 rfl ?_
        refine j_iload_n (q := 1) (pc' := 97) C dX2_insert_96 rfl rfl rfl ?_
        refine j_isub (pc' := 98) C dX2_insert_97 rfl ?_
        obtain ⟨zc22, hzc22, hr⟩ := ob hr
        refine j_cpL (pc' := 101) C dX2_insert_98 wm_751 wm_708 wm_707 wm_143 ⟨by decide, by decide⟩ (Nat.le_of_ble_eq_true rfl) hzc22 rfl ?_
        refine j_aload_n (q := 0) (pc' := 102) C dX2_insert_101 rfl rfl rfl ?_
        obtain ⟨zx23, hzx23, hr⟩ := ob hr
        refine j_getA (pc' := 105) C dX2_insert_102 fl_X2_7 hzx23 rfl ?_
        refine j_iload_n (q := 1) (pc' := 106) C dX2_insert_105 rfl rfl rfl ?_
        refine j_iload_n (q := 2) (pc' := 107) C dX2_insert_106 rfl rfl rfl ?_
        obtain ⟨zc24, hzc24, hr⟩ := ob hr
        refine j_iast (pc' := 108) C dX2_insert_107 hzc24 rfl ?_
        refine j_aload_n (q := 0) (pc' := 109) C dX2_insert_108 rfl rfl rfl ?_
        obtain ⟨zx25, hzx25, hr⟩ := ob hr
        refine j_getA (pc' := 112) C dX2_insert_109 fl_X2_13 hzx25 rfl ?_
        refine j_iload_n (q := 1) (pc' := 113) C dX2_insert_112 rfl rfl rfl ?_
        refine j_iload_n (q := 3) (pc' := 114) C dX2_insert_113 rfl rfl rfl ?_
        obtain ⟨zc26, hzc26, hr⟩ := ob hr
        refine j_iast (pc' := 115) C dX2_insert_114 hzc26 rfl ?_
        refine j_aload_n (q := 0) (pc' := 116) C dX2_insert_115 rfl rfl rfl ?_
        obtain ⟨zx27, hzx27, hr⟩ := ob hr
        refine j_getA (pc' := 119) C dX2_insert_116 fl_X2_16 hzx27 rfl ?_
        refine j_iload_n (q := 1) (pc' := 120) C dX2_insert_119 rfl rfl rfl ?_
        refine j_iload_n (q := 3) (pc' := 121) C dX2_insert_120 rfl rfl rfl ?_
        obtain ⟨zx28, hzx28, hr⟩ := ob hr
        refine j_callS (As := [.int p3]) (rest := [.int p1, .ref zx27]) (st1 := [.long zx28, .int p1, .ref zx27]) (pc' := 124) C wm_830 (c_X3_statesOf (nx := (nx + zj9.2.2.1)) hzx28) yw_X3_statesOf wm_873 rfl rfl (Nat.le_of_ble_eq_true rfl) ⟨by decide, by decide⟩ dX2_insert_121 rfl rfl ?_
        obtain ⟨zc29, hzc29, hr⟩ := ob hr
        refine j_last (pc' := 125) C dX2_insert_124 hzc29 rfl ?_
        refine j_aload_n (q := 0) (pc' := 126) C dX2_insert_125 rfl rfl rfl ?_
        refine j_dup (pc' := 127) C dX2_insert_126 rfl rfl ?_
        obtain ⟨zx30, hzx30, hr⟩ := ob hr
        refine j_getI (pc' := 130) C dX2_insert_127 fl_X2_20 hzx30 rfl ?_
        refine j_iconst (v := 1) (pc' := 131) C dX2_insert_130 kI_1 rfl ?_
        refine j_iadd (pc' := 132) C dX2_insert_131 rfl ?_
        obtain ⟨zc31, hzc31, hr⟩ := ob hr
        refine j_put (pc' := 135) C dX2_insert_132 fw_X2_20 rfl rfl hzc31 rfl ?_
        obtain ⟨azf32, bzf33, czf34, dzf35⟩ := some4 hr
        refine j_k (kc' := 0) (ks' := 0) (by omega) (by omega) ?_
        rw [show nx + q.2.2.1 = (nx + zj9.2.2.1) by omega, (bzt10.trans bzf33)] at hq
        exact j_vret C hq hret dX2_insert_135
      have hr := hzj9
      clear hzj9
      refine j_k (kc' := zt10.2.2.1 + zj9.2.2.1) (ks' := zt10.2.2.2 + zj9.2.2.2) (by omega) (by omega) ?_
      refine j_ic_lt (tgt := 38) (pc' := 25) C dX2_insert_22 rfl rfl (fun hc => ?_) (fun hc => ?_)
      · have hr := ifT hc hr
        clear hc
        obtain ⟨azf36, bzf37, czf38, dzf39⟩ := some4 hr
        refine j_k (kc' := zt10.2.2.1) (ks' := zt10.2.2.2) (by omega) (by omega) ?_
        exact j_lv [0, 1, 2, 3] rfl (kzj9 _ _ _ azf36 bzf37 (by omega))
      · have hr := ifF hc hr
        clear hc
        refine j_aload_n (q := 0) (pc' := 26) C dX2_insert_25 rfl rfl rfl ?_
        refine j_aload_n (q := 0) (pc' := 27) C dX2_insert_26 rfl rfl rfl ?_
        obtain ⟨zx40, hzx40, hr⟩ := ob hr
        refine j_getI (pc' := 30) C dX2_insert_27 fl_X2_20 hzx40 rfl ?_
        refine j_iconst (v := 2) (pc' := 31) C dX2_insert_30 kI_2 rfl ?_
        refine j_imul (pc' := 32) C dX2_insert_31 rfl ?_
        refine j_bipush (v := 8) (pc' := 34) C dX2_insert_32 kB_8 rfl ?_
        refine j_iadd (pc' := 35) C dX2_insert_34 rfl ?_
        obtain ⟨zz41, hzz41, hr⟩ := ob hr
        obtain ⟨zq42, zt43, hzq42, hr, azt43, bzt43, czt43, dzt43⟩ := adcB_s hr
        refine j_k (kc' := zt10.2.2.1 + zt43.2.2.1 + zq42.2.2.1) (ks' := zt10.2.2.2 + zt43.2.2.2 + zq42.2.2.2) (by omega) (by omega) ?_
        obtain ⟨fhzz41, hzz41⟩ := rcv_sp hzz41
        refine j_callVA (ci := 2) (As := [.int ((zx40 * (2 : Int32)) + (8 : Int32))]) (rest := []) (st1 := []) (pc' := 38) C ⟨wm_740, wm_18⟩ rfl hzz41 (c_X2_makeRoom hzq42) yw_X2_makeRoom wm_738 rfl rfl (Nat.le_of_ble_eq_true rfl) ⟨by decide, by decide⟩ dX2_insert_35 rfl rfl ?_
        obtain ⟨azf44, bzf45, czf46, dzf47⟩ := some4 hr
        refine j_k (kc' := zt10.2.2.1) (ks' := zt10.2.2.2) (by omega) (by omega) ?_
        exact j_lv [0, 1, 2, 3] rfl (kzj9 _ _ _ (azt43.trans azf44) (bzt43.trans bzf45) (by omega))
    · have hr := ifF hc hr
      clear hc
      obtain ⟨azf48, bzf49, czf50, dzf51⟩ := some4 hr
      refine j_k (kc' := 0) (ks' := 0) (by omega) (by omega) ?_
      rw [show nx + q.2.2.1 = nx by omega, bzf49] at hq
      exact j_vret C hq hret dX2_insert_12
def m_X2_append (nx : Nat) (ce : Ce) (this : Nat) (p1 : Int32) : Option (Unit × Ce × Nat × Nat) :=
  (gI ce 2 3 this).bind fun zx1 =>
  (rcv ce 2 this).bind fun zz2 =>
  adcB (m_X2_insert nx ce this zx1 (0 : Int32) p1) fun zq3 =>
  some ((), zq3.2.1, 0, 0)
set_option maxRecDepth 100000 in
set_option maxHeartbeats 4000000 in
theorem c_X2_append {nx : Nat} {ce : Ce} {this : Nat} {p1 : Int32} {q : Unit × Ce × Nat × Nat} (hr : m_X2_append nx ce this p1 = some q) : Ct yX2_append cX2_append 2 none 4 126 q.2.2.1 q.2.2.2 [.ref this, .int p1] nx ce none q.2.1 := by
  unfold m_X2_append at hr
  refine ct_of (by decide) (Nat.le_of_ble_eq_true rfl) ?_
  intro G C hq hret hin
  show Jd G q.2.2.1 q.2.2.2 nx ce 0 [(0, .ref this), (1, .int p1)] []
  refine j_aload_n (q := 0) (pc' := 1) C dX2_append_0 rfl rfl rfl ?_
  refine j_aload_n (q := 0) (pc' := 2) C dX2_append_1 rfl rfl rfl ?_
  obtain ⟨zx1, hzx1, hr⟩ := ob hr
  refine j_getI (pc' := 5) C dX2_append_2 fl_X2_20 hzx1 rfl ?_
  refine j_iconst (v := 0) (pc' := 6) C dX2_append_5 kI_0 rfl ?_
  refine j_iload_n (q := 1) (pc' := 7) C dX2_append_6 rfl rfl rfl ?_
  obtain ⟨zz2, hzz2, hr⟩ := ob hr
  obtain ⟨zq3, zt4, hzq3, hr, azt4, bzt4, czt4, dzt4⟩ := adcB_s hr
  refine j_k (kc' := zt4.2.2.1 + zq3.2.2.1) (ks' := zt4.2.2.2 + zq3.2.2.2) (by omega) (by omega) ?_
  obtain ⟨fhzz2, hzz2⟩ := rcv_sp hzz2
  refine j_callVA (ci := 2) (As := [.int zx1, .int (0 : Int32), .int p1]) (rest := []) (st1 := []) (pc' := 10) C ⟨wm_871, wm_20⟩ rfl hzz2 (c_X2_insert hzq3) yw_X2_insert wm_869 rfl rfl (Nat.le_of_ble_eq_true rfl) ⟨by decide, by decide⟩ dX2_append_7 rfl rfl ?_
  obtain ⟨azf5, bzf6, czf7, dzf8⟩ := some4 hr
  refine j_k (kc' := 0) (ks' := 0) (by omega) (by omega) ?_
  rw [show nx + q.2.2.1 = (nx + zq3.2.2.1) by omega, (bzt4.trans bzf6)] at hq
  exact j_vret C hq hret dX2_append_10
def m_X2_takeFrom (nx : Nat) (ce : Ce) (this : Nat) (p1 : Option Nat) (p2 : Int32) : Option (Unit × Ce × Nat × Nat) :=
  (pV ce 2 3 this (.int (0 : Int32))).bind fun zc1 =>
  match p1 with
  | none =>
    some ((), zc1, 0, 0)
  | some za6 =>
    adcB (itA (fun (nzs7 : Nat) (czs7 : Ce) (zs7 : Int32) =>
      (gI czs7 2 3 za6).bind fun zx17 =>
      if zx17 ≤ zs7 then
        some (Sum.inr (), czs7, 0, 0)
      else
        (rcv czs7 2 za6).bind fun zz27 =>
        (m_X2_cubeAt czs7 za6 zs7).bind fun zx28 =>
        (rcv czs7 2 this).bind fun zz29 =>
        adcB (m_X2_append nzs7 czs7 this zx28) fun zq30 =>
        some (Sum.inl (zs7 + (1 : Int32)), zq30.2.1, 0, 0)
    ) FU nx zc1 p2) fun (zo8 : Unit × Ce × Nat × Nat) =>
    some ((), zo8.2.1, 0, 0)
set_option maxRecDepth 100000 in
set_option maxHeartbeats 4000000 in
theorem c_X2_takeFrom {nx : Nat} {ce : Ce} {this : Nat} {p1 : Option Nat} {p2 : Int32} {q : Unit × Ce × Nat × Nat} (hr : m_X2_takeFrom nx ce this p1 p2 = some q) : Ct yX2_takeFrom cX2_takeFrom 4 none 5 147 q.2.2.1 q.2.2.2 [.ref this, va_rf p1, .int p2] nx ce none q.2.1 := by
  unfold m_X2_takeFrom at hr
  refine ct_of (by decide) (by cases p1 <;> exact Nat.le_of_ble_eq_true rfl) ?_
  intro G C hq hret hin
  rw [show lv_args 0 [.ref this, va_rf p1, .int p2] = [(0, .ref this), (1, va_rf p1), (2, .int p2)] by cases p1 <;> rfl]
  refine j_aload_n (q := 0) (pc' := 1) C dX2_takeFrom_0 rfl rfl rfl ?_
  refine j_iconst (v := 0) (pc' := 2) C dX2_takeFrom_1 kI_0 rfl ?_
  obtain ⟨zc1, hzc1, hr⟩ := ob hr
  refine j_put (pc' := 5) C dX2_takeFrom_2 fw_X2_20 rfl rfl hzc1 rfl ?_
  refine j_qload_n (q := 1) (pc' := 6) C dX2_takeFrom_5 rfl rfl rfl ?_
  refine j_ifnonnull (tgt := 10) (pc' := 9) C dX2_takeFrom_6 rfl rfl (fun za6 hc => ?_) (fun hc => ?_)
  · subst hc
    refine j_iload_n (q := 2) (pc' := 11) C dX2_takeFrom_10 rfl rfl rfl ?_
    refine j_istore_n (lv' := [(3, .int p2), (0, .ref this), (1, .ref za6), (2, .int p2)]) (pc' := 12) C dX2_takeFrom_11 rfl (by decide) rfl rfl ?_
    obtain ⟨zo8, zt9, hzo8, rzo8, azt9, bzt9, czt9, dzt9⟩ := adcB_s hr
    have kzo8 : ∀ (vzo8 : Unit) (czo8 : Ce) (nzo8 : Nat), zo8.1 = vzo8 → zo8.2.1 = czo8 → nx + zo8.2.2.1 = nzo8 → Jd G (zt9.2.2.1) (zt9.2.2.2) nzo8 czo8 35 [] [] := by
      rintro _ _ _ rfl rfl rfl
      have hr := rzo8
      obtain ⟨azf13, bzf14, czf15, dzf16⟩ := some4 hr
      refine j_k (kc' := 0) (ks' := 0) (by omega) (by omega) ?_
      rw [show nx + q.2.2.1 = (nx + zo8.2.2.1) by omega, (bzt9.trans bzf14)] at hq
      exact j_vret C hq hret dX2_takeFrom_35
    refine j_k (kc' := zt9.2.2.1 + zo8.2.2.1) (ks' := zt9.2.2.2 + zo8.2.2.2) (by omega) (by omega) ?_
    refine j_lv (lv' := [(0, .ref this), (1, va_rf (some za6)), (3, .int p2)]) [1, 2, 0] rfl ?_
    refine itA_Jq (J := fun (nzs7 : Nat) (czs7 : Ce) (zs7 : Int32) (zK11 zS12 : Nat) => Jd G (zt9.2.2.1 + zK11) (zt9.2.2.2 + zS12) nzs7 czs7 12 [(0, .ref this), (1, .ref za6), (3, .int zs7)] []) ?_ hzo8
    clear hzo8
    intro nzs7 czs7 zs7 zb10 zK11 zS12 hr izs7 ezs7
    refine j_k (kc' := zt9.2.2.1 + zK11 + zb10.2.2.1) (ks' := zt9.2.2.2 + zS12 + zb10.2.2.2) (by omega) (by omega) ?_
    refine j_iload_n (q := 2) (pc' := 13) C dX2_takeFrom_12 rfl rfl rfl ?_
    refine j_aload_n (q := 1) (pc' := 14) C dX2_takeFrom_13 rfl rfl rfl ?_
    obtain ⟨zx17, hzx17, hr⟩ := ob hr
    refine j_getI (pc' := 17) C dX2_takeFrom_14 fl_X2_20 hzx17 rfl ?_
    refine j_ic_ge (tgt := 35) (pc' := 20) C dX2_takeFrom_17 rfl rfl (fun hc => ?_) (fun hc => ?_)
    · have hr := ifT hc hr
      clear hc
      obtain ⟨azf18, bzf19, czf20, dzf21⟩ := some4 hr
      obtain ⟨azg22, bzg23, czg24, dzg25, ezg26⟩ := ezs7 _ azf18
      refine j_k (kc' := zt9.2.2.1) (ks' := zt9.2.2.2) (by omega) (by omega) ?_
      exact j_lv [] rfl (kzo8 _ _ _ azg22.symm (bzg23.symm.trans bzf19) (by omega))
    · have hr := ifF hc hr
      clear hc
      refine j_aload_n (q := 0) (pc' := 21) C dX2_takeFrom_20 rfl rfl rfl ?_
      refine j_aload_n (q := 1) (pc' := 22) C dX2_takeFrom_21 rfl rfl rfl ?_
      refine j_iload_n (q := 2) (pc' := 23) C dX2_takeFrom_22 rfl rfl rfl ?_
      obtain ⟨zz27, hzz27, hr⟩ := ob hr
      obtain ⟨zx28, hzx28, hr⟩ := ob hr
      obtain ⟨fhzz27, hzz27⟩ := rcv_sp hzz27
      refine j_callV (ci := 2) (As := [.int zs7]) (rest := [.ref this]) (st1 := [.int zx28, .ref this]) (pc' := 26) C ⟨wm_999, wm_1000⟩ rfl hzz27 (c_X2_cubeAt (nx := nzs7) hzx28) yw_X2_cubeAt wm_1249 rfl rfl (Nat.le_of_ble_eq_true rfl) ⟨by decide, by decide⟩ dX2_takeFrom_23 rfl rfl ?_
      obtain ⟨zz29, hzz29, hr⟩ := ob hr
      obtain ⟨zq30, zt31, hzq30, hr, azt31, bzt31, czt31, dzt31⟩ := adcB_s hr
      refine j_k (kc' := zt9.2.2.1 + zK11 + zt31.2.2.1 + zq30.2.2.1) (ks' := zt9.2.2.2 + zS12 + zt31.2.2.2 + zq30.2.2.2) (by omega) (by omega) ?_
      obtain ⟨fhzz29, hzz29⟩ := rcv_sp hzz29
      refine j_callVA (ci := 2) (As := [.int zx28]) (rest := []) (st1 := []) (pc' := 29) C ⟨wm_1238, wm_1239⟩ rfl hzz29 (c_X2_append hzq30) yw_X2_append wm_1250 rfl rfl (Nat.le_of_ble_eq_true rfl) ⟨by decide, by decide⟩ dX2_takeFrom_26 rfl rfl ?_
      refine j_iinc (q := 2) (v := 1) (lv' := [(3, .int (zs7 + (1 : Int32))), (0, .ref this), (1, .ref za6)]) (pc' := 32) C dX2_takeFrom_29 rfl kI_1 (by decide) rfl rfl ?_
      refine j_goto (tgt := 12) C dX2_takeFrom_32 rfl ?_
      obtain ⟨azf32, bzf33, czf34, dzf35⟩ := some4 hr
      refine j_k (kc' := zt9.2.2.1 + zK11) (ks' := zt9.2.2.2 + zS12) (by omega) (by omega) ?_
      refine j_at (nx' := nzs7 + zb10.2.2.1) (by omega) (bzt31.trans bzf33).symm ?_
      exact j_lv [1, 2, 0] rfl (izs7 _ (azt31.trans azf32))
  · subst hc
    obtain ⟨azf2, bzf3, czf4, dzf5⟩ := some4 hr
    refine j_k (kc' := 0) (ks' := 0) (by omega) (by omega) ?_
    rw [show nx + q.2.2.1 = nx by omega, bzf3] at hq
    exact j_vret C hq hret dX2_takeFrom_9
def m_X2_isOf (ce : Ce) (this : Nat) (p1 : Int32) (p2 : Int32) : Option (Int32) :=
  if p1 < 0 then
    some (0 : Int32)
  else
    (gI ce 2 3 this).bind fun zx1 =>
    if zx1 ≤ p1 then
      some (0 : Int32)
    else
      (gA ce 2 0 this).bind fun zx2 =>
      (aI ce zx2 p1).bind fun zx3 =>
      if zx3 = p2 then
        some (1 : Int32)
      else
        some (0 : Int32)
set_option maxRecDepth 100000 in
set_option maxHeartbeats 4000000 in
theorem c_X2_isOf {nx : Nat} {ce : Ce} {this : Nat} {p1 : Int32} {p2 : Int32} {q : Int32} (hr : m_X2_isOf ce this p1 p2 = some q) : Ct yX2_isOf cX2_isOf 3 (some .boolean) 0 0 0 0 [.ref this, .int p1, .int p2] nx ce (some (.int q)) ce := by
  unfold m_X2_isOf at hr
  refine ct_of (by decide) (Nat.le_of_ble_eq_true rfl) ?_
  intro G C hq hret hin
  show Jd G 0 0 nx ce 0 [(0, .ref this), (1, .int p1), (2, .int p2)] []
  refine j_iload_n (q := 1) (pc' := 1) C dX2_isOf_0 rfl rfl rfl ?_
  refine j_if_lt (tgt := 26) (pc' := 4) C dX2_isOf_1 rfl rfl (fun hc => ?_) (fun hc => ?_)
  · have hr := ifT hc hr
    clear hc
    refine j_iconst (v := 0) (pc' := 27) C dX2_isOf_26 kI_0 rfl ?_
    have hr := Option.some.inj hr
    subst hr
    exact j_zret C hq hret rfl dX2_isOf_27
  · have hr := ifF hc hr
    clear hc
    refine j_iload_n (q := 1) (pc' := 5) C dX2_isOf_4 rfl rfl rfl ?_
    refine j_aload_n (q := 0) (pc' := 6) C dX2_isOf_5 rfl rfl rfl ?_
    obtain ⟨zx1, hzx1, hr⟩ := ob hr
    refine j_getI (pc' := 9) C dX2_isOf_6 fl_X2_20 hzx1 rfl ?_
    refine j_ic_ge (tgt := 26) (pc' := 12) C dX2_isOf_9 rfl rfl (fun hc => ?_) (fun hc => ?_)
    · have hr := ifT hc hr
      clear hc
      refine j_iconst (v := 0) (pc' := 27) C dX2_isOf_26 kI_0 rfl ?_
      have hr := Option.some.inj hr
      subst hr
      exact j_zret C hq hret rfl dX2_isOf_27
    · have hr := ifF hc hr
      clear hc
      refine j_aload_n (q := 0) (pc' := 13) C dX2_isOf_12 rfl rfl rfl ?_
      obtain ⟨zx2, hzx2, hr⟩ := ob hr
      refine j_getA (pc' := 16) C dX2_isOf_13 fl_X2_7 hzx2 rfl ?_
      refine j_iload_n (q := 1) (pc' := 17) C dX2_isOf_16 rfl rfl rfl ?_
      obtain ⟨zx3, hzx3, hr⟩ := ob hr
      refine j_iald (pc' := 18) C dX2_isOf_17 hzx3 rfl ?_
      refine j_iload_n (q := 2) (pc' := 19) C dX2_isOf_18 rfl rfl rfl ?_
      refine j_ic_ne (tgt := 26) (pc' := 22) C dX2_isOf_19 rfl rfl (fun hc => ?_) (fun hc => ?_)
      · have hr := ifF hc hr
        clear hc
        refine j_iconst (v := 0) (pc' := 27) C dX2_isOf_26 kI_0 rfl ?_
        have hr := Option.some.inj hr
        subst hr
        exact j_zret C hq hret rfl dX2_isOf_27
      · have hr := ifT hc hr
        clear hc
        refine j_iconst (v := 1) (pc' := 23) C dX2_isOf_22 kI_1 rfl ?_
        refine j_goto (tgt := 27) C dX2_isOf_23 rfl ?_
        have hr := Option.some.inj hr
        subst hr
        exact j_zret C hq hret rfl dX2_isOf_27
def m_X2_startOf (ce : Ce) (this : Nat) (p1 : Int32) : Option (Int32) :=
  (it (fun (zs1 : Int32) =>
    (gI ce 2 3 this).bind fun zx4 =>
    if zx4 ≤ zs1 then
      some (Sum.inr zs1)
    else
      (gA ce 2 0 this).bind fun zx5 =>
      (aI ce zx5 zs1).bind fun zx6 =>
      if p1 ≤ zx6 then
        some (Sum.inr zs1)
      else
        some (Sum.inl (zs1 + (1 : Int32)))
  ) FU (0 : Int32)).bind fun (zo2 : Int32) =>
  some zo2
set_option maxRecDepth 100000 in
set_option maxHeartbeats 4000000 in
theorem c_X2_startOf {nx : Nat} {ce : Ce} {this : Nat} {p1 : Int32} {q : Int32} (hr : m_X2_startOf ce this p1 = some q) : Ct yX2_startOf cX2_startOf 3 (some .int) 0 0 0 0 [.ref this, .int p1] nx ce (some (.int q)) ce := by
  unfold m_X2_startOf at hr
  refine ct_of (by decide) (Nat.le_of_ble_eq_true rfl) ?_
  intro G C hq hret hin
  show Jd G 0 0 nx ce 0 [(0, .ref this), (1, .int p1)] []
  refine j_iconst (v := 0) (pc' := 1) C dX2_startOf_0 kI_0 rfl ?_
  refine j_istore_n (lv' := [(2, .int (0 : Int32)), (0, .ref this), (1, .int p1)]) (pc' := 2) C dX2_startOf_1 rfl (by decide) rfl rfl ?_
  obtain ⟨zo2, hzo2, rzo2⟩ := ob hr
  have kzo2 : Jd G 0 0 nx ce 26 [(2, .int zo2)] [] := by
    have hr := rzo2
    refine j_iload_n (q := 0) (pc' := 27) C dX2_startOf_26 rfl rfl rfl ?_
    have hr := Option.some.inj hr
    subst hr
    exact j_iret C hq hret dX2_startOf_27
  refine j_lv (lv' := [(0, .ref this), (1, .int p1), (2, .int (0 : Int32))]) [1, 2, 0] rfl ?_
  refine it_J (J := (fun (zs1 : Int32) => Jd G 0 0 nx ce 2 [(0, .ref this), (1, .int p1), (2, .int zs1)] [])) ?_ hzo2
  clear hzo2
  intro zs1 zr3 hr izs1 ezs1
  refine j_iload_n (q := 2) (pc' := 3) C dX2_startOf_2 rfl rfl rfl ?_
  refine j_aload_n (q := 0) (pc' := 4) C dX2_startOf_3 rfl rfl rfl ?_
  obtain ⟨zx4, hzx4, hr⟩ := ob hr
  refine j_getI (pc' := 7) C dX2_startOf_4 fl_X2_20 hzx4 rfl ?_
  refine j_ic_ge (tgt := 26) (pc' := 10) C dX2_startOf_7 rfl rfl (fun hc => ?_) (fun hc => ?_)
  · have hr := ifT hc hr
    clear hc
    have hr := ezs1 _ (Option.some.inj hr).symm
    subst hr
    exact j_lv [2] rfl kzo2
  · have hr := ifF hc hr
    clear hc
    refine j_aload_n (q := 0) (pc' := 11) C dX2_startOf_10 rfl rfl rfl ?_
    obtain ⟨zx5, hzx5, hr⟩ := ob hr
    refine j_getA (pc' := 14) C dX2_startOf_11 fl_X2_7 hzx5 rfl ?_
    refine j_iload_n (q := 2) (pc' := 15) C dX2_startOf_14 rfl rfl rfl ?_
    obtain ⟨zx6, hzx6, hr⟩ := ob hr
    refine j_iald (pc' := 16) C dX2_startOf_15 hzx6 rfl ?_
    refine j_iload_n (q := 1) (pc' := 17) C dX2_startOf_16 rfl rfl rfl ?_
    refine j_ic_ge (tgt := 26) (pc' := 20) C dX2_startOf_17 rfl rfl (fun hc => ?_) (fun hc => ?_)
    · have hr := ifT hc hr
      clear hc
      have hr := ezs1 _ (Option.some.inj hr).symm
      subst hr
      exact j_lv [2] rfl kzo2
    · have hr := ifF hc hr
      clear hc
      refine j_iinc (q := 2) (v := 1) (lv' := [(2, .int (zs1 + (1 : Int32))), (0, .ref this), (1, .int p1)]) (pc' := 23) C dX2_startOf_20 rfl kI_1 (by decide) rfl rfl ?_
      refine j_goto (tgt := 2) C dX2_startOf_23 rfl ?_
      have hr := izs1 (zs1 + (1 : Int32)) (Option.some.inj hr).symm
      exact j_lv [1, 2, 0] rfl hr
def m_X2_countOf (ce : Ce) (this : Nat) (p1 : Int32) : Option (Int32) :=
  (rcv ce 2 this).bind fun zz1 =>
  (m_X2_startOf ce this (p1 + (1 : Int32))).bind fun zx2 =>
  (rcv ce 2 this).bind fun zz3 =>
  (m_X2_startOf ce this p1).bind fun zx4 =>
  some (zx2 - zx4)
set_option maxRecDepth 100000 in
set_option maxHeartbeats 4000000 in
theorem c_X2_countOf {nx : Nat} {ce : Ce} {this : Nat} {p1 : Int32} {q : Int32} (hr : m_X2_countOf ce this p1 = some q) : Ct yX2_countOf cX2_countOf 2 (some .int) 1 22 0 0 [.ref this, .int p1] nx ce (some (.int q)) ce := by
  unfold m_X2_countOf at hr
  refine ct_of (by decide) (Nat.le_of_ble_eq_true rfl) ?_
  intro G C hq hret hin
  show Jd G 0 0 nx ce 0 [(0, .ref this), (1, .int p1)] []
  refine j_aload_n (q := 0) (pc' := 1) C dX2_countOf_0 rfl rfl rfl ?_
  refine j_iload_n (q := 1) (pc' := 2) C dX2_countOf_1 rfl rfl rfl ?_
  refine j_iconst (v := 1) (pc' := 3) C dX2_countOf_2 kI_1 rfl ?_
  refine j_iadd (pc' := 4) C dX2_countOf_3 rfl ?_
  obtain ⟨zz1, hzz1, hr⟩ := ob hr
  obtain ⟨zx2, hzx2, hr⟩ := ob hr
  obtain ⟨fhzz1, hzz1⟩ := rcv_sp hzz1
  refine j_callV (ci := 2) (As := [.int (p1 + (1 : Int32))]) (rest := []) (st1 := [.int zx2]) (pc' := 7) C ⟨wm_845, wm_846⟩ rfl hzz1 (c_X2_startOf (nx := nx) hzx2) yw_X2_startOf wm_868 rfl rfl (Nat.le_of_ble_eq_true rfl) ⟨by decide, by decide⟩ dX2_countOf_4 rfl rfl ?_
  refine j_aload_n (q := 0) (pc' := 8) C dX2_countOf_7 rfl rfl rfl ?_
  refine j_iload_n (q := 1) (pc' := 9) C dX2_countOf_8 rfl rfl rfl ?_
  obtain ⟨zz3, hzz3, hr⟩ := ob hr
  obtain ⟨zx4, hzx4, hr⟩ := ob hr
  obtain ⟨fhzz3, hzz3⟩ := rcv_sp hzz3
  refine j_callV (ci := 2) (As := [.int p1]) (rest := [.int zx2]) (st1 := [.int zx4, .int zx2]) (pc' := 12) C ⟨wm_845, wm_846⟩ rfl hzz3 (c_X2_startOf (nx := nx) hzx4) yw_X2_startOf wm_868 rfl rfl (Nat.le_of_ble_eq_true rfl) ⟨by decide, by decide⟩ dX2_countOf_9 rfl rfl ?_
  refine j_isub (pc' := 13) C dX2_countOf_12 rfl ?_
  have hr := Option.some.inj hr
  subst hr
  exact j_iret C hq hret dX2_countOf_13
def m_X2_highestFrame (ce : Ce) (this : Nat) : Option (Int32) :=
  (gI ce 2 3 this).bind fun zx1 =>
  if zx1 ≤ 0 then
    some (0 : Int32)
  else
    (gA ce 2 0 this).bind fun zx2 =>
    (gI ce 2 3 this).bind fun zx3 =>
    (aI ce zx2 (zx3 - (1 : Int32))).bind fun zx4 =>
    some zx4
set_option maxRecDepth 100000 in
set_option maxHeartbeats 4000000 in
theorem c_X2_highestFrame {nx : Nat} {ce : Ce} {this : Nat} {q : Int32} (hr : m_X2_highestFrame ce this = some q) : Ct yX2_highestFrame cX2_highestFrame 1 (some .int) 0 0 0 0 [.ref this] nx ce (some (.int q)) ce := by
  unfold m_X2_highestFrame at hr
  refine ct_of (by decide) (Nat.le_of_ble_eq_true rfl) ?_
  intro G C hq hret hin
  show Jd G 0 0 nx ce 0 [(0, .ref this)] []
  refine j_aload_n (q := 0) (pc' := 1) C dX2_highestFrame_0 rfl rfl rfl ?_
  obtain ⟨zx1, hzx1, hr⟩ := ob hr
  refine j_getI (pc' := 4) C dX2_highestFrame_1 fl_X2_20 hzx1 rfl ?_
  refine j_if_le (tgt := 21) (pc' := 7) C dX2_highestFrame_4 rfl rfl (fun hc => ?_) (fun hc => ?_)
  · have hr := ifT hc hr
    clear hc
    refine j_iconst (v := 0) (pc' := 22) C dX2_highestFrame_21 kI_0 rfl ?_
    have hr := Option.some.inj hr
    subst hr
    exact j_iret C hq hret dX2_highestFrame_22
  · have hr := ifF hc hr
    clear hc
    refine j_aload_n (q := 0) (pc' := 8) C dX2_highestFrame_7 rfl rfl rfl ?_
    obtain ⟨zx2, hzx2, hr⟩ := ob hr
    refine j_getA (pc' := 11) C dX2_highestFrame_8 fl_X2_7 hzx2 rfl ?_
    refine j_aload_n (q := 0) (pc' := 12) C dX2_highestFrame_11 rfl rfl rfl ?_
    obtain ⟨zx3, hzx3, hr⟩ := ob hr
    refine j_getI (pc' := 15) C dX2_highestFrame_12 fl_X2_20 hzx3 rfl ?_
    refine j_iconst (v := 1) (pc' := 16) C dX2_highestFrame_15 kI_1 rfl ?_
    refine j_isub (pc' := 17) C dX2_highestFrame_16 rfl ?_
    obtain ⟨zx4, hzx4, hr⟩ := ob hr
    refine j_iald (pc' := 18) C dX2_highestFrame_17 hzx4 rfl ?_
    refine j_goto (tgt := 22) C dX2_highestFrame_18 rfl ?_
    have hr := Option.some.inj hr
    subst hr
    exact j_iret C hq hret dX2_highestFrame_22
def m_J6_bitCount_0f7a4 (p0 : Int32) : Option (Int32) :=
  some ((((((((p0 - ((usr32 p0 (1 : Int32)) &&& (1431655765 : Int32))) &&& (858993459 : Int32)) + ((usr32 (p0 - ((usr32 p0 (1 : Int32)) &&& (1431655765 : Int32))) (2 : Int32)) &&& (858993459 : Int32))) + (usr32 (((p0 - ((usr32 p0 (1 : Int32)) &&& (1431655765 : Int32))) &&& (858993459 : Int32)) + ((usr32 (p0 - ((usr32 p0 (1 : Int32)) &&& (1431655765 : Int32))) (2 : Int32)) &&& (858993459 : Int32))) (4 : Int32))) &&& (252645135 : Int32)) + (usr32 (((((p0 - ((usr32 p0 (1 : Int32)) &&& (1431655765 : Int32))) &&& (858993459 : Int32)) + ((usr32 (p0 - ((usr32 p0 (1 : Int32)) &&& (1431655765 : Int32))) (2 : Int32)) &&& (858993459 : Int32))) + (usr32 (((p0 - ((usr32 p0 (1 : Int32)) &&& (1431655765 : Int32))) &&& (858993459 : Int32)) + ((usr32 (p0 - ((usr32 p0 (1 : Int32)) &&& (1431655765 : Int32))) (2 : Int32)) &&& (858993459 : Int32))) (4 : Int32))) &&& (252645135 : Int32)) (8 : Int32))) + (usr32 ((((((p0 - ((usr32 p0 (1 : Int32)) &&& (1431655765 : Int32))) &&& (858993459 : Int32)) + ((usr32 (p0 - ((usr32 p0 (1 : Int32)) &&& (1431655765 : Int32))) (2 : Int32)) &&& (858993459 : Int32))) + (usr32 (((p0 - ((usr32 p0 (1 : Int32)) &&& (1431655765 : Int32))) &&& (858993459 : Int32)) + ((usr32 (p0 - ((usr32 p0 (1 : Int32)) &&& (1431655765 : Int32))) (2 : Int32)) &&& (858993459 : Int32))) (4 : Int32))) &&& (252645135 : Int32)) + (usr32 (((((p0 - ((usr32 p0 (1 : Int32)) &&& (1431655765 : Int32))) &&& (858993459 : Int32)) + ((usr32 (p0 - ((usr32 p0 (1 : Int32)) &&& (1431655765 : Int32))) (2 : Int32)) &&& (858993459 : Int32))) + (usr32 (((p0 - ((usr32 p0 (1 : Int32)) &&& (1431655765 : Int32))) &&& (858993459 : Int32)) + ((usr32 (p0 - ((usr32 p0 (1 : Int32)) &&& (1431655765 : Int32))) (2 : Int32)) &&& (858993459 : Int32))) (4 : Int32))) &&& (252645135 : Int32)) (8 : Int32))) (16 : Int32))) &&& (63 : Int32))
set_option maxRecDepth 100000 in
set_option maxHeartbeats 4000000 in
theorem c_J6_bitCount_0f7a4 {nx : Nat} {ce : Ce} {p0 : Int32} {q : Int32} (hr : m_J6_bitCount_0f7a4 p0 = some q) : Ct yJ6_bitCount_0f7a4 cJ6_bitCount_0f7a4 1 (some .int) 0 0 0 0 [.int p0] nx ce (some (.int q)) ce := by
  unfold m_J6_bitCount_0f7a4 at hr
  refine ct_of (by decide) (Nat.le_of_ble_eq_true rfl) ?_
  intro G C hq hret hin
  show Jd G 0 0 nx ce 0 [(0, .int p0)] []
  refine j_iload_n (q := 0) (pc' := 1) C dJ6_bitCount_0f7a4_0 rfl rfl rfl ?_
  refine j_iload_n (q := 0) (pc' := 2) C dJ6_bitCount_0f7a4_1 rfl rfl rfl ?_
  refine j_iconst (v := 1) (pc' := 3) C dJ6_bitCount_0f7a4_2 kI_1 rfl ?_
  refine j_iushr (pc' := 4) C dJ6_bitCount_0f7a4_3 rfl ?_
  refine j_ldcw (pc' := 7) C dJ6_bitCount_0f7a4_4 wm_1086 rfl ?_
  refine j_iand (pc' := 8) C dJ6_bitCount_0f7a4_7 rfl ?_
  refine j_isub (pc' := 9) C dJ6_bitCount_0f7a4_8 rfl ?_
  refine j_istore_n (lv' := [(0, .int (p0 - ((usr32 p0 (1 : Int32)) &&& (1431655765 : Int32))))]) (pc' := 10) C dJ6_bitCount_0f7a4_9 rfl (by decide) rfl rfl ?_
  refine j_iload_n (q := 0) (pc' := 11) C dJ6_bitCount_0f7a4_10 rfl rfl rfl ?_
  refine j_ldcw (pc' := 14) C dJ6_bitCount_0f7a4_11 wm_1087 rfl ?_
  refine j_iand (pc' := 15) C dJ6_bitCount_0f7a4_14 rfl ?_
  refine j_iload_n (q := 0) (pc' := 16) C dJ6_bitCount_0f7a4_15 rfl rfl rfl ?_
  refine j_iconst (v := 2) (pc' := 17) C dJ6_bitCount_0f7a4_16 kI_2 rfl ?_
  refine j_iushr (pc' := 18) C dJ6_bitCount_0f7a4_17 rfl ?_
  refine j_ldcw (pc' := 21) C dJ6_bitCount_0f7a4_18 wm_1087 rfl ?_
  refine j_iand (pc' := 22) C dJ6_bitCount_0f7a4_21 rfl ?_
  refine j_iadd (pc' := 23) C dJ6_bitCount_0f7a4_22 rfl ?_
  refine j_istore_n (lv' := [(0, .int (((p0 - ((usr32 p0 (1 : Int32)) &&& (1431655765 : Int32))) &&& (858993459 : Int32)) + ((usr32 (p0 - ((usr32 p0 (1 : Int32)) &&& (1431655765 : Int32))) (2 : Int32)) &&& (858993459 : Int32))))]) (pc' := 24) C dJ6_bitCount_0f7a4_23 rfl (by decide) rfl rfl ?_
  refine j_iload_n (q := 0) (pc' := 25) C dJ6_bitCount_0f7a4_24 rfl rfl rfl ?_
  refine j_iload_n (q := 0) (pc' := 26) C dJ6_bitCount_0f7a4_25 rfl rfl rfl ?_
  refine j_iconst (v := 4) (pc' := 27) C dJ6_bitCount_0f7a4_26 kI_4 rfl ?_
  refine j_iushr (pc' := 28) C dJ6_bitCount_0f7a4_27 rfl ?_
  refine j_iadd (pc' := 29) C dJ6_bitCount_0f7a4_28 rfl ?_
  refine j_ldcw (pc' := 32) C dJ6_bitCount_0f7a4_29 wm_1088 rfl ?_
  refine j_iand (pc' := 33) C dJ6_bitCount_0f7a4_32 rfl ?_
  refine j_istore_n (lv' := [(0, .int (((((p0 - ((usr32 p0 (1 : Int32)) &&& (1431655765 : Int32))) &&& (858993459 : Int32)) + ((usr32 (p0 - ((usr32 p0 (1 : Int32)) &&& (1431655765 : Int32))) (2 : Int32)) &&& (858993459 : Int32))) + (usr32 (((p0 - ((usr32 p0 (1 : Int32)) &&& (1431655765 : Int32))) &&& (858993459 : Int32)) + ((usr32 (p0 - ((usr32 p0 (1 : Int32)) &&& (1431655765 : Int32))) (2 : Int32)) &&& (858993459 : Int32))) (4 : Int32))) &&& (252645135 : Int32)))]) (pc' := 34) C dJ6_bitCount_0f7a4_33 rfl (by decide) rfl rfl ?_
  refine j_iload_n (q := 0) (pc' := 35) C dJ6_bitCount_0f7a4_34 rfl rfl rfl ?_
  refine j_iload_n (q := 0) (pc' := 36) C dJ6_bitCount_0f7a4_35 rfl rfl rfl ?_
  refine j_bipush (v := 8) (pc' := 38) C dJ6_bitCount_0f7a4_36 kB_8 rfl ?_
  refine j_iushr (pc' := 39) C dJ6_bitCount_0f7a4_38 rfl ?_
  refine j_iadd (pc' := 40) C dJ6_bitCount_0f7a4_39 rfl ?_
  refine j_istore_n (lv' := [(0, .int ((((((p0 - ((usr32 p0 (1 : Int32)) &&& (1431655765 : Int32))) &&& (858993459 : Int32)) + ((usr32 (p0 - ((usr32 p0 (1 : Int32)) &&& (1431655765 : Int32))) (2 : Int32)) &&& (858993459 : Int32))) + (usr32 (((p0 - ((usr32 p0 (1 : Int32)) &&& (1431655765 : Int32))) &&& (858993459 : Int32)) + ((usr32 (p0 - ((usr32 p0 (1 : Int32)) &&& (1431655765 : Int32))) (2 : Int32)) &&& (858993459 : Int32))) (4 : Int32))) &&& (252645135 : Int32)) + (usr32 (((((p0 - ((usr32 p0 (1 : Int32)) &&& (1431655765 : Int32))) &&& (858993459 : Int32)) + ((usr32 (p0 - ((usr32 p0 (1 : Int32)) &&& (1431655765 : Int32))) (2 : Int32)) &&& (858993459 : Int32))) + (usr32 (((p0 - ((usr32 p0 (1 : Int32)) &&& (1431655765 : Int32))) &&& (858993459 : Int32)) + ((usr32 (p0 - ((usr32 p0 (1 : Int32)) &&& (1431655765 : Int32))) (2 : Int32)) &&& (858993459 : Int32))) (4 : Int32))) &&& (252645135 : Int32)) (8 : Int32))))]) (pc' := 41) C dJ6_bitCount_0f7a4_40 rfl (by decide) rfl rfl ?_
  refine j_iload_n (q := 0) (pc' := 42) C dJ6_bitCount_0f7a4_41 rfl rfl rfl ?_
  refine j_iload_n (q := 0) (pc' := 43) C dJ6_bitCount_0f7a4_42 rfl rfl rfl ?_
  refine j_bipush (v := 16) (pc' := 45) C dJ6_bitCount_0f7a4_43 kB_16 rfl ?_
  refine j_iushr (pc' := 46) C dJ6_bitCount_0f7a4_45 rfl ?_
  refine j_iadd (pc' := 47) C dJ6_bitCount_0f7a4_46 rfl ?_
  refine j_istore_n (lv' := [(0, .int (((((((p0 - ((usr32 p0 (1 : Int32)) &&& (1431655765 : Int32))) &&& (858993459 : Int32)) + ((usr32 (p0 - ((usr32 p0 (1 : Int32)) &&& (1431655765 : Int32))) (2 : Int32)) &&& (858993459 : Int32))) + (usr32 (((p0 - ((usr32 p0 (1 : Int32)) &&& (1431655765 : Int32))) &&& (858993459 : Int32)) + ((usr32 (p0 - ((usr32 p0 (1 : Int32)) &&& (1431655765 : Int32))) (2 : Int32)) &&& (858993459 : Int32))) (4 : Int32))) &&& (252645135 : Int32)) + (usr32 (((((p0 - ((usr32 p0 (1 : Int32)) &&& (1431655765 : Int32))) &&& (858993459 : Int32)) + ((usr32 (p0 - ((usr32 p0 (1 : Int32)) &&& (1431655765 : Int32))) (2 : Int32)) &&& (858993459 : Int32))) + (usr32 (((p0 - ((usr32 p0 (1 : Int32)) &&& (1431655765 : Int32))) &&& (858993459 : Int32)) + ((usr32 (p0 - ((usr32 p0 (1 : Int32)) &&& (1431655765 : Int32))) (2 : Int32)) &&& (858993459 : Int32))) (4 : Int32))) &&& (252645135 : Int32)) (8 : Int32))) + (usr32 ((((((p0 - ((usr32 p0 (1 : Int32)) &&& (1431655765 : Int32))) &&& (858993459 : Int32)) + ((usr32 (p0 - ((usr32 p0 (1 : Int32)) &&& (1431655765 : Int32))) (2 : Int32)) &&& (858993459 : Int32))) + (usr32 (((p0 - ((usr32 p0 (1 : Int32)) &&& (1431655765 : Int32))) &&& (858993459 : Int32)) + ((usr32 (p0 - ((usr32 p0 (1 : Int32)) &&& (1431655765 : Int32))) (2 : Int32)) &&& (858993459 : Int32))) (4 : Int32))) &&& (252645135 : Int32)) + (usr32 (((((p0 - ((usr32 p0 (1 : Int32)) &&& (1431655765 : Int32))) &&& (858993459 : Int32)) + ((usr32 (p0 - ((usr32 p0 (1 : Int32)) &&& (1431655765 : Int32))) (2 : Int32)) &&& (858993459 : Int32))) + (usr32 (((p0 - ((usr32 p0 (1 : Int32)) &&& (1431655765 : Int32))) &&& (858993459 : Int32)) + ((usr32 (p0 - ((usr32 p0 (1 : Int32)) &&& (1431655765 : Int32))) (2 : Int32)) &&& (858993459 : Int32))) (4 : Int32))) &&& (252645135 : Int32)) (8 : Int32))) (16 : Int32))))]) (pc' := 48) C dJ6_bitCount_0f7a4_47 rfl (by decide) rfl rfl ?_
  refine j_iload_n (q := 0) (pc' := 49) C dJ6_bitCount_0f7a4_48 rfl rfl rfl ?_
  refine j_bipush (v := 63) (pc' := 51) C dJ6_bitCount_0f7a4_49 kB_63 rfl ?_
  refine j_iand (pc' := 52) C dJ6_bitCount_0f7a4_51 rfl ?_
  have hr := Option.some.inj hr
  subst hr
  exact j_iret C hq hret dJ6_bitCount_0f7a4_52
def m_X2_lettersOf (ce : Ce) (this : Nat) (p1 : Int32) : Option (Int32) :=
  (rcv ce 2 this).bind fun zz1 =>
  (m_X2_startOf ce this p1).bind fun zx2 =>
  (it (fun (zs3 : Int32 × Int32) =>
    (gI ce 2 3 this).bind fun zx6 =>
    if zx6 ≤ zs3.2 then
      some (Sum.inr zs3.1)
    else
      (gA ce 2 0 this).bind fun zx7 =>
      (aI ce zx7 zs3.2).bind fun zx8 =>
      if zx8 = p1 then
        (gA ce 2 1 this).bind fun zx9 =>
        (aI ce zx9 zs3.2).bind fun zx10 =>
        (m_X3_maskOf zx10).bind fun zx11 =>
        (m_J6_bitCount_0f7a4 zx11).bind fun zx12 =>
        some (Sum.inl ((zs3.1 + zx12), (zs3.2 + (1 : Int32))))
      else
        some (Sum.inr zs3.1)
  ) FU ((0 : Int32), zx2)).bind fun (zo4 : Int32) =>
  some zo4
set_option maxRecDepth 100000 in
set_option maxHeartbeats 4000000 in
theorem c_X2_lettersOf {nx : Nat} {ce : Ce} {this : Nat} {p1 : Int32} {q : Int32} (hr : m_X2_lettersOf ce this p1 = some q) : Ct yX2_lettersOf cX2_lettersOf 4 (some .int) 1 22 0 0 [.ref this, .int p1] nx ce (some (.int q)) ce := by
  unfold m_X2_lettersOf at hr
  refine ct_of (by decide) (Nat.le_of_ble_eq_true rfl) ?_
  intro G C hq hret hin
  show Jd G 0 0 nx ce 0 [(0, .ref this), (1, .int p1)] []
  refine j_iconst (v := 0) (pc' := 1) C dX2_lettersOf_0 kI_0 rfl ?_
  refine j_istore_n (lv' := [(2, .int (0 : Int32)), (0, .ref this), (1, .int p1)]) (pc' := 2) C dX2_lettersOf_1 rfl (by decide) rfl rfl ?_
  refine j_aload_n (q := 1) (pc' := 3) C dX2_lettersOf_2 rfl rfl rfl ?_
  refine j_iload_n (q := 2) (pc' := 4) C dX2_lettersOf_3 rfl rfl rfl ?_
  obtain ⟨zz1, hzz1, hr⟩ := ob hr
  obtain ⟨zx2, hzx2, hr⟩ := ob hr
  obtain ⟨fhzz1, hzz1⟩ := rcv_sp hzz1
  refine j_callV (ci := 2) (As := [.int p1]) (rest := []) (st1 := [.int zx2]) (pc' := 7) C ⟨wm_845, wm_846⟩ rfl hzz1 (c_X2_startOf (nx := nx) hzx2) yw_X2_startOf wm_868 rfl rfl (Nat.le_of_ble_eq_true rfl) ⟨by decide, by decide⟩ dX2_lettersOf_4 rfl rfl ?_
  refine j_istore_n (lv' := [(3, .int zx2), (2, .int (0 : Int32)), (0, .ref this), (1, .int p1)]) (pc' := 8) C dX2_lettersOf_7 rfl (by decide) rfl rfl ?_
  obtain ⟨zo4, hzo4, rzo4⟩ := ob hr
  have kzo4 : Jd G 0 0 nx ce 47 [(2, .int zo4)] [] := by
    have hr := rzo4
    refine j_iload_n (q := 0) (pc' := 48) C dX2_lettersOf_47 rfl rfl rfl ?_
    have hr := Option.some.inj hr
    subst hr
    exact j_iret C hq hret dX2_lettersOf_48
  refine j_lv (lv' := [(0, .ref this), (1, .int p1), (2, .int (0 : Int32)), (3, .int zx2)]) [2, 3, 1, 0] rfl ?_
  refine it_J (J := (fun (zs3 : Int32 × Int32) => Jd G 0 0 nx ce 8 [(0, .ref this), (1, .int p1), (2, .int zs3.1), (3, .int zs3.2)] [])) ?_ hzo4
  clear hzo4
  intro zs3 zr5 hr izs3 ezs3
  refine j_iload_n (q := 3) (pc' := 9) C dX2_lettersOf_8 rfl rfl rfl ?_
  refine j_aload_n (q := 0) (pc' := 10) C dX2_lettersOf_9 rfl rfl rfl ?_
  obtain ⟨zx6, hzx6, hr⟩ := ob hr
  refine j_getI (pc' := 13) C dX2_lettersOf_10 fl_X2_20 hzx6 rfl ?_
  refine j_ic_ge (tgt := 47) (pc' := 16) C dX2_lettersOf_13 rfl rfl (fun hc => ?_) (fun hc => ?_)
  · have hr := ifT hc hr
    clear hc
    have hr := ezs3 _ (Option.some.inj hr).symm
    subst hr
    exact j_lv [2] rfl kzo4
  · have hr := ifF hc hr
    clear hc
    refine j_aload_n (q := 0) (pc' := 17) C dX2_lettersOf_16 rfl rfl rfl ?_
    obtain ⟨zx7, hzx7, hr⟩ := ob hr
    refine j_getA (pc' := 20) C dX2_lettersOf_17 fl_X2_7 hzx7 rfl ?_
    refine j_iload_n (q := 3) (pc' := 21) C dX2_lettersOf_20 rfl rfl rfl ?_
    obtain ⟨zx8, hzx8, hr⟩ := ob hr
    refine j_iald (pc' := 22) C dX2_lettersOf_21 hzx8 rfl ?_
    refine j_iload_n (q := 1) (pc' := 23) C dX2_lettersOf_22 rfl rfl rfl ?_
    refine j_ic_ne (tgt := 47) (pc' := 26) C dX2_lettersOf_23 rfl rfl (fun hc => ?_) (fun hc => ?_)
    · have hr := ifF hc hr
      clear hc
      have hr := ezs3 _ (Option.some.inj hr).symm
      subst hr
      exact j_lv [2] rfl kzo4
    · have hr := ifT hc hr
      clear hc
      refine j_iload_n (q := 2) (pc' := 27) C dX2_lettersOf_26 rfl rfl rfl ?_
      refine j_aload_n (q := 0) (pc' := 28) C dX2_lettersOf_27 rfl rfl rfl ?_
      obtain ⟨zx9, hzx9, hr⟩ := ob hr
      refine j_getA (pc' := 31) C dX2_lettersOf_28 fl_X2_13 hzx9 rfl ?_
      refine j_iload_n (q := 3) (pc' := 32) C dX2_lettersOf_31 rfl rfl rfl ?_
      obtain ⟨zx10, hzx10, hr⟩ := ob hr
      refine j_iald (pc' := 33) C dX2_lettersOf_32 hzx10 rfl ?_
      obtain ⟨zx11, hzx11, hr⟩ := ob hr
      refine j_callS (As := [.int zx10]) (rest := [.int zs3.1]) (st1 := [.int zx11, .int zs3.1]) (pc' := 36) C wm_833 (c_X3_maskOf (nx := nx) (ce := ce) hzx11) yw_X3_maskOf wm_1082 rfl rfl (Nat.le_of_ble_eq_true rfl) ⟨by decide, by decide⟩ dX2_lettersOf_33 rfl rfl ?_
      obtain ⟨zx12, hzx12, hr⟩ := ob hr
      refine j_callS (As := [.int zx11]) (rest := [.int zs3.1]) (st1 := [.int zx12, .int zs3.1]) (pc' := 39) C wm_1084 (c_J6_bitCount_0f7a4 (nx := nx) (ce := ce) hzx12) yw_J6_bitCount_0f7a4 wm_1083 rfl rfl (Nat.le_of_ble_eq_true rfl) ⟨by decide, by decide⟩ dX2_lettersOf_36 rfl rfl ?_
      refine j_iadd (pc' := 40) C dX2_lettersOf_39 rfl ?_
      refine j_istore_n (lv' := [(2, .int (zs3.1 + zx12)), (0, .ref this), (1, .int p1), (3, .int zs3.2)]) (pc' := 41) C dX2_lettersOf_40 rfl (by decide) rfl rfl ?_
      refine j_iinc (q := 3) (v := 1) (lv' := [(3, .int (zs3.2 + (1 : Int32))), (2, .int (zs3.1 + zx12)), (0, .ref this), (1, .int p1)]) (pc' := 44) C dX2_lettersOf_41 rfl kI_1 (by decide) rfl rfl ?_
      refine j_goto (tgt := 8) C dX2_lettersOf_44 rfl ?_
      have hr := izs3 ((zs3.1 + zx12), (zs3.2 + (1 : Int32))) (Option.some.inj hr).symm
      exact j_lv [2, 3, 1, 0] rfl hr
def m_X2_unionFrom (ce : Ce) (this : Nat) (p1 : Int32) : Option (Int64) :=
  (
    if p1 < 0 then
      some (0 : Int32)
    else
      some p1
  ).bind fun (zj1 : Int32) =>
  (it (fun (zs2 : Int64 × Int32) =>
    (gI ce 2 3 this).bind fun zx5 =>
    if zx5 ≤ zs2.2 then
      some (Sum.inr zs2.1)
    else
      (gA ce 2 2 this).bind fun zx6 =>
      (aL ce zx6 zs2.2).bind fun zx7 =>
      some (Sum.inl ((zs2.1 ||| zx7), (zs2.2 + (1 : Int32))))
  ) FU ((0 : Int64), zj1)).bind fun (zo3 : Int64) =>
  some zo3
set_option maxRecDepth 100000 in
set_option maxHeartbeats 4000000 in
theorem c_X2_unionFrom {nx : Nat} {ce : Ce} {this : Nat} {p1 : Int32} {q : Int64} (hr : m_X2_unionFrom ce this p1 = some q) : Ct yX2_unionFrom cX2_unionFrom 5 (some .long) 0 0 0 0 [.ref this, .int p1] nx ce (some (.long q)) ce := by
  unfold m_X2_unionFrom at hr
  refine ct_of (by decide) (Nat.le_of_ble_eq_true rfl) ?_
  intro G C hq hret hin
  show Jd G 0 0 nx ce 0 [(0, .ref this), (1, .int p1)] []
  refine j_lconst (v := 0) (pc' := 1) C dX2_unionFrom_0 kL_0 rfl ?_
  refine j_lstore_n (lv' := [(2, .long (0 : Int64)), (0, .ref this), (1, .int p1)]) (pc' := 2) C dX2_unionFrom_1 rfl (by decide) rfl rfl ?_
  refine j_iload_n (q := 2) (pc' := 3) C dX2_unionFrom_2 rfl rfl rfl ?_
  obtain ⟨zj1, hzj1, rzj1⟩ := ob hr
  have kzj1 : Jd G 0 0 nx ce 11 [(0, .ref this), (2, .long (0 : Int64))] [.int zj1] := by
    have hr := rzj1
    refine j_istore (lv' := [(4, .int zj1), (0, .ref this), (2, .long (0 : Int64))]) (pc' := 13) C dX2_unionFrom_11 (by decide) rfl rfl ?_
    obtain ⟨zo3, hzo3, rzo3⟩ := ob hr
    have kzo3 : Jd G 0 0 nx ce 38 [(2, .long zo3)] [] := by
      have hr := rzo3
      refine j_lload_n (q := 0) (pc' := 39) C dX2_unionFrom_38 rfl rfl rfl ?_
      have hr := Option.some.inj hr
      subst hr
      exact j_lret C hq hret dX2_unionFrom_39
    refine j_lv (lv' := [(0, .ref this), (2, .long (0 : Int64)), (4, .int zj1)]) [1, 2, 0] rfl ?_
    refine it_J (J := (fun (zs2 : Int64 × Int32) => Jd G 0 0 nx ce 13 [(0, .ref this), (2, .long zs2.1), (4, .int zs2.2)] [])) ?_ hzo3
    clear hzo3
    intro zs2 zr4 hr izs2 ezs2
    refine j_iload (q := 2) (pc' := 15) C dX2_unionFrom_13 rfl rfl ?_
    refine j_aload_n (q := 0) (pc' := 16) C dX2_unionFrom_15 rfl rfl rfl ?_
    obtain ⟨zx5, hzx5, hr⟩ := ob hr
    refine j_getI (pc' := 19) C dX2_unionFrom_16 fl_X2_20 hzx5 rfl ?_
    refine j_ic_ge (tgt := 38) (pc' := 22) C dX2_unionFrom_19 rfl rfl (fun hc => ?_) (fun hc => ?_)
    · have hr := ifT hc hr
      clear hc
      have hr := ezs2 _ (Option.some.inj hr).symm
      subst hr
      exact j_lv [1] rfl kzo3
    · have hr := ifF hc hr
      clear hc
      refine j_lload_n (q := 1) (pc' := 23) C dX2_unionFrom_22 rfl rfl rfl ?_
      refine j_aload_n (q := 0) (pc' := 24) C dX2_unionFrom_23 rfl rfl rfl ?_
      obtain ⟨zx6, hzx6, hr⟩ := ob hr
      refine j_getA (pc' := 27) C dX2_unionFrom_24 fl_X2_16 hzx6 rfl ?_
      refine j_iload (q := 2) (pc' := 29) C dX2_unionFrom_27 rfl rfl ?_
      obtain ⟨zx7, hzx7, hr⟩ := ob hr
      refine j_lald (pc' := 30) C dX2_unionFrom_29 hzx7 rfl ?_
      refine j_lor (pc' := 31) C dX2_unionFrom_30 rfl ?_
      refine j_lstore_n (lv' := [(2, .long (zs2.1 ||| zx7)), (0, .ref this), (4, .int zs2.2)]) (pc' := 32) C dX2_unionFrom_31 rfl (by decide) rfl rfl ?_
      refine j_iinc (q := 2) (v := 1) (lv' := [(4, .int (zs2.2 + (1 : Int32))), (2, .long (zs2.1 ||| zx7)), (0, .ref this)]) (pc' := 35) C dX2_unionFrom_32 rfl kI_1 (by decide) rfl rfl ?_
      refine j_goto (tgt := 13) C dX2_unionFrom_35 rfl ?_
      have hr := izs2 ((zs2.1 ||| zx7), (zs2.2 + (1 : Int32))) (Option.some.inj hr).symm
      exact j_lv [2, 1, 0] rfl hr
  clear rzj1
  have hr := hzj1
  clear hzj1
  refine j_if_lt (tgt := 10) (pc' := 6) C dX2_unionFrom_3 rfl rfl (fun hc => ?_) (fun hc => ?_)
  · have hr := ifT hc hr
    clear hc
    refine j_iconst (v := 0) (pc' := 11) C dX2_unionFrom_10 kI_0 rfl ?_
    have hr := Option.some.inj hr
    subst hr
    exact j_lv [1, 0] rfl kzj1
  · have hr := ifF hc hr
    clear hc
    refine j_iload_n (q := 2) (pc' := 7) C dX2_unionFrom_6 rfl rfl rfl ?_
    refine j_goto (tgt := 11) C dX2_unionFrom_7 rfl ?_
    have hr := Option.some.inj hr
    subst hr
    exact j_lv [1, 0] rfl kzj1
def m_X2_unionBut (ce : Ce) (this : Nat) (p1 : Int32) : Option (Int64) :=
  (it (fun (zs1 : Int64 × Int32) =>
    (gI ce 2 3 this).bind fun zx4 =>
    if zx4 ≤ zs1.2 then
      some (Sum.inr zs1.1)
    else
      if zs1.2 = p1 then
        some (Sum.inl (zs1.1, (zs1.2 + (1 : Int32))))
      else
        (gA ce 2 2 this).bind fun zx5 =>
        (aL ce zx5 zs1.2).bind fun zx6 =>
        some (Sum.inl ((zs1.1 ||| zx6), (zs1.2 + (1 : Int32))))
  ) FU ((0 : Int64), (0 : Int32))).bind fun (zo2 : Int64) =>
  some zo2
set_option maxRecDepth 100000 in
set_option maxHeartbeats 4000000 in
theorem c_X2_unionBut {nx : Nat} {ce : Ce} {this : Nat} {p1 : Int32} {q : Int64} (hr : m_X2_unionBut ce this p1 = some q) : Ct yX2_unionBut cX2_unionBut 5 (some .long) 0 0 0 0 [.ref this, .int p1] nx ce (some (.long q)) ce := by
  unfold m_X2_unionBut at hr
  refine ct_of (by decide) (Nat.le_of_ble_eq_true rfl) ?_
  intro G C hq hret hin
  show Jd G 0 0 nx ce 0 [(0, .ref this), (1, .int p1)] []
  refine j_lconst (v := 0) (pc' := 1) C dX2_unionBut_0 kL_0 rfl ?_
  refine j_lstore_n (lv' := [(2, .long (0 : Int64)), (0, .ref this), (1, .int p1)]) (pc' := 2) C dX2_unionBut_1 rfl (by decide) rfl rfl ?_
  refine j_iconst (v := 0) (pc' := 3) C dX2_unionBut_2 kI_0 rfl ?_
  refine j_istore (lv' := [(4, .int (0 : Int32)), (2, .long (0 : Int64)), (0, .ref this), (1, .int p1)]) (pc' := 5) C dX2_unionBut_3 (by decide) rfl rfl ?_
  obtain ⟨zo2, hzo2, rzo2⟩ := ob hr
  have kzo2 : Jd G 0 0 nx ce 36 [(2, .long zo2)] [] := by
    have hr := rzo2
    refine j_lload_n (q := 0) (pc' := 37) C dX2_unionBut_36 rfl rfl rfl ?_
    have hr := Option.some.inj hr
    subst hr
    exact j_lret C hq hret dX2_unionBut_37
  refine j_lv (lv' := [(0, .ref this), (1, .int p1), (2, .long (0 : Int64)), (4, .int (0 : Int32))]) [2, 3, 1, 0] rfl ?_
  refine it_J (J := (fun (zs1 : Int64 × Int32) => Jd G 0 0 nx ce 5 [(0, .ref this), (1, .int p1), (2, .long zs1.1), (4, .int zs1.2)] [])) ?_ hzo2
  clear hzo2
  intro zs1 zr3 hr izs1 ezs1
  refine j_iload (q := 3) (pc' := 7) C dX2_unionBut_5 rfl rfl ?_
  refine j_aload_n (q := 0) (pc' := 8) C dX2_unionBut_7 rfl rfl rfl ?_
  obtain ⟨zx4, hzx4, hr⟩ := ob hr
  refine j_getI (pc' := 11) C dX2_unionBut_8 fl_X2_20 hzx4 rfl ?_
  refine j_ic_ge (tgt := 36) (pc' := 14) C dX2_unionBut_11 rfl rfl (fun hc => ?_) (fun hc => ?_)
  · have hr := ifT hc hr
    clear hc
    have hr := ezs1 _ (Option.some.inj hr).symm
    subst hr
    exact j_lv [2] rfl kzo2
  · have hr := ifF hc hr
    clear hc
    refine j_iload (q := 3) (pc' := 16) C dX2_unionBut_14 rfl rfl ?_
    refine j_iload_n (q := 1) (pc' := 17) C dX2_unionBut_16 rfl rfl rfl ?_
    refine j_ic_eq (tgt := 30) (pc' := 20) C dX2_unionBut_17 rfl rfl (fun hc => ?_) (fun hc => ?_)
    · have hr := ifT hc hr
      clear hc
      refine j_iinc (q := 3) (v := 1) (lv' := [(4, .int (zs1.2 + (1 : Int32))), (0, .ref this), (1, .int p1), (2, .long zs1.1)]) (pc' := 33) C dX2_unionBut_30 rfl kI_1 (by decide) rfl rfl ?_
      refine j_goto (tgt := 5) C dX2_unionBut_33 rfl ?_
      have hr := izs1 (zs1.1, (zs1.2 + (1 : Int32))) (Option.some.inj hr).symm
      exact j_lv [1, 2, 3, 0] rfl hr
    · have hr := ifF hc hr
      clear hc
      refine j_lload_n (q := 2) (pc' := 21) C dX2_unionBut_20 rfl rfl rfl ?_
      refine j_aload_n (q := 0) (pc' := 22) C dX2_unionBut_21 rfl rfl rfl ?_
      obtain ⟨zx5, hzx5, hr⟩ := ob hr
      refine j_getA (pc' := 25) C dX2_unionBut_22 fl_X2_16 hzx5 rfl ?_
      refine j_iload (q := 3) (pc' := 27) C dX2_unionBut_25 rfl rfl ?_
      obtain ⟨zx6, hzx6, hr⟩ := ob hr
      refine j_lald (pc' := 28) C dX2_unionBut_27 hzx6 rfl ?_
      refine j_lor (pc' := 29) C dX2_unionBut_28 rfl ?_
      refine j_lstore_n (lv' := [(2, .long (zs1.1 ||| zx6)), (0, .ref this), (1, .int p1), (4, .int zs1.2)]) (pc' := 30) C dX2_unionBut_29 rfl (by decide) rfl rfl ?_
      refine j_iinc (q := 3) (v := 1) (lv' := [(4, .int (zs1.2 + (1 : Int32))), (2, .long (zs1.1 ||| zx6)), (0, .ref this), (1, .int p1)]) (pc' := 33) C dX2_unionBut_30 rfl kI_1 (by decide) rfl rfl ?_
      refine j_goto (tgt := 5) C dX2_unionBut_33 rfl ?_
      have hr := izs1 ((zs1.1 ||| zx6), (zs1.2 + (1 : Int32))) (Option.some.inj hr).symm
      exact j_lv [2, 3, 1, 0] rfl hr
def m_X3_liesIn (p0 : Int32) (p1 : Int32) : Option (Int32) :=
  (m_X3_maskOf p1).bind fun zx1 =>
  (m_X3_maskOf p0).bind fun zx2 =>
  if (zx2 &&& zx1) = zx1 then
    (m_X3_bitsOf p0).bind fun zx3 =>
    (m_X3_bitsOf p1).bind fun zx4 =>
    if (zx3 &&& zx1) = zx4 then
      some (1 : Int32)
    else
      some (0 : Int32)
  else
    some (0 : Int32)
set_option maxRecDepth 100000 in
set_option maxHeartbeats 4000000 in
theorem c_X3_liesIn {nx : Nat} {ce : Ce} {p0 : Int32} {p1 : Int32} {q : Int32} (hr : m_X3_liesIn p0 p1 = some q) : Ct yX3_liesIn cX3_liesIn 3 (some .boolean) 1 20 0 0 [.int p0, .int p1] nx ce (some (.int q)) ce := by
  unfold m_X3_liesIn at hr
  refine ct_of (by decide) (Nat.le_of_ble_eq_true rfl) ?_
  intro G C hq hret hin
  show Jd G 0 0 nx ce 0 [(0, .int p0), (1, .int p1)] []
  refine j_iload_n (q := 1) (pc' := 1) C dX3_liesIn_0 rfl rfl rfl ?_
  obtain ⟨zx1, hzx1, hr⟩ := ob hr
  refine j_callS (As := [.int p1]) (rest := []) (st1 := [.int zx1]) (pc' := 4) C wm_833 (c_X3_maskOf (nx := nx) (ce := ce) hzx1) yw_X3_maskOf wm_832 rfl rfl (Nat.le_of_ble_eq_true rfl) ⟨by decide, by decide⟩ dX3_liesIn_1 rfl rfl ?_
  refine j_istore_n (lv' := [(2, .int zx1), (0, .int p0), (1, .int p1)]) (pc' := 5) C dX3_liesIn_4 rfl (by decide) rfl rfl ?_
  refine j_iload_n (q := 1) (pc' := 6) C dX3_liesIn_5 rfl rfl rfl ?_
  obtain ⟨zx2, hzx2, hr⟩ := ob hr
  refine j_callS (As := [.int p0]) (rest := []) (st1 := [.int zx2]) (pc' := 9) C wm_833 (c_X3_maskOf (nx := nx) (ce := ce) hzx2) yw_X3_maskOf wm_832 rfl rfl (Nat.le_of_ble_eq_true rfl) ⟨by decide, by decide⟩ dX3_liesIn_6 rfl rfl ?_
  refine j_iload_n (q := 0) (pc' := 10) C dX3_liesIn_9 rfl rfl rfl ?_
  refine j_iand (pc' := 11) C dX3_liesIn_10 rfl ?_
  refine j_iload_n (q := 0) (pc' := 12) C dX3_liesIn_11 rfl rfl rfl ?_
  refine j_ic_ne (tgt := 32) (pc' := 15) C dX3_liesIn_12 rfl rfl (fun hc => ?_) (fun hc => ?_)
  · have hr := ifF hc hr
    clear hc
    refine j_iconst (v := 0) (pc' := 33) C dX3_liesIn_32 kI_0 rfl ?_
    have hr := Option.some.inj hr
    subst hr
    exact j_zret C hq hret rfl dX3_liesIn_33
  · have hr := ifT hc hr
    clear hc
    refine j_iload_n (q := 1) (pc' := 16) C dX3_liesIn_15 rfl rfl rfl ?_
    obtain ⟨zx3, hzx3, hr⟩ := ob hr
    refine j_callS (As := [.int p0]) (rest := []) (st1 := [.int zx3]) (pc' := 19) C wm_836 (c_X3_bitsOf (nx := nx) (ce := ce) hzx3) yw_X3_bitsOf wm_835 rfl rfl (Nat.le_of_ble_eq_true rfl) ⟨by decide, by decide⟩ dX3_liesIn_16 rfl rfl ?_
    refine j_iload_n (q := 0) (pc' := 20) C dX3_liesIn_19 rfl rfl rfl ?_
    refine j_iand (pc' := 21) C dX3_liesIn_20 rfl ?_
    refine j_iload_n (q := 2) (pc' := 22) C dX3_liesIn_21 rfl rfl rfl ?_
    obtain ⟨zx4, hzx4, hr⟩ := ob hr
    refine j_callS (As := [.int p1]) (rest := [.int (zx3 &&& zx1)]) (st1 := [.int zx4, .int (zx3 &&& zx1)]) (pc' := 25) C wm_836 (c_X3_bitsOf (nx := nx) (ce := ce) hzx4) yw_X3_bitsOf wm_835 rfl rfl (Nat.le_of_ble_eq_true rfl) ⟨by decide, by decide⟩ dX3_liesIn_22 rfl rfl ?_
    refine j_ic_ne (tgt := 32) (pc' := 28) C dX3_liesIn_25 rfl rfl (fun hc => ?_) (fun hc => ?_)
    · have hr := ifF hc hr
      clear hc
      refine j_iconst (v := 0) (pc' := 33) C dX3_liesIn_32 kI_0 rfl ?_
      have hr := Option.some.inj hr
      subst hr
      exact j_zret C hq hret rfl dX3_liesIn_33
    · have hr := ifT hc hr
      clear hc
      refine j_iconst (v := 1) (pc' := 29) C dX3_liesIn_28 kI_1 rfl ?_
      refine j_goto (tgt := 33) C dX3_liesIn_29 rfl ?_
      have hr := Option.some.inj hr
      subst hr
      exact j_zret C hq hret rfl dX3_liesIn_33
def m_X2_putLast (nx : Nat) (ce : Ce) (this : Nat) (p1 : Int32) (p2 : Int32) : Option (Unit × Ce × Nat × Nat) :=
  (it (fun (zs1 : (Int32 × Int32) × Ce) =>
    (gI zs1.2 2 3 this).bind fun zx14 =>
    if zx14 ≤ zs1.1.2 then
      some (Sum.inr (zs1.1.1, zs1.2))
    else
      (gA zs1.2 2 0 this).bind fun zx15 =>
      (aI zs1.2 zx15 zs1.1.2).bind fun zx16 =>
      (
        if p1 < zx16 then
          some (Sum.inr zs1.1.2)
        else
          (gA zs1.2 2 1 this).bind fun zx30 =>
          (aI zs1.2 zx30 zs1.1.2).bind fun zx31 =>
          (m_X3_liesIn zx31 p2).bind fun zx32 =>
          if zx32 = 0 then
            some (Sum.inr zs1.1.2)
          else
            some (Sum.inl (Sum.inl ((zs1.1.1, (zs1.1.2 + (1 : Int32))), zs1.2)))
      ).bind fun (zj17 : (((Int32 × Int32) × Ce) ⊕ (Int32 × Ce)) ⊕ Int32) => Sum.elim (fun wzj17 => some wzj17) (fun vzj17 =>
        (gA zs1.2 2 0 this).bind fun zx18 =>
        (gA zs1.2 2 0 this).bind fun zx19 =>
        (aI zs1.2 zx19 vzj17).bind fun zx20 =>
        (sI zs1.2 zx18 zs1.1.1 zx20).bind fun zc21 =>
        (gA zc21 2 1 this).bind fun zx22 =>
        (gA zc21 2 1 this).bind fun zx23 =>
        (aI zc21 zx23 vzj17).bind fun zx24 =>
        (sI zc21 zx22 zs1.1.1 zx24).bind fun zc25 =>
        (gA zc25 2 2 this).bind fun zx26 =>
        (gA zc25 2 2 this).bind fun zx27 =>
        (aL zc25 zx27 vzj17).bind fun zx28 =>
        (sL zc25 zx26 zs1.1.1 zx28).bind fun zc29 =>
        some (Sum.inl (((zs1.1.1 + (1 : Int32)), (vzj17 + (1 : Int32))), zc29))
      ) zj17
  ) FU (((0 : Int32), (0 : Int32)), ce)).bind fun (zo2 : Int32 × Ce) =>
  (pV zo2.2 2 3 this (.int zo2.1)).bind fun zc4 =>
  (rcv zc4 2 this).bind fun zz5 =>
  (m_X2_startOf zc4 this (p1 + (1 : Int32))).bind fun zx6 =>
  (rcv zc4 2 this).bind fun zz7 =>
  adcB (m_X2_insert nx zc4 this zx6 p1 p2) fun zq8 =>
  some ((), zq8.2.1, 0, 0)
set_option maxRecDepth 100000 in
set_option maxHeartbeats 4000000 in
theorem c_X2_putLast {nx : Nat} {ce : Ce} {this : Nat} {p1 : Int32} {p2 : Int32} {q : Unit × Ce × Nat × Nat} (hr : m_X2_putLast nx ce this p1 p2 = some q) : Ct yX2_putLast cX2_putLast 5 none 4 126 q.2.2.1 q.2.2.2 [.ref this, .int p1, .int p2] nx ce none q.2.1 := by
  unfold m_X2_putLast at hr
  refine ct_of (by decide) (Nat.le_of_ble_eq_true rfl) ?_
  intro G C hq hret hin
  show Jd G q.2.2.1 q.2.2.2 nx ce 0 [(0, .ref this), (1, .int p1), (2, .int p2)] []
  refine j_iconst (v := 0) (pc' := 1) C dX2_putLast_0 kI_0 rfl ?_
  refine j_istore_n (lv' := [(3, .int (0 : Int32)), (0, .ref this), (1, .int p1), (2, .int p2)]) (pc' := 2) C dX2_putLast_1 rfl (by decide) rfl rfl ?_
  refine j_iconst (v := 0) (pc' := 3) C dX2_putLast_2 kI_0 rfl ?_
  refine j_istore (lv' := [(4, .int (0 : Int32)), (3, .int (0 : Int32)), (0, .ref this), (1, .int p1), (2, .int p2)]) (pc' := 5) C dX2_putLast_3 (by decide) rfl rfl ?_
  obtain ⟨zo2, hzo2, rzo2⟩ := ob hr
  have kzo2 : Jd G q.2.2.1 q.2.2.2 nx zo2.2 87 [(0, .ref this), (1, .int p1), (2, .int p2), (3, .int zo2.1)] [] := by
    have hr := rzo2
    refine j_aload_n (q := 0) (pc' := 88) C dX2_putLast_87 rfl rfl rfl ?_
    refine j_iload_n (q := 3) (pc' := 89) C dX2_putLast_88 rfl rfl rfl ?_
    obtain ⟨zc4, hzc4, hr⟩ := ob hr
    refine j_put (pc' := 92) C dX2_putLast_89 fw_X2_20 rfl rfl hzc4 rfl ?_
    refine j_aload_n (q := 0) (pc' := 93) C dX2_putLast_92 rfl rfl rfl ?_
    refine j_aload_n (q := 0) (pc' := 94) C dX2_putLast_93 rfl rfl rfl ?_
    refine j_iload_n (q := 1) (pc' := 95) C dX2_putLast_94 rfl rfl rfl ?_
    refine j_iconst (v := 1) (pc' := 96) C dX2_putLast_95 kI_1 rfl ?_
    refine j_iadd (pc' := 97) C dX2_putLast_96 rfl ?_
    obtain ⟨zz5, hzz5, hr⟩ := ob hr
    obtain ⟨zx6, hzx6, hr⟩ := ob hr
    obtain ⟨fhzz5, hzz5⟩ := rcv_sp hzz5
    refine j_callV (ci := 2) (As := [.int (p1 + (1 : Int32))]) (rest := [.ref this]) (st1 := [.int zx6, .ref this]) (pc' := 100) C ⟨wm_845, wm_846⟩ rfl hzz5 (c_X2_startOf (nx := nx) hzx6) yw_X2_startOf wm_868 rfl rfl (Nat.le_of_ble_eq_true rfl) ⟨by decide, by decide⟩ dX2_putLast_97 rfl rfl ?_
    refine j_iload_n (q := 1) (pc' := 101) C dX2_putLast_100 rfl rfl rfl ?_
    refine j_iload_n (q := 2) (pc' := 102) C dX2_putLast_101 rfl rfl rfl ?_
    obtain ⟨zz7, hzz7, hr⟩ := ob hr
    obtain ⟨zq8, zt9, hzq8, hr, azt9, bzt9, czt9, dzt9⟩ := adcB_s hr
    refine j_k (kc' := zt9.2.2.1 + zq8.2.2.1) (ks' := zt9.2.2.2 + zq8.2.2.2) (by omega) (by omega) ?_
    obtain ⟨fhzz7, hzz7⟩ := rcv_sp hzz7
    refine j_callVA (ci := 2) (As := [.int zx6, .int p1, .int p2]) (rest := []) (st1 := []) (pc' := 105) C ⟨wm_871, wm_20⟩ rfl hzz7 (c_X2_insert hzq8) yw_X2_insert wm_869 rfl rfl (Nat.le_of_ble_eq_true rfl) ⟨by decide, by decide⟩ dX2_putLast_102 rfl rfl ?_
    obtain ⟨azf10, bzf11, czf12, dzf13⟩ := some4 hr
    refine j_k (kc' := 0) (ks' := 0) (by omega) (by omega) ?_
    rw [show nx + q.2.2.1 = (nx + zq8.2.2.1) by omega, (bzt9.trans bzf11)] at hq
    exact j_vret C hq hret dX2_putLast_105
  refine j_lv (lv' := [(0, .ref this), (1, .int p1), (2, .int p2), (3, .int (0 : Int32)), (4, .int (0 : Int32))]) [2, 3, 4, 1, 0] rfl ?_
  refine it_J (J := (fun (zs1 : (Int32 × Int32) × Ce) => Jd G q.2.2.1 q.2.2.2 nx zs1.2 5 [(0, .ref this), (1, .int p1), (2, .int p2), (3, .int zs1.1.1), (4, .int zs1.1.2)] [])) ?_ hzo2
  clear hzo2
  intro zs1 zr3 hr izs1 ezs1
  refine j_iload (q := 4) (pc' := 7) C dX2_putLast_5 rfl rfl ?_
  refine j_aload_n (q := 0) (pc' := 8) C dX2_putLast_7 rfl rfl rfl ?_
  obtain ⟨zx14, hzx14, hr⟩ := ob hr
  refine j_getI (pc' := 11) C dX2_putLast_8 fl_X2_20 hzx14 rfl ?_
  refine j_ic_ge (tgt := 87) (pc' := 14) C dX2_putLast_11 rfl rfl (fun hc => ?_) (fun hc => ?_)
  · have hr := ifT hc hr
    clear hc
    have hr := ezs1 _ (Option.some.inj hr).symm
    subst hr
    exact j_lv [0, 1, 2, 3] rfl kzo2
  · have hr := ifF hc hr
    clear hc
    refine j_aload_n (q := 0) (pc' := 15) C dX2_putLast_14 rfl rfl rfl ?_
    obtain ⟨zx15, hzx15, hr⟩ := ob hr
    refine j_getA (pc' := 18) C dX2_putLast_15 fl_X2_7 hzx15 rfl ?_
    refine j_iload (q := 4) (pc' := 20) C dX2_putLast_18 rfl rfl ?_
    obtain ⟨zx16, hzx16, hr⟩ := ob hr
    refine j_iald (pc' := 21) C dX2_putLast_20 hzx16 rfl ?_
    refine j_iload_n (q := 1) (pc' := 22) C dX2_putLast_21 rfl rfl rfl ?_
    obtain ⟨zj17, hzj17, rzj17⟩ := ob hr
    have kzj17 : ∀ vzj17, zj17 = Sum.inr vzj17 → Jd G q.2.2.1 q.2.2.2 nx zs1.2 39 [(0, .ref this), (1, .int p1), (2, .int p2), (3, .int zs1.1.1), (4, .int vzj17)] [] := by
      intro vzj17 ezj17
      rw [ezj17] at rzj17
      have hr := elR rzj17
      refine j_aload_n (q := 0) (pc' := 40) C dX2_putLast_39 rfl rfl rfl ?_
      obtain ⟨zx18, hzx18, hr⟩ := ob hr
      refine j_getA (pc' := 43) C dX2_putLast_40 fl_X2_7 hzx18 rfl ?_
      refine j_iload_n (q := 3) (pc' := 44) C dX2_putLast_43 rfl rfl rfl ?_
      refine j_aload_n (q := 0) (pc' := 45) C dX2_putLast_44 rfl rfl rfl ?_
      obtain ⟨zx19, hzx19, hr⟩ := ob hr
      refine j_getA (pc' := 48) C dX2_putLast_45 fl_X2_7 hzx19 rfl ?_
      refine j_iload (q := 4) (pc' := 50) C dX2_putLast_48 rfl rfl ?_
      obtain ⟨zx20, hzx20, hr⟩ := ob hr
      refine j_iald (pc' := 51) C dX2_putLast_50 hzx20 rfl ?_
      obtain ⟨zc21, hzc21, hr⟩ := ob hr
      refine j_iast (pc' := 52) C dX2_putLast_51 hzc21 rfl ?_
      refine j_aload_n (q := 0) (pc' := 53) C dX2_putLast_52 rfl rfl rfl ?_
      obtain ⟨zx22, hzx22, hr⟩ := ob hr
      refine j_getA (pc' := 56) C dX2_putLast_53 fl_X2_13 hzx22 rfl ?_
      refine j_iload_n (q := 3) (pc' := 57) C dX2_putLast_56 rfl rfl rfl ?_
      refine j_aload_n (q := 0) (pc' := 58) C dX2_putLast_57 rfl rfl rfl ?_
      obtain ⟨zx23, hzx23, hr⟩ := ob hr
      refine j_getA (pc' := 61) C dX2_putLast_58 fl_X2_13 hzx23 rfl ?_
      refine j_iload (q := 4) (pc' := 63) C dX2_putLast_61 rfl rfl ?_
      obtain ⟨zx24, hzx24, hr⟩ := ob hr
      refine j_iald (pc' := 64) C dX2_putLast_63 hzx24 rfl ?_
      obtain ⟨zc25, hzc25, hr⟩ := ob hr
      refine j_iast (pc' := 65) C dX2_putLast_64 hzc25 rfl ?_
      refine j_aload_n (q := 0) (pc' := 66) C dX2_putLast_65 rfl rfl rfl ?_
      obtain ⟨zx26, hzx26, hr⟩ := ob hr
      refine j_getA (pc' := 69) C dX2_putLast_66 fl_X2_16 hzx26 rfl ?_
      refine j_iload_n (q := 3) (pc' := 70) C dX2_putLast_69 rfl rfl rfl ?_
      refine j_aload_n (q := 0) (pc' := 71) C dX2_putLast_70 rfl rfl rfl ?_
      obtain ⟨zx27, hzx27, hr⟩ := ob hr
      refine j_getA (pc' := 74) C dX2_putLast_71 fl_X2_16 hzx27 rfl ?_
      refine j_iload (q := 4) (pc' := 76) C dX2_putLast_74 rfl rfl ?_
      obtain ⟨zx28, hzx28, hr⟩ := ob hr
      refine j_lald (pc' := 77) C dX2_putLast_76 hzx28 rfl ?_
      obtain ⟨zc29, hzc29, hr⟩ := ob hr
      refine j_last (pc' := 78) C dX2_putLast_77 hzc29 rfl ?_
      refine j_iinc (q := 3) (v := 1) (lv' := [(3, .int (zs1.1.1 + (1 : Int32))), (0, .ref this), (1, .int p1), (2, .int p2), (4, .int vzj17)]) (pc' := 81) C dX2_putLast_78 rfl kI_1 (by decide) rfl rfl ?_
      refine j_iinc (q := 4) (v := 1) (lv' := [(4, .int (vzj17 + (1 : Int32))), (3, .int (zs1.1.1 + (1 : Int32))), (0, .ref this), (1, .int p1), (2, .int p2)]) (pc' := 84) C dX2_putLast_81 rfl kI_1 (by decide) rfl rfl ?_
      refine j_goto (tgt := 5) C dX2_putLast_84 rfl ?_
      have hr := izs1 (((zs1.1.1 + (1 : Int32)), (vzj17 + (1 : Int32))), zc29) (Option.some.inj hr).symm
      exact j_lv [2, 3, 4, 1, 0] rfl hr
    have hr := hzj17
    clear hzj17
    refine j_ic_gt (tgt := 39) (pc' := 25) C dX2_putLast_22 rfl rfl (fun hc => ?_) (fun hc => ?_)
    · have hr := ifT hc hr
      clear hc
      have hr := Option.some.inj hr
      subst hr
      exact j_lv [0, 1, 2, 3, 4] rfl (kzj17 _ rfl)
    · have hr := ifF hc hr
      clear hc
      refine j_aload_n (q := 0) (pc' := 26) C dX2_putLast_25 rfl rfl rfl ?_
      obtain ⟨zx30, hzx30, hr⟩ := ob hr
      refine j_getA (pc' := 29) C dX2_putLast_26 fl_X2_13 hzx30 rfl ?_
      refine j_iload (q := 4) (pc' := 31) C dX2_putLast_29 rfl rfl ?_
      obtain ⟨zx31, hzx31, hr⟩ := ob hr
      refine j_iald (pc' := 32) C dX2_putLast_31 hzx31 rfl ?_
      refine j_iload_n (q := 2) (pc' := 33) C dX2_putLast_32 rfl rfl rfl ?_
      obtain ⟨zx32, hzx32, hr⟩ := ob hr
      refine j_callS (As := [.int zx31, .int p2]) (rest := []) (st1 := [.int zx32]) (pc' := 36) C wm_866 (c_X3_liesIn (nx := nx) (ce := zs1.2) hzx32) yw_X3_liesIn wm_865 rfl rfl (Nat.le_of_ble_eq_true rfl) ⟨by decide, by decide⟩ dX2_putLast_33 rfl rfl ?_
      refine j_if_ne (tgt := 81) (pc' := 39) C dX2_putLast_36 rfl rfl (fun hc => ?_) (fun hc => ?_)
      · have hr := ifF hc hr
        clear hc
        refine j_iinc (q := 4) (v := 1) (lv' := [(4, .int (zs1.1.2 + (1 : Int32))), (0, .ref this), (1, .int p1), (2, .int p2), (3, .int zs1.1.1)]) (pc' := 84) C dX2_putLast_81 rfl kI_1 (by decide) rfl rfl ?_
        refine j_goto (tgt := 5) C dX2_putLast_84 rfl ?_
        have hr := Option.some.inj hr
        subst hr
        have hr := elL rzj17
        have hr := izs1 ((zs1.1.1, (zs1.1.2 + (1 : Int32))), zs1.2) (Option.some.inj hr).symm
        exact j_lv [1, 2, 3, 4, 0] rfl hr
      · have hr := ifT hc hr
        clear hc
        have hr := Option.some.inj hr
        subst hr
        exact j_lv [0, 1, 2, 3, 4] rfl (kzj17 _ rfl)
def m_X2_change (ce : Ce) (this : Nat) (p1 : Int32) (p2 : Int32) : Option (Unit × Ce) :=
  if p1 < 0 then
    some ((), ce)
  else
    (gI ce 2 3 this).bind fun zx1 =>
    if zx1 ≤ p1 then
      some ((), ce)
    else
      (gA ce 2 1 this).bind fun zx2 =>
      (sI ce zx2 p1 p2).bind fun zc3 =>
      (gA zc3 2 2 this).bind fun zx4 =>
      (m_X3_statesOf zc3 p2).bind fun zx5 =>
      (sL zc3 zx4 p1 zx5).bind fun zc6 =>
      some ((), zc6)
set_option maxRecDepth 100000 in
set_option maxHeartbeats 4000000 in
theorem c_X2_change {nx : Nat} {ce : Ce} {this : Nat} {p1 : Int32} {p2 : Int32} {q : Unit × Ce} (hr : m_X2_change ce this p1 p2 = some q) : Ct yX2_change cX2_change 3 none 2 46 0 0 [.ref this, .int p1, .int p2] nx ce none q.2 := by
  unfold m_X2_change at hr
  refine ct_of (by decide) (Nat.le_of_ble_eq_true rfl) ?_
  intro G C hq hret hin
  show Jd G 0 0 nx ce 0 [(0, .ref this), (1, .int p1), (2, .int p2)] []
  refine j_iload_n (q := 1) (pc' := 1) C dX2_change_0 rfl rfl rfl ?_
  refine j_if_lt (tgt := 29) (pc' := 4) C dX2_change_1 rfl rfl (fun hc => ?_) (fun hc => ?_)
  · have hr := ifT hc hr
    clear hc
    have hr := Option.some.inj hr
    subst hr
    exact j_vret C hq hret dX2_change_29
  · have hr := ifF hc hr
    clear hc
    refine j_iload_n (q := 1) (pc' := 5) C dX2_change_4 rfl rfl rfl ?_
    refine j_aload_n (q := 0) (pc' := 6) C dX2_change_5 rfl rfl rfl ?_
    obtain ⟨zx1, hzx1, hr⟩ := ob hr
    refine j_getI (pc' := 9) C dX2_change_6 fl_X2_20 hzx1 rfl ?_
    refine j_ic_ge (tgt := 29) (pc' := 12) C dX2_change_9 rfl rfl (fun hc => ?_) (fun hc => ?_)
    · have hr := ifT hc hr
      clear hc
      have hr := Option.some.inj hr
      subst hr
      exact j_vret C hq hret dX2_change_29
    · have hr := ifF hc hr
      clear hc
      refine j_aload_n (q := 0) (pc' := 13) C dX2_change_12 rfl rfl rfl ?_
      obtain ⟨zx2, hzx2, hr⟩ := ob hr
      refine j_getA (pc' := 16) C dX2_change_13 fl_X2_13 hzx2 rfl ?_
      refine j_iload_n (q := 1) (pc' := 17) C dX2_change_16 rfl rfl rfl ?_
      refine j_iload_n (q := 2) (pc' := 18) C dX2_change_17 rfl rfl rfl ?_
      obtain ⟨zc3, hzc3, hr⟩ := ob hr
      refine j_iast (pc' := 19) C dX2_change_18 hzc3 rfl ?_
      refine j_aload_n (q := 0) (pc' := 20) C dX2_change_19 rfl rfl rfl ?_
      obtain ⟨zx4, hzx4, hr⟩ := ob hr
      refine j_getA (pc' := 23) C dX2_change_20 fl_X2_16 hzx4 rfl ?_
      refine j_iload_n (q := 1) (pc' := 24) C dX2_change_23 rfl rfl rfl ?_
      refine j_iload_n (q := 2) (pc' := 25) C dX2_change_24 rfl rfl rfl ?_
      obtain ⟨zx5, hzx5, hr⟩ := ob hr
      refine j_callS (As := [.int p2]) (rest := [.int p1, .ref zx4]) (st1 := [.long zx5, .int p1, .ref zx4]) (pc' := 28) C wm_830 (c_X3_statesOf (nx := nx) hzx5) yw_X3_statesOf wm_873 rfl rfl (Nat.le_of_ble_eq_true rfl) ⟨by decide, by decide⟩ dX2_change_25 rfl rfl ?_
      obtain ⟨zc6, hzc6, hr⟩ := ob hr
      refine j_last (pc' := 29) C dX2_change_28 hzc6 rfl ?_
      have hr := Option.some.inj hr
      subst hr
      exact j_vret C hq hret dX2_change_29
def m_X2_removeAt (ce : Ce) (this : Nat) (p1 : Int32) : Option (Unit × Ce) :=
  if p1 < 0 then
    some ((), ce)
  else
    (gI ce 2 3 this).bind fun zx1 =>
    if p1 < zx1 then
      (gI ce 2 3 this).bind fun zx2 =>
      (gA ce 2 0 this).bind fun zx3 =>
      (gA ce 2 0 this).bind fun zx4 =>
      (cpI ce zx3 (p1 + (1 : Int32)) zx4 p1 ((zx2 - p1) - (1 : Int32))).bind fun zc5 =>
      (gA zc5 2 1 this).bind fun zx6 =>
      (gA zc5 2 1 this).bind fun zx7 =>
      (cpI zc5 zx6 (p1 + (1 : Int32)) zx7 p1 ((zx2 - p1) - (1 : Int32))).bind fun zc8 =>
      (gA zc8 2 2 this).bind fun zx9 =>
      (gA zc8 2 2 this).bind fun zx10 =>
      (cpL zc8 zx9 (p1 + (1 : Int32)) zx10 p1 ((zx2 - p1) - (1 : Int32))).bind fun zc11 =>
      (gI zc11 2 3 this).bind fun zx12 =>
      (pV zc11 2 3 this (.int (zx12 - (1 : Int32)))).bind fun zc13 =>
      some ((), zc13)
    else
      some ((), ce)
set_option maxRecDepth 100000 in
set_option maxHeartbeats 4000000 in
theorem c_X2_removeAt {nx : Nat} {ce : Ce} {this : Nat} {p1 : Int32} {q : Unit × Ce} (hr : m_X2_removeAt ce this p1 = some q) : Ct yX2_removeAt cX2_removeAt 3 none 1 60 0 0 [.ref this, .int p1] nx ce none q.2 := by
  unfold m_X2_removeAt at hr
  refine ct_of (by decide) (Nat.le_of_ble_eq_true rfl) ?_
  intro G C hq hret hin
  show Jd G 0 0 nx ce 0 [(0, .ref this), (1, .int p1)] []
  refine j_iload_n (q := 1) (pc' := 1) C dX2_removeAt_0 rfl rfl rfl ?_
  refine j_if_lt (tgt := 12) (pc' := 4) C dX2_removeAt_1 rfl rfl (fun hc => ?_) (fun hc => ?_)
  · have hr := ifT hc hr
    clear hc
    have hr := Option.some.inj hr
    subst hr
    exact j_vret C hq hret dX2_removeAt_12
  · have hr := ifF hc hr
    clear hc
    refine j_iload_n (q := 1) (pc' := 5) C dX2_removeAt_4 rfl rfl rfl ?_
    refine j_aload_n (q := 0) (pc' := 6) C dX2_removeAt_5 rfl rfl rfl ?_
    obtain ⟨zx1, hzx1, hr⟩ := ob hr
    refine j_getI (pc' := 9) C dX2_removeAt_6 fl_X2_20 hzx1 rfl ?_
    refine j_ic_lt (tgt := 13) (pc' := 12) C dX2_removeAt_9 rfl rfl (fun hc => ?_) (fun hc => ?_)
    · have hr := ifT hc hr
      clear hc
      refine j_aload_n (q := 0) (pc' := 14) C dX2_removeAt_13 rfl rfl rfl ?_
      obtain ⟨zx2, hzx2, hr⟩ := ob hr
      refine j_getI (pc' := 17) C dX2_removeAt_14 fl_X2_20 hzx2 rfl ?_
      refine j_iload_n (q := 1) (pc' := 18) C dX2_removeAt_17 rfl rfl rfl ?_
      refine j_isub (pc' := 19) C dX2_removeAt_18 rfl ?_
      refine j_iconst (v := 1) (pc' := 20) C dX2_removeAt_19 kI_1 rfl ?_
      refine j_isub (pc' := 21) C dX2_removeAt_20 rfl ?_
      refine j_istore_n (lv' := [(2, .int ((zx2 - p1) - (1 : Int32))), (0, .ref this), (1, .int p1)]) (pc' := 22) C dX2_removeAt_21 rfl (by decide) rfl rfl ?_
      refine j_aload_n (q := 1) (pc' := 23) C dX2_removeAt_22 rfl rfl rfl ?_
      obtain ⟨zx3, hzx3, hr⟩ := ob hr
      refine j_getA (pc' := 26) C dX2_removeAt_23 fl_X2_7 hzx3 rfl ?_
      refine j_iload_n (q := 2) (pc' := 27) C dX2_removeAt_26 rfl rfl rfl ?_
      refine j_iconst (v := 1) (pc' := 28) C dX2_removeAt_27 kI_1 rfl ?_
      refine j_iadd (pc' := 29) C dX2_removeAt_28 rfl ?_
      refine j_aload_n (q := 1) (pc' := 30) C dX2_removeAt_29 rfl rfl rfl ?_
      obtain ⟨zx4, hzx4, hr⟩ := ob hr
      refine j_getA (pc' := 33) C dX2_removeAt_30 fl_X2_7 hzx4 rfl ?_
      refine j_iload_n (q := 2) (pc' := 34) C dX2_removeAt_33 rfl rfl rfl ?_
      refine j_iload_n (q := 0) (pc' := 35) C dX2_removeAt_34 rfl rfl rfl ?_
      obtain ⟨zc5, hzc5, hr⟩ := ob hr
      refine j_cpI (pc' := 38) C dX2_removeAt_35 wm_751 wm_708 wm_707 wm_143 ⟨by decide, by decide⟩ (Nat.le_of_ble_eq_true rfl) hzc5 rfl ?_
      refine j_aload_n (q := 1) (pc' := 39) C dX2_removeAt_38 rfl rfl rfl ?_
      obtain ⟨zx6, hzx6, hr⟩ := ob hr
      refine j_getA (pc' := 42) C dX2_removeAt_39 fl_X2_13 hzx6 rfl ?_
      refine j_iload_n (q := 2) (pc' := 43) C dX2_removeAt_42 rfl rfl rfl ?_
      refine j_iconst (v := 1) (pc' := 44) C dX2_removeAt_43 kI_1 rfl ?_
      refine j_iadd (pc' := 45) C dX2_removeAt_44 rfl ?_
      refine j_aload_n (q := 1) (pc' := 46) C dX2_removeAt_45 rfl rfl rfl ?_
      obtain ⟨zx7, hzx7, hr⟩ := ob hr
      refine j_getA (pc' := 49) C dX2_removeAt_46 fl_X2_13 hzx7 rfl ?_
      refine j_iload_n (q := 2) (pc' := 50) C dX2_removeAt_49 rfl rfl rfl ?_
      refine j_iload_n (q := 0) (pc' := 51) C dX2_removeAt_50 rfl rfl rfl ?_
      obtain ⟨zc8, hzc8, hr⟩ := ob hr
      refine j_cpI (pc' := 54) C dX2_removeAt_51 wm_751 wm_708 wm_707 wm_143 ⟨by decide, by decide⟩ (Nat.le_of_ble_eq_true rfl) hzc8 rfl ?_
      refine j_aload_n (q := 1) (pc' := 55) C dX2_removeAt_54 rfl rfl rfl ?_
      obtain ⟨zx9, hzx9, hr⟩ := ob hr
      refine j_getA (pc' := 58) C dX2_removeAt_55 fl_X2_16 hzx9 rfl ?_
      refine j_iload_n (q := 2) (pc' := 59) C dX2_removeAt_58 rfl rfl rfl ?_
      refine j_iconst (v := 1) (pc' := 60) C dX2_removeAt_59 kI_1 rfl ?_
      refine j_iadd (pc' := 61) C dX2_removeAt_60 rfl ?_
      refine j_aload_n (q := 1) (pc' := 62) C dX2_removeAt_61 rfl rfl rfl ?_
      obtain ⟨zx10, hzx10, hr⟩ := ob hr
      refine j_getA (pc' := 65) C dX2_removeAt_62 fl_X2_16 hzx10 rfl ?_
      refine j_iload_n (q := 2) (pc' := 66) C dX2_removeAt_65 rfl rfl rfl ?_
      refine j_iload_n (q := 0) (pc' := 67) C dX2_removeAt_66 rfl rfl rfl ?_
      obtain ⟨zc11, hzc11, hr⟩ := ob hr
      refine j_cpL (pc' := 70) C dX2_removeAt_67 wm_751 wm_708 wm_707 wm_143 ⟨by decide, by decide⟩ (Nat.le_of_ble_eq_true rfl) hzc11 rfl ?_
      refine j_aload_n (q := 1) (pc' := 71) C dX2_removeAt_70 rfl rfl rfl ?_
      refine j_dup (pc' := 72) C dX2_removeAt_71 rfl rfl ?_
      obtain ⟨zx12, hzx12, hr⟩ := ob hr
      refine j_getI (pc' := 75) C dX2_removeAt_72 fl_X2_20 hzx12 rfl ?_
      refine j_iconst (v := 1) (pc' := 76) C dX2_removeAt_75 kI_1 rfl ?_
      refine j_isub (pc' := 77) C dX2_removeAt_76 rfl ?_
      obtain ⟨zc13, hzc13, hr⟩ := ob hr
      refine j_put (pc' := 80) C dX2_removeAt_77 fw_X2_20 rfl rfl hzc13 rfl ?_
      have hr := Option.some.inj hr
      subst hr
      exact j_vret C hq hret dX2_removeAt_80
    · have hr := ifF hc hr
      clear hc
      have hr := Option.some.inj hr
      subst hr
      exact j_vret C hq hret dX2_removeAt_12
def m_X3_cubeOf (p0 : Int32) (p1 : Int32) : Option (Int32) :=
  some ((p0 * (64 : Int32)) + p1)
set_option maxRecDepth 100000 in
set_option maxHeartbeats 4000000 in
theorem c_X3_cubeOf {nx : Nat} {ce : Ce} {p0 : Int32} {p1 : Int32} {q : Int32} (hr : m_X3_cubeOf p0 p1 = some q) : Ct yX3_cubeOf cX3_cubeOf 2 (some .int) 0 0 0 0 [.int p0, .int p1] nx ce (some (.int q)) ce := by
  unfold m_X3_cubeOf at hr
  refine ct_of (by decide) (Nat.le_of_ble_eq_true rfl) ?_
  intro G C hq hret hin
  show Jd G 0 0 nx ce 0 [(0, .int p0), (1, .int p1)] []
  refine j_iload_n (q := 0) (pc' := 1) C dX3_cubeOf_0 rfl rfl rfl ?_
  refine j_bipush (v := 64) (pc' := 3) C dX3_cubeOf_1 kB_64 rfl ?_
  refine j_imul (pc' := 4) C dX3_cubeOf_3 rfl ?_
  refine j_iload_n (q := 1) (pc' := 5) C dX3_cubeOf_4 rfl rfl rfl ?_
  refine j_iadd (pc' := 6) C dX3_cubeOf_5 rfl ?_
  have hr := Option.some.inj hr
  subst hr
  exact j_iret C hq hret dX3_cubeOf_6
