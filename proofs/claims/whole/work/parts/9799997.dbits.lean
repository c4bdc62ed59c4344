/-! DOUBLE BITS: the class's own telling of them -/
def eK (j : Nat) : Int32 := (0 : Int32) - nI j
theorem eK_s : ∀ j, j < 1030 → eK j + (-1) = eK (j + 1) := by decide +kernel
theorem eK_le : ∀ j, j < 1030 → (eK j ≤ (-1022 : Int32) ↔ 1022 ≤ j) := by decide +kernel
theorem eK_sub : ∀ j, j < 1023 → eK j - (-1022 : Int32) = nI (1022 - j) := by decide +kernel
theorem e_upd : ∀ k, k < 1100 → nI k - (-1022 : Int32) = nI (k + 1022) := by decide +kernel
theorem u64_of {n : Nat} (h : n < 9218868437227405312) : (UInt64.ofNat n).toNat = n ∧ Dp (UInt64.ofNat n) := by
  have : (UInt64.ofNat n).toNat = n := by
    rw [UInt64.toNat_ofNat']
    exact Nat.mod_eq_of_lt (by omega)
  exact ⟨this, by unfold Dp; omega⟩
/-- halving, as long as it is two or more -/
theorem od_down {x : UInt64} (hx : Dp x) : ∃ y k, it (fun (zs1 : UInt64 × Int32 × Int32) =>
    if (1100 : Int32) ≤ zs1.2.2 then
      some (Sum.inr (zs1.1, zs1.2.1))
    else
      if (Op.cmpValue (FP.dcmp zs1.1 (4611686018427387904 : UInt64)) .l) < 0 then
        some (Sum.inr (zs1.1, zs1.2.1))
      else
        (dq (FP.ddiv zs1.1 (4611686018427387904 : UInt64))).bind fun zx9 =>
        some (Sum.inl (zx9, (zs1.2.1 + (1 : Int32)), (zs1.2.2 + (1 : Int32))))
  ) FU (x, (0 : Int32), (0 : Int32)) = some (y, nI k) ∧ Dp y ∧ k < 1100 ∧ x.toNat = y.toNat + k * 4503599627370496 ∧ (k = 0 ∨ 4607182418800017408 ≤ y.toNat) ∧ y.toNat < 4611686018427387904 := by
  have hx0 := hx
  unfold Dp at hx0
  generalize hN : (if x.toNat < 4611686018427387904 then 0 else x.toNat / 4503599627370496 - 1023) = N
  have hN2 : N < 1030 := by
    rw [← hN]
    split <;> omega
  have key : Ok (it (fun (zs1 : UInt64 × Int32 × Int32) =>
    if (1100 : Int32) ≤ zs1.2.2 then
      some (Sum.inr (zs1.1, zs1.2.1))
    else
      if (Op.cmpValue (FP.dcmp zs1.1 (4611686018427387904 : UInt64)) .l) < 0 then
        some (Sum.inr (zs1.1, zs1.2.1))
      else
        (dq (FP.ddiv zs1.1 (4611686018427387904 : UInt64))).bind fun zx9 =>
        some (Sum.inl (zx9, (zs1.2.1 + (1 : Int32)), (zs1.2.2 + (1 : Int32))))
  ) FU (x, (0 : Int32), (0 : Int32))) (fun o => o.2 = nI N ∧ Dp o.1 ∧ x.toNat = o.1.toNat + N * 4503599627370496 ∧ (N = 0 ∨ 4607182418800017408 ≤ o.1.toNat) ∧ o.1.toNat < 4611686018427387904) := by
    refine ok_cnt 0 N (fun j s => s.2 = (nI j, nI j) ∧ Dp s.1 ∧ x.toNat = s.1.toNat + j * 4503599627370496) (by omega) (by omega) ⟨rfl, hx, by show x.toNat = x.toNat + 0 * 4503599627370496; omega⟩ ?_ ?_
    · rintro j ⟨y, s⟩ hj ⟨hs, hy, he⟩
      have hs : s = (nI j, nI j) := hs
      have hy : Dp y := hy
      have he : x.toNat = y.toNat + j * 4503599627370496 := he
      subst hs
      have hge : 4611686018427387904 ≤ y.toNat := by
        rw [← hN] at hj
        split at hj <;> omega
      have hy0 := hy
      unfold Dp at hy0
      obtain ⟨u1, u2⟩ := u64_of (n := y.toNat - 4503599627370496) (by omega)
      have hd : FP.ddiv y (4611686018427387904 : UInt64) = UInt64.ofNat (y.toNat - 4503599627370496) := by
        refine ddiv_ex hy u2 ?_
        rw [u1]
        have := Zd_dbl (y.toNat - 4503599627370496)
        unfold dbld at this
        rw [if_neg (by omega), show y.toNat - 4503599627370496 + 4503599627370496 = y.toNat by omega] at this
        exact this
      have hc : ¬ Op.cmpValue (FP.dcmp y (4611686018427387904 : UInt64)) .l < 0 := fun z => by
        have := (dp_lt hy dp_two).1.mp z
        have h2 : (4611686018427387904 : UInt64).toNat = 4611686018427387904 := rfl
        omega
      have h200 : ¬ (1100 : Int32) ≤ nI j := fun z => by
        have := (nI_leI (a := 1100) (by omega) (by omega)).mp z
        omega
      show Ok (if (1100 : Int32) ≤ nI j then _ else if Op.cmpValue (FP.dcmp y (4611686018427387904 : UInt64)) .l < 0 then _ else _) _
      rw [if_neg h200, if_neg hc]
      show Ok ((dq (FP.ddiv y (4611686018427387904 : UInt64))).bind _) _
      rw [hd, dq_dp u2, bind_s]
      refine ok_some ⟨by show (nI j + 1, nI j + 1) = _; rw [nI_1], u2, ?_⟩
      show x.toNat = (UInt64.ofNat (y.toNat - 4503599627370496)).toNat + (j + 1) * 4503599627370496
      rw [u1]
      omega
    · rintro ⟨y, s⟩ ⟨hs, hy, he⟩
      have hs : s = (nI N, nI N) := hs
      have hy : Dp y := hy
      have he : x.toNat = y.toNat + N * 4503599627370496 := he
      subst hs
      have h200 : ¬ (1100 : Int32) ≤ nI N := fun z => by
        have := (nI_leI (a := 1100) (by omega) (by omega)).mp z
        omega
      have hlt : y.toNat < 4611686018427387904 ∧ (N = 0 ∨ 4607182418800017408 ≤ y.toNat) := by
        by_cases h2 : x.toNat < 4611686018427387904
        · rw [if_pos h2] at hN
          exact ⟨by omega, Or.inl hN.symm⟩
        · rw [if_neg h2] at hN
          exact ⟨by omega, Or.inr (by omega)⟩
      have hc : Op.cmpValue (FP.dcmp y (4611686018427387904 : UInt64)) .l < 0 := (dp_lt hy dp_two).1.mpr hlt.1
      show Ok (if (1100 : Int32) ≤ nI N then _ else if Op.cmpValue (FP.dcmp y (4611686018427387904 : UInt64)) .l < 0 then _ else _) _
      rw [if_neg h200, if_pos hc]
      exact ok_some ⟨rfl, hy, he, hlt.2, hlt.1⟩
  obtain ⟨⟨y, v⟩, h1, h2, h3, h4, h5, h6⟩ := key
  have h2 : v = nI N := h2
  subst h2
  exact ⟨y, N, h1, h3, by omega, h4, h5, h6⟩
/-- how often it is doubled -/
def upD (n : Nat) : Nat := if 4607182418800017408 ≤ n then 0 else if n < 4503599627370496 then 1022 else 1023 - n / 4503599627370496
theorem upD_lt {n j : Nat} (hj : j < upD n) : Zd n * 2 ^ j < 2 ^ 1074 ∧ j < 1022 := by
  unfold upD at hj
  by_cases h1 : 4607182418800017408 ≤ n
  · rw [if_pos h1] at hj
    omega
  · rw [if_neg h1] at hj
    by_cases h2 : n < 4503599627370496
    · rw [if_pos h2] at hj
      refine ⟨?_, hj⟩
      rw [Zd_lo h2]
      have : n * 2 ^ j < 2 ^ 52 * 2 ^ 1022 := Nat.mul_lt_mul_of_lt_of_le (by omega) (Nat.pow_le_pow_right (by omega) (by omega)) (Nat.two_pow_pos _)
      rw [← Nat.pow_add] at this
      exact this
    · rw [if_neg h2] at hj
      have : 1 ≤ n / 4503599627370496 := by omega
      refine ⟨?_, by omega⟩
      rw [Zd_hi (by omega), Nat.mul_assoc, ← Nat.pow_add]
      have : (4503599627370496 + n % 4503599627370496) * 2 ^ (n / 4503599627370496 - 1 + j) < 2 ^ 53 * 2 ^ 1021 := Nat.mul_lt_mul_of_lt_of_le (by omega) (Nat.pow_le_pow_right (by omega) (by omega)) (Nat.two_pow_pos _)
      rw [← Nat.pow_add] at this
      exact this
theorem Zd_one : Zd 4607182418800017408 = 2 ^ 1074 := by decide +kernel
theorem od_up {x : UInt64} (hx : Dp x) {k : Nat} (hk : k < 1100) (hk2 : k = 0 ∨ 4607182418800017408 ≤ x.toNat) : ∃ y, it (fun (zs4 : UInt64 × Int32 × Int32) =>
    if (1100 : Int32) ≤ zs4.2.2 then
      some (Sum.inr (zs4.1, zs4.2.1))
    else
      if 0 ≤ (Op.cmpValue (FP.dcmp zs4.1 FP.dconst1) .g) then
        some (Sum.inr (zs4.1, zs4.2.1))
      else
        if zs4.2.1 ≤ (-1022 : Int32) then
          some (Sum.inr (zs4.1, zs4.2.1))
        else
          (dq (FP.dmul zs4.1 (4611686018427387904 : UInt64))).bind fun zx8 =>
          some (Sum.inl (zx8, (zs4.2.1 + (-1 : Int32)), (zs4.2.2 + (1 : Int32))))
  ) FU (x, nI k, (0 : Int32)) = some (y, nI k - nI (upD x.toNat)) ∧ Dp y ∧ Zd y.toNat = Zd x.toNat * 2 ^ upD x.toNat := by
  have hu126 : upD x.toNat ≤ 1022 := by
    unfold upD
    split
    · omega
    · split
      · omega
      · omega
  have key : Ok (it (fun (zs4 : UInt64 × Int32 × Int32) =>
    if (1100 : Int32) ≤ zs4.2.2 then
      some (Sum.inr (zs4.1, zs4.2.1))
    else
      if 0 ≤ (Op.cmpValue (FP.dcmp zs4.1 FP.dconst1) .g) then
        some (Sum.inr (zs4.1, zs4.2.1))
      else
        if zs4.2.1 ≤ (-1022 : Int32) then
          some (Sum.inr (zs4.1, zs4.2.1))
        else
          (dq (FP.dmul zs4.1 (4611686018427387904 : UInt64))).bind fun zx8 =>
          some (Sum.inl (zx8, (zs4.2.1 + (-1 : Int32)), (zs4.2.2 + (1 : Int32))))
  ) FU (x, nI k, (0 : Int32))) (fun o => o.2 = nI k - nI (upD x.toNat) ∧ Dp o.1 ∧ Zd o.1.toNat = Zd x.toNat * 2 ^ upD x.toNat) := by
    refine ok_cnt 0 (upD x.toNat) (fun j s => s.2 = (nI k - nI j, nI j) ∧ Dp s.1 ∧ Zd s.1.toNat = Zd x.toNat * 2 ^ j) (by omega) (by omega) ⟨by show (nI k, (0 : Int32)) = (nI k - 0, 0); rw [Int32.sub_zero], hx, by show Zd x.toNat = Zd x.toNat * 2 ^ 0; rw [Nat.pow_zero, Nat.mul_one]⟩ ?_ ?_
    · rintro j ⟨y, s⟩ hj ⟨hs, hy, he⟩
      have hs : s = (nI k - nI j, nI j) := hs
      have hy : Dp y := hy
      have he : Zd y.toNat = Zd x.toNat * 2 ^ j := he
      subst hs
      obtain ⟨l1, l2⟩ := upD_lt hj
      have hk0 : k = 0 := by
        rcases hk2 with h | h
        · exact h
        · exfalso
          unfold upD at hj
          rw [if_pos h] at hj
          omega
      subst hk0
      have hy1 : y.toNat < 4607182418800017408 := by
        refine (FP.Core.unitsOf_lt_iff (f := FP.Core.b64)).mp ?_
        show Zd y.toNat < Zd 4607182418800017408
        rw [he, Zd_one]
        exact l1
      have hdb : dbld y.toNat < 9218868437227405312 := by
        unfold dbld
        split <;> omega
      obtain ⟨u1, u2⟩ := u64_of hdb
      have hm : FP.dmul y (4611686018427387904 : UInt64) = UInt64.ofNat (dbld y.toNat) := by
        refine dmul_ex hy dp_two u2 ?_
        rw [u1, Zd_dbl, show Zd (4611686018427387904 : UInt64).toNat = 2 ^ 1075 from by decide +kernel, show (2 : Nat) ^ 1075 = 2 * 2 ^ 1074 from by decide +kernel]
        rw [← Nat.mul_assoc, Nat.mul_comm (Zd y.toNat) 2]
      have hc : ¬ 0 ≤ Op.cmpValue (FP.dcmp y FP.dconst1) .g := fun z => by
        have h2 : 4607182418800017408 ≤ y.toNat := (dp_lt hy dp_one).2.mp z
        omega
      have h200 : ¬ (1100 : Int32) ≤ nI j := fun z => by
        have := (nI_leI (a := 1100) (by omega) (by omega)).mp z
        omega
      have he126 : ¬ eK j ≤ (-1022 : Int32) := fun z => by
        have := (eK_le j (by omega)).mp z
        omega
      show Ok (if (1100 : Int32) ≤ nI j then _ else if 0 ≤ Op.cmpValue (FP.dcmp y FP.dconst1) .g then _ else if eK j ≤ (-1022 : Int32) then _ else _) _
      rw [if_neg h200, if_neg hc, if_neg he126]
      show Ok ((dq (FP.dmul y (4611686018427387904 : UInt64))).bind _) _
      rw [hm, dq_dp u2, bind_s]
      refine ok_some ⟨?_, u2, ?_⟩
      · show (eK j + (-1), nI j + 1) = (eK (j + 1), nI (j + 1))
        rw [eK_s j (by omega), nI_1]
      · show Zd (UInt64.ofNat (dbld y.toNat)).toNat = Zd x.toNat * 2 ^ (j + 1)
        rw [u1, Zd_dbl, he, Nat.pow_succ]
        ac_rfl
    · rintro ⟨y, s⟩ ⟨hs, hy, he⟩
      have hs : s = (nI k - nI (upD x.toNat), nI (upD x.toNat)) := hs
      have hy : Dp y := hy
      have he : Zd y.toNat = Zd x.toNat * 2 ^ upD x.toNat := he
      subst hs
      have h200 : ¬ (1100 : Int32) ≤ nI (upD x.toNat) := fun z => by
        have := (nI_leI (a := 1100) (by omega) (by omega)).mp z
        omega
      show Ok (if (1100 : Int32) ≤ nI (upD x.toNat) then _ else if 0 ≤ Op.cmpValue (FP.dcmp y FP.dconst1) .g then _ else if nI k - nI (upD x.toNat) ≤ (-1022 : Int32) then _ else _) _
      rw [if_neg h200]
      by_cases hc : 0 ≤ Op.cmpValue (FP.dcmp y FP.dconst1) .g
      · rw [if_pos hc]
        exact ok_some ⟨rfl, hy, he⟩
      · rw [if_neg hc]
        have hlt : y.toNat < 4607182418800017408 := by
          refine Nat.lt_of_not_le fun z => hc ?_
          exact (dp_lt hy dp_one).2.mpr z
        have hz : Zd y.toNat < 2 ^ 1074 := by
          rw [← Zd_one]
          exact FP.Core.unitsOf_lt hlt
        have hsub : x.toNat < 4503599627370496 := by
          refine Nat.lt_of_not_le fun h8 => ?_
          rw [he] at hz
          by_cases h1 : 4607182418800017408 ≤ x.toNat
          · have h3 : Zd 4607182418800017408 ≤ Zd x.toNat := FP.Core.unitsOf_le_iff.mpr h1
            rw [Zd_one] at h3
            have : upD x.toNat = 0 := by
              unfold upD
              rw [if_pos h1]
            rw [this, Nat.pow_zero, Nat.mul_one] at hz
            omega
          · have h3 : upD x.toNat = 1023 - x.toNat / 4503599627370496 := by
              unfold upD
              rw [if_neg h1, if_neg (by omega)]
            rw [h3, Zd_hi h8, Nat.mul_assoc, ← Nat.pow_add, show x.toNat / 4503599627370496 - 1 + (1023 - x.toNat / 4503599627370496) = 1022 by omega] at hz
            have h4 : 2 ^ 52 * 2 ^ 1022 ≤ (4503599627370496 + x.toNat % 4503599627370496) * 2 ^ 1022 := Nat.mul_le_mul_right _ (by omega)
            rw [← Nat.pow_add] at h4
            exact absurd (Nat.lt_of_le_of_lt h4 hz) (Nat.lt_irrefl _)
        have hk0 : k = 0 := by omega
        have h126 : upD x.toNat = 1022 := by
          unfold upD
          rw [if_neg (by omega), if_pos hsub]
        have hle : nI k - nI (upD x.toNat) ≤ (-1022 : Int32) := by
          rw [hk0, h126]
          decide
        rw [if_pos hle]
        exact ok_some ⟨rfl, hy, he⟩
  obtain ⟨⟨y, v⟩, h1, h2, h3, h4⟩ := key
  have h2 : v = nI k - nI (upD x.toNat) := h2
  subst h2
  exact ⟨y, h1, h3, h4⟩
theorem nL_mul (a b : Nat) : nL a * nL b = nL (a * b) := (Int64.ofNat_mul a b).symm
theorem nL_add (a b : Nat) : nL a + nL b = nL (a + b) := (Int64.ofNat_add a b).symm
theorem nI_long (k : Nat) (hk : k < 2 ^ 31) : Int32.toInt64 (nI k) = nL k := by
  refine Int64.toInt_inj.mp ?_
  rw [Int32.toInt_toInt64, nI_toInt hk, nL_toInt (by omega)]
theorem of_double {x : UInt64} (hx : Dp x) : m_X4_ofDouble x = some (nL x.toNat) := by
  obtain ⟨y, k, e1, hy, hk, hxy, hk2, hy2⟩ := od_down hx
  have hk3 : k = 0 ∨ 4607182418800017408 ≤ y.toNat := hk2
  obtain ⟨z, e2, hz, ez⟩ := od_up hy hk hk3
  unfold m_X4_ofDouble
  rw [e1, bind_s]
  show ((it _ FU (y, nI k, (0 : Int32))).bind _) = _
  rw [e2, bind_s]
  have hx0 := hx
  unfold Dp at hx0
  have fp8 : Dp (4841369599423283200 : UInt64) := by unfold Dp; decide
  have z8 : Zd (4841369599423283200 : UInt64).toNat = 2 ^ 52 * 2 ^ 1074 := by decide +kernel
  by_cases hsub : y.toNat < 4503599627370496
  · -- a small one
    have hu : upD y.toNat = 1022 := by
      unfold upD
      rw [if_neg (by omega), if_pos hsub]
    have hk0 : k = 0 := by omega
    rw [hu, Zd_lo hsub] at ez
    -- what 52 more doublings make
    have hex : ∀ j, j ≤ 52 → ∃ t : UInt64, Dp t ∧ Zd t.toNat = y.toNat * 2 ^ (1022 + j) := by
      intro j
      induction j with
      | zero => intro _; exact ⟨z, hz, ez⟩
      | succ j ih =>
        intro hj
        obtain ⟨t, t1, t2⟩ := ih (by omega)
        have hb : t.toNat < 4841369599423283200 := by
          refine (FP.Core.unitsOf_lt_iff (f := FP.Core.b64)).mp ?_
          show Zd t.toNat < Zd 4841369599423283200
          rw [t2, show Zd 4841369599423283200 = 2 ^ 52 * 2 ^ 1074 from by decide +kernel]
          exact Nat.mul_lt_mul_of_lt_of_le (by omega) (Nat.pow_le_pow_right (by omega) (by omega)) (Nat.two_pow_pos _)
        have hd : dbld t.toNat < 9218868437227405312 := by
          unfold dbld
          split <;> omega
        obtain ⟨u1, u2⟩ := u64_of hd
        refine ⟨_, u2, ?_⟩
        rw [u1, Zd_dbl, t2, show 1022 + (j + 1) = (1022 + j) + 1 by omega, Nat.pow_succ, Nat.mul_comm 2, Nat.mul_assoc]
    obtain ⟨t, t1, t2⟩ := hex 52 (Nat.le_refl _)
    have hm : FP.dmul z (4841369599423283200 : UInt64) = t := by
      refine dmul_ex hz fp8 t1 ?_
      rw [ez, z8, t2, show 1022 + 52 = 1074 from rfl]
      rw [Nat.mul_assoc, ← Nat.mul_assoc (2 ^ 1022), ← Nat.pow_add, Nat.mul_assoc]
    have hf : FP.d2l t = nL y.toNat := d2l_ex t1 (by omega) t2
    show ((dq (FP.dmul z (4841369599423283200 : UInt64))).bind _) = _
    rw [hm, dq_dp t1, bind_s, hf]
    have hn : ¬ 0 ≤ lg_cmp (nL y.toNat) (4503599627370496 : Int64) := fun w => by
      have := (nL_ge (c := 4503599627370496) (by omega) (by omega)).mp w
      omega
    rw [if_neg hn]
    rw [show x.toNat = y.toNat by omega]
  · -- one with a leading digit
    have hnorm : Zd z.toNat = (4503599627370496 + y.toNat % 4503599627370496) * 2 ^ 1022 ∧ upD y.toNat = 1023 - y.toNat / 4503599627370496 := by
      have hu : upD y.toNat = 1023 - y.toNat / 4503599627370496 := by
        unfold upD
        by_cases h1 : 4607182418800017408 ≤ y.toNat
        · rw [if_pos h1]
          omega
        · rw [if_neg h1, if_neg hsub]
      refine ⟨?_, hu⟩
      rw [ez, hu, Zd_hi (by omega), Nat.mul_assoc, ← Nat.pow_add, show y.toNat / 4503599627370496 - 1 + (1023 - y.toNat / 4503599627370496) = 1022 by omega]
    obtain ⟨u1, u2⟩ := u64_of (n := 1075 * 4503599627370496 + y.toNat % 4503599627370496) (by omega)
    have zt : Zd (1075 * 4503599627370496 + y.toNat % 4503599627370496) = (4503599627370496 + y.toNat % 4503599627370496) * 2 ^ 1074 := by
      rw [Zd_hi (by omega), show (1075 * 4503599627370496 + y.toNat % 4503599627370496) % 4503599627370496 = y.toNat % 4503599627370496 by omega, show (1075 * 4503599627370496 + y.toNat % 4503599627370496) / 4503599627370496 - 1 = 1074 by omega]
    have hm : FP.dmul z (4841369599423283200 : UInt64) = UInt64.ofNat (1075 * 4503599627370496 + y.toNat % 4503599627370496) := by
      refine dmul_ex hz fp8 u2 ?_
      rw [u1, zt, hnorm.1, z8, Nat.mul_assoc, ← Nat.mul_assoc (2 ^ 1022), ← Nat.pow_add, Nat.mul_assoc]
    have hf : FP.d2l (UInt64.ofNat (1075 * 4503599627370496 + y.toNat % 4503599627370496)) = nL (4503599627370496 + y.toNat % 4503599627370496) := d2l_ex u2 (by omega) (by rw [u1, zt])
    show ((dq (FP.dmul z (4841369599423283200 : UInt64))).bind _) = _
    rw [hm, dq_dp u2, bind_s, hf]
    have hn : 0 ≤ lg_cmp (nL (4503599627370496 + y.toNat % 4503599627370496)) (4503599627370496 : Int64) := (nL_ge (c := 4503599627370496) (by omega) (by omega)).mpr (by omega)
    rw [if_pos hn]
    have hE : nI k - nI (upD y.toNat) - (-1022 : Int32) = nI (k + 1022 - upD y.toNat) := by
      rcases hk3 with h | h
      · rw [h, hnorm.2]
        have := eK_sub (1023 - y.toNat / 4503599627370496) (by omega)
        rw [Nat.zero_add]
        exact this
      · have h0 : upD y.toNat = 0 := by
          unfold upD
          rw [if_pos h]
        rw [h0, Nat.sub_zero, show nI 0 = 0 from rfl, Int32.sub_zero]
        exact e_upd k hk
    have hk5 : k + 1022 - upD y.toNat = k + y.toNat / 4503599627370496 - 1 := by
      rw [hnorm.2]
      omega
    have hk6 : k + y.toNat / 4503599627370496 - 1 < 2500 := by omega
    show some ((Int32.toInt64 (nI k - nI (upD y.toNat) - (-1022 : Int32))) * (4503599627370496 : Int64) + nL (4503599627370496 + y.toNat % 4503599627370496)) = _
    rw [hE, hk5, nI_long _ (by omega), show (4503599627370496 : Int64) = nL 4503599627370496 from rfl, nL_mul, nL_add]
    refine congrArg (fun n => some (nL n)) ?_
    omega
