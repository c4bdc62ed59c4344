/-! FLOAT BITS: the class's own telling of them -/
def eJ (j : Nat) : Int32 := (0 : Int32) - nI j
theorem eJ_s : ∀ j, j < 130 → eJ j + (-1) = eJ (j + 1) := by decide +kernel
theorem eJ_le : ∀ j, j < 130 → (eJ j ≤ (-126 : Int32) ↔ 126 ≤ j) := by decide +kernel
theorem eJ_sub : ∀ j, j < 127 → eJ j - (-126 : Int32) = nI (126 - j) := by decide +kernel
theorem e_up : ∀ k, k < 200 → nI k - (-126 : Int32) = nI (k + 126) := by decide +kernel
theorem u32_of {n : Nat} (h : n < 2139095040) : (UInt32.ofNat n).toNat = n ∧ Fp (UInt32.ofNat n) := by
  have : (UInt32.ofNat n).toNat = n := by
    rw [UInt32.toNat_ofNat']
    exact Nat.mod_eq_of_lt (by omega)
  exact ⟨this, by unfold Fp; omega⟩
/-- halving, as long as it is two or more -/
theorem of_down {x : UInt32} (hx : Fp x) : ∃ y k, it (fun (zs1 : UInt32 × Int32 × Int32) =>
    if (200 : Int32) ≤ zs1.2.2 then
      some (Sum.inr (zs1.1, zs1.2.1))
    else
      if (Op.cmpValue (FP.fcmp zs1.1 FP.fconst2) .l) < 0 then
        some (Sum.inr (zs1.1, zs1.2.1))
      else
        (fq (FP.fdiv zs1.1 FP.fconst2)).bind fun zx9 =>
        some (Sum.inl (zx9, (zs1.2.1 + (1 : Int32)), (zs1.2.2 + (1 : Int32))))
  ) FU (x, (0 : Int32), (0 : Int32)) = some (y, nI k) ∧ Fp y ∧ k < 200 ∧ x.toNat = y.toNat + k * 8388608 ∧ (k = 0 ∨ 1065353216 ≤ y.toNat) ∧ y.toNat < 1073741824 := by
  have hx0 := hx
  unfold Fp at hx0
  generalize hN : (if x.toNat < 1073741824 then 0 else x.toNat / 8388608 - 127) = N
  have hN2 : N < 130 := by
    rw [← hN]
    split <;> omega
  have key : Ok (it (fun (zs1 : UInt32 × Int32 × Int32) =>
    if (200 : Int32) ≤ zs1.2.2 then
      some (Sum.inr (zs1.1, zs1.2.1))
    else
      if (Op.cmpValue (FP.fcmp zs1.1 FP.fconst2) .l) < 0 then
        some (Sum.inr (zs1.1, zs1.2.1))
      else
        (fq (FP.fdiv zs1.1 FP.fconst2)).bind fun zx9 =>
        some (Sum.inl (zx9, (zs1.2.1 + (1 : Int32)), (zs1.2.2 + (1 : Int32))))
  ) FU (x, (0 : Int32), (0 : Int32))) (fun o => o.2 = nI N ∧ Fp o.1 ∧ x.toNat = o.1.toNat + N * 8388608 ∧ (N = 0 ∨ 1065353216 ≤ o.1.toNat) ∧ o.1.toNat < 1073741824) := by
    refine ok_cnt 0 N (fun j s => s.2 = (nI j, nI j) ∧ Fp s.1 ∧ x.toNat = s.1.toNat + j * 8388608) (by omega) (by omega) ⟨rfl, hx, by show x.toNat = x.toNat + 0 * 8388608; omega⟩ ?_ ?_
    · rintro j ⟨y, s⟩ hj ⟨hs, hy, he⟩
      have hs : s = (nI j, nI j) := hs
      have hy : Fp y := hy
      have he : x.toNat = y.toNat + j * 8388608 := he
      subst hs
      have hge : 1073741824 ≤ y.toNat := by
        rw [← hN] at hj
        split at hj <;> omega
      have hy0 := hy
      unfold Fp at hy0
      obtain ⟨u1, u2⟩ := u32_of (n := y.toNat - 8388608) (by omega)
      have hd : FP.fdiv y FP.fconst2 = UInt32.ofNat (y.toNat - 8388608) := by
        refine fdiv_ex hy u2 ?_
        rw [u1]
        have := Zf_dbl (y.toNat - 8388608)
        unfold dblf at this
        rw [if_neg (by omega), show y.toNat - 8388608 + 8388608 = y.toNat by omega] at this
        exact this
      have hc : ¬ Op.cmpValue (FP.fcmp y FP.fconst2) .l < 0 := fun z => by
        have := (fp_lt hy fp_two).1.mp z
        have h2 : FP.fconst2.toNat = 1073741824 := rfl
        omega
      have h200 : ¬ (200 : Int32) ≤ nI j := fun z => by
        have := (nI_leI (a := 200) (by omega) (by omega)).mp z
        omega
      show Ok (if (200 : Int32) ≤ nI j then _ else if Op.cmpValue (FP.fcmp y FP.fconst2) .l < 0 then _ else _) _
      rw [if_neg h200, if_neg hc]
      show Ok ((fq (FP.fdiv y FP.fconst2)).bind _) _
      rw [hd, fq_fp u2, bind_s]
      refine ok_some ⟨by show (nI j + 1, nI j + 1) = _; rw [nI_1], u2, ?_⟩
      show x.toNat = (UInt32.ofNat (y.toNat - 8388608)).toNat + (j + 1) * 8388608
      rw [u1]
      omega
    · rintro ⟨y, s⟩ ⟨hs, hy, he⟩
      have hs : s = (nI N, nI N) := hs
      have hy : Fp y := hy
      have he : x.toNat = y.toNat + N * 8388608 := he
      subst hs
      have h200 : ¬ (200 : Int32) ≤ nI N := fun z => by
        have := (nI_leI (a := 200) (by omega) (by omega)).mp z
        omega
      have hlt : y.toNat < 1073741824 ∧ (N = 0 ∨ 1065353216 ≤ y.toNat) := by
        by_cases h2 : x.toNat < 1073741824
        · rw [if_pos h2] at hN
          exact ⟨by omega, Or.inl hN.symm⟩
        · rw [if_neg h2] at hN
          exact ⟨by omega, Or.inr (by omega)⟩
      have hc : Op.cmpValue (FP.fcmp y FP.fconst2) .l < 0 := (fp_lt hy fp_two).1.mpr hlt.1
      show Ok (if (200 : Int32) ≤ nI N then _ else if Op.cmpValue (FP.fcmp y FP.fconst2) .l < 0 then _ else _) _
      rw [if_neg h200, if_pos hc]
      exact ok_some ⟨rfl, hy, he, hlt.2, hlt.1⟩
  obtain ⟨⟨y, v⟩, h1, h2, h3, h4, h5, h6⟩ := key
  have h2 : v = nI N := h2
  subst h2
  exact ⟨y, N, h1, h3, by omega, h4, h5, h6⟩
/-- how often it is doubled -/
def upN (n : Nat) : Nat := if 1065353216 ≤ n then 0 else if n < 8388608 then 126 else 127 - n / 8388608
theorem upN_lt {n j : Nat} (hj : j < upN n) : Zf n * 2 ^ j < 2 ^ 149 ∧ j < 126 := by
  unfold upN at hj
  by_cases h1 : 1065353216 ≤ n
  · rw [if_pos h1] at hj
    omega
  · rw [if_neg h1] at hj
    by_cases h2 : n < 8388608
    · rw [if_pos h2] at hj
      refine ⟨?_, hj⟩
      rw [Zf_lo h2]
      have : n * 2 ^ j < 2 ^ 23 * 2 ^ 126 := Nat.mul_lt_mul_of_lt_of_le (by omega) (Nat.pow_le_pow_right (by omega) (by omega)) (Nat.two_pow_pos _)
      rw [← Nat.pow_add] at this
      exact this
    · rw [if_neg h2] at hj
      have : 1 ≤ n / 8388608 := by omega
      refine ⟨?_, by omega⟩
      rw [Zf_hi (by omega), Nat.mul_assoc, ← Nat.pow_add]
      have : (8388608 + n % 8388608) * 2 ^ (n / 8388608 - 1 + j) < 2 ^ 24 * 2 ^ 125 := Nat.mul_lt_mul_of_lt_of_le (by omega) (Nat.pow_le_pow_right (by omega) (by omega)) (Nat.two_pow_pos _)
      rw [← Nat.pow_add] at this
      exact this
theorem Zf_one : Zf 1065353216 = 2 ^ 149 := by decide +kernel
theorem of_up {x : UInt32} (hx : Fp x) {k : Nat} (hk : k < 200) (hk2 : k = 0 ∨ 1065353216 ≤ x.toNat) : ∃ y, it (fun (zs4 : UInt32 × Int32 × Int32) =>
    if (200 : Int32) ≤ zs4.2.2 then
      some (Sum.inr (zs4.1, zs4.2.1))
    else
      if 0 ≤ (Op.cmpValue (FP.fcmp zs4.1 FP.fconst1) .g) then
        some (Sum.inr (zs4.1, zs4.2.1))
      else
        if zs4.2.1 ≤ (-126 : Int32) then
          some (Sum.inr (zs4.1, zs4.2.1))
        else
          (fq (FP.fmul zs4.1 FP.fconst2)).bind fun zx8 =>
          some (Sum.inl (zx8, (zs4.2.1 + (-1 : Int32)), (zs4.2.2 + (1 : Int32))))
  ) FU (x, nI k, (0 : Int32)) = some (y, nI k - nI (upN x.toNat)) ∧ Fp y ∧ Zf y.toNat = Zf x.toNat * 2 ^ upN x.toNat := by
  have hu126 : upN x.toNat ≤ 126 := by
    unfold upN
    split
    · omega
    · split
      · omega
      · omega
  have key : Ok (it (fun (zs4 : UInt32 × Int32 × Int32) =>
    if (200 : Int32) ≤ zs4.2.2 then
      some (Sum.inr (zs4.1, zs4.2.1))
    else
      if 0 ≤ (Op.cmpValue (FP.fcmp zs4.1 FP.fconst1) .g) then
        some (Sum.inr (zs4.1, zs4.2.1))
      else
        if zs4.2.1 ≤ (-126 : Int32) then
          some (Sum.inr (zs4.1, zs4.2.1))
        else
          (fq (FP.fmul zs4.1 FP.fconst2)).bind fun zx8 =>
          some (Sum.inl (zx8, (zs4.2.1 + (-1 : Int32)), (zs4.2.2 + (1 : Int32))))
  ) FU (x, nI k, (0 : Int32))) (fun o => o.2 = nI k - nI (upN x.toNat) ∧ Fp o.1 ∧ Zf o.1.toNat = Zf x.toNat * 2 ^ upN x.toNat) := by
    refine ok_cnt 0 (upN x.toNat) (fun j s => s.2 = (nI k - nI j, nI j) ∧ Fp s.1 ∧ Zf s.1.toNat = Zf x.toNat * 2 ^ j) (by omega) (by omega) ⟨by show (nI k, (0 : Int32)) = (nI k - 0, 0); rw [Int32.sub_zero], hx, by show Zf x.toNat = Zf x.toNat * 2 ^ 0; rw [Nat.pow_zero, Nat.mul_one]⟩ ?_ ?_
    · rintro j ⟨y, s⟩ hj ⟨hs, hy, he⟩
      have hs : s = (nI k - nI j, nI j) := hs
      have hy : Fp y := hy
      have he : Zf y.toNat = Zf x.toNat * 2 ^ j := he
      subst hs
      obtain ⟨l1, l2⟩ := upN_lt hj
      have hk0 : k = 0 := by
        rcases hk2 with h | h
        · exact h
        · exfalso
          unfold upN at hj
          rw [if_pos h] at hj
          omega
      subst hk0
      have hy1 : y.toNat < 1065353216 := by
        refine (FP.Core.unitsOf_lt_iff (f := FP.Core.b32)).mp ?_
        show Zf y.toNat < Zf 1065353216
        rw [he, Zf_one]
        exact l1
      have hdb : dblf y.toNat < 2139095040 := by
        unfold dblf
        split <;> omega
      obtain ⟨u1, u2⟩ := u32_of hdb
      have hm : FP.fmul y FP.fconst2 = UInt32.ofNat (dblf y.toNat) := by
        refine fmul_ex hy fp_two u2 ?_
        rw [u1, Zf_dbl, show Zf FP.fconst2.toNat = 2 ^ 150 from by decide +kernel, show (2 : Nat) ^ 150 = 2 * 2 ^ 149 from by decide +kernel]
        ac_rfl
      have hc : ¬ 0 ≤ Op.cmpValue (FP.fcmp y FP.fconst1) .g := fun z => by
        have h2 : 1065353216 ≤ y.toNat := (fp_lt hy fp_one).2.mp z
        omega
      have h200 : ¬ (200 : Int32) ≤ nI j := fun z => by
        have := (nI_leI (a := 200) (by omega) (by omega)).mp z
        omega
      have he126 : ¬ eJ j ≤ (-126 : Int32) := fun z => by
        have := (eJ_le j (by omega)).mp z
        omega
      show Ok (if (200 : Int32) ≤ nI j then _ else if 0 ≤ Op.cmpValue (FP.fcmp y FP.fconst1) .g then _ else if eJ j ≤ (-126 : Int32) then _ else _) _
      rw [if_neg h200, if_neg hc, if_neg he126]
      show Ok ((fq (FP.fmul y FP.fconst2)).bind _) _
      rw [hm, fq_fp u2, bind_s]
      refine ok_some ⟨?_, u2, ?_⟩
      · show (eJ j + (-1), nI j + 1) = (eJ (j + 1), nI (j + 1))
        rw [eJ_s j (by omega), nI_1]
      · show Zf (UInt32.ofNat (dblf y.toNat)).toNat = Zf x.toNat * 2 ^ (j + 1)
        rw [u1, Zf_dbl, he, Nat.pow_succ]
        ac_rfl
    · rintro ⟨y, s⟩ ⟨hs, hy, he⟩
      have hs : s = (nI k - nI (upN x.toNat), nI (upN x.toNat)) := hs
      have hy : Fp y := hy
      have he : Zf y.toNat = Zf x.toNat * 2 ^ upN x.toNat := he
      subst hs
      have h200 : ¬ (200 : Int32) ≤ nI (upN x.toNat) := fun z => by
        have := (nI_leI (a := 200) (by omega) (by omega)).mp z
        omega
      show Ok (if (200 : Int32) ≤ nI (upN x.toNat) then _ else if 0 ≤ Op.cmpValue (FP.fcmp y FP.fconst1) .g then _ else if nI k - nI (upN x.toNat) ≤ (-126 : Int32) then _ else _) _
      rw [if_neg h200]
      by_cases hc : 0 ≤ Op.cmpValue (FP.fcmp y FP.fconst1) .g
      · rw [if_pos hc]
        exact ok_some ⟨rfl, hy, he⟩
      · rw [if_neg hc]
        have hlt : y.toNat < 1065353216 := by
          refine Nat.lt_of_not_le fun z => hc ?_
          exact (fp_lt hy fp_one).2.mpr z
        have hz : Zf y.toNat < 2 ^ 149 := by
          rw [← Zf_one]
          exact FP.Core.unitsOf_lt hlt
        have hsub : x.toNat < 8388608 := by
          refine Nat.lt_of_not_le fun h8 => ?_
          rw [he] at hz
          by_cases h1 : 1065353216 ≤ x.toNat
          · have h3 : Zf 1065353216 ≤ Zf x.toNat := FP.Core.unitsOf_le_iff.mpr h1
            rw [Zf_one] at h3
            have : upN x.toNat = 0 := by
              unfold upN
              rw [if_pos h1]
            rw [this, Nat.pow_zero, Nat.mul_one] at hz
            omega
          · have h3 : upN x.toNat = 127 - x.toNat / 8388608 := by
              unfold upN
              rw [if_neg h1, if_neg (by omega)]
            rw [h3, Zf_hi h8, Nat.mul_assoc, ← Nat.pow_add, show x.toNat / 8388608 - 1 + (127 - x.toNat / 8388608) = 126 by omega] at hz
            have h4 : 2 ^ 23 * 2 ^ 126 ≤ (8388608 + x.toNat % 8388608) * 2 ^ 126 := Nat.mul_le_mul_right _ (by omega)
            rw [← Nat.pow_add] at h4
            exact absurd (Nat.lt_of_le_of_lt h4 hz) (Nat.lt_irrefl _)
        have hk0 : k = 0 := by omega
        have h126 : upN x.toNat = 126 := by
          unfold upN
          rw [if_neg (by omega), if_pos hsub]
        have hle : nI k - nI (upN x.toNat) ≤ (-126 : Int32) := by
          rw [hk0, h126]
          decide
        rw [if_pos hle]
        exact ok_some ⟨rfl, hy, he⟩
  obtain ⟨⟨y, v⟩, h1, h2, h3, h4⟩ := key
  have h2 : v = nI k - nI (upN x.toNat) := h2
  subst h2
  exact ⟨y, h1, h3, h4⟩
theorem of_float {x : UInt32} (hx : Fp x) : m_X4_ofFloat x = some (nI x.toNat) := by
  obtain ⟨y, k, e1, hy, hk, hxy, hk2, hy2⟩ := of_down hx
  have hk3 : k = 0 ∨ 1065353216 ≤ y.toNat := hk2
  obtain ⟨z, e2, hz, ez⟩ := of_up hy hk hk3
  unfold m_X4_ofFloat
  rw [e1, bind_s]
  show ((it _ FU (y, nI k, (0 : Int32))).bind _) = _
  rw [e2, bind_s]
  have hx0 := hx
  unfold Fp at hx0
  have fp8 : Fp (1258291200 : UInt32) := by unfold Fp; decide
  have z8 : Zf (1258291200 : UInt32).toNat = 2 ^ 23 * 2 ^ 149 := by decide +kernel
  by_cases hsub : y.toNat < 8388608
  · -- a small one
    have hu : upN y.toNat = 126 := by
      unfold upN
      rw [if_neg (by omega), if_pos hsub]
    have hk0 : k = 0 := by omega
    rw [hu, Zf_lo hsub] at ez
    -- what 23 more doublings make
    have hex : ∀ j, j ≤ 23 → ∃ t : UInt32, Fp t ∧ Zf t.toNat = y.toNat * 2 ^ (126 + j) := by
      intro j
      induction j with
      | zero => intro _; exact ⟨z, hz, ez⟩
      | succ j ih =>
        intro hj
        obtain ⟨t, t1, t2⟩ := ih (by omega)
        have hb : t.toNat < 1258291200 := by
          refine (FP.Core.unitsOf_lt_iff (f := FP.Core.b32)).mp ?_
          show Zf t.toNat < Zf 1258291200
          rw [t2, show Zf 1258291200 = 2 ^ 23 * 2 ^ 149 from by decide +kernel]
          exact Nat.mul_lt_mul_of_lt_of_le (by omega) (Nat.pow_le_pow_right (by omega) (by omega)) (Nat.two_pow_pos _)
        have hd : dblf t.toNat < 2139095040 := by
          unfold dblf
          split <;> omega
        obtain ⟨u1, u2⟩ := u32_of hd
        refine ⟨_, u2, ?_⟩
        rw [u1, Zf_dbl, t2, show 126 + (j + 1) = (126 + j) + 1 by omega, Nat.pow_succ, Nat.mul_comm 2, Nat.mul_assoc]
    obtain ⟨t, t1, t2⟩ := hex 23 (Nat.le_refl _)
    have hm : FP.fmul z (1258291200 : UInt32) = t := by
      refine fmul_ex hz fp8 t1 ?_
      rw [ez, z8, t2, show 126 + 23 = 149 from rfl]
      rw [Nat.mul_assoc, ← Nat.mul_assoc (2 ^ 126), ← Nat.pow_add, Nat.mul_assoc]
    have hf : FP.f2i t = nI y.toNat := f2i_ex t1 (by omega) t2
    show ((fq (FP.fmul z (1258291200 : UInt32))).bind _) = _
    rw [hm, fq_fp t1, bind_s, hf]
    have hn : ¬ (8388608 : Int32) ≤ nI y.toNat := fun w => by
      have := (nI_leI (a := 8388608) (by omega) (by omega)).mp w
      omega
    rw [if_neg hn]
    rw [show x.toNat = y.toNat by omega]
  · -- one with a leading digit
    have hnorm : Zf z.toNat = (8388608 + y.toNat % 8388608) * 2 ^ 126 ∧ upN y.toNat = 127 - y.toNat / 8388608 := by
      have hu : upN y.toNat = 127 - y.toNat / 8388608 := by
        unfold upN
        by_cases h1 : 1065353216 ≤ y.toNat
        · rw [if_pos h1]
          omega
        · rw [if_neg h1, if_neg hsub]
      refine ⟨?_, hu⟩
      rw [ez, hu, Zf_hi (by omega), Nat.mul_assoc, ← Nat.pow_add, show y.toNat / 8388608 - 1 + (127 - y.toNat / 8388608) = 126 by omega]
    obtain ⟨u1, u2⟩ := u32_of (n := 150 * 8388608 + y.toNat % 8388608) (by omega)
    have zt : Zf (150 * 8388608 + y.toNat % 8388608) = (8388608 + y.toNat % 8388608) * 2 ^ 149 := by
      rw [Zf_hi (by omega), show (150 * 8388608 + y.toNat % 8388608) % 8388608 = y.toNat % 8388608 by omega, show (150 * 8388608 + y.toNat % 8388608) / 8388608 - 1 = 149 by omega]
    have hm : FP.fmul z (1258291200 : UInt32) = UInt32.ofNat (150 * 8388608 + y.toNat % 8388608) := by
      refine fmul_ex hz fp8 u2 ?_
      rw [u1, zt, hnorm.1, z8, Nat.mul_assoc, ← Nat.mul_assoc (2 ^ 126), ← Nat.pow_add, Nat.mul_assoc]
    have hf : FP.f2i (UInt32.ofNat (150 * 8388608 + y.toNat % 8388608)) = nI (8388608 + y.toNat % 8388608) := f2i_ex u2 (by omega) (by rw [u1, zt])
    show ((fq (FP.fmul z (1258291200 : UInt32))).bind _) = _
    rw [hm, fq_fp u2, bind_s, hf]
    have hn : (8388608 : Int32) ≤ nI (8388608 + y.toNat % 8388608) := (nI_leI (a := 8388608) (by omega) (by omega)).mpr (by omega)
    rw [if_pos hn]
    have hE : nI k - nI (upN y.toNat) - (-126 : Int32) = nI (k + 126 - upN y.toNat) := by
      rcases hk3 with h | h
      · rw [h, hnorm.2]
        have := eJ_sub (127 - y.toNat / 8388608) (by omega)
        rw [Nat.zero_add]
        exact this
      · have h0 : upN y.toNat = 0 := by
          unfold upN
          rw [if_pos h]
        rw [h0, Nat.sub_zero, show nI 0 = 0 from rfl, Int32.sub_zero]
        exact e_up k hk
    show some ((nI k - nI (upN y.toNat) - (-126 : Int32)) * (8388608 : Int32) + nI (8388608 + y.toNat % 8388608)) = _
    rw [hE, show (8388608 : Int32) = nI 8388608 from rfl, pk_mul, nI_add]
    refine congrArg (fun n => some (nI n)) ?_
    rw [hnorm.2]
    have hk4 : k + 126 - (127 - y.toNat / 8388608) = k + y.toNat / 8388608 - 1 := by omega
    rw [hk4]
    omega
theorem f_bits {x : UInt32} (hx : Fp x) : m_Jxf58ca_floatToIntBits_5c35a x = some (nI x.toNat) := by
  have hc : FP.fcmp x x = some .eq := by
    rcases fp_cmp hx hx with ⟨h, _⟩ | ⟨_, h⟩ | ⟨h, _⟩
    · omega
    · exact h
    · omega
  have hn : m_Jxf58ca_isNaN_12338 x = some 0 := by
    unfold m_Jxf58ca_isNaN_12338
    rw [hc]
    rfl
  unfold m_Jxf58ca_floatToIntBits_5c35a
  rw [hn, bind_s, if_pos rfl]
  have : nI x.toNat = UInt32.toInt32 (UInt32.ofNat x.toNat) := rfl
  rw [this, UInt32.ofNat_toNat]
/-! activity: both sides -/
theorem IV_Fp {c : Nat} {V : Sv} (h : IV c V) : ∀ l, l < 7 → Fp (V.2.2.2.2.1 l) := by
  rcases h.2.2.2.2.2.2.1 with h | ⟨_, h⟩
  · exact FI_Fp (by omega) h
  · exact FI_Fp (by omega) h
theorem e_activity {ce : Ce} {nx : Nat} {A : Nat → Nat} {κ : Nat × Nat × Nat} {V : Sv} {c : Ce} {m : Nat} {μ : MS} {x j : Nat} (hx : XS ce x A) (h : SS ce nx A κ V) (hr : RV μ V) (hi : IV j V) (p : Int32) : Both (m_X11_activity ce x p) (m_X12_activity (wr c m μ) m p) := by
  obtain ⟨_, w, x1, x2⟩ := hx
  obtain ⟨mp, g1, g2⟩ := ss_mach h
  have hAC := ss_act h
  have hF := IV_Fp hi
  have hL := IV_L hi
  have hL1 := hi.1.1
  have hfl := hr.2.2.2.2.1
  have h3 : μ.1 0 3 = nI V.1.1 := hr.1.1
  unfold m_X11_activity m_X12_activity
  rw [x1, bind_s, x2, bind_s]
  by_cases h1 : p = -1
  · have hg : gF ce 0 1 (A 7) = some (V.2.2.2.2.1 6) := by
      obtain ⟨G, a1, _⟩ := hAC
      unfold gF
      rw [a1]
      rfl
    rw [if_pos h1, if_pos h1, ss_r13 h, bind_s, hg, bind_s, of_float (hF 6 (by omega)), bind_s, wr_g2, bind_s, rf_6, bind_s, hfl 6 (by omega), f_bits (hF 6 (by omega)), bind_s]
    exact ⟨_, rfl, rfl⟩
  · rw [if_neg h1, if_neg h1, g1, bind_s, (cm_states g2).2.1, bind_s, wr_g0, bind_s, rd_3, bind_s, h3]
    by_cases h0 : p < 0
    · have e2 : m_X12_isIn p (0 : Int32) (nI V.1.1 - 1) = some 0 := by
        rw [sr_isIn, if_neg]
        rintro ⟨a, _⟩
        exact absurd h0 (Int32.not_lt.mpr a)
      rw [if_pos h0, e2, bind_s, if_pos rfl]
      exact ⟨_, rfl, rfl⟩
    · obtain ⟨k, hk, rfl⟩ := nI_of h0
      rw [if_neg h0, if_lt hk (by omega)]
      by_cases hkl : k < V.1.1
      · have e7 : m_X12_isIn (nI k) (0 : Int32) (nI V.1.1 - 1) = some 1 := by
          rw [nl_0, nl_1, pk_sub (by omega)]
          exact isin_in (by omega) (by omega) (by omega)
        rw [if_pos hkl, ss_r13 h, bind_s, ca_rcv hAC, bind_s, ca_valueOf hAC (by omega), bind_s, of_float (hF k (by omega)), bind_s, e7, bind_s, if_neg (by decide), wr_g2, bind_s, wr_f2 c m μ (by omega), bind_s, hfl k (by omega), f_bits (hF k (by omega)), bind_s]
        exact ⟨_, rfl, rfl⟩
      · have e2 : m_X12_isIn (nI k) (0 : Int32) (nI V.1.1 - 1) = some 0 := by
          rw [nl_0, nl_1, pk_sub (by omega)]
          refine isin_out (by omega) (by omega) ?_
          rintro ⟨s, _, hs, e⟩
          have := (nI_eq hk (by omega)).mp e
          omega
        rw [if_neg hkl, e2, bind_s, if_pos rfl]
        exact ⟨_, rfl, rfl⟩
