/-! MEAN -/
theorem d_bits {x : UInt64} (hx : Dp x) : m_Jxe99ae_doubleToLongBits_ccdee x = some (nL x.toNat) := by
  have hc : FP.dcmp x x = some .eq := by
    rcases dp_cmp hx hx with ⟨h, _⟩ | ⟨_, h⟩ | ⟨h, _⟩
    · omega
    · exact h
    · omega
  have hn : m_Jxe99ae_isNaN_b9ae7 x = some 0 := by
    unfold m_Jxe99ae_isNaN_b9ae7
    rw [hc]
    rfl
  unfold m_Jxe99ae_doubleToLongBits_ccdee
  rw [hn, bind_s, if_pos rfl]
  have : nL x.toNat = UInt64.toInt64 (UInt64.ofNat x.toNat) := rfl
  rw [this, UInt64.ofNat_toNat]
theorem i2d_shape {a : Nat} (ha : a < 2 ^ 31) : ∃ c q, FP.Core.val64 (FP.i2d (nI a)) = .fin false c q := by
  have h : FP.i2d (nI a) = FP.Core.l2d (nI a).toInt64 := FP.Core.i2d_l2d (nI a)
  obtain ⟨c, q, h2⟩ := FP.Core.l2d_shape (nI a).toInt64
  refine ⟨c, q, ?_⟩
  rw [h, h2, Int32.toInt_toInt64, nI_toInt ha]
  rfl
theorem dp_mean {a b : Nat} (ha : a < 2 ^ 31) (hb : b < 2 ^ 31) (h0 : b ≠ 0) : Dp (FP.ddiv (FP.i2d (nI a)) (FP.i2d (nI b))) := by
  have ea : (FP.i2d (nI a)).toNat = FP.Core.fromInt FP.Core.b64 (nI a).toInt := FP.Core.toNat_i2d (nI a)
  have eb : (FP.i2d (nI b)).toNat = FP.Core.fromInt FP.Core.b64 (nI b).toInt := FP.Core.toNat_i2d (nI b)
  have m1 := FP.Core.fromInt_mag ea (j := 31) (K := 1054) (by rw [nI_toInt ha]; omega) (by omega) (by omega)
  have m2 := FP.Core.fromInt_mag eb (j := 31) (K := 1054) (by rw [nI_toInt hb]; omega) (by omega) (by omega)
  have m3 := FP.Core.fromInt_ge eb (by rw [nI_toInt hb]; omega)
  have m4 : (FP.ddiv (FP.i2d (nI a)) (FP.i2d (nI b))).toNat % 2 ^ 63 < (1055 + (1074 - 52 - 1) - 1023 + 3) * 2 ^ 52 := FP.Core.ddiv_mag (K := 1055) (L := 1023) (by omega) (by omega) (by omega) (by omega) (by omega)
  have hne : FP.Core.val64 (FP.ddiv (FP.i2d (nI a)) (FP.i2d (nI b))) ≠ .nan := by
    rw [FP.Core.ne_nan]
    omega
  have hs : FP.Core.sgn (FP.Core.val64 (FP.ddiv (FP.i2d (nI a)) (FP.i2d (nI b)))) = false := by
    obtain ⟨c, q, va⟩ := i2d_shape ha
    obtain ⟨d, r, vb⟩ := i2d_shape hb
    have e : FP.Core.val64 (FP.ddiv (FP.i2d (nI a)) (FP.i2d (nI b))) = FP.Core.quotient FP.Core.b64 (FP.Core.val64 (FP.i2d (nI a))) (FP.Core.val64 (FP.i2d (nI b))) := FP.Core.val64_ddiv _ _
    rw [va, vb] at e
    have e : FP.Core.val64 (FP.ddiv (FP.i2d (nI a)) (FP.i2d (nI b))) = (if d = 0 then (if c = 0 then .nan else .inf false) else FP.Core.roundRatio FP.Core.b64 false c d (q - r)) := e
    rw [e] at hne ⊢
    by_cases hd : d = 0
    · rw [if_pos hd] at hne ⊢
      by_cases hc : c = 0
      · rw [if_pos hc] at hne
        exact absurd rfl hne
      · rw [if_neg hc]
        rfl
    · rw [if_neg hd]
      exact FP.Core.sgn_roundRatio _ _ _ _ _
  have := dsgn_pos hs hne
  unfold Dp
  omega
theorem e_mean {ce : Ce} {nx : Nat} {A : Nat → Nat} {κ : Nat × Nat × Nat} {V : Sv} {c : Ce} {m : Nat} {μ : MS} {x g : Nat} (hx : XS ce x A) (h : SS ce nx A κ V) (hr : RV μ V) (hn : NI g V.2.1) (hg : g ≤ 1000000) : Both (m_X11_mean ce x) (m_X12_mean (wr c m μ) m) := by
  obtain ⟨_, w, x1, x2⟩ := hx
  obtain ⟨n1, n2, n3⟩ := hn
  have e11 : μ.1 0 11 = nI (V.2.1 11) := hr.2.1 11 (by decide)
  have e12 : μ.1 0 12 = nI (V.2.1 12) := hr.2.1 12 (by decide)
  unfold m_X11_mean m_X12_mean
  rw [x1, bind_s, x2, bind_s, ss_r7 h, bind_s, wr_g0, bind_s, rd_11, bind_s, e11]
  by_cases h0 : V.2.1 11 = 0
  · rw [h0, if_neg (by decide), show nI 0 = 0 from rfl, if_pos rfl]
    exact ⟨_, rfl, rfl⟩
  · have hp : (0 : Int32) < nI (V.2.1 11) := by
      have : nI 0 < nI (V.2.1 11) := by
        refine Int32.not_le.mp fun z => ?_
        have := (nI_leI (by omega) (by omega)).mp z
        omega
      exact this
    have hz : ¬ nI (V.2.1 11) = 0 := fun z => h0 ((nI_eq (b := 0) (by omega) (by omega)).mp z)
    have hD := dp_mean (a := V.2.1 12) (b := V.2.1 11) (by omega) (by omega) h0
    rw [if_pos hp, if_neg hz, ss_r8 h, bind_s, bind_s, dq_dp hD, bind_s, of_double hD, bind_s, bind_s, rd_12, bind_s, bind_s, rd_11, bind_s, e12, e11, dq_dp hD, bind_s, d_bits hD, bind_s]
    exact ⟨_, rfl, rfl⟩
