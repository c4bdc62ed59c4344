/-! DOUBLES, told bit by bit -/
def Dp (x : UInt64) : Prop := x.toNat < 9218868437227405312
theorem dp_val {x : UInt64} (h : Dp x) : FP.Core.val64 x ≠ .nan := by
  rw [FP.Core.ne_nan]
  unfold Dp at h
  show x.toNat % 9223372036854775808 ≤ 9218868437227405312
  omega
theorem dp_nan {x : UInt64} (h : Dp x) : isNaN64 x = false := by
  unfold isNaN64
  rw [decide_eq_false_iff_not]
  intro hn
  have h1 := UInt64.lt_iff_toNat_lt.mp hn
  rw [FP.Core.mask_toNat] at h1
  have h1 : 9218868437227405312 < x.toNat % 9223372036854775808 := h1
  unfold Dp at h
  omega
theorem dp_cmp {a b : UInt64} (ha : Dp a) (hb : Dp b) : (a.toNat < b.toNat ∧ FP.dcmp a b = some .lt) ∨ (a.toNat = b.toNat ∧ FP.dcmp a b = some .eq) ∨ (b.toNat < a.toNat ∧ FP.dcmp a b = some .gt) := by
  have h1 : a.toNat < 2 ^ 63 := by unfold Dp at ha; show a.toNat < 9223372036854775808; omega
  have h2 : b.toNat < 2 ^ 63 := by unfold Dp at hb; show b.toNat < 9223372036854775808; omega
  obtain ⟨m1, m2, m3⟩ := FP.Core.mono_bits (dp_val ha) (dp_val hb) h1 h2
  rcases Nat.lt_trichotomy a.toNat b.toNat with h | h | h
  · exact Or.inl ⟨h, m1.mpr h⟩
  · exact Or.inr (Or.inl ⟨h, m2.mpr h⟩)
  · exact Or.inr (Or.inr ⟨h, m3.mpr h⟩)
theorem dp_fin {x : UInt64} (h : Dp x) : ∃ c q, FP.Core.val64 x = .fin false c q := by
  have h1 : FP.Core.DFin x := by
    rw [FP.Core.fin_bits]
    unfold Dp at h
    show x.toNat % 9223372036854775808 < 9218868437227405312
    omega
  obtain ⟨s, c, q, h2⟩ := h1
  have h3 := FP.Core.sign_bits (Or.inl ⟨c, q, h2⟩)
  cases s with
  | false => exact ⟨c, q, h2⟩
  | true =>
    have : 9223372036854775808 ≤ x.toNat := h3.mp rfl
    unfold Dp at h
    omega
theorem dsgn_pos {x : UInt64} (h : FP.Core.sgn (FP.Core.val64 x) = false) (hn : FP.Core.val64 x ≠ .nan) : x.toNat < 9223372036854775808 := by
  rw [FP.Core.sgn_bits hn] at h
  have h : ¬ 9223372036854775808 ≤ x.toNat := of_decide_eq_false h
  omega
abbrev Zd (n : Nat) : Nat := FP.Core.unitsOf FP.Core.b64 n
theorem Zd_lo {n : Nat} (h : n < 4503599627370496) : Zd n = n := by
  show (if n < 4503599627370496 then n else (4503599627370496 + n % 4503599627370496) * 2 ^ (n / 4503599627370496 - 1)) = n
  exact if_pos h
theorem Zd_hi {n : Nat} (h : 4503599627370496 ≤ n) : Zd n = (4503599627370496 + n % 4503599627370496) * 2 ^ (n / 4503599627370496 - 1) := by
  show (if n < 4503599627370496 then n else (4503599627370496 + n % 4503599627370496) * 2 ^ (n / 4503599627370496 - 1)) = _
  exact if_neg (by omega)
theorem Zd_inj {a b : Nat} (h : Zd a = Zd b) : a = b := Nat.le_antisymm (FP.Core.unitsOf_le_iff.mp (Nat.le_of_eq h)) (FP.Core.unitsOf_le_iff.mp (Nat.le_of_eq h.symm))
def dbld (n : Nat) : Nat := if n < 4503599627370496 then 2 * n else n + 4503599627370496
theorem Zd_dbl (n : Nat) : Zd (dbld n) = 2 * Zd n := by
  unfold dbld
  by_cases h : n < 4503599627370496
  · rw [if_pos h, Zd_lo h]
    by_cases h2 : 2 * n < 4503599627370496
    · rw [Zd_lo h2]
    · rw [Zd_hi (by omega)]
      have e1 : 2 * n / 4503599627370496 = 1 := by omega
      have e2 : 2 * n % 4503599627370496 = 2 * n - 4503599627370496 := by omega
      rw [e1, e2]
      omega
  · rw [if_neg h, Zd_hi (by omega), Zd_hi (by omega)]
    have e1 : (n + 4503599627370496) / 4503599627370496 - 1 = (n / 4503599627370496 - 1) + 1 := by omega
    have e2 : (n + 4503599627370496) % 4503599627370496 = n % 4503599627370496 := by omega
    rw [e1, e2, Nat.pow_succ, Nat.mul_comm (2 ^ _) 2, ← Nat.mul_assoc, Nat.mul_comm _ 2, Nat.mul_assoc]
theorem zd {a : UInt64} (h : Dp a) : FP.Core.zmag FP.Core.b64 (FP.Core.val64 a) = Zd a.toNat := by
  rw [FP.Core.zmag_bits (dp_val h)]
  unfold Dp at h
  rw [show a.toNat % 2 ^ 63 = a.toNat from Nat.mod_eq_of_lt (by omega)]
theorem d_eq {a t : UInt64} (ht : Dp t) (hn : FP.Core.val64 a ≠ .nan) (hs : FP.Core.sgn (FP.Core.val64 a) = false) (hz : FP.Core.zmag FP.Core.b64 (FP.Core.val64 a) = Zd t.toNat) : a = t := by
  rw [FP.Core.zmag_bits hn] at hz
  have h1 := Zd_inj hz
  have h2 := dsgn_pos hs hn
  rw [show a.toNat % 2 ^ 63 = a.toNat from Nat.mod_eq_of_lt (by omega)] at h1
  exact UInt64.toNat_inj.mp h1
theorem dmul_ex {a b t : UInt64} (ha : Dp a) (hb : Dp b) (ht : Dp t) (h : Zd a.toNat * Zd b.toNat = Zd t.toNat * 2 ^ 1074) : FP.dmul a b = t := by
  obtain ⟨c, q, ea⟩ := dp_fin ha
  obtain ⟨d, r, eb⟩ := dp_fin hb
  have e : FP.Core.val64 (FP.dmul a b) = FP.Core.roundRatio FP.Core.b64 false (c * d) 1 (q + r) := by
    have e0 : FP.Core.val64 (FP.dmul a b) = FP.Core.round FP.Core.b64 (FP.Core.exactProduct (FP.Core.val64 a) (FP.Core.val64 b)) := FP.Core.val64_dmul a b
    rw [e0, ea, eb]
    rfl
  have fa := FP.Core.val64_fits a
  have fb := FP.Core.val64_fits b
  rw [ea] at fa
  rw [eb] at fb
  have hq : (-1074 : Int) ≤ q := fa.2.1
  have hr : (-1074 : Int) ≤ r := fb.2.1
  have za : Zd a.toNat = c * 2 ^ (q - (-1074)).toNat := by
    rw [← zd ha, ea]
    rfl
  have zb : Zd b.toNat = d * 2 ^ (r - (-1074)).toNat := by
    rw [← zd hb, eb]
    rfl
  have hu : FP.Core.inUnits (c * d) (q + r) (-2148) = Zd t.toNat * 2 ^ 1074 := by
    rw [← h, za, zb]
    show c * d * 2 ^ (q + r - (-2148)).toNat = _
    rw [show (q + r - (-2148)).toNat = (q - (-1074)).toNat + (r - (-1074)).toNat by omega, Nat.pow_add]
    ac_rfl
  refine d_eq ht (by rw [e]; exact FP.Core.roundRatio_ne_nan _ _ _ _ _) (by rw [e]; exact FP.Core.sgn_roundRatio _ _ _ _ _) ?_
  rw [e, ← zd ht]
  have hc : FP.Core.zmag FP.Core.b64 (FP.Core.val64 t) * 2 ^ (FP.Core.b64.qmin - (-2148)).toNat * 1 = Zd t.toNat * 2 ^ 1074 := by
    rw [zd ht, Nat.mul_one]
    rfl
  have h0 : (-2148 : Int) ≤ FP.Core.b64.qmin := by decide
  refine Nat.le_antisymm (FP.Core.zmag_roundRatio_le FP.Core.good_b64 (e0 := -2148) (by omega) (FP.Core.val64_fits t) (dp_val ht) h0 (by omega) ?_) (FP.Core.zmag_roundRatio_ge FP.Core.good_b64 (e0 := -2148) (by omega) (FP.Core.val64_fits t) h0 (by omega) ?_)
  · rw [hu, hc]
    exact Nat.le_refl _
  · rw [hu, hc]
    exact Nat.le_refl _
theorem dp_two : Dp (4611686018427387904 : UInt64) := by unfold Dp; decide
theorem dp_one : Dp FP.dconst1 := by unfold Dp; decide
theorem val_twod : FP.Core.val64 (4611686018427387904 : UInt64) = .fin false 4503599627370496 (-51) := by decide +kernel
theorem ddiv_ex {a t : UInt64} (ha : Dp a) (ht : Dp t) (h : Zd a.toNat = 2 * Zd t.toNat) : FP.ddiv a (4611686018427387904 : UInt64) = t := by
  obtain ⟨c, q, ea⟩ := dp_fin ha
  have e : FP.Core.val64 (FP.ddiv a (4611686018427387904 : UInt64)) = FP.Core.roundRatio FP.Core.b64 false c 4503599627370496 (q - (-51)) := by
    have e0 : FP.Core.val64 (FP.ddiv a (4611686018427387904 : UInt64)) = FP.Core.quotient FP.Core.b64 (FP.Core.val64 a) (FP.Core.val64 (4611686018427387904 : UInt64)) := FP.Core.val64_ddiv a _
    rw [e0, ea, val_twod]
    rfl
  have fa := FP.Core.val64_fits a
  rw [ea] at fa
  have hq : (-1074 : Int) ≤ q := fa.2.1
  have za : Zd a.toNat = c * 2 ^ (q - (-1074)).toNat := by
    rw [← zd ha, ea]
    rfl
  have hu : FP.Core.inUnits c (q - (-51)) (-1074) = Zd t.toNat * 4503599627370496 := by
    show c * 2 ^ (q - (-51) - (-1074)).toNat = _
    rw [show (q - (-51) - (-1074)).toNat = (q - (-1074)).toNat + 51 by omega, Nat.pow_add, ← Nat.mul_assoc, ← za, h]
    omega
  refine d_eq ht (by rw [e]; exact FP.Core.roundRatio_ne_nan _ _ _ _ _) (by rw [e]; exact FP.Core.sgn_roundRatio _ _ _ _ _) ?_
  rw [e, ← zd ht]
  have hc : FP.Core.zmag FP.Core.b64 (FP.Core.val64 t) * 2 ^ (FP.Core.b64.qmin - (-1074)).toNat * 4503599627370496 = Zd t.toNat * 4503599627370496 := by
    rw [zd ht, show (FP.Core.b64.qmin - (-1074)).toNat = 0 from rfl, Nat.pow_zero, Nat.mul_one]
  have h0 : (-1074 : Int) ≤ FP.Core.b64.qmin := by decide
  refine Nat.le_antisymm (FP.Core.zmag_roundRatio_le FP.Core.good_b64 (e0 := -1074) (by omega) (FP.Core.val64_fits t) (dp_val ht) h0 (by omega) ?_) (FP.Core.zmag_roundRatio_ge FP.Core.good_b64 (e0 := -1074) (by omega) (FP.Core.val64_fits t) h0 (by omega) ?_)
  · rw [hu, hc]
    exact Nat.le_refl _
  · rw [hu, hc]
    exact Nat.le_refl _
def nL (n : Nat) : Int64 := Int64.ofNat n
theorem nL_toInt {v : Nat} (hv : v < 2 ^ 63) : (nL v).toInt = v := Int64.toInt_ofNat_of_lt hv
theorem nL_ge {c v : Nat} (hc : c < 2 ^ 63) (hv : v < 2 ^ 63) : 0 ≤ lg_cmp (nL v) (nL c) ↔ c ≤ v := by
  unfold lg_cmp
  by_cases h1 : nL v > nL c
  · rw [if_pos h1]
    have := Int64.lt_iff_toInt_lt.mp h1
    rw [nL_toInt hc, nL_toInt hv] at this
    exact ⟨fun _ => by omega, fun _ => by decide⟩
  · rw [if_neg h1]
    by_cases h2 : nL v = nL c
    · have := congrArg Int64.toInt h2
      rw [nL_toInt hc, nL_toInt hv] at this
      rw [if_pos h2]
      exact ⟨fun _ => by omega, fun _ => by decide⟩
    · rw [if_neg h2]
      refine ⟨fun z => absurd z (by decide), fun z => ?_⟩
      exfalso
      by_cases e : c = v
      · exact h2 (by rw [e])
      · refine h1 (Int64.lt_iff_toInt_lt.mpr ?_)
        rw [nL_toInt hc, nL_toInt hv]
        omega
theorem d2l_ex {a : UInt64} (ha : Dp a) {v : Nat} (hv : v < 2 ^ 63) (h : Zd a.toNat = v * 2 ^ 1074) : FP.d2l a = nL v := by
  have h1 := FP.Core.d2l_val (dp_val ha)
  obtain ⟨c, q, ea⟩ := dp_fin ha
  have hs : FP.Core.sgn (FP.Core.val64 a) = false := by rw [ea]; rfl
  rw [zd ha, h, hs, show FP.Core.one64 = 2 ^ 1074 from rfl, Nat.mul_div_cancel _ (Nat.two_pow_pos 1074)] at h1
  have h1 : (FP.Core.d2l a).toInt = max (-2 ^ 63) (min (2 ^ 63 - 1) (v : Int)) := h1
  refine Int64.toInt_inj.mp ?_
  show (FP.Core.d2l a).toInt = _
  rw [h1, nL_toInt hv]
  omega
theorem dp_lt {a b : UInt64} (ha : Dp a) (hb : Dp b) : (Op.cmpValue (FP.dcmp a b) .l < 0 ↔ a.toNat < b.toNat) ∧ (0 ≤ Op.cmpValue (FP.dcmp a b) .g ↔ b.toNat ≤ a.toNat) := by
  rcases dp_cmp ha hb with ⟨h1, h2⟩ | ⟨h1, h2⟩ | ⟨h1, h2⟩
  · rw [h2]
    refine ⟨⟨fun _ => h1, fun _ => by decide⟩, ⟨fun z => absurd z (by decide), fun z => by omega⟩⟩
  · rw [h2]
    refine ⟨⟨fun z => absurd z (by decide), fun z => by omega⟩, ⟨fun _ => by omega, fun _ => by decide⟩⟩
  · rw [h2]
    refine ⟨⟨fun z => absurd z (by decide), fun z => by omega⟩, ⟨fun _ => by omega, fun _ => by decide⟩⟩
theorem dq_dp {a : UInt64} (h : Dp a) : dq a = some a := by
  unfold dq
  rw [dp_nan h]
  rfl
