/-! FLOATS, told bit by bit -/
abbrev Zf (n : Nat) : Nat := FP.Core.unitsOf FP.Core.b32 n
theorem Zf_lo {n : Nat} (h : n < 8388608) : Zf n = n := by
  show (if n < 8388608 then n else (8388608 + n % 8388608) * 2 ^ (n / 8388608 - 1)) = n
  exact if_pos h
theorem Zf_hi {n : Nat} (h : 8388608 ≤ n) : Zf n = (8388608 + n % 8388608) * 2 ^ (n / 8388608 - 1) := by
  show (if n < 8388608 then n else (8388608 + n % 8388608) * 2 ^ (n / 8388608 - 1)) = _
  exact if_neg (by omega)
theorem Zf_inj {a b : Nat} (h : Zf a = Zf b) : a = b := Nat.le_antisymm (FP.Core.unitsOf_le_iff.mp (Nat.le_of_eq h)) (FP.Core.unitsOf_le_iff.mp (Nat.le_of_eq h.symm))
def dblf (n : Nat) : Nat := if n < 8388608 then 2 * n else n + 8388608
theorem Zf_dbl (n : Nat) : Zf (dblf n) = 2 * Zf n := by
  unfold dblf
  by_cases h : n < 8388608
  · rw [if_pos h, Zf_lo h]
    by_cases h2 : 2 * n < 8388608
    · rw [Zf_lo h2]
    · rw [Zf_hi (by omega)]
      have e1 : 2 * n / 8388608 = 1 := by omega
      have e2 : 2 * n % 8388608 = 2 * n - 8388608 := by omega
      rw [e1, e2]
      omega
  · rw [if_neg h, Zf_hi (by omega), Zf_hi (by omega)]
    have e1 : (n + 8388608) / 8388608 - 1 = (n / 8388608 - 1) + 1 := by omega
    have e2 : (n + 8388608) % 8388608 = n % 8388608 := by omega
    rw [e1, e2, Nat.pow_succ, Nat.mul_comm (2 ^ _) 2, ← Nat.mul_assoc, Nat.mul_comm _ 2, Nat.mul_assoc]
theorem zm {a : UInt32} (h : Fp a) : FP.Core.zmag FP.Core.b32 (FP.Core.val32 a) = Zf a.toNat := by
  rw [FP.Core.zmag_toNat32 (fp_val h)]
  unfold Fp at h
  rw [show a.toNat % 2 ^ 31 = a.toNat from Nat.mod_eq_of_lt (by omega)]
theorem f_eq {a t : UInt32} (ht : Fp t) (hn : FP.Core.val32 a ≠ .nan) (hs : FP.Core.sgn (FP.Core.val32 a) = false) (hz : FP.Core.zmag FP.Core.b32 (FP.Core.val32 a) = Zf t.toNat) : a = t := by
  rw [FP.Core.zmag_toNat32 hn] at hz
  have h1 := Zf_inj hz
  have h2 := sgn_pos hs hn
  rw [show a.toNat % 2 ^ 31 = a.toNat from Nat.mod_eq_of_lt (by omega)] at h1
  exact UInt32.toNat_inj.mp h1
theorem fmul_ex {a b t : UInt32} (ha : Fp a) (hb : Fp b) (ht : Fp t) (h : Zf a.toNat * Zf b.toNat = Zf t.toNat * 2 ^ 149) : FP.fmul a b = t := by
  obtain ⟨c, q, ea⟩ := fp_fin ha
  obtain ⟨d, r, eb⟩ := fp_fin hb
  have e : FP.Core.val32 (FP.fmul a b) = FP.Core.roundRatio FP.Core.b32 false (c * d) 1 (q + r) := by
    have e0 : FP.Core.val32 (FP.fmul a b) = FP.Core.round FP.Core.b32 (FP.Core.exactProduct (FP.Core.val32 a) (FP.Core.val32 b)) := FP.Core.val32_fmul a b
    rw [e0, ea, eb]
    rfl
  have fa := FP.Core.val32_fits a
  have fb := FP.Core.val32_fits b
  rw [ea] at fa
  rw [eb] at fb
  have hq : (-149 : Int) ≤ q := fa.2.1
  have hr : (-149 : Int) ≤ r := fb.2.1
  have za : Zf a.toNat = c * 2 ^ (q - (-149)).toNat := by
    rw [← zm ha, ea]
    rfl
  have zb : Zf b.toNat = d * 2 ^ (r - (-149)).toNat := by
    rw [← zm hb, eb]
    rfl
  have hu : FP.Core.inUnits (c * d) (q + r) (-298) = Zf t.toNat * 2 ^ 149 := by
    rw [← h, za, zb]
    show c * d * 2 ^ (q + r - (-298)).toNat = _
    rw [show (q + r - (-298)).toNat = (q - (-149)).toNat + (r - (-149)).toNat by omega, Nat.pow_add]
    ac_rfl
  refine f_eq ht (by rw [e]; exact FP.Core.roundRatio_ne_nan _ _ _ _ _) (by rw [e]; exact FP.Core.sgn_roundRatio _ _ _ _ _) ?_
  rw [e, ← zm ht]
  have hc : FP.Core.zmag FP.Core.b32 (FP.Core.val32 t) * 2 ^ (FP.Core.b32.qmin - (-298)).toNat * 1 = Zf t.toNat * 2 ^ 149 := by
    rw [zm ht, Nat.mul_one]
    rfl
  have h0 : (-298 : Int) ≤ FP.Core.b32.qmin := by decide
  refine Nat.le_antisymm (FP.Core.zmag_roundRatio_le FP.Core.good_b32 (e0 := -298) (by omega) (FP.Core.val32_fits t) (fp_val ht) h0 (by omega) ?_) (FP.Core.zmag_roundRatio_ge FP.Core.good_b32 (e0 := -298) (by omega) (FP.Core.val32_fits t) h0 (by omega) ?_)
  · rw [hu, hc]
    exact Nat.le_refl _
  · rw [hu, hc]
    exact Nat.le_refl _
theorem fp_two : Fp FP.fconst2 := by unfold Fp; decide
theorem fp_one : Fp FP.fconst1 := by unfold Fp; decide
theorem val_two : FP.Core.val32 FP.fconst2 = .fin false 8388608 (-22) := by decide +kernel
theorem fdiv_ex {a t : UInt32} (ha : Fp a) (ht : Fp t) (h : Zf a.toNat = 2 * Zf t.toNat) : FP.fdiv a FP.fconst2 = t := by
  obtain ⟨c, q, ea⟩ := fp_fin ha
  have e : FP.Core.val32 (FP.fdiv a FP.fconst2) = FP.Core.roundRatio FP.Core.b32 false c 8388608 (q - (-22)) := by
    have e0 : FP.Core.val32 (FP.fdiv a FP.fconst2) = FP.Core.quotient FP.Core.b32 (FP.Core.val32 a) (FP.Core.val32 FP.fconst2) := FP.Core.val32_fdiv a _
    rw [e0, ea, val_two]
    rfl
  have fa := FP.Core.val32_fits a
  rw [ea] at fa
  have hq : (-149 : Int) ≤ q := fa.2.1
  have za : Zf a.toNat = c * 2 ^ (q - (-149)).toNat := by
    rw [← zm ha, ea]
    rfl
  have hu : FP.Core.inUnits c (q - (-22)) (-149) = Zf t.toNat * 8388608 := by
    show c * 2 ^ (q - (-22) - (-149)).toNat = _
    rw [show (q - (-22) - (-149)).toNat = (q - (-149)).toNat + 22 by omega, Nat.pow_add, ← Nat.mul_assoc, ← za, h]
    omega
  refine f_eq ht (by rw [e]; exact FP.Core.roundRatio_ne_nan _ _ _ _ _) (by rw [e]; exact FP.Core.sgn_roundRatio _ _ _ _ _) ?_
  rw [e, ← zm ht]
  have hc : FP.Core.zmag FP.Core.b32 (FP.Core.val32 t) * 2 ^ (FP.Core.b32.qmin - (-149)).toNat * 8388608 = Zf t.toNat * 8388608 := by
    rw [zm ht, show (FP.Core.b32.qmin - (-149)).toNat = 0 from rfl, Nat.pow_zero, Nat.mul_one]
  have h0 : (-149 : Int) ≤ FP.Core.b32.qmin := by decide
  refine Nat.le_antisymm (FP.Core.zmag_roundRatio_le FP.Core.good_b32 (e0 := -149) (by omega) (FP.Core.val32_fits t) (fp_val ht) h0 (by omega) ?_) (FP.Core.zmag_roundRatio_ge FP.Core.good_b32 (e0 := -149) (by omega) (FP.Core.val32_fits t) h0 (by omega) ?_)
  · rw [hu, hc]
    exact Nat.le_refl _
  · rw [hu, hc]
    exact Nat.le_refl _
theorem f2i_ex {a : UInt32} (ha : Fp a) {v : Nat} (hv : v < 2 ^ 31) (h : Zf a.toNat = v * 2 ^ 149) : FP.f2i a = nI v := by
  have h1 := FP.Core.f2i_val (fp_val ha)
  obtain ⟨c, q, ea⟩ := fp_fin ha
  have hs : FP.Core.sgn (FP.Core.val32 a) = false := by rw [ea]; rfl
  rw [zm ha, h, hs, show FP.Core.one32 = 2 ^ 149 from rfl, Nat.mul_div_cancel _ (Nat.two_pow_pos 149)] at h1
  have h1 : (FP.Core.f2i a).toInt = max (-2 ^ 31) (min (2 ^ 31 - 1) (v : Int)) := h1
  refine Int32.toInt_inj.mp ?_
  show (FP.Core.f2i a).toInt = _
  rw [h1, nI_toInt hv]
  omega
theorem fp_lt {a b : UInt32} (ha : Fp a) (hb : Fp b) : (Op.cmpValue (FP.fcmp a b) .l < 0 ↔ a.toNat < b.toNat) ∧ (0 ≤ Op.cmpValue (FP.fcmp a b) .g ↔ b.toNat ≤ a.toNat) := by
  rcases fp_cmp ha hb with ⟨h1, h2⟩ | ⟨h1, h2⟩ | ⟨h1, h2⟩
  · rw [h2]
    refine ⟨⟨fun _ => h1, fun _ => by decide⟩, ⟨fun z => absurd z (by decide), fun z => by omega⟩⟩
  · rw [h2]
    refine ⟨⟨fun z => absurd z (by decide), fun z => by omega⟩, ⟨fun _ => by omega, fun _ => by decide⟩⟩
  · rw [h2]
    refine ⟨⟨fun z => absurd z (by decide), fun z => by omega⟩, ⟨fun _ => by omega, fun _ => by decide⟩⟩
theorem fq_fp {a : UInt32} (h : Fp a) : fq a = some a := by
  unfold fq
  rw [fp_nan h]
  rfl
