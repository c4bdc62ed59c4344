/-! FLOATS that are 0 or more, and finite -/
def Fp (x : UInt32) : Prop := x.toNat < 2139095040
theorem fp_val {x : UInt32} (h : Fp x) : FP.Core.val32 x ≠ .nan := by
  rw [FP.Core.ne_nan32]
  unfold Fp at h
  show x.toNat % 2147483648 ≤ 2139095040
  omega
theorem fp_nan {x : UInt32} (h : Fp x) : isNaN32 x = false := by
  unfold isNaN32
  rw [decide_eq_false_iff_not]
  intro hn
  have h1 := UInt32.lt_iff_toNat_lt.mp hn
  rw [FP.Core.mask_toNat32] at h1
  have h1 : 2139095040 < x.toNat % 2147483648 := h1
  unfold Fp at h
  omega
theorem fp_cmp {a b : UInt32} (ha : Fp a) (hb : Fp b) : (a.toNat < b.toNat ∧ FP.fcmp a b = some .lt) ∨ (a.toNat = b.toNat ∧ FP.fcmp a b = some .eq) ∨ (b.toNat < a.toNat ∧ FP.fcmp a b = some .gt) := by
  have h1 : a.toNat < 2 ^ 31 := by unfold Fp at ha; show a.toNat < 2147483648; omega
  have h2 : b.toNat < 2 ^ 31 := by unfold Fp at hb; show b.toNat < 2147483648; omega
  obtain ⟨m1, m2, m3⟩ := FP.Core.mono_bits32 (fp_val ha) (fp_val hb) h1 h2
  rcases Nat.lt_trichotomy a.toNat b.toNat with h | h | h
  · exact Or.inl ⟨h, m1.mpr h⟩
  · exact Or.inr (Or.inl ⟨h, m2.mpr h⟩)
  · exact Or.inr (Or.inr ⟨h, m3.mpr h⟩)
theorem fp_KO {L mode : Nat} {fl : Nat → UInt32} (h : ∀ l, l < L → Fp (fl l)) : KO mode fl L (kkf mode fl) := by
  intro l o hl ho
  have hlt := (fl l).toNat_lt
  have hot := (fl o).toNat_lt
  unfold ahdB kkf
  by_cases m0 : mode = 0
  · rw [if_pos m0, if_pos m0, if_pos m0]
    rcases fp_cmp (h l hl) (h o ho) with ⟨c, e⟩ | ⟨c, e⟩ | ⟨c, e⟩
    · rw [e]
      simp [Op.cmpValue, c]
    · rw [e]
      have : ¬ (fl l).toNat < (fl o).toNat := by omega
      simp [Op.cmpValue, this]
    · rw [e]
      have : ¬ (fl l).toNat < (fl o).toNat := by omega
      simp [Op.cmpValue, this]
  · rw [if_neg m0, if_neg m0, if_neg m0]
    by_cases m2 : mode = 2
    · rw [if_pos m2, if_pos m2, if_pos m2]
      rcases fp_cmp (h l hl) (h o ho) with ⟨c, e⟩ | ⟨c, e⟩ | ⟨c, e⟩
      · rw [e]
        have : ¬ 2 ^ 32 - (fl l).toNat < 2 ^ 32 - (fl o).toNat := by omega
        simp only [Op.cmpValue, this, decide_false]
        decide
      · rw [e]
        have : ¬ 2 ^ 32 - (fl l).toNat < 2 ^ 32 - (fl o).toNat := by omega
        simp only [Op.cmpValue, this, decide_false]
        decide
      · rw [e]
        have : 2 ^ 32 - (fl l).toNat < 2 ^ 32 - (fl o).toNat := by omega
        simp only [Op.cmpValue, this, decide_true]
        decide
    · rw [if_neg m2, if_neg m2, if_neg m2]
      simp
theorem fp_RK {L mode : Nat} (hm : mode < 3) {fl : Nat → UInt32} (h : ∀ l, l < L → Fp (fl l)) : RK mode fl L (kkf mode fl) := by
  intro o l ho hl
  have hlt := (fl l).toNat_lt
  have hot := (fl o).toNat_lt
  unfold rkB bef kkf
  by_cases m1 : mode = 1
  · subst m1
    simp
  · rw [if_neg m1]
    by_cases m0 : mode = 0
    · rw [if_pos m0, if_pos m0, if_pos m0]
      rcases fp_cmp (h o ho) (h l hl) with ⟨c, e⟩ | ⟨c, e⟩ | ⟨c, e⟩
      · rw [e]
        have z : ¬ Op.cmpValue (some .lt) .l = 0 := by decide
        rw [if_neg z]
        simp only [Op.cmpValue, c, decide_true, Bool.true_or]
        decide
      · rw [e]
        have z : Op.cmpValue (some .eq) .l = 0 := rfl
        rw [if_pos z]
        have : ¬ (fl o).toNat < (fl l).toNat := by omega
        simp [c]
      · rw [e]
        have z : ¬ Op.cmpValue (some .gt) .l = 0 := by decide
        rw [if_neg z]
        have t1 : ¬ (fl o).toNat < (fl l).toNat := by omega
        have t2 : ¬ (fl o).toNat = (fl l).toNat := by omega
        simp only [Op.cmpValue, t1, t2, decide_false, Bool.false_or, Bool.false_and]
        decide
    · have m2 : mode = 2 := by omega
      rw [if_neg m0, if_neg m0, if_pos m2, if_neg m0, if_pos m2]
      rcases fp_cmp (h o ho) (h l hl) with ⟨c, e⟩ | ⟨c, e⟩ | ⟨c, e⟩
      · rw [e]
        have z : ¬ Op.cmpValue (some .lt) .l = 0 := by decide
        rw [if_neg z]
        have t1 : ¬ 2 ^ 32 - (fl o).toNat < 2 ^ 32 - (fl l).toNat := by omega
        have t2 : ¬ 2 ^ 32 - (fl o).toNat = 2 ^ 32 - (fl l).toNat := by omega
        simp only [Op.cmpValue, t1, t2, decide_false, Bool.false_or, Bool.false_and]
        decide
      · rw [e]
        have z : Op.cmpValue (some .eq) .l = 0 := rfl
        rw [if_pos z]
        simp [c]
      · rw [e]
        have z : ¬ Op.cmpValue (some .gt) .l = 0 := by decide
        rw [if_neg z]
        have t1 : 2 ^ 32 - (fl o).toNat < 2 ^ 32 - (fl l).toNat := by omega
        simp only [Op.cmpValue, t1, decide_true, Bool.true_or]
        decide
theorem fp_grt {x : UInt32} (h : Fp x) : grt x = decide (1148846080 < x.toNat) := by
  have hk : Fp (1148846080 : UInt32) := by show (1148846080 : UInt32).toNat < _; decide
  have e1 : (1148846080 : UInt32).toNat = 1148846080 := rfl
  unfold grt
  rcases fp_cmp h hk with ⟨c, e⟩ | ⟨c, e⟩ | ⟨c, e⟩
  · rw [e]
    have : ¬ 1148846080 < x.toNat := by omega
    simp only [Op.cmpValue, this, decide_false]
    decide
  · rw [e]
    have : ¬ 1148846080 < x.toNat := by omega
    simp only [Op.cmpValue, this, decide_false]
    decide
  · rw [e]
    have : 1148846080 < x.toNat := by omega
    simp only [Op.cmpValue, this, decide_true]
    decide
theorem fp_fin {x : UInt32} (h : Fp x) : ∃ c q, FP.Core.val32 x = .fin false c q := by
  have h1 : FP.Core.FFin x := by
    rw [FP.Core.fin_bits32]
    unfold Fp at h
    show x.toNat % 2147483648 < 2139095040
    omega
  obtain ⟨s, c, q, h2⟩ := h1
  have h3 := FP.Core.sign_bits32 (Or.inl ⟨c, q, h2⟩)
  cases s with
  | false => exact ⟨c, q, h2⟩
  | true =>
    have : 2147483648 ≤ x.toNat := h3.mp rfl
    unfold Fp at h
    omega
theorem sgn_pos {x : UInt32} (h : FP.Core.sgn (FP.Core.val32 x) = false) (hn : FP.Core.val32 x ≠ .nan) : x.toNat < 2147483648 := by
  rw [FP.Core.sgn_bits32 hn] at h
  have h : ¬ 2147483648 ≤ x.toNat := of_decide_eq_false h
  omega
theorem fadd_fp {a b : UInt32} {K : Nat} (ha : a.toNat < K * 8388608) (hb : b.toNat < K * 8388608) (hK : K ≤ 200) : (FP.fadd a b).toNat < (K + 2) * 8388608 := by
  have fa : Fp a := by unfold Fp; omega
  have fb : Fp b := by unfold Fp; omega
  have h1 : (FP.fadd a b).toNat % 2147483648 < (K + 2) * 8388608 := FP.Core.fadd_mag (K := K) (by show a.toNat % 2147483648 < K * 8388608; omega) (by show b.toNat % 2147483648 < K * 8388608; omega) (by omega)
  have hne : FP.Core.val32 (FP.fadd a b) ≠ .nan := by
    rw [FP.Core.ne_nan32]
    show _ % 2147483648 ≤ 2139095040
    omega
  obtain ⟨c, q, ea⟩ := fp_fin fa
  obtain ⟨d, r, eb⟩ := fp_fin fb
  have hs : FP.Core.sgn (FP.Core.val32 (FP.fadd a b)) = false := by
    have e : FP.Core.val32 (FP.fadd a b) = FP.Core.round FP.Core.b32 (FP.Core.exactSum (FP.Core.val32 a) (FP.Core.val32 b)) := FP.Core.val32_fadd a b
    rw [e, ea, eb]
    show FP.Core.sgn (FP.Core.roundRatio _ _ _ 1 _) = false
    rw [FP.Core.sgn_roundRatio]
    have e2 : FP.Core.sumUnits false c q false d r (min q r) = (FP.Core.inUnits c q (min q r) : Int) + (FP.Core.inUnits d r (min q r) : Int) := rfl
    rw [e2]
    unfold FP.Core.sumSign
    split
    · rfl
    · exact decide_eq_false (by omega)
  have := sgn_pos hs hne
  omega
theorem fmul_fp {a b : UInt32} {Ka Kb : Nat} (ha : a.toNat < Ka * 8388608) (hb : b.toNat < Kb * 8388608) (hKa : Ka ≤ 200) (hKb : Kb ≤ 200) (hKK : Ka + Kb - 129 + 3 ≤ 255) : (FP.fmul a b).toNat < (Ka + Kb - 129 + 3) * 8388608 := by
  have fa : Fp a := by unfold Fp; omega
  have fb : Fp b := by unfold Fp; omega
  have h1 : (FP.fmul a b).toNat % 2147483648 < (Ka + Kb - 129 + 3) * 8388608 := FP.Core.fmul_mag (Ka := Ka) (Kb := Kb) (by show a.toNat % 2147483648 < Ka * 8388608; omega) (by show b.toNat % 2147483648 < Kb * 8388608; omega) (by omega) (by omega)
  have hne : FP.Core.val32 (FP.fmul a b) ≠ .nan := by
    rw [FP.Core.ne_nan32]
    show _ % 2147483648 ≤ 2139095040
    omega
  obtain ⟨c, q, ea⟩ := fp_fin fa
  obtain ⟨d, r, eb⟩ := fp_fin fb
  have hs : FP.Core.sgn (FP.Core.val32 (FP.fmul a b)) = false := by
    have e : FP.Core.val32 (FP.fmul a b) = FP.Core.round FP.Core.b32 (FP.Core.exactProduct (FP.Core.val32 a) (FP.Core.val32 b)) := FP.Core.val32_fmul a b
    rw [e, ea, eb]
    show FP.Core.sgn (FP.Core.roundRatio _ _ _ 1 _) = false
    rw [FP.Core.sgn_roundRatio]
    rfl
  have := sgn_pos hs hne
  omega
theorem fadd_ge {a b : UInt32} (ha : a.toNat < 200 * 8388608) (hb : b.toNat < 200 * 8388608) : b.toNat ≤ (FP.fadd a b).toNat := by
  have fa : Fp a := by unfold Fp; omega
  have fb : Fp b := by unfold Fp; omega
  have hs := fadd_fp ha hb (Nat.le_refl _)
  have fs : Fp (FP.fadd a b) := by unfold Fp; omega
  have hge : FP.Core.zval FP.Core.b32 (FP.Core.val32 b) ≤ FP.Core.zval FP.Core.b32 (FP.Core.val32 (FP.fadd a b)) := by
    have e : FP.Core.val32 (FP.fadd a b) = FP.Core.round FP.Core.b32 (FP.Core.exactSum (FP.Core.val32 a) (FP.Core.val32 b)) := FP.Core.val32_fadd a b
    rw [e]
    obtain ⟨c, q, ea⟩ := fp_fin fa
    obtain ⟨d, r, eb⟩ := fp_fin fb
    have hz := FP.Core.zval_nonneg32 (fp_val fa) (show a.toNat < 2147483648 by omega)
    exact FP.Core.sum_ge FP.Core.good_b32 ⟨_, _, _, ea⟩ ⟨_, _, _, eb⟩ (FP.Core.val32_fits a) (FP.Core.val32_fits b) (FP.Core.val32_fits b) (fp_val fb) (by omega)
  refine Nat.le_of_not_lt fun hlt => ?_
  have h1 : FP.Core.fcmp (FP.fadd a b) b = some .lt := (FP.Core.mono_bits32 (fp_val fs) (fp_val fb) (show (FP.fadd a b).toNat < 2147483648 by omega) (show b.toNat < 2147483648 by omega)).1.mpr hlt
  have := (FP.Core.fcmp_lt.mp h1).2.2
  omega
/-! activities all along -/
def FI (b6 : Nat) (fl : Nat → UInt32) : Prop := (∀ l, l < 6 → (fl l).toNat ≤ 1148846080) ∧ (fl 6).toNat < b6 * 8388608
theorem FI_Fp {b6 : Nat} (hb : b6 ≤ 141) {fl : Nat → UInt32} (h : FI b6 fl) : ∀ l, l < 7 → Fp (fl l) := by
  intro l hl
  unfold Fp
  by_cases h6 : l = 6
  · subst h6
    have := h.2
    omega
  · have := h.1 l (by omega)
    omega
theorem FI_NG {b6 L : Nat} (hL : L < 7) (hb : b6 ≤ 141) {fl : Nat → UInt32} (h : FI b6 fl) : NG L fl := by
  intro l hl
  rw [fp_grt (FI_Fp hb h l (by omega))]
  have := h.1 l (by omega)
  simp
  omega
theorem bmp2_lt {b6 L mask : Nat} (hL : L < 7) (hb : b6 ≤ 141) {fl : Nat → UInt32} (h : FI b6 fl) (hb2 : 137 ≤ b6) : (∀ l, l < 6 → (bmp2 L mask fl l).toNat < (b6 + 2) * 8388608) ∧ (bmp2 L mask fl 6).toNat < (b6 + 2) * 8388608 := by
  refine ⟨fun l hl => ?_, ?_⟩
  · unfold bmp2 bmp1
    rw [up_n _ _ _ (by omega)]
    have h1 := h.1 l hl
    split
    · exact fadd_fp (K := b6) (by omega) h.2 (by omega)
    · omega
  · have e : bmp2 L mask fl 6 = FP.fmul (fl 6) 1069547520 := up_e _ _ _
    rw [e]
    have hk : (1069547520 : UInt32).toNat < 128 * 8388608 := by decide
    have := fmul_fp (Ka := b6) (Kb := 128) h.2 hk (by omega) (by omega) (by omega)
    rw [show b6 + 128 - 129 + 3 = b6 + 2 by omega] at this
    exact this
theorem FI_BOk {b6 L mask : Nat} (hL : L < 7) (hb : b6 ≤ 141) (hb2 : 137 ≤ b6) {fl : Nat → UInt32} (h : FI b6 fl) : BOk L mask fl := by
  obtain ⟨h1, h2⟩ := bmp2_lt (mask := mask) hL hb h hb2
  have hk : (1069547520 : UInt32).toNat < 128 * 8388608 := by decide
  have hk2 : (981668463 : UInt32).toNat < 118 * 8388608 := by decide
  refine ⟨fun l hl => fp_nan ?_, fp_nan ?_, fun l hl => fp_nan ?_⟩
  · have := fadd_fp (K := b6) (a := fl l) (b := fl 6) (by have := h.1 l (by omega); omega) h.2 (by omega)
    unfold Fp
    omega
  · have := fmul_fp (Ka := b6) (Kb := 128) h.2 hk (by omega) (by omega) (by omega)
    unfold Fp
    omega
  · have hlt : (bmp2 L mask fl l).toNat < (b6 + 2) * 8388608 := by
      by_cases h6 : l = 6
      · rw [h6]; exact h2
      · exact h1 l (by omega)
    have := fmul_fp (Ka := b6 + 2) (Kb := 118) hlt hk2 (by omega) (by omega) (by omega)
    unfold Fp
    omega
/-- as a cube with letters is barred -/
theorem FI_bump {L mask : Nat} (hL : L < 7) (hm : mask < 2 ^ L) (h0 : mask ≠ 0) {fl : Nat → UInt32} (h : FI 139 fl) : FI 139 (bumpF L mask fl) := by
  obtain ⟨h1, h2⟩ := bmp2_lt (mask := mask) hL (by omega) h (by omega)
  have hk2 : (981668463 : UInt32).toNat < 118 * 8388608 := by decide
  unfold bumpF
  cases hg : bmpG L mask fl with
  | true =>
    refine ⟨fun l hl => ?_, ?_⟩
    · show (bmp3 _ 7 l).toNat ≤ _
      unfold bmp3
      rw [if_pos (by omega)]
      have := fmul_fp (Ka := 141) (Kb := 118) (h1 l hl) hk2 (by omega) (by omega) (by omega)
      omega
    · show (bmp3 _ 7 6).toNat < _
      unfold bmp3
      rw [if_pos (by omega)]
      have := fmul_fp (Ka := 141) (Kb := 118) h2 hk2 (by omega) (by omega) (by omega)
      omega
  | false =>
    unfold bmpG at hg
    rw [List.any_eq_false] at hg
    have hle : ∀ l, l < L → (bmp2 L mask fl l).toNat ≤ 1148846080 := by
      intro l hl
      have := hg l (List.mem_range.mpr hl)
      have hf : Fp (bmp2 L mask fl l) := by
        have := h1 l (by omega)
        unfold Fp
        omega
      rw [fp_grt hf] at this
      simp at this
      omega
    refine ⟨fun l hl => ?_, ?_⟩
    · by_cases hlL : l < L
      · exact hle l hlL
      · have e : bmp2 L mask fl l = fl l := by
          unfold bmp2 bmp1
          rw [up_n _ _ _ (by omega), if_neg (by omega)]
        show (bmp2 L mask fl l).toNat ≤ _
        rw [e]
        exact h.1 l hl
    · obtain ⟨l, hl⟩ : ∃ l, mask.testBit l = true := by
        refine Classical.byContradiction fun hn => h0 ?_
        refine Nat.eq_of_testBit_eq fun i => ?_
        rw [Nat.zero_testBit]
        cases hb : mask.testBit i with
        | false => rfl
        | true => exact absurd ⟨i, hb⟩ hn
      have hlL : l < L := Nat.lt_of_not_le fun hle => by rw [tb_lt hm hle] at hl; cases hl
      have e : bmp2 L mask fl l = FP.fadd (fl l) (fl 6) := by
        unfold bmp2 bmp1
        rw [up_n _ _ _ (by omega), if_pos ⟨hlL, hl⟩]
      have h3 := hle l hlL
      rw [e] at h3
      have h4 := fadd_ge (a := fl l) (b := fl 6) (by have := h.1 l (by omega); omega) (by have := h.2; omega)
      have hk : (1069547520 : UInt32).toNat < 128 * 8388608 := by decide
      have e6 : bmp2 L mask fl 6 = FP.fmul (fl 6) 1069547520 := up_e _ _ _
      show (bmp2 L mask fl 6).toNat < _
      rw [e6]
      have := fmul_fp (Ka := 137) (Kb := 128) (a := fl 6) (by omega) hk (by omega) (by omega) (by omega)
      omega
/-- as the cube of all is barred -/
theorem FI_bump0 {L : Nat} (hL : L < 7) {fl : Nat → UInt32} (h : FI 139 fl) : FI 141 (bumpF L 0 fl) := by
  obtain ⟨h1, h2⟩ := bmp2_lt (mask := 0) hL (by omega) h (by omega)
  have hk2 : (981668463 : UInt32).toNat < 118 * 8388608 := by decide
  have e : ∀ l, l < 6 → bmp2 L 0 fl l = fl l := by
    intro l hl
    unfold bmp2 bmp1
    rw [up_n _ _ _ (by omega), if_neg (by simp)]
  unfold bumpF
  cases hg : bmpG L 0 fl with
  | true =>
    exfalso
    unfold bmpG at hg
    rw [List.any_eq_true] at hg
    obtain ⟨l, hl, hb⟩ := hg
    have hl := List.mem_range.mp hl
    rw [e l (by omega), FI_NG hL (by omega) h l hl] at hb
    cases hb
  | false =>
    refine ⟨fun l hl => ?_, ?_⟩
    · show (bmp2 L 0 fl l).toNat ≤ _
      rw [e l hl]
      exact h.1 l hl
    · exact h2
