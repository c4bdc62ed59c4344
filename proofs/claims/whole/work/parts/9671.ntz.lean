/-! THE LOWEST OF A SET, as the library finds it -/
theorem tb_predlow {n k : Nat} (hk : n.testBit k = true) (h : ∀ j, j < k → n.testBit j = false) {j : Nat} (hj : j < k) : (n - 1).testBit j = true := by
  have h0 := tb_low h
  have hp : 0 < 2 ^ k := Nat.two_pow_pos k
  have hn0 : n ≠ 0 := fun hz => by rw [hz, Nat.zero_testBit] at hk; cases hk
  have e : (n - 1) % 2 ^ k = 2 ^ k - 1 := by
    have hdm := Nat.div_add_mod n (2 ^ k)
    rw [h0] at hdm
    generalize hQ : n / 2 ^ k = Q at hdm
    have hQ0 : Q ≠ 0 := fun hz => by rw [hz, Nat.mul_zero] at hdm; omega
    obtain ⟨R, rfl⟩ : ∃ R, Q = R + 1 := ⟨Q - 1, by omega⟩
    have h3 : n - 1 = 2 ^ k * R + (2 ^ k - 1) := by
      have : 2 ^ k * (R + 1) = 2 ^ k * R + 2 ^ k := Nat.mul_succ _ R
      omega
    rw [h3, Nat.mul_add_mod, Nat.mod_eq_of_lt (by omega)]
  have h1 := Nat.testBit_mod_two_pow (n - 1) k j
  rw [e, Nat.testBit_two_pow_sub_one] at h1
  simp [hj] at h1
  exact h1
theorem bI_ext {x y : Int32} (h : ∀ k, k < 32 → bI x k = bI y k) : x = y := by
  refine Int32.toBitVec_inj.mp (BitVec.eq_of_getLsbD_eq fun i hi => ?_)
  exact h i hi
theorem bI_nI {n k : Nat} (hk : k < 32) : bI (nI n) k = n.testBit k := by
  unfold bI
  rw [nI_bv, BitVec.getLsbD_ofNat]
  simp [hk]
theorem bI_m1 : ∀ k, k < 32 → bI (-1) k = true := by decide +kernel
/-- numberOfTrailingZeros by what it works with -/
def ntzY (y : Int32) : Option Int32 := if 0 < y then (if y ≤ (65536 : Int32) then some (y, (1 : Int32)) else some ((usr32 y (16 : Int32)), ((1 : Int32) + (16 : Int32)))).bind fun (zj1 : Int32 × Int32) => (if zj1.1 ≤ (256 : Int32) then some (zj1.1, zj1.2) else some ((usr32 zj1.1 (8 : Int32)), (zj1.2 + (8 : Int32)))).bind fun (zj2 : Int32 × Int32) => (if zj2.1 ≤ (16 : Int32) then some (zj2.1, zj2.2) else some ((usr32 zj2.1 (4 : Int32)), (zj2.2 + (4 : Int32)))).bind fun (zj3 : Int32 × Int32) => (if zj3.1 ≤ (4 : Int32) then some (zj3.1, zj3.2) else some ((usr32 zj3.1 (2 : Int32)), (zj3.2 + (2 : Int32)))).bind fun (zj4 : Int32 × Int32) => some (zj4.2 + (usr32 zj4.1 (1 : Int32))) else some (y &&& (32 : Int32))
theorem ntz_y (p : Int32) : m_J6_numberOfTrailingZeros_0f7a4 p = ntzY ((p ^^^ (-1 : Int32)) &&& (p - (1 : Int32))) := rfl
theorem ntzY_k : ∀ k, k < 32 → ntzY (nI (2 ^ k - 1)) = some (nI k) := by decide +kernel
theorem bI_tb (x : Int32) (k : Nat) : bI x k = x.toBitVec.toNat.testBit k := rfl
theorem cc_ntz {p : Int32} {k : Nat} (hk : k < 32) (hb : bI p k = true) (hl : ∀ j, j < k → bI p j = false) : m_J6_numberOfTrailingZeros_0f7a4 p = some (nI k) := by
  rw [ntz_y]
  have hn : p.toBitVec.toNat ≠ 0 := by
    intro hz
    rw [bI_tb, hz, Nat.zero_testBit] at hb
    cases hb
  have hlt := p.toBitVec.isLt
  have e : (p - 1).toBitVec.toNat = p.toBitVec.toNat - 1 := by
    rw [Int32.toBitVec_sub, BitVec.toNat_sub]
    have e1 : (1 : Int32).toBitVec.toNat = 1 := rfl
    rw [e1]
    omega
  have ey : (p ^^^ (-1 : Int32)) &&& (p - (1 : Int32)) = nI (2 ^ k - 1) := by
    refine bI_ext fun j hj => ?_
    rw [bI_nI hj, Nat.testBit_two_pow_sub_one]
    have e2 : bI ((p ^^^ (-1 : Int32)) &&& (p - (1 : Int32))) j = ((bI p j ^^ bI (-1) j) && bI (p - 1) j) := by
      unfold bI
      rw [Int32.toBitVec_and, BitVec.getLsbD_and, Int32.toBitVec_xor, BitVec.getLsbD_xor]
    rw [e2, bI_m1 j hj, bI_tb (p - 1), e]
    by_cases hjk : j < k
    · rw [tb_predlow (by rw [← bI_tb]; exact hb) (fun i hi => by rw [← bI_tb]; exact hl i hi) hjk, hl j hjk]
      simp [hjk]
    · rw [tb_pred (by rw [← bI_tb]; exact hb) (fun i hi => by rw [← bI_tb]; exact hl i hi) (by omega), ← bI_tb]
      cases bI p j <;> simp [hjk]
  rw [ey]
  exact ntzY_k k hk
theorem cc_lowest (x : Int64) : m_X9_lowest x = some (lowI x) := by
  unfold m_X9_lowest
  by_cases h0 : x = 0
  · subst h0
    rw [if_pos (lcmp_0.mpr rfl)]
    have : lowS 0 = none := lowS_none fun j _ => B_0 j
    rw [lowI_none this]
  · rw [if_neg (fun z => h0 (lcmp_0.mp z))]
    obtain ⟨k, hk, hb, hl⟩ := B_low h0
    rw [lowI_some (lowS_at hk hb hl)]
    unfold m_J13_numberOfTrailingZeros_95d88
    by_cases h32 : k < 32
    · have hz : ¬ x.toInt32 = 0 := by
        intro e
        have : bI x.toInt32 k = bI 0 k := by rw [e]
        rw [bI_lo x h32, hb] at this
        have h9 : ∀ k, k < 32 → bI 0 k = false := by decide +kernel
        rw [h9 k h32] at this
        cases this
      rw [if_neg hz, cc_ntz h32 (by rw [bI_lo x h32]; exact hb) (fun j hj => by rw [bI_lo x (by omega)]; exact hl j hj), bind_s, bind_s]
    · have hz : x.toInt32 = 0 := by
        refine bI_ext fun j hj => ?_
        rw [bI_lo x hj, hl j (by omega)]
        have h9 : ∀ k, k < 32 → bI 0 k = false := by decide +kernel
        rw [h9 j hj]
      have hu : ∀ j, j < 32 → bI (usr64 x (32 : Int32)).toInt32 j = B x (32 + j) := by
        intro j hj
        rw [bI_lo _ hj]
        exact B_ushr (k := 32) (by omega) j
      rw [if_pos hz, cc_ntz (k := k - 32) (by omega) (by rw [hu _ (by omega), show 32 + (k - 32) = k by omega]; exact hb) (fun j hj => by rw [hu _ (by omega)]; exact hl _ (by omega)), bind_s, nl_32, nI_add, bind_s, show 32 + (k - 32) = k by omega]
