/-! TOKENS: one byte -/
def isF (b : Nat) : Bool := decide (48 ≤ b) && decide (b ≤ 57)
def isS (b : Nat) : Bool := decide (97 ≤ b) && decide (b ≤ 122)
def isG (b : Nat) : Bool := [40, 41, 33, 38, 94, 124, 59].contains b
theorem tk_small : ∀ b, b < 256 → m_X7_isSmall (sg b) = some (if isS b = true then 1 else 0) := by decide +kernel
theorem tk_digit : ∀ b, b < 256 → m_X7_isDigit (sg b) = some (if isF b = true then 1 else 0) := by decide +kernel
theorem tm_small : ∀ b, b < 256 → m_X12_isLetterByte (nI b) = some (if isS b = true then 1 else 0) := by decide +kernel
theorem tm_digit : ∀ b, b < 256 → m_X12_isFigure (nI b) = some (if isF b = true then 1 else 0) := by decide +kernel
theorem tm_sign : ∀ b, b < 256 → m_X12_isSign (nI b) = some (if isG b = true then 1 else 0) := by decide +kernel
theorem tm_m1 : m_X12_isLetterByte (-1) = some 0 ∧ m_X12_isFigure (-1) = some 0 := by decide +kernel
theorem sg_eq : ∀ b, b < 256 → ∀ v, v < 128 → (sg b = nI v ↔ b = v) := by decide +kernel
theorem wr_b6 (c : Ce) (m : Nat) (μ : MS) {k : Nat} (hk : k < 300) : aI (wr c m μ) (m + 7) (nI k) = some (μ.1 6 k) := by
  rw [wr_r6, if_neg (nI_in hk (by omega)), nI_clamp (by omega)]
theorem sr_byteAt (c : Ce) (m : Nat) {μ : MS} {n k : Nat} (hz : μ.2.2.2 0 = nI n) (hn : n ≤ 300) (hk : k < 2 ^ 31) : m_X12_byteAt (wr c m μ) m (nI k) = some (if k < n then μ.1 6 k else -1) := by
  unfold m_X12_byteAt
  rw [wr_g7, bind_s, hz, if_le (by omega) hk]
  by_cases h : k < n
  · rw [if_neg (by omega), if_pos h, wr_g6, bind_s, wr_b6 c m μ (by omega), bind_s]
  · rw [if_pos (by omega), if_neg h]
