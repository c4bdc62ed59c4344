/-! THE REFERENCE's sets in its row a: at 18 + 2k and 19 + 2k -/
abbrev allS (l : Nat) : Int64 := mkS fun s => decide (s < 2 ^ l)
theorem sr_allOf : ∀ l, l < 7 → m_X12_allOf (nI l) = some (allS l) := by decide +kernel
theorem sr_all (c : Ce) (m : Nat) (μ : MS) {l : Nat} (hl : l < 7) (h : μ.1 0 3 = nI l) : m_X12_all (wr c m μ) m = some (allS l) := by
  unfold m_X12_all
  rw [wr_g0, bind_s, nl_3, wr_a0 c m μ (by decide), bind_s, h, sr_allOf l hl, bind_s]
def lset (a : Nat → Int32) (k : Nat) : Int64 := ((a (19 + 2 * k)).toInt64 <<< ((32 : Int32).toInt64 &&& 63)) ||| ((a (18 + 2 * k)).toInt64 &&& 4294967295)
theorem sr_setOf (c : Ce) (m : Nat) (μ : MS) {k : Nat} (hk : k < 5) : m_X12_setOf (wr c m μ) m (nI k) = some (lset (μ.1 0) k) := by
  unfold m_X12_setOf
  rw [wr_g0, bind_s, nl_18, nl_2, nl_1, pk_mul, nI_add, nI_add, wr_a0 c m μ (by omega), bind_s, bind_s, wr_a0 c m μ (by omega), bind_s]
  have e : 18 + 2 * k + 1 = 19 + 2 * k := by omega
  rw [e]
  rfl
theorem sr_starts (c : Ce) (m : Nat) (μ : MS) : m_X12_starts (wr c m μ) m = some (lset (μ.1 0) 0) := by
  unfold m_X12_starts
  rw [wr_rcv, bind_s, nl_0, sr_setOf c m μ (by decide), bind_s]
theorem sr_aims (c : Ce) (m : Nat) (μ : MS) {k : Nat} (hk : k < 4) (h : μ.1 0 8 = nI k) : m_X12_aims (wr c m μ) m = some (lset (μ.1 0) (1 + k)) := by
  unfold m_X12_aims
  rw [wr_g0, bind_s, nl_8, wr_a0 c m μ (by decide), bind_s, wr_rcv, bind_s, h, nl_1, nI_add, sr_setOf c m μ (by omega), bind_s]
/-- one number of the row a -/
def ma (μ : MS) (k : Nat) (v : Int32) : MS := (va_up μ.1 0 (va_up (μ.1 0) k v), μ.2)
theorem ma_at (μ : MS) (k : Nat) (v : Int32) (j : Nat) : (ma μ k v).1 0 j = if j = k then v else μ.1 0 j := by
  unfold ma va_up
  rfl
theorem wr_u0 (c : Ce) (m : Nat) (μ : MS) {k : Nat} (hk : k < 113844) (v : Int32) : sI (wr c m μ) (m + 1) (nI k) v = some (wr c m (ma μ k v)) := by
  rw [wr_s0, if_neg (nI_in hk (by omega)), nI_clamp (by omega)]
  rfl
theorem sr_putSet (c : Ce) (m : Nat) (μ : MS) {k : Nat} (hk : k < 5) (x : Int64) : m_X12_putSet (wr c m μ) m (nI k) x = some ((), wr c m (ma (ma μ (18 + 2 * k) x.toInt32) (19 + 2 * k) (x >>> ((32 : Int32).toInt64 &&& 63)).toInt32)) := by
  unfold m_X12_putSet
  rw [wr_g0, bind_s]
  have e1 : (18 : Int32) + (2 : Int32) * nI k = nI (18 + 2 * k) := by rw [nl_18, nl_2, pk_mul, nI_add]
  have e2 : nI (18 + 2 * k) + (1 : Int32) = nI (19 + 2 * k) := by rw [nI_1]; congr 1; omega
  rw [e1, wr_u0 c m μ (by omega), bind_s, wr_g0, bind_s, e2, wr_u0 c m _ (by omega), bind_s]
theorem lset_put (a : Nat → Int32) (k : Nat) (x : Int64) (h1 : a (18 + 2 * k) = x.toInt32) (h2 : a (19 + 2 * k) = (x >>> ((32 : Int32).toInt64 &&& 63)).toInt32) : lset a k = x := by
  unfold lset
  rw [h1, h2]
  exact pair_long x
