/-! A LONG IN TWO INTS -/
def bI (y : Int32) (k : Nat) : Bool := y.toBitVec.getLsbD k
theorem B_toL (y : Int32) {k : Nat} (hk : k < 64) : B y.toInt64 k = if k < 32 then bI y k else y.toBitVec.msb := by
  unfold B bI
  rw [Int32.toBitVec_toInt64, BitVec.getLsbD_signExtend]
  simp [hk]
theorem B_lo : ∀ k, k < 64 → B (4294967295 : Int64) k = decide (k < 32) := by decide +kernel
theorem sh_32 : (((32 : Int32).toInt64 &&& 63).toBitVec.smod 64).toNat = 32 := by decide +kernel
theorem B_shl32 (x : Int64) {k : Nat} (hk : k < 64) : B (x <<< ((32 : Int32).toInt64 &&& 63)) k = (decide (32 ≤ k) && B x (k - 32)) := by
  unfold B
  rw [Int64.toBitVec_shiftLeft]
  show (x.toBitVec <<< ((((32 : Int32).toInt64 &&& 63)).toBitVec.smod 64).toNat).getLsbD k = _
  rw [sh_32, BitVec.getLsbD_shiftLeft]
  by_cases h : k < 32
  · have h2 : ¬ 32 ≤ k := by omega
    simp [h, h2]
  · have h2 : 32 ≤ k := by omega
    simp [h, h2, hk]
theorem bI_lo (x : Int64) {k : Nat} (hk : k < 32) : bI x.toInt32 k = B x k := by
  unfold B bI
  rw [Int64.toBitVec_toInt32, BitVec.getLsbD_signExtend]
  have h2 : k < 64 := by omega
  simp [hk, h2]
theorem bI_hi (x : Int64) {k : Nat} (hk : k < 32) : bI (x >>> ((32 : Int32).toInt64 &&& 63)).toInt32 k = B x (32 + k) := by
  rw [bI_lo _ hk]
  have h := B_shr (x := x) (k := 32) (by decide) (j := k) (by omega)
  rw [if_pos (by omega)] at h
  exact h
theorem pair_long (x : Int64) : ((x >>> ((32 : Int32).toInt64 &&& 63)).toInt32.toInt64 <<< ((32 : Int32).toInt64 &&& 63)) ||| (x.toInt32.toInt64 &&& 4294967295) = x := by
  refine B_ext fun k hk => ?_
  rw [B_or, B_and, B_shl32 _ hk, B_lo k hk]
  by_cases h : k < 32
  · have h2 : ¬ 32 ≤ k := by omega
    rw [B_toL _ hk, if_pos h, bI_lo x h]
    simp [h, h2]
  · have h2 : 32 ≤ k := by omega
    rw [B_toL _ (by omega : k - 32 < 64), if_pos (by omega), bI_hi x (by omega)]
    have e : 32 + (k - 32) = k := by omega
    rw [e]
    simp [h, h2]
