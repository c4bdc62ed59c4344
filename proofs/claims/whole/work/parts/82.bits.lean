/-! SETS OF STATES: bits of longs -/
def B (x : Int64) (k : Nat) : Bool := x.toBitVec.getLsbD k
theorem B_and (x y : Int64) (k : Nat) : B (x &&& y) k = (B x k && B y k) := by unfold B; rw [Int64.toBitVec_and, BitVec.getLsbD_and]
theorem B_or (x y : Int64) (k : Nat) : B (x ||| y) k = (B x k || B y k) := by unfold B; rw [Int64.toBitVec_or, BitVec.getLsbD_or]
theorem B_xor (x y : Int64) (k : Nat) : B (x ^^^ y) k = (B x k ^^ B y k) := by unfold B; rw [Int64.toBitVec_xor, BitVec.getLsbD_xor]
theorem B_big {x : Int64} {k : Nat} (h : 64 ≤ k) : B x k = false := BitVec.getLsbD_of_ge _ _ h
theorem B_0 (k : Nat) : B 0 k = false := by unfold B; exact BitVec.getLsbD_zero
theorem B_m1 {k : Nat} (h : k < 64) : B (-1) k = true := by
  have e : ∀ k, k < 64 → B (-1) k = true := by decide +kernel
  exact e k h
theorem B_inv (x : Int64) {k : Nat} (h : k < 64) : B (x ^^^ (-1)) k = !B x k := by
  rw [B_xor, B_m1 h]
  cases B x k <;> rfl
theorem B_ext {x y : Int64} (h : ∀ k, k < 64 → B x k = B y k) : x = y := by
  refine Int64.toBitVec_inj.mp (BitVec.eq_of_getLsbD_eq fun i hi => ?_)
  exact h i hi
theorem B_ext0 {x : Int64} (h : ∀ k, k < 64 → B x k = false) : x = 0 := B_ext fun k hk => (h k hk).trans (B_0 k).symm
theorem B_ne0 {x : Int64} (h : x ≠ 0) : ∃ k, k < 64 ∧ B x k = true := by
  refine Classical.byContradiction fun hn => h (B_ext0 fun k hk => ?_)
  cases hb : B x k with
  | false => rfl
  | true => exact absurd ⟨k, hk, hb⟩ hn
theorem sh_c : ∀ k, k < 64 → ((nI k).toInt64 &&& 63) = lN k := by decide +kernel
theorem sh_m : ∀ k, k < 64 → ((lN k).toBitVec.smod 64).toNat = k := by decide +kernel
theorem sh_cu : ∀ k, k < 64 → ((nI k).toInt64.toUInt64 &&& Int64.toUInt64 63).toNat = k := by decide +kernel
theorem B_bit : ∀ k, k < 64 → ∀ j, j < 64 → B ((1 : Int64) <<< ((nI k).toInt64 &&& 63)) j = decide (j = k) := by decide +kernel
theorem B_shr {x : Int64} {k : Nat} (hk : k < 64) {j : Nat} (hj : j < 64) : B (x >>> ((nI k).toInt64 &&& 63)) j = if k + j < 64 then B x (k + j) else B x 63 := by
  unfold B
  rw [Int64.toBitVec_shiftRight]
  show (x.toBitVec.sshiftRight ((((nI k).toInt64 &&& 63)).toBitVec.smod 64).toNat).getLsbD j = _
  rw [sh_c k hk, sh_m k hk, BitVec.getLsbD_sshiftRight, BitVec.msb_eq_getLsbD_last]
  simp [hj]
theorem B_ushr {x : Int64} {k : Nat} (hk : k < 64) (j : Nat) : B (usr64 x (nI k)) j = B x (k + j) := by
  have e : (usr64 x (nI k)).toBitVec = x.toBitVec >>> k := by
    apply BitVec.eq_of_toNat_eq
    show (x.toUInt64 >>> ((nI k).toInt64.toUInt64 &&& Int64.toUInt64 63)).toNat = _
    rw [UInt64.toNat_shiftRight, sh_cu k hk, Nat.mod_eq_of_lt hk, BitVec.toNat_ushiftRight]
    rfl
  unfold B
  rw [e, BitVec.getLsbD_ushiftRight]
theorem and1 (x : Int64) : x &&& 1 = if B x 0 then 1 else 0 := by
  refine B_ext fun k hk => ?_
  rw [B_and]
  have e : ∀ k, k < 64 → B 1 k = decide (k = 0) := by decide +kernel
  rw [e k hk]
  by_cases h0 : k = 0
  · subst h0
    cases hb : B x 0 <;> simp [B_0, e 0 (by decide)]
  · cases hb : B x 0 <;> simp [h0, B_0, e k hk]
/-- has, on both sides -/
theorem mh_has (x : Int64) {k : Nat} (hk : k < 64) : m_X12_has x (nI k) = some (if B x k then 1 else 0) := by
  have e : B (x >>> ((nI k).toInt64 &&& 63)) 0 = B x k := by
    rw [B_shr hk (by decide)]
    have h0 : k + 0 < 64 := by omega
    rw [if_pos h0]
    rfl
  unfold m_X12_has
  rw [and1, e]
  cases B x k
  · rfl
  · rfl
theorem ch_has (x : Int64) {k : Nat} (hk : k < 64) : m_X9_has x (nI k) = some (if B x k then 1 else 0) := by
  unfold m_X9_has
  rw [and1, B_ushr hk]
  show (if lg_cmp (if B x k then 1 else 0) 0 = 0 then some (0 : Int32) else some 1) = _
  cases B x k
  · rfl
  · rfl
