/-! bitCount of a long -/
def nn (x : Int64) : Nat := x.toBitVec.toNat
theorem nn_and (x y : Int64) : nn (x &&& y) = nn x &&& nn y := by
  unfold nn
  rw [Int64.toBitVec_and, BitVec.toNat_and]
theorem nn_sub {x y : Int64} (h : nn y ≤ nn x) : nn (x - y) = nn x - nn y := by
  unfold nn at *
  have h1 := x.toBitVec.isLt
  rw [Int64.toBitVec_sub, BitVec.toNat_sub]
  omega
theorem nn_add {x y : Int64} (h : nn x + nn y < 18446744073709551616) : nn (x + y) = nn x + nn y := by
  unfold nn at *
  rw [Int64.toBitVec_add, BitVec.toNat_add]
  omega
theorem nn_usr {x : Int64} {k : Nat} (hk : k < 64) : nn (usr64 x (nI k)) = nn x / 2 ^ k := by
  have e : (usr64 x (nI k)).toBitVec = x.toBitVec >>> k := by
    apply BitVec.eq_of_toNat_eq
    show (x.toUInt64 >>> ((nI k).toInt64.toUInt64 &&& Int64.toUInt64 63)).toNat = _
    rw [UInt64.toNat_shiftRight, sh_cu k hk, Nat.mod_eq_of_lt hk, BitVec.toNat_ushiftRight]
    rfl
  unfold nn
  rw [e, BitVec.toNat_ushiftRight, Nat.shiftRight_eq_div_pow]
def qc1 (x : Int64) : Int64 := x - ((usr64 x (1 : Int32)) &&& (6148914691236517205 : Int64))
def qc2 (x : Int64) : Int64 := (x &&& (3689348814741910323 : Int64)) + ((usr64 x (2 : Int32)) &&& (3689348814741910323 : Int64))
def qc3 (x : Int64) : Int64 := (x + (usr64 x (4 : Int32))) &&& (1085102592571150095 : Int64)
def qc4 (x : Int64) : Int64 := x + (usr64 x (8 : Int32))
def qc5 (x : Int64) : Int64 := x + (usr64 x (16 : Int32))
def qc6 (x : Int64) : Int64 := x + (usr64 x (32 : Int32))
theorem bc_q (x : Int64) : m_J13_bitCount_95d88 x = some ((Int64.toInt32 (qc6 (qc5 (qc4 (qc3 (qc2 (qc1 x))))))) &&& (127 : Int32)) := rfl
theorem rp_85 : rp 85 8 = 6148914691236517205 := by decide
theorem rp_51 : rp 51 8 = 3689348814741910323 := by decide
theorem rp_15 : rp 15 8 = 1085102592571150095 := by decide
theorem cnt_nn (x : Int64) : cnt x = sumB 8 (nn x) := by
  rw [← cnt_bytes]
  rfl
theorem cc_bitCount (x : Int64) : m_J13_bitCount_95d88 x = some (nI (cnt x)) := by
  have hx : nn x < 256 ^ 8 := x.toBitVec.isLt
  obtain ⟨a1, a2, a3, a4, a5⟩ := S_all 8 (nn x) hx
  have c1 : nn (6148914691236517205 : Int64) = rp 85 8 := by decide
  have c2 : nn (3689348814741910323 : Int64) = rp 51 8 := by decide
  have c3 : nn (1085102592571150095 : Int64) = rp 15 8 := by decide
  have e1 : nn (qc1 x) = S1 8 (nn x) := by
    unfold qc1 S1
    have e : nn ((usr64 x (1 : Int32)) &&& (6148914691236517205 : Int64)) = nn x / 2 &&& rp 85 8 := by rw [nn_and, c1, nl_1, nn_usr (by omega)]
    rw [nn_sub (by rw [e]; exact a1), e]
  have hand : ∀ a b : Nat, a &&& b ≤ b := fun a b => Nat.and_le_right
  have e2 : nn (qc2 (qc1 x)) = S2 8 (S1 8 (nn x)) := by
    unfold qc2 S2
    have f1 : nn (qc1 x &&& (3689348814741910323 : Int64)) = S1 8 (nn x) &&& rp 51 8 := by rw [nn_and, c2, e1]
    have f2 : nn ((usr64 (qc1 x) (2 : Int32)) &&& (3689348814741910323 : Int64)) = S1 8 (nn x) / 4 &&& rp 51 8 := by rw [nn_and, c2, nl_2, nn_usr (by omega), e1]
    have g1 := hand (S1 8 (nn x)) (rp 51 8)
    have g2 := hand (S1 8 (nn x) / 4) (rp 51 8)
    rw [rp_51] at g1 g2
    rw [nn_add (by rw [f1, f2, rp_51]; omega), f1, f2]
  have hs2 : S2 8 (S1 8 (nn x)) ≤ 2 * 3689348814741910323 := by
    unfold S2
    have g1 := hand (S1 8 (nn x)) (rp 51 8)
    have g2 := hand (S1 8 (nn x) / 4) (rp 51 8)
    rw [rp_51] at g1 g2 ⊢
    omega
  have e3 : nn (qc3 (qc2 (qc1 x))) = pcs 8 (nn x) := by
    rw [← a3]
    unfold qc3 S3
    have f : nn (usr64 (qc2 (qc1 x)) (4 : Int32)) = S2 8 (S1 8 (nn x)) / 16 := by rw [nl_4, nn_usr (by omega), e2]
    rw [nn_and, c3, nn_add (by rw [f, e2]; omega), f, e2]
  have hb : ∀ l, l < 256 → cntN (fun j => l.testBit j) 8 ≤ 8 := fun l hl => (byte_f l hl).2.2.2.2.2.2
  have hm : ∀ n : Nat, n % 256 < 256 := fun n => Nat.mod_lt _ (by omega)
  obtain ⟨d1, d2, d3, d4⟩ := fin_sum (hb _ (hm (nn x))) (hb _ (hm (nn x / 256))) (hb _ (hm (nn x / 256 / 256))) (hb _ (hm (nn x / 256 / 256 / 256))) (hb _ (hm (nn x / 256 / 256 / 256 / 256))) (hb _ (hm (nn x / 256 / 256 / 256 / 256 / 256))) (hb _ (hm (nn x / 256 / 256 / 256 / 256 / 256 / 256))) (hb _ (hm (nn x / 256 / 256 / 256 / 256 / 256 / 256 / 256))) (pcs 8 (nn x)) _ _ _ rfl rfl rfl rfl
  generalize hp : pcs 8 (nn x) = n at e3 d1 d2 d3 d4
  have e4 : nn (qc4 (qc3 (qc2 (qc1 x)))) = n + n / 256 := by
    unfold qc4
    have f : nn (usr64 (qc3 (qc2 (qc1 x))) (8 : Int32)) = n / 256 := by rw [nl_8, nn_usr (by omega), e3]
    rw [nn_add (by rw [f, e3]; omega), f, e3]
  generalize n + n / 256 = a at e4 d1 d2 d3 d4
  have e5 : nn (qc5 (qc4 (qc3 (qc2 (qc1 x))))) = a + a / 65536 := by
    unfold qc5
    have f : nn (usr64 (qc4 (qc3 (qc2 (qc1 x)))) (16 : Int32)) = a / 65536 := by rw [nl_16, nn_usr (by omega), e4]
    rw [nn_add (by rw [f, e4]; omega), f, e4]
  generalize a + a / 65536 = b at e5 d1 d2 d4
  have e6 : nn (qc6 (qc5 (qc4 (qc3 (qc2 (qc1 x)))))) = b + b / 4294967296 := by
    unfold qc6
    have f : nn (usr64 (qc5 (qc4 (qc3 (qc2 (qc1 x))))) (32 : Int32)) = b / 4294967296 := by rw [nl_32, nn_usr (by omega), e5]
    rw [nn_add (by rw [f, e5]; omega), f, e5]
  rw [bc_q, cnt_nn]
  generalize qc6 (qc5 (qc4 (qc3 (qc2 (qc1 x))))) = y at e6
  have e7 : y.toInt32.toBitVec.toNat = nn y % 4294967296 := by
    rw [Int64.toBitVec_toInt32]
    unfold nn
    rw [BitVec.signExtend_eq_setWidth_of_le _ (by omega), BitVec.toNat_setWidth]
  rw [pk_and _ 7 (by decide), e7, e6]
  have e8 : sumB 8 (nn x) = (b + b / 4294967296) % 128 := by
    rw [d1]
    rfl
  rw [e8]
  congr 2
  show (b + b / 4294967296) % 4294967296 % 128 = _
  omega
