/-! CUBES as sets, the reference's way -/
def cubN (L mask bits j : Nat) : Int64 := mkS fun s => decide (s < 2 ^ L) && (List.range j).all fun l => !mask.testBit l || (s.testBit l == bits.testBit l)
abbrev cubS (L mask bits : Nat) : Int64 := cubN L mask bits L
theorem cubN_0 (L mask bits : Nat) : cubN L mask bits 0 = allS L := by
  refine B_ext fun k hk => ?_
  unfold cubN
  rw [B_mkS _ hk, B_mkS _ hk]
  simp
theorem cubN_s (L mask bits j : Nat) {k : Nat} (hk : k < 64) : B (cubN L mask bits (j + 1)) k = (B (cubN L mask bits j) k && (!mask.testBit j || (k.testBit j == bits.testBit j))) := by
  unfold cubN
  rw [B_mkS _ hk, B_mkS _ hk, List.range_succ, List.all_append]
  simp [Bool.and_assoc]
theorem sr_cubeSet (c : Ce) (m : Nat) (μ : MS) {L mask bits : Nat} (hL : L < 7) (h : μ.1 0 3 = nI L) (hm : mask < 2 ^ 31) (hb : bits < 2 ^ 31) : m_X12_cubeSet (wr c m μ) m (nI mask) (nI bits) = some (cubS L mask bits) := by
  refine ok_eq ?_
  unfold m_X12_cubeSet
  rw [wr_rcv, bind_s, sr_all c m μ hL h, bind_s]
  refine ok_call (P := fun o => o = cubS L mask bits) (ok_cnt 0 L (fun j q => q = (cubN L mask bits j, nI j)) (by omega) (by omega) (by rw [cubN_0]; rfl) ?_ ?_) (fun a h => ok_some h)
  · rintro j _ hj rfl
    rw [wr_g0, bind_s, nl_3, wr_a0 c m μ (by decide), bind_s, h]
    refine ok_iteF (fun h => ?_) ?_
    · have := n_ge (a := L) (b := j) (by omega) (by omega) h
      omega
    · show Ok (if ((nI mask >>> (nI j &&& 31)) &&& (1 : Int32)) = 1 then (if ((nI bits >>> (nI j &&& 31)) &&& (1 : Int32)) = 1 then _ else _) else _) _
      rw [ibit hm (by omega), ibit hb (by omega)]
      cases h1 : mask.testBit j with
      | true =>
        rw [if_pos rfl, if_pos rfl]
        cases h2 : bits.testBit j with
        | true =>
          rw [if_pos rfl, if_pos rfl]
          show Ok ((m_X12_letterSet (nI j)).bind _) _
          rw [sr_letterSet (by omega), bind_s]
          refine ok_some ?_
          show (_, nI j + 1) = (cubN L mask bits (j + 1), nI (j + 1))
          rw [nI_1]
          congr 1
          refine B_ext fun k hk => ?_
          rw [cubN_s _ _ _ _ hk, B_and, B_mkS _ hk, h1, h2]
          cases k.testBit j <;> simp
        | false =>
          rw [if_neg (by decide)]
          show Ok ((m_X12_letterSet (nI j)).bind _) _
          rw [sr_letterSet (by omega), bind_s]
          refine ok_some ?_
          show (_, nI j + 1) = (cubN L mask bits (j + 1), nI (j + 1))
          rw [nI_1]
          congr 1
          refine B_ext fun k hk => ?_
          rw [cubN_s _ _ _ _ hk, B_and, B_inv _ hk, B_mkS _ hk, h1, h2]
          cases k.testBit j <;> simp
      | false =>
        rw [if_neg (by decide)]
        refine ok_some ?_
        show (_, nI j + 1) = (cubN L mask bits (j + 1), nI (j + 1))
        rw [nI_1]
        congr 1
        refine B_ext fun k hk => ?_
        rw [cubN_s _ _ _ _ hk, h1]
        simp
  · rintro _ rfl
    rw [wr_g0, bind_s, nl_3, wr_a0 c m μ (by decide), bind_s, h]
    exact ok_iteT (Int32.le_refl _) (ok_some rfl)
