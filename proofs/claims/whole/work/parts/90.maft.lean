/-! SUCCESSORS in the reference's row a: at 28 + s, six bits an input -/
def Suc (a : Nat → Int32) (l : Nat) (sc : Nat → Nat → Nat) : Prop := ∀ s, s < 2 ^ l → ∀ i, i < 4 → ((a (28 + s) >>> (((6 : Int32) * nI i) &&& 31)) &&& 63) = nI (sc s i) ∧ sc s i < 2 ^ l
theorem p2_64 {l : Nat} (hl : l < 7) : 2 ^ l ≤ 64 := by
  have : ∀ l, l < 7 → 2 ^ l ≤ 64 := by decide
  exact this l hl
theorem sr_succOf (c : Ce) (m : Nat) (μ : MS) {l : Nat} {sc : Nat → Nat → Nat} (hl : l < 7) (hS : Suc (μ.1 0) l sc) {s i : Nat} (hs : s < 2 ^ l) (hi : i < 4) : m_X12_succOf (wr c m μ) m (nI s) (nI i) = some (nI (sc s i)) := by
  have := p2_64 hl
  unfold m_X12_succOf
  rw [wr_g0, bind_s, nl_28, nI_add, wr_a0 c m μ (by omega), bind_s, (hS s hs i hi).1]
def aftN (sc : Nat → Nat → Nat) (s inp j : Nat) : Int64 := mkS fun t => (List.range j).any fun i => inp.testBit i && (sc s i == t)
theorem aftN_0 (sc : Nat → Nat → Nat) (s inp : Nat) : aftN sc s inp 0 = 0 := by
  refine B_ext fun k hk => ?_
  unfold aftN
  rw [B_mkS _ hk, B_0]
  rfl
theorem aftN_s (sc : Nat → Nat → Nat) (s inp j : Nat) (h : sc s j < 64) : aftN sc s inp (j + 1) = if inp.testBit j then aftN sc s inp j ||| ((1 : Int64) <<< ((nI (sc s j)).toInt64 &&& 63)) else aftN sc s inp j := by
  refine B_ext fun k hk => ?_
  have e : B (aftN sc s inp (j + 1)) k = (B (aftN sc s inp j) k || (inp.testBit j && (sc s j == k))) := by
    unfold aftN
    rw [B_mkS _ hk, B_mkS _ hk, List.range_succ, List.any_append]
    simp
  rw [e]
  cases hb : inp.testBit j with
  | true =>
    rw [if_pos rfl, B_or, B_bit _ h k hk]
    congr 1
    rw [Bool.true_and]
    by_cases hq : sc s j = k
    · simp [hq]
    · have hq2 : ¬ k = sc s j := fun z => hq z.symm
      simp [hq, hq2]
  | false =>
    rw [if_neg (by decide)]
    simp
theorem sr_afterBy (c : Ce) (m : Nat) (μ : MS) {l : Nat} {sc : Nat → Nat → Nat} (hl : l < 7) (hS : Suc (μ.1 0) l sc) {s inp : Nat} (hs : s < 2 ^ l) (hinp : inp < 2 ^ 31) : m_X12_afterBy (wr c m μ) m (nI s) (nI inp) = some (aftN sc s inp 4) := by
  have h64 := p2_64 hl
  refine ok_eq ?_
  unfold m_X12_afterBy
  refine ok_call (P := fun o => o = aftN sc s inp 4) (ok_cnt 0 4 (fun j q => q = (aftN sc s inp j, nI j)) (by decide) (by decide) (by rw [aftN_0]; rfl) ?_ ?_) (fun a h => ok_some h)
  · rintro j _ hj rfl
    refine ok_iteF (fun h => ?_) ?_
    · rw [nl_4] at h
      have := n_ge (a := 4) (b := j) (by omega) (by omega) h
      omega
    · show Ok (if ((nI inp >>> (nI j &&& 31)) &&& (1 : Int32)) = 1 then _ else _) _
      rw [ibit hinp (by omega)]
      cases hb : inp.testBit j with
      | true =>
        rw [if_pos rfl, if_pos rfl, wr_rcv, bind_s]
        show Ok ((m_X12_succOf (wr c m μ) m (nI s) (nI j)).bind _) _
        rw [sr_succOf c m μ hl hS hs hj, bind_s]
        refine ok_some ?_
        show (_, nI j + 1) = (aftN sc s inp (j + 1), nI (j + 1))
        rw [aftN_s sc s inp j (by have := (hS s hs j hj).2; omega), hb, if_pos rfl, nI_1]
      | false =>
        rw [if_neg (by decide)]
        refine ok_some ?_
        show (_, nI j + 1) = (aftN sc s inp (j + 1), nI (j + 1))
        rw [aftN_s sc s inp j (by have := (hS s hs j hj).2; omega), hb, if_neg (by decide), nI_1]
  · rintro _ rfl
    exact ok_iteT (show (4 : Int32) ≤ nI 4 by decide) (ok_some rfl)
theorem sr_after (c : Ce) (m : Nat) (μ : MS) {l : Nat} {sc : Nat → Nat → Nat} (hl : l < 7) (hS : Suc (μ.1 0) l sc) {s : Nat} (hs : s < 2 ^ l) : m_X12_after (wr c m μ) m (nI s) = some (aftN sc s 15 4) := by
  unfold m_X12_after
  rw [wr_rcv, bind_s, nl_15, sr_afterBy c m μ hl hS hs (by decide), bind_s]
