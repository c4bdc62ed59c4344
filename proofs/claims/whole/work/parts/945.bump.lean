/-! THE REFERENCE's bump -/
def muG (μ : MS) (g : Nat → UInt32) : MS := (μ.1, μ.2.1, va_up μ.2.2.1 2 g, μ.2.2.2)
theorem muG_e (μ : MS) (g : Nat → UInt32) : (muG μ g).2.2.1 2 = g := by
  show va_up μ.2.2.1 2 g 2 = g
  exact up_e _ _ _
theorem muG_n (μ : MS) (g : Nat → UInt32) {r : Nat} (h : r ≠ 2) : (muG μ g).2.2.1 r = μ.2.2.1 r := by
  show va_up μ.2.2.1 2 g r = _
  exact up_n _ _ _ h
theorem muG_1 (μ : MS) (g : Nat → UInt32) : (muG μ g).1 = μ.1 := rfl
theorem muG_muG (μ : MS) (g h : Nat → UInt32) : muG (muG μ g) h = muG μ h := by
  unfold muG
  rw [up_up]
theorem muG_self (μ : MS) : muG μ (μ.2.2.1 2) = μ := by
  unfold muG
  rw [up_self]
theorem wr_uf (c : Ce) (m : Nat) (μ : MS) {k : Nat} (hk : k < 147) (v : UInt32) : sG (wr c m μ) (m + 3) (nI k) v = some (wr c m (muG μ (va_up (μ.2.2.1 2) k v))) := by
  rw [wr_s2, if_neg (nI_in hk (by omega)), nI_clamp (by omega)]
  rfl
theorem rf_6 (c : Ce) (m : Nat) (μ : MS) : aG (wr c m μ) (m + 3) (6 : Int32) = some (μ.2.2.1 2 6) := wr_f2 c m μ (by decide)
theorem wf_6 (c : Ce) (m : Nat) (μ : MS) (v : UInt32) : sG (wr c m μ) (m + 3) (6 : Int32) v = some (wr c m (muG μ (va_up (μ.2.2.1 2) 6 v))) := wr_uf c m μ (by decide) v
theorem fq_ok {x : UInt32} (h : isNaN32 x = false) : fq x = some x := by
  unfold fq
  rw [h]
  rfl
/-- letters below j raised -/
def bmp1 (fl : Nat → UInt32) (mask j : Nat) : Nat → UInt32 := fun l => if l < j ∧ mask.testBit l = true then FP.fadd (fl l) (fl 6) else fl l
def grt (x : UInt32) : Bool := !decide (Op.cmpValue (FP.fcmp x (1148846080 : UInt32)) .l ≤ 0)
def bmp2 (L mask : Nat) (fl : Nat → UInt32) : Nat → UInt32 := va_up (bmp1 fl mask L) 6 (FP.fmul (fl 6) (1069547520 : UInt32))
def bmpG (L mask : Nat) (fl : Nat → UInt32) : Bool := (List.range L).any fun l => grt (bmp2 L mask fl l)
def bmp3 (g : Nat → UInt32) (j : Nat) : Nat → UInt32 := fun l => if l < j then FP.fmul (g l) (981668463 : UInt32) else g l
def bumpF (L mask : Nat) (fl : Nat → UInt32) : Nat → UInt32 := if bmpG L mask fl then bmp3 (bmp2 L mask fl) 7 else bmp2 L mask fl
/-- no NaN comes up -/
def BOk (L mask : Nat) (fl : Nat → UInt32) : Prop := (∀ l, l < L → isNaN32 (FP.fadd (fl l) (fl 6)) = false) ∧ isNaN32 (FP.fmul (fl 6) (1069547520 : UInt32)) = false ∧ ∀ l, l < 7 → isNaN32 (FP.fmul (bmp2 L mask fl l) (981668463 : UInt32)) = false
theorem bmp1_s (fl : Nat → UInt32) (mask j : Nat) : bmp1 fl mask (j + 1) = if mask.testBit j then va_up (bmp1 fl mask j) j (FP.fadd (fl j) (fl 6)) else bmp1 fl mask j := by
  cases hb : mask.testBit j with
  | true =>
    rw [if_pos rfl]
    funext l
    by_cases h : l = j
    · subst h
      rw [up_e]
      unfold bmp1
      rw [if_pos ⟨by omega, hb⟩]
    · rw [up_n _ _ _ h]
      unfold bmp1
      by_cases h2 : l < j ∧ mask.testBit l = true
      · rw [if_pos h2, if_pos ⟨by omega, h2.2⟩]
      · rw [if_neg h2, if_neg (fun z => h2 ⟨by omega, z.2⟩)]
  | false =>
    rw [if_neg (by decide)]
    funext l
    unfold bmp1
    by_cases h2 : l < j ∧ mask.testBit l = true
    · rw [if_pos h2, if_pos ⟨by omega, h2.2⟩]
    · refine Eq.trans (if_neg (fun z => h2 ⟨?_, z.2⟩)) (if_neg h2).symm
      have : l ≠ j := fun e => by rw [e, hb] at z; exact absurd z.2 (by decide)
      omega
theorem sr_bump (c : Ce) (m : Nat) (μ : MS) {L : Nat} (hL : L < 7) (h3 : μ.1 0 3 = nI L) {mask : Nat} (hm : mask < 64) (hB : BOk L mask (μ.2.2.1 2)) : m_X12_bump (wr c m μ) m (nI mask) = some ((), wr c m (muG μ (bumpF L mask (μ.2.2.1 2)))) := by
  refine ok_eq ?_
  obtain ⟨hB1, hB2, hB3⟩ := hB
  unfold m_X12_bump
  refine ok_call (P := fun o => o = ((), wr c m (muG μ (bmp1 (μ.2.2.1 2) mask L)))) (ok_cnt 0 L (fun j s => s = (nI j, wr c m (muG μ (bmp1 (μ.2.2.1 2) mask j)))) (by omega) (by omega) ?_ ?_ ?_) ?_
  · have e : bmp1 (μ.2.2.1 2) mask 0 = μ.2.2.1 2 := by
      funext l
      exact if_neg (by omega)
    rw [e, muG_self]
    rfl
  · rintro j _ hj rfl
    simp only [wr_g0, wr_rcv, bind_s, mu0_a, ma_of, rd_0, wt_0, rd_1, wt_1, rd_2, wt_2, rd_3, wt_3, rd_4, wt_4, rd_5, wt_5, rd_6, wt_6, rd_7, wt_7, rd_8, wt_8, rd_9, wt_9, rd_10, wt_10, rd_11, wt_11, rd_12, wt_12, rd_13, wt_13, rd_14, wt_14, rd_15, wt_15, rd_16, wt_16, rd_17, wt_17, wr_g2, wr_g23, wr_g24, wr_g25, wr_g26, wr_g27]
    rw [muG_1, h3, if_le (by omega) (by omega), if_neg (by omega)]
    show Ok (if ((nI mask >>> (nI j &&& 31)) &&& (1 : Int32)) = 1 then _ else _) _
    rw [ibit (by omega) (by omega), bmp1_s]
    have e6 : bmp1 (μ.2.2.1 2) mask j 6 = μ.2.2.1 2 6 := if_neg (by omega)
    have ej : bmp1 (μ.2.2.1 2) mask j j = μ.2.2.1 2 j := if_neg (by omega)
    cases hb : mask.testBit j with
    | true =>
      rw [if_pos rfl, if_pos rfl, wr_f2 c m _ (by omega), bind_s, rf_6, bind_s, muG_e, e6, ej, fq_ok (hB1 j hj), bind_s, wr_uf c m _ (by omega), bind_s, muG_muG, muG_e]
      refine ok_some ?_
      show (nI j + 1, _) = (nI (j + 1), _)
      rw [nI_1]
      rfl
    | false =>
      rw [if_neg (by decide)]
      refine ok_some ?_
      show (nI j + 1, _) = (nI (j + 1), _)
      rw [nI_1]
      rfl
  · rintro _ rfl
    simp only [wr_g0, wr_rcv, bind_s, mu0_a, ma_of, rd_0, wt_0, rd_1, wt_1, rd_2, wt_2, rd_3, wt_3, rd_4, wt_4, rd_5, wt_5, rd_6, wt_6, rd_7, wt_7, rd_8, wt_8, rd_9, wt_9, rd_10, wt_10, rd_11, wt_11, rd_12, wt_12, rd_13, wt_13, rd_14, wt_14, rd_15, wt_15, rd_16, wt_16, rd_17, wt_17, wr_g2, wr_g23, wr_g24, wr_g25, wr_g26, wr_g27]
    rw [muG_1, h3, if_le (by omega) (by omega), if_pos (Nat.le_refl _)]
    exact ok_some rfl
  · rintro _ rfl
    have e6 : bmp1 (μ.2.2.1 2) mask L 6 = μ.2.2.1 2 6 := if_neg (by omega)
    simp only [wr_g0, wr_rcv, bind_s, mu0_a, ma_of, rd_0, wt_0, rd_1, wt_1, rd_2, wt_2, rd_3, wt_3, rd_4, wt_4, rd_5, wt_5, rd_6, wt_6, rd_7, wt_7, rd_8, wt_8, rd_9, wt_9, rd_10, wt_10, rd_11, wt_11, rd_12, wt_12, rd_13, wt_13, rd_14, wt_14, rd_15, wt_15, rd_16, wt_16, rd_17, wt_17, wr_g2, wr_g23, wr_g24, wr_g25, wr_g26, wr_g27]
    rw [rf_6, bind_s, muG_e, e6, fq_ok hB2, bind_s, wf_6, bind_s, muG_muG, muG_e]
    show Ok ((it _ FU _).bind _) _
    generalize hg : va_up (bmp1 (μ.2.2.1 2) mask L) 6 (FP.fmul (μ.2.2.1 2 6) 1069547520) = g
    have hg2 : bmp2 L mask (μ.2.2.1 2) = g := hg
    rw [hg2] at hB3
    refine ok_call (P := fun o => o = if (List.range L).any (fun l => grt (g l)) then (1 : Int32) else 0) (ok_cnt 0 L (fun j s => s = (if (List.range j).any (fun l => grt (g l)) then (1 : Int32) else 0, nI j)) (by omega) (by omega) rfl ?_ ?_) ?_
    · rintro j _ hj rfl
      simp only [wr_g0, wr_rcv, bind_s, mu0_a, ma_of, rd_0, wt_0, rd_1, wt_1, rd_2, wt_2, rd_3, wt_3, rd_4, wt_4, rd_5, wt_5, rd_6, wt_6, rd_7, wt_7, rd_8, wt_8, rd_9, wt_9, rd_10, wt_10, rd_11, wt_11, rd_12, wt_12, rd_13, wt_13, rd_14, wt_14, rd_15, wt_15, rd_16, wt_16, rd_17, wt_17, wr_g2, wr_g23, wr_g24, wr_g25, wr_g26, wr_g27]
      rw [muG_1, h3, if_le (by omega) (by omega), if_neg (by omega), List.range_succ, List.any_append]
      cases ha : (List.range j).any (fun l => grt (g l)) with
      | true =>
        refine ok_to (a := Sum.inr (nI j)) (if_neg (by decide)) (ok_some ?_)
        show ((1 : Int32), nI j + 1) = (_, nI (j + 1))
        rw [nI_1]
        rfl
      | false =>
        refine ok_bind ?_
        rw [if_pos (show (if false = true then (1 : Int32) else 0) = 0 from rfl), wr_f2 c m _ (by omega), bind_s, muG_e]
        by_cases hq : Op.cmpValue (FP.fcmp (g j) (1148846080 : UInt32)) .l ≤ 0
        · rw [if_pos hq]
          refine ok_some (ok_some ?_)
          show ((0 : Int32), nI j + 1) = (_, nI (j + 1))
          rw [nI_1]
          simp [grt, hq]
        · rw [if_neg hq]
          refine ok_some (ok_some ?_)
          show ((1 : Int32), nI j + 1) = (_, nI (j + 1))
          rw [nI_1]
          simp [grt, hq]
    · rintro _ rfl
      simp only [wr_g0, wr_rcv, bind_s, mu0_a, ma_of, rd_0, wt_0, rd_1, wt_1, rd_2, wt_2, rd_3, wt_3, rd_4, wt_4, rd_5, wt_5, rd_6, wt_6, rd_7, wt_7, rd_8, wt_8, rd_9, wt_9, rd_10, wt_10, rd_11, wt_11, rd_12, wt_12, rd_13, wt_13, rd_14, wt_14, rd_15, wt_15, rd_16, wt_16, rd_17, wt_17, wr_g2, wr_g23, wr_g24, wr_g25, wr_g26, wr_g27]
      rw [muG_1, h3, if_le (by omega) (by omega), if_pos (Nat.le_refl _)]
      exact ok_some rfl
    · rintro _ rfl
      have e : bumpF L mask (μ.2.2.1 2) = if (List.range L).any (fun l => grt (g l)) then bmp3 g 7 else g := by
        unfold bumpF bmpG
        rw [hg2]
      rw [e]
      cases ha : (List.range L).any (fun l => grt (g l)) with
      | true =>
        refine ok_call (P := fun o => o = ((), wr c m (muG μ (bmp3 g 7)))) (ok_cnt 0 7 (fun j s => s = (nI j, wr c m (muG μ (bmp3 g j)))) (by omega) (by omega) ?_ ?_ ?_) (fun a h => ok_some (by rw [h]; rfl))
        · have e : bmp3 g 0 = g := by
            funext l
            exact if_neg (by omega)
          rw [e]
          rfl
        · rintro j _ hj rfl
          have ej : bmp3 g j j = g j := if_neg (by omega)
          rw [nl_6, if_lt (by omega) (by omega), if_neg (by omega)]
          refine ok_iteF (by decide) ?_
          simp only [wr_g0, wr_rcv, bind_s, mu0_a, ma_of, rd_0, wt_0, rd_1, wt_1, rd_2, wt_2, rd_3, wt_3, rd_4, wt_4, rd_5, wt_5, rd_6, wt_6, rd_7, wt_7, rd_8, wt_8, rd_9, wt_9, rd_10, wt_10, rd_11, wt_11, rd_12, wt_12, rd_13, wt_13, rd_14, wt_14, rd_15, wt_15, rd_16, wt_16, rd_17, wt_17, wr_g2, wr_g23, wr_g24, wr_g25, wr_g26, wr_g27]
          rw [wr_f2 c m _ (by omega), bind_s, muG_e, ej, fq_ok (hB3 j hj), bind_s, wr_uf c m _ (by omega), bind_s, muG_muG, muG_e]
          refine ok_some ?_
          show (nI j + 1, _) = (nI (j + 1), _)
          rw [nI_1]
          have e2 : va_up (bmp3 g j) j (FP.fmul (g j) 981668463) = bmp3 g (j + 1) := by
            funext l
            by_cases h : l = j
            · subst h
              rw [up_e]
              unfold bmp3
              rw [if_pos (by omega)]
            · rw [up_n _ _ _ h]
              unfold bmp3
              by_cases h2 : l < j
              · rw [if_pos h2, if_pos (by omega)]
              · rw [if_neg h2, if_neg (by omega)]
          rw [e2]
        · rintro _ rfl
          rw [nl_6, if_lt (by omega) (by omega), if_pos (by omega)]
          exact ok_some rfl
      | false =>
        refine ok_call (P := fun o => o = ((), wr c m (muG μ g))) (ok_cnt 0 0 (fun j s => s = (nI j, wr c m (muG μ g))) (by omega) (by omega) rfl (fun j s hj _ => by omega) ?_) (fun a h => ok_some (by rw [h]; rfl))
        rintro _ rfl
        refine ok_iteF (show ¬ (6 : Int32) < nI 0 by decide) ?_
        exact ok_iteT rfl (ok_some rfl)
