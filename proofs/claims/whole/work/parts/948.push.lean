/-! THE REFERENCE: cubes moved forward; steps -/
theorem wr_o10 (c : Ce) (m : Nat) (μ : MS) {k : Nat} (hk : k < 5000) : aI (wr c m μ) (m + 11) (nI k) = some (μ.1 10 k) := by
  rw [wr_r24, if_neg (nI_in hk (by omega)), nI_clamp (by omega)]
theorem wr_u10 (c : Ce) (m : Nat) (μ : MS) {k : Nat} (hk : k < 5000) (v : Int32) : sI (wr c m μ) (m + 11) (nI k) v = some (wr c m (muI μ 10 (va_up (μ.1 10) k v))) := by
  rw [wr_s24, if_neg (nI_in hk (by omega)), nI_clamp (by omega)]
  rfl
def codN (q : Cu) : Nat := q.1 * 4096 + q.2.1 * 64 + q.2.2
theorem codN_inj {q r : Cu} (hq : q.1 < 128 ∧ q.2.1 < 64 ∧ q.2.2 < 64) (hr : r.1 < 128 ∧ r.2.1 < 64 ∧ r.2.2 < 64) : nI (codN q) = nI (codN r) ↔ q = r := by
  unfold codN
  rw [nI_eq (by omega) (by omega)]
  constructor
  · intro h
    have e1 : q.1 = r.1 := by omega
    have e2 : q.2.1 = r.2.1 := by omega
    have e3 : q.2.2 = r.2.2 := by omega
    exact Prod.ext e1 (Prod.ext e2 e3)
  · intro h
    rw [h]
theorem lies_self {m b : Nat} (h : b &&& m = b) : lies m b m b = true := by
  unfold lies
  rw [Nat.and_self, h]
  simp
theorem addC_len {fr : List Cu} {f : Nat} {q : Cu} (hq : q ∈ fr) (hf : q.1 ≤ f) (hv : q.2.2 &&& q.2.1 = q.2.2) : (addC fr f q.2.1 q.2.2).length ≤ fr.length := by
  unfold addC
  rw [List.length_append]
  have h : (fr.filter fun r => !(decide (r.1 ≤ f) && lies r.2.1 r.2.2 q.2.1 q.2.2)).length < fr.length := by
    refine List.length_filter_lt_length_iff_exists.mpr ⟨q, hq, ?_⟩
    rw [lies_self hv]
    simp [hf]
  have : [(f, q.2.1, q.2.2)].length = 1 := rfl
  omega
theorem addC_mem {fr : List Cu} {f mask bits : Nat} {r : Cu} (h : r ∈ addC fr f mask bits) : r ∈ fr ∨ r = (f, mask, bits) := by
  unfold addC at h
  rcases List.mem_append.mp h with h | h
  · exact Or.inl (List.mem_filter.mp h).1
  · exact Or.inr (by simpa using h)
/-- along the moves: no more cubes, all well formed -/
theorem pushS_inv {M : Mv} {at0 : Nat} {q : Cu} (hq : q.1 = at0 ∧ q.2.1 < 64 ∧ q.2.2 < 64) (hv : q.2.2 &&& q.2.1 = q.2.2) {s : List Cu × Nat × Nat} {N : Nat} (h1 : s.1.length ≤ N) : (pushS M at0 s q).1.length ≤ N := by
  unfold pushS
  split
  · rename_i hm
    split
    · rw [List.any_eq_true] at hm
      obtain ⟨r, hr1, hr2⟩ := hm
      have : r = q := by simpa using hr2
      subst this
      exact Nat.le_trans (addC_len hr1 (by omega) hv) h1
    · exact h1
  · exact h1
theorem rr_pushAll (c : Ce) (m : Nat) (μ : MS) {V : Sv} (hr : RV μ V) (hw : Wr V) : Ok (m_X12_pushAll (wr c m μ) m) (fun r => ∃ ν, r = ((), wr c m ν) ∧ RV ν (pushV V) ∧ Kp μ ν) := by
  obtain ⟨M, n, fr, ob, fl, cl⟩ := V
  have hL : M.1 < 7 := hr.1.2.2.1
  have hC : Cub (μ.1 0) fr := hr.2.2.1
  have w1 : n 4 < 100 := hw.1
  have w2 : n 6 < 100 := hw.2.1
  have w6 : fr.length < 4000 := hw.2.2.2.2.2.1
  have w12 : ∀ q, q ∈ fr → q.2.2 &&& q.2.1 = q.2.2 := hw.2.2.2.2.2.2.2.2.2.2.2
  have e6 : μ.1 0 6 = nI (n 6) := hr.2.1 6 (by decide)
  unfold m_X12_pushAll pushV pushR
  simp only [wr_g0, bind_s, rd_6]
  rw [e6]
  show Ok _ (fun r => ∃ ν, r = ((), wr c m ν) ∧ RV ν (if manyF ((fr.filter fun q => decide (q.1 = n 6)).foldl (pushS M (n 6)) (fr, n 12, n 14)).1 (n 6) = 0 then (M, va_up (va_up (va_up n 12 ((fr.filter fun q => decide (q.1 = n 6)).foldl (pushS M (n 6)) (fr, n 12, n 14)).2.1) 14 ((fr.filter fun q => decide (q.1 = n 6)).foldl (pushS M (n 6)) (fr, n 12, n 14)).2.2) 5 3, ((fr.filter fun q => decide (q.1 = n 6)).foldl (pushS M (n 6)) (fr, n 12, n 14)).1, ob, fl, cl) else if n 6 + 1 = n 4 then (M, va_up (va_up (va_up (va_up n 12 ((fr.filter fun q => decide (q.1 = n 6)).foldl (pushS M (n 6)) (fr, n 12, n 14)).2.1) 14 ((fr.filter fun q => decide (q.1 = n 6)).foldl (pushS M (n 6)) (fr, n 12, n 14)).2.2) 6 (n 6 + 1)) 5 0, ((fr.filter fun q => decide (q.1 = n 6)).foldl (pushS M (n 6)) (fr, n 12, n 14)).1, ob, fl, cl) else (M, va_up (va_up (va_up n 12 ((fr.filter fun q => decide (q.1 = n 6)).foldl (pushS M (n 6)) (fr, n 12, n 14)).2.1) 14 ((fr.filter fun q => decide (q.1 = n 6)).foldl (pushS M (n 6)) (fr, n 12, n 14)).2.2) 6 (n 6 + 1), ((fr.filter fun q => decide (q.1 = n 6)).foldl (pushS M (n 6)) (fr, n 12, n 14)).1, ob, fl, cl)) ∧ Kp μ ν)
  have hmvl : ∀ q, q ∈ (fr.filter fun q => decide (q.1 = n 6)) → q ∈ fr ∧ q.1 = n 6 := fun q hq => by
    rw [List.mem_filter] at hq
    exact ⟨hq.1, by simpa using hq.2⟩
  have hcb : ∀ q, q ∈ fr → q.1 < 128 ∧ q.2.1 < 64 ∧ q.2.2 < 64 := fun q hq => by
    obtain ⟨k, hk⟩ := List.getElem?_of_mem hq
    exact (hC.2.2 k q hk).2
  have hmlen : (fr.filter fun q => decide (q.1 = n 6)).length ≤ fr.length := List.length_filter_le _ _
  -- which are there to be moved
  refine ok_call (P := fun o => ∃ mv, o = (nI (fr.filter fun q => decide (q.1 = n 6)).length, wr c m (muI μ 10 mv)) ∧ ∀ i q, (fr.filter fun q => decide (q.1 = n 6))[i]? = some q → mv i = nI (codN q)) (ok_cnt 0 fr.length (fun j s => ∃ mv, s = ((nI ((fr.take j).filter fun q => decide (q.1 = n 6)).length, nI j), wr c m (muI μ 10 mv)) ∧ ∀ i q, ((fr.take j).filter fun q => decide (q.1 = n 6))[i]? = some q → mv i = nI (codN q)) (by omega) (by omega) ⟨μ.1 10, ?_, fun i q h => ?_⟩ ?_ ?_) ?_
  · have e : muI μ 10 (μ.1 10) = μ := by
      unfold muI
      rw [up_self]
    rw [e]
    rfl
  · simp at h
  · rintro j _ hj ⟨mv, rfl, hmv⟩
    have hat : fr[j]? = some fr[j] := List.getElem?_eq_getElem hj
    have htk : fr.take (j + 1) = fr.take j ++ [fr[j]] := (List.take_append_getElem hj).symm
    have hfl : ((fr.take j).filter fun q => decide (q.1 = n 6)).length ≤ j := Nat.le_trans (List.length_filter_le _ _) (by rw [List.length_take]; omega)
    have hC2 : Cub ((muI μ 10 mv).1 0) fr := by rw [muI_n _ _ (by decide)]; exact hC
    obtain ⟨h1, h2, h3, h4⟩ := hC.2.2 j _ hat
    simp only [wr_g0, wr_rcv, bind_s, mu0_a, ma_of, rd_0, wt_0, rd_1, wt_1, rd_2, wt_2, rd_3, wt_3, rd_4, wt_4, rd_5, wt_5, rd_6, wt_6, rd_7, wt_7, rd_8, wt_8, rd_9, wt_9, rd_10, wt_10, rd_11, wt_11, rd_12, wt_12, rd_13, wt_13, rd_14, wt_14, rd_15, wt_15, rd_16, wt_16, rd_17, wt_17, wr_g2, wr_g23, wr_g24, wr_g25, wr_g26, wr_g27]
    rw [muI_n _ _ (by decide), hC.1, if_le (by omega) (by omega), if_neg (by omega), sc_frameOf c m (muI μ 10 mv) hC2 hat, bind_s, if_eq (by omega) (by omega), htk, List.filter_append]
    by_cases hq : fr[j].1 = n 6
    · rw [if_pos hq, nl_104, nI_add, wr_a0 c m _ (by omega), bind_s, muI_n _ _ (by decide), wr_u10 c m _ (by omega), bind_s, muI_muI, muI_e]
      refine ok_some ⟨va_up mv ((fr.take j).filter fun q => decide (q.1 = n 6)).length (μ.1 0 (104 + j)), ?_, fun i q hi => ?_⟩
      · show ((_ + 1, nI j + 1), _) = ((_, nI (j + 1)), _)
        rw [nI_1, nI_1]
        simp [hq]
      · have e1 : ([fr[j]].filter fun q => decide (q.1 = n 6)) = [fr[j]] := by simp [hq]
        rw [e1] at hi
        by_cases hil : i < ((fr.take j).filter fun q => decide (q.1 = n 6)).length
        · rw [List.getElem?_append_left hil] at hi
          rw [up_n _ _ _ (by omega)]
          exact hmv i q hi
        · have hlt := (List.getElem?_eq_some_iff.mp hi).1
          rw [List.length_append] at hlt
          have hi2 : i = ((fr.take j).filter fun q => decide (q.1 = n 6)).length := by
            have : [fr[j]].length = 1 := rfl
            omega
          subst hi2
          rw [List.getElem?_append_right (Nat.le_refl _), Nat.sub_self] at hi
          have : q = fr[j] := by simpa using hi.symm
          subst this
          rw [up_e]
          exact h1
    · rw [if_neg hq]
      have e1 : ([fr[j]].filter fun q => decide (q.1 = n 6)) = [] := by simp [hq]
      rw [e1, List.append_nil]
      refine ok_some ⟨mv, ?_, hmv⟩
      show ((_, nI j + 1), _) = ((_, nI (j + 1)), _)
      rw [nI_1]
  · rintro _ ⟨mv, rfl, hmv⟩
    rw [List.take_length] at hmv ⊢
    simp only [wr_g0, wr_rcv, bind_s, mu0_a, ma_of, rd_0, wt_0, rd_1, wt_1, rd_2, wt_2, rd_3, wt_3, rd_4, wt_4, rd_5, wt_5, rd_6, wt_6, rd_7, wt_7, rd_8, wt_8, rd_9, wt_9, rd_10, wt_10, rd_11, wt_11, rd_12, wt_12, rd_13, wt_13, rd_14, wt_14, rd_15, wt_15, rd_16, wt_16, rd_17, wt_17, wr_g2, wr_g23, wr_g24, wr_g25, wr_g26, wr_g27]
    rw [muI_n _ _ (by decide), hC.1, if_le (by omega) (by omega), if_pos (Nat.le_refl _)]
    exact ok_some ⟨mv, rfl, hmv⟩
  · rintro _ ⟨mv, rfl, hmv⟩
    generalize hml : (fr.filter fun q => decide (q.1 = n 6)) = ml at hmvl hmlen hmv
    have hK1 : Kp μ (muI μ 10 mv) := Kp_muI μ (by omega) mv
    have e10 : (muI μ 10 mv).1 0 = μ.1 0 := muI_n _ _ (by decide)
    -- the moves
    refine ok_call (P := fun o => ∃ b, o = ((), wr c m (mu0 (muI μ 10 mv) b)) ∧ RR b (μ.2.2.1 2) (M, va_up (va_up n 12 (ml.foldl (pushS M (n 6)) (fr, n 12, n 14)).2.1) 14 (ml.foldl (pushS M (n 6)) (fr, n 12, n 14)).2.2, (ml.foldl (pushS M (n 6)) (fr, n 12, n 14)).1, ob, fl, cl) ∧ OutA (μ.1 0) b ∧ (ml.foldl (pushS M (n 6)) (fr, n 12, n 14)).1.length ≤ fr.length) (ok_cnt 0 ml.length (fun i s => ∃ b, s = (nI i, wr c m (mu0 (muI μ 10 mv) b)) ∧ RR b (μ.2.2.1 2) (M, va_up (va_up n 12 ((ml.take i).foldl (pushS M (n 6)) (fr, n 12, n 14)).2.1) 14 ((ml.take i).foldl (pushS M (n 6)) (fr, n 12, n 14)).2.2, ((ml.take i).foldl (pushS M (n 6)) (fr, n 12, n 14)).1, ob, fl, cl) ∧ OutA (μ.1 0) b ∧ ((ml.take i).foldl (pushS M (n 6)) (fr, n 12, n 14)).1.length ≤ fr.length) (by omega) (by omega) ⟨μ.1 0, ?_, ?_, OutA_refl _, Nat.le_refl _⟩ ?_ ?_) ?_
    · have e := mu0_self (muI μ 10 mv)
      rw [e10] at e
      rw [e]
      rfl
    · refine RR_n hr (nums_c ?_ ?_ ?_ ?_ ?_ ?_ ?_ ?_ ?_ ?_) <;> rfl
    · rintro i _ hi ⟨b, rfl, hR, hO, hlen⟩
      have hat : ml[i]? = some ml[i] := List.getElem?_eq_getElem hi
      have htk : ml.take (i + 1) = ml.take i ++ [ml[i]] := (List.take_append_getElem hi).symm
      have hmem := hmvl ml[i] (List.getElem_mem hi)
      have hcq := hcb _ hmem.1
      have hvq := w12 _ hmem.1
      have hmvi := hmv i _ hat
      rw [htk, List.foldl_append, List.foldl_cons, List.foldl_nil]
      generalize ml[i] = q at hat hmem hcq hvq hmvi
      generalize (ml.take i).foldl (pushS M (n 6)) (fr, n 12, n 14) = s at hR hlen
      have hCs : Cub b s.1 := hR.2.2.1
      have hsb : ∀ r, r ∈ s.1 → r.1 < 128 ∧ r.2.1 < 64 ∧ r.2.2 < 64 := fun r hr => by
        obtain ⟨k, hk⟩ := List.getElem?_of_mem hr
        exact (hCs.2.2 k r hk).2
      have hpl := pushS_inv (M := M) (at0 := n 6) (q := q) ⟨hmem.2, hcq.2⟩ hvq hlen
      rw [if_le (by omega) (by omega), if_neg (by omega)]
      refine ok_call (P := fun o => o = if s.1.any (fun r => decide (r = q)) then (1 : Int32) else 0) (ok_cnt 0 s.1.length (fun k z => z = (if (s.1.take k).any (fun r => decide (r = q)) then (1 : Int32) else 0, nI k)) (by omega) (by omega) rfl ?_ ?_) ?_
      · rintro k _ hk rfl
        have hak : s.1[k]? = some s.1[k] := List.getElem?_eq_getElem hk
        have htk2 : s.1.take (k + 1) = s.1.take k ++ [s.1[k]] := (List.take_append_getElem hk).symm
        simp only [wr_g0, wr_rcv, bind_s, mu0_a, ma_of, rd_0, wt_0, rd_1, wt_1, rd_2, wt_2, rd_3, wt_3, rd_4, wt_4, rd_5, wt_5, rd_6, wt_6, rd_7, wt_7, rd_8, wt_8, rd_9, wt_9, rd_10, wt_10, rd_11, wt_11, rd_12, wt_12, rd_13, wt_13, rd_14, wt_14, rd_15, wt_15, rd_16, wt_16, rd_17, wt_17, wr_g2, wr_g23, wr_g24, wr_g25, wr_g26, wr_g27]
        rw [hCs.1, if_le (by omega) (by omega), if_neg (by omega), htk2, List.any_append]
        cases ha : (s.1.take k).any (fun r => decide (r = q)) with
        | true =>
          refine ok_to (a := Sum.inr (nI k)) (if_neg (by decide)) (ok_some ?_)
          show ((1 : Int32), nI k + 1) = (_, nI (k + 1))
          rw [nI_1]
          rfl
        | false =>
          refine ok_bind ?_
          rw [if_pos (show (if false = true then (1 : Int32) else 0) = 0 from rfl), nl_104, nI_add, wr_a0 c m _ (by omega), bind_s, mu0_a, wr_o10 c m _ (by omega), bind_s, mu0_r _ _ (by decide), muI_e, hmvi, (hCs.2.2 k _ hak).1]
          show Ok (if nI (codN s.1[k]) = nI (codN q) then _ else _) _
          by_cases he : s.1[k] = q
          · rw [if_pos ((codN_inj (hsb _ (List.getElem_mem hk)) hcq).mpr he)]
            refine ok_some (ok_some ?_)
            show ((1 : Int32), nI k + 1) = (_, nI (k + 1))
            rw [nI_1]
            simp [he]
          · rw [if_neg (fun z => he ((codN_inj (hsb _ (List.getElem_mem hk)) hcq).mp z))]
            refine ok_some (ok_some ?_)
            show ((0 : Int32), nI k + 1) = (_, nI (k + 1))
            rw [nI_1]
            simp [he]
      · rintro _ rfl
        simp only [wr_g0, wr_rcv, bind_s, mu0_a, ma_of, rd_0, wt_0, rd_1, wt_1, rd_2, wt_2, rd_3, wt_3, rd_4, wt_4, rd_5, wt_5, rd_6, wt_6, rd_7, wt_7, rd_8, wt_8, rd_9, wt_9, rd_10, wt_10, rd_11, wt_11, rd_12, wt_12, rd_13, wt_13, rd_14, wt_14, rd_15, wt_15, rd_16, wt_16, rd_17, wt_17, wr_g2, wr_g23, wr_g24, wr_g25, wr_g26, wr_g27]
        rw [hCs.1, if_le (by omega) (by omega), if_pos (Nat.le_refl _), List.take_length]
        exact ok_some rfl
      · rintro _ rfl
        simp only [wr_g0, wr_rcv, bind_s, mu0_a, ma_of, rd_0, wt_0, rd_1, wt_1, rd_2, wt_2, rd_3, wt_3, rd_4, wt_4, rd_5, wt_5, rd_6, wt_6, rd_7, wt_7, rd_8, wt_8, rd_9, wt_9, rd_10, wt_10, rd_11, wt_11, rd_12, wt_12, rd_13, wt_13, rd_14, wt_14, rd_15, wt_15, rd_16, wt_16, rd_17, wt_17, wr_g2, wr_g23, wr_g24, wr_g25, wr_g26, wr_g27]
        have hmd : (nI (codN q) >>> ((6 : Int32) &&& 31)) &&& 63 = nI q.2.1 := cb_m hcq.1 hcq.2.1 hcq.2.2
        have hbd : nI (codN q) &&& 63 = nI q.2.2 := cb_b hcq.1 hcq.2.1 hcq.2.2
        rw [wr_o10 c m _ (by omega), bind_s, bind_s, mu0_r _ _ (by decide), muI_e, hmvi, hmd, hbd, if_b]
        unfold pushS at hpl ⊢
        cases ha : s.1.any (fun r => decide (r = q)) with
        | false =>
          rw [if_neg (by decide), if_neg (by decide)]
          refine ok_some ⟨b, ?_, hR, hO, hlen⟩
          show (nI i + 1, _) = (nI (i + 1), _)
          rw [nI_1]
        | true =>
          rw [ha] at hpl
          rw [if_pos rfl] at hpl
          rw [if_pos rfl, if_pos rfl, rr_isAsked c m (muI μ 10 mv) hR (by omega) (by omega) (by omega), bind_s, if_b]
          have e12 : (va_up (va_up n 12 s.2.1) 14 s.2.2) 12 = s.2.1 := rfl
          rw [e12]
          have hR2 : RR (va_up b 12 (nI (s.2.1 + 1))) (μ.2.2.1 2) (M, va_up (va_up n 12 (s.2.1 + 1)) 14 s.2.2, s.1, ob, fl, cl) := by
            refine RR_n (RR_num hR (k := 12) (by decide) (s.2.1 + 1)) (nums_c ?_ ?_ ?_ ?_ ?_ ?_ ?_ ?_ ?_ ?_) <;> rfl
          cases hh : hld M s.1 q.2.1 q.2.2 (n 6) with
          | false =>
            rw [if_neg (by decide), if_neg (by decide)]
            refine ok_some ⟨_, ?_, hR2, OutA_trans hO (OutA_up _ (by omega) (by omega) _), hlen⟩
            show (nI i + 1, _) = (nI (i + 1), _)
            rw [nI_1]
          | true =>
            rw [hh, if_pos rfl] at hpl
            rw [if_pos rfl, if_pos rfl]
            simp only [wr_rcv, bind_s]
            have ef : nI (n 6) + 1 = nI (n 6 + 1) := nI_1 _
            rw [ef]
            refine ok_call (rr_addCube c m (muI μ 10 mv) hR2 (by omega) (f := n 6 + 1) (by omega) hcq.2.1 hcq.2.2) ?_
            rintro _ ⟨b2, rfl, hR3, hO3⟩
            have e14 : b2 14 + 1 = nI (s.2.2 + 1) := by
              rw [hR3.2.1 14 (by decide)]
              exact nI_1 _
            simp only [wr_g0, wr_rcv, bind_s, mu0_a, ma_of, rd_0, wt_0, rd_1, wt_1, rd_2, wt_2, rd_3, wt_3, rd_4, wt_4, rd_5, wt_5, rd_6, wt_6, rd_7, wt_7, rd_8, wt_8, rd_9, wt_9, rd_10, wt_10, rd_11, wt_11, rd_12, wt_12, rd_13, wt_13, rd_14, wt_14, rd_15, wt_15, rd_16, wt_16, rd_17, wt_17]
            rw [e14]
            refine ok_some ⟨va_up b2 14 (nI (s.2.2 + 1)), ?_, ?_, OutA_trans hO (OutA_trans (OutA_up _ (by omega) (by omega) _) (OutA_trans hO3 (OutA_up _ (by omega) (by omega) _))), hpl⟩
            · show (nI i + 1, _) = (nI (i + 1), _)
              rw [nI_1]
            · refine RR_n (RR_num hR3 (k := 14) (by decide) (s.2.2 + 1)) (nums_c ?_ ?_ ?_ ?_ ?_ ?_ ?_ ?_ ?_ ?_) <;> rfl
    · rintro _ ⟨b, rfl, hR, hO, hlen⟩
      rw [List.take_length] at hR hlen
      rw [if_le (by omega) (by omega), if_pos (Nat.le_refl _)]
      exact ok_some ⟨b, rfl, hR, hO, hlen⟩
    · rintro _ ⟨b, rfl, hR, hO, hlen⟩
      generalize ml.foldl (pushS M (n 6)) (fr, n 12, n 14) = s at hR hlen
      have hC2 : Cub ((mu0 (muI μ 10 mv) b).1 0) s.1 := by rw [mu0_a]; exact hR.2.2.1
      have hb4 : b 4 = nI (n 4) := hR.2.1 4 (by decide)
      have hb6 : b 6 = nI (n 6) := hR.2.1 6 (by decide)
      have hmf : manyF s.1 (n 6) ≤ s.1.length := List.countP_le_length
      have fin : ∀ (b2 : Nat → Int32) (V2 : Sv), RR b2 (μ.2.2.1 2) V2 → OutA (μ.1 0) b2 → RV (mu0 (muI μ 10 mv) b2) V2 ∧ Kp μ (mu0 (muI μ 10 mv) b2) := by
        intro b2 V2 h1 h2
        refine ⟨?_, Kp_trans hK1 (Kp_mu0 _ (by rw [e10]; exact h2))⟩
        show RR ((mu0 _ b2).1 0) _ _
        rw [mu0_a]
        exact h1
      simp only [wr_rcv, bind_s]
      rw [sr_manyOf c m _ hC2 (by omega), bind_s, if_z (by omega)]
      by_cases h0 : manyF s.1 (n 6) = 0
      · rw [if_pos h0, if_pos h0]
        simp only [wr_g0, wr_rcv, bind_s, mu0_a, ma_of, rd_0, wt_0, rd_1, wt_1, rd_2, wt_2, rd_3, wt_3, rd_4, wt_4, rd_5, wt_5, rd_6, wt_6, rd_7, wt_7, rd_8, wt_8, rd_9, wt_9, rd_10, wt_10, rd_11, wt_11, rd_12, wt_12, rd_13, wt_13, rd_14, wt_14, rd_15, wt_15, rd_16, wt_16, rd_17, wt_17]
        exact ok_some ⟨_, rfl, fin _ _ (RR_a hR (k := 5) (by decide) nl_3) (OutA_trans hO (OutA_up _ (by omega) (by omega) _))⟩
      · rw [if_neg h0, if_neg h0]
        have e6b : b 6 + 1 = nI (n 6 + 1) := by rw [hb6]; exact nI_1 _
        simp only [wr_g0, wr_rcv, bind_s, mu0_a, ma_of, rd_0, wt_0, rd_1, wt_1, rd_2, wt_2, rd_3, wt_3, rd_4, wt_4, rd_5, wt_5, rd_6, wt_6, rd_7, wt_7, rd_8, wt_8, rd_9, wt_9, rd_10, wt_10, rd_11, wt_11, rd_12, wt_12, rd_13, wt_13, rd_14, wt_14, rd_15, wt_15, rd_16, wt_16, rd_17, wt_17]
        rw [e6b, up_e, up_n _ _ _ (by decide), hb4, if_eq (by omega) (by omega)]
        have hR6 := RR_num hR (k := 6) (by decide) (n 6 + 1)
        by_cases h1 : n 6 + 1 = n 4
        · rw [if_pos h1, if_pos h1]
          exact ok_some ⟨_, rfl, fin _ _ (RR_a hR6 (k := 5) (by decide) nl_0) (OutA_trans hO (OutA_trans (OutA_up _ (by omega) (by omega) _) (OutA_up _ (by omega) (by omega) _)))⟩
        · rw [if_neg h1, if_neg h1]
          exact ok_some ⟨_, rfl, fin _ _ hR6 (OutA_trans hO (OutA_up _ (by omega) (by omega) _))⟩
theorem Wr_gon {V : Sv} (h : Wr V) : Wr (gonV V) := h
theorem rr_stepNow (c : Ce) (m : Nat) (μ : MS) {V : Sv} (hr : RV μ V) (hw : Wr V) (hph : V.2.1 5 < 3) : Ok (m_X12_stepNow (wr c m μ) m) (fun r => ∃ ν, r = ((), wr c m ν) ∧ RV ν (stepV V) ∧ Kp μ ν) := by
  obtain ⟨M, n, fr, ob, fl, cl⟩ := V
  have hph : n 5 < 3 := hph
  have w1 : n 4 < 100 := hw.1
  have em : ∀ (k : Nat) (v : Int32), ma μ k v = mu0 μ (va_up (μ.1 0) k v) := fun _ _ => rfl
  have e11 : μ.1 0 11 + 1 = nI (n 11 + 1) := by rw [hr.2.1 11 (by decide)]; exact nI_1 _
  have e5 : (va_up (μ.1 0) 11 (nI (n 11 + 1))) 5 = nI (n 5) := by rw [up_n _ _ _ (by decide)]; exact hr.2.1 5 (by decide)
  have hr2 : RV (mu0 μ (va_up (μ.1 0) 11 (nI (n 11 + 1)))) (M, va_up n 11 (n 11 + 1), fr, ob, fl, cl) := by
    show RR ((mu0 μ _).1 0) (μ.2.2.1 2) _
    rw [mu0_a]
    exact RR_num hr (by decide) _
  have hK : Kp μ (mu0 μ (va_up (μ.1 0) 11 (nI (n 11 + 1)))) := Kp_mu0 μ (OutA_up _ (by omega) (by omega) _)
  have hw2 : Wr (M, va_up n 11 (n 11 + 1), fr, ob, fl, cl) := hw
  unfold m_X12_stepNow stepV
  simp only [em, wr_g0, wr_rcv, bind_s, mu0_a, ma_of, rd_0, wt_0, rd_1, wt_1, rd_2, wt_2, rd_3, wt_3, rd_4, wt_4, rd_5, wt_5, rd_6, wt_6, rd_7, wt_7, rd_8, wt_8, rd_9, wt_9, rd_10, wt_10, rd_11, wt_11, rd_12, wt_12, rd_13, wt_13, rd_14, wt_14, rd_15, wt_15, rd_16, wt_16, rd_17, wt_17]
  rw [e11, e5, if_z (by omega), if_q nl_1 (by omega) (by omega)]
  show Ok _ (fun r => ∃ ν, r = ((), wr c m ν) ∧ RV ν (if n 5 = 0 then seekV (M, va_up n 11 (n 11 + 1), fr, ob, fl, cl) else if n 5 = 1 then oblV (M, va_up n 11 (n 11 + 1), fr, ob, fl, cl) else pushV (M, va_up n 11 (n 11 + 1), fr, ob, fl, cl)) ∧ Kp μ ν)
  by_cases h0 : n 5 = 0
  · rw [if_pos h0, if_pos h0]
    refine ok_call (rr_seek c m _ hr2 hw2.2.2.1 (show n 4 < 2 ^ 30 by omega) hw2.2.2.2.2.2.2.1) ?_
    rintro _ ⟨ν, rfl, hR, hK2⟩
    exact ok_some ⟨ν, rfl, hR, Kp_trans hK hK2⟩
  · rw [if_neg h0, if_neg h0]
    by_cases h1 : n 5 = 1
    · rw [if_pos h1, if_pos h1]
      refine ok_call (rr_obligeOne c m _ hr2 hw2) ?_
      rintro _ ⟨ν, rfl, hR, hK2⟩
      exact ok_some ⟨ν, rfl, hR, Kp_trans hK hK2⟩
    · rw [if_neg h1, if_neg h1]
      refine ok_call (rr_pushAll c m _ hr2 hw2) ?_
      rintro _ ⟨ν, rfl, hR, hK2⟩
      exact ok_some ⟨ν, rfl, hR, Kp_trans hK hK2⟩
theorem sr_isOver (c : Ce) (m : Nat) (μ : MS) {p : Nat} (hp : p < 2 ^ 31) (h5 : μ.1 0 5 = nI p) : m_X12_isOver (wr c m μ) m = some (if p < 3 then 0 else 1) := by
  unfold m_X12_isOver
  simp only [wr_g0, wr_rcv, bind_s, mu0_a, ma_of, rd_0, wt_0, rd_1, wt_1, rd_2, wt_2, rd_3, wt_3, rd_4, wt_4, rd_5, wt_5, rd_6, wt_6, rd_7, wt_7, rd_8, wt_8, rd_9, wt_9, rd_10, wt_10, rd_11, wt_11, rd_12, wt_12, rd_13, wt_13, rd_14, wt_14, rd_15, wt_15, rd_16, wt_16, rd_17, wt_17]
  rw [h5, nl_3, if_lt hp (by omega)]
  by_cases h : p < 3
  · rw [if_pos h, if_pos h]
  · rw [if_neg h, if_neg h]
/-- all along, a step finds what it asks for -/
def Along (I : Nat → Sv → Prop) (k : Nat) : Prop := ∀ j V, j ≤ k → I j V → Wr V ∧ (j < k → V.2.1 5 < 3 → I (j + 1) (stepV V))
theorem rr_stepsNow (c : Ce) (m : Nat) {I : Nat → Sv → Prop} {k : Nat} (hI : Along I k) (μ : MS) {V : Sv} (hr : RV μ V) (hv : I 0 V) (hk : k < 1000000) : Ok (m_X12_stepsNow (wr c m μ) m (nI k)) (fun r => ∃ ν, r = (nI (stepsV k V).1, wr c m ν) ∧ RV ν (stepsV k V).2 ∧ Kp μ ν) := by
  unfold m_X12_stepsNow
  refine ok_call (P := fun r => ∃ ν, r = (nI (stepsV k V).1, wr c m ν) ∧ RV ν (stepsV k V).2 ∧ Kp μ ν) (ok_cnt 0 k (fun j s => ∃ ν U, s = (nI j, wr c m ν) ∧ RV ν U ∧ Kp μ ν ∧ I j U ∧ stepsV k V = ((stepsV (k - j) U).1 + j, (stepsV (k - j) U).2)) (by omega) (by omega) ⟨μ, V, rfl, hr, Kp_refl μ, hv, rfl⟩ ?_ ?_) ?_
  · rintro j _ hj ⟨ν, U, rfl, hR, hK, hU, he⟩
    obtain ⟨hw, hn⟩ := hI j U (by omega) hU
    obtain ⟨t, ht⟩ : ∃ t, k - j = t + 1 := ⟨k - j - 1, by omega⟩
    rw [ht, stepsV] at he
    rw [if_le (by omega) (by omega), if_neg (by omega)]
    simp only [wr_rcv, bind_s]
    rw [sr_isOver c m ν (p := U.2.1 5) (by have := hw.2.2.2.2.1; omega) (hR.2.1 5 (by decide)), bind_s]
    by_cases h3 : U.2.1 5 < 3
    · rw [if_pos h3] at he
      rw [if_pos h3]
      refine ok_iteT rfl ?_
      refine ok_call (rr_stepNow c m ν hR hw h3) ?_
      rintro _ ⟨ρ, rfl, hR2, hK2⟩
      refine ok_some ⟨ρ, stepV U, ?_, hR2, Kp_trans hK hK2, hn hj h3, ?_⟩
      · show (nI j + 1, _) = (nI (j + 1), _)
        rw [nI_1]
      · rw [show k - (j + 1) = t by omega, he, show (stepsV t (stepV U)).1 + 1 + j = (stepsV t (stepV U)).1 + (j + 1) by omega]
    · rw [if_neg h3] at he
      rw [if_neg h3]
      refine ok_iteF (by decide) (ok_some ⟨ν, ?_, ?_, hK⟩)
      · rw [he]
        show (nI j, _) = (nI (0 + j), _)
        rw [Nat.zero_add]
      · rw [he]
        exact hR
  · rintro _ ⟨ν, U, rfl, hR, hK, hU, he⟩
    rw [Nat.sub_self, stepsV] at he
    rw [if_le (by omega) (by omega), if_pos (Nat.le_refl _)]
    refine ok_some ⟨ν, ?_, ?_, hK⟩
    · rw [he]
      show (nI k, _) = (nI (0 + k), _)
      rw [Nat.zero_add]
    · rw [he]
      exact hR
  · rintro _ ⟨ν, rfl, hR, hK⟩
    exact ok_some ⟨ν, rfl, hR, hK⟩
