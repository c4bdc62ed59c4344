/-! OBLIGATIONS in the reference's row: at 5104 + 4k -/
def LB (ob : List Ln) : Prop := ∀ q, q ∈ ob → q.1 < 64 ∧ q.2.1 < 128 ∧ q.2.2.1 < 2 ^ 31 ∧ q.2.2.2 < 2 ^ 31
def OutA (a b : Nat → Int32) : Prop := ∀ j, (j < 3 ∨ 5424 ≤ j) → b j = a j
theorem OutA_refl (a : Nat → Int32) : OutA a a := fun _ _ => rfl
theorem OutA_trans {a b d : Nat → Int32} (h1 : OutA a b) (h2 : OutA b d) : OutA a d := fun j hj => (h2 j hj).trans (h1 j hj)
theorem OutA_up (a : Nat → Int32) {k : Nat} (h : 3 ≤ k) (h2 : k < 5424) (v : Int32) : OutA a (va_up a k v) := fun j hj => up_n _ _ _ (by omega)
theorem sr_ofLine (c : Ce) (m : Nat) (μ : MS) {k w : Nat} (hk : k < 80) (hw : w < 4) : m_X12_ofLine (wr c m μ) m (nI k) (nI w) = some (μ.1 0 (5104 + 4 * k + w)) := by
  unfold m_X12_ofLine
  rw [wr_g0, bind_s, nl_5104, nl_4, pk_mul, nI_add, nI_add, wr_a0 c m μ (by omega), bind_s]
theorem rl_0 (c : Ce) (m : Nat) (μ : MS) {ob : List Ln} (hO : Lin (μ.1 0) ob) {k : Nat} {q : Ln} (hq : ob[k]? = some q) : m_X12_ofLine (wr c m μ) m (nI k) (0 : Int32) = some (nI q.1) := by
  have hk : k < ob.length := (List.getElem?_eq_some_iff.mp hq).1
  have := hO.2.1
  have e := sr_ofLine c m μ (k := k) (w := 0) (by omega) (by omega)
  rw [Nat.add_zero, (hO.2.2 k q hq).1] at e
  exact e
theorem rl_1 (c : Ce) (m : Nat) (μ : MS) {ob : List Ln} (hO : Lin (μ.1 0) ob) {k : Nat} {q : Ln} (hq : ob[k]? = some q) : m_X12_ofLine (wr c m μ) m (nI k) (1 : Int32) = some (nI q.2.1) := by
  have hk : k < ob.length := (List.getElem?_eq_some_iff.mp hq).1
  have := hO.2.1
  have e := sr_ofLine c m μ (k := k) (w := 1) (by omega) (by omega)
  rw [show 5104 + 4 * k + 1 = 5105 + 4 * k by omega, (hO.2.2 k q hq).2.1] at e
  exact e
theorem rl_2 (c : Ce) (m : Nat) (μ : MS) {ob : List Ln} (hO : Lin (μ.1 0) ob) {k : Nat} {q : Ln} (hq : ob[k]? = some q) : m_X12_ofLine (wr c m μ) m (nI k) (2 : Int32) = some (nI q.2.2.1) := by
  have hk : k < ob.length := (List.getElem?_eq_some_iff.mp hq).1
  have := hO.2.1
  have e := sr_ofLine c m μ (k := k) (w := 2) (by omega) (by omega)
  rw [show 5104 + 4 * k + 2 = 5106 + 4 * k by omega, (hO.2.2 k q hq).2.2.1] at e
  exact e
theorem rl_3 (c : Ce) (m : Nat) (μ : MS) {ob : List Ln} (hO : Lin (μ.1 0) ob) {k : Nat} {q : Ln} (hq : ob[k]? = some q) : m_X12_ofLine (wr c m μ) m (nI k) (3 : Int32) = some (nI q.2.2.2) := by
  have hk : k < ob.length := (List.getElem?_eq_some_iff.mp hq).1
  have := hO.2.1
  have e := sr_ofLine c m μ (k := k) (w := 3) (by omega) (by omega)
  rw [show 5104 + 4 * k + 3 = 5107 + 4 * k by omega, (hO.2.2 k q hq).2.2.2] at e
  exact e
theorem rr_oblige (c : Ce) (m : Nat) (μ : MS) {a : Nat → Int32} {h : Nat → UInt32} {M : Mv} {n : Nat → Nat} {fr : List Cu} {ob : List Ln} {Y : (Nat → UInt32) × List (Nat × Nat)} (hr : RR a h (M, n, fr, ob, Y)) (hlen : ob.length < 80) (st lv ld : Nat) : Ok (m_X12_oblige (wr c m (mu0 μ a)) m (nI st) (nI lv) (nI ld)) (fun q => ∃ b, q = ((), wr c m (mu0 μ b)) ∧ RR b h (M, va_up n 10 (n 10 + 1), fr, ob ++ [(st, lv, n 10 + 1, ld)], Y) ∧ OutA a b) := by
  have hr2 := RR_num hr (k := 10) (by decide) (n 10 + 1)
  have e10 : a 10 + 1 = nI (n 10 + 1) := by rw [hr.2.1 10 (by decide)]; exact nI_1 _
  have e9 : a 9 = nI ob.length := hr.2.2.2.1.1
  unfold m_X12_oblige
  simp only [wr_g0, wr_rcv, bind_s, mu0_a, ma_of, rd_0, wt_0, rd_1, wt_1, rd_2, wt_2, rd_3, wt_3, rd_4, wt_4, rd_5, wt_5, rd_6, wt_6, rd_7, wt_7, rd_8, wt_8, rd_9, wt_9, rd_10, wt_10, rd_11, wt_11, rd_12, wt_12, rd_13, wt_13, rd_14, wt_14, rd_15, wt_15, rd_16, wt_16, rd_17, wt_17]
  rw [e10, e9, nl_5104, nl_4, pk_mul, nI_add, wr_u0 c m _ (by omega), bind_s, ma_of]
  simp only [wr_g0, wr_rcv, bind_s, mu0_a, ma_of, rd_0, wt_0, rd_1, wt_1, rd_2, wt_2, rd_3, wt_3, rd_4, wt_4, rd_5, wt_5, rd_6, wt_6, rd_7, wt_7, rd_8, wt_8, rd_9, wt_9, rd_10, wt_10, rd_11, wt_11, rd_12, wt_12, rd_13, wt_13, rd_14, wt_14, rd_15, wt_15, rd_16, wt_16, rd_17, wt_17]
  rw [nI_1, wr_u0 c m _ (by omega), bind_s, ma_of]
  simp only [wr_g0, wr_rcv, bind_s, mu0_a, ma_of, rd_0, wt_0, rd_1, wt_1, rd_2, wt_2, rd_3, wt_3, rd_4, wt_4, rd_5, wt_5, rd_6, wt_6, rd_7, wt_7, rd_8, wt_8, rd_9, wt_9, rd_10, wt_10, rd_11, wt_11, rd_12, wt_12, rd_13, wt_13, rd_14, wt_14, rd_15, wt_15, rd_16, wt_16, rd_17, wt_17]
  rw [nl_2, nI_add, up_n _ _ _ (by omega), up_n _ _ _ (by omega), up_e, wr_u0 c m _ (by omega), bind_s, ma_of]
  simp only [wr_g0, wr_rcv, bind_s, mu0_a, ma_of, rd_0, wt_0, rd_1, wt_1, rd_2, wt_2, rd_3, wt_3, rd_4, wt_4, rd_5, wt_5, rd_6, wt_6, rd_7, wt_7, rd_8, wt_8, rd_9, wt_9, rd_10, wt_10, rd_11, wt_11, rd_12, wt_12, rd_13, wt_13, rd_14, wt_14, rd_15, wt_15, rd_16, wt_16, rd_17, wt_17]
  rw [nl_3, nI_add, wr_u0 c m _ (by omega), bind_s, ma_of]
  simp only [wr_g0, wr_rcv, bind_s, mu0_a, ma_of, rd_0, wt_0, rd_1, wt_1, rd_2, wt_2, rd_3, wt_3, rd_4, wt_4, rd_5, wt_5, rd_6, wt_6, rd_7, wt_7, rd_8, wt_8, rd_9, wt_9, rd_10, wt_10, rd_11, wt_11, rd_12, wt_12, rd_13, wt_13, rd_14, wt_14, rd_15, wt_15, rd_16, wt_16, rd_17, wt_17]
  rw [up_n _ _ _ (by omega), up_n _ _ _ (by omega), up_n _ _ _ (by omega), up_n _ _ _ (by omega), up_n _ _ _ (by omega), e9, nI_1]
  generalize hx : 5104 + 4 * ob.length = x
  refine ok_some ⟨_, rfl, ?_⟩
  generalize hbb : va_up (va_up (va_up (va_up (va_up (va_up a 10 (nI (n 10 + 1))) x (nI st)) (x + 1) (nI lv)) (x + 2) (nI (n 10 + 1))) (x + 3) (nI ld)) 9 (nI (ob.length + 1)) = b
  have hn : ∀ j, j ≠ 9 → (j < x ∨ x + 3 < j) → b j = va_up a 10 (nI (n 10 + 1)) j := by
    intro j h1 h2
    rw [← hbb, up_n _ _ _ h1, up_n _ _ _ (by omega), up_n _ _ _ (by omega), up_n _ _ _ (by omega), up_n _ _ _ (by omega)]
  have h9 : b 9 = nI (ob.length + 1) := by rw [← hbb, up_e]
  have g0 : b x = nI st := by rw [← hbb, up_n _ _ _ (by omega), up_n _ _ _ (by omega), up_n _ _ _ (by omega), up_n _ _ _ (by omega), up_e]
  have g1 : b (x + 1) = nI lv := by rw [← hbb, up_n _ _ _ (by omega), up_n _ _ _ (by omega), up_n _ _ _ (by omega), up_e]
  have g2 : b (x + 2) = nI (n 10 + 1) := by rw [← hbb, up_n _ _ _ (by omega), up_n _ _ _ (by omega), up_e]
  have g3 : b (x + 3) = nI ld := by rw [← hbb, up_n _ _ _ (by omega), up_e]
  clear hbb
  obtain ⟨b1, b2, b3, b4, b5, b6⟩ := hr2
  refine ⟨⟨Mac_congr (hn _ (by omega) (by omega)) (hn _ (by omega) (by omega)) (fun j _ _ => hn j (by omega) (by omega)) b1, Num_congr (fun j hj => ?_) b2, Cub_congr (hn _ (by omega) (by omega)) (fun j _ _ => hn j (by omega) (by omega)) b3, ⟨?_, ?_, fun k q hq => ?_⟩, b5, Clm_congr (hn _ (by omega) (by omega)) (fun j _ _ => hn j (by omega) (by omega)) b6⟩, fun j hj => ?_⟩
  · have := nums_r hj
    exact hn j (by omega) (by omega)
  · show b 9 = nI (ob ++ [(st, lv, n 10 + 1, ld)]).length
    rw [h9, List.length_append]
    rfl
  · show (ob ++ [(st, lv, n 10 + 1, ld)]).length ≤ 80
    rw [List.length_append]
    show ob.length + 1 ≤ 80
    omega
  · have hq : (ob ++ [(st, lv, n 10 + 1, ld)])[k]? = some q := hq
    by_cases hk : k < ob.length
    · rw [List.getElem?_append_left hk] at hq
      rw [hn _ (by omega) (by omega), hn _ (by omega) (by omega), hn _ (by omega) (by omega), hn _ (by omega) (by omega)]
      exact b4.2.2 k q hq
    · have hlt := (List.getElem?_eq_some_iff.mp hq).1
      rw [List.length_append] at hlt
      have hk2 : k = ob.length := by
        have : [(st, lv, n 10 + 1, ld)].length = 1 := rfl
        omega
      subst hk2
      rw [List.getElem?_append_right (Nat.le_refl _), Nat.sub_self] at hq
      have : q = (st, lv, n 10 + 1, ld) := by simpa using hq.symm
      subst this
      rw [show 5105 + 4 * ob.length = x + 1 by omega, show 5106 + 4 * ob.length = x + 2 by omega, show 5107 + 4 * ob.length = x + 3 by omega, hx]
      exact ⟨g0, g1, g2, g3⟩
  · rw [hn j (by omega) (by omega), up_n _ _ _ (by omega)]
theorem rr_outLine (c : Ce) (m : Nat) (μ : MS) {a : Nat → Int32} {h : Nat → UInt32} {M : Mv} {n : Nat → Nat} {fr : List Cu} {ob : List Ln} {Y : (Nat → UInt32) × List (Nat × Nat)} (hr : RR a h (M, n, fr, ob, Y)) {k : Nat} (hk : k < ob.length) : Ok (m_X12_outLine (wr c m (mu0 μ a)) m (nI k)) (fun q => ∃ b, q = ((), wr c m (mu0 μ b)) ∧ RR b h (M, n, fr, ob.eraseIdx k, Y) ∧ OutA a b) := by
  obtain ⟨b1, b2, b3, ⟨h9, h80, hl⟩, b5, b6⟩ := hr
  have h9 : a 9 = nI ob.length := h9
  have h80 : ob.length ≤ 80 := h80
  unfold m_X12_outLine
  have ee : ∀ z : Nat, z ≤ 80 → 0 < z → ((5104 : Int32) + (4 : Int32) * nI z) - 4 = nI (5104 + 4 * (z - 1)) := by
    intro z hz h0
    rw [nl_5104, nl_4, pk_mul, nI_add, pk_sub (by omega)]
    congr 1
    omega
  have e0 : (5104 : Int32) + (4 : Int32) * nI k = nI (5104 + 4 * k) := by rw [nl_5104, nl_4, pk_mul, nI_add]
  rw [e0]
  refine ok_call (P := fun o => o = ((), wr c m (mu0 μ (shf a 4 (5104 + 4 * k) (5104 + 4 * (ob.length - 1)))))) (ok_cnt (5104 + 4 * k) (5104 + 4 * (ob.length - 1)) (fun i s => 5104 + 4 * k ≤ i ∧ s = (nI i, wr c m (mu0 μ (shf a 4 (5104 + 4 * k) i)))) (by omega) (by omega) ⟨Nat.le_refl _, by rw [shf_0]⟩ ?_ ?_) ?_
  · rintro i _ hi ⟨hi2, rfl⟩
    simp only [wr_g0, wr_rcv, bind_s, mu0_a, ma_of, rd_0, wt_0, rd_1, wt_1, rd_2, wt_2, rd_3, wt_3, rd_4, wt_4, rd_5, wt_5, rd_6, wt_6, rd_7, wt_7, rd_8, wt_8, rd_9, wt_9, rd_10, wt_10, rd_11, wt_11, rd_12, wt_12, rd_13, wt_13, rd_14, wt_14, rd_15, wt_15, rd_16, wt_16, rd_17, wt_17]
    rw [shf_o (by omega), h9, ee _ h80 (by omega), if_le (by omega) (by omega), if_neg (by omega), nl_4, nI_add, wr_a0 c m _ (by omega), bind_s, wr_u0 c m _ (by omega), bind_s]
    refine ok_some ⟨by omega, ?_⟩
    show (nI i + 1, _) = (nI (i + 1), _)
    rw [nI_1, ma_of, mu0_a, shf_s (by omega) (by omega)]
  · rintro _ ⟨hi2, rfl⟩
    simp only [wr_g0, wr_rcv, bind_s, mu0_a, ma_of, rd_0, wt_0, rd_1, wt_1, rd_2, wt_2, rd_3, wt_3, rd_4, wt_4, rd_5, wt_5, rd_6, wt_6, rd_7, wt_7, rd_8, wt_8, rd_9, wt_9, rd_10, wt_10, rd_11, wt_11, rd_12, wt_12, rd_13, wt_13, rd_14, wt_14, rd_15, wt_15, rd_16, wt_16, rd_17, wt_17]
    rw [shf_o (by omega), h9, ee _ h80 (by omega), if_le (by omega) (by omega), if_pos (by omega)]
    exact ok_some rfl
  · rintro _ rfl
    simp only [wr_g0, wr_rcv, bind_s, mu0_a, ma_of, rd_0, wt_0, rd_1, wt_1, rd_2, wt_2, rd_3, wt_3, rd_4, wt_4, rd_5, wt_5, rd_6, wt_6, rd_7, wt_7, rd_8, wt_8, rd_9, wt_9, rd_10, wt_10, rd_11, wt_11, rd_12, wt_12, rd_13, wt_13, rd_14, wt_14, rd_15, wt_15, rd_16, wt_16, rd_17, wt_17]
    rw [shf_o (by omega), h9, nl_1, pk_sub (by omega)]
    generalize hb0 : va_up (shf a 4 (5104 + 4 * k) (5104 + 4 * (ob.length - 1))) 9 (nI (ob.length - 1)) = b0
    refine ok_call (P := fun o => ∃ b, o = ((), wr c m (mu0 μ b)) ∧ ∀ j, (j < 5104 + 4 * (ob.length - 1) ∨ 5424 ≤ j) → b j = b0 j) (ok_cnt 0 4 (fun i s => ∃ b, s = (nI i, wr c m (mu0 μ b)) ∧ ∀ j, (j < 5104 + 4 * (ob.length - 1) ∨ 5424 ≤ j) → b j = b0 j) (by omega) (by omega) ⟨b0, rfl, fun _ _ => rfl⟩ ?_ ?_) ?_
    · rintro i _ hi ⟨b, rfl, hb⟩
      have hb9 : b 9 = nI (ob.length - 1) := by rw [hb 9 (by omega), ← hb0, up_e]
      rw [nl_4, if_le (by omega) (by omega), if_neg (by omega)]
      simp only [wr_g0, wr_rcv, bind_s, mu0_a, ma_of, rd_0, wt_0, rd_1, wt_1, rd_2, wt_2, rd_3, wt_3, rd_4, wt_4, rd_5, wt_5, rd_6, wt_6, rd_7, wt_7, rd_8, wt_8, rd_9, wt_9, rd_10, wt_10, rd_11, wt_11, rd_12, wt_12, rd_13, wt_13, rd_14, wt_14, rd_15, wt_15, rd_16, wt_16, rd_17, wt_17]
      rw [hb9, nl_5104, pk_mul, nI_add, nI_add, wr_u0 c m _ (by omega), bind_s, ma_of]
      refine ok_some ⟨va_up b (5104 + 4 * (ob.length - 1) + i) 0, ?_, fun j hj => ?_⟩
      · show (nI i + _, _) = (nI (i + 1), _)
        rw [nI_add]
      · rw [up_n _ _ _ (by omega)]
        exact hb j hj
    · rintro _ ⟨b, rfl, hb⟩
      rw [nl_4, if_le (by omega) (by omega), if_pos (Nat.le_refl _)]
      exact ok_some ⟨b, rfl, hb⟩
    · rintro _ ⟨b, rfl, hb⟩
      have hbj : ∀ j, j < 5104 → j ≠ 9 → b j = a j := by
        intro j hj hj9
        rw [hb j (by omega), ← hb0, up_n _ _ _ hj9, shf_o (by omega)]
      refine ok_some ⟨b, rfl, ⟨Mac_congr (hbj _ (by omega) (by omega)) (hbj _ (by omega) (by omega)) (fun j _ _ => hbj j (by omega) (by omega)) b1, Num_congr (fun j hj => ?_) b2, Cub_congr (hbj _ (by omega) (by omega)) (fun j _ _ => hbj j (by omega) (by omega)) b3, ⟨?_, ?_, fun i q hq => ?_⟩, b5, Clm_congr (hbj _ (by omega) (by omega)) (fun j _ _ => hbj j (by omega) (by omega)) b6⟩, fun j hj => ?_⟩
      · have := nums_r hj
        exact hbj j (by omega) (by omega)
      · rw [hb 9 (by omega), ← hb0, up_e]
        show _ = nI (ob.eraseIdx k).length
        rw [List.length_eraseIdx_of_lt hk]
      · show (ob.eraseIdx k).length ≤ 80
        rw [List.length_eraseIdx_of_lt hk]
        omega
      · have hq : (ob.eraseIdx k)[i]? = some q := hq
        have hil : i < ob.length - 1 := by
          have := (List.getElem?_eq_some_iff.mp hq).1
          rw [List.length_eraseIdx_of_lt hk] at this
          exact this
        rw [List.getElem?_eraseIdx] at hq
        rw [hb _ (by omega), hb _ (by omega), hb _ (by omega), hb _ (by omega), ← hb0, up_n _ _ _ (by omega), up_n _ _ _ (by omega), up_n _ _ _ (by omega), up_n _ _ _ (by omega)]
        by_cases hik : i < k
        · rw [if_pos hik] at hq
          rw [shf_o (by omega), shf_o (by omega), shf_o (by omega), shf_o (by omega)]
          exact hl i q hq
        · rw [if_neg hik] at hq
          rw [shf_i (by omega) (by omega), shf_i (by omega) (by omega), shf_i (by omega) (by omega), shf_i (by omega) (by omega)]
          have h7 := hl (i + 1) q hq
          rw [show 5104 + 4 * (i + 1) = 5104 + 4 * i + 4 by omega, show 5105 + 4 * (i + 1) = 5105 + 4 * i + 4 by omega, show 5106 + 4 * (i + 1) = 5106 + 4 * i + 4 by omega, show 5107 + 4 * (i + 1) = 5107 + 4 * i + 4 by omega] at h7
          exact h7
      · by_cases h3 : j < 3
        · exact hbj j (by omega) (by omega)
        · rw [hb j (by omega), ← hb0, up_n _ _ _ (by omega), shf_o (by omega)]
