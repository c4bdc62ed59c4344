/-! THE CLASS: seek -/
theorem ss_highest {ce : Ce} {nx : Nat} {A : Nat → Nat} {κ : Nat × Nat × Nat} {M : Mv} {n : Nat → Nat} {fr : List Cu} {Y : List Ln × (Nat → UInt32) × List (Nat × Nat)} (h : SS ce nx A κ (M, n, fr, Y)) (hC : WC M fr) {m b lv : Nat} (hm : m < 2 ^ M.1) (hb : b < 64) (hlv : lv ≤ n 4) (h4 : n 4 ≤ 120) : Ok (m_X8_highestFor ce (A 0) (nI (m * 64 + b)) (nI lv)) (fun z => z.1 = nI (upF M fr m b (n 4 - lv) lv (n 12)).1 ∧ SS z.2 nx A κ (M, va_up n 12 (upF M fr m b (n 4 - lv) lv (n 12)).2, fr, Y) ∧ Ev ce nx A κ z.2 0 0 A κ) := by
  unfold m_X8_highestFor
  generalize hu : upF M fr m b (n 4 - lv) lv (n 12) = u
  refine ok_call (P := fun o => ∃ d, o = (nI u.1, d) ∧ SS d nx A κ (M, va_up n 12 u.2, fr, Y) ∧ Ev ce nx A κ d 0 0 A κ) (ok_cnt 0 (n 4 - lv + 1) (fun j s => ∃ d, ((j ≤ n 4 - lv ∧ s = ((nI (lv + j), 1), d) ∧ SS d nx A κ (M, va_up n 12 (n 12 + j), fr, Y) ∧ u = upF M fr m b (n 4 - lv - j) (lv + j) (n 12 + j)) ∨ (s = ((nI u.1, 0), d) ∧ SS d nx A κ (M, va_up n 12 u.2, fr, Y))) ∧ Ev ce nx A κ d 0 0 A κ) (by omega) (by omega) ⟨ce, Or.inl ⟨by omega, rfl, ?_, hu.symm⟩, Ev_refl _ _ _ _⟩ ?_ ?_) ?_
  · rw [Nat.add_zero, up_self]
    exact h
  · rintro j _ hj ⟨d, (⟨hjT, rfl, hS, he⟩ | ⟨rfl, hS⟩), hE⟩
    · have r4 : gI d 6 4 (A 0) = some (nI (n 4)) := by rw [ss_r4 hS]; rfl
      have r8 : gI d 6 8 (A 0) = some (nI (n 12 + j)) := by rw [ss_r8 hS]; rfl
      show Ok ((gI d 6 4 (A 0)).bind _) _
      rw [r4, bind_s, if_le (by omega) (by omega)]
      by_cases hT : n 4 ≤ lv + j
      · rw [if_pos hT]
        have hj2 : j = n 4 - lv := by omega
        rw [show n 4 - lv - j = 0 by omega, upF] at he
        refine ok_some ⟨d, ?_, ?_, hE⟩
        · show (nI (lv + j), d) = (nI u.1, d)
          rw [he]
        · rw [he]
          exact hS
      · rw [if_neg hT]
        refine ok_iteF (show ¬ (1 : Int32) = 0 by decide) ?_
        show Ok ((gI d 6 8 (A 0)).bind _) _
        rw [r8, bind_s, nI_1]
        refine ok_call (ss_w8 hS (n 12 + j + 1)) ?_
        rintro d2 ⟨q1, q2⟩
        rw [up_up] at q1
        rw [ss_rcv q1, bind_s, ss_within q1 hC (by omega), bind_s, bind_s, ss_keeps q1 hm hb, bind_s]
        show Ok (if (if hld M fr m b (lv + j) then (1 : Int32) else 0) = 0 then some (Sum.inl ((nI (lv + j) + 0, if hld M fr m b (lv + j) then (1 : Int32) else 0), d2)) else some (Sum.inl ((nI (lv + j) + 1, if hld M fr m b (lv + j) then (1 : Int32) else 0), d2))) _
        rw [if_b]
        obtain ⟨t, ht⟩ : ∃ t, n 4 - lv - j = t + 1 := ⟨n 4 - lv - j - 1, by omega⟩
        rw [ht, upF] at he
        cases hh : hld M fr m b (lv + j) with
        | true =>
          rw [hh, if_pos rfl] at he
          refine ok_some ⟨d2, Or.inl ⟨by omega, ?_, ?_, ?_⟩, Ev_trans hE q2⟩
          · show ((nI (lv + j) + 1, (1 : Int32)), d2) = ((nI (lv + (j + 1)), 1), d2)
            rw [nI_1]
            rfl
          · exact q1
          · rw [show n 4 - lv - (j + 1) = t by omega]
            exact he
        | false =>
          rw [hh, if_neg (by decide)] at he
          refine ok_some ⟨d2, Or.inr ⟨?_, ?_⟩, Ev_trans hE q2⟩
          · show ((nI (lv + j) + 0, (0 : Int32)), d2) = ((nI u.1, 0), d2)
            rw [he, nl_0, nI_add]
            rfl
          · rw [he]
            exact q1
    · have r4 : gI d 6 4 (A 0) = some (nI (n 4)) := by rw [ss_r4 hS]; rfl
      show Ok ((gI d 6 4 (A 0)).bind _) _
      rw [r4, bind_s]
      refine ok_ite (fun _ => ok_some ⟨d, rfl, hS, hE⟩) (fun _ => ?_)
      exact ok_iteT rfl (ok_some ⟨d, rfl, hS, hE⟩)
  · rintro _ ⟨d, (⟨hjT, rfl, hS, he⟩ | ⟨rfl, hS⟩), hE⟩
    · omega
    · have r4 : gI d 6 4 (A 0) = some (nI (n 4)) := by rw [ss_r4 hS]; rfl
      show Ok ((gI d 6 4 (A 0)).bind _) _
      rw [r4, bind_s]
      refine ok_ite (fun _ => ok_some ⟨d, rfl, hS, hE⟩) (fun _ => ?_)
      exact ok_iteT rfl (ok_some ⟨d, rfl, hS, hE⟩)
  · rintro _ ⟨d, rfl, hS, hE⟩
    exact ok_some ⟨rfl, hS, hE⟩
/-! the lowest eight -/
theorem neg_xor (x : Int64) : -x = (x - 1) ^^^ (-1) := by
  apply Int64.toBitVec_inj.mp
  rw [Int64.toBitVec_neg, Int64.toBitVec_xor, Int64.toBitVec_sub]
  have e : (-1 : Int64).toBitVec = BitVec.allOnes 64 := by decide
  have e1 : (1 : Int64).toBitVec = 1#64 := rfl
  rw [e, e1, BitVec.xor_allOnes]
  apply BitVec.eq_of_toNat_eq
  have hlt := x.toBitVec.isLt
  rw [BitVec.toNat_neg, BitVec.toNat_not, BitVec.toNat_sub]
  have e2 : (1#64).toNat = 1 := rfl
  rw [e2]
  omega
theorem B_lowbit {x : Int64} {k : Nat} (hk : k < 64) (hb : B x k = true) (hl : ∀ j, j < k → B x j = false) {j : Nat} (hj : j < 64) : B (x &&& -x) j = decide (j = k) := by
  have h1 := B_pred hk hb hl hj
  rw [B_and] at h1
  rw [B_and, neg_xor, B_inv _ hj]
  cases hx : B x j with
  | false =>
    have : j ≠ k := fun e => by rw [e, hb] at hx; cases hx
    simp [this]
  | true =>
    rw [hx] at h1
    cases hy : B (x - 1) j with
    | true =>
      rw [hy] at h1
      have : j ≠ k := by simpa using h1
      simp [this]
    | false =>
      rw [hy] at h1
      have : j = k := by simpa using h1
      simp [this]
theorem filter_take {p : Nat → Bool} : ∀ (R : List Nat) (m : Nat), R.Nodup → R.filter (fun k => decide (k ∈ (R.filter p).take m)) = (R.filter p).take m := by
  intro R
  induction R with
  | nil => intro m _; simp
  | cons a R ih =>
    intro m hn
    rw [List.nodup_cons] at hn
    by_cases hp : p a = true
    · have e : (a :: R).filter p = a :: R.filter p := by simp [hp]
      rw [e]
      cases m with
      | zero => simp
      | succ m =>
        rw [List.take_succ_cons, List.filter_cons]
        simp only [List.mem_cons, true_or, decide_true, if_true]
        congr 1
        rw [← ih m hn.2]
        refine List.filter_congr fun k hk => ?_
        have hne : k ≠ a := fun e => hn.1 (e ▸ hk)
        simp only [hne, false_or]
        rw [ih m hn.2]
    · have e : (a :: R).filter p = R.filter p := by simp [hp]
      rw [e, List.filter_cons, if_neg, ih m hn.2]
      intro hm
      have hm : a ∈ (R.filter p).take m := by simpa using hm
      exact hn.1 (List.mem_filter.mp (List.mem_of_mem_take hm)).1
theorem ss_sought {ce : Ce} {nx : Nat} {A : Nat → Nat} {κ : Nat × Nat × Nat} {M : Mv} {n : Nat → Nat} {fr : List Cu} {Y : List Ln × (Nat → UInt32) × List (Nat × Nat)} (h : SS ce nx A κ (M, n, fr, Y)) (hC : WC M fr) (h8 : n 8 < M.2.2.2.1) (h4 : n 4 ≤ 120) : Ok (m_X8_soughtStates ce (A 0)) (fun x => bitsL x = (bitsL (badV M n fr)).take 8) := by
  unfold m_X8_soughtStates m_X8_badWithin
  have r4 : gI ce 6 4 (A 0) = some (nI (n 4)) := by rw [ss_r4 h]
  have ra : m_X8_aimStates ce (A 0) = some (M.2.2.2.2 (n 8)) := ss_aims h h8
  rw [r4, bind_s, ss_rcv h, bind_s, bind_s, ra, bind_s, bind_s, ss_within h hC (by omega), bind_s, bind_s]
  have hbd : badV M n fr = M.2.2.2.2 (n 8) &&& wth M fr (n 4) := rfl
  rw [hbd]
  generalize M.2.2.2.2 (n 8) &&& wth M fr (n 4) = bd
  refine ok_call (P := fun x => bitsL x = (bitsL bd).take 8) (ok_cnt 0 8 (fun j s => ∃ x y, s = (x, y, nI j) ∧ bitsL x = (bitsL bd).drop j ∧ ∀ k, k < 64 → B y k = decide (k ∈ (bitsL bd).take j)) (by omega) (by omega) ⟨bd, 0, rfl, rfl, fun k _ => by rw [B_0]; simp⟩ ?_ ?_) (fun a h => ok_some h)
  · rintro j _ hj ⟨x, y, rfl, hx, hy⟩
    rw [nl_8, if_le (by omega) (by omega), if_neg (by omega)]
    refine ok_some ⟨x &&& ((x &&& -x) ^^^ (-1)), y ||| (x &&& -x), ?_, ?_, fun k hk => ?_⟩
    · show (_, _, nI j + 1) = (_, _, nI (j + 1))
      rw [nI_1]
    · by_cases h0 : x = 0
      · subst h0
        rw [bitsL_z] at hx
        have e : (0 : Int64) &&& ((0 &&& -0) ^^^ (-1)) = 0 := by decide
        rw [e, bitsL_z]
        rw [← List.drop_drop, ← hx]
        rfl
      · obtain ⟨k, hk, hb, hl⟩ := B_low h0
        have e : x &&& ((x &&& -x) ^^^ (-1)) = x &&& (x - 1) := by
          refine B_ext fun i hi => ?_
          rw [B_and, B_inv _ hi, B_lowbit hk hb hl hi, B_pred hk hb hl hi]
          by_cases e9 : i = k <;> simp [e9]
        obtain ⟨k2, _, _, _, hbl⟩ := bitsL_low h0
        have : bitsL (x &&& (x - 1)) = (bitsL x).drop 1 := by rw [hbl]; rfl
        rw [e, this, hx, List.drop_drop]
    · rw [B_or, hy k hk]
      by_cases h0 : x = 0
      · subst h0
        rw [bitsL_z] at hx
        have hlen : (bitsL bd).length ≤ j := by
          have := congrArg List.length hx
          rw [List.length_drop] at this
          simp at this
          omega
        have e : (0 : Int64) &&& -0 = 0 := by decide
        rw [e, B_0, Bool.or_false, List.take_of_length_le hlen, List.take_of_length_le (by omega)]
      · obtain ⟨k1, hk1, hb, hl⟩ := B_low h0
        obtain ⟨k2, _, _, hlo, hbl⟩ := bitsL_low h0
        have hk12 : k1 = k2 := by
          have := lowS_at hk1 hb hl
          rw [hlo] at this
          simpa using this.symm
        subst hk12
        rw [B_lowbit hk1 hb hl hk]
        have hjb : j < (bitsL bd).length := by
          refine Nat.lt_of_not_le fun hle => ?_
          rw [List.drop_eq_nil_of_le hle, hbl] at hx
          cases hx
        have hkj : (bitsL bd)[j] = k1 := by
          rw [hbl, List.drop_eq_getElem_cons hjb] at hx
          exact (List.cons.inj hx).1.symm
        have htk : (bitsL bd).take (j + 1) = (bitsL bd).take j ++ [k1] := by rw [← hkj]; exact (List.take_append_getElem hjb).symm
        rw [htk]
        by_cases e9 : k = k1
        · simp [e9]
        · simp [e9]
  · rintro _ ⟨x, y, rfl, hx, hy⟩
    rw [nl_8, if_le (by omega) (by omega), if_pos (by omega)]
    refine ok_some ?_
    show bitsL y = _
    have e : bitsL y = (List.range 64).filter (fun k => decide (k ∈ ((List.range 64).filter (B bd)).take 8)) := by
      unfold bitsL
      refine List.filter_congr fun k hk => ?_
      exact hy k (List.mem_range.mp hk)
    rw [e]
    exact filter_take (List.range 64) 8 List.nodup_range
/-- what a call that may make cells leaves of a search -/
def StTo (ce : Ce) (nx : Nat) (A : Nat → Nat) (κ : Nat × Nat × Nat) (V : Sv) (d : Ce) (K S : Nat) : Prop := ∃ A2 κ2, SS d (nx + K) A2 κ2 V ∧ Ev ce nx A κ d K S A2 κ2
theorem StTo_0 {ce : Ce} {nx : Nat} {A : Nat → Nat} {κ : Nat × Nat × Nat} {V : Sv} {d : Ce} (h : SS d nx A κ V) (he : Ev ce nx A κ d 0 0 A κ) : StTo ce nx A κ V d 0 0 := ⟨A, κ, h, he⟩
theorem filter_range {p : Nat → Bool} {j : Nat} : ∀ N, j ≤ N → (∀ k, j ≤ k → p k = false) → (List.range N).filter p = (List.range j).filter p := by
  intro N hN hp
  induction N with
  | zero =>
    have : j = 0 := by omega
    rw [this]
  | succ N ih =>
    by_cases h : j = N + 1
    · rw [h]
    · rw [List.range_succ, List.filter_append, ih (by omega)]
      simp [hp N (by omega)]
theorem ss_seek {ce : Ce} {nx : Nat} {A : Nat → Nat} {κ : Nat × Nat × Nat} {V : Sv} (h : SS ce nx A κ V) (hC : WC V.1 V.2.2.1) (h8 : V.2.1 8 < V.1.2.2.2.1) (h4 : V.2.1 4 ≤ 120) (h10 : V.2.1 10 < 2 ^ 30) (hob : V.2.2.2.1.length ≤ 72) (hnum : ∀ q, q ∈ V.2.2.2.1 → q.2.2.1 ≤ V.2.1 10) : Ok (m_X8_seek nx ce (A 0)) (fun z => StTo ce nx A κ (seekV V) z.2.1 z.2.2.1 z.2.2.2) := by
  obtain ⟨M, n, fr, ob, fl, cl⟩ := V
  have h10 : n 10 < 2 ^ 30 := h10
  have h4 : n 4 ≤ 120 := h4
  have hob : ob.length ≤ 72 := hob
  have hnum : ∀ q, q ∈ ob → q.2.2.1 ≤ n 10 := hnum
  have hC : WC M fr := hC
  have hwm : WM M := by
    obtain ⟨_, _, w⟩ := ss_mach h
    exact w.1
  have h64 := p2_64 hwm.2.1
  have hbl : ∀ k, k < 64 → 2 ^ M.1 ≤ k → B (badV M n fr) k = false := by
    intro k hk hle
    unfold badV
    rw [B_and, hwm.2.2.2.2.2.2 (n 8) h8 k hk hle]
    rfl
  unfold m_X8_seek seekV
  show Ok _ (fun (z : Unit × Ce × Nat × Nat) => StTo ce nx A κ (if badV M n fr = 0 then (M, va_up (va_up (va_up n 4 (n 4 + 1)) 5 2) 6 1, fr, ob, fl, cl) else (M, va_up (va_up n 10 (addO (n 4) ((bitsL (badV M n fr)).take 8) (ob, n 10)).2) 5 1, fr, (addO (n 4) ((bitsL (badV M n fr)).take 8) (ob, n 10)).1, fl, cl)) z.2.1 z.2.2.1 z.2.2.2)
  rw [ss_rcv h, bind_s]
  refine ok_call (ss_sought h hC h8 h4) ?_
  intro x8 hx8
  by_cases h0 : badV M n fr = 0
  · rw [h0, bitsL_z] at hx8
    have hx0 : x8 = 0 := bitsL_0 hx8
    rw [if_pos (lcmp_0.mpr hx0), if_pos h0]
    obtain ⟨mp, at1, h1, h2, h3⟩ := h
    have h1 : ce (A 0) = some (.inr (6, Sob A mp n at1)) := h1
    rw [gI_c (k := 4) (x := nI (n 4)) h1 rfl, bind_s, nI_1, pV_c h1 (show 4 < 15 by omega), bind_s, pV_c (gu_e _ _ _) (show 3 < 15 by omega), bind_s, gu_gu, pV_c (gu_e _ _ _) (show 5 < 15 by omega), bind_s, gu_gu]
    refine ok_some (StTo_0 ⟨mp, 1, ?_, fun _ => rfl, SSr_cell h3 _⟩ (Ev_cell h1 rfl))
    show gx_up ce (A 0) _ (A 0) = _
    rw [gu_e]
    rfl
  · have hx0 : ¬ x8 = 0 := by
      intro e
      rw [e, bitsL_z] at hx8
      obtain ⟨k, _, _, _, hb⟩ := bitsL_low h0
      rw [hb] at hx8
      cases hx8
    rw [if_neg (fun z => hx0 (lcmp_0.mp z)), if_neg h0, ← hx8]
    have hlen8 : (bitsL x8).length ≤ 8 := by rw [hx8, List.length_take]; omega
    have hBx : ∀ k, 2 ^ M.1 ≤ k → B x8 k = false := by
      intro k hle
      by_cases hk : k < 64
      · cases hb : B x8 k with
        | false => rfl
        | true =>
          exfalso
          have : k ∈ bitsL x8 := by
            unfold bitsL
            exact List.mem_filter.mpr ⟨List.mem_range.mpr hk, hb⟩
          rw [hx8] at this
          have := (bitsL_lt (List.mem_of_mem_take this)).2
          rw [hbl k hk hle] at this
          cases this
      · exact B_big (by omega)
    have hall : (List.range (2 ^ M.1)).filter (B x8) = bitsL x8 := (filter_range 64 h64 hBx).symm
    have hln : ∀ j, j ≤ 64 → ((List.range j).filter (B x8)).length ≤ 8 := by
      intro j hj
      refine Nat.le_trans ?_ hlen8
      unfold bitsL
      exact ((List.range_sublist.mpr hj).filter _).length_le
    refine ok_adcB (ok_mono (P := fun q => StTo ce nx A κ (M, va_up n 10 (addO (n 4) (bitsL x8) (ob, n 10)).2, fr, (addO (n 4) (bitsL x8) (ob, n 10)).1, fl, cl) q.2.1 q.2.2.1 q.2.2.2) (ok_cntA (Q := fun _ d K S => StTo ce nx A κ (M, va_up n 10 (addO (n 4) (bitsL x8) (ob, n 10)).2, fr, (addO (n 4) (bitsL x8) (ob, n 10)).1, fl, cl) d K S) 0 (2 ^ M.1) (fun j nx2 c s K S => s = nI j ∧ nx2 = nx + K ∧ StTo ce nx A κ (M, va_up n 10 (addO (n 4) ((List.range j).filter (B x8)) (ob, n 10)).2, fr, (addO (n 4) ((List.range j).filter (B x8)) (ob, n 10)).1, fl, cl) c K S ∧ ∀ q, q ∈ (addO (n 4) ((List.range j).filter (B x8)) (ob, n 10)).1 → q.2.2.1 ≤ (addO (n 4) ((List.range j).filter (B x8)) (ob, n 10)).2) (by omega) (Nat.zero_le _) ?_ ?_ ?_) ?_)
    · refine ⟨rfl, rfl, ?_, hnum⟩
      show StTo ce nx A κ (M, va_up n 10 (n 10), fr, ob, fl, cl) ce 0 0
      rw [up_self]
      exact StTo_0 h (Ev_refl _ _ _ _)
    · rintro j nx2 c s K S hj ⟨rfl, rfl, ⟨A2, κ2, hS, hE⟩, hnm⟩
      have e0 : A2 0 = A 0 := hE.1
      obtain ⟨mp, g1, g2, g3, g4⟩ := ss_letters hS
      rw [← e0, g1, bind_s, show gI c 3 1 mp = some (nI (2 ^ M.1)) from g3, bind_s, if_le (by omega) (by omega), if_neg (by omega), ch_has _ (by omega : j < 64), bind_s, if_b, List.range_succ, List.filter_append]
      have hlj := hln j (by omega)
      have hal := addO_len (n 4) ((List.range j).filter (B x8)) (ob, n 10)
      generalize hrr : addO (n 4) ((List.range j).filter (B x8)) (ob, n 10) = rr at hS hnm hal
      have hal1 : rr.1.length = ob.length + ((List.range j).filter (B x8)).length := hal.1
      have hal2 : rr.2 = n 10 + ((List.range j).filter (B x8)).length := hal.2
      cases hb : B x8 j with
      | false =>
        rw [if_neg (by decide)]
        have ef : [j].filter (B x8) = [] := by simp [hb]
        rw [ef, List.append_nil, hrr]
        exact ok_some ⟨nI_1 j, rfl, ⟨A2, κ2, hS, hE⟩, hnm⟩
      | true =>
        rw [if_pos rfl]
        have ef : [j].filter (B x8) = [j] := by simp [hb]
        rw [ef, addO_snoc, hrr]
        have r6 : gI c 6 6 (A2 0) = some (nI rr.2) := by rw [ss_r6 hS]; rfl
        rw [r6, bind_s, nI_1]
        refine ok_call (ss_w6 hS (rr.2 + 1)) ?_
        rintro d ⟨q1, q2⟩
        rw [up_up] at q1
        have r4 : gI d 6 4 (A2 0) = some (nI (n 4)) := by rw [ss_r4 q1]; rfl
        have r6b : gI d 6 6 (A2 0) = some (nI (rr.2 + 1)) := by rw [ss_r6 q1]; rfl
        obtain ⟨lc, o1, o2⟩ := ss_obl q1
        have hll : lc.length = rr.1.length := o2.1.length_eq
        have hlt := ss_lt q1
        rw [ss_r12 q1, bind_s, r4, bind_s, r6b, bind_s, co_rcv o1, bind_s]
        refine ok_adcB (ok_mono (co_add o1 ⟨hlt.1 5 (by omega), hlt.1 6 (by omega)⟩ (hlt.2 5 (by omega) 6 (by omega) (by omega)) (by omega) (j, n 4, rr.2 + 1, 0) ⟨by show j < 64; omega, by show n 4 < 128; omega, by show rr.2 + 1 < 2 ^ 31; omega, by show 0 < 2 ^ 31; omega⟩) ?_)
        rintro ⟨u, d2, K2, S2⟩ hto
        have hto : OboTo d (nx + K) (A2 5) (A2 6) κ2.2.1 (insO (j, n 4, rr.2 + 1, 0) lc) d2 K2 S2 := hto
        obtain ⟨A3, κ3, z1, z2⟩ := ss_obs q1 (srtO_add o2 (j, n 4, rr.2 + 1, 0) (fun q hq => by have := hnm q hq; show q.2.2.1 < rr.2 + 1; omega)) hto
        refine ok_some ⟨nI_1 j, ?_, ⟨A3, κ3, ?_, ?_⟩, fun q hq => ?_⟩
        · show nx + K + (0 + K2) = nx + (K + (0 + K2))
          omega
        · show SS d2 (nx + (K + (0 + K2))) A3 κ3 _
          rw [show nx + (K + (0 + K2)) = nx + K + K2 by omega]
          exact z1
        · show Ev ce nx A κ d2 (K + (0 + K2)) (S + (0 + S2)) A3 κ3
          have := Ev_trans hE (Ev_trans q2 z2)
          rw [show K + (0 + K2) = K2 + 0 + K by omega, show S + (0 + S2) = S2 + 0 + S by omega]
          exact this
        · rcases List.mem_append.mp hq with h9 | h9
          · have := hnm q h9
            show q.2.2.1 ≤ rr.2 + 1
            omega
          · have : q = (j, n 4, rr.2 + 1, 0) := by simpa using h9
            rw [this]
            exact Nat.le_refl _
    · rintro nx2 c s K S ⟨rfl, rfl, ⟨A2, κ2, hS, hE⟩, hnm⟩
      have e0 : A2 0 = A 0 := hE.1
      obtain ⟨mp, g1, g2, g3, g4⟩ := ss_letters hS
      rw [← e0, g1, bind_s, show gI c 3 1 mp = some (nI (2 ^ M.1)) from g3, bind_s, if_le (by omega) (by omega), if_pos (Nat.le_refl _)]
      rw [hall] at hS
      exact ok_some ⟨A2, κ2, hS, hE⟩
    · rintro ⟨u, d, K, S⟩ ⟨A2, κ2, hS, hE⟩
      have hE : Ev ce nx A κ d K S A2 κ2 := hE
      have e0 : A2 0 = A 0 := hE.1
      show Ok ((pV d 6 3 (A 0) (.int 1)).bind _) _
      rw [← e0]
      refine ok_call (ss_w3 hS 1 (by omega)) ?_
      rintro d2 ⟨q1, q2⟩
      refine ok_some ⟨A2, κ2, ?_, ?_⟩
      · show SS d2 (nx + (0 + K)) A2 κ2 _
        rw [Nat.zero_add]
        exact q1
      · show Ev ce nx A κ d2 (0 + K) (0 + S) A2 κ2
        exact Ev_trans hE q2
