/-! READERS: cubes by frames, obligations, order -/
theorem fr_at {fr : List Cu} {f : Nat} (hf : f < 127) : ((srtF fr).drop (stR (srtF fr) f)).take (stR (srtF fr) (f + 1) - stR (srtF fr) f) = atF f fr := by
  obtain ⟨Y, h1, h2⟩ := srtF_at (cur := fr) (a := f) (by omega)
  rw [stR_srt fr (by omega), stR_srt fr (by omega), srtN, List.length_append, Nat.add_sub_cancel_left, h1, List.drop_left]
  exact List.take_left' rfl
theorem filt_get {α : Type} {p : α → Bool} {l : List α} {j : Nat} {q : α} (h : l[j]? = some q) (hp : p q = true) : (l.filter p)[(l.take j).countP p]? = some q := by
  have hj := (List.getElem?_eq_some_iff.mp h).1
  have e : l = l.take j ++ q :: l.drop (j + 1) := by
    have h2 : l[j] = q := (List.getElem?_eq_some_iff.mp h).2
    rw [← h2, ← List.drop_eq_getElem_cons hj, List.take_append_drop]
  have e2 : l.filter p = (l.take j).filter p ++ q :: (l.drop (j + 1)).filter p := by
    conv => lhs; rw [e]
    rw [List.filter_append, List.filter_cons, if_pos hp]
  rw [e2, List.countP_eq_length_filter, List.getElem?_append_right (Nat.le_refl _), Nat.sub_self]
  rfl
theorem take_s {α : Type} {l : List α} {j : Nat} {q : α} (h : l[j]? = some q) : l.take (j + 1) = l.take j ++ [q] := by
  rw [List.take_add_one, h]
  rfl
theorem cnt_s {α : Type} {p : α → Bool} {l : List α} {j : Nat} {q : α} (h : l[j]? = some q) : (l.take (j + 1)).countP p = (l.take j).countP p + if p q then 1 else 0 := by
  rw [take_s h, List.countP_append]
  congr 1
  cases hp : p q <;> simp [hp]
/-- where the i-th cube of a frame lies -/
theorem sr_cubeBy (c : Ce) (m : Nat) {μ : MS} {fr : List Cu} (hC : Cub (μ.1 0) fr) {f i : Nat} (hf : f < 2 ^ 31) (hi : i < 2 ^ 31) : Ok (m_X12_cubeBy (wr c m μ) m (nI f) (nI i)) (fun v => match (atF f fr)[i]? with | none => v = -1 | some u => ∃ k, v = nI k ∧ fr[k]? = some u) := by
  have h5 := hC.2.1
  unfold m_X12_cubeBy
  refine ok_call (P := fun o => match (atF f fr)[i]? with | none => o = Sum.inr () | some u => ∃ k, o = Sum.inl (nI k) ∧ fr[k]? = some u) (ok_cnt 0 fr.length (fun j s => s = (nI ((fr.take j).countP fun q => decide (q.1 = f)), nI j) ∧ ((fr.take j).countP fun q => decide (q.1 = f)) ≤ i) (by omega) (by omega) ⟨by rw [List.take_zero]; rfl, by rw [List.take_zero]; exact Nat.zero_le _⟩ ?_ ?_) ?_
  · rintro j _ hj ⟨rfl, hl⟩
    have hat : fr[j]? = some fr[j] := List.getElem?_eq_getElem hj
    have hb := (hC.2.2 j _ hat).2.1
    have hcl : ((fr.take j).countP fun q => decide (q.1 = f)) ≤ j := Nat.le_trans List.countP_le_length (by rw [List.length_take]; omega)
    simp only [wr_g0, wr_rcv, bind_s, mu0_a, ma_of, rd_0, wt_0, rd_1, wt_1, rd_2, wt_2, rd_3, wt_3, rd_4, wt_4, rd_5, wt_5, rd_6, wt_6, rd_7, wt_7, rd_8, wt_8, rd_9, wt_9, rd_10, wt_10, rd_11, wt_11, rd_12, wt_12, rd_13, wt_13, rd_14, wt_14, rd_15, wt_15, rd_16, wt_16, rd_17, wt_17]
    rw [hC.1, if_le (by omega) (by omega), if_neg (by omega), sc_frameOf c m μ hC hat, bind_s, if_eq (by omega) (by omega)]
    by_cases hq : fr[j].1 = f
    · rw [if_pos hq]
      have hpq : decide ((fr[j]).1 = f) = true := by simp [hq]
      rw [if_eq (by omega) hi]
      by_cases e : ((fr.take j).countP fun q => decide (q.1 = f)) = i
      · rw [if_pos e]
        refine ok_some ?_
        have h1 : (atF f fr)[i]? = some fr[j] := by
          rw [← e]
          exact filt_get hat hpq
        rw [h1]
        exact ⟨j, rfl, hat⟩
      · rw [if_neg e]
        refine ok_some ⟨?_, ?_⟩
        · rw [cnt_s hat, if_pos hpq, nI_1, nI_1]
        · rw [cnt_s hat, if_pos hpq]
          omega
    · rw [if_neg hq]
      have hpq : ¬ decide ((fr[j]).1 = f) = true := by simp [hq]
      refine ok_some ⟨?_, ?_⟩
      · rw [cnt_s hat, if_neg hpq, nI_1]
        rfl
      · rw [cnt_s hat, if_neg hpq]
        exact hl
  · rintro _ ⟨rfl, hl⟩
    simp only [wr_g0, wr_rcv, bind_s, mu0_a, ma_of, rd_0, wt_0, rd_1, wt_1, rd_2, wt_2, rd_3, wt_3, rd_4, wt_4, rd_5, wt_5, rd_6, wt_6, rd_7, wt_7, rd_8, wt_8, rd_9, wt_9, rd_10, wt_10, rd_11, wt_11, rd_12, wt_12, rd_13, wt_13, rd_14, wt_14, rd_15, wt_15, rd_16, wt_16, rd_17, wt_17]
    rw [hC.1, if_pos (Int32.le_refl _)]
    refine ok_some ?_
    have h1 : (atF f fr)[i]? = none := by
      refine List.getElem?_eq_none ?_
      unfold atF
      rw [← List.countP_eq_length_filter]
      rw [List.take_length] at hl
      exact hl
    rw [h1]
  · intro o ho
    cases h1 : (atF f fr)[i]? with
    | none =>
      rw [h1] at ho
      rw [ho]
      exact ok_some rfl
    | some u =>
      rw [h1] at ho
      obtain ⟨k, rfl, hk⟩ := ho
      exact ok_some ⟨k, rfl, hk⟩
theorem e_cube {ce : Ce} {nx : Nat} {A : Nat → Nat} {κ : Nat × Nat × Nat} {V : Sv} {c : Ce} {m : Nat} {μ : MS} {x j : Nat} (hx : XS ce x A) (h : SS ce nx A κ V) (hr : RV μ V) (hi : IV j V) (p q r : Int32) : Both (m_X11_cube ce x p q r) (m_X12_cube (wr c m μ) m p q r) := by
  obtain ⟨_, w, x1, x2⟩ := hx
  have h4 := IV_top hi
  have hC := hr.2.2.1
  have h5 := hC.2.1
  unfold m_X11_cube m_X12_cube
  by_cases hp : Inb 1 (V.2.1 4 + 1) p
  · obtain ⟨f, hf1, hf, rfl⟩ := hp
    have hct := srt_count (cur := V.2.2.1) (a := f) (by omega)
    have e1 : m_X12_isIn (nI f) (1 : Int32) (nI (V.2.1 4)) = some 1 := isin_in (lo := 1) hf1 (by omega) (by omega)
    have hR := ss_row h
    have hle : stR (srtF V.2.2.1) (f + 1) ≤ (srtF V.2.2.1).length := stR_le _ _
    have e2 := cw_part hR hct.2 hle q r
    rw [fr_at (by omega)] at e2
    have e3 : nI (stR (srtF V.2.2.1) f) + nI (stR (srtF V.2.2.1) (f + 1) - stR (srtF V.2.2.1) f) = nI (stR (srtF V.2.2.1) (f + 1)) := by
      rw [nI_add]
      exact congrArg nI (by omega)
    simp only [x1, x2, bind_s, ss_rcv h, ck_in h h4 hf1 hf, i10, if_false, ss_r11 h, cw_rcv hR, cw_startOf hR (show f < 2 ^ 31 by omega), cw_countOf hR (show f + 1 < 2 ^ 31 by omega) hct.2, e3, e2, wr_g0, rd_4, hr.2.1 4 (by decide), e1, wr_rcv, sr_manyOf c m μ hC (show f < 2 ^ 31 by omega)]
    refine ⟨_, rfl, ?_⟩
    unfold cpV
    have hlen : (atF f V.2.2.1).length = manyF V.2.2.1 f := by
      unfold atF manyF
      rw [List.countP_eq_length_filter]
    by_cases h1 : q = -1
    · rw [if_pos h1, if_pos h1, hlen]
    · rw [if_neg h1, if_neg h1]
      by_cases h0 : q < 0
      · rw [if_pos h0, if_neg (Int32.not_le.mpr h0), bind_s, if_pos rfl]
      · rw [if_neg h0, if_pos (Int32.not_lt.mp h0)]
        obtain ⟨i, hi2, rfl⟩ := nI_of h0
        rw [nI_clamp hi2]
        obtain ⟨v, hv, hv2⟩ := sr_cubeBy c m hC (f := f) (i := i) (by omega) hi2
        rw [hv, bind_s, bind_s]
        cases ha : (atF f V.2.2.1)[i]? with
        | none =>
          rw [ha] at hv2
          have hv2 : v = -1 := hv2
          rw [hv2, if_pos rfl]
        | some u =>
          rw [ha] at hv2
          obtain ⟨k, rfl, hk⟩ := hv2
          have hk5 := (List.getElem?_eq_some_iff.mp hk).1
          rw [if_neg (nI_m1 (by omega))]
          show _ = some (if r = 0 then nI u.2.1 else if r = 1 then nI u.2.2 else -2)
          by_cases q0 : r = 0
          · subst q0
            have e5 : m_X12_isIn (0 : Int32) (0 : Int32) (1 : Int32) = some 1 := rfl
            unfold m_X12_cubeAt
            simp only [e5, bind_s, i10, if_false, wr_rcv, i00, if_true, sc_maskOf c m μ hC hk]
          · by_cases q1 : r = 1
            · subst q1
              have e5 : m_X12_isIn (1 : Int32) (0 : Int32) (1 : Int32) = some 1 := rfl
              unfold m_X12_cubeAt
              simp only [e5, bind_s, i10, if_false, wr_rcv, sc_bitsOf c m μ hC hk, eq_self, if_true]
            · have e5 : m_X12_isIn r (0 : Int32) (1 : Int32) = some 0 := by
                refine isin_out (lo := 0) (hi := 1) (by omega) (by omega) ?_
                rintro ⟨s, _, hs, e⟩
                have : s = 0 ∨ s = 1 := by omega
                rcases this with rfl | rfl
                · exact q0 e
                · exact q1 e
              rw [e5, bind_s, if_pos rfl, if_neg q0, if_neg q1]
  · have e1 : m_X12_isIn p (1 : Int32) (nI (V.2.1 4)) = some 0 := isin_out (lo := 1) (by omega) (by omega) hp
    simp only [x1, x2, bind_s, ss_rcv h, ck_out h h4 hp, i00, if_true, wr_g0, rd_4, hr.2.1 4 (by decide), e1]
    exact ⟨_, rfl, rfl⟩
/-! letters of a frame's cubes -/
def wgt (l : List Cu) : Nat := (l.map fun q => cnt (nI q.2.1).toInt64).sum
theorem pop_6 : ∀ m, m < 64 → m_J6_bitCount_0f7a4 (nI m) = some (nI (cnt (nI m).toInt64)) := by decide +kernel
theorem wgt_s (l : List Cu) (q : Cu) : wgt (l ++ [q]) = wgt l + cnt (nI q.2.1).toInt64 := by
  unfold wgt
  rw [List.map_append, List.sum_append]
  simp
theorem e_weight {ce : Ce} {nx : Nat} {A : Nat → Nat} {κ : Nat × Nat × Nat} {V : Sv} {c : Ce} {m : Nat} {μ : MS} {x j : Nat} (hx : XS ce x A) (h : SS ce nx A κ V) (hr : RV μ V) (hi : IV j V) (p : Int32) : Both (m_X11_weight ce x p) (m_X12_weight (wr c m μ) m p) := by
  obtain ⟨_, w, x1, x2⟩ := hx
  have h4 := IV_top hi
  have hC := hr.2.2.1
  have h5 := hC.2.1
  unfold m_X11_weight m_X12_weight
  by_cases hp : Inb 1 (V.2.1 4 + 1) p
  · obtain ⟨f, hf1, hf, rfl⟩ := hp
    have hct := srt_count (cur := V.2.2.1) (a := f) (by omega)
    have e1 : m_X12_isIn (nI f) (1 : Int32) (nI (V.2.1 4)) = some 1 := isin_in (lo := 1) hf1 (by omega) (by omega)
    have hR := ss_row h
    have hlen : (atF f V.2.2.1).length = manyF V.2.2.1 f := by
      unfold atF manyF
      rw [List.countP_eq_length_filter]
    have hst : stR (srtF V.2.2.1) f = (srtN V.2.2.1 f).length := stR_srt V.2.2.1 (by omega)
    have cls : m_X2_lettersOf ce (A 1) (nI f) = some (nI (wgt (atF f V.2.2.1))) := by
      obtain ⟨F, C, S, r1, r2, r3, r4, r5, r6, r7, r8⟩ := hR
      have hR := ss_row h
      have hle : stR (srtF V.2.2.1) (f + 1) ≤ (srtF V.2.2.1).length := stR_le _ _
      refine ok_eq ?_
      unfold m_X2_lettersOf
      rw [cw_rcv hR, bind_s, cw_startOf hR (by omega), bind_s]
      refine ok_call (P := fun o => o = nI (wgt (atF f V.2.2.1))) (ok_cnt 0 (atF f V.2.2.1).length (fun j s => s = (nI (wgt ((atF f V.2.2.1).take j)), nI (stR (srtF V.2.2.1) f + j))) (by omega) (by omega) (by rw [List.take_zero, Nat.add_zero]; show ((0 : Int32), nI (stR (srtF V.2.2.1) f)) = (nI 0, nI (stR (srtF V.2.2.1) f)); rw [nI_0]) ?_ ?_) (fun a ha => ok_some ha)
      · rintro j _ hj rfl
        have hat : (atF f V.2.2.1)[j]? = some (atF f V.2.2.1)[j] := List.getElem?_eq_getElem hj
        generalize (atF f V.2.2.1)[j] = u at hat
        have hg := (at_get (cur := V.2.2.1) (a := f) (by omega) j).2 u hat
        rw [← hst] at hg
        have hu := r7 u (List.mem_of_getElem? hg)
        have hu8 := r8 _ u hg
        have huf : u.1 = f := by
          have := (List.mem_filter.mp (List.mem_of_getElem? hat)).2
          simpa using this
        have hlt := (List.getElem?_eq_some_iff.mp hg).1
        simp only [gI_c (k := 3) r1 rfl, bind_s, gA_c (k := 0) r1 rfl, gA_c (k := 1) r1 rfl, aI_c r2 (show stR (srtF V.2.2.1) f + j < κ.1 by omega) (by omega), aI_c r3 (show stR (srtF V.2.2.1) f + j < κ.1 by omega) (by omega), hu8.1, hu8.2.1, huf, eq_self, if_true, cc_maskOf hu.2.1 hu.2.2, pop_6 _ hu.2.1]
        rw [if_le (by omega) (by omega), if_neg (by omega)]
        refine ok_some ?_
        show (nI (wgt ((atF f V.2.2.1).take j)) + nI (cnt (nI u.2.1).toInt64), nI (stR (srtF V.2.2.1) f + j) + 1) = _
        rw [take_s hat, wgt_s, nI_add, nI_1, Nat.add_assoc]
      · rintro _ rfl
        rw [List.take_length]
        have e9 := (at_get (cur := V.2.2.1) (a := f) (by omega) (atF f V.2.2.1).length).1
        rw [List.getElem?_eq_none (Nat.le_refl _), ← hst] at e9
        simp only [gI_c (k := 3) r1 rfl, bind_s]
        rw [if_le (by omega) (by omega)]
        by_cases hz : (srtF V.2.2.1).length ≤ stR (srtF V.2.2.1) f + (atF f V.2.2.1).length
        · rw [if_pos hz]
          exact ok_some rfl
        · rw [if_neg hz]
          have hg : (srtF V.2.2.1)[stR (srtF V.2.2.1) f + (atF f V.2.2.1).length]? = some ((srtF V.2.2.1)[stR (srtF V.2.2.1) f + (atF f V.2.2.1).length]'(by omega)) := List.getElem?_eq_getElem _
          generalize (srtF V.2.2.1)[stR (srtF V.2.2.1) f + (atF f V.2.2.1).length]'(by omega) = u at hg
          rw [hg] at e9
          have hne : ¬ u.1 = f := by
            intro e
            rw [show (some u).any (fun q => decide (q.1 = f)) = decide (u.1 = f) from rfl, e] at e9
            simp at e9
          have hu := r7 u (List.mem_of_getElem? hg)
          simp only [gA_c (k := 0) r1 rfl, bind_s, aI_c r2 (show stR (srtF V.2.2.1) f + (atF f V.2.2.1).length < κ.1 by omega) (by omega), (r8 _ u hg).1]
          rw [if_eq (by omega) (by omega), if_neg hne]
          exact ok_some rfl
    have mdl : Ok (it (fun (zs4 : Int32 × Int32) => (gA (wr c m μ) 9 0 m).bind fun zx7 => (aI (wr c m μ) zx7 (17 : Int32)).bind fun zx8 => if zx8 ≤ zs4.2 then some (Sum.inr zs4.1) else (rcv (wr c m μ) 9 m).bind fun _ => (m_X12_frameOf (wr c m μ) m zs4.2).bind fun zx10 => if zx10 = nI f then (rcv (wr c m μ) 9 m).bind fun _ => (m_X12_maskOf (wr c m μ) m zs4.2).bind fun zx12 => (m_X12_many (Int32.toInt64 zx12)).bind fun zx13 => some (Sum.inl ((zs4.1 + zx13), (zs4.2 + (1 : Int32)))) else some (Sum.inl ((zs4.1 + (0 : Int32)), (zs4.2 + (1 : Int32))))) FU ((0 : Int32), (0 : Int32))) (fun o => o = nI (wgt (atF f V.2.2.1))) := by
      refine ok_cnt 0 V.2.2.1.length (fun j s => s = (nI (wgt (atF f (V.2.2.1.take j))), nI j)) (by omega) (by omega) (by rw [List.take_zero]; rfl) ?_ ?_
      · rintro j _ hj rfl
        have hat : V.2.2.1[j]? = some V.2.2.1[j] := List.getElem?_eq_getElem hj
        generalize V.2.2.1[j] = u at hat
        have hb := (hC.2.2 j _ hat).2.1
        simp only [wr_g0, wr_rcv, bind_s, mu0_a, ma_of, rd_0, wt_0, rd_1, wt_1, rd_2, wt_2, rd_3, wt_3, rd_4, wt_4, rd_5, wt_5, rd_6, wt_6, rd_7, wt_7, rd_8, wt_8, rd_9, wt_9, rd_10, wt_10, rd_11, wt_11, rd_12, wt_12, rd_13, wt_13, rd_14, wt_14, rd_15, wt_15, rd_16, wt_16, rd_17, wt_17]
        rw [hC.1, if_le (by omega) (by omega), if_neg (by omega), sc_frameOf c m μ hC hat, bind_s, if_eq (by omega) (by omega)]
        have ea : atF f (V.2.2.1.take (j + 1)) = atF f (V.2.2.1.take j) ++ if u.1 = f then [u] else [] := by
          rw [take_s hat]
          unfold atF
          have e8 : ([u].filter fun q => decide (q.1 = f)) = if u.1 = f then [u] else [] := by by_cases e : u.1 = f <;> simp [e]
          rw [List.filter_append, e8]
        by_cases hq : u.1 = f
        · rw [if_pos hq, sc_maskOf c m μ hC hat, bind_s, sr_many, bind_s]
          refine ok_some ?_
          show (nI (wgt (atF f (V.2.2.1.take j))) + nI (cnt (nI u.2.1).toInt64), nI j + 1) = _
          rw [ea, if_pos hq, wgt_s, nI_add, nI_1]
        · rw [if_neg hq]
          refine ok_some ?_
          show (nI (wgt (atF f (V.2.2.1.take j))) + 0, nI j + 1) = _
          rw [ea, if_neg hq, List.append_nil, Int32.add_zero, nI_1]
      · rintro _ rfl
        simp only [wr_g0, wr_rcv, bind_s, mu0_a, ma_of, rd_0, wt_0, rd_1, wt_1, rd_2, wt_2, rd_3, wt_3, rd_4, wt_4, rd_5, wt_5, rd_6, wt_6, rd_7, wt_7, rd_8, wt_8, rd_9, wt_9, rd_10, wt_10, rd_11, wt_11, rd_12, wt_12, rd_13, wt_13, rd_14, wt_14, rd_15, wt_15, rd_16, wt_16, rd_17, wt_17]
        rw [hC.1, if_pos (Int32.le_refl _), List.take_length]
        exact ok_some rfl
    obtain ⟨o, ho, ho2⟩ := mdl
    simp only [x1, x2, bind_s, ss_rcv h, ck_in h h4 hf1 hf, i10, if_false, ss_r11 h, cw_rcv hR, cls]
    refine ⟨_, rfl, ?_⟩
    rw [wr_g0, bind_s, rd_4, bind_s, hr.2.1 4 (by decide), e1, bind_s, if_neg (by decide)]
    rw [wr_g0] at ho
    rw [ho, bind_s, ho2]
  · have e1 : m_X12_isIn p (1 : Int32) (nI (V.2.1 4)) = some 0 := isin_out (lo := 1) (by omega) (by omega) hp
    simp only [x1, x2, bind_s, ss_rcv h, ck_out h h4 hp, i00, if_true, wr_g0, rd_4, hr.2.1 4 (by decide), e1]
    exact ⟨_, rfl, rfl⟩
/-! obligations -/
theorem sr_lineBy (c : Ce) (m : Nat) {μ : MS} {ob lc : List Ln} (hO : Lin (μ.1 0) ob) (hB : LB ob) (hg : Grow ob) (hs : SrtO ob lc) {i : Nat} (hi : i < ob.length) : ∃ k q, m_X12_lineBy (wr c m μ) m (nI i) = some (nI k) ∧ ob[k]? = some q ∧ lc[i]? = some q := by
  have h80 := hO.2.1
  have hll : lc.length = ob.length := hs.1.length_eq
  have key : Ok (m_X12_lineBy (wr c m μ) m (nI i)) (fun v => ∃ k q, v = nI k ∧ ob[k]? = some q ∧ lc[i]? = some q) := by
    unfold m_X12_lineBy
    have e0 := sr_nextLine c m μ hO hB (o := none) (p := fun _ => true) (fun _ => rfl)
    have e0 : m_X12_nextLine (wr c m μ) m (-1) = some (oI (bst (fun _ => true) ob ob.length)) := e0
    have b0 := bst_0 hg hs
    rw [wr_rcv, bind_s, e0, bind_s]
    refine ok_call (P := fun v => ∃ k q, v = nI k ∧ ob[k]? = some q ∧ lc[i]? = some q) (ok_cnt 0 i (fun n s => s.2 = nI n ∧ ∃ k q, s.1 = nI k ∧ ob[k]? = some q ∧ lc[n]? = some q) (by omega) (by omega) ⟨rfl, ?_⟩ ?_ ?_) (fun a h => ok_some h)
    · have h0 : lc[0]? = some (lc[0]'(by omega)) := List.getElem?_eq_getElem _
      rw [h0] at b0
      obtain ⟨k, k1, k2⟩ := Option.bind_eq_some_iff.mp b0
      exact ⟨k, _, by rw [k1]; rfl, k2, h0⟩
    · rintro n ⟨u, v⟩ hn ⟨h1, k, q, h2, h3, h4⟩
      have h1 : v = nI n := h1
      have h2 : u = nI k := h2
      subst h1 h2
      have hk := (List.getElem?_eq_some_iff.mp h3).1
      show Ok (if nI i ≤ nI n then _ else if nI k = -1 then _ else _) _
      rw [if_le (by omega) (by omega), if_neg (by omega), if_neg (nI_m1 (by omega)), bind_s]
      show Ok ((m_X12_nextLine (wr c m μ) m (nI k)).bind _) _
      have e1 : m_X12_nextLine (wr c m μ) m (nI k) = some (oI (bst (erl q) ob ob.length)) := sr_nextLine c m μ hO hB (o := some k) (p := erl q) ⟨q, h3, rfl⟩
      rw [e1, bind_s]
      have b1 := bst_s hg hs h4
      have hn1 : lc[n + 1]? = some (lc[n + 1]'(by omega)) := List.getElem?_eq_getElem _
      rw [hn1] at b1
      obtain ⟨k2, k3, k4⟩ := Option.bind_eq_some_iff.mp b1
      refine ok_some ⟨nI_1 n, k2, _, ?_, k4, hn1⟩
      show oI (bst (erl q) ob ob.length) = nI k2
      rw [k3]
      rfl
    · rintro ⟨u, v⟩ ⟨h1, k, q, h2, h3, h4⟩
      have h1 : v = nI i := h1
      subst h1
      show Ok (if nI i ≤ nI i then _ else _) _
      rw [if_pos (Int32.le_refl _)]
      exact ok_some ⟨k, q, h2, h3, h4⟩
  obtain ⟨v, hv, k, q, rfl, h2, h3⟩ := key
  exact ⟨k, q, hv, h2, h3⟩
theorem e_obligation {ce : Ce} {nx : Nat} {A : Nat → Nat} {κ : Nat × Nat × Nat} {V : Sv} {c : Ce} {m : Nat} {μ : MS} {x : Nat} (hx : XS ce x A) (h : SS ce nx A κ V) (hr : RV μ V) (hw : Wk V) (p q : Int32) : Both (m_X11_obligation ce x p q) (m_X12_obligation (wr c m μ) m p q) := by
  obtain ⟨_, w, x1, x2⟩ := hx
  obtain ⟨lc, g3, g4⟩ := ss_obl h
  have hl : lc.length = V.2.2.2.1.length := g4.1.length_eq
  have hO := hr.2.2.2.1
  have h80 := hO.2.1
  have hB : LB V.2.2.2.1 := hw.1.2.2.2.2.2.2.2.1
  have hg : Grow V.2.2.2.1 := hw.2.2.2.2.1
  unfold m_X11_obligation m_X12_obligation
  simp only [x1, x2, bind_s, ss_r12 h, co_size g3, co_rcv g3, wr_g0, rd_9, hO.1, hl, wr_rcv]
  by_cases h1 : p = -1
  · rw [if_pos h1, if_pos h1]
    exact ⟨_, rfl, rfl⟩
  · rw [if_neg h1, if_neg h1]
    by_cases hp : Inr V.2.2.2.1.length p
    · obtain ⟨i, hi, rfl⟩ := hp
      have e1 : m_X12_isIn (nI i) (0 : Int32) (nI V.2.2.2.1.length - 1) = some 1 := by
        rw [nl_0, nl_1, pk_sub (by omega)]
        exact isin_in (by omega) (by omega) (by omega)
      obtain ⟨k, u, k1, k2, k3⟩ := sr_lineBy c m hO hB hg g4 hi
      have hk := (List.getElem?_eq_some_iff.mp k2).1
      rw [if_neg (nI_pos (by omega)), if_le (by omega) (by omega), if_neg (by omega), e1, bind_s]
      simp only [i10, if_false]
      by_cases hq : Inr 4 q
      · obtain ⟨w2, hw2, rfl⟩ := hq
        have e2 : m_X12_isIn (nI w2) (0 : Int32) (3 : Int32) = some 1 := isin_in (lo := 0) (hi := 3) (by omega) (by omega) (by omega)
        rw [if_neg (nI_pos (by omega)), if_pos (show nI w2 < 4 from nI_lt (b := 4) hw2 (by omega)), e2, bind_s]
        simp only [i10, if_false, k1, bind_s]
        match w2, hw2 with
        | 0, _ =>
          have a1 := co_p0 g3 k3
          have a2 := rl_0 c m μ hO k2
          rw [← nl_0, a1, a2]
          exact ⟨_, rfl, rfl⟩
        | 1, _ =>
          have a1 := co_p1 g3 k3
          have a2 := rl_1 c m μ hO k2
          rw [← nl_1, a1, a2]
          exact ⟨_, rfl, rfl⟩
        | 2, _ =>
          have a1 := co_p2 g3 k3
          have a2 := rl_2 c m μ hO k2
          rw [← nl_2, a1, a2]
          exact ⟨_, rfl, rfl⟩
        | 3, _ =>
          have a1 := co_p3 g3 k3
          have a2 := rl_3 c m μ hO k2
          rw [← nl_3, a1, a2]
          exact ⟨_, rfl, rfl⟩
        | n + 4, z => omega
      · have e2 : m_X12_isIn q (0 : Int32) (3 : Int32) = some 0 := isin_out (lo := 0) (hi := 3) (by omega) (by omega) (inb0 hq)
        rw [e2, bind_s, if_pos rfl]
        refine ⟨-2, ?_, rfl⟩
        by_cases h0 : q < 0
        · rw [if_pos h0]
        · rw [if_neg h0]
          rcases out_c (N := 4) (by omega) hq with z | z
          · exact absurd z h0
          · rw [if_neg (show ¬ q < 4 from Int32.not_lt.mpr z)]
    · have e2 : m_X12_isIn p (0 : Int32) (nI V.2.2.2.1.length - 1) = some 0 := by
        by_cases h0 : V.2.2.2.1.length = 0
        · rw [h0, sr_isIn, if_neg]
          rintro ⟨a, b⟩
          exact absurd (Int32.le_trans a b) (by decide)
        · rw [nl_0, nl_1, pk_sub (by omega)]
          refine isin_out (by omega) (by omega) ?_
          rintro ⟨s, _, hs, e⟩
          exact hp ⟨s, by omega, e⟩
      rw [e2, bind_s, if_pos rfl]
      refine ⟨-2, ?_, rfl⟩
      by_cases h0 : p < 0
      · rw [if_pos h0]
      · rcases out_c (by omega) hp with z | z
        · exact absurd z h0
        · rw [if_neg h0, if_pos z]
/-! the order; a cube widened -/
theorem RV_muI {μ : MS} {V : Sv} (hr : RV μ V) {r : Nat} (h0 : r ≠ 0) (b : Nat → Int32) : RV (muI μ r b) V := by
  unfold RV
  rw [muI_n μ b (fun e => h0 e.symm), muI_2]
  exact hr
theorem Wk_KO {μ : MS} {V : Sv} (hr : RV μ V) (hw : Wk V) : KO (V.2.1 15) (μ.2.2.1 2) V.1.1 (kkf (V.2.1 15) V.2.2.2.2.1) := KO_congr (fun l hl => hr.2.2.2.2.1 l (by have := hr.1.2.2.1; omega)) hw.1.2.2.2.2.2.2.2.2.2.1
theorem e_order {ce : Ce} {nx : Nat} {A : Nat → Nat} {κ : Nat × Nat × Nat} {V : Sv} {c : Ce} {m : Nat} {μ : MS} {x : Nat} (hx : XS ce x A) (h : SS ce nx A κ V) (hr : RV μ V) (hw : Wk V) (p : Int32) : ∃ v ν, m_X11_order ce x p = some v ∧ m_X12_order (wr c m μ) m p = some (v, wr c m ν) ∧ RV ν V ∧ Kp μ ν := by
  obtain ⟨_, w, x1, x2⟩ := hx
  obtain ⟨mp, g1, g2⟩ := ss_mach h
  have hL := g2.1.2.1
  have hL1 := g2.1.1
  have h15 : V.2.1 15 < 3 := hw.1.2.2.2.1
  have hAC := ss_act h
  obtain ⟨z, hz, od, hz2, ho⟩ := sr_layOrder c m μ hL hr.1.1 (mode := V.2.1 15) (by omega) (hr.2.1 15 (by decide)) (Wk_KO hr hw)
  subst hz2
  have e3 : (muI μ 9 od).1 0 3 = nI V.1.1 := by rw [muI_n μ od (by omega)]; exact hr.1.1
  unfold m_X11_order m_X12_order
  simp only [x1, x2, g1, bind_s, ss_r13 h, ss_r2 h, (cm_states g2).2.1, ca_rcv hAC, wr_rcv, hz, wr_g0, rd_3, e3]
  by_cases hp : Inr V.1.1 p
  · obtain ⟨i, hi, rfl⟩ := hp
    have e1 : m_X12_isIn (nI i) (0 : Int32) (nI V.1.1 - 1) = some 1 := by
      rw [nl_0, nl_1, pk_sub (by omega)]
      exact isin_in (by omega) (by omega) (by omega)
    have hx : (ordL (kkf (V.2.1 15) V.2.2.2.2.1) V.1.1)[i]? = some ((ordL (kkf (V.2.1 15) V.2.2.2.2.1) V.1.1)[i]'(by rw [ordL_len]; exact hi)) := List.getElem?_eq_getElem _
    generalize (ordL (kkf (V.2.1 15) V.2.2.2.2.1) V.1.1)[i]'(by rw [ordL_len]; exact hi) = y at hx
    rw [ca_letterAt hAC hL (by omega) hw.2.2.1 hx, bind_s, e1, bind_s, if_neg (by decide), wr_g23, bind_s, wr_o9 c m _ (by omega), bind_s, muI_e, ho i y hx]
    exact ⟨_, _, rfl, rfl, RV_muI hr (by omega) od, Kp_muI μ (by omega) od⟩
  · have e1 : m_X12_isIn p (0 : Int32) (nI V.1.1 - 1) = some 0 := by
      rw [nl_0, nl_1, pk_sub (by omega)]
      refine isin_out (by omega) (by omega) ?_
      rintro ⟨s, _, hs, e⟩
      exact hp ⟨s, by omega, e⟩
    rw [ca_letterNo hAC hL (by omega) hw.2.2.1 (fun k hk e => hp ⟨k, hk, e⟩), bind_s, e1, bind_s, if_pos rfl]
    exact ⟨_, _, rfl, rfl, RV_muI hr (by omega) od, Kp_muI μ (by omega) od⟩
theorem one_nhld {M : Mv} (hL : M.1 < 7) {fr : List Cu} {st lv s : Nat} (hst : st < 2 ^ M.1) (h : lowS (ahdS M st (wth M fr lv)) = some s) : hld M fr (2 ^ M.1 - 1) st lv = false := by
  have h26 := p2_64 hL
  obtain ⟨h1, h2⟩ := lowS_lt h
  unfold ahdS at h2
  rw [B_mkS _ h1] at h2
  simp only [Bool.and_eq_true, decide_eq_true_eq] at h2
  obtain ⟨⟨⟨a1, a2⟩, a3⟩, a4⟩ := h2
  unfold hld
  by_cases hc : clsd M.1 M.2.1 (wth M fr lv) (cubS M.1 (2 ^ M.1 - 1) st) = true
  · exfalso
    have hb0 : B (cubS M.1 (2 ^ M.1 - 1) st) s = false := by rw [cub_one hL hst a1]; simp [a2]
    have := clsd_iff.mp hc s a1 a3 hb0
    have t := congrArg (fun z => B z st) this
    have t : B (aftN M.2.1 s 15 4 &&& cubS M.1 (2 ^ M.1 - 1) st) st = B 0 st := t
    rw [B_and, a4, cub_one hL hst hst, B_0] at t
    simp at t
  · simpa using hc
theorem e_widened {ce : Ce} {nx : Nat} {A : Nat → Nat} {κ : Nat × Nat × Nat} {V : Sv} {m : Nat} {μ : MS} {x j : Nat} (hx : XS ce x A) (h : SS ce nx A κ V) (hr : RV μ V) (hw : Wk V) (hi : IV j V) (p q : Int32) : ∃ v d, m_X11_widened ce x p q = some (v, d) ∧ SS d nx A κ V ∧ Ev ce nx A κ d 0 0 A κ ∧ ∀ c, ∃ ν, m_X12_widened (wr c m μ) m p q = some (v, wr c m ν) ∧ RV ν V ∧ Kp μ ν := by
  obtain ⟨_, w, x1, x2⟩ := hx
  obtain ⟨mp, g1, g2⟩ := ss_mach h
  have hL := g2.1.2.1
  have h26 := p2_64 hL
  have h2p : 0 < 2 ^ V.1.1 := Nat.two_pow_pos _
  have h4 := IV_top hi
  have h15 : V.2.1 15 < 3 := hw.1.2.2.2.1
  unfold m_X11_widened
  by_cases hp : Inr (2 ^ V.1.1) p
  · obtain ⟨s, hs, rfl⟩ := hp
    have hs64 : s < 64 := by omega
    by_cases hq : Inb 1 (V.2.1 4 + 1) q
    · obtain ⟨f, hf1, hf, rfl⟩ := hq
      obtain ⟨lv, rfl⟩ : ∃ lv, f = lv + 1 := ⟨f - 1, by omega⟩
      have ea : m_X8_lowestAhead ce (A 0) (nI s) (nI lv) = some (lowI (ahdS V.1 s (wth V.1 V.2.2.1 lv))) := ss_ahead (M := V.1) (n := V.2.1) (fr := V.2.2.1) (Y := V.2.2.2) h (IV_WC hi) hs (by omega)
      have el : nI (lv + 1) - 1 = nI lv := nI_pred lv
      have e1 : m_X12_isIn (nI (lv + 1)) (1 : Int32) (nI (V.2.1 4)) = some 1 := isin_in (lo := 1) hf1 (by omega) (by omega)
      have e2 : nI (2 ^ V.1.1) - 1 = nI (2 ^ V.1.1 - 1) := by rw [nl_1, pk_sub (by omega)]
      simp only [x1, x2, g1, bind_s, cm_rcv g2, ch_in g2 hs, i10, if_false, ss_rcv h, ck_in h h4 hf1 hf, (cm_states g2).2.2.2, ch_has _ hs64, el, ea]
      by_cases hb : B V.1.2.2.1 s = true
      · rw [if_b, if_pos hb]
        refine ⟨_, _, rfl, h, Ev_refl _ _ _ _, fun c => ⟨μ, ?_, hr, Kp_refl μ⟩⟩
        unfold m_X12_widened
        simp only [wr_rcv, bind_s, rs_in c m hr.1 hs, i10, if_false, wr_g0, rd_4, hr.2.1 4 (by decide), e1, sr_sta c m hr, mh_has _ hs64]
        rw [if_b, if_pos hb]
      · rw [if_b, if_neg hb]
        have hm : ∀ c, m_X12_widened (wr c m μ) m (nI s) (nI (lv + 1)) = if hld V.1 V.2.2.1 (2 ^ V.1.1 - 1) s lv = true then (m_X12_widen (wr c m μ) m (nI s) (nI (lv + 1))).bind fun zq16 => (gA zq16.2 9 0 m).bind fun zx17 => (sI zq16.2 zx17 (12 : Int32) (μ.1 0 12)).bind fun zc18 => some ((((64 : Int32) * zq16.1) + (nI s &&& zq16.1)), zc18) else some ((-1 : Int32), wr c m μ) := by
          intro c
          unfold m_X12_widened
          simp only [wr_rcv, bind_s, rs_in c m hr.1 hs, i10, if_false, wr_g0, rd_4, hr.2.1 4 (by decide), e1, sr_sta c m hr, mh_has _ hs64]
          rw [if_b, if_neg hb, sr_states c m μ hL hr.1.1, bind_s, e2, el, sr_doesHold c m μ hr.1 hr.2.2.1 (by omega) (by omega) (by omega), bind_s, if_b, rd_12, bind_s]
        cases ha : lowS (ahdS V.1 s (wth V.1 V.2.2.1 lv)) with
        | some t =>
          have ht := (lowS_lt ha).1
          rw [lowI_some ha, if_neg (nI_m1 (by omega))]
          refine ⟨_, _, rfl, h, Ev_refl _ _ _ _, fun c => ⟨μ, ?_, hr, Kp_refl μ⟩⟩
          rw [hm c, one_nhld hL hs ha, if_neg (by decide)]
        | none =>
          rw [lowI_none ha, if_pos rfl]
          obtain ⟨M, n, fr, ob, fl, cl⟩ := V
          obtain ⟨⟨v, d⟩, hz, z1, z2, z3⟩ := ss_widen (kk := kkf (n 15) fl) h (IV_WC hi) (show n 15 < 2 ^ 31 by have : n 15 < 3 := h15; omega) hw.2.2.1 (st := s) (lv := lv) hs (by have : n 4 ≤ 65 := h4; have : lv + 1 < n 4 + 1 := hf; omega) false
          have hz : m_X8_widen ce (A 0) (nI s) (nI (lv + 1)) 0 = some (v, d) := hz
          have z1 : v = nI ((widV M fr (kkf (n 15) fl) s lv (n 12)).1 * 64 + (s &&& (widV M fr (kkf (n 15) fl) s lv (n 12)).1)) := z1
          rw [hz, bind_s]
          refine ⟨_, _, rfl, z2, z3, fun c => ?_⟩
          rw [hm c, one_hld hL hs ha, if_pos rfl]
          obtain ⟨y, hy, od, rfl⟩ := rr_widen c m μ hr (show n 15 < 2 ^ 31 by have : n 15 < 3 := h15; omega) (Wk_KO hr hw) hs64 (lv := lv) (by have : n 4 ≤ 65 := h4; have : lv + 1 < n 4 + 1 := hf; omega)
          refine ⟨muI μ 9 od, ?_, RV_muI hr (by omega) od, Kp_muI μ (by omega) od⟩
          have hy : m_X12_widen (wr c m μ) m (nI s) (nI (lv + 1)) = some (nI (widV M fr (kkf (n 15) fl) s lv (n 12)).1, wr c m (mu0 (muI μ 9 od) (va_up (μ.1 0) 12 (nI (widV M fr (kkf (n 15) fl) s lv (n 12)).2)))) := hy
          rw [hy, bind_s]
          simp only [wr_g0, bind_s, wt_12, ma_of, up_up, up_self]
          have e9 : mu0 (muI μ 9 od) (μ.1 0) = muI μ 9 od := by
            have : μ.1 0 = (muI μ 9 od).1 0 := (muI_n μ od (by omega)).symm
            rw [this, mu0_self]
          rw [e9, z1, nl_64, pk_mul, nI_and, nI_add, Nat.mul_comm]
    · have e1 : m_X12_isIn q (1 : Int32) (nI (V.2.1 4)) = some 0 := isin_out (lo := 1) (by omega) (by omega) hq
      simp only [x1, x2, g1, bind_s, cm_rcv g2, ch_in g2 hs, i10, if_false, ss_rcv h, ck_out h h4 hq, i00, if_true]
      refine ⟨_, _, rfl, h, Ev_refl _ _ _ _, fun c => ⟨μ, ?_, hr, Kp_refl μ⟩⟩
      unfold m_X12_widened
      simp only [wr_rcv, bind_s, rs_in c m hr.1 hs, i10, if_false, wr_g0, rd_4, hr.2.1 4 (by decide), e1, i00, if_true]
  · simp only [x1, x2, g1, bind_s, cm_rcv g2, ch_out g2 hp, i00, if_true]
    refine ⟨_, _, rfl, h, Ev_refl _ _ _ _, fun c => ⟨μ, ?_, hr, Kp_refl μ⟩⟩
    unfold m_X12_widened
    simp only [wr_rcv, bind_s, rs_out c m hr.1 hp, i00, if_true]
