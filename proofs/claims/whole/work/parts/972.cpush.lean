/-! THE CLASS: cubes moved forward; steps -/
theorem srtN_congr {fr cur : List Cu} {a : Nat} (h : (cur.filter fun q => decide (q.1 < a)) = (fr.filter fun q => decide (q.1 < a))) : ∀ n, n ≤ a → srtN cur n = srtN fr n := by
  intro n
  induction n with
  | zero => intro _; rfl
  | succ n ih =>
    intro hn
    rw [srtN, srtN, ih (by omega)]
    congr 1
    have e : ∀ l : List Cu, (l.filter fun q => decide (q.1 = n)) = (l.filter fun q => decide (q.1 < a)).filter fun q => decide (q.1 = n) := by
      intro l
      rw [List.filter_filter]
      refine List.filter_congr fun r _ => ?_
      by_cases h1 : r.1 = n
      · have : r.1 < a := by omega
        simp [h1]
        omega
      · simp [h1]
    rw [e cur, e fr, h]
theorem srtF_at {cur : List Cu} {a : Nat} (ha : a < 128) : ∃ Y, srtF cur = srtN cur a ++ (atF a cur ++ Y) ∧ ∀ y, y ∈ Y → a < y.1 := by
  obtain ⟨Y, h1, h2⟩ := srtN_cut cur (a + 1) 128 (by omega)
  refine ⟨Y, ?_, fun y hy => by have := h2 y hy; omega⟩
  show srtN cur 128 = _
  rw [h1, srtN, List.append_assoc]
  rfl
theorem at_get {cur : List Cu} {a : Nat} (ha : a < 128) (pl : Nat) : ((srtF cur)[(srtN cur a).length + pl]?).any (fun q => decide (q.1 = a)) = ((atF a cur)[pl]?).isSome ∧ ∀ q, (atF a cur)[pl]? = some q → (srtF cur)[(srtN cur a).length + pl]? = some q := by
  obtain ⟨Y, h1, h2⟩ := srtF_at (cur := cur) ha
  have e : (srtF cur)[(srtN cur a).length + pl]? = (atF a cur ++ Y)[pl]? := by
    rw [h1, List.getElem?_append_right (by omega), Nat.add_sub_cancel_left]
  rw [e]
  by_cases hp : pl < (atF a cur).length
  · rw [List.getElem?_append_left hp]
    refine ⟨?_, fun q hq => hq⟩
    have hg : (atF a cur)[pl]? = some (atF a cur)[pl] := List.getElem?_eq_getElem hp
    rw [hg]
    have := (List.mem_filter.mp (List.getElem_mem hp)).2
    simpa using this
  · rw [List.getElem?_append_right (by omega), List.getElem?_eq_none (l := atF a cur) (by omega)]
    refine ⟨?_, fun q hq => by cases hq⟩
    cases hy : Y[pl - (atF a cur).length]? with
    | none => rfl
    | some y =>
      have := h2 y (List.mem_of_getElem? hy)
      have hne : ¬ y.1 = a := by omega
      simp [hne]
theorem srt_count {cur : List Cu} {a : Nat} (ha : a < 127) : stR (srtF cur) (a + 1) - stR (srtF cur) a = manyF cur a ∧ stR (srtF cur) a ≤ stR (srtF cur) (a + 1) := by
  rw [stR_srt cur (by omega), stR_srt cur (by omega), srtN, List.length_append]
  unfold manyF
  rw [List.countP_eq_length_filter]
  omega
theorem ss_push {ce : Ce} {nx : Nat} {A : Nat → Nat} {κ : Nat × Nat × Nat} {V : Sv} (h : SS ce nx A κ V) (hw : Wk V) (h5 : V.2.1 5 = 2) (h6 : 0 < V.2.1 6) (h64 : V.2.1 6 < V.2.1 4) (hl : HL (V.2.1 6) V.2.2.1) : Ok (m_X8_push nx ce (A 0)) (fun z => StTo ce nx A κ (pushV V) z.2.1 z.2.2.1 z.2.2.2) := by
  obtain ⟨M, n, fr, ob, fl, cl⟩ := V
  obtain ⟨wr, hC, hRK, hNG, hGr, hnum, h10⟩ := hw
  have hC : WC M fr := hC
  have w1 : n 4 < 100 := wr.1
  have w6 : fr.length < 4000 := wr.2.2.2.2.2.1
  have w12 : ∀ q, q ∈ fr → q.2.2 &&& q.2.1 = q.2.2 := wr.2.2.2.2.2.2.2.2.2.2.2
  have h5 : n 5 = 2 := h5
  have h6 : 0 < n 6 := h6
  have h64 : n 6 < n 4 := h64
  have hl : HL (n 6) fr := hl
  have hL : M.1 < 7 := by
    obtain ⟨_, _, w⟩ := ss_mach h
    exact w.1.2.1
  have h26 := p2_64 hL
  have hlen : (srtF fr).length = fr.length := srtF_len fun q hq => by have := (hC q hq).2.1; omega
  have hst : stR (srtF fr) (n 6) = (srtN fr (n 6)).length := stR_srt fr (by omega)
  have hstl := stR_le (srtF fr) (n 6)
  have hpi0 : PI M (n 6) fr fr := ⟨hC, Nat.le_refl _, rfl, rfl, fun _ h _ => h, w12⟩
  have hpe : pushR (M, n, fr, ob, fl, cl) = pcF M (n 6) fr.length fr 0 (n 12) (n 14) := by
    refine push_eq hL h6 (by omega) hl (fr.filter fun q => decide (q.1 = n 6)) fr 0 (n 12) (n 14) [] fr.length (fun r hr => by simpa using (List.mem_filter.mp hr).2) hpi0 ?_ rfl (fun p hp => by cases hp) (List.length_filter_le _ _)
    rw [List.nil_append]
    exact (List.filter_eq_self.mpr fun r hr => by simp [(List.mem_filter.mp hr).1]).symm
  unfold m_X8_push pushV
  rw [hpe]
  generalize hres : pcF M (n 6) fr.length fr 0 (n 12) (n 14) = res
  have r5 : gI ce 6 5 (A 0) = some (nI (n 6)) := ss_r5 h (Or.inl h5)
  have hrow := ss_row h
  dsimp only at hrow
  simp only [r5, ss_r11 h, bind_s]
  rw [ss_rcv h, bind_s, ss_within h hC (by omega), bind_s, cw_rcv hrow, bind_s, cw_startOf hrow (by omega), bind_s, cw_size hrow, bind_s, hlen, hst]
  rw [hst] at hstl
  generalize hbase : (srtN fr (n 6)).length = base at hstl
  show Ok _ (fun (z : Unit × Ce × Nat × Nat) => StTo ce nx A κ (if manyF res.1 (n 6) = 0 then (M, va_up (va_up (va_up n 12 res.2.1) 14 res.2.2) 5 3, res.1, ob, fl, cl) else if n 6 + 1 = n 4 then (M, va_up (va_up (va_up (va_up n 12 res.2.1) 14 res.2.2) 6 (n 6 + 1)) 5 0, res.1, ob, fl, cl) else (M, va_up (va_up (va_up n 12 res.2.1) 14 res.2.2) 6 (n 6 + 1), res.1, ob, fl, cl)) z.2.1 z.2.2.1 z.2.2.2)
  refine ok_adcB (ok_mono (P := fun q => StTo ce nx A κ (M, va_up (va_up n 12 res.2.1) 14 res.2.2, res.1, ob, fl, cl) q.2.1 q.2.2.1 q.2.2.2 ∧ PI M (n 6) fr res.1) (ok_cntA (Q := fun _ d K S => StTo ce nx A κ (M, va_up (va_up n 12 res.2.1) 14 res.2.2, res.1, ob, fl, cl) d K S ∧ PI M (n 6) fr res.1) 0 fr.length (fun j nx2 c s K S => nx2 = nx + K ∧ ∃ cur pl ak md A2 κ2, s = (nI (base + pl), nI j) ∧ pl ≤ j ∧ SS c nx2 A2 κ2 (M, va_up (va_up n 12 ak) 14 md, cur, ob, fl, cl) ∧ Ev ce nx A κ c K S A2 κ2 ∧ PI M (n 6) fr cur ∧ res = pcF M (n 6) (fr.length - j) cur pl ak md) (by omega) (by omega) ?_ ?_ ?_) ?_)
  · refine ⟨rfl, fr, 0, n 12, n 14, A, κ, rfl, Nat.le_refl _, ?_, Ev_refl _ _ _ _, hpi0, hres.symm⟩
    refine SS_n h (nums_c ?_ ?_ ?_ ?_ ?_ ?_ ?_ ?_ ?_ ?_) <;> rfl
  · rintro j nx2 c s K S hj ⟨rfl, cur, pl, ak, md, A2, κ2, rfl, hpl, hS, hE, hP, hr⟩
    have e0 : A2 0 = A 0 := hE.1
    have c5 : gI c 6 5 (A2 0) = some (nI (n 6)) := ss_r5 hS (Or.inl h5)
    have hrow2 := ss_row hS
    dsimp only at hrow2
    have hcb : (srtN cur (n 6)).length = base := by rw [srtN_congr hP.2.2.1 (n 6) (Nat.le_refl _), hbase]
    have hag := at_get (cur := cur) (a := n 6) (by omega) pl
    rw [hcb] at hag
    obtain ⟨t, ht⟩ : ∃ t, fr.length - j = t + 1 := ⟨fr.length - j - 1, by omega⟩
    rw [ht, pcF] at hr
    rw [if_le (by omega) (by omega), if_neg (by omega), ← e0]
    simp only [ss_r11 hS, c5, bind_s]
    rw [cw_rcv hrow2, bind_s, cw_isOf hrow2 (by omega) (by omega), bind_s, hag.1, if_b]
    cases hg : (atF (n 6) cur)[pl]? with
    | none =>
      rw [hg] at hr
      have hr : res = (cur, ak, md) := hr
      refine ok_some ⟨⟨A2, κ2, ?_, hE⟩, ?_⟩
      · rw [hr]
        exact hS
      · rw [hr]
        exact hP
    | some q =>
      rw [hg] at hr
      have hr : res = if hld M cur q.2.1 q.2.2 (n 6) then pcF M (n 6) t (addC cur (n 6 + 1) q.2.1 q.2.2) pl (ak + 1) (md + 1) else pcF M (n 6) t cur (pl + 1) (ak + 1) md := hr
      have hqm := List.mem_filter.mp (List.mem_of_getElem? hg)
      have hqa : q.1 = n 6 := by simpa using hqm.2
      have hqc := hP.1 q hqm.1
      have c8 : gI c 6 8 (A2 0) = some (nI ak) := by rw [ss_r8 hS]; rfl
      rw [if_pos (show (some q).isSome = true from rfl)]
      simp only [bind_s]
      rw [cw_cubeAt hrow2 (hag.2 q hg), bind_s, c8, bind_s, nI_1]
      refine ok_call (ss_w8 hS (ak + 1)) ?_
      rintro d ⟨s1, e1⟩
      have s1 : SS d (nx + K) A2 κ2 (M, va_up (va_up n 12 (ak + 1)) 14 md, cur, ob, fl, cl) := by
        refine SS_n s1 (nums_c ?_ ?_ ?_ ?_ ?_ ?_ ?_ ?_ ?_ ?_) <;> rfl
      rw [ss_rcv s1, bind_s, ss_keeps s1 hqc.2.2.1 hqc.2.2.2, bind_s]
      have hh : hld M cur q.2.1 q.2.2 (n 6) = clsd M.1 M.2.1 (wth M fr (n 6)) (cubS M.1 q.2.1 q.2.2) := by
        unfold hld
        rw [hP.2.2.2.1]
      show Ok (if (if clsd M.1 M.2.1 (wth M fr (n 6)) (cubS M.1 q.2.1 q.2.2) then (1 : Int32) else 0) = 0 then _ else _) _
      rw [← hh, if_b]
      cases hc : hld M cur q.2.1 q.2.2 (n 6) with
      | false =>
        rw [hc, if_neg (by decide)] at hr
        rw [if_neg (by decide)]
        refine ok_some ⟨rfl, cur, pl + 1, ak + 1, md, A2, κ2, ?_, by omega, s1, ?_, hP, ?_⟩
        · show (nI (base + pl) + 1, nI j + 1) = (nI (base + (pl + 1)), nI (j + 1))
          rw [nI_1, nI_1]
          rfl
        · show Ev ce nx A κ d (K + 0) (S + 0) A2 κ2
          have := Ev_trans hE e1
          simp only [Nat.zero_add, Nat.add_zero] at this ⊢
          exact this
        · rw [show fr.length - (j + 1) = t by omega]
          exact hr
      | true =>
        rw [hc, if_pos rfl] at hr
        rw [if_pos rfl]
        have d5 : gI d 6 5 (A2 0) = some (nI (n 6)) := ss_r5 s1 (Or.inl h5)
        have hrow3 := ss_row s1
        dsimp only at hrow3
        simp only [ss_r11 s1, d5, bind_s]
        rw [cw_rcv hrow3, bind_s, nI_1]
        refine ok_adcB (ok_mono (ss_put s1 hP.1 (by have := hP.2.1; omega) (f := n 6 + 1) (by omega) (by omega) hqc.2.2.2) ?_)
        rintro ⟨u9, d2, K2, S2⟩ ⟨A3, κ3, s2, e2⟩
        have s2 : SS d2 (nx + K + K2) A3 κ3 (M, va_up (va_up n 12 (ak + 1)) 14 md, addC cur (n 6 + 1) q.2.1 q.2.2, ob, fl, cl) := s2
        have e2 : Ev d (nx + K) A2 κ2 d2 K2 S2 A3 κ3 := e2
        have e3 : A3 0 = A2 0 := e2.1
        have c10 : gI d2 6 10 (A3 0) = some (nI md) := by rw [ss_r10 s2]; rfl
        show Ok ((gI d2 6 10 (A2 0)).bind _) _
        rw [← e3, c10, bind_s, nI_1]
        refine ok_call (ss_w10 s2 (md + 1)) ?_
        rintro d3 ⟨s3, e4⟩
        rw [up_up] at s3
        refine ok_some ⟨?_, addC cur (n 6 + 1) q.2.1 q.2.2, pl, ak + 1, md + 1, A3, κ3, ?_, by omega, ?_, ?_, PI_add hL h6 (by omega) hP hl hqm.1 hqa, ?_⟩
        · show nx + K + (0 + K2) = nx + (K + (0 + K2))
          omega
        · show (nI (base + pl), nI j + 1) = (nI (base + pl), nI (j + 1))
          rw [nI_1]
        · show SS d3 (nx + K + (0 + K2)) A3 κ3 _
          rw [Nat.zero_add]
          exact s3
        · show Ev ce nx A κ d3 (K + (0 + K2)) (S + (0 + S2)) A3 κ3
          have := Ev_trans hE (Ev_trans e1 (Ev_trans e2 e4))
          simp only [Nat.zero_add, Nat.add_zero] at this ⊢
          rw [Nat.add_comm K K2, Nat.add_comm S S2]
          exact this
        · rw [show fr.length - (j + 1) = t by omega]
          exact hr
  · rintro nx2 c s K S ⟨rfl, cur, pl, ak, md, A2, κ2, rfl, hpl, hS, hE, hP, hr⟩
    rw [Nat.sub_self, pcF] at hr
    rw [if_le (by omega) (by omega), if_pos (Nat.le_refl _)]
    refine ok_some ⟨⟨A2, κ2, ?_, hE⟩, ?_⟩
    · rw [hr]
      exact hS
    · rw [hr]
      exact hP
  · rintro ⟨u9, d, K, S⟩ ⟨⟨A2, κ2, hS, hE⟩, hP⟩
    have hS : SS d (nx + K) A2 κ2 (M, va_up (va_up n 12 res.2.1) 14 res.2.2, res.1, ob, fl, cl) := hS
    have hE : Ev ce nx A κ d K S A2 κ2 := hE
    have e0 : A2 0 = A 0 := hE.1
    have d5 : gI d 6 5 (A2 0) = some (nI (n 6)) := ss_r5 hS (Or.inl h5)
    have hrow2 := ss_row hS
    dsimp only at hrow2
    have hct := srt_count (cur := res.1) (a := n 6) (by omega)
    have hml : manyF res.1 (n 6) ≤ res.1.length := List.countP_le_length
    have hpl := hP.2.1
    show Ok ((gA d 6 11 (A 0)).bind _) _
    rw [← e0]
    simp only [ss_r11 hS, d5, bind_s]
    rw [cw_rcv hrow2, bind_s, cw_countOf hrow2 (by omega) hct.2, bind_s, hct.1, if_z (by omega)]
    by_cases h0 : manyF res.1 (n 6) = 0
    · rw [if_pos h0, if_pos h0]
      refine ok_call (ss_w3 hS 3 (fun _ => Or.inl h5)) ?_
      rintro d2 ⟨s1, e1⟩
      refine ok_some ⟨A2, κ2, ?_, ?_⟩
      · show SS d2 (nx + (0 + K)) A2 κ2 _
        rw [Nat.zero_add]
        exact s1
      · show Ev ce nx A κ d2 (0 + K) (0 + S) A2 κ2
        exact Ev_trans hE e1
    · rw [if_neg h0, if_neg h0, nI_1]
      refine ok_call (ss_w5 hS (n 6 + 1)) ?_
      rintro d2 ⟨s1, e1⟩
      have c5 : gI d2 6 5 (A2 0) = some (nI (n 6 + 1)) := ss_r5 s1 (Or.inl h5)
      have c4 : gI d2 6 4 (A2 0) = some (nI (n 4)) := by rw [ss_r4 s1]; rfl
      rw [c5, bind_s, c4, bind_s, if_lt (by omega) (by omega)]
      by_cases h1 : n 6 + 1 = n 4
      · rw [if_neg (by omega), if_pos h1]
        refine ok_call (ss_w3 s1 0 (by omega)) ?_
        rintro d3 ⟨s2, e2⟩
        refine ok_some ⟨A2, κ2, ?_, ?_⟩
        · show SS d3 (nx + (0 + K)) A2 κ2 _
          rw [Nat.zero_add]
          exact s2
        · show Ev ce nx A κ d3 (0 + K) (0 + S) A2 κ2
          exact Ev_trans hE (Ev_trans e1 e2)
      · rw [if_pos (by omega), if_neg h1]
        refine ok_some ⟨A2, κ2, ?_, ?_⟩
        · show SS d2 (nx + (0 + K)) A2 κ2 _
          rw [Nat.zero_add]
          exact s1
        · show Ev ce nx A κ d2 (0 + K) (0 + S) A2 κ2
          exact Ev_trans hE e1
