/-! THE CLASS: an obligation -/
def Wk (V : Sv) : Prop := Wr V ∧ WC V.1 V.2.2.1 ∧ RK (V.2.1 15) V.2.2.2.2.1 V.1.1 (kkf (V.2.1 15) V.2.2.2.2.1) ∧ NG V.1.1 V.2.2.2.2.1 ∧ Grow V.2.2.2.1 ∧ (∀ q, q ∈ V.2.2.2.1 → q.2.2.1 ≤ V.2.1 10) ∧ V.2.1 10 < 2 ^ 30
theorem StTo_ev {ce : Ce} {nx : Nat} {A : Nat → Nat} {κ : Nat × Nat × Nat} {V : Sv} {c : Ce} {d : Ce} {K S : Nat} (h0 : Ev ce nx A κ c 0 0 A κ) (h : StTo c nx A κ V d K S) : StTo ce nx A κ V d K S := by
  obtain ⟨A2, κ2, h1, h2⟩ := h
  exact ⟨A2, κ2, h1, Ev_trans h0 h2⟩
theorem ss_drop {ce : Ce} {nx : Nat} {A : Nat → Nat} {κ : Nat × Nat × Nat} {M : Mv} {n : Nat → Nat} {fr : List Cu} {ob : List Ln} {Y : (Nat → UInt32) × List (Nat × Nat)} (h : SS ce nx A κ (M, n, fr, ob, Y)) {k : Nat} {q : Ln} (hq : ob[k]? = some q) (hf : ∀ lc, SrtO ob lc → lc[0]? = some q) : Ok (m_X6_dropFirst ce (A 5)) (fun z => SS z.2 nx A κ (M, n, fr, ob.eraseIdx k, Y) ∧ Ev ce nx A κ z.2 0 0 A κ) := by
  obtain ⟨lc, o1, o2⟩ := ss_obl h
  have o2 : SrtO ob lc := o2
  have h0 := hf lc o2
  obtain ⟨t, rfl⟩ : ∃ t, lc = q :: t := by
    cases lc with
    | nil => cases h0
    | cons x t =>
      have : x = q := by simpa using h0
      exact ⟨t, by rw [this]⟩
  have hlt := ss_lt h
  have hd : A 5 ≠ A 6 := hlt.2 5 (by omega) 6 (by omega) (by omega)
  refine ok_mono (co_dropFirst o1 hd) ?_
  rintro ⟨u, d⟩ ⟨z1, z2⟩
  have z1 : OB d (A 5) (A 6) κ.2.1 t := z1
  have z2 : ∀ b, b ≠ A 5 → b ≠ A 6 → d b = ce b := z2
  obtain ⟨mp, at1, h1, h3, lc, a1, a2, a3, a4, a5, a6, a7, a8⟩ := h
  have b0 : ∀ i, i < 13 → i ≠ 5 → i ≠ 6 → d (A i) = ce (A i) := fun i hi j1 j2 => z2 _ (a8 i hi 5 (by omega) j1) (a8 i hi 6 (by omega) j2)
  refine ⟨⟨mp, at1, ?_, h3, t, ?_, z1, srtO_drop o2 rfl hq, ?_, ?_, MA_congr (fun b hb => z2 b (hb.2 5 (by omega)) (hb.2 6 (by omega))) (fun _ hb => hb) a6, a7, a8⟩, rfl, fun b hb ho => z2 b (ho 5 (by omega)) (ho 6 (by omega)), fun _ _ => Or.inl rfl, Nat.le_refl _, Nat.le_refl _, by show gA d 6 0 (A 0) = _; unfold gA; rw [b0 0 (by omega) (by omega) (by omega)]⟩
  · show d (A 0) = _
    rw [b0 0 (by omega) (by omega) (by omega)]
    exact h1
  · exact RW_congr (b0 1 (by omega) (by omega) (by omega)) (b0 2 (by omega) (by omega) (by omega)) (b0 3 (by omega) (by omega) (by omega)) (b0 4 (by omega) (by omega) (by omega)) a1
  · exact AC_congr (b0 7 (by omega) (by omega) (by omega)) (b0 8 (by omega) (by omega) (by omega)) a4
  · exact RW_congr (b0 9 (by omega) (by omega) (by omega)) (b0 10 (by omega) (by omega) (by omega)) (b0 11 (by omega) (by omega) (by omega)) (b0 12 (by omega) (by omega) (by omega)) a5
theorem ss_put {ce : Ce} {nx : Nat} {A : Nat → Nat} {κ : Nat × Nat × Nat} {M : Mv} {n : Nat → Nat} {fr : List Cu} {Y : List Ln × (Nat → UInt32) × List (Nat × Nat)} (h : SS ce nx A κ (M, n, fr, Y)) (hC : WC M fr) (hl : fr.length < 4500) {f m b : Nat} (hf : f < 127) (hm : m < 64) (hb : b < 64) : Ok (m_X2_putLast nx ce (A 1) (nI f) (nI (m * 64 + b))) (fun z => StTo ce nx A κ (M, n, addC fr f m b, Y) z.2.1 z.2.2.1 z.2.2.2) := by
  have hlt := ss_lt h
  have hrow := ss_row h
  dsimp only at hrow
  have hlen : (srtF fr).length = fr.length := srtF_len fun q hq => by have := (hC q hq).2.1; omega
  refine ok_mono (cw_putLast hrow ⟨hlt.1 1 (by omega), hlt.1 2 (by omega), hlt.1 3 (by omega), hlt.1 4 (by omega)⟩ ⟨hlt.2 1 (by omega) 2 (by omega) (by omega), hlt.2 1 (by omega) 3 (by omega) (by omega), hlt.2 1 (by omega) 4 (by omega) (by omega), hlt.2 2 (by omega) 3 (by omega) (by omega), hlt.2 2 (by omega) 4 (by omega) (by omega), hlt.2 3 (by omega) 4 (by omega) (by omega)⟩ (by omega) hf hm hb) ?_
  rintro ⟨u, d, K, S⟩ hto
  rw [pL_srt fr hf] at hto
  exact ss_frames h hto
theorem ss_meet {ce : Ce} {nx : Nat} {A : Nat → Nat} {κ : Nat × Nat × Nat} {V : Sv} (h : SS ce nx A κ V) (hw : Wk V) {k : Nat} {q : Ln} (hq : V.2.2.2.1[k]? = some q) (hf : ∀ lc, SrtO V.2.2.2.1 lc → lc[0]? = some q) (hlv : 0 < q.2.1) : Ok (m_X8_meet nx ce (A 0) (nI q.1) (nI q.2.1)) (fun z => StTo ce nx A κ (meetV V k q) z.2.1 z.2.2.1 z.2.2.2) := by
  obtain ⟨M, n, fr, ob, fl, cl⟩ := V
  obtain ⟨wr, hC, hRK, hNG, hGr, hnum, h10⟩ := hw
  have hC : WC M fr := hC
  have h10 : n 10 < 2 ^ 30 := h10
  have hnum : ∀ q, q ∈ ob → q.2.2.1 ≤ n 10 := hnum
  have hq : ob[k]? = some q := hq
  have w1 : n 4 < 100 := wr.1
  have w4 : n 15 < 3 := wr.2.2.2.1
  have w6 : fr.length < 4000 := wr.2.2.2.2.2.1
  have w7 : ob.length ≤ 72 := wr.2.2.2.2.2.2.1
  have w8 : LB ob := wr.2.2.2.2.2.2.2.1
  obtain ⟨z1, z2, z3⟩ := wr.2.2.2.2.2.2.2.2.1 q (List.mem_of_getElem? hq)
  have z1 : q.2.1 ≤ n 4 := z1
  have z3 : q.1 < 2 ^ M.1 := z3
  have w11 : ∀ mask, mask < 64 → BOk M.1 mask fl := wr.2.2.2.2.2.2.2.2.2.2.1
  obtain ⟨q1, q2, q3, q4⟩ := w8 q (List.mem_of_getElem? hq)
  have hL : M.1 < 7 := by
    obtain ⟨_, _, w⟩ := ss_mach h
    exact w.1.2.1
  have h64 := p2_64 hL
  unfold m_X8_meet meetV
  have elv : nI q.2.1 - 1 = nI (q.2.1 - 1) := by rw [nl_1, pk_sub (by omega)]
  have r8 : gI ce 6 8 (A 0) = some (nI (n 12)) := by rw [ss_r8 h]
  rw [r8, bind_s, nI_1]
  refine ok_call (ss_w8 h (n 12 + 1)) ?_
  rintro d1 ⟨s1, e1⟩
  rw [elv, ss_rcv s1, bind_s, ss_ahead s1 hC z3 (by omega), bind_s]
  show Ok _ (fun (z : Unit × Ce × Nat × Nat) => StTo ce nx A κ (match lowS (ahdS M q.1 (wth M fr (q.2.1 - 1))) with | some s => (M, va_up (va_up n 12 (n 12 + 1)) 10 (n 10 + 1), fr, ob ++ [(s, q.2.1 - 1, n 10 + 1, q.2.2.1)], fl, cl) | none => barV (M, va_up n 12 (n 12 + 1), fr, ob, fl, cl) k q) z.2.1 z.2.2.1 z.2.2.2)
  cases hah : lowS (ahdS M q.1 (wth M fr (q.2.1 - 1))) with
  | none =>
    rw [lowI_none hah, if_pos rfl, bind_s]
    have hwd := ss_widen s1 hC (show n 15 < 2 ^ 31 by omega) hRK z3 (lv := q.2.1 - 1) (by omega) true
    rw [show q.2.1 - 1 + 1 = q.2.1 by omega] at hwd
    have hbW : barW (M, va_up n 12 (n 12 + 1), fr, ob, fl, cl) q = widV M fr (kkf (n 15) fl) q.1 (q.2.1 - 1) (va_up n 12 (n 12 + 1) 12) := rfl
    have hbU : barU (M, va_up n 12 (n 12 + 1), fr, ob, fl, cl) q = upF M fr (barW (M, va_up n 12 (n 12 + 1), fr, ob, fl, cl) q).1 (q.1 &&& (barW (M, va_up n 12 (n 12 + 1), fr, ob, fl, cl) q).1) (n 4 - q.2.1) q.2.1 (barW (M, va_up n 12 (n 12 + 1), fr, ob, fl, cl) q).2 := rfl
    show Ok _ (fun (z : Unit × Ce × Nat × Nat) => StTo ce nx A κ (M, va_up (va_up (va_up n 12 (n 12 + 1)) 12 (barU (M, va_up n 12 (n 12 + 1), fr, ob, fl, cl) q).2) 13 (n 13 + 1), addC fr (barU (M, va_up n 12 (n 12 + 1), fr, ob, fl, cl) q).1 (barW (M, va_up n 12 (n 12 + 1), fr, ob, fl, cl) q).1 (q.1 &&& (barW (M, va_up n 12 (n 12 + 1), fr, ob, fl, cl) q).1), ob.eraseIdx k, bumpF M.1 (barW (M, va_up n 12 (n 12 + 1), fr, ob, fl, cl) q).1 fl, cl) z.2.1 z.2.2.1 z.2.2.2)
    rw [hbU]
    rw [← hbW] at hwd
    have hw64 : (barW (M, va_up n 12 (n 12 + 1), fr, ob, fl, cl) q).1 < 2 ^ M.1 := by
      have h1 : (barW (M, va_up n 12 (n 12 + 1), fr, ob, fl, cl) q).1 ≤ 2 ^ M.1 - 1 := widF_le M fr q.1 (q.2.1 - 1) (ordL (kkf (n 15) fl) M.1) (2 ^ M.1 - 1, va_up n 12 (n 12 + 1) 12)
      have := Nat.two_pow_pos M.1
      omega
    generalize barW (M, va_up n 12 (n 12 + 1), fr, ob, fl, cl) q = w at hwd hw64
    have hb64 : q.1 &&& w.1 < 64 := Nat.and_lt_two_pow (n := 6) _ (by omega)
    refine ok_call hwd ?_
    rintro ⟨cu, d2⟩ ⟨hcu, s2, e2⟩
    have hcu : cu = nI (w.1 * 64 + (q.1 &&& w.1)) := hcu
    subst hcu
    have s2 : SS d2 nx A κ (M, va_up (va_up n 12 (n 12 + 1)) 12 w.2, fr, ob, fl, cl) := s2
    rw [up_up] at s2
    have e2 : Ev d1 nx A κ d2 0 0 A κ := e2
    show Ok ((gA d2 6 11 (A 0)).bind _) _
    rw [ss_r11 s2, bind_s, ss_rcv s2, bind_s]
    have hhi := ss_highest s2 hC hw64 hb64 (lv := q.2.1) z1 (show n 4 ≤ 120 by omega)
    have e12 : va_up n 12 w.2 12 = w.2 := up_e _ _ _
    have e4 : va_up n 12 w.2 4 = n 4 := up_n _ _ _ (by omega)
    rw [e12, e4] at hhi
    refine ok_call hhi ?_
    have hup := upF_le M fr w.1 (q.1 &&& w.1) (n 4 - q.2.1) q.2.1 w.2
    generalize upF M fr w.1 (q.1 &&& w.1) (n 4 - q.2.1) q.2.1 w.2 = u at hup
    rintro ⟨up, d3⟩ ⟨hup2, s3, e3⟩
    have hup2 : up = nI u.1 := hup2
    subst hup2
    have s3 : SS d3 nx A κ (M, va_up (va_up n 12 w.2) 12 u.2, fr, ob, fl, cl) := s3
    rw [up_up] at s3
    have e3 : Ev d2 nx A κ d3 0 0 A κ := e3
    have hrow := ss_row s3
    show Ok ((rcv d3 2 (A 1)).bind _) _
    rw [cw_rcv hrow, bind_s]
    refine ok_adcB (ok_mono (ss_put s3 hC (by omega) (f := u.1) (by omega) (by omega) hb64) ?_)
    rintro ⟨u9, d4, K, S⟩ ⟨A2, κ2, s4, e4b⟩
    have s4 : SS d4 (nx + K) A2 κ2 (M, va_up n 12 u.2, addC fr u.1 w.1 (q.1 &&& w.1), ob, fl, cl) := s4
    have e4b : Ev d3 nx A κ d4 K S A2 κ2 := e4b
    have hA0 : A2 0 = A 0 := e4b.1
    have hlt := ss_lt s4
    show Ok ((gA d4 6 13 (A 0)).bind _) _
    rw [← hA0, ss_r13 s4, bind_s, cc_maskOf (by omega) hb64, bind_s, ca_rcv (ss_act s4), bind_s]
    refine ok_call (ca_raise (ss_act s4) (hlt.2 7 (by omega) 8 (by omega) (by omega)) hL hw64 (w11 w.1 (by omega)) hNG) ?_
    rintro ⟨u9, d5⟩ ⟨g1, g2⟩
    obtain ⟨s5, e5⟩ := ss_acts s4 g1 g2
    have r9 : gI d5 6 9 (A2 0) = some (nI (n 13)) := by rw [ss_r9 s5]; rfl
    show Ok ((gI d5 6 9 (A2 0)).bind _) _
    rw [r9, bind_s, nI_1]
    refine ok_call (ss_w9 s5 (n 13 + 1)) ?_
    rintro d6 ⟨s6, e6⟩
    obtain ⟨lc, o1, o2⟩ := ss_obl s6
    rw [ss_r12 s6, bind_s, co_rcv o1, bind_s]
    refine ok_call (ss_drop s6 hq (fun lc hl => hf lc hl)) ?_
    rintro ⟨u9, d7⟩ ⟨s7, e7⟩
    refine ok_some ⟨A2, κ2, ?_, ?_⟩
    · show SS d7 (nx + (0 + K)) A2 κ2 _
      rw [Nat.zero_add, up_up]
      exact s7
    · show Ev ce nx A κ d7 (0 + K) (0 + S) A2 κ2
      have e7 : Ev d6 (nx + K) A2 κ2 d7 0 0 A2 κ2 := e7
      have e9 : Ev d3 nx A κ d7 (0 + 0 + 0 + K) (0 + 0 + 0 + S) A2 κ2 := Ev_trans e4b (Ev_trans e5 (Ev_trans e6 e7))
      have e8 := Ev_trans e1 (Ev_trans e2 (Ev_trans e3 e9))
      simp only [Nat.zero_add, Nat.add_zero] at e8 ⊢
      exact e8
  | some s =>
    have hs := lowS_lt hah
    rw [lowI_some hah, if_neg (nI_m1 (by omega))]
    have r6 : gI d1 6 6 (A 0) = some (nI (n 10)) := by rw [ss_r6 s1]; rfl
    rw [r6, bind_s, nI_1]
    refine ok_call (ss_w6 s1 (n 10 + 1)) ?_
    rintro d2 ⟨s2, e2⟩
    have r6b : gI d2 6 6 (A 0) = some (nI (n 10 + 1)) := by rw [ss_r6 s2]; rfl
    obtain ⟨lc, o1, o2⟩ := ss_obl s2
    have o2 : SrtO ob lc := o2
    have hl0 := hf lc o2
    have hll : lc.length = ob.length := o2.1.length_eq
    have hlt := ss_lt s2
    have hp2 : m_X6_part d2 (A 5) (0 : Int32) (2 : Int32) = some (nI q.2.2.1) := co_p2 o1 (i := 0) hl0
    simp only [ss_r12 s2, bind_s]
    rw [r6b, bind_s, co_rcv o1, bind_s, hp2, bind_s, bind_s]
    refine ok_adcB (ok_mono (co_add o1 ⟨hlt.1 5 (by omega), hlt.1 6 (by omega)⟩ (hlt.2 5 (by omega) 6 (by omega) (by omega)) (by omega) (s, q.2.1 - 1, n 10 + 1, q.2.2.1) ⟨hs.1, by show q.2.1 - 1 < 128; omega, by show n 10 + 1 < 2 ^ 31; omega, q3⟩) ?_)
    rintro ⟨u9, d3, K, S⟩ hto
    have hto : OboTo d2 nx (A 5) (A 6) κ.2.1 (insO (s, q.2.1 - 1, n 10 + 1, q.2.2.1) lc) d3 K S := hto
    obtain ⟨A3, κ3, y1, y2⟩ := ss_obs s2 (srtO_add o2 (s, q.2.1 - 1, n 10 + 1, q.2.2.1) (fun x hx => by have := hnum x hx; show x.2.2.1 < n 10 + 1; omega)) hto
    refine ok_some ⟨A3, κ3, ?_, ?_⟩
    · show SS d3 (nx + (0 + K)) A3 κ3 _
      rw [Nat.zero_add]
      exact y1
    · show Ev ce nx A κ d3 (0 + K) (0 + S) A3 κ3
      rw [Nat.zero_add, Nat.zero_add]
      exact Ev_trans e1 (Ev_trans e2 y2)
theorem ss_oblige {ce : Ce} {nx : Nat} {A : Nat → Nat} {κ : Nat × Nat × Nat} {V : Sv} (h : SS ce nx A κ V) (hw : Wk V) : Ok (m_X8_oblige nx ce (A 0)) (fun z => StTo ce nx A κ (oblV V) z.2.1 z.2.2.1 z.2.2.2) := by
  obtain ⟨M, n, fr, ob, fl, cl⟩ := V
  have hw0 := hw
  obtain ⟨wr, hC, hRK, hNG, hGr, hnum, h10⟩ := hw
  have hC : WC M fr := hC
  have hGr : Grow ob := hGr
  have w8 : LB ob := wr.2.2.2.2.2.2.2.1
  have w7 : ob.length ≤ 72 := wr.2.2.2.2.2.2.1
  have w1 : n 4 < 100 := wr.1
  obtain ⟨lc, o1, o2⟩ := ss_obl h
  have o2 : SrtO ob lc := o2
  have hll : lc.length = ob.length := o2.1.length_eq
  have hb0 := bst_0 hGr o2
  unfold m_X8_oblige oblV
  show Ok _ (fun (z : Unit × Ce × Nat × Nat) => StTo ce nx A κ (match bst (fun _ => true) ob ob.length with | none => (M, va_up n 5 0, fr, ob, fl, cl) | some k => match ob[k]? with | none => (M, n, fr, ob, fl, cl) | some q => if B M.2.2.1 q.1 then (M, va_up n 5 4, fr, ob, fl, cl) else if B (wth M fr q.2.1) q.1 then meetV (M, n, fr, ob, fl, cl) k q else (M, n, fr, ob.eraseIdx k, fl, cl)) z.2.1 z.2.2.1 z.2.2.2)
  simp only [ss_r12 h, bind_s]
  rw [co_size o1, bind_s, if_z (by omega)]
  cases hb : bst (fun _ => true) ob ob.length with
  | none =>
    rw [hb] at hb0
    have hlc : lc = [] := by
      cases lc with
      | nil => rfl
      | cons x t => cases hb0
    rw [hlc]
    rw [if_pos (show ([] : List Ln).length = 0 from rfl)]
    refine ok_call (ss_w3 h 0 (by omega)) ?_
    rintro d ⟨s1, e1⟩
    exact ok_some (StTo_0 s1 e1)
  | some k =>
    have hk := (bst_lt _ ob _ k hb).2
    have hq : ob[k]? = some ob[k] := List.getElem?_eq_getElem hk
    rw [hb] at hb0
    have hb0 : ob[k]? = lc[0]? := hb0
    generalize ob[k] = q at hq
    rw [hq] at hb0
    have hl0 : lc[0]? = some q := hb0.symm
    have hne : ¬ lc.length = 0 := by omega
    obtain ⟨q1, q2, q3, q4⟩ := w8 q (List.mem_of_getElem? hq)
    obtain ⟨z1, z2, z3⟩ := wr.2.2.2.2.2.2.2.2.1 q (List.mem_of_getElem? hq)
    have z2 : q.2.1 = 0 → B M.2.2.1 q.1 = true := z2
    have hp0 : m_X6_part ce (A 5) (0 : Int32) (0 : Int32) = some (nI q.1) := co_p0 o1 (i := 0) hl0
    have hp1 : m_X6_part ce (A 5) (0 : Int32) (1 : Int32) = some (nI q.2.1) := co_p1 o1 (i := 0) hl0
    obtain ⟨mp, g1, g2, g3, g4⟩ := ss_letters h
    have g4 : gJ ce 3 3 mp = some M.2.2.1 := g4
    have hfs : ∀ lc2, SrtO ob lc2 → lc2[0]? = some q := by
      intro lc2 hl
      rw [← bst_0 hGr hl, hb]
      exact hq
    rw [if_neg hne, co_rcv o1]
    simp only [bind_s]
    rw [hp0, bind_s, hp1, bind_s, g1, bind_s, g4, bind_s, ch_has _ q1, bind_s, if_b]
    simp only [hq]
    show Ok _ (fun (z : Unit × Ce × Nat × Nat) => StTo ce nx A κ (if B M.2.2.1 q.1 then (M, va_up n 5 4, fr, ob, fl, cl) else if B (wth M fr q.2.1) q.1 then meetV (M, n, fr, ob, fl, cl) k q else (M, n, fr, ob.eraseIdx k, fl, cl)) z.2.1 z.2.2.1 z.2.2.2)
    cases hi : B M.2.2.1 q.1 with
    | true =>
      rw [if_pos rfl, if_pos rfl]
      refine ok_call (ss_w3 h 4 (by omega)) ?_
      rintro d ⟨s1, e1⟩
      exact ok_some (StTo_0 s1 e1)
    | false =>
      have hlv : 0 < q.2.1 := Nat.pos_of_ne_zero fun e => by rw [z2 e] at hi; cases hi
      rw [if_neg (by decide), if_neg (by decide), ss_rcv h, bind_s, ss_within h hC (by omega), bind_s, ch_has _ q1, bind_s, if_b]
      cases hwi : B (wth M fr q.2.1) q.1 with
      | false =>
        rw [if_neg (by decide), if_neg (by decide)]
        refine ok_call (ss_drop h hq hfs) ?_
        rintro ⟨u, d⟩ ⟨s1, e1⟩
        exact ok_some (StTo_0 s1 e1)
      | true =>
        rw [if_pos rfl, if_pos rfl, bind_s]
        refine ok_adcB (ok_mono (ss_meet h hw0 hq hfs hlv) ?_)
        rintro ⟨u, d, K, S⟩ ⟨A2, κ2, s1, e1⟩
        refine ok_some ⟨A2, κ2, ?_, ?_⟩
        · show SS d (nx + (0 + K)) A2 κ2 _
          rw [Nat.zero_add]
          exact s1
        · show Ev ce nx A κ d (0 + K) (0 + S) A2 κ2
          rw [Nat.zero_add, Nat.zero_add]
          exact e1
