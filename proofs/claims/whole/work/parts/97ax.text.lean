/-! THE WHOLE: text -/
theorem wr_n8 (c : Ce) (m : Nat) (μ : MS) (v : Int32) : pV (wr c m μ) 9 8 m (.int v) = some (wr c m (muN μ 1 v)) := wr_s8 c m μ v
theorem wr_n9 (c : Ce) (m : Nat) (μ : MS) (v : Int32) : pV (wr c m μ) 9 9 m (.int v) = some (wr c m (muN μ 2 v)) := wr_s9 c m μ v
theorem TXs_kr {μ ν : MS} {T : Nat} {l : List Mv} (h : TXs μ l) (hT : l.length = T) (k : KR T μ ν) : TXs ν l := by
  intro p M hM
  obtain ⟨L, i0, na, Af, nf, a1, ⟨⟨b1, b2⟩, b3, b4, b5⟩, ⟨c1, c2⟩, c3, c4⟩ := h p M hM
  have hp : p < T := by
    rw [← hT]
    exact (List.getElem?_eq_some_iff.mp hM).1
  obtain ⟨k1, k2, k3, k4, k5, k6⟩ := k
  exact ⟨L, i0, na, Af, nf, a1, ⟨⟨(k2 _ (by omega) (by omega)).trans b1, (k2 _ (by omega) (by omega)).trans b2⟩, (k4 _ (Or.inl (by omega))).trans b3, fun i hi => (k4 _ (Or.inl (by omega))).trans (b4 i hi), fun l i hl hi => (k4 _ (Or.inl (by omega))).trans (b5 l i hl hi)⟩, ⟨c1, c2⟩, c3, c4⟩
theorem REF_tx {μ ν : MS} {W Wb : Wv} {z : Tx5} (h : REF μ W Wb z) (k : KR W.1.length μ ν) (F : Nat → Int32) (a b : Int32) : REF (muN (muN (muN ν 1 a) 2 b) 0 0) W Wb (0, F, 1, a, b) := by
  obtain ⟨h1, h2, h3, h4, h7, h8⟩ := h
  refine ⟨?_, ?_, ?_, ⟨mn_e _ _ _, Nat.zero_le _, fun k hk => absurd hk (Nat.not_lt_zero _)⟩, Or.inr ⟨rfl, ?_, ?_⟩, h8⟩
  · show AR (ν.1 0) (ν.2.2.1 2) W
    rw [k.1 0 (by decide) (by decide), k.2.2.2.2.1]
    exact h1
  · show AR (ν.1 1) (ν.2.2.1 3) Wb
    rw [k.1 1 (by decide) (by decide), k.2.2.2.2.1]
    exact h2
  · exact TXs_of (TXs_kr h3 rfl k) rfl rfl
  · rw [mn_n _ _ (by decide), mn_n _ _ (by decide), mn_e]
  · rw [mn_n _ _ (by decide), mn_e]
theorem rf_no (c : Ce) (m : Nat) {μ : MS} {T n : Nat} {f : Nat → Nat} (hB : Byt μ n f) (hT : T < 4) (h0 : μ.1 0 0 = nI T) {e : Nat × Nat} (hp : pT (tK f n) (tV f n) 300 true τ0 0 = .inl e) : ∃ ν, m_X12_text (wr c m μ) m = some (-1, wr c m (muN (muN (muN ν 1 (nI e.1)) 2 (nI (tP f n e.2))) 0 0)) ∧ KR T μ ν := by
  obtain ⟨ν, n1, n2, n3, n4, n5⟩ := (sr_readText c m hB hT h0).1 e hp
  refine ⟨ν, ?_, n2⟩
  have hz : ¬ nI e.1 = 0 := nI_ne0 n4 (by omega)
  have hz4 : ¬ nI T = (4 : Int32) := fun x => by
    have := (nI_eq (a := T) (b := 4) (by omega) (by omega)).mp x
    omega
  have e8 : (muN ν 1 (nI e.1)).2.2.2 1 = nI e.1 := mn_e _ _ _
  have e11 : (muN ν 1 (nI e.1)).2.2.2 4 = nI (tP f n e.2) := (mn_n _ _ (by decide)).trans n3
  have e8b : (muN (muN (muN ν 1 (nI e.1)) 2 (nI (tP f n e.2))) 0 0).2.2.2 1 = nI e.1 := by rw [mn_n _ _ (by decide), mn_n _ _ (by decide), mn_e]
  unfold m_X12_text
  rw [wr_g0, bind_s, rd_0, bind_s, h0, if_neg hz4, wr_rcv, bind_s, n1, bind_s]
  show ((pV (wr c m ν) 9 8 m (.int (nI e.1))).bind fun zc5 => _) = _
  rw [wr_n8, bind_s, wr_g8, bind_s, e8, if_neg hz, wr_g11, bind_s, e11, bind_s, wr_n9, bind_s, wr_n7, bind_s, wr_g8, bind_s, e8b, if_neg hz]
theorem rf_yes (c : Ce) (m : Nat) {μ : MS} {T n : Nat} {f : Nat → Nat} (hB : Byt μ n f) (hT : T < 4) (h0 : μ.1 0 0 = nI T) {σ : TS} (hp : pT (tK f n) (tV f n) 300 true τ0 0 = .inr σ) : ∃ ν, m_X12_text (wr c m μ) m = some (nI T, wr c m (ma (muN (muN (muN ν 1 0) 2 (-1)) 0 0) 0 (nI (T + 1)))) ∧ KR T μ ν ∧ TX ν T σ.1 σ.2.2.1 (max 1 σ.2.2.2.1) σ.2.2.2.2.1 σ.2.2.2.2.2.2 ∧ 1 ≤ σ.1 ∧ σ.1 ≤ 6 ∧ σ.2.2.2.1 ≤ 4 := by
  obtain ⟨ν, n1, n2, n3⟩ := (sr_readText c m hB hT h0).2 σ hp
  refine ⟨ν, ?_, n2, n3⟩
  have hz4 : ¬ nI T = (4 : Int32) := fun x => by
    have := (nI_eq (a := T) (b := 4) (by omega) (by omega)).mp x
    omega
  have e8 : (muN ν 1 0).2.2.2 1 = 0 := mn_e _ _ _
  have e8b : (muN (muN (muN ν 1 0) 2 (-1)) 0 0).2.2.2 1 = 0 := by rw [mn_n _ _ (by decide), mn_n _ _ (by decide), mn_e]
  have e0 : (muN (muN (muN ν 1 0) 2 (-1)) 0 0).1 0 0 = nI T := by
    show ν.1 0 0 = nI T
    rw [n2.1 0 (by decide) (by decide)]
    exact h0
  have e1 : (ma (muN (muN (muN ν 1 0) 2 (-1)) 0 0) 0 (nI (T + 1))).1 0 0 = nI (T + 1) := by
    rw [ma_at, if_pos rfl]
  have es : nI (T + 1) - (1 : Int32) = nI T := pk_sub (b := 1) (by omega)
  unfold m_X12_text
  rw [wr_g0, bind_s, rd_0, bind_s, h0, if_neg hz4, wr_rcv, bind_s, n1, bind_s]
  show ((pV (wr c m ν) 9 8 m (.int (0 : Int32))).bind fun zc5 => _) = _
  rw [wr_n8, bind_s, wr_g8, bind_s, e8, if_pos rfl, bind_s, wr_n9, bind_s, wr_n7, bind_s, wr_g8, bind_s, e8b, if_pos rfl, wr_g0, bind_s, rd_0, bind_s, e0, nI_1, wt_0, bind_s, wr_g0, bind_s, rd_0, bind_s, e1, es]
theorem c_addText {ce : Ce} {w t p s v : Nat} {tp pp : List Nat} {fs : List Value} (h : WC3 ce w t p s tp pp) (hl : tp.length < 4) (hv : ce v = some (.inr (3, fs))) (hwt : w ≠ t) (hwp : w ≠ p) (htp : t ≠ p) : ∃ d, m_X10_addText ce w v = some (nI tp.length, d) ∧ WC3 d w t p s (tp ++ [v]) pp ∧ ∀ b, b ≠ w → b ≠ t → d b = ce b := by
  obtain ⟨Tf, Pf, w1, w2, w3, w4, w5⟩ := h
  have s1 := sR_s (ci := 3) w2 hl (by omega) hv
  have f1 : gx_up ce t (.inl (.object "FencedStates$Machine", 4, .inr (.inr (.inr (.inr (va_up Tf tp.length (some v))))))) w = some (.inr (7, [.ref t, .int (nI tp.length), .ref p, .int (nI pp.length), .ref s])) := (gu_n _ _ hwt).trans w1
  obtain ⟨d, a1, b1, k1⟩ := pv_r (k := 1) (v := .int (nI (tp.length + 1))) [.ref t, .int (nI (tp.length + 1)), .ref p, .int (nI pp.length), .ref s] f1 (Nat.le_of_ble_eq_true rfl) rfl
  have es : nI (tp.length + 1) - (1 : Int32) = nI tp.length := pk_sub (b := 1) (by omega)
  refine ⟨d, ?_, ⟨va_up Tf tp.length (some v), Pf, ?_, ?_, ?_, ?_, w5⟩, ?_⟩
  · have g1 : gI ce 7 1 w = some (nI tp.length) := gI_c w1 rfl
    have g2 : gI (gx_up ce t (.inl (.object "FencedStates$Machine", 4, .inr (.inr (.inr (.inr (va_up Tf tp.length (some v)))))))) 7 1 w = some (nI tp.length) := gI_c f1 rfl
    have g3 : gI d 7 1 w = some (nI (tp.length + 1)) := gI_c b1 rfl
    have g4 : gA ce 7 0 w = some t := gA_c w1 rfl
    have g5 : alen ce t = some (nI 4) := alen_M w2
    have hn : ¬ nI tp.length < 0 := nI_pos (by omega)
    have hlt : nI tp.length < nI 4 := (nI_ltI (by omega) (by omega)).mpr hl
    unfold m_X10_addText
    simp only [g1, bind_s, if_neg hn, g4, g5, if_pos hlt, s1, g2, nI_1, a1, g3, es]
  · rw [List.length_append]
    exact b1
  · exact (k1 t (Ne.symm hwt)).trans (gu_e _ _ _)
  · exact (k1 p (Ne.symm hwp)).trans ((gu_n _ _ (Ne.symm htp)).trans w3)
  · intro i hi
    by_cases e : i = tp.length
    · rw [e, up_e, List.getElem?_append_right (Nat.le_refl _), Nat.sub_self]
      rfl
    · rw [up_n _ _ _ e, w4 i hi]
      by_cases e2 : i < tp.length
      · rw [List.getElem?_append_left e2]
      · rw [List.getElem?_eq_none (by omega), List.getElem?_eq_none (by rw [List.length_append]; show tp.length + 1 ≤ i; omega)]
  · intro b h1 h2
    exact (k1 b h1).trans (gu_n _ _ h2)
section
variable {ce d : Ce} {nx nx2 m : Nat} {own own2 fx A B T A2 T2 B2 : Nat → Nat} {κ κb κt κ2 : Nat × Nat × Nat} {sp : Nat × Nat × Nat × Nat} {W Wb W2 : Wv} {z : Tx5} {μ : MS} {q K S : Nat}
theorem CP_rd (h1 : CP ce nx m own fx A B T κ κb κt sp W Wb z μ) (hd : ∀ b, Oth (fx 2) (fx 3) (fx 4) (fx 5) (fx 6) (fx 7) b → d b = ce b) (hR : RDF d fx) : CP d nx m own fx A B T κ κb κt sp W Wb z μ := by
  have ho := h1.1
  have hx : ∀ k, k < 20 → (k < 2 ∨ 8 ≤ k) → d (fx k) = ce (fx k) := fun k hk n1 => hd _ ⟨fx_ne ho hk (by omega) (by omega), fx_ne ho hk (by omega) (by omega), fx_ne ho hk (by omega) (by omega), fx_ne ho hk (by omega) (by omega), fx_ne ho hk (by omega) (by omega), fx_ne ho hk (by omega) (by omega)⟩
  have hne : ∀ b, (own b < 10 ∨ (18 ≤ own b ∧ own b < 24) ∨ own b = 28) → ∀ k, 2 ≤ k → k < 8 → b ≠ fx k := fun b ht k k1 k2 e => by
    have := (ho.1 k (by omega)).1
    rw [e] at ht
    omega
  exact CP_fx h1 (fun b hb ht => hd b ⟨hne b ht 2 (by omega) (by omega), hne b ht 3 (by omega) (by omega), hne b ht 4 (by omega) (by omega), hne b ht 5 (by omega) (by omega), hne b ht 6 (by omega) (by omega), hne b ht 7 (by omega) (by omega)⟩) (XCL_fr h1.2.1 (hx 0 (by omega) (by omega)) (hx 1 (by omega) (by omega))) hR (CHF_fr h1.2.2.1.2.1 (hx 14 (by omega) (by omega)) (hx 15 (by omega) (by omega)) (hx 16 (by omega) (by omega))) (PTF_fr h1.2.2.1.2.2 (hx 17 (by omega) (by omega)) (hx 19 (by omega) (by omega)))
/-- the class's text behind its reader -/
theorem cx_text (h1 : CP ce nx m own fx A B T κ κb κt sp W Wb z μ) (hlt : W.1.length < 4) {d1 : Ce} (r1 : m_X7_readAll ce (fx 2) (fx 1) (nI z.1) = some ((), d1)) (hd1 : CP d1 nx m own fx A B T κ κb κt sp W Wb z μ) {flt fp : Int32} (u1 : gI d1 5 5 (fx 2) = some flt) (u2 : gI d1 5 6 (fx 2) = some fp) : ∃ d5, CP d5 nx m own fx A B T κ κb κt sp W Wb (0, z.2.1, 1, flt, fp) μ ∧ (∀ b, b ≠ fx 0 → d5 b = d1 b) ∧ m_X11_text nx ce (fx 0) = (if flt = 0 then adcB (m_X7_machine nx d5 (fx 2)) fun zq20 => (rcv zq20.2.1 7 (fx 8)).bind fun zz22 => (m_X10_addText zq20.2.1 (fx 8) zq20.1).bind fun zq23 => some (zq23.1, zq23.2, 0, 0) else some ((-1 : Int32), d5, 0, 0)) := by
  have ho := h1.1
  have hX := h1.2.1.1
  have hX1 := hd1.2.1.1
  have n20 : fx 2 ≠ fx 0 := fx_ne ho (by omega) (by omega) (by omega)
  have n10 : fx 1 ≠ fx 0 := fx_ne ho (by omega) (by omega) (by omega)
  have e7 : gI ce 7 1 (fx 8) = some (nI W.1.length) := by
    obtain ⟨w1, tp, pp, ⟨Tf, Pf, w2, _⟩, w3, w4, w5⟩ := h1.2.2.2.1
    rw [← w4.1]
    exact gI_c w2 rfl
  have rc : rcv ce 5 (fx 2) = some () := by
    obtain ⟨⟨c, now, flt, fp, L, ini, i0, nb, nt, inp, r1⟩, _⟩ := h1.2.2.1.1
    exact rcv_c r1
  obtain ⟨d2, p1, p2, p3⟩ := pv_r (k := 1) (v := .int 0) (fsX (fx 1) 0 z.2.2.1 z.2.2.2.1 z.2.2.2.2 (fx 2) (fx 8) (fx 11) (T 0) (fx 18) (fx 14) (fx 17) (fx 19)) hX1 (Nat.le_of_ble_eq_true rfl) rfl
  obtain ⟨d3, q1, q2, q3⟩ := pv_r (k := 2) (v := .int 1) (fsX (fx 1) 0 1 z.2.2.2.1 z.2.2.2.2 (fx 2) (fx 8) (fx 11) (T 0) (fx 18) (fx 14) (fx 17) (fx 19)) p2 (Nat.le_of_ble_eq_true rfl) rfl
  have q1 : pZ d2 8 2 (fx 0) (1 : Int32) = some d3 := by
    unfold pZ
    rw [if_pos (Or.inr rfl)]
    exact q1
  obtain ⟨d4, s1, s2, s3⟩ := pv_r (k := 3) (v := .int flt) (fsX (fx 1) 0 1 flt z.2.2.2.2 (fx 2) (fx 8) (fx 11) (T 0) (fx 18) (fx 14) (fx 17) (fx 19)) q2 (Nat.le_of_ble_eq_true rfl) rfl
  obtain ⟨d5, t1, t2, t3⟩ := pv_r (k := 4) (v := .int fp) (fsX (fx 1) 0 1 flt fp (fx 2) (fx 8) (fx 11) (T 0) (fx 18) (fx 14) (fx 17) (fx 19)) s2 (Nat.le_of_ble_eq_true rfl) rfl
  have fr3 : ∀ b, b ≠ fx 0 → d3 b = d1 b := fun b hb => (q3 b hb).trans (p3 b hb)
  have fr4 : ∀ b, b ≠ fx 0 → d4 b = d1 b := fun b hb => (s3 b hb).trans (fr3 b hb)
  have fr5 : ∀ b, b ≠ fx 0 → d5 b = d1 b := fun b hb => (t3 b hb).trans (fr4 b hb)
  have hC : CP d5 nx m own fx A B T κ κb κt sp W Wb (0, z.2.1, 1, flt, fp) μ := CP_tape hd1 (fun b h0 _ => fr5 b h0) ⟨t2, (fr5 _ n10).trans hd1.2.1.2⟩
  refine ⟨d5, hC, fr5, ?_⟩
  have hl4 : nI W.1.length < (4 : Int32) := (nI_ltI (b := 4) (by omega) (by omega)).mpr hlt
  have v1 : gI d3 5 5 (fx 2) = some flt := (gI_fr (fr3 _ n20)).trans u1
  have v2 : gI d4 5 6 (fx 2) = some fp := (gI_fr (fr4 _ n20)).trans u2
  have rc5 : rcv d5 5 (fx 2) = some () := by
    obtain ⟨⟨c, now, flt, fp, L, ini, i0, nb, nt, inp, r1⟩, _⟩ := hC.2.2.1.1
    exact rcv_c r1
  unfold m_X11_text
  rw [gA_c (k := 6) (x := fx 8) hX rfl, bind_s, e7, bind_s, if_pos hl4, gA_c (k := 5) (x := fx 2) hX rfl, bind_s, gA_c (k := 0) (x := fx 1) hX rfl, bind_s, gI_c (k := 1) (x := nI z.1) hX rfl, bind_s, rc, bind_s, r1, bind_s, p1, bind_s, q1, bind_s, gA_c (k := 5) (x := fx 2) q2 rfl, bind_s, v1, bind_s, s1, bind_s, gA_c (k := 5) (x := fx 2) s2 rfl, bind_s, v2, bind_s, t1, bind_s, gI_c (k := 3) (x := flt) t2 rfl, bind_s, gA_c (k := 6) (x := fx 8) t2 rfl, bind_s, gA_c (k := 5) (x := fx 2) t2 rfl, bind_s, rc5, bind_s]
theorem AR_add (h : AR (μ.1 0) (μ.2.2.1 2) W) (hl : W.1.length < 4) {a : Nat → Int32} (h0 : a 0 = nI (W.1.length + 1)) (ha : ∀ j, 1 ≤ j → a j = μ.1 0 j) (M : Mv) : AR a (μ.2.2.1 2) (W.1 ++ [M], W.2) := by
  obtain ⟨h1, h2, h3, h4, h5, fi, h6, h7, h8⟩ := h
  refine ⟨?_, ?_, (ha 1 (by omega)).trans h3, h4, RR_congr (fun j h3 _ => ha j (by omega)) (fun _ _ => rfl) h5, fi, h6, (ha 2 (by omega)).trans h7, fun i V hV => ?_⟩
  · rw [h0]
    show _ = nI (W.1 ++ [M]).length
    rw [List.length_append]
    rfl
  · show (W.1 ++ [M]).length ≤ 4
    rw [List.length_append]
    show W.1.length + 1 ≤ 4
    omega
  · refine RR_congr (fun j h3 _ => ?_) (fun _ _ => rfl) (h8 i V hV)
    exact ha _ (by omega)
theorem g_text (h : GI nx ce m fx q K S) (hq : q < 512) : GoS nx m fx q K S (m_X11_text nx ce (fx 0)) (fun d => m_X12_text d m) := by
  have h0 := h
  obtain ⟨own, A, B, T, κ, κb, κt, sp, W, Wb, z, μ, c, h1, h2, h3, h4⟩ := h
  have hcq := h3.1
  have ho := h1.1
  have hA0 : μ.1 0 0 = nI W.1.length := h2.1.1
  have hl4 := h2.1.2.1
  by_cases hlt : W.1.length < 4
  · obtain ⟨z1, z2, z3⟩ := h2.2.2.2.1
    obtain ⟨f, hf⟩ : ∃ f : Nat → Nat, ∀ k, k < z.1 → z.2.1 k = sg (f k) ∧ μ.1 6 k = nI (f k) ∧ f k < 256 := ⟨fun k => (μ.1 6 k).toNatClampNeg, fun k hk => by
      obtain ⟨b, b1, b2, b3⟩ := z3 k hk
      show z.2.1 k = sg (μ.1 6 k).toNatClampNeg ∧ μ.1 6 k = nI (μ.1 6 k).toNatClampNeg ∧ (μ.1 6 k).toNatClampNeg < 256
      rw [b3, nI_clamp (by omega)]
      exact ⟨b2, rfl, b1⟩⟩
    have hB : Byt μ z.1 f := ⟨z1, z2, fun j hj => (hf j hj).2⟩
    have hTp : Tpc ce (fx 1) z.1 f := ⟨z2, z.2.1, h1.2.1.2, fun k hk => ⟨(hf k hk).1, (hf k hk).2.2⟩⟩
    have ne : ∀ i j, i < 20 → j < 20 → i ≠ j → fx i ≠ fx j := fun i j hi hj e => fx_ne ho hi hj e
    have hAd : Adr (fx 2) (fx 3) (fx 4) (fx 5) (fx 6) (fx 7) := ⟨⟨ne _ _ (by decide) (by decide) (by decide), ne _ _ (by decide) (by decide) (by decide), ne _ _ (by decide) (by decide) (by decide), ne _ _ (by decide) (by decide) (by decide), ne _ _ (by decide) (by decide) (by decide), ne _ _ (by decide) (by decide) (by decide)⟩, ne _ _ (by decide) (by decide) (by decide), ne _ _ (by decide) (by decide) (by decide), ne _ _ (by decide) (by decide) (by decide), ⟨ne _ _ (by decide) (by decide) (by decide), ne _ _ (by decide) (by decide) (by decide), ne _ _ (by decide) (by decide) (by decide)⟩, ne _ _ (by decide) (by decide) (by decide), ne _ _ (by decide) (by decide) (by decide), ne _ _ (by decide) (by decide) (by decide)⟩
    have hO1 : Oth (fx 2) (fx 3) (fx 4) (fx 5) (fx 6) (fx 7) (fx 1) := ⟨ne _ _ (by decide) (by decide) (by decide), ne _ _ (by decide) (by decide) (by decide), ne _ _ (by decide) (by decide) (by decide), ne _ _ (by decide) (by decide) (by decide), ne _ _ (by decide) (by decide) (by decide), ne _ _ (by decide) (by decide) (by decide)⟩
    obtain ⟨d1, r1, r2, r3, r4, r5⟩ := cr_readAll hAd h1.2.2.1.1 hO1 hTp
    have hd1 := CP_rd h1 r3 r2
    cases hp : pT (tK f z.1) (tV f z.1) 300 true τ0 0 with
    | inl e =>
      obtain ⟨⟨e1, e2⟩, u1, u2⟩ := r4 e hp
      obtain ⟨d5, k1, k2, k3⟩ := cx_text h1 hlt r1 hd1 u1 u2
      obtain ⟨ν, n1, n2⟩ := rf_no d5 m hB hlt hA0 hp
      rw [if_neg (show ¬ nI e.1 = 0 from nI_ne0 e1 (by omega))] at k3
      rw [← CP_h k1] at n1
      exact ⟨-1, d5, 0, 0, _, k3, CP_rcv k1, n1, own, A, B, T, κ, κb, κt, sp, W, Wb, _, _, c, CP_wr k1 _, REF_tx h2 n2 _ _ _, CNT_next h3 hq, CST_other (k := 0) (s := 0) h4 hcq (by omega) (by omega)⟩
    | inr σ =>
      obtain ⟨u1, u2, G, H, u3, u4, u5⟩ := r5 σ hp
      obtain ⟨d5, k1, k2, k3⟩ := cx_text h1 hlt r1 hd1 u1 u2
      rw [if_pos rfl] at k3
      refine gos_ok ?_
      rw [k3]
      obtain ⟨ν0, _, _, _, l1, l6, l4⟩ := rf_yes d5 m hB hlt hA0 hp
      have hR5 : RdT d5 (fx 2) (fx 6) (fx 7) σ.1 σ.2.2.2.1 σ.2.2.1 G H := RdT_fr u3 (k2 _ (ne _ _ (by decide) (by decide) (by decide))) (k2 _ (ne _ _ (by decide) (by decide) (by decide))) (k2 _ (ne _ _ (by decide) (by decide) (by decide)))
      refine ok_adcB (ok_mono (c_machine (nx := nx) hR5 l1 (by omega) l4 ⟨(ho.1 2 (by decide)).2, (ho.1 6 (by decide)).2, (ho.1 7 (by decide)).2⟩) (fun y hy => ?_))
      obtain ⟨y1, y2, y3, y4, y5⟩ := hy
      obtain ⟨own3, ke3, z3', hd3⟩ := CP_Z k1 (Nat.le_add_right nx y.2.2.1) y5
      have ho3 := hd3.1
      have hW3 := hd3.2.2.2.1
      obtain ⟨w1, tp, pp, w2, w3, w4, w5⟩ := hW3
      have htl : tp.length = W.1.length := w4.1
      obtain ⟨fsM, hM⟩ := (MA_cell y2).2
      have hM2 : MA y.2.1 (Zo own3 (nx + y.2.2.1)) (nx + 1) (txM σ.1 σ.2.2.1 (if σ.2.2.2.1 = 0 then 1 else σ.2.2.2.1) G H) := MA_congr (fun _ _ => rfl) (fun b hb => z3' b hb.1 hb.2) y2
      obtain ⟨d6, a1, a2, a3⟩ := c_addText (v := nx + 1) w2 (by omega) hM (ne _ _ (by decide) (by decide) (by decide)) (ne _ _ (by decide) (by decide) (by decide)) (ne _ _ (by decide) (by decide) (by decide))
      rw [CP_w7 hd3, bind_s, y1, a1, bind_s]
      refine ok_some ?_
      have hna : (if σ.2.2.2.1 = 0 then 1 else σ.2.2.2.1) = max 1 σ.2.2.2.1 := by
        by_cases e : σ.2.2.2.1 = 0
        · rw [if_pos e]
          omega
        · rw [if_neg e]
          omega
      have hfr : ∀ b, b < nx + y.2.2.1 → own3 b ≠ 18 → own3 b ≠ 19 → d6 b = y.2.1 b := fun b hb n8 n9 => a3 b (fun e => n8 (by rw [e]; exact (ho3.1 8 (by decide)).1)) (fun e => n9 (by rw [e]; exact (ho3.1 9 (by decide)).1))
      have hlA := (ss_lt w3.1).1
      have ke : KE own3 (nx + y.2.2.1) own3 (nx + y.2.2.1) := ⟨Nat.le_refl _, fun _ _ => rfl⟩
      have hw6 : WRL d6 (nx + y.2.2.1) own3 (fx 8) (fx 9) (fx 10) A κ (W.1 ++ [txM σ.1 σ.2.2.1 (if σ.2.2.2.1 = 0 then 1 else σ.2.2.2.1) G H], W.2) 1 := by
        have hz6 : ∀ b, Zo own3 (nx + y.2.2.1) b → d6 b = y.2.1 b := fun b hb => hfr b hb.1 (by have := hb.2; omega) (by have := hb.2; omega)
        refine ⟨w1, tp ++ [nx + 1], pp, a2, SZ_congr w3 (Tg_liv w1 (by decide)) (fun i hi => hfr _ (hlA i hi) (by have := w1 i hi; omega) (by have := w1 i hi; omega)) hz6 (Nat.le_refl _) (fun _ h => h), ⟨?_, ?_, ?_⟩, PP_congr w5 (fun b hb => hb.1) hz6 (Nat.le_refl _) (fun _ h => h)⟩
        · show (tp ++ [nx + 1]).length = (W.1 ++ [_]).length
          rw [List.length_append, List.length_append, htl]
          rfl
        · show (W.1 ++ [_]).length ≤ 4
          rw [List.length_append]
          show W.1.length + 1 ≤ 4
          omega
        · intro i p M hp hM'
          have hM' : (W.1 ++ [txM σ.1 σ.2.2.1 (if σ.2.2.2.1 = 0 then 1 else σ.2.2.2.1) G H])[i]? = some M := hM'
          by_cases e : i < tp.length
          · rw [List.getElem?_append_left e] at hp
            rw [List.getElem?_append_left (by omega)] at hM'
            exact MA_congr hz6 (fun _ h => h) (w4.2.2 i p M hp hM')
          · have hi := (List.getElem?_eq_some_iff.mp hp).1
            rw [List.length_append] at hi
            have hi : i < tp.length + 1 := hi
            have ei : i = tp.length := by omega
            subst ei
            rw [List.getElem?_append_right (Nat.le_refl _), Nat.sub_self] at hp
            rw [htl, List.getElem?_append_right (Nat.le_refl _), Nat.sub_self] at hM'
            cases hp
            cases hM'
            exact MA_congr hz6 (fun _ h => h) hM2
      have hd6 := CP_W hd3 ke (fun b hb _ n8 n9 _ => hfr b hb n8 n9) hw6
      obtain ⟨ν, n1, n2, n3, _⟩ := rf_yes d6 m hB hlt hA0 hp
      rw [← CP_h hd6] at n1
      rw [htl]
      have hk := REF_tx h2 n2 z.2.1 0 (-1)
      refine ⟨CP_rcv hd6, _, n1, ?_⟩
      show GI (nx + (0 + y.2.2.1)) _ m fx (q + 1) (K + (0 + y.2.2.1)) (S + (0 + y.2.2.2))
      rw [Nat.zero_add, Nat.zero_add]
      refine ⟨own3, A, B, T, κ, κb, κt, sp, _, Wb, _, _, c, CP_wr hd6 _, ?_, ?_, CST_other h4 hcq (by omega) (by omega)⟩
      · obtain ⟨g1, g2, g3, g4, g5, g6⟩ := hk
        refine ⟨?_, g2, ?_, g4, g5, ?_⟩
        · refine AR_add g1 hlt ?_ (fun j hj => ?_) _
          · show (ma _ 0 _).1 0 0 = _
            rw [ma_at, if_pos rfl]
          · show (ma _ 0 _).1 0 j = _
            rw [ma_at, if_neg (by omega)]
        · intro p M hM'
          have hM' : (W.1 ++ [txM σ.1 σ.2.2.1 (if σ.2.2.2.1 = 0 then 1 else σ.2.2.2.1) G H])[p]? = some M := hM'
          by_cases e : p < W.1.length
          · rw [List.getElem?_append_left e] at hM'
            exact TXs_of g3 rfl rfl p M hM'
          · have hi := (List.getElem?_eq_some_iff.mp hM').1
            rw [List.length_append] at hi
            have hi : p < W.1.length + 1 := hi
            have ei : p = W.1.length := by omega
            subst ei
            rw [List.getElem?_append_right (Nat.le_refl _), Nat.sub_self] at hM'
            cases hM'
            obtain ⟨⟨x1, x2⟩, x3, x4, x5⟩ := n3
            refine ⟨σ.1, σ.2.2.1, _, G, H, rfl, ⟨⟨x1, ?_⟩, x3, fun i hi => ?_, fun l i hl hi => ?_⟩, ⟨l1, by omega⟩, ?_, ?_⟩
            · rw [hna]
              exact x2
            · rw [hna] at hi
              rw [u4 i (by omega)]
              exact x4 i hi
            · rw [u5 _ (by omega)]
              exact x5 l i hl hi
            · rw [hna]
              omega
            · rw [hna]
              omega
        · obtain ⟨r, hr⟩ := h2.2.2.2.2.2
          refine ⟨r ++ [txM σ.1 σ.2.2.1 (if σ.2.2.2.1 = 0 then 1 else σ.2.2.2.1) G H], ?_⟩
          show W.1 ++ [_] = _
          rw [hr, List.append_assoc]
      · exact CNT_next h3 hq
  · have e4 : W.1.length = 4 := by omega
    have e7 : gI ce 7 1 (fx 8) = some (nI 4) := by
      obtain ⟨w1, tp, pp, ⟨Tf, Pf, w2, _⟩, w3, w4, w5⟩ := h1.2.2.2.1
      rw [← e4, ← w4.1]
      exact gI_c w2 rfl
    refine gos_no h0 hq (v := -1) ?_ ?_
    · unfold m_X11_text
      rw [gA_c (k := 6) (x := fx 8) h1.2.1.1 rfl, bind_s, e7, bind_s, if_neg (show ¬ nI 4 < (4 : Int32) from by decide)]
    · show m_X12_text ce m = _
      have e : m_X12_text (wr ce m μ) m = some (-1, wr ce m μ) := by
        unfold m_X12_text
        rw [wr_g0, bind_s, rd_0, bind_s, hA0, e4, if_pos (show nI 4 = (4 : Int32) from rfl)]
      rw [← CP_h h1] at e
      exact e
end
