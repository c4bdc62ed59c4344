/-! THE WHOLE: writers that remember; mode, aim, step -/
theorem isn_in {N w : Nat} (h : w < N) (hN : N < 2 ^ 31) : m_X12_isIn (nI w) (0 : Int32) (nI N - (1 : Int32)) = some 1 := by
  rw [nl_1, pk_sub (by omega), nl_0]
  exact isin_in (by omega) (by omega) (by omega)
theorem isn_out {N : Nat} {p : Int32} (h : ¬ Inr N p) (hN : N < 2 ^ 31) : m_X12_isIn p (0 : Int32) (nI N - (1 : Int32)) = some 0 := by
  by_cases h0 : N = 0
  · subst h0
    rw [sr_isIn, if_neg]
    rintro ⟨h1, h2⟩
    exact absurd (Int32.le_trans h1 h2) (by decide)
  · rw [nl_1, pk_sub (by omega), nl_0]
    exact isin_out (by omega) (by omega) (inb0 (by rw [show N - 1 + 1 = N by omega]; exact h))
theorem nrg {N : Nat} (hN : N < 2 ^ 31) {p : Int32} (h : ¬ Inr N p) (h0 : ¬ p < 0) : nI N ≤ p := (out_c hN h).resolve_left h0
section
variable {ce d : Ce} {nx nx2 m : Nat} {own own2 fx A B T A2 T2 : Nat → Nat} {κ κb κt κ2 : Nat × Nat × Nat} {sp : Nat × Nat × Nat × Nat} {W Wb : Wv} {z : Tx5} {μ : MS} {q K S : Nat}
theorem gos_ok {oc : Option (Int32 × Ce × Nat × Nat)} {rf : Ce → Option (Int32 × Ce)} (h : Ok oc (fun z => rcv z.2.1 9 m = some () ∧ ∃ e, rf z.2.1 = some (z.1, e) ∧ GI (nx + z.2.2.1) e m fx (q + 1) (K + z.2.2.1) (S + z.2.2.2))) : GoS nx m fx q K S oc rf := by
  obtain ⟨⟨v, d, k, s⟩, h1, h2, e, h3, h4⟩ := h
  exact ⟨v, d, k, s, e, h1, h2, h3, h4⟩
theorem GI_rcv (h : GI nx ce m fx q K S) : rcv ce 9 m = some () := by
  obtain ⟨own, A, B, T, κ, κb, κt, sp, W, Wb, z, μ, c, h1, h2, h3, h4⟩ := h
  exact CP_rcv h1
theorem gos_no {oc : Option (Int32 × Ce × Nat × Nat)} {rf : Ce → Option (Int32 × Ce)} {v : Int32} (h : GI nx ce m fx q K S) (hq : q < 512) (h1 : oc = some (v, ce, 0, 0)) (h2 : rf ce = some (v, ce)) : GoS nx m fx q K S oc rf := ⟨v, ce, 0, 0, ce, h1, GI_rcv h, h2, GI_next h hq⟩
theorem CP_w7 (h : CP ce nx m own fx A B T κ κb κt sp W Wb z μ) : rcv ce 7 (fx 8) = some () := by
  obtain ⟨h1, h2, _, ⟨w1, tp, pp, ⟨T, P, w2, _⟩, _⟩, _⟩ := h
  exact rcv_c w2
theorem GI_wt {c : Nat} (h2 : REF μ W Wb z) (h3 : CNT c q W Wb) (hq : q < 512) {d1 : Ce} {nx1 : Nat} {own1 : Nat → Nat} (hd1 : CP d1 nx1 m own1 fx A B T κ κb κt sp (W.1, pushP W.2.1 W.2.2, W.2.2) Wb z μ) {d2 : Ce} {nx2 : Nat} {A2 : Nat → Nat} {κ2 : Nat × Nat × Nat} {V2 : Sv} (hn : nx1 ≤ nx2) (hs : SZ d2 nx2 (Zo own1 nx1) A2 κ2 V2) (he : Es d1 nx1 A d2 A2) : (rcv d2 9 m = some () ∧ d2 = wr d2 m μ) ∧ ∀ (ν ν0 : MS) (c2 K2 S2 : Nat), AR (ν0.1 0) (ν0.2.2.1 2) (W.1, pushP W.2.1 W.2.2, W.2.2) → KW μ ν0 → Kp ν0 ν → RV ν V2 → IV c2 V2 → NI (500 * (q + 1)) V2.2.1 → c ≤ c2 → c2 ≤ q + 1 → CST c2 (q + 1) K2 S2 κ2 κb κt sp.2.2.2 → GI nx2 (wr d2 m ν) m fx (q + 1) K2 S2 := by
  obtain ⟨own2, k1, hd2⟩ := CP_A hd1 hn hs he.1 he.2.2 he.2.1
  have hd2 : CP d2 nx2 m own2 fx A2 B T κ2 κb κt sp (W.1, pushP W.2.1 W.2.2, V2) Wb z μ := hd2
  refine ⟨⟨CP_rcv hd2, CP_h hd2⟩, fun ν ν0 c2 K2 S2 a1 a2 a3 a4 a5 a6 a7 a8 a9 => ⟨own2, A2, B, T, κ2, κb, κt, sp, (W.1, pushP W.2.1 W.2.2, V2), Wb, z, ν, c2, CP_wr hd2 ν, ?_, CNT_set h3 hq a7 a8 a5 a6, a9⟩⟩
  exact REF_kq h2 (KQ_trans (KQ_w a2) (KQ_p a3)) (AR_kp a1 a3 a4) rfl
theorem g_mode (h : GI nx ce m fx q K S) (hq : q < 512) (p : Int32) : GoS nx m fx q K S (m_X11_mode nx ce (fx 0) p) (fun d => m_X12_mode d m p) := by
  have h0 := h
  obtain ⟨own, A, B, T, κ, κb, κt, sp, W, Wb, z, μ, c, h1, h2, h3, h4⟩ := h
  have hv := h3.2.2 W.2.2 (Or.inl rfl)
  have hcq := h3.1
  obtain ⟨a1, a2, a3⟩ := CP_XS h1
  have e2 : (2 : Int32) = nI 3 - 1 := by decide
  by_cases hp : Inr 3 p
  · obtain ⟨md, hm, rfl⟩ := hp
    refine gos_ok ?_
    unfold m_X11_mode
    rw [if_neg (nI_pos (by omega)), if_pos (show nI md < (3 : Int32) from (nI_ltI (b := 3) (by omega) (by omega)).mpr hm), a2, bind_s, CP_w7 h1, bind_s]
    refine ok_adcB (ok_mono (g_rem h1 hv.1) (fun r hr => ?_))
    obtain ⟨r1, r2, own1, k1, hd1⟩ := hr
    obtain ⟨b1, b2, b3⟩ := CP_XS hd1
    rw [b2, bind_s, b3, bind_s]
    refine ok_call (sz_mode (CP_SZ hd1) (CP_liv hd1) md) (fun d2 hd2 => ok_some ?_)
    obtain ⟨s1, s2⟩ := hd2
    obtain ⟨⟨g0, g1⟩, g2⟩ := GI_wt h2 h3 hq hd1 (Nat.le_refl _) s1 s2
    obtain ⟨ν0, n1, n2, n3⟩ := sr_keep d2 m h2.1
    have hm2 : m_X12_mode (wr d2 m μ) m (nI md) = some (1, wr d2 m (mu0 ν0 (va_up (ν0.1 0) 15 (nI md)))) := by
      unfold m_X12_mode
      rw [e2, show nI 3 - (1 : Int32) = nI 3 - (1 : Int32) from rfl, show (0 : Int32) = (0 : Int32) from rfl]
      rw [isn_in hm (by omega), bind_s, if_neg ne10, wr_rcv, bind_s, n1, bind_s, wr_g0, bind_s, show (15 : Int32) = nI 15 from rfl, wr_u0 d2 m ν0 (by omega), bind_s]
      rfl
    rw [← g1] at hm2
    refine ⟨g0, _, hm2, ?_⟩
    have hg := g2 (mu0 ν0 (va_up (ν0.1 0) 15 (nI md))) ν0 c (K + (0 + r.2.2.1)) (S + (0 + r.2.2.2)) n2 n3 (Kp_mu0 ν0 (fun j hj => up_n _ _ _ (by omega))) ?_ (IV_mode hv.1 hm) (NI_mono hv.2 (by omega)) (Nat.le_refl _) (by omega) (CST_other h4 hcq (by omega) (by omega))
    · show GI (nx + (0 + r.2.2.1)) _ _ _ _ _ _
      rw [Nat.zero_add]
      rw [Nat.zero_add] at hg
      exact hg
    · show RR ((mu0 ν0 (va_up (ν0.1 0) 15 (nI md))).1 0) (ν0.2.2.1 2) (modV W.2.2 md)
      rw [mu0_a]
      exact RR_num n2.2.2.2.2.1 (by decide) md
  · refine gos_no h0 hq (v := 0) ?_ ?_
    · unfold m_X11_mode
      by_cases hn : p < 0
      · rw [if_pos hn]
      · rw [if_neg hn, if_neg (show ¬ p < (3 : Int32) from Int32.not_lt.mpr (nrg (N := 3) (by omega) hp hn))]
    · show m_X12_mode ce m p = _
      unfold m_X12_mode
      rw [e2, isn_out hp (by omega), bind_s, if_pos rfl]
theorem g_aim (h : GI nx ce m fx q K S) (hq : q < 512) (p : Int32) : GoS nx m fx q K S (m_X11_aim nx ce (fx 0) p) (fun d => m_X12_aim d m p) := by
  have h0 := h
  obtain ⟨own, A, B, T, κ, κb, κt, sp, W, Wb, z, μ, c, h1, h2, h3, h4⟩ := h
  have hv := h3.2.2 W.2.2 (Or.inl rfl)
  have hcq := h3.1
  obtain ⟨a1, a2, a3⟩ := CP_XS h1
  obtain ⟨_, mp, m1, m2⟩ := CP_SZ h1
  obtain ⟨aa, Af, m3, m4, _⟩ := cm_aims m2
  have hna := hv.1.1.2.2.2.2.2.1
  have h7 : ∀ (c2 : Ce) (ν : MS), RV ν W.2.2 → aI (wr c2 m ν) (m + 1) (7 : Int32) = some (nI W.2.2.1.2.2.2.1) := fun c2 ν hr => by rw [rd_7]; exact congrArg some hr.1.2.2.2.1
  by_cases hp : Inr W.2.2.1.2.2.2.1 p
  · obtain ⟨w, hw, rfl⟩ := hp
    refine gos_ok ?_
    unfold m_X11_aim m_X5_hasAim
    rw [a2, bind_s, a3, bind_s, m1, bind_s, cm_rcv m2, bind_s, if_neg (nI_pos (by omega)), m3, bind_s, m4, bind_s, if_le (by omega) (by omega), if_neg (by omega), bind_s, if_neg ne10, bind_s, CP_w7 h1, bind_s]
    refine ok_adcB (ok_mono (g_rem h1 hv.1) (fun r hr => ?_))
    obtain ⟨r1, r2, own1, k1, hd1⟩ := hr
    obtain ⟨b1, b2, b3⟩ := CP_XS hd1
    rw [b2, bind_s, b3, bind_s, ss_rcv (CP_SZ hd1).1, bind_s]
    refine ok_call (sz_tellAim (CP_SZ hd1) (CP_liv hd1) (IV_fr hv.1) w) (fun d2 hd2 => ok_some ?_)
    obtain ⟨A2, s1, s2⟩ := hd2
    obtain ⟨⟨g0, g1⟩, g2⟩ := GI_wt h2 h3 hq hd1 (Nat.le_refl _) s1 s2
    obtain ⟨ν0, n1, n2, n3⟩ := sr_keep d2.2 m h2.1
    obtain ⟨ν, n4, n5, n6⟩ := sr_aimAt d2.2 m n2.2.2.2.2.1 w
    have hm2 : m_X12_aim (wr d2.2 m μ) m (nI w) = some (1, wr d2.2 m ν) := by
      unfold m_X12_aim
      rw [wr_g0, bind_s, h7 d2.2 μ (REF_RV h2), bind_s, isn_in hw (by omega), bind_s, if_neg ne10, wr_rcv, bind_s, n1, bind_s, wr_rcv, bind_s, n4, bind_s]
    rw [← g1] at hm2
    refine ⟨g0, _, hm2, ?_⟩
    have hg := g2 ν ν0 c (K + (0 + r.2.2.1)) (S + (0 + r.2.2.2)) n2 n3 n6 n5 (IV_aim hv.1 hw) (NI_mono (NI_aim hv.2 w) (by omega)) (Nat.le_refl _) (by omega) (CST_other h4 hcq (by omega) (by omega))
    show GI (nx + (0 + r.2.2.1)) _ _ _ _ _ _
    rw [Nat.zero_add]
    rw [Nat.zero_add] at hg
    exact hg
  · refine gos_no h0 hq (v := 0) ?_ ?_
    · unfold m_X11_aim m_X5_hasAim
      rw [a2, bind_s, a3, bind_s, m1, bind_s, cm_rcv m2, bind_s]
      by_cases hn : p < 0
      · rw [if_pos hn, bind_s, if_pos rfl]
      · rw [if_neg hn, m3, bind_s, m4, bind_s, if_pos (nrg (by omega) hp hn), bind_s, if_pos rfl]
    · show m_X12_aim ce m p = _
      have e : m_X12_aim (wr ce m μ) m p = some (0, wr ce m μ) := by
        unfold m_X12_aim
        rw [wr_g0, bind_s, h7 ce μ (REF_RV h2), bind_s, isn_out hp (by omega), bind_s, if_pos rfl]
      rw [← CP_h h1] at e
      exact e
theorem g_step (h : GI nx ce m fx q K S) (hq : q < 512) (p : Int32) : GoS nx m fx q K S (m_X11_step nx ce (fx 0) p) (fun d => m_X12_step d m p) := by
  have h0 := h
  obtain ⟨own, A, B, T, κ, κb, κt, sp, W, Wb, z, μ, c, h1, h2, h3, h4⟩ := h
  have hv := h3.2.2 W.2.2 (Or.inl rfl)
  have hcq := h3.1
  obtain ⟨a1, a2, a3⟩ := CP_XS h1
  have h5 : W.2.2.2.1 5 < 5 := hv.1.2.2.1.1
  have no : ∀ v : Int32, m_X11_step nx ce (fx 0) p = some (v, ce, 0, 0) → m_X12_step (wr ce m μ) m p = some (v, wr ce m μ) → GoS nx m fx q K S (m_X11_step nx ce (fx 0) p) (fun d => m_X12_step d m p) := fun v e1 e2 => by
    rw [← CP_h h1] at e2
    exact gos_no h0 hq e1 e2
  by_cases p1 : p < 1
  · refine no (-1) ?_ ?_
    · unfold m_X11_step
      rw [if_pos p1]
    · unfold m_X12_step
      rw [sr_isin1, bind_s, if_pos p1, if_pos rfl]
  · have hp0 : ¬ p < 0 := fun z => p1 (Int32.lt_trans z (by decide))
    obtain ⟨k, hk, rfl⟩ := nI_of hp0
    by_cases p5 : nI k ≤ (500 : Int32)
    · have hk5 : k ≤ 500 := (nI_leI (b := 500) hk (by omega)).mp p5
      by_cases ov : W.2.2.2.1 5 < 3
      · refine gos_ok ?_
        unfold m_X11_step
        rw [if_neg p1, if_neg (Int32.not_lt.mpr p5), a2, bind_s, a3, bind_s, ss_rcv (CP_SZ h1).1, bind_s, ss_isOver (CP_SZ h1).1 h5, if_pos ov, bind_s, if_pos rfl, bind_s, CP_w7 h1, bind_s]
        refine ok_adcB (ok_mono (g_rem h1 hv.1) (fun r hr => ?_))
        obtain ⟨r1, r2, own1, k1, hd1⟩ := hr
        obtain ⟨b1, b2, b3⟩ := CP_XS hd1
        rw [b2, bind_s, b3, bind_s, ss_rcv (CP_SZ hd1).1, bind_s]
        refine ok_adcB (ok_mono (sz_goOn (CP_SZ hd1) (CP_liv hd1) hv.1 hv.2 (k := k) (by omega) (by omega)) (fun y hy => ok_some ?_))
        obtain ⟨y1, A2, κ2, y2, y3, y4, y5⟩ := hy
        obtain ⟨⟨g0, g1⟩, g2⟩ := GI_wt h2 h3 hq hd1 (Nat.le_add_right _ _) y2 y3
        obtain ⟨ν0, n1, n2, n3⟩ := sr_keep y.2.1 m h2.1
        obtain ⟨_, n4, ν, rfl, n5, n6⟩ := rr_stepsNow y.2.1 m (Al_IV (c := c) (g := 500 * q) (k := k) (by omega)) ν0 n2.2.2.2.2.1 ⟨hv.1, hv.2⟩ (by omega)
        have hs := steps_IV k (500 * q) W.2.2 hv.1 hv.2
        have hm2 : m_X12_step (wr y.2.1 m μ) m (nI k) = some (y.1, wr y.2.1 m ν) := by
          unfold m_X12_step
          rw [sr_isin1, bind_s, if_neg p1, if_pos p5, if_neg ne10, wr_rcv, bind_s, sr_isOver y.2.1 m μ (show W.2.2.2.1 5 < 2 ^ 31 by omega) ((REF_RV h2).2.1 5 (by decide)), if_pos ov, bind_s, if_pos rfl, bind_s, n1, bind_s, wr_rcv, bind_s, n4, bind_s, y1]
        rw [← g1] at hm2
        refine ⟨g0, _, hm2, ?_⟩
        have hg := g2 ν ν0 c (K + (0 + y.2.2.1 + r.2.2.1)) (S + (0 + y.2.2.2 + r.2.2.2)) n2 n3 n6 n5 hs.1 (NI_mono hs.2.1 (by omega)) (Nat.le_refl _) (by omega) (CST_other h4 hcq (by omega) (by omega))
        show GI (nx + (0 + y.2.2.1 + r.2.2.1)) _ _ _ _ _ _
        rw [show nx + (0 + y.2.2.1 + r.2.2.1) = nx + r.2.2.1 + y.2.2.1 by omega]
        exact hg
      · refine no (-1) ?_ ?_
        · unfold m_X11_step
          rw [if_neg p1, if_neg (Int32.not_lt.mpr p5), a2, bind_s, a3, bind_s, ss_rcv (CP_SZ h1).1, bind_s, ss_isOver (CP_SZ h1).1 h5, if_neg ov, bind_s, if_neg ne10]
        · unfold m_X12_step
          rw [sr_isin1, bind_s, if_neg p1, if_pos p5, if_neg ne10, wr_rcv, bind_s, sr_isOver ce m μ (show W.2.2.2.1 5 < 2 ^ 31 by omega) ((REF_RV h2).2.1 5 (by decide)), if_neg ov, bind_s, if_neg ne10]
    · refine no (-1) ?_ ?_
      · unfold m_X11_step
        rw [if_neg p1, if_pos (Int32.not_le.mp p5)]
      · unfold m_X12_step
        rw [sr_isin1, bind_s, if_neg p1, if_neg p5, if_pos rfl]
end
