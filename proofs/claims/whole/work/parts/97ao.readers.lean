/-! THE WHOLE: readers -/
section
variable {ce d : Ce} {nx nx2 m : Nat} {own own2 fx A B T A2 T2 : Nat → Nat} {κ κb κt κ2 : Nat × Nat × Nat} {sp : Nat × Nat × Nat × Nat} {W Wb : Wv} {z : Tx5} {μ : MS} {q K S : Nat}
theorem CP_XS (h : CP ce nx m own fx A B T κ κb κt sp W Wb z μ) : rcv ce 8 (fx 0) = some () ∧ gA ce 8 6 (fx 0) = some (fx 8) ∧ gA ce 7 4 (fx 8) = some (A 0) := by
  obtain ⟨h1, h2, _, ⟨w1, tp, pp, ⟨T, P, w2, _⟩, _⟩, _⟩ := h
  exact ⟨rcv_c h2.1, gA_c h2.1 rfl, gA_c w2 rfl⟩
theorem CP_X (h : CP ce nx m own fx A B T κ κb κt sp W Wb z μ) : XS ce (fx 0) A := ⟨(CP_XS h).1, fx 8, (CP_XS h).2⟩
theorem CP_SZ (h : CP ce nx m own fx A B T κ κb κt sp W Wb z μ) : SZ ce nx (Zo own nx) A κ W.2.2 := by
  obtain ⟨h1, h2, _, ⟨w1, tp, pp, w2, w3, _⟩, _⟩ := h
  exact w3
theorem CP_h (h : CP ce nx m own fx A B T κ κb κt sp W Wb z μ) : ce = wr ce m μ := h.2.2.2.2.2.2.2
theorem GI_rd (h : GI nx ce m fx q K S) : ∃ A κ V μ c, XS ce (fx 0) A ∧ SS ce nx A κ V ∧ RV μ V ∧ IV c V ∧ NI (500 * q) V.2.1 ∧ Wk V ∧ ce = wr ce m μ ∧ q ≤ 512 := by
  obtain ⟨own, A, B, T, κ, κb, κt, sp, W, Wb, z, μ, c, h1, h2, h3, h4⟩ := h
  have hv := h3.2.2 W.2.2 (Or.inl rfl)
  have hq := h3.2.1
  exact ⟨A, κ, W.2.2, μ, c, CP_X h1, (CP_SZ h1).1, REF_RV h2, hv.1, hv.2, IV_Wk hv.1 hv.2 (by omega), CP_h h1, hq⟩
theorem g_is (h : GI nx ce m fx q K S) (p : Int32) : Both (m_X11_is ce (fx 0) p) (m_X12_is ce m p) := by
  obtain ⟨A, κ, V, μ, c, a1, a2, a3, a4, a5, a6, a7, a8⟩ := GI_rd h
  have e := e_is (c := ce) (m := m) a1 a2 a3 a4 p
  rw [← a7] at e
  exact e
theorem g_successor (h : GI nx ce m fx q K S) (p q0 : Int32) : Both (m_X11_successor ce (fx 0) p q0) (m_X12_successor ce m p q0) := by
  obtain ⟨A, κ, V, μ, c, a1, a2, a3, a4, a5, a6, a7, a8⟩ := GI_rd h
  have e := e_successor (c := ce) (m := m) a1 a2 a3 p q0
  rw [← a7] at e
  exact e
theorem g_leads (h : GI nx ce m fx q K S) (p q0 : Int32) : Both (m_X11_leads ce (fx 0) p q0) (m_X12_leads ce m p q0) := by
  obtain ⟨A, κ, V, μ, c, a1, a2, a3, a4, a5, a6, a7, a8⟩ := GI_rd h
  have e := e_leads (c := ce) (m := m) a1 a2 a3 p q0
  rw [← a7] at e
  exact e
theorem g_of (h : GI nx ce m fx q K S) (p q0 : Int32) : Both (m_X11_of ce (fx 0) p q0) (m_X12_of ce m p q0) := by
  obtain ⟨A, κ, V, μ, c, a1, a2, a3, a4, a5, a6, a7, a8⟩ := GI_rd h
  have e := e_of (c := ce) (m := m) (j := 0) a1 a2 a3 p q0
  rw [← a7] at e
  exact e
theorem g_within (h : GI nx ce m fx q K S) (p q0 : Int32) : Both (m_X11_within ce (fx 0) p q0) (m_X12_within ce m p q0) := by
  obtain ⟨A, κ, V, μ, c, a1, a2, a3, a4, a5, a6, a7, a8⟩ := GI_rd h
  have e := e_within (c := ce) (m := m) a1 a2 a3 a4 p q0
  rw [← a7] at e
  exact e
theorem g_wide (h : GI nx ce m fx q K S) (p : Int32) : Both (m_X11_wide ce (fx 0) p) (m_X12_wide ce m p) := by
  obtain ⟨A, κ, V, μ, c, a1, a2, a3, a4, a5, a6, a7, a8⟩ := GI_rd h
  have e := e_wide (c := ce) (m := m) a1 a2 a3 a4 p
  rw [← a7] at e
  exact e
theorem g_bad (h : GI nx ce m fx q K S) (p : Int32) : Both (m_X11_bad ce (fx 0) p) (m_X12_bad ce m p) := by
  obtain ⟨A, κ, V, μ, c, a1, a2, a3, a4, a5, a6, a7, a8⟩ := GI_rd h
  have e := e_bad (c := ce) (m := m) a1 a2 a3 a4 p
  rw [← a7] at e
  exact e
theorem g_sought (h : GI nx ce m fx q K S) (p : Int32) : Both (m_X11_sought ce (fx 0) p) (m_X12_sought ce m p) := by
  obtain ⟨A, κ, V, μ, c, a1, a2, a3, a4, a5, a6, a7, a8⟩ := GI_rd h
  have e := e_sought (c := ce) (m := m) a1 a2 a3 a4 p
  rw [← a7] at e
  exact e
theorem g_weight (h : GI nx ce m fx q K S) (p : Int32) : Both (m_X11_weight ce (fx 0) p) (m_X12_weight ce m p) := by
  obtain ⟨A, κ, V, μ, c, a1, a2, a3, a4, a5, a6, a7, a8⟩ := GI_rd h
  have e := e_weight (c := ce) (m := m) a1 a2 a3 a4 p
  rw [← a7] at e
  exact e
theorem g_cube (h : GI nx ce m fx q K S) (p q0 r : Int32) : Both (m_X11_cube ce (fx 0) p q0 r) (m_X12_cube ce m p q0 r) := by
  obtain ⟨A, κ, V, μ, c, a1, a2, a3, a4, a5, a6, a7, a8⟩ := GI_rd h
  have e := e_cube (c := ce) (m := m) a1 a2 a3 a4 p q0 r
  rw [← a7] at e
  exact e
theorem g_obligation (h : GI nx ce m fx q K S) (p q0 : Int32) : Both (m_X11_obligation ce (fx 0) p q0) (m_X12_obligation ce m p q0) := by
  obtain ⟨A, κ, V, μ, c, a1, a2, a3, a4, a5, a6, a7, a8⟩ := GI_rd h
  have e := e_obligation (c := ce) (m := m) a1 a2 a3 a6 p q0
  rw [← a7] at e
  exact e
theorem g_activity (h : GI nx ce m fx q K S) (p : Int32) : Both (m_X11_activity ce (fx 0) p) (m_X12_activity ce m p) := by
  obtain ⟨A, κ, V, μ, c, a1, a2, a3, a4, a5, a6, a7, a8⟩ := GI_rd h
  have e := e_activity (c := ce) (m := m) a1 a2 a3 a4 p
  rw [← a7] at e
  exact e
theorem g_holds (h : GI nx ce m fx q K S) (p q0 r : Int32) : Both (m_X11_holds ce (fx 0) p q0 r) (m_X12_holds ce m p q0 r) := by
  obtain ⟨A, κ, V, μ, c, a1, a2, a3, a4, a5, a6, a7, a8⟩ := GI_rd h
  have e := e_holds (c := ce) (m := m) a1 a2 a3 a4 p q0 r
  rw [← a7] at e
  exact e
theorem g_ahead (h : GI nx ce m fx q K S) (p q0 : Int32) : Both (m_X11_ahead ce (fx 0) p q0) (m_X12_ahead ce m p q0) := by
  obtain ⟨A, κ, V, μ, c, a1, a2, a3, a4, a5, a6, a7, a8⟩ := GI_rd h
  have e := e_ahead (c := ce) (m := m) a1 a2 a3 a4 p q0
  rw [← a7] at e
  exact e
theorem g_distance (h : GI nx ce m fx q K S) (p : Int32) : Both (m_X11_distance ce (fx 0) p) (m_X12_distance ce m p) := by
  obtain ⟨A, κ, V, μ, c, a1, a2, a3, a4, a5, a6, a7, a8⟩ := GI_rd h
  have e := e_distance (c := ce) (m := m) a1 a2 a3 p
  rw [← a7] at e
  exact e
theorem g_distanceBy (h : GI nx ce m fx q K S) (p q0 : Int32) : Both (m_X11_distanceBy ce (fx 0) p q0) (m_X12_distanceBy ce m p q0) := by
  obtain ⟨A, κ, V, μ, c, a1, a2, a3, a4, a5, a6, a7, a8⟩ := GI_rd h
  have e := e_distanceBy (c := ce) (m := m) a1 a2 a3 p q0
  rw [← a7] at e
  exact e
theorem g_far (h : GI nx ce m fx q K S) (p : Int32) : Both (m_X11_far ce (fx 0) p) (m_X12_far ce m p) := by
  obtain ⟨A, κ, V, μ, c, a1, a2, a3, a4, a5, a6, a7, a8⟩ := GI_rd h
  have e := e_far (c := ce) (m := m) a1 a2 a3 a4.2.2.1.2.1 p
  rw [← a7] at e
  exact e
theorem g_doomed (h : GI nx ce m fx q K S) (p : Int32) : Both (m_X11_doomed ce (fx 0) p) (m_X12_doomed ce m p) := by
  obtain ⟨A, κ, V, μ, c, a1, a2, a3, a4, a5, a6, a7, a8⟩ := GI_rd h
  have e := e_doomed (c := ce) (m := m) a1 a2 a3 a4.2.2.1.2.1 p
  rw [← a7] at e
  exact e
theorem g_nearest (h : GI nx ce m fx q K S) : Both (m_X11_nearest ce (fx 0)) (m_X12_nearest ce m) := by
  obtain ⟨A, κ, V, μ, c, a1, a2, a3, a4, a5, a6, a7, a8⟩ := GI_rd h
  have e := e_nearest (c := ce) (m := m) a1 a2 a3 a4.2.2.1.2.1
  rw [← a7] at e
  exact e
theorem g_reach (h : GI nx ce m fx q K S) (p : Int32) : Both (m_X11_reach ce (fx 0) p) (m_X12_reach ce m p) := by
  obtain ⟨A, κ, V, μ, c, a1, a2, a3, a4, a5, a6, a7, a8⟩ := GI_rd h
  have e := e_reach (c := ce) (m := m) a1 a2 a3 p
  rw [← a7] at e
  exact e
theorem g_slack (h : GI nx ce m fx q K S) (p : Int32) : Both (m_X11_slack ce (fx 0) p) (m_X12_slack ce m p) := by
  obtain ⟨A, κ, V, μ, c, a1, a2, a3, a4, a5, a6, a7, a8⟩ := GI_rd h
  have e := e_slack (c := ce) (m := m) a1 a2 a3 a4 p
  rw [← a7] at e
  exact e
theorem g_claimed (h : GI nx ce m fx q K S) (p q0 : Int32) : Both (m_X11_claimed ce (fx 0) p q0) (m_X12_claimed ce m p q0) := by
  obtain ⟨A, κ, V, μ, c, a1, a2, a3, a4, a5, a6, a7, a8⟩ := GI_rd h
  have e := e_claimed (c := ce) (m := m) (j := 0) a1 a2 a3 p q0
  rw [← a7] at e
  exact e
theorem g_mean (h : GI nx ce m fx q K S) : Both (m_X11_mean ce (fx 0)) (m_X12_mean ce m) := by
  obtain ⟨A, κ, V, μ, c, a1, a2, a3, a4, a5, a6, a7, a8⟩ := GI_rd h
  have e := e_mean (c := ce) (m := m) a1 a2 a3 a5 (by omega)
  rw [← a7] at e
  exact e
theorem g_fault (h : GI nx ce m fx q K S) (p : Int32) : Both (m_X11_fault ce (fx 0) p) (m_X12_fault ce m p) := by
  obtain ⟨own, A, B, T, κ, κb, κt, sp, W, Wb, z, μ, c, h1, h2, h3, h4⟩ := h
  have e := e_fault (c := ce) (m := m) h1.2.1.1 h2.2.2.2.2.1 p
  rw [← CP_h h1] at e
  exact e
theorem g_about (h : GI nx ce m fx q K S) (p : Int32) : Both (m_X11_about ce (fx 0) p) (m_X12_about ce m p) := by
  obtain ⟨own, A, B, T, κ, κb, κt, sp, W, Wb, z, μ, c, h1, h2, h3, h4⟩ := h
  have hz : gI ce 8 1 (fx 0) = some (μ.2.2.2 0) := by
    rw [h2.2.2.2.1.1]
    exact gI_c h1.2.1.1 rfl
  obtain ⟨w1, tp, pp, w2, w3, w4, w5⟩ := h1.2.2.2.1
  have e := e_about (c := ce) (m := m) (CP_XS h1).2.1 (CP_XS h1).2.2 w3.1 h2.1 w2 w4.1 w5.1 hz p
  rw [← CP_h h1] at e
  exact e
theorem GI_kp (h1 : CP ce nx m own fx A B T κ κb κt sp W Wb z μ) (h2 : REF μ W Wb z) {c : Nat} (h3 : CNT c q W Wb) (h4 : CST c q K S κ κb κt sp.2.2.2) (hq : q < 512) {ν : MS} (k : KQ μ ν) (ha : AR (ν.1 0) (ν.2.2.1 2) W) : GI nx (wr ce m ν) m fx (q + 1) K S := ⟨own, A, B, T, κ, κb, κt, sp, W, Wb, z, ν, c, CP_wr h1 ν, REF_kq h2 k ha rfl, CNT_next h3 hq, CST_other (k := 0) (s := 0) h4 h3.1 (by omega) (by omega)⟩
theorem AR_y {ν : MS} (h : AR (μ.1 0) (μ.2.2.1 2) W) (k : KY μ ν) : AR (ν.1 0) (ν.2.2.1 2) W := by
  rw [k.1 0 (by decide), k.2.2.1]
  exact h
theorem g_judged (h : GI nx ce m fx q K S) (hq : q < 512) (p : Int32) : ∃ v e, m_X11_judged ce (fx 0) p = some v ∧ m_X12_judged ce m p = some (v, e) ∧ GI nx e m fx (q + 1) K S := by
  obtain ⟨own, A, B, T, κ, κb, κt, sp, W, Wb, z, μ, c, h1, h2, h3, h4⟩ := h
  have hv := h3.2.2 W.2.2 (Or.inl rfl)
  obtain ⟨v, ν, e1, e2, e3⟩ := e_judged (c := ce) (m := m) (CP_X h1) (CP_SZ h1).1 (REF_RV h2) hv.1 p
  rw [← CP_h h1] at e2
  exact ⟨v, _, e1, e2, GI_kp h1 h2 h3 h4 hq (KQ_j e3) (AR_kp h2.1 (KJ_Kp e3) (KJ_RV e3 (REF_RV h2)))⟩
theorem g_witness (h : GI nx ce m fx q K S) (hq : q < 512) (p : Int32) : ∃ v e, m_X11_witness ce (fx 0) p = some v ∧ m_X12_witness ce m p = some (v, e) ∧ GI nx e m fx (q + 1) K S := by
  obtain ⟨own, A, B, T, κ, κb, κt, sp, W, Wb, z, μ, c, h1, h2, h3, h4⟩ := h
  have hv := h3.2.2 W.2.2 (Or.inl rfl)
  obtain ⟨v, ν, e1, e2, e3⟩ := e_witness (c := ce) (m := m) (CP_X h1) (CP_SZ h1).1 (REF_RV h2) hv.1 p
  rw [← CP_h h1] at e2
  exact ⟨v, _, e1, e2, GI_kp h1 h2 h3 h4 hq (KQ_j e3) (AR_kp h2.1 (KJ_Kp e3) (KJ_RV e3 (REF_RV h2)))⟩
theorem g_inside (h : GI nx ce m fx q K S) (hq : q < 512) (p : Int32) : ∃ v e, m_X11_inside ce (fx 0) p = some v ∧ m_X12_inside ce m p = some (v, e) ∧ GI nx e m fx (q + 1) K S := by
  obtain ⟨own, A, B, T, κ, κb, κt, sp, W, Wb, z, μ, c, h1, h2, h3, h4⟩ := h
  have hv := h3.2.2 W.2.2 (Or.inl rfl)
  obtain ⟨v, ν, e1, e2, e3⟩ := e_inside (c := ce) (m := m) (CP_X h1) (CP_SZ h1).1 (REF_RV h2) hv.1 p
  rw [← CP_h h1] at e2
  exact ⟨v, _, e1, e2, GI_kp h1 h2 h3 h4 hq (KQ_j e3) (AR_kp h2.1 (KJ_Kp e3) (KJ_RV e3 (REF_RV h2)))⟩
theorem g_fence (h : GI nx ce m fx q K S) (hq : q < 512) (p q0 : Int32) : ∃ v e, m_X11_fence ce (fx 0) p q0 = some v ∧ m_X12_fence ce m p q0 = some (v, e) ∧ GI nx e m fx (q + 1) K S := by
  obtain ⟨own, A, B, T, κ, κb, κt, sp, W, Wb, z, μ, c, h1, h2, h3, h4⟩ := h
  have hv := h3.2.2 W.2.2 (Or.inl rfl)
  obtain ⟨v, ν, e1, e2, e3⟩ := e_fence (c := ce) (m := m) (CP_X h1) (CP_SZ h1).1 (REF_RV h2) hv.1 p q0
  rw [← CP_h h1] at e2
  exact ⟨v, _, e1, e2, GI_kp h1 h2 h3 h4 hq (KQ_j e3) (AR_kp h2.1 (KJ_Kp e3) (KJ_RV e3 (REF_RV h2)))⟩
theorem g_order (h : GI nx ce m fx q K S) (hq : q < 512) (p : Int32) : ∃ v e, m_X11_order ce (fx 0) p = some v ∧ m_X12_order ce m p = some (v, e) ∧ GI nx e m fx (q + 1) K S := by
  obtain ⟨own, A, B, T, κ, κb, κt, sp, W, Wb, z, μ, c, h1, h2, h3, h4⟩ := h
  have hv := h3.2.2 W.2.2 (Or.inl rfl)
  obtain ⟨v, ν, e1, e2, e3, e4⟩ := e_order (c := ce) (m := m) (CP_X h1) (CP_SZ h1).1 (REF_RV h2) (IV_Wk hv.1 hv.2 (by omega)) p
  rw [← CP_h h1] at e2
  exact ⟨v, _, e1, e2, GI_kp h1 h2 h3 h4 hq (KQ_p e4) (AR_kp h2.1 e4 e3)⟩
theorem CP_pt (h1 : CP ce nx m own fx A B T κ κb κt sp W Wb z μ) (hd : ∀ b, b ≠ fx 17 → b ≠ fx 19 → d b = ce b) (hP : PTF d fx) : CP d nx m own fx A B T κ κb κt sp W Wb z μ := by
  have ho := h1.1
  have hx : ∀ k, k < 17 → d (fx k) = ce (fx k) := fun k hk => hd _ (fx_ne ho (by omega) (by omega) (by omega)) (fx_ne ho (by omega) (by omega) (by omega))
  refine CP_fx h1 (fun b hb ht => hd b (fun e => ?_) (fun e => ?_)) (XCL_fr h1.2.1 (hx 0 (by omega)) (hx 1 (by omega))) (RDF_fr h1.2.2.1.1 (fun k _ _ => hx k (by omega))) (CHF_fr h1.2.2.1.2.1 (hx 14 (by omega)) (hx 15 (by omega)) (hx 16 (by omega))) hP
  · have := (ho.1 17 (by omega)).1
    rw [e] at ht
    omega
  · have := (ho.1 19 (by omega)).1
    rw [e] at ht
    omega
theorem CP_apt (h1 : CP ce nx m own fx A B T κ κb κt sp W Wb z μ) : Apt ce nx (Zo own nx) A (fx 0) (fx 8) (fx 17) := by
  have ho := h1.1
  have w1 := h1.2.2.2.1.1
  exact ⟨CP_XS h1, ⟨gA_c h1.2.1.1 rfl, h1.2.2.1.2.2.1⟩, ⟨fx_ne ho (by omega) (by omega) (by omega), fx_ne ho (by omega) (by omega) (by omega), fun i hi e => fx_off ho w1 (by omega) (i := 17) (by omega) i hi e.symm, fun hz => fx_z ho (i := 17) (by omega) hz rfl⟩, Tg_liv w1 (by decide)⟩
theorem CP_aft (h1 : CP ce nx m own fx A B T κ κb κt sp W Wb z μ) : Aft ce (Zo own nx) A (fx 0) (fx 8) (fx 17) (fx 19) := by
  have ho := h1.1
  have w1 := h1.2.2.2.1.1
  exact ⟨⟨gA_c h1.2.1.1 rfl, h1.2.2.1.2.2.2⟩, fx_ne ho (by omega) (by omega) (by omega), fx_ne ho (by omega) (by omega) (by omega), fx_ne ho (by omega) (by omega) (by omega), fun i hi e => fx_off ho w1 (by omega) (i := 19) (by omega) i hi e.symm, fun hz => fx_z ho (i := 19) (by omega) hz rfl⟩
theorem g_trace (h : GI nx ce m fx q K S) (hq : q < 512) (p q0 : Int32) : ∃ v d e, m_X11_trace ce (fx 0) p q0 = some (v, d) ∧ rcv d 9 m = some () ∧ m_X12_trace d m p q0 = some (v, e) ∧ GI nx e m fx (q + 1) K S := by
  obtain ⟨own, A, B, T, κ, κb, κt, sp, W, Wb, z, μ, c, h1, h2, h3, h4⟩ := h
  have hv := h3.2.2 W.2.2 (Or.inl rfl)
  obtain ⟨v, d, ν, e1, e2, e3, e4, e5⟩ := e_trace (c := ce) (m := m) (CP_apt h1) (CP_SZ h1) (REF_RV h2) hv.1 (IV_Wk hv.1 hv.2 (by omega)) p q0
  have hd := CP_pt h1 (fun b hb _ => e2 b hb) ⟨e3, (h1.2.2.1.2.2.2).imp fun Q hQ => (e2 (fx 19) (fx_ne h1.1 (by omega) (by omega) (by omega))).trans hQ⟩
  obtain ⟨v2, d2, ν2, f1, f2, f3, f4, f5⟩ := e_trace (c := d) (m := m) (CP_apt h1) (CP_SZ h1) (REF_RV h2) hv.1 (IV_Wk hv.1 hv.2 (by omega)) p q0
  rw [e1] at f1
  cases f1
  rw [← CP_h hd] at f4
  exact ⟨v, d, _, e1, by rw [CP_h hd]; exact wr_rcv _ _ _, f4, GI_kp hd h2 h3 h4 hq (KQ_y f5) (AR_y h2.1 f5)⟩
theorem g_shortest (h : GI nx ce m fx q K S) (hq : q < 512) (p q0 : Int32) : ∃ v d e, m_X11_shortest ce (fx 0) p q0 = some (v, d) ∧ rcv d 9 m = some () ∧ m_X12_shortest d m p q0 = some (v, e) ∧ GI nx e m fx (q + 1) K S := by
  obtain ⟨own, A, B, T, κ, κb, κt, sp, W, Wb, z, μ, c, h1, h2, h3, h4⟩ := h
  have hv := h3.2.2 W.2.2 (Or.inl rfl)
  obtain ⟨v, d, ν, e1, e2, e3, e4, e5⟩ := e_shortest (c := ce) (m := m) (CP_apt h1) (CP_aft h1) (CP_SZ h1) (REF_RV h2) hv.1 p q0
  have hd := CP_pt h1 e2 e3
  obtain ⟨v2, d2, ν2, f1, f2, f3, f4, f5⟩ := e_shortest (c := d) (m := m) (CP_apt h1) (CP_aft h1) (CP_SZ h1) (REF_RV h2) hv.1 p q0
  rw [e1] at f1
  cases f1
  rw [← CP_h hd] at f4
  exact ⟨v, d, _, e1, by rw [CP_h hd]; exact wr_rcv _ _ _, f4, GI_kp hd h2 h3 h4 hq (KQ_y f5) (AR_y h2.1 f5)⟩
theorem g_detour (h : GI nx ce m fx q K S) (hq : q < 512) : ∃ v d e, m_X11_detour ce (fx 0) = some (v, d) ∧ rcv d 9 m = some () ∧ m_X12_detour d m = some (v, e) ∧ GI nx e m fx (q + 1) K S := by
  obtain ⟨own, A, B, T, κ, κb, κt, sp, W, Wb, z, μ, c, h1, h2, h3, h4⟩ := h
  have hv := h3.2.2 W.2.2 (Or.inl rfl)
  obtain ⟨v, d, ν, e1, e2, e3, e4, e5⟩ := e_detour (c := ce) (m := m) (CP_apt h1) (CP_aft h1) (CP_SZ h1) (REF_RV h2) hv.1 (IV_Wk hv.1 hv.2 (by omega))
  have hd := CP_pt h1 e2 e3
  obtain ⟨v2, d2, ν2, f1, f2, f3, f4, f5⟩ := e_detour (c := d) (m := m) (CP_apt h1) (CP_aft h1) (CP_SZ h1) (REF_RV h2) hv.1 (IV_Wk hv.1 hv.2 (by omega))
  rw [e1] at f1
  cases f1
  rw [← CP_h hd] at f4
  exact ⟨v, d, _, e1, by rw [CP_h hd]; exact wr_rcv _ _ _, f4, GI_kp hd h2 h3 h4 hq (KQ_y f5) (AR_y h2.1 f5)⟩
end
