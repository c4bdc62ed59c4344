/-! A TEXT is read: the reference, whole -/
theorem TX_of {μ : MS} {T : Nat} {τ : TS} (h : TU μ T τ) {na : Nat} (hna : μ.1 4 (2 * T + 1) = nI na) (hle : na ≤ max 1 τ.2.2.2.1) : TX μ T τ.1 τ.2.2.1 na τ.2.2.2.2.1 τ.2.2.2.2.2.2 := by
  obtain ⟨⟨u1, u2, u3, u4⟩, u5, u6, ⟨u7, u8, u9⟩, u10, u11⟩ := h
  refine ⟨⟨u4, hna⟩, u6, fun i hi => u9 i (by omega), fun l i hl hi => ?_⟩
  have := u11 (4 * l + i) (by omega)
  rw [show 29 * T + 5 + (4 * l + i) = 29 * T + 5 + 4 * l + i by omega] at this
  exact this
theorem sr_readText (c : Ce) (m : Nat) {μ : MS} {T n : Nat} {f : Nat → Nat} (hB : Byt μ n f) (hT : T < 4) (h0 : μ.1 0 0 = nI T) : (∀ e, pT (tK f n) (tV f n) 300 true τ0 0 = .inl e → ∃ ν, m_X12_readText (wr c m μ) m = some (nI e.1, wr c m ν) ∧ KR T μ ν ∧ ν.2.2.2 4 = nI (tP f n e.2) ∧ 0 < e.1 ∧ e.1 < 7) ∧ (∀ σ, pT (tK f n) (tV f n) 300 true τ0 0 = .inr σ → ∃ ν, m_X12_readText (wr c m μ) m = some (0, wr c m ν) ∧ KR T μ ν ∧ TX ν T σ.1 σ.2.2.1 (max 1 σ.2.2.2.1) σ.2.2.2.2.1 σ.2.2.2.2.2.2 ∧ 1 ≤ σ.1 ∧ σ.1 ≤ 6 ∧ σ.2.2.2.1 ≤ 4) := by
  have hn := hB.2.1
  have e2 : (2 : Int32) * nI T = nI (2 * T) := by rw [nl_2, pk_mul]
  have fin : Ok (m_X12_readText (wr c m μ) m) (fun o => (∀ e, pT (tK f n) (tV f n) 300 true τ0 0 = .inl e → ∃ ν, o = (nI e.1, wr c m ν) ∧ KR T μ ν ∧ ν.2.2.2 4 = nI (tP f n e.2) ∧ 0 < e.1 ∧ e.1 < 7) ∧ (∀ σ, pT (tK f n) (tV f n) 300 true τ0 0 = .inr σ → ∃ ν, o = (0, wr c m ν) ∧ KR T μ ν ∧ TX ν T σ.1 σ.2.2.1 (max 1 σ.2.2.2.1) σ.2.2.2.2.1 σ.2.2.2.2.2.2 ∧ 1 ≤ σ.1 ∧ σ.1 ≤ 6 ∧ σ.2.2.2.1 ≤ 4)) := by
    unfold m_X12_readText
    rw [wr_g0, bind_s, show aI (wr c m μ) (m + 1) (0 : Int32) = some (μ.1 0 0) from wr_a0 c m μ (k := 0) (by omega), bind_s, h0, sr_formsOf, bind_s, wr_g4, bind_s, e2, wr_w4 c m μ (by omega), bind_s, wr_g4, bind_s, nI_1, wr_w4 c m _ (by omega), bind_s, wr_n19, bind_s, wr_z21 c m _ _ (Or.inl rfl), bind_s, wr_n22, bind_s, wr_g5, bind_s, wr_w5 c m _ (by omega), bind_s, wr_g5, bind_s, nI_1, wr_w5 c m _ (by omega), bind_s]
    have k1 := KR_4 T μ (k := 2 * T) (3 : Int32) (Or.inl rfl)
    generalize hν1 : muI μ 4 (va_up (μ.1 4) (2 * T) (3 : Int32)) = ν1 at k1 ⊢
    have k2 := KR_4 T ν1 (k := 2 * T + 1) (0 : Int32) (Or.inr rfl)
    have t1 : (muI ν1 4 (va_up (ν1.1 4) (2 * T + 1) 0)).1 4 (2 * T) = nI 3 := by
      rw [mI_e, up_n _ _ _ (by omega), ← hν1, mI_e, up_e]
      rfl
    have t2 : (muI ν1 4 (va_up (ν1.1 4) (2 * T + 1) 0)).1 4 (2 * T + 1) = 0 := by rw [mI_e, up_e]
    generalize muI ν1 4 (va_up (ν1.1 4) (2 * T + 1) 0) = ν2 at k2 t1 t2 ⊢
    have k3 : KR T ν2 (muN (muN (muN ν2 10 3) 12 0) 13 0) := KR_trans (KR_n T _ _ (by omega) (by omega)) (KR_trans (KR_n T _ _ (by omega) (by omega)) (KR_n T _ _ (by omega) (by omega)))
    have n10 : (muN (muN (muN ν2 10 3) 12 0) 13 0).2.2.2 10 = nI 3 := ((mn_n _ _ (by decide)).trans (mn_n _ _ (by decide))).trans (mn_e _ _ _)
    have n12 : (muN (muN (muN ν2 10 3) 12 0) 13 0).2.2.2 12 = 0 := (mn_n _ _ (by decide)).trans (mn_e _ _ _)
    have n13 : (muN (muN (muN ν2 10 3) 12 0) 13 0).2.2.2 13 = 0 := mn_e _ _ _
    have i4 : (muN (muN (muN ν2 10 3) 12 0) 13 0).1 = ν2.1 := rfl
    generalize muN (muN (muN ν2 10 3) 12 0) 13 0 = ν3 at k3 n10 n12 n13 i4 ⊢
    have k4 : KR T ν3 (muL (muL ν3 5 (va_up (ν3.2.1 5) (29 * T) 1)) 5 (va_up ((muL ν3 5 (va_up (ν3.2.1 5) (29 * T) 1)).2.1 5) (29 * T + 1) 0)) := KR_trans (KR_5 T _ _ (by omega)) (KR_5 T _ _ (by omega))
    have l0 : (muL (muL ν3 5 (va_up (ν3.2.1 5) (29 * T) 1)) 5 (va_up ((muL ν3 5 (va_up (ν3.2.1 5) (29 * T) 1)).2.1 5) (29 * T + 1) 0)).2.1 5 (29 * T) = 1 := by rw [mL_e, up_n _ _ _ (by omega), mL_e, up_e]
    have l1 : (muL (muL ν3 5 (va_up (ν3.2.1 5) (29 * T) 1)) 5 (va_up ((muL ν3 5 (va_up (ν3.2.1 5) (29 * T) 1)).2.1 5) (29 * T + 1) 0)).2.1 5 (29 * T + 1) = 0 := by rw [mL_e, up_e]
    have i4b : (muL (muL ν3 5 (va_up (ν3.2.1 5) (29 * T) 1)) 5 (va_up ((muL ν3 5 (va_up (ν3.2.1 5) (29 * T) 1)).2.1 5) (29 * T + 1) 0)).1 = ν3.1 := rfl
    have nn : (muL (muL ν3 5 (va_up (ν3.2.1 5) (29 * T) 1)) 5 (va_up ((muL ν3 5 (va_up (ν3.2.1 5) (29 * T) 1)).2.1 5) (29 * T + 1) 0)).2.2.2 = ν3.2.2.2 := rfl
    generalize muL (muL ν3 5 (va_up (ν3.2.1 5) (29 * T) 1)) 5 (va_up ((muL ν3 5 (va_up (ν3.2.1 5) (29 * T) 1)).2.1 5) (29 * T + 1) 0) = ν4 at k4 l0 l1 i4b nn ⊢
    refine ok_call (sr_lay c m hT ν4) (fun o h => ?_)
    obtain ⟨ν, q0, q1, q2, q3, q4, q5⟩ := h
    have kk : KR T μ ν := KR_trans k1 (KR_trans k2 (KR_trans k3 (KR_trans k4 q3)))
    have kz : KR T μ (muN ν 3 0) := KR_trans kk (KR_n T ν _ (by omega) (by omega))
    rw [q0, wr_n10, bind_s, wr_rcv, bind_s]
    obtain ⟨ρ, r1, r2, r3, r4, r5⟩ := sr_token c m (k := 0) (Byt_r hB kz) (mn_e _ _ _) (Nat.zero_le _)
    have hU : TU ν T τ0 := by
      refine ⟨⟨by decide, by decide, ?_, ?_⟩, ?_, ?_, ⟨by decide, ?_, fun i hi => ?_⟩, ?_, q4⟩
      · rw [q2, nn]
        exact n10
      · rw [q1, i4b, i4]
        exact t1
      · rw [q2, nn]
        exact n12
      · rw [q5 _ (by omega)]
        exact l0
      · rw [q1, i4b, i4]
        exact t2
      · have hi : i < 0 ∨ i = 0 := hi
        have : i = 0 := by omega
        subst this
        rw [q5 _ (by omega)]
        exact l1
      · rw [q2, nn]
        exact n13
    have hU2 : TU (muN ν 3 0) T τ0 := TU_k hU rfl rfl (fun r hr => mn_n _ _ (by omega))
    have hTT : TT ρ T τ0 f n 0 := ⟨Byt_k (Byt_r hB kz) r2, ⟨r3, r4, r5⟩, TU_G hU2 (KG_N r2)⟩
    have hrt := sr_rt c m hn hT 300 0 τ0 0 ρ FU hTT (by omega) (by omega) (lt_FU (by omega))
    have kr : KR T μ ρ := KR_trans kz (KR_G (KG_N r2))
    rw [r1, bind_s]
    show Ok ((it (rtB m (nI T)) FU (nI 0, wr c m ρ)).bind _) _
    rw [show decide (0 = 0) = true from rfl] at hrt
    generalize hw : pT (tK f n) (tV f n) 300 true τ0 0 = w at hrt
    cases w with
    | inl e =>
      obtain ⟨σ, a1, a2, a3, a4, a5⟩ := hrt.1 e rfl
      rw [a1, bind_s, Sum.elim_inl]
      refine ok_some ⟨fun e2 he => ?_, fun s hs => (by cases hs)⟩
      cases he
      exact ⟨σ, rfl, KR_trans kr a2, a3.2.1, a4, a5⟩
    | inr s =>
      obtain ⟨σ, a1, a2, a3⟩ := hrt.2 s rfl
      obtain ⟨⟨u1, u2, u3, u4⟩, u5, u6, ⟨u7, u8, u9⟩, u10, u11⟩ := id a3
      rw [a1, bind_s, Sum.elim_inr, wr_g4, bind_s, wr_b4 c m σ (by omega), bind_s, u8, if_l 0 (0 : Int32) rfl (by omega) (by omega)]
      by_cases nb : s.2.2.2.1 = 0
      · rw [if_pos nb, bind_s, wr_w4 c m σ (by omega), bind_s]
        refine ok_some ⟨fun e2 he => (by cases he), fun s2 hs => ?_⟩
        cases hs
        refine ⟨_, rfl, KR_trans kr (KR_trans a2 (KR_4 T σ _ (Or.inr rfl))), ?_, u1, u2, u7⟩
        rw [show max 1 s.2.2.2.1 = 1 by omega]
        refine ⟨⟨?_, ?_⟩, u6, fun i hi => u9 i (by omega), fun l i hl hi => ?_⟩
        · rw [mI_e, up_n _ _ _ (by omega)]
          exact u4
        · rw [mI_e, up_e]
          rfl
        · have := u11 (4 * l + i) (by omega)
          rw [show 29 * T + 5 + (4 * l + i) = 29 * T + 5 + 4 * l + i by omega] at this
          exact this
      · rw [if_neg nb]
        refine ok_some ⟨fun e2 he => (by cases he), fun s2 hs => ?_⟩
        cases hs
        refine ⟨σ, rfl, KR_trans kr a2, ?_, u1, u2, u7⟩
        rw [show max 1 s.2.2.2.1 = s.2.2.2.1 by omega]
        exact TX_of a3 u8 (by omega)
  obtain ⟨o, hv, g1, g2⟩ := fin
  refine ⟨fun e he => ?_, fun s hs => ?_⟩
  · obtain ⟨ν, rfl, h2⟩ := g1 e he
    exact ⟨ν, hv, h2⟩
  · obtain ⟨ν, rfl, h2⟩ := g2 s hs
    exact ⟨ν, hv, h2⟩
