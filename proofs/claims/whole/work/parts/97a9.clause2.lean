/-! CLAUSES of the reference: init, bad; a clause whole -/
theorem sr_formsOf (T : Nat) : m_X12_formsOf (nI T) = some (nI (29 * T)) := by
  unfold m_X12_formsOf
  rw [show (29 : Int32) = nI 29 from rfl, pk_mul]
theorem sr_initM (c : Ce) (m : Nat) {μ : MS} {T n j : Nat} {τ : TS} {f : Nat → Nat} (hT : T < 4) (h : TT μ T τ f n j) (hK : tK f n j = 7) (fi : Bool) : CM ((gI (wr c m μ) 9 21 m).bind fun zx8 => if zx8 = 0 then (pZ (wr c m μ) 9 21 m (1 : Int32)).bind fun zc9 => (rcv zc9 9 m).bind fun zz10 => (m_X12_nextToken zc9 m).bind fun zq11 => (m_X12_formsOf (nI T)).bind fun zx12 => (rcv zq11.2 9 m).bind fun zz13 => (m_X12_formAt zq11.2 m zx12 (0 : Int32)).bind fun zq14 => some ((Sum.inr zq14.1, zq14.2)) else some ((Sum.inl (4 : Int32), wr c m μ))) c m T μ f n (pB (tK f n) (tV f n) fi τ j) := by
  have hn := h.1.2.1
  obtain ⟨⟨u1, u2, u3, u4⟩, u5, u6, ⟨u7, u8, u9⟩, u10, u11⟩ := h.2.2
  unfold pB
  rw [if_neg (show ¬ tK f n j = 6 by omega), if_pos hK, wr_g21, bind_s, u5]
  by_cases hi : τ.2.1 = true
  · rw [if_pos hi, if_pos hi, if_neg ne10]
    exact CM_l _ μ _ rfl (Or.inl rfl) (KR_refl T μ) h.2.1 (Nat.le_of_ble_eq_true rfl) (Nat.le_of_ble_eq_true rfl)
  · rw [if_neg hi, if_neg hi, if_pos rfl, wr_z21 c m μ _ (Or.inr rfl), bind_s, wr_rcv, bind_s]
    have k1 := KR_n T μ (r := 12) (1 : Int32) (by omega) (by omega)
    have hTT : TT (muN μ 12 1) T (τ.1, true, τ.2.2) f n j := ⟨Byt_r h.1 k1, At_k h.2.1 (fun r r1 r2 => mn_n _ _ (by omega)), ⟨u1, u2, (mn_n _ _ (by decide)).trans u3, u4⟩, mn_e _ _ _, u6, ⟨u7, u8, u9⟩, (mn_n _ _ (by decide)).trans u10, u11⟩
    obtain ⟨ρ, b1, b2, b3⟩ := TT_next c m hTT
    have hj2 : j + 1 ≤ 300 := j_300 (f := f) (j := j) hn (by omega)
    obtain ⟨g1, g2⟩ := sr_formAt c m (kk := 29 * T) (nx := false) b3.1 b3.2.1 b3.2.2.1.2.2.1 u2 hj2 (by rw [if_neg (by decide)]; omega)
    rw [b1, bind_s, sr_formsOf, bind_s, wr_rcv, bind_s]
    have kr : KR T μ ρ := KR_trans k1 (KR_G b2)
    generalize hw : pF (tK f n) (tV f n) τ.1 false 64 0 0 (j + 1) = w
    cases w with
    | inl w =>
      obtain ⟨σ, d1, d2, d3, d4, d5, d6, d7⟩ := g1 w hw
      have d1 : m_X12_formAt (wr c m ρ) m (nI (29 * T)) (0 : Int32) = _ := d1
      rw [d1, bind_s]
      exact CM_l w σ _ rfl (Or.inr rfl) (KR_trans kr (KR_I d2 (fun q _ => by rw [d3]))) d4 d6 d7
    | inr w =>
      obtain ⟨σ, d1, d2, d3, d4, d5, d6⟩ := g2 w hw
      have d1 : m_X12_formAt (wr c m ρ) m (nI (29 * T)) (0 : Int32) = _ := d1
      rw [d1, bind_s]
      rw [if_neg (by decide)] at d5 d6
      obtain ⟨⟨v1, v2, v3, v4⟩, v5, v6, ⟨v7, v8, v9⟩, v10, v11⟩ := b3.2.2
      refine CM_r _ σ rfl (KR_trans kr (KR_I d2 (fun q hq => d6 q (by omega)))) ⟨Byt_i b3.1 d2, d3, ⟨u1, u2, (d2.2.2.2 10 (by omega) (by decide)).trans v3, ?_⟩, (d2.2.2.2 12 (by omega) (by decide)).trans v5, ?_, ⟨v7, ?_, fun i hi => ?_⟩, (d2.2.2.2 13 (by omega) (by decide)).trans v10, fun q hq => ?_⟩ d4
      · rw [d2.1 4 (by decide)]
        exact v4
      · exact d5 0 (by omega)
      · rw [d2.1 4 (by decide)]
        exact v8
      · rw [d6 _ (by omega)]
        exact v9 i hi
      · rw [d6 _ (by omega)]
        exact v11 q hq
theorem sr_badM (c : Ce) (m : Nat) {μ : MS} {T n j : Nat} {τ : TS} {f : Nat → Nat} (hT : T < 4) (h : TT μ T τ f n j) (hK : tK f n j = 8) (fi : Bool) : CM ((gA (wr c m μ) 9 4 m).bind fun zx15 => (aI (wr c m μ) zx15 (((2 : Int32) * nI T) + (1 : Int32))).bind fun zx16 => if zx16 = (4 : Int32) then some ((Sum.inl (4 : Int32), wr c m μ)) else (rcv (wr c m μ) 9 m).bind fun zz17 => (m_X12_nextToken (wr c m μ) m).bind fun zq18 => (m_X12_formsOf (nI T)).bind fun zx19 => (gA zq18.2 9 4 m).bind fun zx20 => (aI zq18.2 zx20 (((2 : Int32) * nI T) + (1 : Int32))).bind fun zx21 => (rcv zq18.2 9 m).bind fun zz22 => (m_X12_formAt zq18.2 m ((zx19 + (1 : Int32)) + zx21) (0 : Int32)).bind fun zq23 => (gA zq23.2 9 4 m).bind fun zx24 => (aI zq23.2 zx24 (((2 : Int32) * nI T) + (1 : Int32))).bind fun zx25 => (sI zq23.2 zx24 (((2 : Int32) * nI T) + (1 : Int32)) (zx25 + (1 : Int32))).bind fun zc26 => some ((Sum.inr zq23.1, zc26))) c m T μ f n (pB (tK f n) (tV f n) fi τ j) := by
  have hn := h.1.2.1
  obtain ⟨⟨u1, u2, u3, u4⟩, u5, u6, ⟨u7, u8, u9⟩, u10, u11⟩ := h.2.2
  unfold pB
  have e21 : ((2 : Int32) * nI T) + (1 : Int32) = nI (2 * T + 1) := by rw [nl_2, pk_mul, nI_1]
  rw [if_neg (show ¬ tK f n j = 6 by omega), if_neg (show ¬ tK f n j = 7 by omega), if_pos hK, wr_g4, bind_s, e21, wr_b4 c m μ (by omega), bind_s, u8, if_l 4 (4 : Int32) rfl (by omega) (by omega)]
  by_cases hb : τ.2.2.2.1 = 4
  · rw [if_pos hb, if_pos hb]
    exact CM_l _ μ _ rfl (Or.inl rfl) (KR_refl T μ) h.2.1 (Nat.le_of_ble_eq_true rfl) (Nat.le_of_ble_eq_true rfl)
  · rw [if_neg hb, if_neg hb, wr_rcv, bind_s]
    obtain ⟨ρ, b1, b2, b3⟩ := TT_next c m h
    have hj2 : j + 1 ≤ 300 := j_300 (f := f) (j := j) hn (by omega)
    obtain ⟨g1, g2⟩ := sr_formAt c m (kk := 29 * T + 1 + τ.2.2.2.1) (nx := false) b3.1 b3.2.1 b3.2.2.1.2.2.1 u2 hj2 (by rw [if_neg (by decide)]; omega)
    obtain ⟨⟨v1, v2, v3, v4⟩, v5, v6, ⟨v7, v8, v9⟩, v10, v11⟩ := b3.2.2
    rw [b1, bind_s, sr_formsOf, bind_s, wr_g4, bind_s, wr_b4 c m ρ (by omega), bind_s, v8, wr_rcv, bind_s, nI_1, nI_add]
    generalize hw : pF (tK f n) (tV f n) τ.1 false 64 0 0 (j + 1) = w
    cases w with
    | inl w =>
      obtain ⟨σ, d1, d2, d3, d4, d5, d6, d7⟩ := g1 w hw
      have d1 : m_X12_formAt (wr c m ρ) m (nI (29 * T + 1 + τ.2.2.2.1)) (0 : Int32) = _ := d1
      rw [d1, bind_s, wr_g4, bind_s, wr_b4 c m σ (by omega), bind_s, wr_w4 c m σ (by omega), bind_s]
      exact CM_l w _ _ rfl (Or.inr rfl) (KR_trans (KR_G b2) (KR_trans (KR_I d2 (fun q _ => by rw [d3])) (KR_4 T σ _ (Or.inr rfl)))) (At_k d4 (fun _ _ _ => rfl)) d6 d7
    | inr w =>
      obtain ⟨σ, d1, d2, d3, d4, d5, d6⟩ := g2 w hw
      have d1 : m_X12_formAt (wr c m ρ) m (nI (29 * T + 1 + τ.2.2.2.1)) (0 : Int32) = _ := d1
      rw [if_neg (by decide)] at d5 d6
      have e4 : σ.1 4 (2 * T + 1) = nI τ.2.2.2.1 := by
        rw [d2.1 4 (by decide)]
        exact v8
      rw [d1, bind_s, wr_g4, bind_s, wr_b4 c m σ (by omega), bind_s, e4, nI_1, wr_w4 c m σ (by omega), bind_s]
      refine CM_r _ _ rfl (KR_trans (KR_G b2) (KR_trans (KR_I d2 (fun q hq => d6 q (by omega))) (KR_4 T σ _ (Or.inr rfl)))) ⟨Byt_r (Byt_i b3.1 d2) (KR_4 T σ _ (Or.inr rfl)), At_k d3 (fun _ _ _ => rfl), ⟨u1, u2, (d2.2.2.2 10 (by omega) (by decide)).trans v3, ?_⟩, (d2.2.2.2 12 (by omega) (by decide)).trans v5, ?_, ⟨?_, ?_, fun i hi => ?_⟩, (d2.2.2.2 13 (by omega) (by decide)).trans v10, fun q hq => ?_⟩ d4
      · rw [mI_e, up_n _ _ _ (by omega), d2.1 4 (by decide)]
        exact v4
      · show σ.2.1 5 (29 * T) = _
        rw [d6 _ (by omega)]
        exact v6
      · show τ.2.2.2.1 + 1 ≤ 4
        omega
      · rw [mI_e, up_e]
      · have hi : i < τ.2.2.2.1 + 1 ∨ i = 0 := hi
        show σ.2.1 5 (29 * T + 1 + i) = va_up τ.2.2.2.2.1 τ.2.2.2.1 (w.1 0) i
        by_cases e : i = τ.2.2.2.1
        · rw [e, up_e]
          exact d5 0 (by omega)
        · rw [up_n _ _ _ e, d6 _ (by omega)]
          exact v9 i (by omega)
      · show σ.2.1 5 (29 * T + 5 + q) = _
        rw [d6 _ (by omega)]
        exact v11 q hq
theorem if_tn9 {α : Type} {μ : MS} {f : Nat → Nat} {n j : Nat} (h : At μ f n j) (x y : α) : (if μ.2.2.2 5 = (203 : Int32) then x else y) = if tK f n j = 9 then x else y := by
  have hr := rk_lt (K := tK f n j) (V := tV f n j) tK_5
  rw [h.2.2.1, if_l 203 (203 : Int32) rfl (by omega) (by omega)]
  have h9 : tK f n j ≤ 9 := by
    unfold tK tkK
    generalize tkq f n (ps f n j) = q
    split
    · split
      · omega
      · split
        · unfold lk
          split
          · split
            · omega
            · split <;> omega
          · unfold wk
            split
            · omega
            · split
              · omega
              · split
                · omega
                · split <;> omega
        · split <;> omega
    · omega
  have e : rk (tK f n j) (tV f n j) = 203 ↔ tK f n j = 9 := by
    have hG := fun z => isG_r (tK_5 (f := f) (n := n) (j := j) z)
    generalize tK f n j = K at hG h9 ⊢
    generalize tV f n j = V at hG ⊢
    rcases K with _ | _ | _ | _ | _ | _ | _ | _ | _ | K
    · show 0 = 203 ↔ 0 = 9
      omega
    · show 2 = 203 ↔ 1 = 9
      omega
    · show 204 = 203 ↔ 2 = 9
      omega
    · show 205 = 203 ↔ 3 = 9
      omega
    · show 1 = 203 ↔ 4 = 9
      omega
    · have := hG rfl
      show V = 203 ↔ 5 = 9
      omega
    · show 200 = 203 ↔ 6 = 9
      omega
    · show 201 = 203 ↔ 7 = 9
      omega
    · show 202 = 203 ↔ 8 = 9
      omega
    · show 203 = 203 ↔ K + 9 = 9
      omega
  by_cases hc : tK f n j = 9
  · rw [if_pos hc, if_pos (e.mpr hc)]
  · rw [if_neg hc, if_neg (fun z => hc (e.mp z))]
theorem sr_mid (c : Ce) (m : Nat) {μ : MS} {T n j : Nat} {τ : TS} {f : Nat → Nat} (hT : T < 4) (h : TT μ T τ f n j) {cnt : Nat} (hc : cnt < 2 ^ 31) : CM (clM (wr c m μ) m (nI T) (nI cnt) (μ.2.2.2 5)) c m T μ f n (pB (tK f n) (tV f n) (decide (cnt = 0)) τ j) := by
  have hA := h.2.1
  unfold clM
  rw [if_tn hA 200 (200 : Int32) rfl 6 rfl (by decide) (by decide) (by decide), if_tn hA 201 (201 : Int32) rfl 7 rfl (by decide) (by decide) (by decide), if_tn hA 202 (202 : Int32) rfl 8 rfl (by decide) (by decide) (by decide), if_tn9 hA]
  by_cases k6 : tK f n j = 6
  · rw [if_pos k6, wr_rcv, bind_s]
    exact CM_E (sr_letC c m hT h k6 hc)
  · rw [if_neg k6]
    by_cases k7 : tK f n j = 7
    · rw [if_pos k7]
      exact sr_initM c m hT h k7 _
    · rw [if_neg k7]
      by_cases k8 : tK f n j = 8
      · rw [if_pos k8]
        exact sr_badM c m hT h k8 _
      · rw [if_neg k8]
        by_cases k9 : tK f n j = 9
        · rw [if_pos k9, wr_rcv, bind_s]
          exact CM_E (sr_nextC c m hT h k9 _)
        · rw [if_neg k9]
          unfold pB
          rw [if_neg k6, if_neg k7, if_neg k8, if_neg k9]
          exact CM_l _ μ _ rfl (Or.inr rfl) (KR_refl T μ) hA (Nat.le_of_ble_eq_true rfl) (Nat.le_of_ble_eq_true rfl)
theorem sr_clause (c : Ce) (m : Nat) {μ : MS} {T n j : Nat} {τ : TS} {f : Nat → Nat} (hT : T < 4) (h : TT μ T τ f n j) {cnt : Nat} (hc : cnt < 2 ^ 31) : CE (m_X12_clause (wr c m μ) m (nI T) (nI cnt)) c m T μ f n (pC (tK f n) (tV f n) (decide (cnt = 0)) τ j) := by
  have hm := sr_mid c m hT h hc
  rw [sr_clause0, wr_g12, bind_s]
  unfold pC
  generalize pB (tK f n) (tV f n) (decide (cnt = 0)) τ j = w at hm
  cases w with
  | inl e =>
    obtain ⟨ν, w, h1, h2, h3, h4, h5, h6⟩ := hm
    refine CE_l e ν ?_ h3 h4 h5 h6
    rw [h1, bind_s]
    rcases h2 with rfl | rfl
    · rfl
    · show (if nI e.1 = 0 then _ else some (nI e.1, wr c m ν)) = _
      rw [if_neg (nI_ne0 h5 (by omega))]
  | inr y =>
    obtain ⟨ν, h1, h2, h3, h4⟩ := hm
    have hn := h.1.2.1
    rw [h1, bind_s]
    have e0 : clT m (Sum.inr 0, wr c m ν) = if tK f n y.2 = 5 ∧ tV f n y.2 = 59 then (rcv (wr c m ν) 9 m).bind fun zz4 => (m_X12_nextToken (wr c m ν) m).bind fun zq5 => some ((0 : Int32), zq5.2) else some ((1 : Int32), wr c m ν) := by
      show (if (0 : Int32) = 0 then (gI (wr c m ν) 9 12 m).bind fun zx3 => if zx3 = (59 : Int32) then (rcv (wr c m ν) 9 m).bind fun zz4 => (m_X12_nextToken (wr c m ν) m).bind fun zq5 => some ((0 : Int32), zq5.2) else some ((1 : Int32), wr c m ν) else some ((0 : Int32), wr c m ν)) = _
      rw [if_pos rfl, wr_g12, bind_s, if_tk h3.2.1 59 (59 : Int32) rfl (by decide) (by decide)]
    rw [e0]
    show CE _ c m T μ f n (if tK f n y.2 = 5 ∧ tV f n y.2 = 59 then .inr (y.1, y.2 + 1) else .inl (1, y.2))
    by_cases e59 : tK f n y.2 = 5 ∧ tV f n y.2 = 59
    · rw [if_pos e59, if_pos e59]
      obtain ⟨ρ, b1, b2, b3⟩ := TT_next c m h3
      rw [wr_rcv, bind_s, b1, bind_s]
      exact CE_r _ ρ rfl (KR_trans h2 (KR_G b2)) b3 (j_300 (f := f) (j := y.2) hn (by omega))
    · rw [if_neg e59, if_neg e59]
      exact CE_l _ ν rfl h2 h3.2.1 (Nat.le_of_ble_eq_true rfl) (Nat.le_of_ble_eq_true rfl)
