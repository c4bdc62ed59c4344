/-! CLAUSES of the reference -/
def TT (μ : MS) (T : Nat) (τ : TS) (f : Nat → Nat) (n j : Nat) : Prop := Byt μ n f ∧ At μ f n j ∧ TU μ T τ
theorem TT_next (c : Ce) (m : Nat) {μ : MS} {T n j : Nat} {τ : TS} {f : Nat → Nat} (h : TT μ T τ f n j) : ∃ ν, m_X12_nextToken (wr c m μ) m = some ((), wr c m ν) ∧ KG μ ν ∧ TT ν T τ f n (j + 1) := by
  obtain ⟨ν, q1, q2, q3⟩ := sr_next c m h.1 h.2.1
  exact ⟨ν, q1, KG_N q2, Byt_k h.1 q2, q3, TU_G h.2.2 (KG_N q2)⟩
def CE (run : Option (Int32 × Ce)) (c : Ce) (m T : Nat) (μ : MS) (f : Nat → Nat) (n : Nat) (res : CR) : Prop := match res with
  | .inl e => ∃ ν, run = some (nI e.1, wr c m ν) ∧ KR T μ ν ∧ At ν f n e.2 ∧ 0 < e.1 ∧ e.1 < 7
  | .inr y => ∃ ν, run = some (0, wr c m ν) ∧ KR T μ ν ∧ TT ν T y.1 f n y.2 ∧ y.2 ≤ 300
theorem CE_l {run : Option (Int32 × Ce)} {c : Ce} {m T : Nat} {μ : MS} {f : Nat → Nat} {n : Nat} (e : Nat × Nat) (ν : MS) (h1 : run = some (nI e.1, wr c m ν)) (h2 : KR T μ ν) (h3 : At ν f n e.2) (h4 : 0 < e.1) (h5 : e.1 < 7) : CE run c m T μ f n (.inl e) := ⟨ν, h1, h2, h3, h4, h5⟩
theorem CE_r {run : Option (Int32 × Ce)} {c : Ce} {m T : Nat} {μ : MS} {f : Nat → Nat} {n : Nat} (y : TS × Nat) (ν : MS) (h1 : run = some (0, wr c m ν)) (h2 : KR T μ ν) (h3 : TT ν T y.1 f n y.2) (h4 : y.2 ≤ 300) : CE run c m T μ f n (.inr y) := ⟨ν, h1, h2, h3, h4⟩
def CM (run : Option ((Int32 ⊕ Int32) × Ce)) (c : Ce) (m T : Nat) (μ : MS) (f : Nat → Nat) (n : Nat) (res : CR) : Prop := match res with
  | .inl e => ∃ ν w, run = some (w, wr c m ν) ∧ (w = .inl (nI e.1) ∨ w = .inr (nI e.1)) ∧ KR T μ ν ∧ At ν f n e.2 ∧ 0 < e.1 ∧ e.1 < 7
  | .inr y => ∃ ν, run = some (.inr 0, wr c m ν) ∧ KR T μ ν ∧ TT ν T y.1 f n y.2 ∧ y.2 ≤ 300
theorem CM_l {run : Option ((Int32 ⊕ Int32) × Ce)} {c : Ce} {m T : Nat} {μ : MS} {f : Nat → Nat} {n : Nat} (e : Nat × Nat) (ν : MS) (w : Int32 ⊕ Int32) (h1 : run = some (w, wr c m ν)) (hw : w = .inl (nI e.1) ∨ w = .inr (nI e.1)) (h2 : KR T μ ν) (h3 : At ν f n e.2) (h4 : 0 < e.1) (h5 : e.1 < 7) : CM run c m T μ f n (.inl e) := ⟨ν, w, h1, hw, h2, h3, h4, h5⟩
theorem CM_r {run : Option ((Int32 ⊕ Int32) × Ce)} {c : Ce} {m T : Nat} {μ : MS} {f : Nat → Nat} {n : Nat} (y : TS × Nat) (ν : MS) (h1 : run = some (.inr 0, wr c m ν)) (h2 : KR T μ ν) (h3 : TT ν T y.1 f n y.2) (h4 : y.2 ≤ 300) : CM run c m T μ f n (.inr y) := ⟨ν, h1, h2, h3, h4⟩
theorem CM_E {run : Option (Int32 × Ce)} {c : Ce} {m T : Nat} {μ : MS} {f : Nat → Nat} {n : Nat} {res : CR} (h : CE run c m T μ f n res) : CM (run.bind fun zq => some ((Sum.inr zq.1 : Int32 ⊕ Int32), zq.2)) c m T μ f n res := by
  cases res with
  | inl e =>
    obtain ⟨ν, h1, h2, h3, h4, h5⟩ := h
    exact CM_l e ν (.inr (nI e.1)) (by rw [h1, bind_s]) (Or.inr rfl) h2 h3 h4 h5
  | inr y =>
    obtain ⟨ν, h1, h2, h3, h4⟩ := h
    exact CM_r y ν (by rw [h1, bind_s]) h2 h3 h4
theorem j_300 {f : Nat → Nat} {n j : Nat} (hn : n ≤ 300) (h : tK f n j ≠ 0) : j + 1 ≤ 300 := by
  refine Classical.byContradiction fun z => h (tK_300 (f := f) hn j (by omega))
theorem sr_letC (c : Ce) (m : Nat) {μ : MS} {T n j : Nat} {τ : TS} {f : Nat → Nat} (hT : T < 4) (h : TT μ T τ f n j) (hK : tK f n j = 6) {cnt : Nat} (hc : cnt < 2 ^ 31) : CE (m_X12_lettersClause (wr c m μ) m (nI T) (nI cnt)) c m T μ f n (pB (tK f n) (tV f n) (decide (cnt = 0)) τ j) := by
  have hn := h.1.2.1
  unfold pB
  rw [if_pos hK]
  unfold m_X12_lettersClause
  by_cases c0 : cnt = 0
  · subst c0
    rw [if_pos (show nI 0 ≤ 0 by decide), if_pos (show decide (0 = 0) = true by rfl)]
    obtain ⟨ν, a1, a2, a3⟩ := TT_next c m h
    rw [wr_rcv, bind_s, a1, bind_s, wr_g12, bind_s, if_tn a3.2.1 1 (1 : Int32) rfl 4 rfl (by decide) (by decide) (by decide)]
    by_cases k4 : tK f n (j + 1) = 4
    · rw [if_pos k4, if_pos k4]
      obtain ⟨w, w1, w2, w3⟩ := num_in a3.2.1 k4
      rw [wr_g13, bind_s, w2, sr_isIn, bind_s]
      have e1 : ((1 : Int32) ≤ nI w ∧ nI w ≤ (6 : Int32)) ↔ (1 ≤ tV f n (j + 1) ∧ tV f n (j + 1) ≤ 6) := by
        have i1 : (1 : Int32) ≤ nI w ↔ 1 ≤ w := nI_leI (a := 1) (by omega) (by omega)
        have i2 : nI w ≤ (6 : Int32) ↔ w ≤ 6 := nI_leI (b := 6) (by omega) (by omega)
        rw [i1, i2]
        omega
      by_cases v6 : 1 ≤ tV f n (j + 1) ∧ tV f n (j + 1) ≤ 6
      · have ew : w = tV f n (j + 1) := by omega
        rw [if_pos (e1.mpr v6), if_pos v6, if_neg ne10, bind_s, wr_n19, bind_s, wr_g4, bind_s, wr_g13, bind_s, mn_n _ _ (show 6 ≠ 10 by decide), w2, nl_2, pk_mul, wr_w4 c m _ (by omega), bind_s, wr_rcv, bind_s]
        have kr : KR T ν (muI (muN ν 10 (nI w)) 4 (va_up ((muN ν 10 (nI w)).1 4) (2 * T) (nI w))) := KR_trans (KR_n T ν _ (by omega) (by omega)) (KR_4 T _ _ (Or.inl rfl))
        obtain ⟨⟨u1, u2, u3, u4⟩, u5, u6, ⟨u7, u8, u9⟩, u10, u11⟩ := a3.2.2
        have hTT : TT (muI (muN ν 10 (nI w)) 4 (va_up ((muN ν 10 (nI w)).1 4) (2 * T) (nI w))) T (tV f n (j + 1), τ.2) f n (j + 1) := by
          refine ⟨Byt_r a3.1 kr, At_k a3.2.1 (fun r r1 r2 => mn_n _ _ (by omega)), ⟨v6.1, v6.2, ?_, ?_⟩, ?_, u6, ⟨u7, ?_, u9⟩, ?_, u11⟩
          · rw [← ew]
            exact mn_e _ _ _
          · rw [mI_e, up_e, ew]
          · exact (mn_n _ _ (by decide)).trans u5
          · rw [mI_e, up_n _ _ _ (by omega)]
            exact u8
          · exact (mn_n _ _ (by decide)).trans u10
        obtain ⟨ρ, b1, b2, b3⟩ := TT_next c m hTT
        rw [b1, bind_s]
        exact CE_r _ ρ rfl (KR_trans (KR_G a2) (KR_trans kr (KR_G b2))) b3 (j_300 (f := f) (j := j + 1) hn (by omega))
      · rw [if_neg (fun z => v6 (e1.mp z)), if_neg v6, if_pos rfl]
        exact CE_l _ ν rfl (KR_G a2) a3.2.1 (Nat.le_of_ble_eq_true rfl) (Nat.le_of_ble_eq_true rfl)
    · rw [if_neg k4, if_neg k4]
      exact CE_l _ ν rfl (KR_G a2) a3.2.1 (Nat.le_of_ble_eq_true rfl) (Nat.le_of_ble_eq_true rfl)
  · rw [if_neg (nI_nle (by omega) hc), if_neg (show ¬ decide (cnt = 0) = true by simpa using c0)]
    exact CE_l _ μ rfl (KR_refl T μ) h.2.1 (Nat.le_of_ble_eq_true rfl) (Nat.le_of_ble_eq_true rfl)
theorem sr_nextC (c : Ce) (m : Nat) {μ : MS} {T n j : Nat} {τ : TS} {f : Nat → Nat} (hT : T < 4) (h : TT μ T τ f n j) (hK : tK f n j = 9) (fi : Bool) : CE (m_X12_nextClause (wr c m μ) m (nI T)) c m T μ f n (pB (tK f n) (tV f n) fi τ j) := by
  have hn := h.1.2.1
  unfold pB
  rw [if_neg (show ¬ tK f n j = 6 by omega), if_neg (show ¬ tK f n j = 7 by omega), if_neg (show ¬ tK f n j = 8 by omega), if_pos hK]
  unfold m_X12_nextClause
  obtain ⟨ν, a1, a2, a3⟩ := TT_next c m h
  rw [wr_rcv, bind_s, a1, bind_s, wr_g12, bind_s, if_tn a3.2.1 204 (204 : Int32) rfl 2 rfl (by decide) (by decide) (by decide)]
  have hU := a3.2.2
  obtain ⟨⟨u1, u2, u3, u4⟩, u5, u6, ⟨u7, u8, u9⟩, u10, u11⟩ := hU
  by_cases k2 : tK f n (j + 1) = 2
  · rw [if_pos k2, if_pos k2]
    have hV6 := (tV_2 (j := j + 1) (fun k hk => (h.1.2.2 k hk).2)).1 k2
    have e6 : ν.2.2.2 6 = nI (tV f n (j + 1)) := a3.2.1.2.2.2.1 (Or.inl k2)
    rw [wr_g13, bind_s, e6, wr_g19, bind_s, u3, if_lt (by omega) (by omega)]
    by_cases vL : tV f n (j + 1) < τ.1
    · rw [if_pos vL, if_pos vL, wr_g22, bind_s, u10, bind_s]
      by_cases nt : ((τ.2.2.2.2.2.1 >>> (nI (tV f n (j + 1)) &&& 31)) &&& (1 : Int32)) = (1 : Int32)
      · rw [if_pos nt, if_pos nt]
        exact CE_l _ ν rfl (KR_G a2) a3.2.1 (Nat.le_of_ble_eq_true rfl) (Nat.le_of_ble_eq_true rfl)
      · rw [if_neg nt, if_neg nt, bind_s, bind_s, wr_n22, bind_s, wr_rcv, bind_s]
        generalize hvv : (τ.2.2.2.2.2.1 ||| ((1 : Int32) <<< (nI (tV f n (j + 1)) &&& 31))) = vv
        have hTT : TT (muN ν 13 vv) T (τ.1, τ.2.1, τ.2.2.1, τ.2.2.2.1, τ.2.2.2.2.1, vv, τ.2.2.2.2.2.2) f n (j + 1) := ⟨Byt_r (T := T) a3.1 (KR_n T ν _ (by omega) (by omega)), At_k a3.2.1 (fun r r1 r2 => mn_n _ _ (by omega)), ⟨u1, u2, (mn_n _ _ (by decide)).trans u3, u4⟩, (mn_n _ _ (by decide)).trans u5, u6, ⟨u7, u8, u9⟩, mn_e _ _ _, u11⟩
        obtain ⟨ρ, b1, b2, b3⟩ := TT_next c m hTT
        have hj2 : j + 1 + 1 ≤ 300 := j_300 (f := f) (j := j + 1) hn (by omega)
        obtain ⟨g1, g2⟩ := sr_formAt c m (kk := 29 * T + 5 + 4 * tV f n (j + 1)) (nx := true) b3.1 b3.2.1 b3.2.2.1.2.2.1 u2 hj2 (by rw [if_pos rfl]; omega)
        have e0 : m_X12_formsOf (nI T) = some (nI (29 * T)) := by
          unfold m_X12_formsOf
          rw [show (29 : Int32) = nI 29 from rfl, pk_mul]
        rw [b1, bind_s, e0, bind_s, wr_rcv, bind_s, show (5 : Int32) = nI 5 from rfl, show (4 : Int32) = nI 4 from rfl, pk_mul, nI_add, nI_add]
        have kr : KR T μ ρ := KR_trans (KR_G a2) (KR_trans (KR_n T ν _ (by omega) (by omega)) (KR_G b2))
        generalize hw : pF (tK f n) (tV f n) τ.1 true 64 0 0 (j + 2) = w
        cases w with
        | inl w =>
          obtain ⟨σ, d1, d2, d3, d4, d5, d6, d7⟩ := g1 w hw
          have d1 : m_X12_formAt (wr c m ρ) m (nI (29 * T + 5 + 4 * tV f n (j + 1))) (1 : Int32) = _ := d1
          rw [d1, bind_s]
          exact CE_l w σ rfl (KR_trans kr (KR_I d2 (fun q _ => by rw [d3]))) d4 d6 d7
        | inr w =>
          obtain ⟨σ, d1, d2, d3, d4, d5, d6⟩ := g2 w hw
          have d1 : m_X12_formAt (wr c m ρ) m (nI (29 * T + 5 + 4 * tV f n (j + 1))) (1 : Int32) = _ := d1
          rw [d1, bind_s]
          rw [if_pos rfl] at d5 d6
          obtain ⟨⟨v1, v2, v3, v4⟩, v5, v6, ⟨v7, v8, v9⟩, v10, v11⟩ := b3.2.2
          refine CE_r _ σ rfl (KR_trans kr (KR_I d2 (fun q hq => d6 q (by omega)))) ⟨Byt_i b3.1 d2, d3, ⟨u1, u2, (d2.2.2.2 10 (by omega) (by decide)).trans v3, ?_⟩, (d2.2.2.2 12 (by omega) (by decide)).trans v5, ?_, ⟨v7, ?_, fun i hi => ?_⟩, (d2.2.2.2 13 (by omega) (by decide)).trans v10, fun q hq => ?_⟩ d4
          · rw [d2.1 4 (by decide)]
            exact v4
          · rw [d6 _ (by omega)]
            exact v6
          · rw [d2.1 4 (by decide)]
            exact v8
          · have hi : i < τ.2.2.2.1 ∨ i = 0 := hi
            rw [d6 _ (by omega)]
            exact v9 i hi
          · show _ = nfP τ.2.2.2.2.2.2 w.1 (tV f n (j + 1)) q
            unfold nfP
            by_cases hq2 : 4 * tV f n (j + 1) ≤ q ∧ q < 4 * tV f n (j + 1) + 4
            · rw [if_pos hq2, ← d5 (q - 4 * tV f n (j + 1)) (by omega), show 29 * T + 5 + 4 * tV f n (j + 1) + (q - 4 * tV f n (j + 1)) = 29 * T + 5 + q by omega]
            · rw [if_neg hq2, d6 _ (by omega)]
              exact v11 q hq
    · rw [if_neg vL, if_neg vL]
      exact CE_l _ ν rfl (KR_G a2) a3.2.1 (Nat.le_of_ble_eq_true rfl) (Nat.le_of_ble_eq_true rfl)
  · rw [if_neg k2, if_neg k2]
    exact CE_l _ ν rfl (KR_G a2) a3.2.1 (Nat.le_of_ble_eq_true rfl) (Nat.le_of_ble_eq_true rfl)
