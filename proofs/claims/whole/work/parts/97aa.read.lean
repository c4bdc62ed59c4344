/-! A TEXT is read: as a function of tokens; the reference -/
theorem pB_lt {K V : Nat → Nat} (h0 : ∀ j, 300 ≤ j → K j = 0) {fi : Bool} {τ : TS} {j : Nat} {y : TS × Nat} (h : pB K V fi τ j = .inr y) : j < y.2 := by
  unfold pB at h
  split at h
  · split at h
    · split at h
      · split at h
        · cases h
          show j < j + 2
          omega
        · cases h
      · cases h
    · cases h
  · split at h
    · split at h
      · cases h
      · generalize hw : pF K V τ.1 false 64 0 0 (j + 1) = w at h
        cases w with
        | inl e => cases h
        | inr w =>
          cases h
          have := (pF_r h0 _ _ _ _ _ hw).1
          show j < w.2
          omega
    · split at h
      · split at h
        · cases h
        · generalize hw : pF K V τ.1 false 64 0 0 (j + 1) = w at h
          cases w with
          | inl e => cases h
          | inr w =>
            cases h
            have := (pF_r h0 _ _ _ _ _ hw).1
            show j < w.2
            omega
      · split at h
        · split at h
          · split at h
            · split at h
              · cases h
              · generalize hw : pF K V τ.1 true 64 0 0 (j + 2) = w at h
                cases w with
                | inl e => cases h
                | inr w =>
                  cases h
                  have := (pF_r h0 _ _ _ _ _ hw).1
                  show j < w.2
                  omega
            · cases h
          · cases h
        · cases h
theorem pC_lt {K V : Nat → Nat} (h0 : ∀ j, 300 ≤ j → K j = 0) {fi : Bool} {τ : TS} {j : Nat} {y : TS × Nat} (h : pC K V fi τ j = .inr y) : j < y.2 := by
  unfold pC at h
  generalize hw : pB K V fi τ j = w at h
  cases w with
  | inl e => cases h
  | inr w =>
    have h : (if K w.2 = 5 ∧ V w.2 = 59 then (Sum.inr (w.1, w.2 + 1) : CR) else .inl (1, w.2)) = .inr y := h
    have := pB_lt h0 hw
    split at h
    · cases h
      show j < w.2 + 1
      omega
    · cases h
def pT (K V : Nat → Nat) : Nat → Bool → TS → Nat → (Nat × Nat) ⊕ TS
  | 0, _, τ, _ => .inr τ
  | s + 1, fi, τ, j => if K j = 0 then .inr τ else (match pC K V fi τ j with | .inl e => .inl e | .inr y => pT K V s false y.1 y.2)
def τ0 : TS := (3, false, 1, 0, fun _ => 0, 0, fun q => LSv (q / 4))
def rtB (m : Nat) (p : Int32) (zs21 : Int32 × Ce) : Option ((Int32 × Ce) ⊕ ((Int32 ⊕ Unit) × Ce)) :=
    (gI zs21.2 9 12 m).bind fun zx28 =>
    if zx28 = 0 then
      some (Sum.inr (Sum.inr (), zs21.2))
    else
      (rcv zs21.2 9 m).bind fun zz29 =>
      (m_X12_clause zs21.2 m p zs21.1).bind fun zq30 =>
      if zq30.1 = 0 then
        some (Sum.inl ((zs21.1 + (1 : Int32)), zq30.2))
      else
        some (Sum.inr (Sum.inl zq30.1, zq30.2))
theorem sr_rt (c : Ce) (m : Nat) {T n : Nat} {f : Nat → Nat} (hn : n ≤ 300) (hT : T < 4) : ∀ s cnt τ j (μ : MS) t, TT μ T τ f n j → 300 ≤ j + s → cnt + s < 1000 → s < t → (∀ e, pT (tK f n) (tV f n) s (decide (cnt = 0)) τ j = .inl e → ∃ ν, it (rtB m (nI T)) t (nI cnt, wr c m μ) = some (.inl (nI e.1), wr c m ν) ∧ KR T μ ν ∧ At ν f n e.2 ∧ 0 < e.1 ∧ e.1 < 7) ∧ (∀ σ, pT (tK f n) (tV f n) s (decide (cnt = 0)) τ j = .inr σ → ∃ ν, it (rtB m (nI T)) t (nI cnt, wr c m μ) = some (.inr (), wr c m ν) ∧ KR T μ ν ∧ TU ν T σ) := by
  intro s
  induction s with
  | zero =>
    intro cnt τ j μ t h hj hc ht
    obtain ⟨t, rfl⟩ : ∃ r, t = r + 1 := ⟨t - 1, by omega⟩
    have h0 := tK_300 (f := f) hn j (by omega)
    have e0 : rtB m (nI T) (nI cnt, wr c m μ) = some (.inr (.inr (), wr c m μ)) := by
      unfold rtB
      rw [wr_g12, bind_s, if_tn h.2.1 0 (0 : Int32) rfl 0 rfl (by decide) (by decide) (by decide), if_pos h0]
    refine ⟨fun e he => (by cases he), fun σ hσ => ?_⟩
    cases hσ
    exact ⟨μ, it_end t e0, KR_refl T μ, h.2.2⟩
  | succ s ih =>
    intro cnt τ j μ t h hj hc ht
    obtain ⟨t, rfl⟩ : ∃ r, t = r + 1 := ⟨t - 1, by omega⟩
    rw [pT]
    by_cases h0 : tK f n j = 0
    · have e0 : rtB m (nI T) (nI cnt, wr c m μ) = some (.inr (.inr (), wr c m μ)) := by
        unfold rtB
        rw [wr_g12, bind_s, if_tn h.2.1 0 (0 : Int32) rfl 0 rfl (by decide) (by decide) (by decide), if_pos h0]
      rw [if_pos h0]
      refine ⟨fun e he => (by cases he), fun σ hσ => ?_⟩
      cases hσ
      exact ⟨μ, it_end t e0, KR_refl T μ, h.2.2⟩
    · rw [if_neg h0]
      have hcl := sr_clause c m hT h (cnt := cnt) (by omega)
      have e0 : rtB m (nI T) (nI cnt, wr c m μ) = (m_X12_clause (wr c m μ) m (nI T) (nI cnt)).bind fun zq30 => if zq30.1 = 0 then some (Sum.inl ((nI cnt + (1 : Int32)), zq30.2)) else some (Sum.inr (Sum.inl zq30.1, zq30.2)) := by
        unfold rtB
        rw [wr_g12, bind_s, if_tn h.2.1 0 (0 : Int32) rfl 0 rfl (by decide) (by decide) (by decide), if_neg h0, wr_rcv, bind_s]
      generalize hw : pC (tK f n) (tV f n) (decide (cnt = 0)) τ j = w at hcl
      cases w with
      | inl e =>
        obtain ⟨ν, a1, a2, a3, a4, a5⟩ := hcl
        refine ⟨fun e2 he => ?_, fun σ hσ => (by cases hσ)⟩
        cases he
        rw [a1, bind_s, if_neg (nI_ne0 a4 (by omega))] at e0
        exact ⟨ν, it_end t e0, a2, a3, a4, a5⟩
      | inr y =>
        obtain ⟨ν, a1, a2, a3, a4⟩ := hcl
        have hlt := pC_lt (tK_300 (f := f) hn) hw
        rw [a1, bind_s, if_pos rfl, nI_1] at e0
        have nx := ih (cnt + 1) y.1 y.2 ν t a3 (by omega) (by omega) (by omega)
        rw [show decide (cnt + 1 = 0) = false by simp] at nx
        have e1 : it (rtB m (nI T)) (t + 1) (nI cnt, wr c m μ) = it (rtB m (nI T)) t (nI (cnt + 1), wr c m ν) := by
          show (rtB m (nI T) (nI cnt, wr c m μ)).bind _ = _
          rw [e0, bind_s]
          rfl
        rw [e1]
        refine ⟨fun e he => ?_, fun σ hσ => ?_⟩
        · obtain ⟨ρ, b1, b2, b3⟩ := nx.1 e he
          exact ⟨ρ, b1, KR_trans a2 b2, b3⟩
        · obtain ⟨ρ, b1, b2, b3⟩ := nx.2 σ hσ
          exact ⟨ρ, b1, KR_trans a2 b2, b3⟩
/-- letters that stay as they are -/
theorem sr_lay (c : Ce) (m : Nat) {T : Nat} (hT : T < 4) (μ : MS) : Ok (it (fun (zs15 : Int32 × Ce) =>
    if (6 : Int32) ≤ zs15.1 then
      some (Sum.inr ((), zs15.2))
    else
      (it (fun (zs31 : Int32 × Ce) =>
        if (4 : Int32) ≤ zs31.1 then
          some (Sum.inr ((), zs31.2))
        else
          (gA zs31.2 9 5 m).bind fun zx34 =>
          (m_X12_letterSet zs15.1).bind fun zx35 =>
          (sL zs31.2 zx34 (((nI (29 * T) + (5 : Int32)) + ((4 : Int32) * zs15.1)) + zs31.1) zx35).bind fun zc36 =>
          some (Sum.inl ((zs31.1 + (1 : Int32)), zc36))
      ) FU ((0 : Int32), zs15.2)).bind fun (zo32 : Unit × Ce) =>
      some (Sum.inl ((zs15.1 + (1 : Int32)), zo32.2))
  ) FU ((0 : Int32), wr c m μ)) (fun o => ∃ ν, o.2 = wr c m ν ∧ ν.1 = μ.1 ∧ ν.2.2.2 = μ.2.2.2 ∧ KR T μ ν ∧ (∀ q, q < 24 → ν.2.1 5 (29 * T + 5 + q) = LSv (q / 4)) ∧ ∀ q, q < 29 * T + 5 → ν.2.1 5 q = μ.2.1 5 q) := by
  refine ok_cnt 0 6 (fun l st => st.1 = nI l ∧ ∃ ν, st.2 = wr c m ν ∧ ν.1 = μ.1 ∧ ν.2.2.2 = μ.2.2.2 ∧ KR T μ ν ∧ (∀ q, q < 4 * l → ν.2.1 5 (29 * T + 5 + q) = LSv (q / 4)) ∧ ∀ q, q < 29 * T + 5 → ν.2.1 5 q = μ.2.1 5 q) (by omega) (by omega) ⟨rfl, μ, rfl, rfl, rfl, KR_refl T μ, fun _ h => by omega, fun _ _ => rfl⟩ ?_ ?_
  · rintro l ⟨u, e⟩ hl ⟨hu, ν, he, q1, q2, q3, q4, q5⟩
    have hu : u = nI l := hu
    have he : e = wr c m ν := he
    subst hu he
    show Ok (if (6 : Int32) ≤ nI l then _ else (it (fun (zs31 : Int32 × Ce) => if (4 : Int32) ≤ zs31.1 then some (Sum.inr ((), zs31.2)) else (gA zs31.2 9 5 m).bind fun zx34 => (m_X12_letterSet (nI l)).bind fun zx35 => (sL zs31.2 zx34 (((nI (29 * T) + (5 : Int32)) + ((4 : Int32) * nI l)) + zs31.1) zx35).bind fun zc36 => some (Sum.inl ((zs31.1 + (1 : Int32)), zc36))) FU ((0 : Int32), wr c m ν)).bind fun (zo32 : Unit × Ce) => some (Sum.inl ((nI l + (1 : Int32)), zo32.2))) _
    rw [if_neg (show ¬ (6 : Int32) ≤ nI l from nI_ge (b := 6) hl (by omega))]
    refine ok_call (P := fun o => ∃ ν, o.2 = wr c m ν ∧ ν.1 = μ.1 ∧ ν.2.2.2 = μ.2.2.2 ∧ KR T μ ν ∧ (∀ q, q < 4 * l + 4 → ν.2.1 5 (29 * T + 5 + q) = LSv (q / 4)) ∧ ∀ q, q < 29 * T + 5 → ν.2.1 5 q = μ.2.1 5 q) (ok_cnt 0 4 (fun i st => st.1 = nI i ∧ ∃ ν, st.2 = wr c m ν ∧ ν.1 = μ.1 ∧ ν.2.2.2 = μ.2.2.2 ∧ KR T μ ν ∧ (∀ q, q < 4 * l + i → ν.2.1 5 (29 * T + 5 + q) = LSv (q / 4)) ∧ ∀ q, q < 29 * T + 5 → ν.2.1 5 q = μ.2.1 5 q) (by omega) (by omega) ⟨rfl, ν, rfl, q1, q2, q3, q4, q5⟩ ?_ ?_) (fun o h => ?_)
    · rintro i ⟨u, e⟩ hi ⟨hu, ν, he, q1, q2, q3, q4, q5⟩
      have hu : u = nI i := hu
      have he : e = wr c m ν := he
      subst hu he
      show Ok (if (4 : Int32) ≤ nI i then _ else (gA (wr c m ν) 9 5 m).bind fun zx34 => (m_X12_letterSet (nI l)).bind fun zx35 => (sL (wr c m ν) zx34 (((nI (29 * T) + (5 : Int32)) + ((4 : Int32) * nI l)) + nI i) zx35).bind fun zc36 => some (Sum.inl ((nI i + (1 : Int32)), zc36))) _
      rw [if_neg (show ¬ (4 : Int32) ≤ nI i from nI_ge (b := 4) hi (by omega)), wr_g5, bind_s, sr_letterSet (by omega), bind_s, LSv_eq hl, show (5 : Int32) = nI 5 from rfl, show (4 : Int32) = nI 4 from rfl, pk_mul, nI_add, nI_add, nI_add, wr_w5 c m ν (by omega), bind_s, nI_1]
      refine ok_some ⟨rfl, _, rfl, q1, q2, KR_trans q3 (KR_5 T ν _ (by omega)), fun q hq => ?_, fun q hq => ?_⟩
      · rw [mL_e]
        by_cases e : q = 4 * l + i
        · rw [e, show 29 * T + 5 + (4 * l + i) = 29 * T + 5 + 4 * l + i by omega, up_e]
          exact congrArg LSv (by omega)
        · rw [up_n _ _ _ (by omega)]
          exact q4 q (by omega)
      · rw [mL_e, up_n _ _ _ (by omega)]
        exact q5 q hq
    · rintro ⟨u, e⟩ ⟨hu, ν, he, q1, q2, q3, q4, q5⟩
      have hu : u = nI 4 := hu
      subst hu
      show Ok (if (4 : Int32) ≤ nI 4 then _ else _) _
      rw [if_pos (by decide)]
      exact ok_some ⟨ν, he, q1, q2, q3, q4, q5⟩
    · obtain ⟨ν, q0, q1, q2, q3, q4, q5⟩ := h
      rw [nI_1]
      exact ok_some ⟨rfl, ν, q0, q1, q2, q3, fun q hq => q4 q (by omega), q5⟩
  · rintro ⟨u, e⟩ ⟨hu, ν, he, q1, q2, q3, q4, q5⟩
    have hu : u = nI 6 := hu
    subst hu
    show Ok (if (6 : Int32) ≤ nI 6 then _ else _) _
    rw [if_pos (by decide)]
    exact ok_some ⟨ν, he, q1, q2, q3, q4, q5⟩
