/-! CLAUSES of the class: letters, next -/
section
variable {c0 d : Ce} {rd ka va pa cnt n LL al nl : Nat} {ini : Int32} {i0 : Int64} {nb : Int32} {nt : Int32} {inp fp : Int32} {f : Nat → Nat} {j : Nat}
theorem cd_k (h : CHy d rd ka va pa cnt n f) (hj : j ≤ cnt) : aI d ka (nI j) = some (nI (tK f n j)) := by
  obtain ⟨_, ⟨Fk, Fv, Fp, a1, a2, a3, a4⟩, hc, _⟩ := h
  rw [aI_c a1 (by omega) (by omega), (a4 j (by omega)).1]
theorem cd_v (h : CHy d rd ka va pa cnt n f) (hj : j ≤ cnt) : ∃ v, aI d va (nI j) = some v ∧ (tK f n j = 2 ∨ tK f n j = 3 ∨ tK f n j = 4 ∨ tK f n j = 5 → v = nI (tV f n j)) := by
  obtain ⟨_, ⟨Fk, Fv, Fp, a1, a2, a3, a4⟩, hc, _⟩ := h
  exact ⟨Fv j, aI_c a2 (by omega) (by omega), (a4 j (by omega)).2.2⟩
theorem tK_le (f : Nat → Nat) (n j : Nat) : tK f n j ≤ 9 := by
  unfold tK tkK
  generalize tkq f n (ps f n j) = q
  split
  · split
    · omega
    · split
      · unfold lk
        split
        · split
          · omega
          · split <;> omega
        · unfold wk
          split
          · omega
          · split
            · omega
            · split
              · omega
              · split <;> omega
      · split <;> omega
  · omega
theorem CT_go (hA : Adr rd ka va pa al nl) (h : CHy c0 rd ka va pa cnt n f) {τ : TS} (hC : CT c0 rd ka va pa cnt al nl d τ j) (hj : j < cnt) : ∃ d2, m_X7_goOn d rd = some ((), d2) ∧ CT c0 rd ka va pa cnt al nl d2 τ (j + 1) := by
  obtain ⟨c1, ⟨G, c2, c3⟩, ⟨H, c4, c5⟩, c6, c7⟩ := hC
  exact ⟨_, cd_goOn (CHy_f hA h c7) c1 hj, hR_e _ _ _, ⟨G, (hR_n _ _ _ hA.2.1).trans c2, c3⟩, ⟨H, (hR_n _ _ _ hA.2.2.1).trans c4, c5⟩, c6, fun b b1 b2 b3 => (hR_n _ _ _ b1).trans (c7 b b1 b2 b3)⟩
theorem cl_letters (hA : Adr rd ka va pa al nl) (h : CHy c0 rd ka va pa cnt n f) {τ : TS} (hC : CT c0 rd ka va pa cnt al nl d τ j) (hj : j ≤ cnt) (hK : tK f n j = 6) : CC c0 rd ka va pa cnt al nl f n (m_X7_readLetters d rd) (pB (tK f n) (tV f n) true τ j) := by
  have hlt := CHy_lt h hj (by omega)
  obtain ⟨d2, e1, hC2⟩ := CT_go hA h hC hlt
  have hC20 := hC2
  obtain ⟨c1, ⟨G, c2, c3⟩, ⟨H, c4, c5⟩, c6, c7⟩ := hC2
  obtain ⟨w, w1, w2⟩ := cd_v (CHy_f hA h c7) (j := j + 1) hlt
  have hk9 := tK_le f n (j + 1)
  unfold pB m_X7_readLetters
  rw [if_pos hK, if_pos rfl, rcv_c hC.1, bind_s, e1, bind_s, gA_c (k := 1) (x := va) c1 rfl, bind_s, gI_c (k := 4) (x := nI (j + 1)) c1 rfl, bind_s, w1, bind_s, gA_c (k := 0) (x := ka) c1 rfl, bind_s, bind_s, cd_k (CHy_f hA h c7) (j := j + 1) hlt, bind_s, if_l 4 (4 : Int32) rfl (by omega) (by omega)]
  by_cases k4 : tK f n (j + 1) = 4
  · have hw := w2 (by omega)
    have hV := tV_lt h.2.2.2.2.2.2 (j := j + 1) (by omega)
    rw [if_pos k4, if_pos k4, hw, show (1 : Int32) = nI 1 from rfl, show (6 : Int32) = nI 6 from rfl, if_lt (by omega) (by omega), if_le (by omega) (by omega)]
    by_cases v6 : 1 ≤ tV f n (j + 1) ∧ tV f n (j + 1) ≤ 6
    · rw [if_pos v6, if_neg (by omega), if_pos v6.2, pV_c c1 (Nat.le_of_ble_eq_true rfl), bind_s]
      have hC3 : CT c0 rd ka va pa cnt al nl (gx_up d2 rd (.inr (5, rdX ka va pa (nI (cnt + 1)) (nI (j + 1)) 0 (-1) (nI (tV f n (j + 1))) (if τ.2.1 = true then 1 else 0) τ.2.2.1 (nI τ.2.2.2.1) al τ.2.2.2.2.2.1 nl (-1)))) (tV f n (j + 1), τ.2) (j + 1) := ⟨gu_e _ _ _, ⟨G, (gu_n _ _ hA.2.1).trans c2, c3⟩, ⟨H, (gu_n _ _ hA.2.2.1).trans c4, c5⟩, ⟨v6.1, v6.2, c6.2.2⟩, fun b b1 b2 b3 => (gu_n _ _ b1).trans (c7 b b1 b2 b3)⟩
      have hlt2 : j + 1 < cnt := CHy_lt h hlt (by omega)
      obtain ⟨d4, g1, g2⟩ := CT_go hA h hC3 hlt2
      have r3 := hC3.1
      show CC c0 rd ka va pa cnt al nl f n (((rcv (gx_up d2 rd (.inr (5, rdX ka va pa (nI (cnt + 1)) (nI (j + 1)) 0 (-1) (nI (tV f n (j + 1))) (if τ.2.1 = true then 1 else 0) τ.2.2.1 (nI τ.2.2.2.1) al τ.2.2.2.2.2.1 nl (-1)))) 5 rd).bind fun zz13 => (m_X7_goOn (gx_up d2 rd (.inr (5, rdX ka va pa (nI (cnt + 1)) (nI (j + 1)) 0 (-1) (nI (tV f n (j + 1))) (if τ.2.1 = true then 1 else 0) τ.2.2.1 (nI τ.2.2.2.1) al τ.2.2.2.2.2.1 nl (-1)))) rd).bind fun zq14 => some ((Sum.inl (), zq14.2))).bind _) _
      rw [rcv_c r3, bind_s, g1, bind_s, bind_s, Sum.elim_inl]
      exact ⟨hlt2, d4, rfl, g2⟩
    · obtain ⟨d5, g1, g2⟩ := FT_fail hA h hC20 hlt 2 (by omega) (by omega) (2 : Int32) rfl
      rw [if_neg v6]
      have hx : ∀ (α : Type) (x y : α), (if tV f n (j + 1) < 1 then x else if tV f n (j + 1) ≤ 6 then y else x) = x := fun α x y => by
        by_cases v1 : tV f n (j + 1) < 1
        · rw [if_pos v1]
        · rw [if_neg v1, if_neg (by omega)]
      rw [hx, bind_s, Sum.elim_inr, rcv_c c1, bind_s, g1, bind_s]
      exact ⟨⟨hlt, Nat.le_of_ble_eq_true rfl, Nat.le_of_ble_eq_true rfl⟩, d5, rfl, g2⟩
  · obtain ⟨d5, g1, g2⟩ := FT_fail hA h hC20 hlt 1 (by omega) (by omega) (1 : Int32) rfl
    rw [if_neg k4, if_neg k4, rcv_c c1, bind_s, g1, bind_s]
    exact ⟨⟨hlt, Nat.le_of_ble_eq_true rfl, Nat.le_of_ble_eq_true rfl⟩, d5, rfl, g2⟩
def fiB (this : Nat) (p1 zx1 : Int32) (zs3 : Unit × Ce) : Option ((Unit × Ce) ⊕ (Unit × Ce)) :=
    (gI zs3.2 5 14 this).bind fun zx7 =>
    if (4 : Int32) ≤ zx7 then
      some (Sum.inr ((), zs3.2))
    else
      (gI zs3.2 5 14 this).bind fun zx8 =>
      (gA zs3.2 5 13 this).bind fun zx9 =>
      (alen zs3.2 zx9).bind fun zx10 =>
      if zx10 ≤ (p1 + zx8) then
        some (Sum.inr ((), zs3.2))
      else
        (gI zs3.2 5 5 this).bind fun zx11 =>
        if zx11 = 0 then
          (pV zs3.2 5 4 this (.int zx1)).bind fun zc12 =>
          (gA zc12 5 13 this).bind fun zx13 =>
          (gI zc12 5 14 this).bind fun zx14 =>
          (rcv zc12 5 this).bind fun zz15 =>
          (m_X7_readForm zc12 this (0 : Int32) (0 : Int32)).bind fun zq16 =>
          (sL zq16.2 zx13 (p1 + zx14) zq16.1).bind fun zc17 =>
          (gI zc17 5 14 this).bind fun zx18 =>
          (pV zc17 5 14 this (.int (zx18 + (1 : Int32)))).bind fun zc19 =>
          some (Sum.inl ((), zc19))
        else
          some (Sum.inr ((), zs3.2))
theorem fi_0 (ce : Ce) (this : Nat) (p1 : Int32) : m_X7_readForInputs ce this p1 = (gI ce 5 4 this).bind fun zx1 => (pV ce 5 14 this (.int (0 : Int32))).bind fun zc2 => (it (fiB this p1 zx1) FU ((), zc2)).bind fun (zo4 : Unit × Ce) => (pV zo4.2 5 14 this (.int (-1 : Int32))).bind fun zc6 => some ((), zc6) := rfl
theorem fi_step (hA : Adr rd ka va pa al nl) (h : CHy c0 rd ka va pa cnt n f) {D : Ce} {now : Int32} {G H : Nat → Int64} {i l s : Nat} (q1 : D rd = some (.inr (5, rdX ka va pa (nI (cnt + 1)) now 0 (-1) (nI LL) ini i0 nb al nt nl (nI i)))) (q2 : D al = some (.inl (.long, 4, .inr (.inl G)))) (q3 : D nl = some (.inl (.long, 24, .inr (.inl H)))) (q4 : Frb rd al nl c0 D) (hL : LL ≤ 6) (hi : i < 4) (hl : l < 6) (hs : s ≤ cnt) : (∀ e, pF (tK f n) (tV f n) LL true 64 0 0 s = .inl e → (e.2 ≤ cnt ∧ 0 < e.1 ∧ e.1 < 7) ∧ ∃ D2 H2, fiB rd (nI (4 * l)) (nI s) ((), D) = some (.inl ((), D2)) ∧ D2 rd = some (.inr (5, rdX ka va pa (nI (cnt + 1)) (nI cnt) (nI e.1) (nI (tP f n e.2)) (nI LL) ini i0 nb al nt nl (nI (i + 1)))) ∧ D2 al = some (.inl (.long, 4, .inr (.inl G))) ∧ D2 nl = some (.inl (.long, 24, .inr (.inl H2))) ∧ Frb rd al nl c0 D2) ∧ (∀ y, pF (tK f n) (tV f n) LL true 64 0 0 s = .inr y → y.2 ≤ cnt ∧ ∃ D2, fiB rd (nI (4 * l)) (nI s) ((), D) = some (.inl ((), D2)) ∧ D2 rd = some (.inr (5, rdX ka va pa (nI (cnt + 1)) (nI y.2) 0 (-1) (nI LL) ini i0 nb al nt nl (nI (i + 1)))) ∧ D2 al = some (.inl (.long, 4, .inr (.inl G))) ∧ D2 nl = some (.inl (.long, 24, .inr (.inl (va_up H (4 * l + i) (y.1 i))))) ∧ Frb rd al nl c0 D2) := by
  have r1 : gx_up D rd (.inr (5, rdX ka va pa (nI (cnt + 1)) (nI s) 0 (-1) (nI LL) ini i0 nb al nt nl (nI i))) rd = some (.inr (5, rdX ka va pa (nI (cnt + 1)) (nI s) 0 (-1) (nI LL) ini i0 nb al nt nl (nI i))) := gu_e _ _ _
  have r2 : gx_up D rd (.inr (5, rdX ka va pa (nI (cnt + 1)) (nI s) 0 (-1) (nI LL) ini i0 nb al nt nl (nI i))) al = some (.inl (.long, 4, .inr (.inl G))) := (gu_n _ _ hA.2.1).trans q2
  have r3 : gx_up D rd (.inr (5, rdX ka va pa (nI (cnt + 1)) (nI s) 0 (-1) (nI LL) ini i0 nb al nt nl (nI i))) nl = some (.inl (.long, 24, .inr (.inl H))) := (gu_n _ _ hA.2.2.1).trans q3
  have r4 : Frb rd al nl c0 (gx_up D rd (.inr (5, rdX ka va pa (nI (cnt + 1)) (nI s) 0 (-1) (nI LL) ini i0 nb al nt nl (nI i)))) := fun b b1 b2 b3 => (gu_n _ _ b1).trans (q4 b b1 b2 b3)
  have e0 : fiB rd (nI (4 * l)) (nI s) ((), D) = (m_X7_readForm (gx_up D rd (.inr (5, rdX ka va pa (nI (cnt + 1)) (nI s) 0 (-1) (nI LL) ini i0 nb al nt nl (nI i)))) rd (0 : Int32) (0 : Int32)).bind fun zq16 => (sL zq16.2 nl (nI (4 * l + i)) zq16.1).bind fun zc17 => (gI zc17 5 14 rd).bind fun zx18 => (pV zc17 5 14 rd (.int (zx18 + (1 : Int32)))).bind fun zc19 => some (Sum.inl ((), zc19)) := by
    unfold fiB
    show ((gI D 5 14 rd).bind fun zx7 => if (4 : Int32) ≤ zx7 then some (Sum.inr ((), D)) else (gI D 5 14 rd).bind fun zx8 => (gA D 5 13 rd).bind fun zx9 => (alen D zx9).bind fun zx10 => if zx10 ≤ (nI (4 * l) + zx8) then some (Sum.inr ((), D)) else (gI D 5 5 rd).bind fun zx11 => if zx11 = 0 then (pV D 5 4 rd (.int (nI s))).bind fun zc12 => (gA zc12 5 13 rd).bind fun zx13 => (gI zc12 5 14 rd).bind fun zx14 => (rcv zc12 5 rd).bind fun zz15 => (m_X7_readForm zc12 rd (0 : Int32) (0 : Int32)).bind fun zq16 => (sL zq16.2 zx13 (nI (4 * l) + zx14) zq16.1).bind fun zc17 => (gI zc17 5 14 rd).bind fun zx18 => (pV zc17 5 14 rd (.int (zx18 + (1 : Int32)))).bind fun zc19 => some (Sum.inl ((), zc19)) else some (Sum.inr ((), D))) = _
    rw [gI_c (k := 14) (x := nI i) q1 rfl, bind_s, if_neg (show ¬ (4 : Int32) ≤ nI i from nI_ge (b := 4) hi (by omega)), bind_s, gA_c (k := 13) (x := nl) q1 rfl, bind_s, alen_L q3, bind_s, nI_add, if_le (by omega) (by omega), if_neg (by omega), gI_c (k := 5) (x := 0) q1 rfl, bind_s, if_pos rfl, pV_c q1 (Nat.le_of_ble_eq_true rfl), bind_s]
    show ((gA (gx_up D rd (.inr (5, rdX ka va pa (nI (cnt + 1)) (nI s) 0 (-1) (nI LL) ini i0 nb al nt nl (nI i)))) 5 13 rd).bind fun zx13 => (gI (gx_up D rd (.inr (5, rdX ka va pa (nI (cnt + 1)) (nI s) 0 (-1) (nI LL) ini i0 nb al nt nl (nI i)))) 5 14 rd).bind fun zx14 => (rcv (gx_up D rd (.inr (5, rdX ka va pa (nI (cnt + 1)) (nI s) 0 (-1) (nI LL) ini i0 nb al nt nl (nI i)))) 5 rd).bind fun zz15 => (m_X7_readForm (gx_up D rd (.inr (5, rdX ka va pa (nI (cnt + 1)) (nI s) 0 (-1) (nI LL) ini i0 nb al nt nl (nI i)))) rd (0 : Int32) (0 : Int32)).bind fun zq16 => (sL zq16.2 zx13 (nI (4 * l) + zx14) zq16.1).bind fun zc17 => (gI zc17 5 14 rd).bind fun zx18 => (pV zc17 5 14 rd (.int (zx18 + (1 : Int32)))).bind fun zc19 => some (Sum.inl ((), zc19))) = _
    rw [gA_c (k := 13) (x := nl) r1 rfl, bind_s, gI_c (k := 14) (x := nI i) r1 rfl, bind_s, rcv_c r1, bind_s, nI_add]
  rw [e0]
  generalize gx_up D rd (.inr (5, rdX ka va pa (nI (cnt + 1)) (nI s) 0 (-1) (nI LL) ini i0 nb al nt nl (nI i))) = D1 at r1 r2 r3 r4 ⊢
  have fm := cd_form (CHy_f hA h r4) r1 hL (i := i) (nx := true) (Or.inl ⟨rfl, hi, rfl⟩) hs
  have fin : ∀ (now flt fp2 : Int32) (v : Int64) (E : Ce), E = hR D1 rd ka va pa cnt LL ini i0 nb al nt nl (nI i) now flt fp2 → ∃ D2, ((sL E nl (nI (4 * l + i)) v).bind fun zc17 => (gI zc17 5 14 rd).bind fun zx18 => (pV zc17 5 14 rd (.int (zx18 + (1 : Int32)))).bind fun zc19 => (some (Sum.inl ((), zc19)) : Option ((Unit × Ce) ⊕ (Unit × Ce)))) = some (Sum.inl ((), D2)) ∧ D2 rd = some (.inr (5, rdX ka va pa (nI (cnt + 1)) now flt fp2 (nI LL) ini i0 nb al nt nl (nI (i + 1)))) ∧ D2 al = some (.inl (.long, 4, .inr (.inl G))) ∧ D2 nl = some (.inl (.long, 24, .inr (.inl (va_up H (4 * l + i) v)))) ∧ Frb rd al nl c0 D2 := by
    intro now flt fp2 v E hE
    have u1 : E rd = some (.inr (5, rdX ka va pa (nI (cnt + 1)) now flt fp2 (nI LL) ini i0 nb al nt nl (nI i))) := by rw [hE]; exact hR_e _ _ _
    have u2 : E al = some (.inl (.long, 4, .inr (.inl G))) := by rw [hE]; exact (hR_n _ _ _ hA.2.1).trans r2
    have u3 : E nl = some (.inl (.long, 24, .inr (.inl H))) := by rw [hE]; exact (hR_n _ _ _ hA.2.2.1).trans r3
    have u4 : Frb rd al nl c0 E := fun b b1 b2 b3 => by rw [hE]; exact (hR_n _ _ _ b1).trans (r4 b b1 b2 b3)
    have u5 : gx_up E nl (.inl (.long, 24, .inr (.inl (va_up H (4 * l + i) v)))) rd = some (.inr (5, rdX ka va pa (nI (cnt + 1)) now flt fp2 (nI LL) ini i0 nb al nt nl (nI i))) := (gu_n _ _ (Ne.symm hA.2.2.1)).trans u1
    rw [sL_c u3 (by omega) (by omega), bind_s, gI_c (k := 14) (x := nI i) u5 rfl, bind_s, nI_1, pV_c u5 (Nat.le_of_ble_eq_true rfl), bind_s]
    exact ⟨_, rfl, gu_e _ _ _, ((gu_n _ _ hA.2.1).trans (gu_n _ _ hA.2.2.2.1)).trans u2, (gu_n _ _ hA.2.2.1).trans (gu_e _ _ _), fun b b1 b2 b3 => ((gu_n _ _ b1).trans (gu_n _ _ b3)).trans (u4 b b1 b2 b3)⟩
  refine ⟨fun e he => ?_, fun y hy => ?_⟩
  · rw [he] at fm
    obtain ⟨b1, v, b2⟩ := fm
    obtain ⟨D2, e1, e2⟩ := fin _ _ _ v _ rfl
    rw [b2, bind_s, e1]
    obtain ⟨e2, e3, e4, e5⟩ := e2
    exact ⟨b1, D2, _, rfl, e2, e3, e4, e5⟩
  · rw [hy] at fm
    obtain ⟨b1, b2⟩ := fm
    obtain ⟨D2, e1, e2⟩ := fin _ _ _ (y.1 i) _ rfl
    rw [b2, bind_s, e1]
    exact ⟨b1, D2, rfl, e2⟩
end
