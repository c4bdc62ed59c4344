/-! A TEXT is read: the class -/
section
variable {c0 d : Ce} {rd ka va pa cnt n LL al nl : Nat} {ini : Int32} {i0 : Int64} {nb : Int32} {nt : Int32} {inp fp : Int32} {f : Nat → Nat} {j : Nat}
theorem cl_sign (hA : Adr rd ka va pa al nl) (h : CHy c0 rd ka va pa cnt n f) {run : Option (Unit × Ce)} {fi : Bool} {τ : TS} (hr : CC c0 rd ka va pa cnt al nl f n run (pB (tK f n) (tV f n) fi τ j)) : ∃ d d2, run = some ((), d) ∧ rcv d 5 rd = some () ∧ m_X7_takeSign d rd (59 : Int32) = some ((), d2) ∧ CC c0 rd ka va pa cnt al nl f n (some ((), d2)) (pC (tK f n) (tV f n) fi τ j) := by
  unfold pC
  generalize pB (tK f n) (tV f n) fi τ j = w at hr
  cases w with
  | inl e =>
    obtain ⟨b1, d, b2, ⟨L, ini, i0, nb, nt, inp, b3⟩, ⟨G, b4⟩, ⟨H, b5⟩, b6⟩ := hr
    have ht := cf_take2 (LL := L) (ini := ini) (i0 := i0) (nb := nb) (al := al) (nt := nt) (nl := nl) (inp := inp) (CHy_f hA h b6) (nI e.1) (nI (tP f n e.2)) (nI_ne0 b1.2.1 (by omega)) (59 : Int32) (b := 59) (by omega) rfl
    have es : hR d rd ka va pa cnt L ini i0 nb al nt nl inp (nI cnt) (nI e.1) (nI (tP f n e.2)) = d := gu_self b3
    rw [es] at ht
    exact ⟨d, d, b2, rcv_c b3, ht, b1, d, rfl, ⟨L, ini, i0, nb, nt, inp, b3⟩, ⟨G, b4⟩, ⟨H, b5⟩, b6⟩
  | inr y =>
    obtain ⟨b1, d, b2, c1, ⟨G, c2, c3⟩, ⟨H, c4, c5⟩, c6, c7⟩ := hr
    have ht := cf_take (LL := y.1.1) (ini := (if y.1.2.1 = true then 1 else 0)) (i0 := y.1.2.2.1) (nb := nI y.1.2.2.2.1) (al := al) (nt := y.1.2.2.2.2.2.1) (nl := nl) (inp := -1) (CHy_f hA h c7) (-1) b1 59 (by omega) (59 : Int32) rfl
    rw [hR_self c1] at ht
    refine ⟨d, _, b2, rcv_c c1, ht, ?_⟩
    show CC c0 rd ka va pa cnt al nl f n _ (if tK f n y.2 = 5 ∧ tV f n y.2 = 59 then (Sum.inr (y.1, y.2 + 1) : CR) else .inl (1, y.2))
    by_cases e : tK f n y.2 = 5 ∧ tV f n y.2 = 59
    · rw [if_pos e, if_pos e]
      exact ⟨CHy_lt h b1 (by omega), _, rfl, hR_e _ _ _, ⟨G, (hR_n _ _ _ hA.2.1).trans c2, c3⟩, ⟨H, (hR_n _ _ _ hA.2.2.1).trans c4, c5⟩, c6, fun b b1 b2 b3 => (hR_n _ _ _ b1).trans (c7 b b1 b2 b3)⟩
    · rw [if_neg e, if_neg e]
      exact ⟨⟨b1, Nat.le_of_ble_eq_true rfl, Nat.le_of_ble_eq_true rfl⟩, _, rfl, ⟨_, _, _, _, _, _, hR_e _ _ _⟩, ⟨G, (hR_n _ _ _ hA.2.1).trans c2⟩, ⟨H, (hR_n _ _ _ hA.2.2.1).trans c4⟩, fun b b1 b2 b3 => (hR_n _ _ _ b1).trans (c7 b b1 b2 b3)⟩
theorem cl_other (hA : Adr rd ka va pa al nl) (h : CHy c0 rd ka va pa cnt n f) {τ : TS} (hC : CT c0 rd ka va pa cnt al nl d τ j) (hj : j ≤ cnt) (k7 : ¬ tK f n j = 7) (k8 : ¬ tK f n j = 8) (k9 : ¬ tK f n j = 9) : CC c0 rd ka va pa cnt al nl f n (m_X7_fail d rd (1 : Int32)) (pB (tK f n) (tV f n) false τ j) := by
  obtain ⟨d5, g1, g2⟩ := FT_fail hA h hC hj 1 (by omega) (by omega) (1 : Int32) rfl
  have e : pB (tK f n) (tV f n) false τ j = .inl (1, j) := by
    unfold pB
    rw [if_neg k7, if_neg k8, if_neg k9, if_neg (by decide : ¬ (false = true))]
    split <;> rfl
  rw [e, g1]
  exact ⟨⟨hj, Nat.le_of_ble_eq_true rfl, Nat.le_of_ble_eq_true rfl⟩, d5, rfl, g2⟩
def raB (this : Nat) (zs11 : Int32 × Ce) : Option ((Int32 × Ce) ⊕ (Unit × Ce)) :=
    if (300 : Int32) ≤ zs11.1 then
      some (Sum.inr ((), zs11.2))
    else
      (gA zs11.2 5 0 this).bind fun zx14 =>
      (gI zs11.2 5 4 this).bind fun zx15 =>
      (aI zs11.2 zx14 zx15).bind fun zx16 =>
      if zx16 = 0 then
        some (Sum.inr ((), zs11.2))
      else
        (gA zs11.2 5 0 this).bind fun zx17 =>
        (gI zs11.2 5 4 this).bind fun zx18 =>
        (aI zs11.2 zx17 zx18).bind fun zx19 =>
        (
          if zx19 = (7 : Int32) then
            (rcv zs11.2 5 this).bind fun zz23 =>
            (m_X7_readInit zs11.2 this).bind fun zq24 =>
            some ((), zq24.2)
          else
          if zx19 = (8 : Int32) then
            (rcv zs11.2 5 this).bind fun zz25 =>
            (m_X7_readBad zs11.2 this).bind fun zq26 =>
            some ((), zq26.2)
          else
          if zx19 = (9 : Int32) then
            (rcv zs11.2 5 this).bind fun zz27 =>
            (m_X7_readNext zs11.2 this).bind fun zq28 =>
            some ((), zq28.2)
          else
          (rcv zs11.2 5 this).bind fun zz29 =>
          (m_X7_fail zs11.2 this (1 : Int32)).bind fun zq30 =>
          some ((), zq30.2)
        ).bind fun (zj20 : Unit × Ce) =>
        (rcv zj20.2 5 this).bind fun zz21 =>
        (m_X7_takeSign zj20.2 this (59 : Int32)).bind fun zq22 =>
        some (Sum.inl ((zs11.1 + (1 : Int32)), zq22.2))
theorem ra_0 (ce : Ce) (this p1 : Nat) (p2 : Int32) : m_X7_readAll ce this p1 p2 = (rcv ce 5 this).bind fun zz1 => (m_X7_forget ce this).bind fun zq2 => (alen zq2.2 p1).bind fun zx3 => (m_J9_min_7cf53 p2 zx3).bind fun zx4 => (rcv zq2.2 5 this).bind fun zz5 => (m_X7_takeTokens zq2.2 this p1 zx4).bind fun zq6 => (gA zq6.2 5 0 this).bind fun zx7 => (gI zq6.2 5 4 this).bind fun zx8 => (aI zq6.2 zx7 zx8).bind fun zx9 => (if zx9 = (6 : Int32) then (rcv zq6.2 5 this).bind fun zz31 => (m_X7_readLetters zq6.2 this).bind fun zq32 => (rcv zq32.2 5 this).bind fun zz33 => (m_X7_takeSign zq32.2 this (59 : Int32)).bind fun zq34 => some ((), zq34.2) else some ((), zq6.2)).bind fun (zj10 : Unit × Ce) => (it (raB this) FU ((0 : Int32), zj10.2)).bind fun (zo12 : Unit × Ce) => some ((), zo12.2) := rfl
theorem ra_end (h : CHy d rd ka va pa cnt n f) {flt : Int32} (hd : d rd = some (.inr (5, rdX ka va pa (nI (cnt + 1)) (nI j) flt fp (nI LL) ini i0 nb al nt nl inp))) (hj : j ≤ cnt) (h0 : tK f n j = 0) (k : Int32) : raB rd (k, d) = some (.inr ((), d)) := by
  unfold raB
  show (if (300 : Int32) ≤ k then some (Sum.inr ((), d)) else (gA d 5 0 rd).bind fun zx14 => (gI d 5 4 rd).bind fun zx15 => (aI d zx14 zx15).bind fun zx16 => if zx16 = 0 then some (Sum.inr ((), d)) else _) = _
  by_cases e : (300 : Int32) ≤ k
  · rw [if_pos e]
  · rw [if_neg e, gA_c (k := 0) (x := ka) hd rfl, bind_s, gI_c (k := 4) (x := nI j) hd rfl, bind_s, cd_k h hj, bind_s, h0, if_pos (show nI 0 = 0 from rfl)]
theorem ra_step (hA : Adr rd ka va pa al nl) (h : CHy c0 rd ka va pa cnt n f) {τ : TS} (hC : CT c0 rd ka va pa cnt al nl d τ j) (hj : j ≤ cnt) (h0 : ¬ tK f n j = 0) {k : Nat} (hk : k < 300) : ∃ d2, raB rd (nI k, d) = some (.inl (nI (k + 1), d2)) ∧ CC c0 rd ka va pa cnt al nl f n (some ((), d2)) (pC (tK f n) (tV f n) false τ j) := by
  have hk9 := tK_le f n j
  have c1 := hC.1
  have hy := CHy_f hA h hC.2.2.2.2
  unfold raB
  show ∃ d2, (if (300 : Int32) ≤ nI k then some (Sum.inr ((), d)) else (gA d 5 0 rd).bind fun zx14 => (gI d 5 4 rd).bind fun zx15 => (aI d zx14 zx15).bind fun zx16 => if zx16 = 0 then some (Sum.inr ((), d)) else (gA d 5 0 rd).bind fun zx17 => (gI d 5 4 rd).bind fun zx18 => (aI d zx17 zx18).bind fun zx19 => (if zx19 = (7 : Int32) then (rcv d 5 rd).bind fun zz23 => (m_X7_readInit d rd).bind fun zq24 => some ((), zq24.2) else if zx19 = (8 : Int32) then (rcv d 5 rd).bind fun zz25 => (m_X7_readBad d rd).bind fun zq26 => some ((), zq26.2) else if zx19 = (9 : Int32) then (rcv d 5 rd).bind fun zz27 => (m_X7_readNext d rd).bind fun zq28 => some ((), zq28.2) else (rcv d 5 rd).bind fun zz29 => (m_X7_fail d rd (1 : Int32)).bind fun zq30 => some ((), zq30.2)).bind fun (zj20 : Unit × Ce) => (rcv zj20.2 5 rd).bind fun zz21 => (m_X7_takeSign zj20.2 rd (59 : Int32)).bind fun zq22 => some (Sum.inl ((nI k + (1 : Int32)), zq22.2))) = _ ∧ _
  rw [if_neg (show ¬ (300 : Int32) ≤ nI k from nI_ge (b := 300) hk (by omega)), gA_c (k := 0) (x := ka) c1 rfl, bind_s, gI_c (k := 4) (x := nI j) c1 rfl, bind_s, cd_k hy hj, bind_s, if_l 0 (0 : Int32) rfl (by omega) (by omega), if_neg h0, bind_s, bind_s, cd_k hy hj, bind_s, if_l 7 (7 : Int32) rfl (by omega) (by omega), if_l 8 (8 : Int32) rfl (by omega) (by omega), if_l 9 (9 : Int32) rfl (by omega) (by omega), rcv_c c1, bind_s, bind_s, bind_s, bind_s, nI_1]
  by_cases k7 : tK f n j = 7
  · obtain ⟨d1, d2, a1, a2, a3, a4⟩ := cl_sign hA h (cl_init hA h hC hj k7 false)
    rw [if_pos k7, a1, bind_s, bind_s, a2, bind_s, a3, bind_s]
    exact ⟨d2, rfl, a4⟩
  · rw [if_neg k7]
    by_cases k8 : tK f n j = 8
    · obtain ⟨d1, d2, a1, a2, a3, a4⟩ := cl_sign hA h (cl_bad hA h hC hj k8 false)
      rw [if_pos k8, a1, bind_s, bind_s, a2, bind_s, a3, bind_s]
      exact ⟨d2, rfl, a4⟩
    · rw [if_neg k8]
      by_cases k9 : tK f n j = 9
      · obtain ⟨d1, d2, a1, a2, a3, a4⟩ := cl_sign hA h (cl_next hA h hC hj k9 false)
        rw [if_pos k9, a1, bind_s, bind_s, a2, bind_s, a3, bind_s]
        exact ⟨d2, rfl, a4⟩
      · obtain ⟨d1, d2, a1, a2, a3, a4⟩ := cl_sign hA h (cl_other hA h hC hj k7 k8 k9)
        rw [if_neg k9, a1, bind_s, bind_s, a2, bind_s, a3, bind_s]
        exact ⟨d2, rfl, a4⟩
theorem it_in {σ ρ : Type} {body : σ → Option (σ ⊕ ρ)} (t : Nat) {s s2 : σ} (h : body s = some (.inl s2)) : it body (t + 1) s = it body t s2 := by
  show (body s).bind _ = _
  rw [h, bind_s]
  rfl
theorem ra_loop (hA : Adr rd ka va pa al nl) (h : CHy c0 rd ka va pa cnt n f) : ∀ s k τ j (d : Ce) t, CT c0 rd ka va pa cnt al nl d τ j → j ≤ cnt → 300 ≤ j + s → k ≤ j → s + 1 < t → (∀ e, pT (tK f n) (tV f n) s false τ j = .inl e → ∃ d2, it (raB rd) t (nI k, d) = some ((), d2) ∧ FT c0 rd ka va pa cnt al nl f n d2 e ∧ 0 < e.1 ∧ e.1 < 7) ∧ (∀ σ, pT (tK f n) (tV f n) s false τ j = .inr σ → ∃ d2 j2, it (raB rd) t (nI k, d) = some ((), d2) ∧ CT c0 rd ka va pa cnt al nl d2 σ j2) := by
  have hc := h.2.2.1
  have hz := h.2.2.2.1
  intro s
  induction s with
  | zero =>
    intro k τ j d t hC hj hs hk ht
    obtain ⟨t, rfl⟩ : ∃ r, t = r + 1 := ⟨t - 1, by omega⟩
    have e : j = cnt := by omega
    have e0 := ra_end (CHy_f hA h hC.2.2.2.2) hC.1 hj (by rw [e]; exact hz) (nI k)
    refine ⟨fun e he => (by cases he), fun σ hσ => ?_⟩
    cases hσ
    exact ⟨d, j, it_end t e0, hC⟩
  | succ s ih =>
    intro k τ j d t hC hj hs hk ht
    obtain ⟨t, rfl⟩ : ∃ r, t = r + 1 := ⟨t - 1, by omega⟩
    rw [pT]
    by_cases h0 : tK f n j = 0
    · have e0 := ra_end (CHy_f hA h hC.2.2.2.2) hC.1 hj h0 (nI k)
      rw [if_pos h0]
      refine ⟨fun e he => (by cases he), fun σ hσ => ?_⟩
      cases hσ
      exact ⟨d, j, it_end t e0, hC⟩
    · have hlt := CHy_lt h hj h0
      obtain ⟨d2, e0, hcl⟩ := ra_step hA h hC hj h0 (k := k) (by omega)
      rw [if_neg h0, it_in t e0]
      generalize hw : pC (tK f n) (tV f n) false τ j = w at hcl
      cases w with
      | inl e =>
        obtain ⟨b1, d3, b2, b3⟩ := hcl
        cases b2
        refine ⟨fun e2 he => ?_, fun σ hσ => (by cases hσ)⟩
        cases he
        obtain ⟨t, rfl⟩ : ∃ r, t = r + 1 := ⟨t - 1, by omega⟩
        obtain ⟨L, ini, i0, nb, nt, inp, b4⟩ := b3.1
        exact ⟨d2, it_end t (ra_end (CHy_f hA h b3.2.2.2) b4 (Nat.le_refl _) hz _), b3, b1.2⟩
      | inr y =>
        obtain ⟨b1, d3, b2, b3⟩ := hcl
        cases b2
        have hl2 := pC_lt (tK_300 (f := f) h.2.2.2.2.2.1) hw
        exact ih (k + 1) y.1 y.2 d2 t b3 b1 (by omega) (by omega) (by omega)
theorem pT_fi {K V : Nat → Nat} {s j : Nat} {τ : TS} (h : ¬ K j = 6) : pT K V (s + 1) true τ j = pT K V (s + 1) false τ j := by
  have e : pB K V true τ j = pB K V false τ j := by
    unfold pB
    rw [if_neg h, if_neg h]
  rw [pT, pT]
  unfold pC
  rw [e]
end
