/-! INPUTS: a letter's four next forms; the class's clause "next" -/
section
variable {c0 d : Ce} {rd ka va pa cnt n LL al nl : Nat} {ini : Int32} {i0 : Int64} {nb : Int32} {nt : Int32} {inp fp : Int32} {f : Nat → Nat} {j : Nat}
def InR (c0 : Ce) (rd ka va pa cnt al nl : Nat) (f : Nat → Nat) (n LL : Nat) (ini : Int32) (i0 : Int64) (nb nt : Int32) (G H : Nat → Int64) (l : Nat) (run : Option (Unit × Ce)) (res : PR) : Prop := match res with
  | .inl e => (e.2 ≤ cnt ∧ 0 < e.1 ∧ e.1 < 7) ∧ ∃ D2 H2, run = some ((), D2) ∧ D2 rd = some (.inr (5, rdX ka va pa (nI (cnt + 1)) (nI cnt) (nI e.1) (nI (tP f n e.2)) (nI LL) ini i0 nb al nt nl (-1))) ∧ D2 al = some (.inl (.long, 4, .inr (.inl G))) ∧ D2 nl = some (.inl (.long, 24, .inr (.inl H2))) ∧ Frb rd al nl c0 D2
  | .inr y => y.2 ≤ cnt ∧ ∃ D2 H2, run = some ((), D2) ∧ D2 rd = some (.inr (5, rdX ka va pa (nI (cnt + 1)) (nI y.2) 0 (-1) (nI LL) ini i0 nb al nt nl (-1))) ∧ D2 al = some (.inl (.long, 4, .inr (.inl G))) ∧ D2 nl = some (.inl (.long, 24, .inr (.inl H2))) ∧ Frb rd al nl c0 D2 ∧ ∀ q, q < 24 → H2 q = nfP H y.1 l q
theorem cd_inputs (hA : Adr rd ka va pa al nl) (h : CHy c0 rd ka va pa cnt n f) {D : Ce} {G H : Nat → Int64} {l s : Nat} (q1 : D rd = some (.inr (5, rdX ka va pa (nI (cnt + 1)) (nI s) 0 (-1) (nI LL) ini i0 nb al nt nl (-1)))) (q2 : D al = some (.inl (.long, 4, .inr (.inl G)))) (q3 : D nl = some (.inl (.long, 24, .inr (.inl H)))) (q4 : Frb rd al nl c0 D) (hL : LL ≤ 6) (hl : l < 6) (hs : s ≤ cnt) : InR c0 rd ka va pa cnt al nl f n LL ini i0 nb nt G H l (m_X7_readForInputs D rd (nI (4 * l))) (pF (tK f n) (tV f n) LL true 64 0 0 s) := by
  have r1 : gx_up D rd (.inr (5, rdX ka va pa (nI (cnt + 1)) (nI s) 0 (-1) (nI LL) ini i0 nb al nt nl (nI 0))) rd = some (.inr (5, rdX ka va pa (nI (cnt + 1)) (nI s) 0 (-1) (nI LL) ini i0 nb al nt nl (nI 0))) := gu_e _ _ _
  have r2 : gx_up D rd (.inr (5, rdX ka va pa (nI (cnt + 1)) (nI s) 0 (-1) (nI LL) ini i0 nb al nt nl (nI 0))) al = some (.inl (.long, 4, .inr (.inl G))) := (gu_n _ _ hA.2.1).trans q2
  have r3 : gx_up D rd (.inr (5, rdX ka va pa (nI (cnt + 1)) (nI s) 0 (-1) (nI LL) ini i0 nb al nt nl (nI 0))) nl = some (.inl (.long, 24, .inr (.inl H))) := (gu_n _ _ hA.2.2.1).trans q3
  have r4 : Frb rd al nl c0 (gx_up D rd (.inr (5, rdX ka va pa (nI (cnt + 1)) (nI s) 0 (-1) (nI LL) ini i0 nb al nt nl (nI 0)))) := fun b b1 b2 b3 => (gu_n _ _ b1).trans (q4 b b1 b2 b3)
  have ez : pV D 5 14 rd (.int (0 : Int32)) = some (gx_up D rd (.inr (5, rdX ka va pa (nI (cnt + 1)) (nI s) 0 (-1) (nI LL) ini i0 nb al nt nl (nI 0)))) := pV_c q1 (Nat.le_of_ble_eq_true rfl)
  rw [fi_0, gI_c (k := 4) (x := nI s) q1 rfl, bind_s, ez, bind_s]
  generalize gx_up D rd (.inr (5, rdX ka va pa (nI (cnt + 1)) (nI s) 0 (-1) (nI LL) ini i0 nb al nt nl (nI 0))) = D1 at r1 r2 r3 r4 ⊢
  have fin : ∀ (now flt fp2 inp2 : Int32) (E : Ce) (H2 : Nat → Int64), E rd = some (.inr (5, rdX ka va pa (nI (cnt + 1)) now flt fp2 (nI LL) ini i0 nb al nt nl inp2)) → E al = some (.inl (.long, 4, .inr (.inl G))) → E nl = some (.inl (.long, 24, .inr (.inl H2))) → Frb rd al nl c0 E → ∃ D2, ((pV E 5 14 rd (.int (-1 : Int32))).bind fun zc6 => (some ((), zc6) : Option (Unit × Ce))) = some ((), D2) ∧ D2 rd = some (.inr (5, rdX ka va pa (nI (cnt + 1)) now flt fp2 (nI LL) ini i0 nb al nt nl (-1))) ∧ D2 al = some (.inl (.long, 4, .inr (.inl G))) ∧ D2 nl = some (.inl (.long, 24, .inr (.inl H2))) ∧ Frb rd al nl c0 D2 := by
    intro now flt fp2 inp2 E H2 u1 u2 u3 u4
    rw [pV_c u1 (Nat.le_of_ble_eq_true rfl), bind_s]
    exact ⟨_, rfl, gu_e _ _ _, (gu_n _ _ hA.2.1).trans u2, (gu_n _ _ hA.2.2.1).trans u3, fun b b1 b2 b3 => (gu_n _ _ b1).trans (u4 b b1 b2 b3)⟩
  generalize hw : pF (tK f n) (tV f n) LL true 64 0 0 s = w
  cases w with
  | inl e =>
    obtain ⟨b1, D2, H2, g1, g2, g3, g4, g5⟩ := (fi_step hA h r1 r2 r3 r4 hL (by omega) hl hs).1 e hw
    have x1 : fiB rd (nI (4 * l)) (nI s) ((), D2) = some (.inr ((), D2)) := by
      unfold fiB
      show ((gI D2 5 14 rd).bind fun zx7 => if (4 : Int32) ≤ zx7 then some (Sum.inr ((), D2)) else (gI D2 5 14 rd).bind fun zx8 => (gA D2 5 13 rd).bind fun zx9 => (alen D2 zx9).bind fun zx10 => if zx10 ≤ (nI (4 * l) + zx8) then some (Sum.inr ((), D2)) else (gI D2 5 5 rd).bind fun zx11 => if zx11 = 0 then _ else some (Sum.inr ((), D2))) = _
      rw [gI_c (k := 14) (x := nI (0 + 1)) g2 rfl, bind_s, if_neg (show ¬ (4 : Int32) ≤ nI (0 + 1) from nI_ge (b := 4) (by omega) (by omega)), bind_s, gA_c (k := 13) (x := nl) g2 rfl, bind_s, alen_L g4, bind_s, nI_add, if_le (by omega) (by omega), if_neg (by omega), gI_c (k := 5) (x := nI e.1) g2 rfl, bind_s, if_neg (nI_ne0 b1.2.1 (by omega))]
    have x2 : it (fiB rd (nI (4 * l)) (nI s)) FU ((), D1) = some ((), D2) := by
      obtain ⟨t, ht⟩ := FU_split (k := 1) (by omega)
      rw [ht, show 1 + (t + 1) = (t + 1) + 1 by omega]
      show (fiB rd (nI (4 * l)) (nI s) ((), D1)).bind _ = _
      rw [g1, bind_s]
      exact it_end t x1
    obtain ⟨D3, f1, f2, f3, f4, f5⟩ := fin _ _ _ _ D2 H2 g2 g3 g4 g5
    rw [x2, bind_s]
    exact ⟨b1, D3, H2, f1, f2, f3, f4, f5⟩
  | inr y =>
    have hy : y.2 ≤ cnt := ((fi_step hA h r1 r2 r3 r4 hL (by omega) hl hs).2 y hw).1
    have key : Ok (it (fiB rd (nI (4 * l)) (nI s)) FU ((), D1)) (fun o => ∃ H2, o.2 rd = some (.inr (5, rdX ka va pa (nI (cnt + 1)) (nI y.2) 0 (-1) (nI LL) ini i0 nb al nt nl (nI 4))) ∧ o.2 al = some (.inl (.long, 4, .inr (.inl G))) ∧ o.2 nl = some (.inl (.long, 24, .inr (.inl H2))) ∧ Frb rd al nl c0 o.2 ∧ ∀ q, q < 24 → H2 q = nfP H y.1 l q) := by
      refine ok_cnt 0 4 (fun i st => ∃ now H2, st.2 rd = some (.inr (5, rdX ka va pa (nI (cnt + 1)) now 0 (-1) (nI LL) ini i0 nb al nt nl (nI i))) ∧ (0 < i → now = nI y.2) ∧ st.2 al = some (.inl (.long, 4, .inr (.inl G))) ∧ st.2 nl = some (.inl (.long, 24, .inr (.inl H2))) ∧ Frb rd al nl c0 st.2 ∧ ∀ q, q < 24 → H2 q = if 4 * l ≤ q ∧ q < 4 * l + i then y.1 (q - 4 * l) else H q) (by omega) (by omega) ⟨nI s, H, r1, fun hh => absurd hh (by omega), r2, r3, r4, fun q hq => by rw [if_neg (by omega)]⟩ ?_ ?_
      · rintro i ⟨⟨⟩, E⟩ hi ⟨now, H2, u1, u2, u3, u4, u5, u6⟩
        obtain ⟨_, D2, g1, g2, g3, g4, g5⟩ := (fi_step hA h u1 u3 u4 u5 hL hi hl hs).2 y hw
        refine ok_of g1 ⟨nI y.2, _, g2, fun _ => rfl, g3, g4, g5, fun q hq => ?_⟩
        by_cases e : q = 4 * l + i
        · rw [e, up_e, if_pos (by omega), show 4 * l + i - 4 * l = i by omega]
        · rw [up_n _ _ _ e, u6 q hq]
          by_cases e2 : 4 * l ≤ q ∧ q < 4 * l + i
          · rw [if_pos e2, if_pos (by omega)]
          · rw [if_neg e2, if_neg (by omega)]
      · rintro ⟨⟨⟩, E⟩ ⟨now, H2, u1, u2, u3, u4, u5, u6⟩
        have u2 := u2 (by omega)
        subst u2
        have x1 : fiB rd (nI (4 * l)) (nI s) ((), E) = some (.inr ((), E)) := by
          unfold fiB
          show ((gI E 5 14 rd).bind fun zx7 => if (4 : Int32) ≤ zx7 then some (Sum.inr ((), E)) else _) = _
          have u1 : E rd = _ := u1
          rw [gI_c (k := 14) (x := nI 4) u1 rfl, bind_s, if_pos (by decide)]
        exact ok_of x1 ⟨H2, u1, u3, u4, u5, u6⟩
    obtain ⟨⟨⟨⟩, E⟩, k0, H2, k1, k2, k3, k4, k5⟩ := key
    obtain ⟨D3, f1, f2, f3, f4, f5⟩ := fin _ _ _ _ E H2 k1 k2 k3 k4
    rw [k0, bind_s]
    exact ⟨hy, D3, H2, f1, f2, f3, f4, f5, k5⟩
theorem cl_next (hA : Adr rd ka va pa al nl) (h : CHy c0 rd ka va pa cnt n f) {τ : TS} (hC : CT c0 rd ka va pa cnt al nl d τ j) (hj : j ≤ cnt) (hK : tK f n j = 9) (fi : Bool) : CC c0 rd ka va pa cnt al nl f n (m_X7_readNext d rd) (pB (tK f n) (tV f n) fi τ j) := by
  have hlt := CHy_lt h hj (by omega)
  obtain ⟨d2, e1, hC2⟩ := CT_go hA h hC hlt
  have hC20 := hC2
  obtain ⟨c1, ⟨G, c2, c3⟩, ⟨H, c4, c5⟩, c6, c7⟩ := hC2
  obtain ⟨w, w1, w2⟩ := cd_v (CHy_f hA h c7) (j := j + 1) hlt
  have hk9 := tK_le f n (j + 1)
  unfold pB m_X7_readNext
  rw [if_neg (show ¬ tK f n j = 6 by omega), if_neg (show ¬ tK f n j = 7 by omega), if_neg (show ¬ tK f n j = 8 by omega), if_pos hK, rcv_c hC.1, bind_s, e1, bind_s, gA_c (k := 1) (x := va) c1 rfl, bind_s, gI_c (k := 4) (x := nI (j + 1)) c1 rfl, bind_s, w1, bind_s, gA_c (k := 0) (x := ka) c1 rfl, bind_s, bind_s, cd_k (CHy_f hA h c7) (j := j + 1) hlt, bind_s, if_l 2 (2 : Int32) rfl (by omega) (by omega)]
  by_cases k2 : tK f n (j + 1) = 2
  · have hw := w2 (by omega)
    have hV := tV_lt h.2.2.2.2.2.2 (j := j + 1) (by omega)
    have hlt2 : j + 1 < cnt := CHy_lt h hlt (by omega)
    rw [if_pos k2, if_pos k2, gI_c (k := 7) (x := nI τ.1) c1 rfl, bind_s, hw, if_lt (by omega) (by omega)]
    by_cases v6 : tV f n (j + 1) < τ.1
    · rw [if_pos v6, if_pos v6, gI_c (k := 12) (x := τ.2.2.2.2.2.1) c1 rfl, bind_s]
      by_cases n1 : ((τ.2.2.2.2.2.1 >>> (nI (tV f n (j + 1)) &&& 31)) &&& (1 : Int32)) = (1 : Int32)
      · obtain ⟨d5, g1, g2⟩ := FT_fail hA h hC20 hlt 4 (by omega) (by omega) (4 : Int32) rfl
        rw [if_pos n1, if_neg (by rw [n1]; decide), rcv_c c1, bind_s, g1, bind_s]
        exact ⟨⟨hlt, Nat.le_of_ble_eq_true rfl, Nat.le_of_ble_eq_true rfl⟩, d5, rfl, g2⟩
      · have n0 := (and1I (τ.2.2.2.2.2.1 >>> (nI (tV f n (j + 1)) &&& 31))).resolve_right n1
        rw [if_neg n1, if_pos n0, bind_s]
        have ez : pV d2 5 12 rd (.int (τ.2.2.2.2.2.1 ||| ((1 : Int32) <<< (nI (tV f n (j + 1)) &&& 31)))) = some (gx_up d2 rd (.inr (5, rdX ka va pa (nI (cnt + 1)) (nI (j + 1)) 0 (-1) (nI τ.1) (if τ.2.1 = true then 1 else 0) τ.2.2.1 (nI τ.2.2.2.1) al (τ.2.2.2.2.2.1 ||| ((1 : Int32) <<< (nI (tV f n (j + 1)) &&& 31))) nl (-1)))) := pV_c c1 (Nat.le_of_ble_eq_true rfl)
        have hF1 : Frb rd al nl c0 (gx_up d2 rd (.inr (5, rdX ka va pa (nI (cnt + 1)) (nI (j + 1)) 0 (-1) (nI τ.1) (if τ.2.1 = true then 1 else 0) τ.2.2.1 (nI τ.2.2.2.1) al (τ.2.2.2.2.2.1 ||| ((1 : Int32) <<< (nI (tV f n (j + 1)) &&& 31))) nl (-1)))) := fun b b1 b2 b3 => (gu_n _ _ b1).trans (c7 b b1 b2 b3)
        have r1 : gx_up d2 rd (.inr (5, rdX ka va pa (nI (cnt + 1)) (nI (j + 1)) 0 (-1) (nI τ.1) (if τ.2.1 = true then 1 else 0) τ.2.2.1 (nI τ.2.2.2.1) al (τ.2.2.2.2.2.1 ||| ((1 : Int32) <<< (nI (tV f n (j + 1)) &&& 31))) nl (-1))) rd = _ := gu_e _ _ _
        have g1 : gx_up d2 rd (.inr (5, rdX ka va pa (nI (cnt + 1)) (nI (j + 1)) 0 (-1) (nI τ.1) (if τ.2.1 = true then 1 else 0) τ.2.2.1 (nI τ.2.2.2.1) al (τ.2.2.2.2.2.1 ||| ((1 : Int32) <<< (nI (tV f n (j + 1)) &&& 31))) nl (-1))) al = _ := (gu_n _ _ hA.2.1).trans c2
        have g2 : gx_up d2 rd (.inr (5, rdX ka va pa (nI (cnt + 1)) (nI (j + 1)) 0 (-1) (nI τ.1) (if τ.2.1 = true then 1 else 0) τ.2.2.1 (nI τ.2.2.2.1) al (τ.2.2.2.2.2.1 ||| ((1 : Int32) <<< (nI (tV f n (j + 1)) &&& 31))) nl (-1))) nl = _ := (gu_n _ _ hA.2.2.1).trans c4
        rw [ez, bind_s]
        generalize gx_up d2 rd (.inr (5, rdX ka va pa (nI (cnt + 1)) (nI (j + 1)) 0 (-1) (nI τ.1) (if τ.2.1 = true then 1 else 0) τ.2.2.1 (nI τ.2.2.2.1) al (τ.2.2.2.2.2.1 ||| ((1 : Int32) <<< (nI (tV f n (j + 1)) &&& 31))) nl (-1))) = d3 at hF1 r1 g1 g2 ⊢
        rw [rcv_c r1, bind_s, cd_goOn (CHy_f hA h hF1) r1 hlt2, bind_s, rcv_c (hR_e _ _ _), bind_s, show (4 : Int32) = nI 4 from rfl, pk_mul, Nat.mul_comm (tV f n (j + 1)) 4]
        have hF2 : Frb rd al nl c0 (hR d3 rd ka va pa cnt τ.1 (if τ.2.1 = true then 1 else 0) τ.2.2.1 (nI τ.2.2.2.1) al (τ.2.2.2.2.2.1 ||| ((1 : Int32) <<< (nI (tV f n (j + 1)) &&& 31))) nl (-1) (nI (j + 1 + 1)) 0 (-1)) := fun b b1 b2 b3 => (hR_n _ _ _ b1).trans (hF1 b b1 b2 b3)
        have fm := cd_inputs hA h (l := tV f n (j + 1)) (s := j + 2) (hR_e (ce := d3) _ _ _) ((hR_n _ _ _ hA.2.1).trans g1) ((hR_n _ _ _ hA.2.2.1).trans g2) hF2 c6.2.1 (by omega) hlt2
        generalize hww : pF (tK f n) (tV f n) τ.1 true 64 0 0 (j + 2) = ww at fm
        cases ww with
        | inl e =>
          obtain ⟨b1, D2, H2, b2, b3, b4, b5, b6⟩ := fm
          rw [b2, bind_s]
          exact ⟨b1, D2, rfl, ⟨_, _, _, _, _, _, b3⟩, ⟨_, b4⟩, ⟨_, b5⟩, b6⟩
        | inr y =>
          obtain ⟨b1, D2, H2, b2, b3, b4, b5, b6, b7⟩ := fm
          rw [b2, bind_s]
          refine ⟨b1, D2, rfl, b3, ⟨G, b4, c3⟩, ⟨H2, b5, fun q hq => ?_⟩, c6, b6⟩
          rw [b7 q hq]
          show nfP H y.1 (tV f n (j + 1)) q = nfP τ.2.2.2.2.2.2 y.1 (tV f n (j + 1)) q
          unfold nfP
          rw [c5 q hq]
    · obtain ⟨d5, g1, g2⟩ := FT_fail hA h hC20 hlt 3 (by omega) (by omega) (3 : Int32) rfl
      rw [if_neg v6, if_neg v6, rcv_c c1, bind_s, g1, bind_s]
      exact ⟨⟨hlt, Nat.le_of_ble_eq_true rfl, Nat.le_of_ble_eq_true rfl⟩, d5, rfl, g2⟩
  · obtain ⟨d5, g1, g2⟩ := FT_fail hA h hC20 hlt 1 (by omega) (by omega) (1 : Int32) rfl
    rw [if_neg k2, if_neg k2, rcv_c c1, bind_s, g1, bind_s]
    exact ⟨⟨hlt, Nat.le_of_ble_eq_true rfl, Nat.le_of_ble_eq_true rfl⟩, d5, rfl, g2⟩
end
