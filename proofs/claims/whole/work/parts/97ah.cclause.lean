/-! CLAUSES of the class -/
section
variable {c0 d : Ce} {rd ka va pa cnt n LL al nl : Nat} {ini : Int32} {i0 : Int64} {nb : Int32} {nt : Int32} {inp fp : Int32} {f : Nat → Nat} {j : Nat}
/-- where the reader's rows lie -/
def Adr (rd ka va pa al nl : Nat) : Prop := Dis rd ka va pa ∧ al ≠ rd ∧ nl ≠ rd ∧ al ≠ nl ∧ (ka ≠ al ∧ va ≠ al ∧ pa ≠ al) ∧ (ka ≠ nl ∧ va ≠ nl ∧ pa ≠ nl)
def Frb (rd al nl : Nat) (c0 d : Ce) : Prop := ∀ b, b ≠ rd → b ≠ al → b ≠ nl → d b = c0 b
def CT (c0 : Ce) (rd ka va pa cnt al nl : Nat) (d : Ce) (τ : TS) (j : Nat) : Prop := d rd = some (.inr (5, rdX ka va pa (nI (cnt + 1)) (nI j) 0 (-1) (nI τ.1) (if τ.2.1 = true then 1 else 0) τ.2.2.1 (nI τ.2.2.2.1) al τ.2.2.2.2.2.1 nl (-1))) ∧ (∃ G, d al = some (.inl (.long, 4, .inr (.inl G))) ∧ ∀ i, i < 4 → G i = τ.2.2.2.2.1 i) ∧ (∃ G, d nl = some (.inl (.long, 24, .inr (.inl G))) ∧ ∀ q, q < 24 → G q = τ.2.2.2.2.2.2 q) ∧ (1 ≤ τ.1 ∧ τ.1 ≤ 6 ∧ τ.2.2.2.1 ≤ 4) ∧ Frb rd al nl c0 d
def FT (c0 : Ce) (rd ka va pa cnt al nl : Nat) (f : Nat → Nat) (n : Nat) (d : Ce) (e : Nat × Nat) : Prop := (∃ L ini i0 nb nt inp, d rd = some (.inr (5, rdX ka va pa (nI (cnt + 1)) (nI cnt) (nI e.1) (nI (tP f n e.2)) (nI L) ini i0 nb al nt nl inp))) ∧ (∃ G, d al = some (.inl (.long, 4, .inr (.inl G)))) ∧ (∃ G, d nl = some (.inl (.long, 24, .inr (.inl G)))) ∧ Frb rd al nl c0 d
theorem CHy_f (hA : Adr rd ka va pa al nl) (h : CHy c0 rd ka va pa cnt n f) (hF : Frb rd al nl c0 d) : CHy d rd ka va pa cnt n f := by
  obtain ⟨⟨d1, d2, d3, d4, d5, d6⟩, ⟨Fk, Fv, Fp, a1, a2, a3, a4⟩, h2⟩ := h
  obtain ⟨_, x1, x2, x3, ⟨y1, y2, y3⟩, ⟨z1, z2, z3⟩⟩ := hA
  exact ⟨⟨d1, d2, d3, d4, d5, d6⟩, ⟨Fk, Fv, Fp, (hF ka (Ne.symm d1) y1 z1).trans a1, (hF va (Ne.symm d2) y2 z2).trans a2, (hF pa (Ne.symm d3) y3 z3).trans a3, a4⟩, h2⟩
theorem hR_self (hd : d rd = some (.inr (5, rdX ka va pa (nI (cnt + 1)) (nI j) 0 fp (nI LL) ini i0 nb al nt nl inp))) : hR d rd ka va pa cnt LL ini i0 nb al nt nl inp (nI j) 0 fp = d := gu_self hd
theorem cd_goOn (h : CHy d rd ka va pa cnt n f) (hd : d rd = some (.inr (5, rdX ka va pa (nI (cnt + 1)) (nI j) 0 fp (nI LL) ini i0 nb al nt nl inp))) (hj : j < cnt) : m_X7_goOn d rd = some ((), hR d rd ka va pa cnt LL ini i0 nb al nt nl inp (nI (j + 1)) 0 fp) := by
  have := cf_goOn (LL := LL) (ini := ini) (i0 := i0) (nb := nb) (al := al) (nt := nt) (nl := nl) (inp := inp) h 0 fp hj
  rw [hR_self hd] at this
  exact this
theorem cd_fail (h : CHy d rd ka va pa cnt n f) (hd : d rd = some (.inr (5, rdX ka va pa (nI (cnt + 1)) (nI j) 0 fp (nI LL) ini i0 nb al nt nl inp))) (hj : j ≤ cnt) (e : Int32) : m_X7_fail d rd e = some ((), hR d rd ka va pa cnt LL ini i0 nb al nt nl inp (nI cnt) e (nI (tP f n j))) := by
  have := cf_fail (LL := LL) (ini := ini) (i0 := i0) (nb := nb) (al := al) (nt := nt) (nl := nl) (inp := inp) h fp hj e
  rw [hR_self hd] at this
  exact this
theorem cd_form (h : CHy d rd ka va pa cnt n f) (hd : d rd = some (.inr (5, rdX ka va pa (nI (cnt + 1)) (nI j) 0 fp (nI LL) ini i0 nb al nt nl inp))) (hL : LL ≤ 6) {i : Nat} {nx : Bool} (hi : Inp nx i inp) (hj : j ≤ cnt) : RC d rd ka va pa cnt LL ini i0 nb al nt nl inp f n i fp (m_X7_readForm d rd (0 : Int32) (0 : Int32)) (pF (tK f n) (tV f n) LL nx 64 0 0 j) := by
  have := cf_form (LL := LL) (ini := ini) (i0 := i0) (nb := nb) (al := al) (nt := nt) (nl := nl) (inp := inp) h hL hi fp hj
  rw [hR_self hd] at this
  exact this
def CC (c0 : Ce) (rd ka va pa cnt al nl : Nat) (f : Nat → Nat) (n : Nat) (run : Option (Unit × Ce)) (res : CR) : Prop := match res with
  | .inl e => (e.2 ≤ cnt ∧ 0 < e.1 ∧ e.1 < 7) ∧ ∃ d, run = some ((), d) ∧ FT c0 rd ka va pa cnt al nl f n d e
  | .inr y => y.2 ≤ cnt ∧ ∃ d, run = some ((), d) ∧ CT c0 rd ka va pa cnt al nl d y.1 y.2
theorem FT_fail (hA : Adr rd ka va pa al nl) (h : CHy c0 rd ka va pa cnt n f) {τ : TS} (hC : CT c0 rd ka va pa cnt al nl d τ j) (hj : j ≤ cnt) (e : Nat) (h1 : 0 < e) (h2 : e < 7) (v : Int32) (hv : v = nI e) : ∃ d2, m_X7_fail d rd v = some ((), d2) ∧ FT c0 rd ka va pa cnt al nl f n d2 (e, j) := by
  obtain ⟨c1, ⟨G, c2, c3⟩, ⟨H, c4, c5⟩, c6, c7⟩ := hC
  subst hv
  refine ⟨_, cd_fail (CHy_f hA h c7) c1 hj _, ⟨_, _, _, _, _, _, hR_e _ _ _⟩, ⟨G, (hR_n _ _ _ hA.2.1).trans c2⟩, ⟨H, (hR_n _ _ _ hA.2.2.1).trans c4⟩, fun b b1 b2 b3 => (hR_n _ _ _ b1).trans (c7 b b1 b2 b3)⟩
theorem cl_init (hA : Adr rd ka va pa al nl) (h : CHy c0 rd ka va pa cnt n f) {τ : TS} (hC : CT c0 rd ka va pa cnt al nl d τ j) (hj : j ≤ cnt) (hK : tK f n j = 7) (fi : Bool) : CC c0 rd ka va pa cnt al nl f n (m_X7_readInit d rd) (pB (tK f n) (tV f n) fi τ j) := by
  have hC0 := hC
  obtain ⟨c1, ⟨G, c2, c3⟩, ⟨H, c4, c5⟩, c6, c7⟩ := hC
  unfold pB m_X7_readInit
  rw [if_neg (show ¬ tK f n j = 6 by omega), if_pos hK, gI_c (k := 8) (x := if τ.2.1 = true then 1 else 0) c1 rfl, bind_s]
  by_cases hi : τ.2.1 = true
  · rw [if_pos hi, if_pos hi, if_neg ne10, rcv_c c1, bind_s]
    obtain ⟨d2, e1, e2⟩ := FT_fail hA h hC0 hj 4 (by omega) (by omega) (4 : Int32) rfl
    rw [e1, bind_s]
    exact ⟨⟨hj, Nat.le_of_ble_eq_true rfl, Nat.le_of_ble_eq_true rfl⟩, d2, rfl, e2⟩
  · have hlt := CHy_lt h hj (by omega)
    rw [if_neg hi, if_neg hi, if_pos rfl]
    have ez : pZ d 5 8 rd (1 : Int32) = some (gx_up d rd (.inr (5, rdX ka va pa (nI (cnt + 1)) (nI j) 0 (-1) (nI τ.1) 1 τ.2.2.1 (nI τ.2.2.2.1) al τ.2.2.2.2.2.1 nl (-1)))) := by
      unfold pZ
      rw [if_pos (Or.inr rfl)]
      exact pV_c c1 (Nat.le_of_ble_eq_true rfl)
    have hF1 : Frb rd al nl c0 (gx_up d rd (.inr (5, rdX ka va pa (nI (cnt + 1)) (nI j) 0 (-1) (nI τ.1) 1 τ.2.2.1 (nI τ.2.2.2.1) al τ.2.2.2.2.2.1 nl (-1)))) := fun b b1 b2 b3 => (gu_n _ _ b1).trans (c7 b b1 b2 b3)
    have r1 : gx_up d rd (.inr (5, rdX ka va pa (nI (cnt + 1)) (nI j) 0 (-1) (nI τ.1) 1 τ.2.2.1 (nI τ.2.2.2.1) al τ.2.2.2.2.2.1 nl (-1))) rd = _ := gu_e _ _ _
    have g1 : gx_up d rd (.inr (5, rdX ka va pa (nI (cnt + 1)) (nI j) 0 (-1) (nI τ.1) 1 τ.2.2.1 (nI τ.2.2.2.1) al τ.2.2.2.2.2.1 nl (-1))) al = _ := (gu_n _ _ hA.2.1).trans c2
    have g2 : gx_up d rd (.inr (5, rdX ka va pa (nI (cnt + 1)) (nI j) 0 (-1) (nI τ.1) 1 τ.2.2.1 (nI τ.2.2.2.1) al τ.2.2.2.2.2.1 nl (-1))) nl = _ := (gu_n _ _ hA.2.2.1).trans c4
    rw [ez, bind_s]
    generalize gx_up d rd (.inr (5, rdX ka va pa (nI (cnt + 1)) (nI j) 0 (-1) (nI τ.1) 1 τ.2.2.1 (nI τ.2.2.2.1) al τ.2.2.2.2.2.1 nl (-1))) = d1 at hF1 r1 g1 g2 ⊢
    rw [rcv_c r1, bind_s, cd_goOn (CHy_f hA h hF1) r1 hlt, bind_s, rcv_c (hR_e _ _ _), bind_s]
    have hF2 : Frb rd al nl c0 (hR d1 rd ka va pa cnt τ.1 1 τ.2.2.1 (nI τ.2.2.2.1) al τ.2.2.2.2.2.1 nl (-1) (nI (j + 1)) 0 (-1)) := fun b b1 b2 b3 => (hR_n _ _ _ b1).trans (hF1 b b1 b2 b3)
    have fm := cd_form (CHy_f hA h hF2) (hR_e _ _ _) c6.2.1 (i := 0) (nx := false) (Or.inr ⟨rfl, rfl, rfl⟩) hlt
    generalize hw : pF (tK f n) (tV f n) τ.1 false 64 0 0 (j + 1) = w at fm
    cases w with
    | inl w =>
      obtain ⟨b1, v, b2⟩ := fm
      rw [b2, bind_s, pV_c (hR_e _ _ _) (Nat.le_of_ble_eq_true rfl), bind_s]
      exact ⟨b1, _, rfl, ⟨_, _, _, _, _, _, gu_e _ _ _⟩, ⟨G, ((gu_n _ _ hA.2.1).trans (hR_n _ _ _ hA.2.1)).trans ((hR_n _ _ _ hA.2.1).trans g1)⟩, ⟨H, ((gu_n _ _ hA.2.2.1).trans (hR_n _ _ _ hA.2.2.1)).trans ((hR_n _ _ _ hA.2.2.1).trans g2)⟩, fun b b1 b2 b3 => ((gu_n _ _ b1).trans (hR_n _ _ _ b1)).trans (hF2 b b1 b2 b3)⟩
    | inr w =>
      obtain ⟨b1, b2⟩ := fm
      rw [b2, bind_s, pV_c (hR_e _ _ _) (Nat.le_of_ble_eq_true rfl), bind_s]
      exact ⟨b1, _, rfl, gu_e _ _ _, ⟨G, ((gu_n _ _ hA.2.1).trans (hR_n _ _ _ hA.2.1)).trans ((hR_n _ _ _ hA.2.1).trans g1), c3⟩, ⟨H, ((gu_n _ _ hA.2.2.1).trans (hR_n _ _ _ hA.2.2.1)).trans ((hR_n _ _ _ hA.2.2.1).trans g2), c5⟩, c6, fun b b1 b2 b3 => ((gu_n _ _ b1).trans (hR_n _ _ _ b1)).trans (hF2 b b1 b2 b3)⟩
theorem cl_bad (hA : Adr rd ka va pa al nl) (h : CHy c0 rd ka va pa cnt n f) {τ : TS} (hC : CT c0 rd ka va pa cnt al nl d τ j) (hj : j ≤ cnt) (hK : tK f n j = 8) (fi : Bool) : CC c0 rd ka va pa cnt al nl f n (m_X7_readBad d rd) (pB (tK f n) (tV f n) fi τ j) := by
  have hC0 := hC
  obtain ⟨c1, ⟨G, c2, c3⟩, ⟨H, c4, c5⟩, c6, c7⟩ := hC
  unfold pB m_X7_readBad
  rw [if_neg (show ¬ tK f n j = 6 by omega), if_neg (show ¬ tK f n j = 7 by omega), if_pos hK, gI_c (k := 10) (x := nI τ.2.2.2.1) c1 rfl, bind_s, gA_c (k := 11) (x := al) c1 rfl, bind_s, alen_L c2, bind_s, if_lt (by omega) (by omega)]
  by_cases hb : τ.2.2.2.1 = 4
  · rw [if_pos hb, if_neg (by omega), rcv_c c1, bind_s]
    obtain ⟨d2, e1, e2⟩ := FT_fail hA h hC0 hj 4 (by omega) (by omega) (4 : Int32) rfl
    rw [e1, bind_s]
    exact ⟨⟨hj, Nat.le_of_ble_eq_true rfl, Nat.le_of_ble_eq_true rfl⟩, d2, rfl, e2⟩
  · have hlt := CHy_lt h hj (by omega)
    rw [if_neg hb, if_pos (by omega), rcv_c c1, bind_s, cd_goOn (CHy_f hA h c7) c1 hlt, bind_s, gA_c (k := 11) (x := al) (hR_e _ _ _) rfl, bind_s, gI_c (k := 10) (x := nI τ.2.2.2.1) (hR_e _ _ _) rfl, bind_s, rcv_c (hR_e _ _ _), bind_s]
    have hF2 : Frb rd al nl c0 (hR d rd ka va pa cnt τ.1 (if τ.2.1 = true then 1 else 0) τ.2.2.1 (nI τ.2.2.2.1) al τ.2.2.2.2.2.1 nl (-1) (nI (j + 1)) 0 (-1)) := fun b b1 b2 b3 => (hR_n _ _ _ b1).trans (c7 b b1 b2 b3)
    have fm := cd_form (CHy_f hA h hF2) (hR_e _ _ _) c6.2.1 (i := 0) (nx := false) (Or.inr ⟨rfl, rfl, rfl⟩) hlt
    have nal : rd ≠ al := Ne.symm hA.2.1
    have fin : ∀ (now flt fp2 : Int32) (v : Int64) (D : Ce), D = hR (hR d rd ka va pa cnt τ.1 (if τ.2.1 = true then 1 else 0) τ.2.2.1 (nI τ.2.2.2.1) al τ.2.2.2.2.2.1 nl (-1) (nI (j + 1)) 0 (-1)) rd ka va pa cnt τ.1 (if τ.2.1 = true then 1 else 0) τ.2.2.1 (nI τ.2.2.2.1) al τ.2.2.2.2.2.1 nl (-1) now flt fp2 → ∃ D2, ((sL D al (nI τ.2.2.2.1) v).bind fun zc10 => (gI zc10 5 10 rd).bind fun zx11 => (pV zc10 5 10 rd (.int (zx11 + (1 : Int32)))).bind fun zc12 => some ((), zc12)) = some ((), D2) ∧ D2 rd = some (.inr (5, rdX ka va pa (nI (cnt + 1)) now flt fp2 (nI τ.1) (if τ.2.1 = true then 1 else 0) τ.2.2.1 (nI (τ.2.2.2.1 + 1)) al τ.2.2.2.2.2.1 nl (-1))) ∧ D2 al = some (.inl (.long, 4, .inr (.inl (va_up G τ.2.2.2.1 v)))) ∧ D2 nl = some (.inl (.long, 24, .inr (.inl H))) ∧ Frb rd al nl c0 D2 := by
      intro now flt fp2 v D hD
      have q1 : D rd = some (.inr (5, rdX ka va pa (nI (cnt + 1)) now flt fp2 (nI τ.1) (if τ.2.1 = true then 1 else 0) τ.2.2.1 (nI τ.2.2.2.1) al τ.2.2.2.2.2.1 nl (-1))) := by rw [hD]; exact hR_e _ _ _
      have q2 : D al = some (.inl (.long, 4, .inr (.inl G))) := by rw [hD]; exact (hR_n _ _ _ hA.2.1).trans ((hR_n _ _ _ hA.2.1).trans c2)
      have q3 : D nl = some (.inl (.long, 24, .inr (.inl H))) := by rw [hD]; exact (hR_n _ _ _ hA.2.2.1).trans ((hR_n _ _ _ hA.2.2.1).trans c4)
      have q4 : Frb rd al nl c0 D := fun b b1 b2 b3 => by rw [hD]; exact (hR_n _ _ _ b1).trans (hF2 b b1 b2 b3)
      have q5 : gx_up D al (.inl (.long, 4, .inr (.inl (va_up G τ.2.2.2.1 v)))) rd = some (.inr (5, rdX ka va pa (nI (cnt + 1)) now flt fp2 (nI τ.1) (if τ.2.1 = true then 1 else 0) τ.2.2.1 (nI τ.2.2.2.1) al τ.2.2.2.2.2.1 nl (-1))) := (gu_n _ _ nal).trans q1
      rw [sL_c q2 (by omega) (by omega), bind_s, gI_c (k := 10) (x := nI τ.2.2.2.1) q5 rfl, bind_s, nI_1, pV_c q5 (Nat.le_of_ble_eq_true rfl), bind_s]
      exact ⟨_, rfl, gu_e _ _ _, (gu_n _ _ hA.2.1).trans (gu_e _ _ _), ((gu_n _ _ hA.2.2.1).trans (gu_n _ _ (Ne.symm hA.2.2.2.1))).trans q3, fun b b1 b2 b3 => ((gu_n _ _ b1).trans (gu_n _ _ b2)).trans (q4 b b1 b2 b3)⟩
    generalize hw : pF (tK f n) (tV f n) τ.1 false 64 0 0 (j + 1) = w at fm
    cases w with
    | inl w =>
      obtain ⟨b1, v, b2⟩ := fm
      obtain ⟨D2, e1, e2, e3, e4, e5⟩ := fin _ _ _ v _ rfl
      rw [b2, bind_s, e1]
      exact ⟨b1, D2, rfl, ⟨_, _, _, _, _, _, e2⟩, ⟨_, e3⟩, ⟨_, e4⟩, e5⟩
    | inr w =>
      obtain ⟨b1, b2⟩ := fm
      obtain ⟨D2, e1, e2, e3, e4, e5⟩ := fin _ _ _ (w.1 0) _ rfl
      rw [b2, bind_s, e1]
      refine ⟨b1, D2, rfl, e2, ⟨_, e3, fun i hi => ?_⟩, ⟨_, e4, c5⟩, ⟨c6.1, c6.2.1, ?_⟩, e5⟩
      · show va_up G τ.2.2.2.1 (w.1 0) i = va_up τ.2.2.2.2.1 τ.2.2.2.1 (w.1 0) i
        by_cases e : i = τ.2.2.2.1
        · rw [e, up_e, up_e]
        · rw [up_n _ _ _ e, up_n _ _ _ e]
          exact c3 i hi
      · show τ.2.2.2.1 + 1 ≤ 4
        omega
end
