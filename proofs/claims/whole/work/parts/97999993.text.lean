/-! A TEXT's MACHINE: the class -/
def scT (nf : Nat → Int64) (s i : Nat) : Nat → Nat
  | 0 => 0
  | l + 1 => scT nf s i l + if B (nf (4 * l + i)) s then 2 ^ l else 0
theorem scT_lt (nf : Nat → Int64) (s i : Nat) : ∀ l, scT nf s i l < 2 ^ l := by
  intro l
  induction l with
  | zero => exact Nat.one_pos
  | succ l ih =>
    rw [scT, Nat.pow_succ]
    split <;> omega
theorem scT_bit (nf : Nat → Int64) (s i b : Nat) : ∀ l, (scT nf s i l).testBit b = (decide (b < l) && B (nf (4 * b + i)) s) := by
  intro l
  induction l with
  | zero => simp [scT]
  | succ l ih =>
    have hlt := scT_lt nf s i l
    rw [scT]
    by_cases hb : B (nf (4 * l + i)) s = true
    · rw [if_pos hb, Nat.add_comm]
      by_cases e : b = l
      · subst e
        rw [Nat.testBit_two_pow_add_eq, Nat.testBit_lt_two_pow hlt, hb]
        simp
      · by_cases h2 : b < l
        · rw [Nat.testBit_two_pow_add_gt h2, ih]
          simp [h2, show b < l + 1 by omega]
        · have h3 : 2 ^ l + scT nf s i l < 2 ^ b := by
            have : 2 ^ (l + 1) ≤ 2 ^ b := Nat.pow_le_pow_right (by omega) (by omega)
            rw [Nat.pow_succ] at this
            omega
          rw [Nat.testBit_lt_two_pow h3]
          simp [show ¬ b < l + 1 by omega]
    · rw [if_neg hb, Nat.add_zero, ih]
      by_cases e : b = l
      · subst e
        have hb : B (nf (4 * b + i)) s = false := by simpa using hb
        simp [hb]
      · have : decide (b < l) = decide (b < l + 1) := by
          by_cases h2 : b < l
          · simp [h2, show b < l + 1 by omega]
          · simp [h2, show ¬ b < l + 1 by omega]
        rw [this]
def txM (L : Nat) (i0 : Int64) (na : Nat) (Af nf : Nat → Int64) : Mv := mkM L (fun s i => scT nf s i L) i0 na Af
theorem cc_min2 {a b : Nat} (ha : a < 2 ^ 31) (hb : b < 2 ^ 31) (h : b < a) : m_J9_min_7cf53 (nI a) (nI b) = some (nI b) := by
  unfold m_J9_min_7cf53
  rw [if_lt hb ha, if_pos h]
/-- a row of longs is cut, or is as long -/
theorem cc_cutL {ce : Ce} {nx a n N : Nat} {F : Nat → Int64} (h : ce a = some (.inl (.long, n, .inr (.inl F)))) (ha : a ≠ nx) (hn : N ≤ n) (hN : n ≤ 2000000) : ∃ G, m_J7_copyOf_c38d5 nx ce a (nI N) = some (nx, gx_up ce nx (.inl (.long, N, .inr (.inl G))), 1, N) ∧ ∀ i, i < N → G i = F i := by
  unfold m_J7_copyOf_c38d5
  rw [alen_L h, bind_s, if_eq (by omega) (by omega)]
  by_cases e : N = n
  · subst e
    refine ⟨F, ?_, fun _ _ => rfl⟩
    have hc : clnL ce a = some (N, F) := by
      unfold clnL
      rw [h]
    rw [if_pos rfl, hc, bind_s]
    show adc 1 N (some (nx, gx_up ce nx (.inl (.long, N, .inr (.inl F))), 0, 0)) = _
    show some (nx, _, 0 + 1, 0 + N) = _
    rw [Nat.zero_add, Nat.zero_add]
  · refine ⟨va_cpy F (fun _ => 0) 0 0 N, ?_, fun i hi => ?_⟩
    · rw [if_neg e, nwa_n (by omega), bind_s]
      have h2 : gx_up ce nx (.inl (.long, N, .inr (.inl fun _ => 0))) a = some (.inl (.long, n, .inr (.inl F))) := by rw [gu_n _ _ ha]; exact h
      have e0 : cpL (gx_up ce nx (.inl (.long, N, .inr (.inl fun _ => 0)))) a (0 : Int32) nx (0 : Int32) (nI N) = some _ := cpL_c (sp := 0) (dp := 0) h2 (gu_e _ _ _) (by omega) (by omega) (by omega) (by omega)
      have e : ((some (gx_up ce nx (.inl (.long, N, .inr (.inl fun _ => 0))))).bind fun zc3 => (alen zc3 a).bind fun zx5 => (m_J9_min_7cf53 zx5 (nI N)).bind fun zx6 => (cpL zc3 a (0 : Int32) nx (0 : Int32) zx6).bind fun zc7 => some (nx, zc7, 0, 0)) = some (nx, gx_up ce nx (.inl (.long, N, .inr (.inl (va_cpy F (fun _ => 0) 0 0 N)))), 0, 0) := by
        rw [bind_s, alen_L h2, bind_s, cc_min2 (by omega) (by omega) (by omega), bind_s, e0, bind_s, gu_gu]
      show adc 1 N _ = _
      rw [e]
      show some (nx, _, 0 + 1, 0 + N) = _
      rw [Nat.zero_add, Nat.zero_add]
    · rw [pk_cpy_in (by omega) (by omega)]
      exact congrArg F (by omega)
/-- what a reader holds of a text that it took in -/
def RdT (ce : Ce) (rd al nl L n : Nat) (i0 : Int64) (Af nf : Nat → Int64) : Prop := (rcv ce 5 rd = some () ∧ gI ce 5 7 rd = some (nI L) ∧ gJ ce 5 9 rd = some i0 ∧ gI ce 5 10 rd = some (nI n) ∧ gA ce 5 11 rd = some al ∧ gA ce 5 13 rd = some nl) ∧ ce al = some (.inl (.long, 4, .inr (.inl Af))) ∧ ce nl = some (.inl (.long, 24, .inr (.inl nf)))
theorem gI_fr {ce d : Ce} {k i a : Nat} (h : d a = ce a) : gI d k i a = gI ce k i a := by
  unfold gI
  rw [h]
theorem gJ_fr {ce d : Ce} {k i a : Nat} (h : d a = ce a) : gJ d k i a = gJ ce k i a := by
  unfold gJ
  rw [h]
theorem RdT_fr {ce d : Ce} {rd al nl L n : Nat} {i0 : Int64} {Af nf : Nat → Int64} (h : RdT ce rd al nl L n i0 Af nf) (h1 : d rd = ce rd) (h2 : d al = ce al) (h3 : d nl = ce nl) : RdT d rd al nl L n i0 Af nf := by
  obtain ⟨⟨a0, a1, a2, a3, a4, a5⟩, a6, a7⟩ := h
  exact ⟨⟨(rcv_fr h1).trans a0, (gI_fr h1).trans a1, (gJ_fr h1).trans a2, (gI_fr h1).trans a3, (gA_fr h1).trans a4, (gA_fr h1).trans a5⟩, h2.trans a6, h3.trans a7⟩
theorem c_machine {ce : Ce} {nx rd al nl L n : Nat} {i0 : Int64} {Af nf : Nat → Int64} (h : RdT ce rd al nl L n i0 Af nf) (h1 : 1 ≤ L) (hL : L < 7) (hn : n ≤ 4) (hx : rd < nx ∧ al < nx ∧ nl < nx) : Ok (m_X7_machine nx ce rd) (fun z => z.1 = nx + 1 ∧ MA z.2.1 (fun b => nx ≤ b ∧ b < nx + z.2.2.1) (nx + 1) (txM L i0 (if n = 0 then 1 else n) Af nf) ∧ z.2.2.1 = 4 ∧ z.2.2.2 ≤ 340 ∧ ∀ b, b < nx → z.2.1 b = ce b) := by
  have h64 := p2_64 hL
  have hfr : ∀ Sf, RdT (gx_up ce nx (.inl (.int, 2 ^ L * 4, .inl Sf))) rd al nl L n i0 Af nf := fun Sf => RdT_fr h (gu_n _ _ (by omega)) (gu_n _ _ (by omega)) (gu_n _ _ (by omega))
  unfold m_X7_machine
  rw [h.1.2.1, bind_s, sh_4 L hL, nwa_n (by omega), bind_s]
  refine ok_adcK ?_
  rw [bind_s]
  refine ok_call (P := fun o => ∃ Sf, o.2 = gx_up ce nx (.inl (.int, 2 ^ L * 4, .inl Sf)) ∧ ∀ j, j < 2 ^ L * 4 → Sf j = nI (scT nf (j / 4) (j % 4) L)) (ok_cnt 0 (2 ^ L * 4) (fun k s => s.1 = nI k ∧ ∃ Sf, s.2 = gx_up ce nx (.inl (.int, 2 ^ L * 4, .inl Sf)) ∧ (∀ j, j < k → Sf j = nI (scT nf (j / 4) (j % 4) L)) ∧ ∀ j, k ≤ j → Sf j = 0) (by omega) (Nat.zero_le _) ⟨rfl, _, rfl, fun _ h => by omega, fun _ _ => rfl⟩ ?_ ?_) (fun zo hz => ?_)
  · rintro k ⟨u, d⟩ hk ⟨hu, Sf, hd, p1, p2⟩
    have hu : u = nI k := hu
    have hd : d = gx_up ce nx (.inl (.int, 2 ^ L * 4, .inl Sf)) := hd
    subst hu hd
    show Ok ((alen (gx_up ce nx (.inl (.int, 2 ^ L * 4, .inl Sf))) nx).bind _) _
    rw [alen_I (gu_e _ _ _), bind_s]
    show Ok (if nI (2 ^ L * 4) ≤ nI k then _ else _) _
    rw [if_le (by omega) (by omega), if_neg (by omega)]
    refine ok_call (P := fun o => ∃ Sf2, o.2 = gx_up ce nx (.inl (.int, 2 ^ L * 4, .inl Sf2)) ∧ Sf2 k = nI (scT nf (k / 4) (k % 4) L) ∧ ∀ j, j ≠ k → Sf2 j = Sf j) (ok_cnt 0 L (fun l s => s.1 = nI l ∧ ∃ Sf2, s.2 = gx_up ce nx (.inl (.int, 2 ^ L * 4, .inl Sf2)) ∧ Sf2 k = nI (scT nf (k / 4) (k % 4) l) ∧ ∀ j, j ≠ k → Sf2 j = Sf j) (by omega) (by omega) ⟨rfl, Sf, rfl, p2 k (Nat.le_refl _), fun _ _ => rfl⟩ ?_ ?_) (fun zo hz => ?_)
    · rintro l ⟨u, d⟩ hl ⟨hu, Sf2, hd, q1, q2⟩
      have hu : u = nI l := hu
      have hd : d = gx_up ce nx (.inl (.int, 2 ^ L * 4, .inl Sf2)) := hd
      subst hu hd
      have hR := hfr Sf2
      have hlt := scT_lt nf (k / 4) (k % 4) l
      have hl64 : 2 ^ l ≤ 64 := p2_64 (by omega)
      have e1 : nI l * (4 : Int32) + rm32 (nI k) (4 : Int32) = nI (4 * l + k % 4) := by
        unfold rm32
        rw [nl_4, pk_rem (by omega) (by omega) (by omega), pk_mul, nI_add, Nat.mul_comm]
      show Ok ((gI (gx_up ce nx (.inl (.int, 2 ^ L * 4, .inl Sf2))) 5 7 rd).bind fun zx27 => if zx27 ≤ nI l then _ else (gA (gx_up ce nx (.inl (.int, 2 ^ L * 4, .inl Sf2))) 5 13 rd).bind fun zx28 => (nz (4 : Int32)).bind fun _ => (aL (gx_up ce nx (.inl (.int, 2 ^ L * 4, .inl Sf2))) zx28 (nI l * (4 : Int32) + rm32 (nI k) (4 : Int32))).bind fun zx30 => (nz (4 : Int32)).bind fun _ => (m_X9_has zx30 (nI k / (4 : Int32))).bind fun zx32 => if zx32 = 0 then some (Sum.inl ((nI l + (1 : Int32)), gx_up ce nx (.inl (.int, 2 ^ L * 4, .inl Sf2)))) else (aI (gx_up ce nx (.inl (.int, 2 ^ L * 4, .inl Sf2))) nx (nI k)).bind fun zx33 => (sI (gx_up ce nx (.inl (.int, 2 ^ L * 4, .inl Sf2))) nx (nI k) (zx33 ||| ((1 : Int32) <<< (nI l &&& 31)))).bind fun zc34 => some (Sum.inl ((nI l + (1 : Int32)), zc34))) _
      rw [hR.1.2.1, bind_s, if_le (by omega) (by omega), if_neg (by omega), hR.1.2.2.2.2.2, bind_s, show nz (4 : Int32) = some () from rfl, bind_s, e1, aL_c hR.2.2 (by omega) (by omega), bind_s, bind_s, div_4 k (by omega), ch_has _ (by omega), bind_s]
      by_cases hb : B (nf (4 * l + k % 4)) (k / 4) = true
      · rw [if_pos hb, if_neg (by decide), aI_c (gu_e _ _ _) hk (by omega), bind_s, sh_1 l (by omega), sI_c (gu_e _ _ _) hk (by omega), bind_s, gu_gu, q1, nI_or]
        refine ok_some ⟨nI_1 l, _, rfl, ?_, fun j hj => ?_⟩
        · rw [up_e, scT, if_pos hb]
          refine congrArg nI ?_
          have := or_add 1 (scT nf (k / 4) (k % 4) l) l hlt
          rw [Nat.one_mul] at this
          rw [Nat.or_comm, this, Nat.add_comm]
        · rw [up_n _ _ _ hj]
          exact q2 j hj
      · rw [if_neg hb, if_pos rfl]
        refine ok_some ⟨nI_1 l, Sf2, rfl, ?_, q2⟩
        rw [scT, if_neg hb]
        exact q1
    · rintro ⟨u, d⟩ ⟨hu, Sf2, hd, q1, q2⟩
      have hu : u = nI L := hu
      have hd : d = gx_up ce nx (.inl (.int, 2 ^ L * 4, .inl Sf2)) := hd
      subst hu hd
      show Ok ((gI (gx_up ce nx (.inl (.int, 2 ^ L * 4, .inl Sf2))) 5 7 rd).bind fun zx27 => if zx27 ≤ nI L then _ else _) _
      rw [(hfr Sf2).1.2.1, bind_s, if_pos (Int32.le_refl _)]
      exact ok_some ⟨Sf2, rfl, q1, q2⟩
    · obtain ⟨Sf2, hz1, q1, q2⟩ := hz
      rw [hz1]
      refine ok_some ⟨nI_1 k, Sf2, rfl, fun j hj => ?_, fun j hj => ?_⟩
      · by_cases e : j = k
        · rw [e]
          exact q1
        · rw [q2 j e]
          exact p1 j (by omega)
      · rw [q2 j (by omega)]
        exact p2 j (by omega)
  · rintro ⟨u, d⟩ ⟨hu, Sf, hd, p1, p2⟩
    have hu : u = nI (2 ^ L * 4) := hu
    have hd : d = gx_up ce nx (.inl (.int, 2 ^ L * 4, .inl Sf)) := hd
    subst hu hd
    show Ok ((alen (gx_up ce nx (.inl (.int, 2 ^ L * 4, .inl Sf))) nx).bind _) _
    rw [alen_I (gu_e _ _ _), bind_s]
    show Ok (if nI (2 ^ L * 4) ≤ nI (2 ^ L * 4) then _ else _) _
    rw [if_pos (Int32.le_refl _)]
    exact ok_some ⟨Sf, rfl, p1⟩
  · obtain ⟨Sf, hz1, hz2⟩ := hz
    rw [hz1]
    refine ok_adcK ?_
    rw [bind_s]
    generalize hG : gx_up (gx_up ce nx (.inl (.int, 2 ^ L * 4, .inl Sf))) (nx + 1) (.inr (3, df_X5)) = G
    have hRG : RdT G rd al nl L n i0 Af nf := by
      rw [← hG]
      exact RdT_fr (hfr Sf) (gu_n _ _ (by omega)) (gu_n _ _ (by omega)) (gu_n _ _ (by omega))
    have g1 : G (nx + 1) = some (.inr (3, df_X5)) := by
      rw [← hG]
      exact gu_e _ _ _
    have g3 : G nx = some (.inl (.int, 2 ^ L * 4, .inl Sf)) := by
      rw [← hG, gu_n _ _ (by omega)]
      exact gu_e _ _ _
    have g4 : ∀ b, b < nx → G b = ce b := fun b hb => by rw [← hG, gu_n _ _ (by omega), gu_n _ _ (by omega)]
    clear hG
    have hmax : m_J9_max_7cf53 (1 : Int32) (nI n) = some (nI (if n = 0 then 1 else n)) := by
      unfold m_J9_max_7cf53
      rw [nl_1, if_lt (by omega) (by omega)]
      by_cases e0 : n = 0
      · rw [if_pos e0, if_neg (by omega)]
      · rw [if_neg e0]
        by_cases e1 : 1 < n
        · rw [if_pos e1]
        · rw [if_neg e1, show n = 1 by omega]
    generalize hna : (if n = 0 then 1 else n) = na at hmax
    have hna1 : 1 ≤ na ∧ na ≤ 4 := by
      rw [← hna]
      split <;> omega
    obtain ⟨F2, k1, k2⟩ := cc_cutL (nx := nx + 1 + 1) (N := na) hRG.2.1 (by omega) hna1.2 (by omega)
    rw [hRG.1.2.1, bind_s, hRG.1.2.2.1, bind_s, hRG.1.2.2.2.2.1, bind_s, hRG.1.2.2.2.1, bind_s, hmax, bind_s, k1]
    refine ok_adcB (ok_some ?_)
    generalize hH : gx_up G (nx + 1 + 1) (.inl (.long, na, .inr (.inl F2))) = H
    have f1 : H (nx + 1) = some (.inr (3, df_X5)) := by rw [← hH, gu_n _ _ (by omega)]; exact g1
    have f2 : H (nx + 2) = some (.inl (.long, na, .inr (.inl F2))) := by rw [← hH]; exact gu_e _ _ _
    have f3 : H nx = some (.inl (.int, 2 ^ L * 4, .inl Sf)) := by rw [← hH, gu_n _ _ (by omega)]; exact g3
    have f4 : ∀ b, b < nx → H b = ce b := fun b hb => by rw [← hH, gu_n _ _ (by omega)]; exact g4 b hb
    clear hH
    refine ok_adcB (ok_mono (cm_init (nx := nx + 3) (th := nx + 1) (sa := nx) (aa := nx + 2) (sc := fun s i => scT nf s i L) h1 hL f1 f3 (fun s hs i hi => ⟨by rw [hz2 (s * 4 + i) (by omega), show (s * 4 + i) / 4 = s by omega, show (s * 4 + i) % 4 = i by omega], scT_lt nf s i L⟩) f2 hna1.1 hna1.2 ⟨by omega, by omega, by omega⟩ ⟨by omega, by omega, by omega⟩ i0) ?_)
    rintro ⟨u, d, K, S⟩ ⟨m1, m2, m3, m4⟩
    have m1 : MA d (fun b => b = nx + 1 ∨ b = nx + 2 ∨ b = nx ∨ b = nx + 3) (nx + 1) (mkM L (fun s i => scT nf s i L) i0 na F2) := m1
    have m2 : K = 1 := m2
    have m3 : S = 2 ^ L := m3
    have m4 : ∀ b, b ≠ nx + 1 → b ≠ nx + 2 → b ≠ nx + 3 → d b = H b := m4
    subst m2 m3
    refine ok_some ⟨rfl, ?_, rfl, ?_, fun b hb => ?_⟩
    · show MA d (fun b => nx ≤ b ∧ b < nx + (0 + 1 + 1 + 1 + 1)) (nx + 1) (txM L i0 na Af nf)
      have hm := MA_congr (c2 := d) (U2 := fun b => nx ≤ b ∧ b < nx + (0 + 1 + 1 + 1 + 1)) (fun _ _ => rfl) (fun b hb => by omega) m1
      obtain ⟨w1, aa, sa, la, Af2, Sf2, Df, r1⟩ := hm
      obtain ⟨u1, u2, u3, u4, q1, q2, q3, q4, q5, q6, q7⟩ := r1
      refine ⟨WM_mk h1 hL (fun s _ i _ => scT_lt nf s i L) i0 hna1.1 hna1.2 _, aa, sa, la, Af2, Sf2, Df, u1, u2, u3, u4, q1, q2, fun i hi => ?_, q4, q5, q6, q7⟩
      have hi : i < na := hi
      rw [q3 i hi]
      show F2 i &&& allS L = Af i &&& allS L
      rw [k2 i hi]
    · show 0 + 2 ^ L + na + 7 + 2 ^ L * 4 ≤ 340
      omega
    · exact (m4 b (by omega) (by omega) (by omega)).trans (f4 b hb)
