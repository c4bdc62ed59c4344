/-! A TEXT's MACHINE: the reference -/
def TX (μ : MS) (p L : Nat) (i0 : Int64) (na : Nat) (Af nf : Nat → Int64) : Prop := (μ.1 4 (2 * p) = nI L ∧ μ.1 4 (2 * p + 1) = nI na) ∧ μ.2.1 5 (29 * p) = i0 ∧ (∀ i, i < na → μ.2.1 5 (29 * p + 1 + i) = Af i) ∧ ∀ l i, l < L → i < 4 → μ.2.1 5 (29 * p + 5 + 4 * l + i) = nf (4 * l + i)
theorem wr_b4 (c : Ce) (m : Nat) (μ : MS) {k : Nat} (hk : k < 8) : aI (wr c m μ) (m + 5) (nI k) = some (μ.1 4 k) := by
  rw [wr_r4, if_neg (nI_in hk (by omega)), nI_clamp (by omega)]
theorem wr_b5 (c : Ce) (m : Nat) (μ : MS) {k : Nat} (hk : k < 116) : aL (wr c m μ) (m + 6) (nI k) = some (μ.2.1 5 k) := by
  rw [wr_r5, if_neg (nI_in hk (by omega)), nI_clamp (by omega)]
/-- the pairs of letter and input before (l, i) are in the word -/
def PW (nf : Nat → Int64) (s l i W : Nat) : Prop := W < 2 ^ 24 ∧ ∀ i2 l2, i2 < 4 → l2 < 6 → W.testBit (6 * i2 + l2) = (decide (l2 < l ∨ (l2 = l ∧ i2 < i)) && B (nf (4 * l2 + i2)) s)
theorem PW_0 (nf : Nat → Int64) (s : Nat) : PW nf s 0 0 0 := ⟨by decide, fun i2 l2 _ _ => by
  rw [Nat.zero_testBit]
  simp⟩
theorem PW_s {nf : Nat → Int64} {s l i W : Nat} (h : PW nf s l i W) (hl : l < 6) (hi : i < 4) : PW nf s l (i + 1) (if B (nf (4 * l + i)) s then W ||| 2 ^ (6 * i + l) else W) := by
  obtain ⟨h1, h2⟩ := h
  by_cases hb : B (nf (4 * l + i)) s = true
  · rw [if_pos hb]
    refine ⟨Nat.or_lt_two_pow h1 (Nat.pow_lt_pow_right (by omega) (by omega)), fun i2 l2 hi2 hl2 => ?_⟩
    rw [Nat.testBit_or, Nat.testBit_two_pow, h2 i2 l2 hi2 hl2]
    by_cases e : l2 = l ∧ i2 = i
    · obtain ⟨rfl, rfl⟩ := e
      rw [hb]
      simp
    · have e1 : ¬ (6 * i + l = 6 * i2 + l2) := by omega
      have e2 : (l2 < l ∨ (l2 = l ∧ i2 < i)) ↔ (l2 < l ∨ (l2 = l ∧ i2 < i + 1)) := by omega
      simp only [e1, decide_false, Bool.or_false, e2]
  · rw [if_neg hb]
    refine ⟨h1, fun i2 l2 hi2 hl2 => ?_⟩
    rw [h2 i2 l2 hi2 hl2]
    by_cases e : l2 = l ∧ i2 = i
    · obtain ⟨rfl, rfl⟩ := e
      have hb : B (nf (4 * l2 + i2)) s = false := by simpa using hb
      rw [hb]
      simp
    · have e2 : (l2 < l ∨ (l2 = l ∧ i2 < i)) ↔ (l2 < l ∨ (l2 = l ∧ i2 < i + 1)) := by omega
      simp only [e2]
theorem PW_l {nf : Nat → Int64} {s l W : Nat} (h : PW nf s l 4 W) : PW nf s (l + 1) 0 W := by
  refine ⟨h.1, fun i2 l2 hi2 hl2 => ?_⟩
  rw [h.2 i2 l2 hi2 hl2]
  have e2 : (l2 < l ∨ (l2 = l ∧ i2 < 4)) ↔ (l2 < l + 1 ∨ (l2 = l + 1 ∧ i2 < 0)) := by omega
  simp only [e2]
theorem PW_get {nf : Nat → Int64} {s L W : Nat} (h : PW nf s L 0 W) (hL : L < 7) {i : Nat} (hi : i < 4) : ((nI W >>> (((6 : Int32) * nI i) &&& 31)) &&& 63) = nI (scT nf s i L) := by
  have h1 : W < 16777216 := h.1
  rw [six_n i hi, pk_shrN (by omega) _ (6 * i) (sm_l _ (by omega)), pk_andN (Nat.lt_of_le_of_lt (Nat.div_le_self _ _) (by omega)) 6 (by decide)]
  refine congrArg nI (Nat.eq_of_testBit_eq fun b => ?_)
  rw [Nat.testBit_mod_two_pow, Nat.testBit_div_two_pow, scT_bit]
  by_cases hb : b < 6
  · rw [Nat.add_comm b, h.2 i b hi hb]
    have e2 : (b < L ∨ (b = L ∧ i < 0)) ↔ b < L := by omega
    simp only [hb, decide_true, Bool.true_and, e2]
  · simp only [hb, decide_false, Bool.false_and, show ¬ b < L by omega]
theorem pw_or {W i l : Nat} (hi : i < 4) (hl : l < 6) : nI W ||| ((1 : Int32) <<< ((((6 : Int32) * nI i) + nI l) &&& 31)) = nI (W ||| 2 ^ (6 * i + l)) := by
  have h4 : 2 ^ (6 * i + l) ≤ 2 ^ 23 := Nat.pow_le_pow_right (by omega) (by omega)
  rw [show (6 : Int32) = nI 6 from rfl, pk_mul, nI_add, nl_1, pk_shlN _ (6 * i + l) (sm_l _ (by omega)) (by omega), Nat.one_mul, nI_or]
theorem sr_load (c : Ce) (m : Nat) {μ ν0 : MS} (hk : m_X12_keep (wr c m μ) m = some ((), wr c m ν0)) {md p L na nT : Nat} {i0 : Int64} {Af nf : Nat → Int64} (h0 : μ.1 0 0 = nI nT) (hp : p < nT) (hT4 : nT ≤ 4) (h15 : ν0.1 0 15 = nI md) (hT : TX ν0 p L i0 na Af nf) (h1 : 1 ≤ L) (hL : L < 7) (n1 : 1 ≤ na) (n4 : na ≤ 4) : ∃ ν, m_X12_load (wr c m μ) m (nI p) = some (nI L, wr c m ν) ∧ RV ν (begV (txM L i0 na Af nf) md) ∧ Kp ν0 ν := by
  have h64 := p2_64 hL
  obtain ⟨⟨t1, t2⟩, t3, t4, t5⟩ := hT
  have key : Ok (m_X12_load (wr c m μ) m (nI p)) (fun o => ∃ ν, o = (nI L, wr c m ν) ∧ RV ν (begV (txM L i0 na Af nf) md) ∧ Kp ν0 ν) := by
    unfold m_X12_load
    have e7 : m_X12_isIn (nI p) (0 : Int32) (nI nT - 1) = some 1 := by
      rw [nl_0, nl_1, pk_sub (by omega)]
      exact isin_in (by omega) (by omega) (by omega)
    have e2p : (2 : Int32) * nI p = nI (2 * p) := by rw [nl_2, pk_mul]
    have e29 : m_X12_formsOf (nI p) = some (nI (29 * p)) := by
      unfold m_X12_formsOf
      rw [show (29 : Int32) = nI 29 from rfl, pk_mul]
    have e0 : ν0 = mu0 ν0 (ν0.1 0) := (mu0_self ν0).symm
    rw [wr_g0, bind_s, rd_0, bind_s, h0, e7, bind_s, if_neg (by decide), wr_rcv, bind_s, hk, bind_s, e29, bind_s, wr_g0, bind_s, wr_g4, bind_s, e2p, wr_b4 c m ν0 (by omega), bind_s, t1, e0, wt_3, bind_s, wr_g0, bind_s, wr_g4, bind_s, nI_1, ma_of, wr_b4 c m _ (by omega), bind_s, mu0_r _ _ (by decide), t2, wt_7, bind_s, ma_of, ← e0]
    generalize hA : va_up (va_up (ν0.1 0) 3 (nI L)) 7 (nI na) = a0
    have a03 : a0 3 = nI L := by
      rw [← hA, up_n _ _ _ (by decide), up_e]
    have a07 : a0 7 = nI na := by
      rw [← hA, up_e]
    have a0o : DrO (ν0.1 0) a0 := fun j hj => by
      rw [← hA, up_n _ _ _ (by omega), up_n _ _ _ (by omega)]
    clear hA
    -- the sets
    refine ok_call (P := fun o => ∃ a, o.2 = wr c m (mu0 ν0 a) ∧ a 3 = nI L ∧ a 7 = nI na ∧ DrO (ν0.1 0) a ∧ ∀ j, j < 5 → j ≤ na → lset a j = ν0.2.1 5 (29 * p + j) &&& allS L) (ok_cnt 0 5 (fun j st => st.1 = nI j ∧ ∃ a, st.2 = wr c m (mu0 ν0 a) ∧ a 3 = nI L ∧ a 7 = nI na ∧ DrO (ν0.1 0) a ∧ ∀ i, i < j → i ≤ na → lset a i = ν0.2.1 5 (29 * p + i) &&& allS L) (by omega) (by omega) ⟨rfl, a0, rfl, a03, a07, a0o, fun _ h => by omega⟩ ?_ ?_) (fun zo hz => ?_)
    · rintro j ⟨u, d⟩ hj ⟨hu, a, hd, b3, b7, bo, bt⟩
      have hu : u = nI j := hu
      have hd : d = wr c m (mu0 ν0 a) := hd
      subst hu hd
      have h4j : ¬ (4 : Int32) < nI j := fun z => by
        rw [nl_4] at z
        exact absurd z (Int32.not_lt.mpr ((nI_leI (by omega) (by omega)).mpr (by omega)))
      have hset : ∀ x : Int64, ∃ a2, m_X12_putSet (wr c m (mu0 ν0 a)) m (nI j) x = some ((), wr c m (mu0 ν0 a2)) ∧ lset a2 j = x ∧ ∀ k, k ≠ 18 + 2 * j → k ≠ 19 + 2 * j → a2 k = a k := fun x => by
        have p0 := sr_putSet c m (mu0 ν0 a) (k := j) hj x
        rw [ma_of, ma_of] at p0
        refine ⟨_, p0, lset_put _ j x ?_ (up_e _ _ _), fun k h1 h2 => ?_⟩
        · rw [up_n _ _ _ (by omega)]
          exact up_e _ _ _
        · rw [up_n _ _ _ h2, up_n _ _ _ h1]
      show Ok (if (4 : Int32) < nI j then _ else (gA (wr c m (mu0 ν0 a)) 9 0 m).bind fun zx43 => (aI (wr c m (mu0 ν0 a)) zx43 (7 : Int32)).bind fun zx44 => (if zx44 < nI j then some (0 : Int64) else (gA (wr c m (mu0 ν0 a)) 9 5 m).bind fun zx48 => (aL (wr c m (mu0 ν0 a)) zx48 (nI (29 * p) + nI j)).bind fun zx49 => (rcv (wr c m (mu0 ν0 a)) 9 m).bind fun _ => (m_X12_all (wr c m (mu0 ν0 a)) m).bind fun zx51 => some (zx49 &&& zx51)).bind fun zj45 => (rcv (wr c m (mu0 ν0 a)) 9 m).bind fun _ => (m_X12_putSet (wr c m (mu0 ν0 a)) m (nI j) zj45).bind fun zq47 => some (Sum.inl ((nI j + (1 : Int32)), zq47.2))) _
      rw [if_neg h4j, wr_g0, bind_s, rd_7, bind_s, mu0_a, b7, if_lt (by omega) (by omega)]
      have fin : ∀ x : Int64, (j ≤ na → x = ν0.2.1 5 (29 * p + j) &&& allS L) → ∃ a2, ((m_X12_putSet (wr c m (mu0 ν0 a)) m (nI j) x).bind fun zq47 => some (Sum.inl (β := Unit × Ce) ((nI j + (1 : Int32)), zq47.2))) = some (Sum.inl (nI (j + 1), wr c m (mu0 ν0 a2))) ∧ a2 3 = nI L ∧ a2 7 = nI na ∧ DrO (ν0.1 0) a2 ∧ ∀ i, i < j + 1 → i ≤ na → lset a2 i = ν0.2.1 5 (29 * p + i) &&& allS L := fun x hx => by
        obtain ⟨a2, k1, k2, k3⟩ := hset x
        refine ⟨a2, by rw [k1, bind_s, nI_1], (k3 3 (by omega) (by omega)).trans b3, (k3 7 (by omega) (by omega)).trans b7, fun k hk => (k3 k (by omega) (by omega)).trans (bo k hk), fun i hi hin => ?_⟩
        by_cases e : i = j
        · rw [e, k2]
          exact hx (by omega)
        · rw [lset_congr i (g := a) (fun k _ _ => k3 k (by omega) (by omega))]
          exact bt i (by omega) hin
      by_cases hj2 : na < j
      · rw [if_pos hj2, bind_s, wr_rcv, bind_s]
        obtain ⟨a2, k1, k2⟩ := fin 0 (fun h => by omega)
        exact ok_of k1 ⟨rfl, a2, rfl, k2⟩
      · rw [if_neg hj2, wr_g5, bind_s, nI_add, wr_b5 c m _ (by omega), bind_s, wr_rcv, bind_s, sr_all c m _ hL (by rw [mu0_a]; exact b3), bind_s, bind_s, bind_s]
        obtain ⟨a2, k1, k2⟩ := fin (ν0.2.1 5 (29 * p + j) &&& allS L) (fun _ => rfl)
        exact ok_of k1 ⟨rfl, a2, rfl, k2⟩
    · rintro ⟨u, d⟩ ⟨hu, a, hd, b3, b7, bo, bt⟩
      have hu : u = nI 5 := hu
      have hd : d = wr c m (mu0 ν0 a) := hd
      subst hu hd
      show Ok (if (4 : Int32) < nI 5 then _ else _) _
      rw [if_pos (by decide)]
      exact ok_some ⟨a, rfl, b3, b7, bo, bt⟩
    · obtain ⟨a1, hz1, c3, c7, co, ct⟩ := hz
      rw [hz1]
      refine ok_call (P := fun o => ∃ a, o.2 = wr c m (mu0 ν0 a) ∧ (∀ j, (j < 28 ∨ 92 ≤ j) → a j = a1 j) ∧ ∀ t, t < 2 ^ L → ∃ W, a (28 + t) = nI W ∧ PW nf t L 0 W) (ok_cnt 0 (2 ^ L) (fun s st => st.1 = nI s ∧ ∃ a, st.2 = wr c m (mu0 ν0 a) ∧ (∀ j, (j < 28 ∨ 92 ≤ j) → a j = a1 j) ∧ ∀ t, t < s → ∃ W, a (28 + t) = nI W ∧ PW nf t L 0 W) (by omega) (Nat.zero_le _) ⟨rfl, a1, rfl, fun _ _ => rfl, fun _ h => by omega⟩ ?_ ?_) (fun zo hz => ?_)
      · rintro s ⟨u, d⟩ hs ⟨hu, a, hd, bo, bt⟩
        have hu : u = nI s := hu
        have hd : d = wr c m (mu0 ν0 a) := hd
        subst hu hd
        show Ok ((rcv (wr c m (mu0 ν0 a)) 9 m).bind fun _ => (m_X12_states (wr c m (mu0 ν0 a)) m).bind fun zx26 => if zx26 ≤ nI s then _ else (gA (wr c m (mu0 ν0 a)) 9 0 m).bind fun zx27 => (sI (wr c m (mu0 ν0 a)) zx27 ((28 : Int32) + nI s) (0 : Int32)).bind _) _
        rw [wr_rcv, bind_s, sr_states c m _ hL (by rw [mu0_a, bo 3 (by omega)]; exact c3), bind_s, if_le (by omega) (by omega), if_neg (by omega), wr_g0, bind_s, nl_28, nI_add, wr_u0 c m _ (by omega), bind_s, ma_of]
        refine ok_call (P := fun o => ∃ a2, o.2 = wr c m (mu0 ν0 a2) ∧ (∃ W, a2 (28 + s) = nI W ∧ PW nf s L 0 W) ∧ ∀ j, j ≠ 28 + s → a2 j = a j) (ok_cnt 0 L (fun l st => st.1 = nI l ∧ ∃ a2, st.2 = wr c m (mu0 ν0 a2) ∧ (∃ W, a2 (28 + s) = nI W ∧ PW nf s l 0 W) ∧ ∀ j, j ≠ 28 + s → a2 j = a j) (by omega) (by omega) ⟨rfl, _, rfl, ⟨0, up_e _ _ _, PW_0 nf s⟩, fun j hj => up_n _ _ _ hj⟩ ?_ ?_) (fun zo hz => ?_)
        · rintro l ⟨u, d⟩ hl ⟨hu, a2, hd, ⟨W, q0, q1⟩, q2⟩
          have hu : u = nI l := hu
          have hd : d = wr c m (mu0 ν0 a2) := hd
          subst hu hd
          show Ok ((gA (wr c m (mu0 ν0 a2)) 9 0 m).bind fun zx32 => (aI (wr c m (mu0 ν0 a2)) zx32 (3 : Int32)).bind fun zx33 => if zx33 ≤ nI l then _ else _) _
          rw [wr_g0, bind_s, rd_3, bind_s, mu0_a, q2 3 (by omega), bo 3 (by omega), c3, if_le (by omega) (by omega), if_neg (by omega)]
          refine ok_call (P := fun o => ∃ a3, o.2 = wr c m (mu0 ν0 a3) ∧ (∃ W, a3 (28 + s) = nI W ∧ PW nf s l 4 W) ∧ ∀ j, j ≠ 28 + s → a3 j = a j) (ok_cnt 0 4 (fun i st => st.1 = nI i ∧ ∃ a3, st.2 = wr c m (mu0 ν0 a3) ∧ (∃ W, a3 (28 + s) = nI W ∧ PW nf s l i W) ∧ ∀ j, j ≠ 28 + s → a3 j = a j) (by omega) (by omega) ⟨rfl, a2, rfl, ⟨W, q0, q1⟩, q2⟩ ?_ ?_) (fun zo hz => ?_)
          · rintro i ⟨u, d⟩ hi ⟨hu, a3, hd, ⟨W, r0, r1⟩, r2⟩
            have hu : u = nI i := hu
            have hd : d = wr c m (mu0 ν0 a3) := hd
            subst hu hd
            have ei : nI (29 * p) + (5 : Int32) + (4 : Int32) * nI l + nI i = nI (29 * p + 5 + 4 * l + i) := by
              rw [show (5 : Int32) = nI 5 from rfl, nl_4, pk_mul, nI_add, nI_add, nI_add]
            show Ok (if (4 : Int32) ≤ nI i then _ else (gA (wr c m (mu0 ν0 a3)) 9 5 m).bind fun zx37 => (aL (wr c m (mu0 ν0 a3)) zx37 (nI (29 * p) + (5 : Int32) + (4 : Int32) * nI l + nI i)).bind fun zx38 => (m_X12_has zx38 (nI s)).bind fun zx39 => if zx39 = 0 then some (Sum.inl ((nI i + (1 : Int32)), wr c m (mu0 ν0 a3))) else (gA (wr c m (mu0 ν0 a3)) 9 0 m).bind fun zx40 => (aI (wr c m (mu0 ν0 a3)) zx40 (nI (28 + s))).bind fun zx41 => (sI (wr c m (mu0 ν0 a3)) zx40 (nI (28 + s)) (zx41 ||| ((1 : Int32) <<< ((((6 : Int32) * nI i) + nI l) &&& 31)))).bind fun zc42 => some (Sum.inl ((nI i + (1 : Int32)), zc42))) _
            rw [ei, nl_4, if_le (by omega) (by omega), if_neg (by omega), wr_g5, bind_s, wr_b5 c m _ (by omega), bind_s]
            show Ok ((m_X12_has (ν0.2.1 5 (29 * p + 5 + 4 * l + i)) (nI s)).bind _) _
            rw [t5 l i hl hi, mh_has _ (by omega), bind_s]
            have hst := PW_s r1 (by omega) hi
            by_cases hb : B (nf (4 * l + i)) s = true
            · rw [if_pos hb] at hst
              rw [if_pos hb, if_neg (by decide), wr_g0, bind_s, wr_a0 c m _ (by omega), bind_s, mu0_a, r0, pw_or hi (by omega), wr_u0 c m _ (by omega), bind_s, ma_of]
              refine ok_some ⟨nI_1 i, _, rfl, ⟨_, up_e _ _ _, hst⟩, fun j hj => ?_⟩
              rw [up_n _ _ _ hj]
              exact r2 j hj
            · rw [if_neg hb] at hst
              rw [if_neg hb, if_pos rfl]
              exact ok_some ⟨nI_1 i, a3, rfl, ⟨W, r0, hst⟩, r2⟩
          · rintro ⟨u, d⟩ ⟨hu, a3, hd, hW, r2⟩
            have hu : u = nI 4 := hu
            have hd : d = wr c m (mu0 ν0 a3) := hd
            subst hu hd
            show Ok (if (4 : Int32) ≤ nI 4 then _ else _) _
            rw [nl_4, if_pos (Int32.le_refl _)]
            exact ok_some ⟨a3, rfl, hW, r2⟩
          · obtain ⟨a3, hz1, ⟨W, r0, r1⟩, r2⟩ := hz
            rw [hz1]
            exact ok_some ⟨nI_1 l, a3, rfl, ⟨W, r0, PW_l r1⟩, r2⟩
        · rintro ⟨u, d⟩ ⟨hu, a2, hd, hW, q2⟩
          have hu : u = nI L := hu
          have hd : d = wr c m (mu0 ν0 a2) := hd
          subst hu hd
          show Ok ((gA (wr c m (mu0 ν0 a2)) 9 0 m).bind fun zx32 => (aI (wr c m (mu0 ν0 a2)) zx32 (3 : Int32)).bind fun zx33 => if zx33 ≤ nI L then _ else _) _
          rw [wr_g0, bind_s, rd_3, bind_s, mu0_a, q2 3 (by omega), bo 3 (by omega), c3, if_pos (Int32.le_refl _)]
          exact ok_some ⟨a2, rfl, hW, q2⟩
        · obtain ⟨a2, hz1, hW, q2⟩ := hz
          rw [hz1]
          refine ok_some ⟨nI_1 s, a2, rfl, fun j hj => (q2 j (by omega)).trans (bo j hj), fun t ht => ?_⟩
          by_cases e : t = s
          · rw [e]
            exact hW
          · rw [q2 _ (by omega)]
            exact bt t (by omega)
      · rintro ⟨u, d⟩ ⟨hu, a, hd, bo, bt⟩
        have hu : u = nI (2 ^ L) := hu
        have hd : d = wr c m (mu0 ν0 a) := hd
        subst hu hd
        show Ok ((rcv (wr c m (mu0 ν0 a)) 9 m).bind fun _ => (m_X12_states (wr c m (mu0 ν0 a)) m).bind fun zx26 => if zx26 ≤ nI (2 ^ L) then _ else _) _
        rw [wr_rcv, bind_s, sr_states c m _ hL (by rw [mu0_a, bo 3 (by omega)]; exact c3), bind_s, if_pos (Int32.le_refl _)]
        exact ok_some ⟨a, rfl, bo, bt⟩
      · obtain ⟨a, hz1, bo, bt⟩ := hz
        have hM : Mac a (txM L i0 na Af nf) := by
          refine ⟨by rw [bo 3 (by omega)]; exact c3, h1, hL, by rw [bo 7 (by omega)]; exact c7, n1, n4, ?_, fun i hi => ?_, fun s hs i hi => ⟨?_, scT_lt nf s i L⟩⟩
          · show lset a 0 = i0 &&& allS L
            rw [lset_congr 0 (g := a1) (fun j h1 h2 => bo j (by omega)), ct 0 (by omega) (by omega), Nat.add_zero, t3]
          · have hi : i < na := hi
            show lset a (1 + i) = Af i &&& allS L
            rw [lset_congr (1 + i) (g := a1) (fun j h1 h2 => bo j (by omega)), ct (1 + i) (by omega) (by omega), ← Nat.add_assoc, t4 i hi]
          · have hs : s < 2 ^ L := hs
            obtain ⟨W, w1, w2⟩ := bt s hs
            rw [w1]
            exact PW_get w2 hL hi
        have hd15 : a 15 = nI md := by
          rw [bo 15 (by omega), co 15 (by omega)]
          exact h15
        obtain ⟨ν, k1, k2, k3⟩ := sr_anew c m (μ := mu0 ν0 a) (M := txM L i0 na Af nf) (md := md) (by rw [mu0_a]; exact hM) (by rw [mu0_a]; exact hd15)
        have h3 : ν.1 0 3 = nI L := k2.1.1
        rw [hz1, wr_rcv, bind_s, k1, bind_s, wr_g0, bind_s, rd_3, bind_s, h3]
        refine ok_some ⟨ν, rfl, k2, Kp_trans (Kp_mu0 ν0 fun j hj => ?_) k3⟩
        rw [bo j (by omega)]
        exact co j (by omega)
  obtain ⟨_, hv2, ν, rfl, h2⟩ := key
  exact ⟨ν, hv2, h2⟩
