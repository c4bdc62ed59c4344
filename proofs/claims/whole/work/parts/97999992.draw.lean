/-! A MACHINE IS DRAWN: the reference -/
def pkW (v : Nat → Nat) : Nat → Nat
  | 0 => 0
  | i + 1 => pkW v i + v i * 2 ^ (6 * i)
theorem pkW_lt {v : Nat → Nat} (h : ∀ i, i < 4 → v i < 64) : ∀ i, i ≤ 4 → pkW v i < 2 ^ (6 * i) := by
  intro i
  induction i with
  | zero => intro _; exact Nat.one_pos
  | succ i ih =>
    intro hi
    have h1 := ih (by omega)
    have h2 := h i (by omega)
    show pkW v i + v i * 2 ^ (6 * i) < 2 ^ (6 * (i + 1))
    have h3 : v i * 2 ^ (6 * i) ≤ 63 * 2 ^ (6 * i) := Nat.mul_le_mul_right _ (by omega)
    rw [show 6 * (i + 1) = 6 * i + 6 by omega, Nat.pow_add]
    omega
theorem six_n : ∀ i, i < 4 → (6 : Int32) * nI i &&& 31 = nI (6 * i) &&& 31 := by decide +kernel
theorem pk_put {v : Nat → Nat} (h : ∀ i, i < 4 → v i < 64) {i : Nat} (hi : i < 4) : nI (pkW v i) ||| (nI (v i) <<< (((6 : Int32) * nI i) &&& 31)) = nI (pkW v (i + 1)) := by
  have h1 := pkW_lt h i (by omega)
  have h2 := h i hi
  have h3 : v i * 2 ^ (6 * i) ≤ 63 * 2 ^ (6 * i) := Nat.mul_le_mul_right _ (by omega)
  have h4 : 2 ^ (6 * i) ≤ 2 ^ 18 := Nat.pow_le_pow_right (by omega) (by omega)
  rw [six_n i hi, pk_shlN _ (6 * i) (sm_l _ (by omega)) (by omega), nI_or, Nat.or_comm, or_add _ _ _ h1]
  exact congrArg nI (Nat.add_comm _ _)
theorem pk_get {v : Nat → Nat} (h : ∀ i, i < 4 → v i < 64) {i : Nat} (hi : i < 4) : ((nI (pkW v 4) >>> (((6 : Int32) * nI i) &&& 31)) &&& 63) = nI (v i) := by
  have h4 := pkW_lt h 4 (Nat.le_refl _)
  have h4 : pkW v 4 < 16777216 := h4
  have e : pkW v 4 = v 0 + v 1 * 64 + v 2 * 4096 + v 3 * 262144 := by
    show 0 + v 0 * 2 ^ (6 * 0) + v 1 * 2 ^ (6 * 1) + v 2 * 2 ^ (6 * 2) + v 3 * 2 ^ (6 * 3) = _
    omega
  have k0 := h 0 (by omega)
  have k1 := h 1 (by omega)
  have k2 := h 2 (by omega)
  have k3 := h 3 (by omega)
  rw [six_n i hi, pk_shrN (by omega) _ (6 * i) (sm_l _ (by omega)), pk_andN (Nat.lt_of_le_of_lt (Nat.div_le_self _ _) (by omega)) 6 (by decide)]
  refine congrArg nI ?_
  have : i = 0 ∨ i = 1 ∨ i = 2 ∨ i = 3 := by omega
  rw [e]
  rcases this with rfl | rfl | rfl | rfl
  · show (v 0 + v 1 * 64 + v 2 * 4096 + v 3 * 262144) / 1 % 64 = v 0
    omega
  · show (v 0 + v 1 * 64 + v 2 * 4096 + v 3 * 262144) / 64 % 64 = v 1
    omega
  · show (v 0 + v 1 * 64 + v 2 * 4096 + v 3 * 262144) / 4096 % 64 = v 2
    omega
  · show (v 0 + v 1 * 64 + v 2 * 4096 + v 3 * 262144) / 262144 % 64 = v 3
    omega
theorem all_1 : ∀ L, L < 7 → 1 ≤ L → (1 : Int64) &&& allS L = 1 := by decide +kernel
theorem all_bit : ∀ L, L < 7 → bitL (2 ^ L - 1) &&& allS L = bitL (2 ^ L - 1) := by decide +kernel
/-- the parts of the reference's row that a machine takes -/
def DrO (a b : Nat → Int32) : Prop := ∀ j, (j < 3 ∨ (3 < j ∧ j < 7) ∨ (7 < j ∧ j < 18) ∨ 92 ≤ j) → b j = a j
theorem sr_drawn (c : Ce) (m : Nat) {μ ν0 : MS} (hk : m_X12_keep (wr c m μ) m = some ((), wr c m ν0)) {md r0 L : Nat} (h15 : ν0.1 0 15 = nI md) (hr : r0 ≤ 9999) (h1 : 1 ≤ L) (hL : L < 7) : ∃ ν, m_X12_drawn (wr c m μ) m (nI r0) (nI L) = some (1, wr c m ν) ∧ RV ν (begV (drM r0 L) md) ∧ Kp ν0 ν := by
  have h64 := p2_64 hL
  have hr2 : r0 < 31139 := by omega
  have hv : ∀ s i, i < 4 → scD r0 L s i < 64 := fun s i _ => Nat.lt_of_lt_of_le scD_lt h64
  have key : Ok (m_X12_drawn (wr c m μ) m (nI r0) (nI L)) (fun o => ∃ ν, o = (1, wr c m ν) ∧ RV ν (begV (drM r0 L) md) ∧ Kp ν0 ν) := by
    unfold m_X12_drawn
    rw [show m_X12_isIn (nI r0) (0 : Int32) (9999 : Int32) = some 1 from isin_in (lo := 0) (hi := 9999) (by omega) (by omega) (by omega), bind_s, if_neg (by decide), show m_X12_isIn (nI L) (1 : Int32) (6 : Int32) = some 1 from isin_in (lo := 1) (hi := 6) (by omega) (by omega) (by omega), bind_s, if_neg (by decide), wr_rcv, bind_s, hk, bind_s]
    have e0 : ν0 = mu0 ν0 (ν0.1 0) := (mu0_self ν0).symm
    rw [wr_g0, bind_s, e0, wt_3, bind_s, wr_g0, bind_s, wt_7, bind_s, ma_of, ma_of, ← e0]
    generalize hA : va_up (va_up (ν0.1 0) 3 (nI L)) 7 1 = a0
    have a03 : a0 3 = nI L := by
      rw [← hA, up_n _ _ _ (by decide), up_e]
    have a07 : a0 7 = nI 1 := by
      rw [← hA, up_e]
      rfl
    have a0o : DrO (ν0.1 0) a0 := fun j hj => by
      rw [← hA, up_n _ _ _ (by omega), up_n _ _ _ (by omega)]
    clear hA
    refine ok_call (P := fun o => ∃ a, o.2 = wr c m (mu0 ν0 a) ∧ a 3 = nI L ∧ a 7 = nI 1 ∧ DrO (ν0.1 0) a ∧ ∀ t, t < 2 ^ L → a (28 + t) = nI (pkW (scD r0 L t) 4)) (ok_cnt 0 (2 ^ L) (fun s st => st.1 = (nI (sdN r0 (s * 4)), nI s) ∧ ∃ a, st.2 = wr c m (mu0 ν0 a) ∧ a 3 = nI L ∧ a 7 = nI 1 ∧ DrO (ν0.1 0) a ∧ ∀ t, t < s → a (28 + t) = nI (pkW (scD r0 L t) 4)) (by omega) (Nat.zero_le _) ⟨rfl, a0, rfl, a03, a07, a0o, fun _ h => by omega⟩ ?_ ?_) (fun zo hz => ?_)
    · rintro s ⟨u, d⟩ hs ⟨hu, a, hd, b3, b7, bo, bt⟩
      have hu : u = (nI (sdN r0 (s * 4)), nI s) := hu
      have hd : d = wr c m (mu0 ν0 a) := hd
      subst hu hd
      show Ok ((rcv (wr c m (mu0 ν0 a)) 9 m).bind fun _ => (m_X12_states (wr c m (mu0 ν0 a)) m).bind fun zx21 => if zx21 ≤ nI s then _ else (gA (wr c m (mu0 ν0 a)) 9 0 m).bind fun zx22 => (sI (wr c m (mu0 ν0 a)) zx22 ((28 : Int32) + nI s) (0 : Int32)).bind _) _
      rw [wr_rcv, bind_s, sr_states c m _ hL (by rw [mu0_a]; exact b3), bind_s, if_le (by omega) (by omega), if_neg (by omega), wr_g0, bind_s, nl_28, nI_add, wr_u0 c m _ (by omega), bind_s, ma_of]
      refine ok_call (P := fun o => o.1 = nI (sdN r0 ((s + 1) * 4)) ∧ ∃ a2, o.2 = wr c m (mu0 ν0 a2) ∧ a2 (28 + s) = nI (pkW (scD r0 L s) 4) ∧ ∀ j, j ≠ 28 + s → a2 j = a j) (ok_cnt 0 4 (fun i st => st.1 = (nI (sdN r0 (s * 4 + i)), nI i) ∧ ∃ a2, st.2 = wr c m (mu0 ν0 a2) ∧ a2 (28 + s) = nI (pkW (scD r0 L s) i) ∧ ∀ j, j ≠ 28 + s → a2 j = a j) (by omega) (by omega) ⟨rfl, _, rfl, up_e _ _ _, fun j hj => up_n _ _ _ hj⟩ ?_ ?_) (fun zo hz => ?_)
      · rintro i ⟨u, d⟩ hi ⟨hu, a2, hd, q1, q2⟩
        have hu : u = (nI (sdN r0 (s * 4 + i)), nI i) := hu
        have hd : d = wr c m (mu0 ν0 a2) := hd
        subst hu hd
        have hsd := sdN_lt hr2 (s * 4 + i)
        have hsd1 := sdN_lt hr2 (s * 4 + i + 1)
        have hst : m_X12_states (wr c m (mu0 ν0 a2)) m = some (nI (2 ^ L)) := sr_states c m _ hL (by rw [mu0_a, q2 3 (by omega)]; exact b3)
        show Ok (if (4 : Int32) ≤ nI i then _ else (nz (31139 : Int32)).bind fun _ => (gA (wr c m (mu0 ν0 a2)) 9 0 m).bind fun zx28 => (aI (wr c m (mu0 ν0 a2)) zx28 (nI (28 + s))).bind fun zx29 => (nz (7 : Int32)).bind fun _ => (rcv (wr c m (mu0 ν0 a2)) 9 m).bind fun _ => (m_X12_states (wr c m (mu0 ν0 a2)) m).bind fun zx32 => (nz zx32).bind fun _ => (sI (wr c m (mu0 ν0 a2)) zx28 (nI (28 + s)) (zx29 ||| ((rm32 ((rm32 ((nI (sdN r0 (s * 4 + i)) * (773 : Int32)) + (641 : Int32)) (31139 : Int32)) / (7 : Int32)) zx32) <<< (((6 : Int32) * nI i) &&& 31)))).bind fun zc34 => some (Sum.inl (((rm32 ((nI (sdN r0 (s * 4 + i)) * (773 : Int32)) + (641 : Int32)) (31139 : Int32)), (nI i + (1 : Int32))), zc34))) _
        rw [nl_4, if_le (by omega) (by omega), if_neg (by omega), show nz (31139 : Int32) = some () from rfl, bind_s, wr_g0, bind_s, wr_a0 c m _ (by omega), bind_s, mu0_a, q1, show nz (7 : Int32) = some () from rfl, bind_s, wr_rcv, bind_s, hst, bind_s, nz_n (by have := Nat.two_pow_pos L; omega) (by omega), bind_s, rnd_n hsd]
        show Ok ((sI _ (m + 1) (nI (28 + s)) (nI (pkW (scD r0 L s) i) ||| ((rm32 (nI (sdN r0 (s * 4 + i + 1)) / (7 : Int32)) (nI (2 ^ L))) <<< (((6 : Int32) * nI i) &&& 31)))).bind _) _
        rw [rnd_v hsd1 hL]
        show Ok ((sI _ (m + 1) (nI (28 + s)) (nI (pkW (scD r0 L s) i) ||| (nI (scD r0 L s i) <<< (((6 : Int32) * nI i) &&& 31)))).bind _) _
        rw [pk_put (hv s) hi, wr_u0 c m _ (by omega), bind_s, ma_of]
        refine ok_some ⟨by show (nI (sdN r0 (s * 4 + i + 1)), nI i + 1) = _; rw [nI_1]; rfl, _, rfl, up_e _ _ _, fun j hj => ?_⟩
        rw [up_n _ _ _ hj]
        exact q2 j hj
      · rintro ⟨u, d⟩ ⟨hu, a2, hd, q1, q2⟩
        have hu : u = (nI (sdN r0 (s * 4 + 4)), nI 4) := hu
        have hd : d = wr c m (mu0 ν0 a2) := hd
        subst hu hd
        show Ok (if (4 : Int32) ≤ nI 4 then _ else _) _
        rw [nl_4, if_pos (Int32.le_refl _)]
        exact ok_some ⟨by show nI (sdN r0 (s * 4 + 4)) = _; rw [show (s + 1) * 4 = s * 4 + 4 by omega], a2, rfl, q1, q2⟩
      · obtain ⟨hz1, a2, hz2, q1, q2⟩ := hz
        rw [hz1, hz2]
        refine ok_some ⟨by show (_, nI s + 1) = _; rw [nI_1], a2, rfl, (q2 3 (by omega)).trans b3, (q2 7 (by omega)).trans b7, fun j hj => (q2 j (by omega)).trans (bo j hj), fun t ht => ?_⟩
        by_cases e : t = s
        · rw [e]
          exact q1
        · rw [q2 _ (by omega)]
          exact bt t (by omega)
    · rintro ⟨u, d⟩ ⟨hu, a, hd, b3, b7, bo, bt⟩
      have hu : u = (nI (sdN r0 (2 ^ L * 4)), nI (2 ^ L)) := hu
      have hd : d = wr c m (mu0 ν0 a) := hd
      subst hu hd
      show Ok ((rcv (wr c m (mu0 ν0 a)) 9 m).bind fun _ => (m_X12_states (wr c m (mu0 ν0 a)) m).bind fun zx21 => if zx21 ≤ nI (2 ^ L) then _ else _) _
      rw [wr_rcv, bind_s, sr_states c m _ hL (by rw [mu0_a]; exact b3), bind_s, if_pos (Int32.le_refl _)]
      exact ok_some ⟨a, rfl, b3, b7, bo, bt⟩
    · obtain ⟨a, hz1, b3, b7, bo, bt⟩ := hz
      have p0 := sr_putSet c m (mu0 ν0 a) (k := 0) (by omega) 1
      rw [ma_of, ma_of] at p0
      have p0 : m_X12_putSet (wr c m (mu0 ν0 a)) m (0 : Int32) 1 = some ((), wr c m (mu0 ν0 (va_up (va_up a 18 (Int64.toInt32 1)) 19 (Int64.toInt32 ((1 : Int64) >>> ((32 : Int32).toInt64 &&& 63)))))) := p0
      generalize hb : va_up (va_up a 18 (Int64.toInt32 1)) 19 (Int64.toInt32 ((1 : Int64) >>> ((32 : Int32).toInt64 &&& 63))) = b at p0
      have hbo : ∀ j, j ≠ 18 → j ≠ 19 → b j = a j := fun j h1 h2 => by rw [← hb, up_n _ _ _ h2, up_n _ _ _ h1]
      have hb0 : lset b 0 = 1 := lset_put b 0 1 (by rw [← hb, up_n _ _ _ (by decide)]; exact up_e _ _ _) (by rw [← hb]; exact up_e _ _ _)
      clear hb
      have p1 := sr_putSet c m (mu0 ν0 b) (k := 1) (by omega) (bitL (2 ^ L - 1))
      rw [ma_of, ma_of] at p1
      have p1 : m_X12_putSet (wr c m (mu0 ν0 b)) m (1 : Int32) (bitL (2 ^ L - 1)) = some ((), wr c m (mu0 ν0 (va_up (va_up b 20 (Int64.toInt32 (bitL (2 ^ L - 1)))) 21 (Int64.toInt32 (bitL (2 ^ L - 1) >>> ((32 : Int32).toInt64 &&& 63)))))) := p1
      generalize hd : va_up (va_up b 20 (Int64.toInt32 (bitL (2 ^ L - 1)))) 21 (Int64.toInt32 (bitL (2 ^ L - 1) >>> ((32 : Int32).toInt64 &&& 63))) = d at p1
      have hdo : ∀ j, j ≠ 20 → j ≠ 21 → d j = b j := fun j h1 h2 => by rw [← hd, up_n _ _ _ h2, up_n _ _ _ h1]
      have hd1 : lset d 1 = bitL (2 ^ L - 1) := lset_put d 1 _ (by rw [← hd, up_n _ _ _ (by decide)]; exact up_e _ _ _) (by rw [← hd]; exact up_e _ _ _)
      have hd0 : lset d 0 = 1 := by
        rw [lset_congr 0 (g := b) (fun j h1 h2 => hdo j (by omega) (by omega))]
        exact hb0
      clear hd
      have hall : ∀ j, j ≠ 18 → j ≠ 19 → j ≠ 20 → j ≠ 21 → d j = a j := fun j h1 h2 h3 h4 => (hdo j h3 h4).trans (hbo j h1 h2)
      have hM : Mac d (drM r0 L) := by
        refine ⟨by rw [hall 3 (by omega) (by omega) (by omega) (by omega)]; exact b3, h1, hL, by rw [hall 7 (by omega) (by omega) (by omega) (by omega)]; exact b7, Nat.le_refl 1, by show 1 ≤ 4; omega, ?_, fun i hi => ?_, fun s hs i hi => ⟨?_, scD_lt⟩⟩
        · show lset d 0 = 1 &&& allS L
          rw [hd0, all_1 L hL h1]
        · have hi : i < 1 := hi
          have hi0 : i = 0 := by omega
          subst hi0
          show lset d (1 + 0) = bitL (2 ^ L - 1) &&& allS L
          rw [all_bit L hL]
          exact hd1
        · have hs : s < 2 ^ L := hs
          rw [hall (28 + s) (by omega) (by omega) (by omega) (by omega), bt s hs]
          exact pk_get (hv s) hi
      have hd15 : d 15 = nI md := by
        rw [hall 15 (by omega) (by omega) (by omega) (by omega), bo 15 (by omega)]
        exact h15
      obtain ⟨ν, n1, n2, n3⟩ := sr_anew c m (μ := mu0 ν0 d) (M := drM r0 L) (md := md) (by rw [mu0_a]; exact hM) (by rw [mu0_a]; exact hd15)
      have hst : ∀ e : Nat → Int32, e 3 = nI L → m_X12_states (wr c m (mu0 ν0 e)) m = some (nI (2 ^ L)) := fun e he => sr_states c m _ hL (by rw [mu0_a]; exact he)
      rw [hz1, wr_rcv, bind_s, p0, bind_s, wr_rcv, bind_s, hst b (by rw [hbo 3 (by omega) (by omega)]; exact b3), bind_s, bind_s]
      have e1 : nI (2 ^ L) - (1 : Int32) = nI (2 ^ L - 1) := by
        rw [nl_1, pk_sub (by have := Nat.two_pow_pos L; omega)]
      rw [e1]
      show Ok ((m_X12_putSet (wr c m (mu0 ν0 b)) m (1 : Int32) (bitL (2 ^ L - 1))).bind _) _
      rw [p1, bind_s, wr_rcv, bind_s, n1, bind_s]
      refine ok_some ⟨ν, rfl, n2, Kp_trans (Kp_mu0 ν0 fun j hj => ?_) n3⟩
      rw [hall j (by omega) (by omega) (by omega) (by omega)]
      exact bo j (by omega)
  obtain ⟨_, hv2, ν, rfl, h2⟩ := key
  exact ⟨ν, hv2, h2⟩
