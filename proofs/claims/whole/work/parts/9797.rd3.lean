/-! READERS: numbers, cubes, obligations, claims -/
theorem e_is {ce : Ce} {nx : Nat} {A : Nat → Nat} {κ : Nat × Nat × Nat} {V : Sv} {c : Ce} {m : Nat} {μ : MS} {x j : Nat} (hx : XS ce x A) (h : SS ce nx A κ V) (hr : RV μ V) (hi : IV j V) (p : Int32) : Both (m_X11_is ce x p) (m_X12_is (wr c m μ) m p) := by
  obtain ⟨_, w, x1, x2⟩ := hx
  obtain ⟨mp, g1, g2⟩ := ss_mach h
  obtain ⟨aa, Af, k1, k2, k3, k4⟩ := cm_aims g2
  obtain ⟨lc, g3, g4⟩ := ss_obl h
  have hl : lc.length = V.2.2.2.1.length := g4.1.length_eq
  have h5 := hi.2.2.1.1
  unfold m_X11_is m_X12_is
  rw [x1, bind_s, x2, bind_s]
  by_cases h0 : p = 0
  · rw [if_pos h0, if_pos h0]
    rw [g1, bind_s, (cm_states g2).2.1, bind_s, wr_g0, bind_s, rd_3, bind_s, hr.1.1]
    exact ⟨_, rfl, rfl⟩
  rw [if_neg h0, if_neg h0]
  by_cases h1 : p = 1
  · rw [if_pos h1, if_pos h1]
    rw [ss_r4 h, bind_s, wr_g0, bind_s, rd_4, bind_s, hr.2.1 4 (by decide)]
    exact ⟨_, rfl, rfl⟩
  rw [if_neg h1, if_neg h1]
  by_cases h2 : p = 2
  · rw [if_pos h2, if_pos h2]
    rw [ss_r3 h, bind_s, wr_g0, bind_s, rd_5, bind_s, hr.2.1 5 (by decide)]
    exact ⟨_, rfl, rfl⟩
  rw [if_neg h2, if_neg h2]
  by_cases h3 : p = 3
  · rw [if_pos h3, if_pos h3, ss_r3 h, bind_s, wr_g0, bind_s, rd_5, bind_s, hr.2.1 5 (by decide), bind_s]
    by_cases hz : nI (V.2.1 5) = 2
    · have hz2 : V.2.1 5 = 2 := (nI_eq (b := 2) (by omega) (by omega)).mp hz
      rw [if_pos hz, if_pos hz, ss_r5 h (Or.inl hz2), bind_s, rd_6, bind_s, hr.2.1 6 (by decide)]
      exact ⟨_, rfl, rfl⟩
    · rw [if_neg hz, if_neg hz]
      exact ⟨_, rfl, rfl⟩
  rw [if_neg h3, if_neg h3]
  by_cases h4 : p = 4
  · rw [if_pos h4, if_pos h4]
    rw [g1, bind_s, k1, bind_s, k2, bind_s, wr_g0, bind_s, rd_7, bind_s, hr.1.2.2.2.1]
    exact ⟨_, rfl, rfl⟩
  rw [if_neg h4, if_neg h4]
  by_cases h5 : p = 5
  · rw [if_pos h5, if_pos h5]
    rw [ss_r1 h, bind_s, wr_g0, bind_s, rd_8, bind_s, hr.2.1 8 (by decide)]
    exact ⟨_, rfl, rfl⟩
  rw [if_neg h5, if_neg h5]
  by_cases h6 : p = 6
  · rw [if_pos h6, if_pos h6]
    rw [ss_r12 h, bind_s, co_size g3, bind_s, wr_g0, bind_s, rd_9, bind_s, hr.2.2.2.1.1, hl]
    exact ⟨_, rfl, rfl⟩
  rw [if_neg h6, if_neg h6]
  by_cases h7 : p = 7
  · rw [if_pos h7, if_pos h7]
    rw [ss_r6 h, bind_s, wr_g0, bind_s, rd_10, bind_s, hr.2.1 10 (by decide)]
    exact ⟨_, rfl, rfl⟩
  rw [if_neg h7, if_neg h7]
  by_cases h8 : p = 8
  · rw [if_pos h8, if_pos h8]
    rw [ss_r7 h, bind_s, wr_g0, bind_s, rd_11, bind_s, hr.2.1 11 (by decide)]
    exact ⟨_, rfl, rfl⟩
  rw [if_neg h8, if_neg h8]
  by_cases h9 : p = 9
  · rw [if_pos h9, if_pos h9]
    rw [ss_r8 h, bind_s, wr_g0, bind_s, rd_12, bind_s, hr.2.1 12 (by decide)]
    exact ⟨_, rfl, rfl⟩
  rw [if_neg h9, if_neg h9]
  by_cases h10 : p = 10
  · rw [if_pos h10, if_pos h10]
    rw [ss_r9 h, bind_s, wr_g0, bind_s, rd_13, bind_s, hr.2.1 13 (by decide)]
    exact ⟨_, rfl, rfl⟩
  rw [if_neg h10, if_neg h10]
  by_cases h11 : p = 11
  · rw [if_pos h11, if_pos h11]
    rw [ss_r10 h, bind_s, wr_g0, bind_s, rd_14, bind_s, hr.2.1 14 (by decide)]
    exact ⟨_, rfl, rfl⟩
  rw [if_neg h11, if_neg h11]
  exact ⟨_, rfl, rfl⟩
theorem e_of {ce : Ce} {nx : Nat} {A : Nat → Nat} {κ : Nat × Nat × Nat} {V : Sv} {c : Ce} {m : Nat} {μ : MS} {x j : Nat} (hx : XS ce x A) (h : SS ce nx A κ V) (hr : RV μ V) (p q : Int32) : Both (m_X11_of ce x p q) (m_X12_of (wr c m μ) m p q) := by
  obtain ⟨_, w, x1, x2⟩ := hx
  obtain ⟨mp, g1, g2⟩ := ss_mach h
  obtain ⟨aa, Af, k1, k2, k3, k4⟩ := cm_aims g2
  have h26 := p2_64 g2.1.2.1
  have ha1 := g2.1.2.2.2.2.1
  have ha4 := g2.1.2.2.2.2.2.1
  unfold m_X11_of m_X12_of
  by_cases hp : Inr (2 ^ V.1.1) p
  · obtain ⟨s, hs, rfl⟩ := hp
    have hs64 : s < 64 := by omega
    simp only [x1, x2, g1, bind_s, cm_rcv g2, ch_in g2 hs, rs_in c m hr.1 hs, wr_rcv, i10, if_false, wr_g0, rd_7, hr.1.2.2.2.1]
    by_cases h1 : q = -1
    · subst h1
      have e1 : m_X12_isIn (-1) (-1) (nI V.1.2.2.2.1 - 1) = some 1 := by
        rw [sr_isIn, if_pos]
        refine ⟨Int32.le_refl _, ?_⟩
        rw [nl_1, pk_sub ha1]
        exact Int32.le_trans (by decide : (-1 : Int32) ≤ 0) (nI_pos' (by omega))
      have e2 : (1 : Int32) + -1 = nI 0 := rfl
      have e3 : lset (μ.1 0) 0 = V.1.2.2.1 := hr.1.2.2.2.2.2.2.1
      simp only [eq_self, if_true, (cm_states g2).2.2.2, bind_s, ch_has _ hs64, bz_1, e1, i10, if_false, e2, sr_setOf c m μ (show 0 < 5 by omega), mh_has _ hs64, e3]
      refine ⟨_, rfl, ?_⟩
      cases B V.1.2.2.1 s <;> rfl
    · simp only [if_neg h1]
      by_cases hq : Inr V.1.2.2.2.1 q
      · obtain ⟨i, hi, rfl⟩ := hq
        have e1 : m_X12_isIn (nI i) (-1) (nI V.1.2.2.2.1 - 1) = some 1 := by
          rw [sr_isIn, if_pos]
          refine ⟨Int32.le_trans (by decide : (-1 : Int32) ≤ 0) (nI_pos' (by omega)), ?_⟩
          rw [nl_1, pk_sub ha1]
          exact nI_le (by omega) (by omega)
        have e2 : (1 : Int32) + nI i = nI (1 + i) := by rw [nl_1, nI_add]
        have e3 : lset (μ.1 0) (1 + i) = V.1.2.2.2.2 i := hr.1.2.2.2.2.2.2.2.1 i hi
        have e4 : m_X5_hasAim ce mp (nI i) = some 1 := by
          unfold m_X5_hasAim
          rw [if_neg (nI_pos (by omega)), k1, bind_s, k2, bind_s, if_le (by omega) (by omega), if_neg (by omega)]
        have e5 : aL ce aa (nI i) = some (V.1.2.2.2.2 i) := by rw [aL_c k3 hi (by omega), k4 i hi]
        simp only [e4, bind_s, i10, if_false, k1, e5, ch_has _ hs64, e1, e2, sr_setOf c m μ (show 1 + i < 5 by omega), mh_has _ hs64, e3]
        exact both_b _
      · have e1 : m_X12_isIn q (-1) (nI V.1.2.2.2.1 - 1) = some 0 := by
          rw [sr_isIn, if_neg]
          rintro ⟨a, b⟩
          rw [nl_1, pk_sub ha1] at b
          by_cases h0 : q < 0
          · have t1 := Int32.lt_iff_toInt_lt.mp h0
            have t2 := Int32.le_iff_toInt_le.mp a
            have t3 : (-1 : Int32).toInt = -1 := rfl
            have t4 : (0 : Int32).toInt = 0 := rfl
            rw [t3] at t2
            rw [t4] at t1
            exact h1 (Int32.toInt_inj.mp (by rw [t3]; omega))
          · obtain ⟨k, hk, rfl⟩ := nI_of h0
            exact hq ⟨k, by have := (nI_leI hk (by omega)).mp b; omega, rfl⟩
        have e2 : m_X5_hasAim ce mp q = some 0 := by
          unfold m_X5_hasAim
          by_cases h0 : q < 0
          · rw [if_pos h0]
          · rcases out_c (by omega) hq with h2 | h2
            · exact absurd h2 h0
            · rw [if_neg h0, k1, bind_s, k2, bind_s, if_pos h2]
        simp only [e1, e2, bind_s, i00, if_true]
        exact ⟨_, rfl, rfl⟩
  · simp only [x1, x2, g1, bind_s, cm_rcv g2, ch_out g2 hp, rs_out c m hr.1 hp, wr_rcv, i00, if_true]
    exact ⟨_, rfl, rfl⟩
/-! a cube's mask and bits -/
theorem ck_cube {ce : Ce} {U : Nat → Prop} {p : Nat} {M : Mv} (hm : MA ce U p M) (c : Ce) (m : Nat) {μ : MS} (hM : Mac (μ.1 0) M) (p1 p2 : Int32) : (∃ mk b, mk < 2 ^ M.1 ∧ b &&& mk = b ∧ p1 = nI mk ∧ p2 = nI b ∧ m_X5_hasCube ce p p1 p2 = some 1 ∧ m_X12_isMask (wr c m μ) m p1 p2 = some 1) ∨ (m_X5_hasCube ce p p1 p2 = some 0 ∧ m_X12_isMask (wr c m μ) m p1 p2 = some 0) := by
  have hL := hm.1.2.1
  have h26 := p2_64 hL
  have h2p : 0 < 2 ^ M.1 := Nat.two_pow_pos _
  by_cases hp : Inr (2 ^ M.1) p1
  · obtain ⟨mk, hmk, rfl⟩ := hp
    have e1 : m_X12_isIn (nI mk) 0 (nI (2 ^ M.1) - 1) = some 1 := by
      rw [nl_0, nl_1, pk_sub (by omega)]
      exact isin_in (by omega) (by omega) (by omega)
    have c1 : m_X5_hasCube ce p (nI mk) p2 = if (p2 &&& (nI mk ^^^ (-1 : Int32))) = 0 then some 1 else some 0 := by
      unfold m_X5_hasCube
      rw [if_neg (nI_pos (by omega)), (cm_states hm).1, bind_s, if_le (by omega) (by omega), if_neg (by omega)]
    have c2 : m_X12_isMask (wr c m μ) m (nI mk) p2 = if p2 < 0 then some 0 else if (p2 &&& (nI mk ^^^ (-1 : Int32))) = 0 then some 1 else some 0 := by
      unfold m_X12_isMask
      rw [wr_rcv, bind_s, sr_states c m μ hL hM.1, bind_s, e1, bind_s, if_neg (by decide)]
    by_cases hz : (p2 &&& (nI mk ^^^ (-1 : Int32))) = 0
    · have hb : ∀ k, k < 32 → bI p2 k = true → mk.testBit k = true := by
        intro k hk hb
        have := congrArg (fun z => bI z k) hz
        have this : bI (p2 &&& (nI mk ^^^ (-1 : Int32))) k = bI 0 k := this
        have e0 : bI (0 : Int32) k = false := by unfold bI; simp
        have e2 : bI (p2 &&& (nI mk ^^^ (-1 : Int32))) k = (bI p2 k && (bI (nI mk) k ^^ bI (-1) k)) := by
          unfold bI
          rw [Int32.toBitVec_and, Int32.toBitVec_xor, BitVec.getLsbD_and, BitVec.getLsbD_xor]
        rw [e2, e0, hb, bI_nI hk, bI_m1 k hk] at this
        simpa using this
      have hpn : p2 = nI (p2.toBitVec.toNat) := by
        refine bI_ext fun k hk => ?_
        rw [bI_nI hk, bI_tb]
      have hsub : ∀ k, (p2.toBitVec.toNat).testBit k = true → mk.testBit k = true := by
        intro k hk
        by_cases h32 : k < 32
        · exact hb k h32 (by rw [bI_tb]; exact hk)
        · rw [Nat.testBit_lt_two_pow (Nat.lt_of_lt_of_le p2.toBitVec.isLt (Nat.pow_le_pow_right (by omega) (by omega)))] at hk
          cases hk
      have hand : p2.toBitVec.toNat &&& mk = p2.toBitVec.toNat := by
        refine Nat.eq_of_testBit_eq fun k => ?_
        rw [Nat.testBit_and]
        cases hk : (p2.toBitVec.toNat).testBit k with
        | false => rfl
        | true => rw [hsub k hk]; rfl
      have hle : p2.toBitVec.toNat ≤ mk := by rw [← hand]; exact Nat.and_le_right
      have hn0 : ¬ p2 < 0 := by rw [hpn]; exact nI_pos (by omega)
      exact Or.inl ⟨mk, p2.toBitVec.toNat, hmk, hand, rfl, hpn, by rw [c1, if_pos hz], by rw [c2, if_neg hn0, if_pos hz]⟩
    · refine Or.inr ⟨by rw [c1, if_neg hz], ?_⟩
      rw [c2, if_neg hz]
      by_cases h0 : p2 < 0
      · rw [if_pos h0]
      · rw [if_neg h0]
  · refine Or.inr ⟨?_, ?_⟩
    · unfold m_X5_hasCube
      by_cases h0 : p1 < 0
      · rw [if_pos h0]
      · rcases out_c (by omega) hp with h1 | h1
        · exact absurd h1 h0
        · rw [if_neg h0, (cm_states hm).1, bind_s, if_pos h1]
    · unfold m_X12_isMask
      have e1 : m_X12_isIn p1 0 (nI (2 ^ M.1) - 1) = some 0 := by
        rw [nl_0, nl_1, pk_sub (by omega)]
        refine isin_out (by omega) (by omega) ?_
        rintro ⟨s, _, hs, e⟩
        exact hp ⟨s, by omega, e⟩
      rw [wr_rcv, bind_s, sr_states c m μ hL hM.1, bind_s, e1, bind_s, if_pos rfl]
theorem e_holds {ce : Ce} {nx : Nat} {A : Nat → Nat} {κ : Nat × Nat × Nat} {V : Sv} {c : Ce} {m : Nat} {μ : MS} {x j : Nat} (hx : XS ce x A) (h : SS ce nx A κ V) (hr : RV μ V) (hi : IV j V) (p q r : Int32) : Both (m_X11_holds ce x p q r) (m_X12_holds (wr c m μ) m p q r) := by
  obtain ⟨_, w, x1, x2⟩ := hx
  obtain ⟨mp, g1, g2⟩ := ss_mach h
  have h4 := IV_top hi
  have h26 := p2_64 (IV_L hi)
  unfold m_X11_holds m_X12_holds
  rcases ck_cube g2 c m hr.1 p q with ⟨mk, b, hmk, hb, rfl, rfl, e1, e2⟩ | ⟨e1, e2⟩
  · have hble : b ≤ mk := by rw [← hb]; exact Nat.and_le_right
    by_cases hq : Inr (V.2.1 4 + 1) r
    · obtain ⟨f, hf, rfl⟩ := hq
      simp only [x1, x2, g1, bind_s, cm_rcv g2, e1, e2, ss_rcv h, wr_rcv, cf_in h h4 hf, rf_in c m hr h4 hf, i10, if_false, ss_wth h hi hf, cc_cubeOf, ss_keeps h hmk (show b < 64 by omega), sr_doesHold c m μ hr.1 hr.2.2.1 (show mk < 2 ^ 31 by omega) (show b < 2 ^ 31 by omega) (show f < 2 ^ 31 by omega)]
      exact both_b _
    · simp only [x1, x2, g1, bind_s, cm_rcv g2, e1, e2, ss_rcv h, wr_rcv, cf_out h h4 hq, rf_out c m hr h4 hq, i10, if_false, i00, if_true]
      exact ⟨_, rfl, rfl⟩
  · simp only [x1, x2, g1, bind_s, cm_rcv g2, e1, e2, wr_rcv, i00, if_true]
    exact ⟨_, rfl, rfl⟩
/-! cubes of a row, part by part -/
def cpV (l : List Cu) (p q : Int32) : Int32 := if p = -1 then nI l.length else if p < 0 then -2 else match l[p.toNatClampNeg]? with
  | none => -2
  | some u => if q = 0 then nI u.2.1 else if q = 1 then nI u.2.2 else -2
theorem cw_part {ce : Ce} {r f g s cap : Nat} {l : List Cu} (h : RW ce r f g s cap l) {a b : Nat} (hab : a ≤ b) (hb : b ≤ l.length) (p q : Int32) : m_X11_cubePart ce r (nI a) (nI b) p q = some (cpV ((l.drop a).take (b - a)) p q) := by
  have hcap : l.length < 2 ^ 30 := by
    obtain ⟨F, C, S, h1, h2, h3, h4, h5, h6, h7, h8⟩ := h
    omega
  have hRB : RB l := by
    obtain ⟨F, C, S, h1, h2, h3, h4, h5, h6, h7, h8⟩ := h
    exact h7
  have hlen : ((l.drop a).take (b - a)).length = b - a := by
    rw [List.length_take, List.length_drop]
    omega
  unfold m_X11_cubePart cpV
  rw [pk_sub hab]
  by_cases h1 : p = -1
  · rw [if_pos h1, if_pos h1, hlen]
  · rw [if_neg h1, if_neg h1]
    by_cases h0 : p < 0
    · rw [if_pos h0, if_pos h0]
    · rw [if_neg h0, if_neg h0]
      obtain ⟨k, hk, rfl⟩ := nI_of h0
      rw [if_lt hk (by omega), nI_clamp hk]
      by_cases hkl : k < b - a
      · have hg : ((l.drop a).take (b - a))[k]? = l[a + k]? := by
          rw [List.getElem?_take, if_pos hkl, List.getElem?_drop]
        have hu : l[a + k]? = some (l[a + k]'(by omega)) := List.getElem?_eq_getElem _
        generalize l[a + k]'(by omega) = u at hu
        have hub := hRB u (List.mem_of_getElem? hu)
        rw [if_pos hkl, hg, hu, nI_add]
        simp only [cw_rcv h, bind_s, cw_cubeAt h hu, cc_maskOf hub.2.1 hub.2.2, cc_bitsOf hub.2.1 hub.2.2]
        show _ = some (if q = 0 then nI u.2.1 else if q = 1 then nI u.2.2 else -2)
        by_cases q0 : q = 0
        · rw [if_pos q0, if_pos q0]
        · rw [if_neg q0, if_neg q0]
          by_cases q1 : q = 1
          · rw [if_pos q1, if_pos q1]
          · rw [if_neg q1, if_neg q1]
      · rw [if_neg hkl, List.getElem?_eq_none (by rw [hlen]; omega)]
theorem sr_ofClaim (c : Ce) (m : Nat) {μ : MS} {cl : List (Nat × Nat)} (hC : Clm (μ.1 0) cl) {k : Nat} {u : Nat × Nat} (hu : cl[k]? = some u) (q : Int32) : m_X12_ofClaim (wr c m μ) m (nI k) q = some (if q = 0 then nI u.1 else nI u.2) := by
  have hk : k < cl.length := (List.getElem?_eq_some_iff.mp hu).1
  have h12 := hC.2.1
  obtain ⟨e1, e2, e3⟩ := hC.2.2 k u hu
  unfold m_X12_ofClaim
  have f1 : nI (u.1 * 64 + u.2) >>> ((6 : Int32) &&& 31) = nI u.1 := by
    rw [pk_shrN (by omega) _ 6 s6]
    congr 1
    omega
  have f2 : nI (u.1 * 64 + u.2) &&& 63 = nI u.2 := by
    rw [pk_andN (by omega) 6 (by decide)]
    congr 1
    omega
  have e92 : (92 : Int32) + nI k = nI (92 + k) := by rw [nl_92, nI_add]
  simp only [e92, wr_g0, bind_s, wr_a0 c m μ (show 92 + k < 113844 by omega), e1, f1, f2]
  by_cases q0 : q = 0
  · rw [if_pos q0, if_pos q0]
  · rw [if_neg q0, if_neg q0]
theorem clR_get {cl : List (Nat × Nat)} {k : Nat} : (clR cl)[k]? = (cl[k]?).map fun q => (0, q.1, q.2) := by
  unfold clR
  rw [List.getElem?_map]
theorem e_claimed {ce : Ce} {nx : Nat} {A : Nat → Nat} {κ : Nat × Nat × Nat} {V : Sv} {c : Ce} {m : Nat} {μ : MS} {x j : Nat} (hx : XS ce x A) (h : SS ce nx A κ V) (hr : RV μ V) (p q : Int32) : Both (m_X11_claimed ce x p q) (m_X12_claimed (wr c m μ) m p q) := by
  obtain ⟨_, w, x1, x2⟩ := hx
  have hC := hr.2.2.2.2.2
  have hcl : (clR V.2.2.2.2.2).length = V.2.2.2.2.2.length := by unfold clR; rw [List.length_map]
  have h12 := hC.2.1
  have e1 := cw_part (ss_cls h) (a := 0) (Nat.zero_le _) (Nat.le_refl _) p q
  rw [nI_0, List.drop_zero, Nat.sub_zero, List.take_length] at e1
  unfold m_X11_claimed
  rw [x1, bind_s, x2, bind_s, ss_r14 h, bind_s, cw_size (ss_cls h), bind_s, e1, bind_s]
  refine ⟨_, rfl, ?_⟩
  unfold m_X12_claimed cpV
  simp only [hcl, wr_g0, bind_s, rd_16, hC.1]
  by_cases h1 : p = -1
  · rw [if_pos h1, if_pos h1]
  · rw [if_neg h1, if_neg h1]
    by_cases hp : Inr V.2.2.2.2.2.length p
    · obtain ⟨k, hk, rfl⟩ := hp
      have hu : V.2.2.2.2.2[k]? = some (V.2.2.2.2.2[k]'hk) := List.getElem?_eq_getElem _
      generalize V.2.2.2.2.2[k]'hk = u at hu
      have e7 : m_X12_isIn (nI k) (0 : Int32) (nI V.2.2.2.2.2.length - 1) = some 1 := by
        rw [nl_0, nl_1, pk_sub (by omega)]
        exact isin_in (by omega) (by omega) (by omega)
      simp only [e7, bind_s, i10, if_false, if_neg (nI_pos (show k < 2 ^ 31 by omega)), nI_clamp (show k < 2 ^ 31 by omega), clR_get, hu, wr_rcv, sr_ofClaim c m hC hu]
      show _ = some (if q = 0 then nI u.1 else if q = 1 then nI u.2 else -2)
      by_cases q0 : q = 0
      · subst q0
        rfl
      · by_cases q1 : q = 1
        · subst q1
          rfl
        · have e2 : m_X12_isIn q (nI 0) (nI 1) = some 0 := by
            refine isin_out (by omega) (by omega) ?_
            rintro ⟨s, _, hs, e⟩
            have : s = 0 ∨ s = 1 := by omega
            rcases this with rfl | rfl
            · exact q0 e
            · exact q1 e
          have e3 : m_X12_isIn q (0 : Int32) (1 : Int32) = some 0 := e2
          rw [e3, bind_s, if_pos rfl, if_neg q0, if_neg q1]
    · have e2 : m_X12_isIn p (0 : Int32) (nI V.2.2.2.2.2.length - 1) = some 0 := by
        by_cases h0 : V.2.2.2.2.2.length = 0
        · rw [h0, sr_isIn, if_neg]
          rintro ⟨a, b⟩
          exact absurd (Int32.le_trans a b) (by decide)
        · rw [nl_0, nl_1, pk_sub (by omega)]
          refine isin_out (by omega) (by omega) ?_
          rintro ⟨s, _, hs, e⟩
          exact hp ⟨s, by omega, e⟩
      rw [e2, bind_s, if_pos rfl]
      by_cases h0 : p < 0
      · rw [if_pos h0]
      · rw [if_neg h0]
        obtain ⟨k, hk, rfl⟩ := nI_of h0
        rw [nI_clamp hk, List.getElem?_eq_none]
        rw [hcl]
        exact Nat.le_of_not_lt fun z => hp ⟨k, z, rfl⟩
