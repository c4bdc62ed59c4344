/-! READERS, both sides at once -/
def XS (ce : Ce) (x : Nat) (A : Nat → Nat) : Prop := rcv ce 8 x = some () ∧ ∃ w, gA ce 8 6 x = some w ∧ gA ce 7 4 w = some (A 0)
def Both {α : Type} (o1 o2 : Option α) : Prop := ∃ v, o1 = some v ∧ o2 = some v
theorem both_b (b : Bool) : Both (if (if b = true then (1 : Int32) else 0) = 0 then some (0 : Int32) else some 1) (if (if b = true then (1 : Int32) else 0) = 0 then some (0 : Int32) else some 1) := by
  cases b <;> exact ⟨_, rfl, rfl⟩
theorem i10 : ((1 : Int32) = 0) = False := eq_false (by decide)
theorem i00 : ((0 : Int32) = 0) = True := eq_true rfl
def Inr (N : Nat) (q : Int32) : Prop := ∃ s, s < N ∧ q = nI s
def Inb (lo N : Nat) (q : Int32) : Prop := ∃ s, lo ≤ s ∧ s < N ∧ q = nI s
theorem out_c {N : Nat} (hN : N < 2 ^ 31) {q : Int32} (h : ¬ Inr N q) : q < 0 ∨ nI N ≤ q := by
  rcases pk_ix q hN with h1 | h1 | ⟨j, h1, h2⟩
  · exact Or.inl h1
  · exact Or.inr h1
  · exact absurd ⟨j, h1, h2⟩ h
theorem isin_in {lo hi s : Nat} (h1 : lo ≤ s) (h2 : s ≤ hi) (hh : hi < 2 ^ 31) : m_X12_isIn (nI s) (nI lo) (nI hi) = some 1 := by
  rw [sr_isIn, if_pos ⟨nI_le h1 (by omega), nI_le h2 hh⟩]
theorem isin_out {lo hi : Nat} (hh : hi + 1 < 2 ^ 31) (hl : lo < 2 ^ 31) {q : Int32} (h : ¬ Inb lo (hi + 1) q) : m_X12_isIn q (nI lo) (nI hi) = some 0 := by
  rw [sr_isIn, if_neg]
  rintro ⟨h1, h2⟩
  have h0 : ¬ q < 0 := fun hq => absurd (Int32.le_trans (nI_pos' hl) h1) (Int32.not_le.mpr hq)
  obtain ⟨s, hs, rfl⟩ := nI_of h0
  exact h ⟨s, (nI_leI hl hs).mp h1, by have := (nI_leI hs (by omega)).mp h2; omega, rfl⟩
theorem inb0 {N : Nat} {q : Int32} (h : ¬ Inr N q) : ¬ Inb 0 N q := fun ⟨s, _, h2, h3⟩ => h ⟨s, h2, h3⟩
/-! a state -/
theorem ch_in {ce : Ce} {U : Nat → Prop} {p : Nat} {M : Mv} (hm : MA ce U p M) {s : Nat} (hs : s < 2 ^ M.1) : m_X5_hasState ce p (nI s) = some 1 := by
  have h26 := p2_64 hm.1.2.1
  unfold m_X5_hasState
  rw [if_neg (nI_pos (by omega)), (cm_states hm).1, bind_s, if_le (by omega) (by omega), if_neg (by omega)]
theorem ch_out {ce : Ce} {U : Nat → Prop} {p : Nat} {M : Mv} (hm : MA ce U p M) {q : Int32} (h : ¬ Inr (2 ^ M.1) q) : m_X5_hasState ce p q = some 0 := by
  have h26 := p2_64 hm.1.2.1
  unfold m_X5_hasState
  by_cases h0 : q < 0
  · rw [if_pos h0]
  · rcases out_c (by omega) h with h1 | h1
    · exact absurd h1 h0
    · rw [if_neg h0, (cm_states hm).1, bind_s, if_pos h1]
theorem rs_in (c : Ce) (m : Nat) {μ : MS} {M : Mv} (hM : Mac (μ.1 0) M) {s : Nat} (hs : s < 2 ^ M.1) : m_X12_isState (wr c m μ) m (nI s) = some 1 := by
  have h26 := p2_64 hM.2.2.1
  rw [sr_isState c m μ hM.2.2.1 hM.1, if_pos]
  refine ⟨nI_pos' (by omega), ?_⟩
  rw [nl_1, pk_sub (by omega)]
  exact nI_le (by omega) (by omega)
theorem rs_out (c : Ce) (m : Nat) {μ : MS} {M : Mv} (hM : Mac (μ.1 0) M) {q : Int32} (h : ¬ Inr (2 ^ M.1) q) : m_X12_isState (wr c m μ) m q = some 0 := by
  have h26 := p2_64 hM.2.2.1
  have h2p : 0 < 2 ^ M.1 := Nat.two_pow_pos _
  rw [sr_isState c m μ hM.2.2.1 hM.1, if_neg]
  rintro ⟨h1, h2⟩
  obtain ⟨s, hs, rfl⟩ := nI_of (Int32.not_lt.mpr h1)
  rw [nl_1, pk_sub (by omega)] at h2
  exact h ⟨s, by have := (nI_leI hs (by omega)).mp h2; omega, rfl⟩
/-! a frame -/
theorem cf_in {ce : Ce} {nx : Nat} {A : Nat → Nat} {κ : Nat × Nat × Nat} {V : Sv} (h : SS ce nx A κ V) (h4 : V.2.1 4 ≤ 65) {f : Nat} (hf : f < V.2.1 4 + 1) : m_X8_hasFrame ce (A 0) (nI f) = some 1 := by
  unfold m_X8_hasFrame
  rw [if_neg (nI_pos (by omega)), ss_r4 h, bind_s, if_lt (by omega) (by omega), if_neg (by omega)]
theorem cf_out {ce : Ce} {nx : Nat} {A : Nat → Nat} {κ : Nat × Nat × Nat} {V : Sv} (h : SS ce nx A κ V) (h4 : V.2.1 4 ≤ 65) {q : Int32} (hq : ¬ Inr (V.2.1 4 + 1) q) : m_X8_hasFrame ce (A 0) q = some 0 := by
  unfold m_X8_hasFrame
  by_cases h0 : q < 0
  · rw [if_pos h0]
  · obtain ⟨s, hs, rfl⟩ := nI_of h0
    rw [if_neg h0, ss_r4 h, bind_s, if_lt (by omega) (by omega), if_pos]
    exact Nat.lt_of_not_le fun hle => hq ⟨s, by omega, rfl⟩
theorem ck_in {ce : Ce} {nx : Nat} {A : Nat → Nat} {κ : Nat × Nat × Nat} {V : Sv} (h : SS ce nx A κ V) (h4 : V.2.1 4 ≤ 65) {f : Nat} (h1 : 1 ≤ f) (hf : f < V.2.1 4 + 1) : m_X8_hasCubeFrame ce (A 0) (nI f) = some 1 := by
  unfold m_X8_hasCubeFrame
  rw [nl_1, if_lt (by omega) (by omega), if_neg (by omega), ss_r4 h, bind_s, if_lt (by omega) (by omega), if_neg (by omega)]
theorem ck_out {ce : Ce} {nx : Nat} {A : Nat → Nat} {κ : Nat × Nat × Nat} {V : Sv} (h : SS ce nx A κ V) (h4 : V.2.1 4 ≤ 65) {q : Int32} (hq : ¬ Inb 1 (V.2.1 4 + 1) q) : m_X8_hasCubeFrame ce (A 0) q = some 0 := by
  unfold m_X8_hasCubeFrame
  by_cases h0 : q < 0
  · rw [if_pos (Int32.lt_trans h0 (by decide))]
  · obtain ⟨s, hs, rfl⟩ := nI_of h0
    rw [nl_1, if_lt (by omega) (by omega), ss_r4 h, bind_s, if_lt (by omega) (by omega)]
    by_cases h1 : s < 1
    · rw [if_pos h1]
    · rw [if_neg h1, if_pos]
      exact Nat.lt_of_not_le fun hle => hq ⟨s, by omega, by omega, rfl⟩
theorem rf_in (c : Ce) (m : Nat) {μ : MS} {V : Sv} (hr : RV μ V) (h4 : V.2.1 4 ≤ 65) {f : Nat} (hf : f < V.2.1 4 + 1) : m_X12_isFrame (wr c m μ) m (nI f) = some 1 := by
  unfold m_X12_isFrame
  rw [wr_g0, bind_s, rd_4, bind_s, hr.2.1 4 (by decide), nl_0, isin_in (by omega) (by omega) (by omega), bind_s]
  rfl
theorem rf_out (c : Ce) (m : Nat) {μ : MS} {V : Sv} (hr : RV μ V) (h4 : V.2.1 4 ≤ 65) {q : Int32} (hq : ¬ Inr (V.2.1 4 + 1) q) : m_X12_isFrame (wr c m μ) m q = some 0 := by
  unfold m_X12_isFrame
  rw [wr_g0, bind_s, rd_4, bind_s, hr.2.1 4 (by decide), nl_0, isin_out (by omega) (by omega) (inb0 hq), bind_s]
  rfl
theorem IV_top {c : Nat} {V : Sv} (h : IV c V) : V.2.1 4 ≤ 65 := h.2.1.2.1
theorem IV_WC {c : Nat} {V : Sv} (h : IV c V) : WC V.1 V.2.2.1 := CI_WC (IV_L h) h.2.2.2.1.1
theorem ss_wth {ce : Ce} {nx : Nat} {A : Nat → Nat} {κ : Nat × Nat × Nat} {V : Sv} (h : SS ce nx A κ V) {j : Nat} (hi : IV j V) {f : Nat} (hf : f < V.2.1 4 + 1) : m_X8_statesWithin ce (A 0) (nI f) = some (wth V.1 V.2.2.1 f) := by
  have := IV_top hi
  obtain ⟨M, n, fr, Y⟩ := V
  have hf : f < n 4 + 1 := hf
  have this : n 4 ≤ 65 := this
  exact ss_within h (IV_WC hi) (by omega)
theorem sr_wth (c : Ce) (m : Nat) {μ : MS} {V : Sv} (hr : RV μ V) {f : Nat} (hf : f < 2 ^ 31) : m_X12_openAt (wr c m μ) m (nI f) = some (wth V.1 V.2.2.1 f) := sr_opn c m μ hr.1 hr.2.2.1 hf
theorem sr_aim (c : Ce) (m : Nat) {μ : MS} {V : Sv} (hr : RV μ V) (h8 : V.2.1 8 < V.1.2.2.2.1) : m_X12_aims (wr c m μ) m = some (V.1.2.2.2.2 (V.2.1 8)) := by
  have h4 := hr.1.2.2.2.2.2.1
  rw [sr_aims c m μ (by omega) (hr.2.1 8 (by decide)), hr.1.2.2.2.2.2.2.2.1 _ h8]
theorem sr_sta (c : Ce) (m : Nat) {μ : MS} {V : Sv} (hr : RV μ V) : m_X12_starts (wr c m μ) m = some V.1.2.2.1 := by
  rw [sr_starts, hr.1.2.2.2.2.2.2.1]
theorem cm_aims {ce : Ce} {U : Nat → Prop} {p : Nat} {M : Mv} (hm : MA ce U p M) : ∃ aa Af, gA ce 3 4 p = some aa ∧ alen ce aa = some (nI M.2.2.2.1) ∧ ce aa = some (.inl (.long, M.2.2.2.1, .inr (.inl Af))) ∧ ∀ i, i < M.2.2.2.1 → Af i = M.2.2.2.2 i := by
  obtain ⟨_, aa, sa, la, Af, Sf, Df, u0, u1, u2, u3, k1, k2, k3, k4, k5, k6, k7⟩ := hm
  exact ⟨aa, Af, gA_c k1 rfl, alen_L k2, k2, k3⟩
theorem cm_lead {ce : Ce} {U : Nat → Prop} {p : Nat} {M : Mv} (hm : MA ce U p M) {t : Nat} (ht : t < 2 ^ M.1) : ∃ la, gA ce 3 6 p = some la ∧ aL ce la (nI t) = some (ledS M t) := by
  have h26 := p2_64 hm.1.2.1
  obtain ⟨_, aa, sa, la, Af, Sf, Df, u0, u1, u2, u3, k1, k2, k3, k4, k5, k6, k7⟩ := hm
  exact ⟨la, gA_c k1 rfl, by rw [aL_c k6 ht (by omega), k7 t ht]⟩
theorem e_wide {ce : Ce} {nx : Nat} {A : Nat → Nat} {κ : Nat × Nat × Nat} {V : Sv} {c : Ce} {m : Nat} {μ : MS} {x j : Nat} (hx : XS ce x A) (h : SS ce nx A κ V) (hr : RV μ V) (hi : IV j V) (p : Int32) : Both (m_X11_wide ce x p) (m_X12_wide (wr c m μ) m p) := by
  obtain ⟨_, w, x1, x2⟩ := hx
  have h4 := IV_top hi
  unfold m_X11_wide m_X12_wide
  by_cases hp : Inr (V.2.1 4 + 1) p
  · obtain ⟨f, hf, rfl⟩ := hp
    simp only [x1, x2, bind_s, ss_rcv h, wr_rcv, cf_in h h4 hf, rf_in c m hr h4 hf, i10, if_false, ss_wth h hi hf, sr_wth c m hr (show f < 2 ^ 31 by omega), cc_bitCount, sr_many]
    exact ⟨_, rfl, rfl⟩
  · simp only [x1, x2, bind_s, ss_rcv h, wr_rcv, cf_out h h4 hp, rf_out c m hr h4 hp, i00, if_true]
    exact ⟨_, rfl, rfl⟩
theorem e_bad {ce : Ce} {nx : Nat} {A : Nat → Nat} {κ : Nat × Nat × Nat} {V : Sv} {c : Ce} {m : Nat} {μ : MS} {x j : Nat} (hx : XS ce x A) (h : SS ce nx A κ V) (hr : RV μ V) (hi : IV j V) (p : Int32) : Both (m_X11_bad ce x p) (m_X12_bad (wr c m μ) m p) := by
  obtain ⟨_, w, x1, x2⟩ := hx
  have h4 := IV_top hi
  have h8 := hi.2.2.1.2.1
  unfold m_X11_bad m_X12_bad m_X8_badWithin
  by_cases hp : Inr (V.2.1 4 + 1) p
  · obtain ⟨f, hf, rfl⟩ := hp
    simp only [x1, x2, bind_s, ss_rcv h, wr_rcv, cf_in h h4 hf, rf_in c m hr h4 hf, i10, if_false, ss_wth h hi hf, sr_wth c m hr (show f < 2 ^ 31 by omega), cc_bitCount, sr_many, ss_aims h h8, sr_aim c m hr h8]
    exact ⟨_, rfl, by rw [Int64.and_comm]⟩
  · simp only [x1, x2, bind_s, ss_rcv h, wr_rcv, cf_out h h4 hp, rf_out c m hr h4 hp, i00, if_true]
    exact ⟨_, rfl, rfl⟩
theorem e_within {ce : Ce} {nx : Nat} {A : Nat → Nat} {κ : Nat × Nat × Nat} {V : Sv} {c : Ce} {m : Nat} {μ : MS} {x j : Nat} (hx : XS ce x A) (h : SS ce nx A κ V) (hr : RV μ V) (hi : IV j V) (p q : Int32) : Both (m_X11_within ce x p q) (m_X12_within (wr c m μ) m p q) := by
  obtain ⟨_, w, x1, x2⟩ := hx
  obtain ⟨mp, g1, g2⟩ := ss_mach h
  have h4 := IV_top hi
  have h26 := p2_64 (IV_L hi)
  unfold m_X11_within m_X12_within
  by_cases hp : Inr (2 ^ V.1.1) p
  · obtain ⟨s, hs, rfl⟩ := hp
    by_cases hq : Inr (V.2.1 4 + 1) q
    · obtain ⟨f, hf, rfl⟩ := hq
      simp only [x1, x2, g1, bind_s, cm_rcv g2, ch_in g2 hs, rs_in c m hr.1 hs, ss_rcv h, wr_rcv, cf_in h h4 hf, rf_in c m hr h4 hf, i10, if_false, ss_wth h hi hf, sr_wth c m hr (show f < 2 ^ 31 by omega), ch_has _ (show s < 64 by omega), mh_has _ (show s < 64 by omega)]
      exact both_b _
    · simp only [x1, x2, g1, bind_s, cm_rcv g2, ch_in g2 hs, rs_in c m hr.1 hs, ss_rcv h, wr_rcv, cf_out h h4 hq, rf_out c m hr h4 hq, i10, if_false, i00, if_true]
      exact ⟨_, rfl, rfl⟩
  · simp only [x1, x2, g1, bind_s, cm_rcv g2, ch_out g2 hp, rs_out c m hr.1 hp, wr_rcv, i00, if_true]
    exact ⟨_, rfl, rfl⟩
theorem e_ahead {ce : Ce} {nx : Nat} {A : Nat → Nat} {κ : Nat × Nat × Nat} {V : Sv} {c : Ce} {m : Nat} {μ : MS} {x j : Nat} (hx : XS ce x A) (h : SS ce nx A κ V) (hr : RV μ V) (hi : IV j V) (p q : Int32) : Both (m_X11_ahead ce x p q) (m_X12_ahead (wr c m μ) m p q) := by
  obtain ⟨_, w, x1, x2⟩ := hx
  obtain ⟨mp, g1, g2⟩ := ss_mach h
  have h4 := IV_top hi
  have h26 := p2_64 (IV_L hi)
  unfold m_X11_ahead m_X12_ahead
  by_cases hp : Inr (2 ^ V.1.1) p
  · obtain ⟨s, hs, rfl⟩ := hp
    by_cases hq : Inr (V.2.1 4 + 1) q
    · obtain ⟨f, hf, rfl⟩ := hq
      have ea : m_X8_lowestAhead ce (A 0) (nI s) (nI f) = some (lowI (ahdS V.1 s (wth V.1 V.2.2.1 f))) := ss_ahead (M := V.1) (n := V.2.1) (fr := V.2.2.1) (Y := V.2.2.2) h (IV_WC hi) hs (by omega)
      simp only [x1, x2, g1, bind_s, cm_rcv g2, ch_in g2 hs, rs_in c m hr.1 hs, ss_rcv h, wr_rcv, cf_in h h4 hf, rf_in c m hr h4 hf, i10, if_false, ea, sr_wth c m hr (show f < 2 ^ 31 by omega), sr_aheadOf c m μ hr.1 (show s < 64 by omega)]
      exact ⟨_, rfl, rfl⟩
    · simp only [x1, x2, g1, bind_s, cm_rcv g2, ch_in g2 hs, rs_in c m hr.1 hs, ss_rcv h, wr_rcv, cf_out h h4 hq, rf_out c m hr h4 hq, i10, if_false, i00, if_true]
      exact ⟨_, rfl, rfl⟩
  · simp only [x1, x2, g1, bind_s, cm_rcv g2, ch_out g2 hp, rs_out c m hr.1 hp, wr_rcv, i00, if_true]
    exact ⟨_, rfl, rfl⟩
/-! a machine's ways -/
theorem e_successor {ce : Ce} {nx : Nat} {A : Nat → Nat} {κ : Nat × Nat × Nat} {V : Sv} {c : Ce} {m : Nat} {μ : MS} {x : Nat} (hx : XS ce x A) (h : SS ce nx A κ V) (hr : RV μ V) (p q : Int32) : Both (m_X11_successor ce x p q) (m_X12_successor (wr c m μ) m p q) := by
  obtain ⟨_, w, x1, x2⟩ := hx
  obtain ⟨mp, g1, g2⟩ := ss_mach h
  have hL := g2.1.2.1
  have h26 := p2_64 hL
  unfold m_X11_successor m_X12_successor
  by_cases hp : Inr (2 ^ V.1.1) p
  · obtain ⟨s, hs, rfl⟩ := hp
    by_cases hq : Inr 4 q
    · obtain ⟨i, hi, rfl⟩ := hq
      have e1 : m_X12_isIn (nI i) 0 3 = some 1 := isin_in (lo := 0) (hi := 3) (by omega) (by omega) (by omega)
      have e2 : (nI i < 4) = True := eq_true (nI_lt (b := 4) hi (by omega))
      have e3 : (nI i < 0) = False := eq_false (nI_pos (by omega))
      simp only [x1, x2, g1, bind_s, cm_rcv g2, ch_in g2 hs, rs_in c m hr.1 hs, wr_rcv, i10, if_false, e1, e2, e3, if_true, cm_next g2 hs hi, sr_succOf c m μ hL hr.1.2.2.2.2.2.2.2.2 hs hi]
      exact ⟨_, rfl, rfl⟩
    · have e1 : m_X12_isIn q 0 3 = some 0 := isin_out (lo := 0) (hi := 3) (by omega) (by omega) (inb0 hq)
      simp only [x1, x2, g1, bind_s, cm_rcv g2, ch_in g2 hs, rs_in c m hr.1 hs, wr_rcv, i10, if_false, e1, i00, if_true]
      refine ⟨-1, ?_, rfl⟩
      by_cases h0 : q < 0
      · rw [if_pos h0]
      · rw [if_neg h0]
        rcases out_c (N := 4) (by omega) hq with h1 | h1
        · exact absurd h1 h0
        · rw [if_neg (show ¬ q < 4 from Int32.not_lt.mpr h1)]
  · simp only [x1, x2, g1, bind_s, cm_rcv g2, ch_out g2 hp, rs_out c m hr.1 hp, wr_rcv, i00, if_true]
    exact ⟨_, rfl, rfl⟩
theorem e_distanceBy {ce : Ce} {nx : Nat} {A : Nat → Nat} {κ : Nat × Nat × Nat} {V : Sv} {c : Ce} {m : Nat} {μ : MS} {x : Nat} (hx : XS ce x A) (h : SS ce nx A κ V) (hr : RV μ V) (p q : Int32) : Both (m_X11_distanceBy ce x p q) (m_X12_distanceBy (wr c m μ) m p q) := by
  obtain ⟨_, w, x1, x2⟩ := hx
  obtain ⟨mp, g1, g2⟩ := ss_mach h
  unfold m_X11_distanceBy m_X12_distanceBy
  by_cases hp : Inr (2 ^ V.1.1) p
  · obtain ⟨s, hs, rfl⟩ := hp
    by_cases hq : Inb 1 16 q
    · obtain ⟨i, hi0, hi, rfl⟩ := hq
      have e1 : m_X12_isIn (nI i) 1 15 = some 1 := isin_in (lo := 1) (hi := 15) (by omega) (by omega) (by omega)
      have e2 : (nI i ≤ 15) = True := eq_true (nI_le (b := 15) (by omega) (by omega))
      have e3 : (nI i < 1) = False := eq_false (nI_nlt (b := 1) (by omega) (by omega))
      simp only [x1, x2, g1, bind_s, cm_rcv g2, ch_in g2 hs, rs_in c m hr.1 hs, wr_rcv, i10, if_false, e1, e2, e3, if_true, cm_stepsTo g2 (show i < 2 ^ 31 by omega), sr_stepsTo c m μ hr.1 (show i < 2 ^ 31 by omega)]
      exact ⟨_, rfl, rfl⟩
    · have e1 : m_X12_isIn q 1 15 = some 0 := isin_out (lo := 1) (hi := 15) (by omega) (by omega) hq
      simp only [x1, x2, g1, bind_s, cm_rcv g2, ch_in g2 hs, rs_in c m hr.1 hs, wr_rcv, i10, if_false, e1, i00, if_true]
      refine ⟨-1, ?_, rfl⟩
      by_cases h0 : q < 1
      · rw [if_pos h0]
      · rw [if_neg h0, if_neg]
        intro h1
        have h2 : ¬ q < 0 := fun hh => h0 (Int32.lt_trans hh (by decide))
        obtain ⟨k, hk, rfl⟩ := nI_of h2
        have k1 : ¬ k < 1 := fun hh => h0 (nI_lt (b := 1) hh (by omega))
        have k2 : k ≤ 15 := (nI_leI (b := 15) hk (by omega)).mp h1
        exact hq ⟨k, by omega, by omega, rfl⟩
  · simp only [x1, x2, g1, bind_s, cm_rcv g2, ch_out g2 hp, rs_out c m hr.1 hp, wr_rcv, i00, if_true]
    exact ⟨_, rfl, rfl⟩
theorem e_distance {ce : Ce} {nx : Nat} {A : Nat → Nat} {κ : Nat × Nat × Nat} {V : Sv} {c : Ce} {m : Nat} {μ : MS} {x : Nat} (hx : XS ce x A) (h : SS ce nx A κ V) (hr : RV μ V) (p : Int32) : Both (m_X11_distance ce x p) (m_X12_distance (wr c m μ) m p) := by
  obtain ⟨x0, w, x1, x2⟩ := hx
  obtain ⟨mp, g1, g2⟩ := ss_mach h
  have e2 : ((15 : Int32) ≤ 15) = True := eq_true (by decide)
  have e3 : ((15 : Int32) < 1) = False := eq_false (by decide)
  unfold m_X11_distance m_X11_distanceBy m_X12_distance
  by_cases hp : Inr (2 ^ V.1.1) p
  · obtain ⟨s, hs, rfl⟩ := hp
    have e4 := cm_stepsTo g2 (inp := 15) (by omega) ((1 : Int64) <<< (Int32.toInt64 (nI s) &&& 63))
    have e5 := sr_stepsTo c m μ hr.1 (inp := 15) (by omega) ((1 : Int64) <<< (Int32.toInt64 (nI s) &&& 63))
    rw [← nl_15] at e4 e5
    simp only [x0, x1, x2, g1, bind_s, cm_rcv g2, ch_in g2 hs, rs_in c m hr.1 hs, wr_rcv, i10, if_false, e2, e3, if_true, e4, e5]
    exact ⟨_, rfl, rfl⟩
  · simp only [x0, x1, x2, g1, bind_s, cm_rcv g2, ch_out g2 hp, rs_out c m hr.1 hp, wr_rcv, i00, if_true]
    exact ⟨_, rfl, rfl⟩
theorem e_nearest {ce : Ce} {nx : Nat} {A : Nat → Nat} {κ : Nat × Nat × Nat} {V : Sv} {c : Ce} {m : Nat} {μ : MS} {x : Nat} (hx : XS ce x A) (h : SS ce nx A κ V) (hr : RV μ V) (h8 : V.2.1 8 < V.1.2.2.2.1) : Both (m_X11_nearest ce x) (m_X12_nearest (wr c m μ) m) := by
  obtain ⟨x0, w, x1, x2⟩ := hx
  obtain ⟨mp, g1, g2⟩ := ss_mach h
  unfold m_X11_nearest m_X12_nearest
  have e4 := cm_stepsTo g2 (inp := 15) (by omega) (V.1.2.2.2.2 (V.2.1 8))
  have e5 := sr_stepsTo c m μ hr.1 (inp := 15) (by omega) (V.1.2.2.2.2 (V.2.1 8))
  rw [← nl_15] at e4 e5
  simp only [x1, x2, g1, bind_s, ss_rcv h, cm_rcv g2, wr_rcv, ss_aims h h8, sr_aim c m hr h8, e4, e5]
  exact ⟨_, rfl, rfl⟩
theorem e_reach {ce : Ce} {nx : Nat} {A : Nat → Nat} {κ : Nat × Nat × Nat} {V : Sv} {c : Ce} {m : Nat} {μ : MS} {x : Nat} (hx : XS ce x A) (h : SS ce nx A κ V) (hr : RV μ V) (p : Int32) : Both (m_X11_reach ce x p) (m_X12_reach (wr c m μ) m p) := by
  obtain ⟨x0, w, x1, x2⟩ := hx
  obtain ⟨mp, g1, g2⟩ := ss_mach h
  unfold m_X11_reach m_X12_reach
  by_cases h0 : 0 ≤ p
  · obtain ⟨k, hk, rfl⟩ := nI_of (Int32.not_lt.mpr h0)
    have e5 := sr_come c m μ hr.1 (inp := 15) (k := k) (by omega) hk V.1.2.2.1
    rw [← nl_15] at e5
    simp only [if_pos h0, x1, x2, g1, bind_s, cm_rcv g2, wr_rcv, sr_sta c m hr, cm_come g2 hk, e5, cc_bitCount, sr_many]
    exact ⟨_, rfl, rfl⟩
  · rw [if_neg h0, if_neg h0]
    exact ⟨_, rfl, rfl⟩
theorem e_slack {ce : Ce} {nx : Nat} {A : Nat → Nat} {κ : Nat × Nat × Nat} {V : Sv} {c : Ce} {m : Nat} {μ : MS} {x j : Nat} (hx : XS ce x A) (h : SS ce nx A κ V) (hr : RV μ V) (hi : IV j V) (p : Int32) : Both (m_X11_slack ce x p) (m_X12_slack (wr c m μ) m p) := by
  obtain ⟨_, w, x1, x2⟩ := hx
  obtain ⟨mp, g1, g2⟩ := ss_mach h
  have h4 := IV_top hi
  unfold m_X11_slack m_X12_slack
  by_cases hp : Inr (V.2.1 4 + 1) p
  · obtain ⟨f, hf, rfl⟩ := hp
    have e5 := sr_come c m μ hr.1 (inp := 15) (k := f) (by omega) (by omega) V.1.2.2.1
    rw [← nl_15] at e5
    simp only [x1, x2, g1, bind_s, ss_rcv h, wr_rcv, cm_rcv g2, cf_in h h4 hf, rf_in c m hr h4 hf, i10, if_false, ss_wth h hi hf, sr_wth c m hr (show f < 2 ^ 31 by omega), sr_sta c m hr, cm_come g2 (show f < 2 ^ 31 by omega), e5, cc_bitCount, sr_many]
    exact ⟨_, rfl, rfl⟩
  · simp only [x1, x2, bind_s, ss_rcv h, wr_rcv, cf_out h h4 hp, rf_out c m hr h4 hp, i00, if_true]
    exact ⟨_, rfl, rfl⟩
theorem e_doomed {ce : Ce} {nx : Nat} {A : Nat → Nat} {κ : Nat × Nat × Nat} {V : Sv} {c : Ce} {m : Nat} {μ : MS} {x : Nat} (hx : XS ce x A) (h : SS ce nx A κ V) (hr : RV μ V) (h8 : V.2.1 8 < V.1.2.2.2.1) (p : Int32) : Both (m_X11_doomed ce x p) (m_X12_doomed (wr c m μ) m p) := by
  obtain ⟨x0, w, x1, x2⟩ := hx
  obtain ⟨mp, g1, g2⟩ := ss_mach h
  unfold m_X11_doomed m_X12_doomed
  by_cases h0 : 0 ≤ p
  · obtain ⟨k, hk, rfl⟩ := nI_of (Int32.not_lt.mpr h0)
    simp only [if_pos h0, x1, x2, g1, bind_s, ss_rcv h, cm_rcv g2, wr_rcv, ss_aims h h8, cm_coming g2 _ hk, sr_nearing c m μ hr.1 g2.1 h8 (hr.2.1 8 (by decide)) hk, cc_bitCount, sr_many]
    exact ⟨_, rfl, rfl⟩
  · rw [x1, bind_s, x2, bind_s, if_neg h0, if_neg h0]
    exact ⟨_, rfl, rfl⟩
