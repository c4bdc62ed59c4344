/-! READERS: the i-th of a set, of a frame -/
theorem and_bit {y : Int64} {s : Nat} (hs : s < 64) : decide (y &&& ((1 : Int64) <<< ((nI s).toInt64 &&& 63)) ≠ 0) = B y s := by
  by_cases hb : B y s = true
  · rw [hb]
    refine decide_eq_true fun h0 => ?_
    have := congrArg (fun z => B z s) h0
    rw [B_0] at this
    have this : B (y &&& ((1 : Int64) <<< ((nI s).toInt64 &&& 63))) s = false := this
    rw [B_and, B_bit s hs s hs, hb] at this
    simp at this
  · have hb' : B y s = false := by simpa using hb
    rw [hb']
    refine decide_eq_false fun h0 => h0 (B_ext0 fun k hk => ?_)
    rw [B_and, B_bit s hs k hk]
    by_cases e : k = s
    · rw [e, hb']; rfl
    · simp [e]
theorem sr_farOf (c : Ce) (m : Nat) {μ : MS} {V : Sv} (hr : RV μ V) (hw : WM V.1) (h8 : V.2.1 8 < V.1.2.2.2.1) {s : Nat} (hs : s < 64) : m_X12_farOf (wr c m μ) m (nI s) = some (oI (fst64 fun n => B (clo (befS V.1) n (V.1.2.2.2.2 (V.2.1 8))) s)) := by
  refine ok_eq ?_
  unfold m_X12_farOf
  refine ok_call (P := fun o => Sum.elim (fun w => some w) (fun _ => some (-1 : Int32)) o = some (oI (fst64 fun n => B (clo (befS V.1) n (V.1.2.2.2.2 (V.2.1 8))) s))) (ok_cnt 0 64 (fun n t => t = nI n ∧ ∀ j, j < n → B (clo (befS V.1) j (V.1.2.2.2.2 (V.2.1 8))) s = false) (by omega) (by omega) ⟨rfl, fun _ h => by omega⟩ ?_ ?_) (fun a h => ok_of h rfl)
  · rintro n _ hn ⟨rfl, hl⟩
    rw [nl_64, if_le (by omega) (by omega), if_neg (by omega), wr_rcv, bind_s, sr_nearing c m μ hr.1 hw h8 (hr.2.1 8 (by decide)) (by omega), bind_s, mh_has _ hs, bind_s, if_b]
    by_cases h0 : B (clo (befS V.1) n (V.1.2.2.2.2 (V.2.1 8))) s = true
    · rw [if_pos h0]
      refine ok_some ?_
      rw [fst_at hn h0 hl]
      rfl
    · rw [if_neg h0]
      refine ok_some ⟨nI_1 n, fun j hj => ?_⟩
      by_cases e : j = n
      · rw [e]; simpa using h0
      · exact hl j (by omega)
  · rintro _ ⟨rfl, hl⟩
    rw [nl_64, if_le (by omega) (by omega), if_pos (by omega)]
    refine ok_some ?_
    rw [fst_none hl]
    rfl
theorem e_far {ce : Ce} {nx : Nat} {A : Nat → Nat} {κ : Nat × Nat × Nat} {V : Sv} {c : Ce} {m : Nat} {μ : MS} {x : Nat} (hx : XS ce x A) (h : SS ce nx A κ V) (hr : RV μ V) (h8 : V.2.1 8 < V.1.2.2.2.1) (p : Int32) : Both (m_X11_far ce x p) (m_X12_far (wr c m μ) m p) := by
  obtain ⟨_, w, x1, x2⟩ := hx
  obtain ⟨mp, g1, g2⟩ := ss_mach h
  have h26 := p2_64 g2.1.2.1
  unfold m_X11_far m_X12_far
  by_cases hp : Inr (2 ^ V.1.1) p
  · obtain ⟨s, hs, rfl⟩ := hp
    have e1 := cm_between g2 ((1 : Int64) <<< (Int32.toInt64 (nI s) &&& 63)) (V.1.2.2.2.2 (V.2.1 8))
    have e2 : (fun n => decide (clo (befS V.1) n (V.1.2.2.2.2 (V.2.1 8)) &&& ((1 : Int64) <<< (Int32.toInt64 (nI s) &&& 63)) ≠ 0)) = fun n => B (clo (befS V.1) n (V.1.2.2.2.2 (V.2.1 8))) s := funext fun n => and_bit (by omega)
    rw [e2] at e1
    simp only [x1, x2, g1, bind_s, cm_rcv g2, ss_rcv h, ch_in g2 hs, rs_in c m hr.1 hs, wr_rcv, i10, if_false, ss_aims h h8, e1, sr_farOf c m hr g2.1 h8 (show s < 64 by omega)]
    exact ⟨_, rfl, rfl⟩
  · simp only [x1, x2, g1, bind_s, cm_rcv g2, ch_out g2 hp, rs_out c m hr.1 hp, wr_rcv, i00, if_true]
    exact ⟨_, rfl, rfl⟩
/-! the i-th -/
theorem filt_len (p : Nat → Bool) : ∀ N, ((List.range N).filter p).length = cntN p N := by
  intro N
  induction N with
  | zero => rfl
  | succ N ih =>
    rw [List.range_succ, List.filter_append, List.length_append, ih, cntN]
    cases hp : p N <;> simp [hp]
theorem filt_nth {p : Nat → Bool} {j : Nat} (hp : p j = true) : ∀ N, j < N → ((List.range N).filter p)[cntN p j]? = some j := by
  intro N
  induction N with
  | zero => intro h; omega
  | succ N ih =>
    intro h
    rw [List.range_succ, List.filter_append]
    by_cases e : j = N
    · subst e
      rw [List.getElem?_append_right (by rw [filt_len]; omega), filt_len, Nat.sub_self]
      simp [hp]
    · have h1 := ih (by omega)
      have h2 := (List.getElem?_eq_some_iff.mp h1).1
      rw [List.getElem?_append_left h2]
      exact h1
theorem bitsL_len (x : Int64) : (bitsL x).length = cnt x := filt_len (B x) 64
theorem cntN_cut {f : Nat → Bool} {N : Nat} : ∀ K, N ≤ K → (∀ k, N ≤ k → k < K → f k = false) → cntN f K = cntN f N := by
  intro K
  induction K with
  | zero => intro h _; rw [Nat.le_zero.mp h]
  | succ K ih =>
    intro h hf
    by_cases e : N = K + 1
    · rw [e]
    · rw [cntN, ih (by omega) (fun k h1 h2 => hf k h1 (by omega)), hf K (by omega) (by omega)]
      rfl
theorem cc_stateAt (x : Int64) {k : Nat} (hk : k < 2 ^ 31) : m_X9_stateAt x (nI k) = some (oI ((bitsL x)[k]?)) := by
  refine ok_eq ?_
  unfold m_X9_stateAt
  refine ok_call (P := fun o => Sum.elim (fun w => some w) (fun _ => some (-1 : Int32)) o = some (oI ((bitsL x)[k]?))) (ok_cnt 0 64 (fun n t => t = (nI (k - cntN (B x) n), nI n) ∧ cntN (B x) n ≤ k) (by omega) (by omega) ⟨rfl, Nat.zero_le _⟩ ?_ ?_) (fun a h => ok_of h rfl)
  · rintro n _ hn ⟨rfl, hl⟩
    show Ok (if (64 : Int32) ≤ nI n then _ else if nI (k - cntN (B x) n) < 0 then _ else (m_X9_has x (nI n)).bind _) _
    rw [nl_64, if_le (by omega) (by omega), if_neg (by omega), if_neg (nI_pos (by omega)), ch_has _ hn, bind_s, if_b]
    by_cases hb : B x n = true
    · rw [if_pos hb]
      by_cases e : k = cntN (B x) n
      · have : k - cntN (B x) n = 0 := by omega
        show Ok (if nI (k - cntN (B x) n) = 0 then _ else _) _
        rw [this, nI_0, if_pos rfl]
        refine ok_some ?_
        show some (nI n) = _
        have h1 : (bitsL x)[k]? = some n := by
          unfold bitsL
          rw [e]
          exact filt_nth hb 64 hn
        rw [h1]
        rfl
      · show Ok (if nI (k - cntN (B x) n) = 0 then _ else _) _
        rw [if_neg (nI_ne0 (by omega) (by omega))]
        refine ok_some ⟨?_, ?_⟩
        · have e1 : k - cntN (B x) n = (k - cntN (B x) (n + 1)) + 1 := by
            rw [cntN, hb]
            show _ = k - (cntN (B x) n + 1) + 1
            omega
          show (nI (k - cntN (B x) n) + (-1), nI n + 1) = _
          rw [e1, pk_m1, nI_1]
        · rw [cntN, hb]
          show cntN (B x) n + 1 ≤ k
          omega
    · rw [if_neg hb]
      have hb' : B x n = false := by simpa using hb
      refine ok_some ⟨?_, ?_⟩
      · rw [cntN, hb']
        show (nI (k - cntN (B x) n), nI n + 1) = (nI (k - (cntN (B x) n + 0)), nI (n + 1))
        rw [nI_1]
        rfl
      · rw [cntN, hb']
        exact hl
  · rintro _ ⟨rfl, hl⟩
    show Ok (if (64 : Int32) ≤ nI 64 then _ else _) _
    rw [nl_64, if_pos (Int32.le_refl _)]
    refine ok_some ?_
    have h1 : (bitsL x)[k]? = none := List.getElem?_eq_none (by rw [bitsL_len]; exact hl)
    rw [h1]
    rfl
theorem cc_stateNeg (x : Int64) {p : Int32} (hp : p < 0) : m_X9_stateAt x p = some (-1) := by
  refine ok_eq ?_
  unfold m_X9_stateAt
  refine ok_call (P := fun o => o = Sum.inr ()) (ok_loop (fun s => s = (p, 0)) _ (fun _ => 0) rfl (lt_FU (by omega)) ?_) (fun a h => by rw [h]; exact ok_some rfl)
  rintro _ rfl
  show Ok (if (64 : Int32) ≤ 0 then _ else if p < 0 then _ else _) _
  rw [if_neg (by decide), if_pos hp]
  exact ok_some rfl
/-- how many, or the i-th -/
def cosV (x : Int64) (p : Int32) : Int32 := if p = -1 then nI (cnt x) else if p < 0 then -1 else oI ((bitsL x)[p.toNatClampNeg]?)
theorem cc_cos (x : Int64) (p : Int32) : m_X11_countOrState x p = some (cosV x p) := by
  unfold m_X11_countOrState cosV
  by_cases h1 : p = -1
  · rw [if_pos h1, if_pos h1, cc_bitCount, bind_s]
  · rw [if_neg h1, if_neg h1]
    by_cases h0 : p < 0
    · rw [if_pos h0, cc_stateNeg x h0, bind_s]
    · rw [if_neg h0]
      obtain ⟨k, hk, rfl⟩ := nI_of h0
      rw [cc_stateAt x hk, bind_s, nI_clamp hk]
theorem sr_leads (c : Ce) (m : Nat) {μ : MS} {M : Mv} (hM : Mac (μ.1 0) M) {t : Nat} (ht : t < 2 ^ M.1) (p : Int32) : m_X12_leads (wr c m μ) m (nI t) p = some (cosV (ledS M t) p) := by
  have hL := hM.2.2.1
  have h26 := p2_64 hL
  have hS := hM.2.2.2.2.2.2.2.2
  have hB : ∀ s, s < 2 ^ M.1 → B (aftN M.2.1 s 15 4) t = B (ledS M t) s := by
    intro s hs
    unfold ledS
    rw [B_mkS _ (show s < 64 by omega)]
    simp [hs]
  have hcn : cnt (ledS M t) = cntN (B (ledS M t)) (2 ^ M.1) := by
    refine cntN_cut 64 h26 fun k h1 h2 => ?_
    unfold ledS
    rw [B_mkS _ h2]
    have : ¬ k < 2 ^ M.1 := by omega
    simp [this]
  unfold m_X12_leads
  rw [wr_rcv, bind_s, rs_in c m hM ht, bind_s, if_neg (by decide)]
  by_cases hp : (-1 : Int32) ≤ p
  · rw [if_pos hp]
    refine ok_eq ?_
    refine ok_call (P := fun o => Sum.elim (fun w => some w) (fun v => if p = (-1 : Int32) then some v else some (-1 : Int32)) o = some (cosV (ledS M t) p)) (ok_cnt 0 (2 ^ M.1) (fun n s => s = (nI (cntN (B (ledS M t)) n), nI n) ∧ ∀ k, k < 2 ^ 31 → p = nI k → cntN (B (ledS M t)) n ≤ k) (by omega) (by omega) ⟨rfl, fun _ _ _ => Nat.zero_le _⟩ ?_ ?_) (fun a h => ok_of h rfl)
    · rintro n _ hn ⟨rfl, hl⟩
      have hcl := cntN_le (B (ledS M t)) n
      simp only [wr_rcv, bind_s, sr_states c m μ hL hM.1]
      rw [if_le (by omega) (by omega), if_neg (by omega), sr_after c m μ hL hS hn, bind_s, mh_has _ (show t < 64 by omega), bind_s, if_b, hB n hn]
      by_cases hb : B (ledS M t) n = true
      · rw [if_pos hb]
        by_cases e : nI (cntN (B (ledS M t)) n) = p
        · rw [if_pos e]
          refine ok_some ?_
          show some (nI n) = _
          unfold cosV
          rw [← e, if_neg (nI_m1 (by omega)), if_neg (nI_pos (by omega)), nI_clamp (by omega)]
          have h1 : (bitsL (ledS M t))[cntN (B (ledS M t)) n]? = some n := filt_nth hb 64 (by omega)
          rw [h1]
          rfl
        · rw [if_neg e]
          refine ok_some ⟨?_, fun k hk hpk => ?_⟩
          · rw [cntN, hb]
            show (nI (cntN (B (ledS M t)) n) + 1, nI n + 1) = (nI (cntN (B (ledS M t)) n + 1), nI (n + 1))
            rw [nI_1, nI_1]
          · have h1 := hl k hk hpk
            have h2 : cntN (B (ledS M t)) n ≠ k := fun z => e (by rw [z, hpk])
            rw [cntN, hb]
            show cntN (B (ledS M t)) n + 1 ≤ k
            omega
      · rw [if_neg hb]
        have hb' : B (ledS M t) n = false := by simpa using hb
        refine ok_some ⟨?_, fun k hk hpk => ?_⟩
        · rw [cntN, hb']
          show (nI (cntN (B (ledS M t)) n), nI n + 1) = (nI (cntN (B (ledS M t)) n + 0), nI (n + 1))
          rw [nI_1]
          rfl
        · rw [cntN, hb']
          exact hl k hk hpk
    · rintro _ ⟨rfl, hl⟩
      simp only [wr_rcv, bind_s, sr_states c m μ hL hM.1]
      rw [if_le (by omega) (by omega), if_pos (Nat.le_refl _)]
      refine ok_some ?_
      show (if p = (-1 : Int32) then some (nI (cntN (B (ledS M t)) (2 ^ M.1))) else some (-1 : Int32)) = _
      unfold cosV
      by_cases h1 : p = -1
      · rw [if_pos h1, if_pos h1, hcn]
      · rw [if_neg h1, if_neg h1]
        by_cases h0 : p < 0
        · rw [if_pos h0]
        · rw [if_neg h0]
          obtain ⟨k, hk, rfl⟩ := nI_of h0
          have := hl k hk rfl
          rw [nI_clamp hk, List.getElem?_eq_none (by rw [bitsL_len, hcn]; exact this)]
          rfl
  · rw [if_neg hp]
    have h0 : p < 0 := Int32.lt_trans (Int32.not_le.mp hp) (by decide)
    have h1 : ¬ p = -1 := fun e => hp (by rw [e]; exact Int32.le_refl _)
    unfold cosV
    rw [if_neg h1, if_pos h0]
theorem e_leads {ce : Ce} {nx : Nat} {A : Nat → Nat} {κ : Nat × Nat × Nat} {V : Sv} {c : Ce} {m : Nat} {μ : MS} {x : Nat} (hx : XS ce x A) (h : SS ce nx A κ V) (hr : RV μ V) (p q : Int32) : Both (m_X11_leads ce x p q) (m_X12_leads (wr c m μ) m p q) := by
  obtain ⟨_, w, x1, x2⟩ := hx
  obtain ⟨mp, g1, g2⟩ := ss_mach h
  by_cases hp : Inr (2 ^ V.1.1) p
  · obtain ⟨s, hs, rfl⟩ := hp
    rw [sr_leads c m hr.1 hs]
    unfold m_X11_leads
    simp only [x1, x2, g1, bind_s, cm_rcv g2, ch_in g2 hs, i10, if_false, cm_leadTo g2 hs, cc_cos]
    exact ⟨_, rfl, rfl⟩
  · unfold m_X11_leads m_X12_leads
    simp only [x1, x2, g1, bind_s, cm_rcv g2, ch_out g2 hp, rs_out c m hr.1 hp, wr_rcv, i00, if_true]
    exact ⟨_, rfl, rfl⟩
/-! sought -/
theorem bitsL_drop (x : Int64) : ∀ i, i ≤ cnt x → ∃ y, bitsL y = (bitsL x).drop i ∧ (i < cnt x → bitsL (y &&& (y - 1)) = (bitsL x).drop (i + 1)) := by
  intro i hi
  induction i with
  | zero =>
    refine ⟨x, rfl, fun h => ?_⟩
    have h0 : x ≠ 0 := fun e => by rw [e, cnt_0] at h; omega
    obtain ⟨k, _, _, _, hb⟩ := bitsL_low h0
    rw [hb]
    rfl
  | succ i ih =>
    obtain ⟨y, h1, h2⟩ := ih (by omega)
    refine ⟨y &&& (y - 1), h2 (by omega), fun h => ?_⟩
    have e := h2 (by omega)
    have h0 : y &&& (y - 1) ≠ 0 := fun z => by
      rw [z, bitsL_z] at e
      have := congrArg List.length e
      rw [List.length_drop, bitsL_len] at this
      have this : 0 = cnt x - (i + 1) := this
      omega
    obtain ⟨k, _, _, _, hb⟩ := bitsL_low h0
    rw [e] at hb
    have := congrArg List.tail hb
    rw [List.tail_drop] at this
    exact this.symm
theorem low_bits {x : Int64} : lowI x = oI ((bitsL x)[0]?) := by
  by_cases h0 : x = 0
  · rw [h0, bitsL_z]
    rfl
  · obtain ⟨k, h1, h2, h3, hb⟩ := bitsL_low h0
    rw [hb, lowI_some h3]
    rfl
theorem sr_sought (c : Ce) (m : Nat) {μ : MS} {V : Sv} (hr : RV μ V) (h8 : V.2.1 8 < V.1.2.2.2.1) (h4 : V.2.1 4 ≤ 65) {y : Int64} (hy : bitsL y = (bitsL (badV V.1 V.2.1 V.2.2.1)).take 8) (p : Int32) : m_X12_sought (wr c m μ) m p = some (cosV y p) := by
  generalize hz : badV V.1 V.2.1 V.2.2.1 = z at hy
  have hz' : V.1.2.2.2.2 (V.2.1 8) &&& wth V.1 V.2.2.1 (V.2.1 4) = z := hz
  have hc := cnt_le z
  have hcy : cnt y = if cnt z ≤ 8 then cnt z else 8 := by
    rw [← bitsL_len, hy, List.length_take, bitsL_len]
    by_cases h : cnt z ≤ 8
    · rw [if_pos h]; omega
    · rw [if_neg h]; omega
  unfold m_X12_sought
  rw [wr_rcv, bind_s, sr_aim c m hr h8, bind_s, wr_g0, bind_s, rd_4, bind_s, bind_s, hr.2.1 4 (by decide), sr_wth c m hr (show V.2.1 4 < 2 ^ 31 by omega), bind_s, hz', sr_many, bind_s, nl_8, if_le (by omega) (by omega), bind_s]
  have e1 : (if cnt z ≤ 8 then some (nI (cnt z)) else some (nI 8)) = some (nI (cnt y)) := by
    rw [hcy]
    by_cases h : cnt z ≤ 8
    · rw [if_pos h, if_pos h]
    · rw [if_neg h, if_neg h]
  rw [e1, bind_s]
  unfold cosV
  by_cases h1 : p = -1
  · rw [if_pos h1, if_pos h1]
  · rw [if_neg h1, if_neg h1]
    have hyz : cnt y ≤ cnt z := by rw [hcy]; by_cases h : cnt z ≤ 8 <;> simp [h] <;> omega
    have hy8 : cnt y ≤ 8 := by rw [hcy]; by_cases h : cnt z ≤ 8 <;> simp [h]
    by_cases hp : Inr (cnt y) p
    · obtain ⟨i, hi, rfl⟩ := hp
      rw [nl_0, nl_1, pk_sub (by omega), isin_in (by omega) (by omega) (by omega), bind_s, if_neg (by decide), ← nl_0, if_neg (nI_pos (by omega)), nI_clamp (by omega)]
      refine ok_eq ?_
      refine ok_call (P := fun o => lowI o = oI ((bitsL y)[i]?)) (ok_cnt 0 i (fun n s => s.2 = nI n ∧ bitsL s.1 = (bitsL z).drop n) (by omega) (by omega) ⟨rfl, rfl⟩ ?_ ?_) (fun a h => by rw [sr_lowest, bind_s, h]; exact ok_some rfl)
      · rintro n ⟨u, v⟩ hn ⟨h1, h2⟩
        have h1 : v = nI n := h1
        have h2 : bitsL u = (bitsL z).drop n := h2
        subst h1
        show Ok (if nI i ≤ nI n then _ else _) _
        rw [if_le (by omega) (by omega), if_neg (by omega)]
        refine ok_some ⟨nI_1 n, ?_⟩
        show bitsL (u &&& (u - 1)) = _
        have h0 : u ≠ 0 := fun e => by
          rw [e, bitsL_z] at h2
          have := congrArg List.length h2
          rw [List.length_drop, bitsL_len] at this
          have this : 0 = cnt z - n := this
          omega
        obtain ⟨k, _, _, _, hb⟩ := bitsL_low h0
        rw [h2] at hb
        have := congrArg List.tail hb
        rw [List.tail_drop] at this
        exact this.symm
      · rintro ⟨u, v⟩ ⟨h1, h2⟩
        have h1 : v = nI i := h1
        have h2 : bitsL u = (bitsL z).drop i := h2
        subst h1
        show Ok (if nI i ≤ nI i then _ else _) _
        rw [if_pos (Int32.le_refl _)]
        refine ok_some ?_
        show lowI u = _
        rw [low_bits, h2, hy, List.getElem?_drop, List.getElem?_take, if_pos (by omega), Nat.add_zero]
    · have e2 : m_X12_isIn p (0 : Int32) (nI (cnt y) - 1) = some 0 := by
        by_cases h0 : cnt y = 0
        · rw [h0, sr_isIn, if_neg]
          rintro ⟨a, b⟩
          exact absurd (Int32.le_trans a b) (by decide)
        · rw [nl_0, nl_1, pk_sub (by omega)]
          refine isin_out (by omega) (by omega) ?_
          rintro ⟨s, _, hs, e⟩
          exact hp ⟨s, by omega, e⟩
      rw [e2, bind_s, if_pos rfl]
      by_cases h0 : p < 0
      · rw [if_pos h0]
      · rw [if_neg h0]
        obtain ⟨k, hk, rfl⟩ := nI_of h0
        rw [nI_clamp hk, List.getElem?_eq_none]
        · rfl
        · rw [bitsL_len]
          exact Nat.le_of_not_lt fun z => hp ⟨k, z, rfl⟩
theorem e_sought {ce : Ce} {nx : Nat} {A : Nat → Nat} {κ : Nat × Nat × Nat} {V : Sv} {c : Ce} {m : Nat} {μ : MS} {x j : Nat} (hx : XS ce x A) (h : SS ce nx A κ V) (hr : RV μ V) (hi : IV j V) (p : Int32) : Both (m_X11_sought ce x p) (m_X12_sought (wr c m μ) m p) := by
  obtain ⟨_, w, x1, x2⟩ := hx
  have h4 := IV_top hi
  have h8 := hi.2.2.1.2.1
  obtain ⟨y, hy, hb⟩ := ss_sought (M := V.1) (n := V.2.1) (fr := V.2.2.1) (Y := V.2.2.2) h (IV_WC hi) h8 (by omega)
  rw [sr_sought c m hr h8 h4 hb]
  unfold m_X11_sought
  simp only [x1, x2, bind_s, ss_rcv h, hy, cc_cos]
  exact ⟨_, rfl, rfl⟩
