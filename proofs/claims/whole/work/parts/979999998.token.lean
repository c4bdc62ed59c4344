/-! TOKENS: the reference takes one -/
def tkq (f : Nat → Nat) (n k : Nat) : Nat := skp f n (n - k) k
def tkE (f : Nat → Nat) (n q : Nat) : Nat := if q < n then (if isF (f q) = true then rn isF f n (n - q) q else if isS (f q) = true then rn isS f n (n - q) q else q + 1) else q
def tkK (f : Nat → Nat) (n q : Nat) : Nat := if q < n then (if isF (f q) = true then 4 else if isS (f q) = true then lk f q (rn isS f n (n - q) q - q) else if isG (f q) = true then 5 else 1) else 0
def tkV (f : Nat → Nat) (n q : Nat) : Nat := if isF (f q) = true then min 1000 (vR f q (rn isF f n (n - q) q - q)) else if isS (f q) = true then lv f q else f q
/-- the token that the reference stands at -/
def TkR (ν : MS) (K V : Nat) : Prop := ν.2.2.2 5 = nI (rk K V) ∧ (K = 2 ∨ K = 3 → ν.2.2.2 6 = nI V) ∧ (K = 4 → ∃ w, w ≤ 99999 ∧ ν.2.2.2 6 = nI w ∧ V = min 1000 w)
theorem lk_45 (f : Nat → Nat) (q l : Nat) : lk f q l ≠ 4 ∧ lk f q l ≠ 5 ∧ lk f q l ≠ 0 := by
  unfold lk
  split
  · split
    · omega
    · split <;> omega
  · obtain ⟨_, _, z3, z4, z5, _⟩ := wk_not f q l 0
    exact ⟨z3, z4, z5⟩
theorem tkq_in {f : Nat → Nat} {n k : Nat} (h : k ≤ n) : k ≤ tkq f n k ∧ tkq f n k ≤ n := skp_in (n - k) k h
theorem sr_token (c : Ce) (m : Nat) {μ : MS} {n k : Nat} {f : Nat → Nat} (hB : Byt μ n f) (hk : μ.2.2.2 3 = nI k) (hkn : k ≤ n) : ∃ ν, m_X12_nextToken (wr c m μ) m = some ((), wr c m ν) ∧ KN μ ν ∧ ν.2.2.2 3 = nI (tkE f n (tkq f n k)) ∧ ν.2.2.2 4 = nI (tkq f n k) ∧ TkR ν (tkK f n (tkq f n k)) (tkV f n (tkq f n k)) := by
  have hn := hB.2.1
  have key : Ok (m_X12_nextToken (wr c m μ) m) (fun o => ∃ ν, o = ((), wr c m ν) ∧ KN μ ν ∧ ν.2.2.2 3 = nI (tkE f n (tkq f n k)) ∧ ν.2.2.2 4 = nI (tkq f n k) ∧ TkR ν (tkK f n (tkq f n k)) (tkV f n (tkq f n k))) := by
    unfold m_X12_nextToken
    refine ok_call (P := fun o => o.2 = wr c m (muN μ 3 (nI (tkq f n k)))) (ok_mono (sr_skip c m hB.1 hn hk hkn hB.2.2) (fun o h => by rw [h]; rfl)) (fun o h => ?_)
    rw [h]
    clear h
    obtain ⟨s1, s2⟩ := tkq_in (f := f) hkn
    generalize tkq f n k = q at s1 s2 ⊢
    rw [wr_g10, bind_s, mn_e, wr_n11, bind_s, wr_g10, bind_s, mn_n _ _ (show 3 ≠ 4 by decide), mn_e, wr_rcv, bind_s]
    have k0 : KN μ (muN (muN μ 3 (nI q)) 4 (nI q)) := KN_trans (KN_n _ _ (by omega) (by omega)) (KN_n _ _ (by omega) (by omega))
    have a3 : (muN (muN μ 3 (nI q)) 4 (nI q)).2.2.2 3 = nI q := (mn_n _ _ (by decide)).trans (mn_e _ _ _)
    have a4 : (muN (muN μ 3 (nI q)) 4 (nI q)).2.2.2 4 = nI q := mn_e _ _ _
    generalize muN (muN μ 3 (nI q)) 4 (nI q) = ν at k0 a3 a4 ⊢
    have hB2 := Byt_k hB k0
    rw [sr_bt c m hB2 (by omega), bind_s]
    unfold tkE tkK tkV
    by_cases hqn : q < n
    · have g := (hB.2.2 q hqn).2
      rw [if_pos hqn, if_pos hqn, if_pos hqn, if_pos (nI_pos' (by omega)), tm_digit _ g, bind_s]
      by_cases hF : isF (f q) = true
      · rw [if_pos hF, if_pos hF, if_pos hF, if_pos hF, if_neg (by decide), wr_n12, bind_s, wr_n13, bind_s]
        have k2 : KN ν (muN (muN ν 5 1) 6 0) := KN_trans (KN_n _ _ (by omega) (by omega)) (KN_n _ _ (by omega) (by omega))
        refine ok_call (sr_figures c m (Byt_k hB2 k2) (k := q) (((mn_n _ _ (by decide)).trans (mn_n _ _ (by decide))).trans a3) s2 (mn_e _ _ _)) (fun o h => ?_)
        obtain ⟨ρ, h1, h2, h3, h4, h5, h6⟩ := h
        rw [h1]
        have r2 := rn_mid (p := isF) (f := f) (n := n) (n - q) q
        refine ok_some ⟨ρ, rfl, KN_trans k0 (KN_trans k2 h2), h5, (h3.trans ((mn_n _ _ (by decide)).trans (mn_n _ _ (by decide)))).trans a4, (h4.trans (mn_n _ _ (by decide))).trans (mn_e _ _ _), fun h => by omega, fun _ => ⟨_, vR_le _ (fun j hj => (r2 (q + j) (by omega) (by omega)).2), h6, rfl⟩⟩
      · rw [if_neg hF, if_neg hF, if_neg hF, if_neg hF, if_pos rfl, tm_small _ g, bind_s]
        by_cases hS : isS (f q) = true
        · rw [if_pos hS, if_pos hS, if_pos hS, if_pos hS, if_neg (by decide)]
          refine ok_call (sr_letters c m hB2 a3 s2) (fun o h => ?_)
          obtain ⟨ρ, h1, h2, h3, h4⟩ := h
          have r1 := rn_pos (p := isS) (f := f) hqn hS
          obtain ⟨_, r2⟩ := rn_in (p := isS) (f := f) (n := n) (n - q) q s2
          obtain ⟨σ, w1, w2, w3, w4, w5⟩ := sr_wordOf c m (Byt_k hB2 h2) (h3.trans a4) (l := rn isS f n (n - q) q - q) (by omega) (by omega) hS
          rw [h1, wr_g10, bind_s, h4, wr_g11, bind_s, h3, a4, wr_rcv, bind_s, nI_sb (by omega), w1, bind_s, wr_n12, bind_s]
          obtain ⟨z1, z2, z3⟩ := lk_45 f q (rn isS f n (n - q) q - q)
          exact ok_some ⟨_, rfl, KN_trans k0 (KN_trans h2 (KN_trans w2 (KN_n _ _ (by omega) (by omega)))), ((mn_n _ _ (by decide)).trans w3).trans h4, ((mn_n _ _ (by decide)).trans w4).trans (h3.trans a4), mn_e _ _ _, fun h => (mn_n _ _ (by decide)).trans (w5 h), fun h => absurd h z1⟩
        · rw [if_neg hS, if_neg hS, if_neg hS, if_neg hS, if_pos rfl, tm_sign _ g, bind_s]
          by_cases hG : isG (f q) = true
          · rw [if_pos hG, if_pos hG, if_neg (by decide), bind_s, wr_n12, bind_s, wr_g10, bind_s, mn_n _ _ (show 3 ≠ 5 by decide), a3, nI_1, wr_n10, bind_s]
            exact ok_some ⟨_, rfl, KN_trans k0 (KN_trans (KN_n _ _ (by omega) (by omega)) (KN_n _ _ (by omega) (by omega))), mn_e _ _ _, ((mn_n _ _ (by decide)).trans (mn_n _ _ (by decide))).trans a4, (mn_n _ _ (by decide)).trans (mn_e _ _ _), fun h => by omega, fun h => by omega⟩
          · rw [if_neg hG, if_neg hG, if_pos rfl, bind_s, wr_n12, bind_s, wr_g10, bind_s, mn_n _ _ (show 3 ≠ 5 by decide), a3, nI_1, wr_n10, bind_s]
            exact ok_some ⟨_, rfl, KN_trans k0 (KN_trans (KN_n _ _ (by omega) (by omega)) (KN_n _ _ (by omega) (by omega))), mn_e _ _ _, ((mn_n _ _ (by decide)).trans (mn_n _ _ (by decide))).trans a4, (mn_n _ _ (by decide)).trans (mn_e _ _ _), fun h => by omega, fun h => by omega⟩
    · rw [if_neg hqn, if_neg hqn, if_neg hqn, if_neg (by decide), wr_n12, bind_s]
      exact ok_some ⟨_, rfl, KN_trans k0 (KN_n _ _ (by omega) (by omega)), (mn_n _ _ (by decide)).trans a3, (mn_n _ _ (by decide)).trans a4, mn_e _ _ _, fun h => by omega, fun h => by omega⟩
  obtain ⟨_, hv, ν, rfl, q⟩ := key
  exact ⟨ν, hv, q⟩
/-- the tokens one by one: where each begins to be sought -/
def ps (f : Nat → Nat) (n : Nat) : Nat → Nat
  | 0 => 0
  | j + 1 => tkE f n (tkq f n (ps f n j))
theorem tkE_in {f : Nat → Nat} {n q : Nat} (h : q ≤ n) : q ≤ tkE f n q ∧ tkE f n q ≤ n ∧ (q < n → q < tkE f n q) := by
  unfold tkE
  by_cases hq : q < n
  · rw [if_pos hq]
    split
    · rename_i hF
      exact ⟨(rn_in _ _ h).1, (rn_in _ _ h).2, fun _ => rn_pos hq hF⟩
    · split
      · rename_i hS
        exact ⟨(rn_in _ _ h).1, (rn_in _ _ h).2, fun _ => rn_pos hq hS⟩
      · omega
  · rw [if_neg hq]
    omega
theorem ps_le (f : Nat → Nat) (n : Nat) : ∀ j, ps f n j ≤ n := by
  intro j
  induction j with
  | zero => exact Nat.zero_le _
  | succ j ih =>
    rw [ps]
    exact (tkE_in (tkq_in ih).2).2.1
def tK (f : Nat → Nat) (n j : Nat) : Nat := tkK f n (tkq f n (ps f n j))
def tV (f : Nat → Nat) (n j : Nat) : Nat := tkV f n (tkq f n (ps f n j))
def tP (f : Nat → Nat) (n j : Nat) : Nat := tkq f n (ps f n j)
theorem tK_0 {f : Nat → Nat} {n j : Nat} : tK f n j = 0 ↔ tP f n j = n := by
  unfold tK tkK tP
  have h := (tkq_in (f := f) (ps_le f n j)).2
  generalize tkq f n (ps f n j) = q at h ⊢
  by_cases hq : q < n
  · rw [if_pos hq]
    have : ¬ q = n := by omega
    simp only [this, iff_false]
    split
    · omega
    · split
      · exact (lk_45 f q _).2.2
      · split <;> omega
  · rw [if_neg hq]
    have : q = n := by omega
    simp [this]
theorem ps_ge {f : Nat → Nat} {n : Nat} : ∀ j, (∀ i, i < j → tK f n i ≠ 0) → j ≤ ps f n j := by
  intro j
  induction j with
  | zero => intro _; exact Nat.zero_le _
  | succ j ih =>
    intro h
    have h1 := ih (fun i hi => h i (by omega))
    have h2 := h j (by omega)
    obtain ⟨q1, q2⟩ := tkq_in (f := f) (ps_le f n j)
    have h3 : tP f n j ≠ n := fun e => h2 (tK_0.mpr e)
    have h4 := (tkE_in (f := f) q2).2.2 (by unfold tP at h3; omega)
    rw [ps]
    omega
/-- the reference stands at token j -/
def At (μ : MS) (f : Nat → Nat) (n j : Nat) : Prop := μ.2.2.2 3 = nI (ps f n (j + 1)) ∧ μ.2.2.2 4 = nI (tP f n j) ∧ TkR μ (tK f n j) (tV f n j)
theorem sr_next (c : Ce) (m : Nat) {μ : MS} {n j : Nat} {f : Nat → Nat} (hB : Byt μ n f) (h : At μ f n j) : ∃ ν, m_X12_nextToken (wr c m μ) m = some ((), wr c m ν) ∧ KN μ ν ∧ At ν f n (j + 1) := by
  obtain ⟨ν, h1, h2, h3, h4, h5⟩ := sr_token c m hB h.1 (ps_le f n (j + 1))
  exact ⟨ν, h1, h2, h3, h4, h5⟩
