/-! SETS BY THEIR STATES, and the small loops over them -/
def mkSn (f : Nat → Bool) : Nat → Int64
  | 0 => 0
  | n + 1 => if f n then mkSn f n ||| ((1 : Int64) <<< ((nI n).toInt64 &&& 63)) else mkSn f n
abbrev mkS (f : Nat → Bool) : Int64 := mkSn f 64
theorem B_mkSn (f : Nat → Bool) {k : Nat} (hk : k < 64) : ∀ n, n ≤ 64 → B (mkSn f n) k = (decide (k < n) && f k) := by
  intro n
  induction n with
  | zero => intro _; rw [mkSn, B_0]; simp
  | succ n ih =>
    intro hn
    rw [mkSn]
    cases hf : f n with
    | true =>
      rw [if_pos rfl, B_or, ih (by omega), B_bit n (by omega) k hk]
      by_cases h : k = n
      · subst h; simp [hf]
      · by_cases h2 : k < n
        · simp [h, h2, Nat.lt_succ_of_lt h2]
        · have h3 : ¬ k < n + 1 := by omega
          simp [h, h2, h3]
    | false =>
      rw [if_neg (by decide), ih (by omega)]
      by_cases h : k = n
      · subst h; simp [hf]
      · by_cases h2 : k < n
        · simp [h2, Nat.lt_succ_of_lt h2]
        · have h3 : ¬ k < n + 1 := by omega
          simp [h2, h3]
theorem B_mkS (f : Nat → Bool) {k : Nat} (hk : k < 64) : B (mkS f) k = f k := by
  rw [B_mkSn f hk 64 (Nat.le_refl _)]
  simp [hk]
theorem mkS_ext {x : Int64} {f : Nat → Bool} (h : ∀ k, k < 64 → B x k = f k) : x = mkS f := B_ext fun k hk => (h k hk).trans (B_mkS f hk).symm
theorem lt_FU {n : Nat} (h : n < 1000000) : n < FU := h
theorem sm_l : ∀ l, l < 32 → ((nI l &&& 31).toBitVec.smod 32).toNat = l := by decide +kernel
theorem ibit {j l : Nat} (hj : j < 2 ^ 31) (hl : l < 32) : ((nI j >>> (nI l &&& 31)) &&& (1 : Int32)) = if j.testBit l then 1 else 0 := by
  rw [pk_shrN hj _ l (sm_l l hl), pk_andN (Nat.lt_of_le_of_lt (Nat.div_le_self _ _) (by omega)) 1 (by decide)]
  rw [Nat.testBit_eq_decide_div_mod_eq]
  have h2 : j / 2 ^ l % 2 ^ 1 = 0 ∨ j / 2 ^ l % 2 ^ 1 = 1 := by omega
  rcases h2 with h | h
  · rw [h]
    have h3 : ¬ j / 2 ^ l % 2 = 1 := by omega
    simp [h3]
    rfl
  · rw [h]
    have h3 : j / 2 ^ l % 2 = 1 := by omega
    simp [h3]
    rfl
theorem sr_letterSet {l : Nat} (hl : l < 32) : m_X12_letterSet (nI l) = some (mkS fun s => s.testBit l) := by
  refine ok_eq ?_
  unfold m_X12_letterSet
  refine ok_call (ok_loop (fun s => ∃ j, j ≤ 64 ∧ s.2 = nI j ∧ s.1 = mkSn (fun s => s.testBit l) j) (fun o => o = mkS fun s => s.testBit l) (fun s => 64 - s.2.toNatClampNeg) ⟨0, by omega, rfl, rfl⟩ (lt_FU (by omega)) ?_) (fun a h => ok_some h)
  rintro ⟨x, s⟩ ⟨j, hj, rfl, rfl⟩
  rw [nl_64]
  refine ok_ite (fun h => ?_) (fun h => ?_)
  · have : j = 64 := by
      have := (nI_leI (a := 64) (b := j) (by omega) (by omega)).mp h
      omega
    subst this
    exact ok_some rfl
  · have hlt : j < 64 := by
      refine Nat.lt_of_not_le fun hn => h ?_
      exact nI_le hn (by omega)
    rw [ibit (by omega) hl]
    cases hb : j.testBit l with
    | true =>
      rw [if_pos rfl, if_pos rfl]
      refine ok_some ⟨⟨j + 1, by omega, nI_1 j, ?_⟩, ?_⟩
      · show _ = mkSn _ (j + 1)
        rw [mkSn, hb]
        rfl
      · show 64 - (nI j + 1).toNatClampNeg < 64 - (nI j).toNatClampNeg
        rw [nI_1, nI_clamp (by omega), nI_clamp (by omega)]
        omega
    | false =>
      rw [if_neg (by decide)]
      refine ok_some ⟨⟨j + 1, by omega, nI_1 j, ?_⟩, ?_⟩
      · show _ = mkSn _ (j + 1)
        rw [mkSn, hb]
        rfl
      · show 64 - (nI j + 1).toNatClampNeg < 64 - (nI j).toNatClampNeg
        rw [nI_1, nI_clamp (by omega), nI_clamp (by omega)]
        omega
