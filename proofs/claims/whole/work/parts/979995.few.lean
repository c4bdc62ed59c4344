/-! THE FEWEST: the class -/
theorem cntN_0s (f : Nat → Bool) : ∀ k, cntN f (k + 1) = (if f 0 then 1 else 0) + cntN (fun j => f (j + 1)) k := by
  intro k
  induction k with
  | zero => simp [cntN]
  | succ k ih =>
    rw [cntN, ih]
    show _ + (if f (k + 1) then 1 else 0) = _ + (cntN (fun j => f (j + 1)) k + if f (k + 1) then 1 else 0)
    omega
theorem pcf_cnt : ∀ k s, pcf k s = cntN (fun j => s.testBit j) k := by
  intro k
  induction k with
  | zero => intro s; rfl
  | succ k ih =>
    intro s
    rw [pcf, ih, cntN_0s]
    congr 1
    · rw [Nat.testBit_zero]
      by_cases h : s % 2 = 1
      · simp [h]
      · have : s % 2 = 0 := by omega
        simp [this]
    · refine cntN_congr k fun j _ => ?_
      rw [Nat.testBit_div_two]
theorem nn_nI {s : Nat} (h : s < 2 ^ 31) : nn (nI s).toInt64 = s := by
  rw [nI_l h]
  unfold nn lN
  show (BitVec.ofNat 64 s).toNat = s
  rw [BitVec.toNat_ofNat]
  omega
theorem pcn {s : Nat} (h : s < 8192) : cnt (nI s).toInt64 = pcf 13 s := by
  rw [cnt_nn, nn_nI (by omega), ← cnt_bytes, pcf_cnt]
  refine cntN_cut 64 (by omega) fun k h1 _ => ?_
  exact Nat.testBit_lt_two_pow (Nat.lt_of_lt_of_le h (Nat.pow_le_pow_right (n := 2) (i := 13) (by omega) h1))
/-! the best of them -/
/-- b is the best of those below j: of the fewest, the lowest -/
def Best (good : Nat → Bool) (j : Nat) : Option Nat → Prop
  | none => ∀ s, s < j → good s = false
  | some b => b < j ∧ good b = true ∧ ∀ s, s < j → good s = true → pcf 13 b < pcf 13 s ∨ (pcf 13 b = pcf 13 s ∧ b ≤ s)
theorem Best_one {good : Nat → Bool} {j : Nat} {x y : Option Nat} (hx : Best good j x) (hy : Best good j y) : x = y := by
  cases x with
  | none =>
    cases y with
    | none => rfl
    | some b =>
      have := hx b hy.1
      rw [hy.2.1] at this
      cases this
  | some a =>
    cases y with
    | none =>
      have := hy a hx.1
      rw [hx.2.1] at this
      cases this
    | some b =>
      have h1 := hx.2.2 b hy.1 hy.2.1
      have h2 := hy.2.2 a hx.1 hx.2.1
      congr 1
      omega
/-! unions by sets -/
def orS (S : Nat → Int64) (set : Nat) : Nat → Int64
  | 0 => 0
  | k + 1 => if set.testBit k then orS S set k ||| S k else orS S set k
theorem B_orS (S : Nat → Int64) (set : Nat) {t : Nat} (n : Nat) : B (orS S set n) t = (List.range n).any fun i => set.testBit i && B (S i) t := by
  induction n with
  | zero => exact B_0 t
  | succ n ih =>
    rw [orS, List.range_succ, List.any_append, ← ih]
    by_cases h : set.testBit n = true
    · rw [if_pos h, B_or]
      simp [h]
    · rw [if_neg h]
      have : set.testBit n = false := by simpa using h
      simp [this]
theorem Add_orS {F : Int64 → Int64} (hF : Add F) (S : Nat → Int64) (set : Nat) : ∀ n, F (orS S set n) = orS (fun i => F (S i)) set n := by
  intro n
  induction n with
  | zero => exact hF.2
  | succ n ih =>
    rw [orS, orS]
    by_cases h : set.testBit n = true
    · rw [if_pos h, if_pos h, hF.1, ih]
    · rw [if_neg h, if_neg h, ih]
theorem agr_orS {L : Nat} {S T : Nat → Int64} {n set : Nat} (h : ∀ i, i < n → Agr L (S i) (T i)) : Agr L (orS S set n) (orS T set n) := by
  intro s hs
  rw [B_orS, B_orS]
  refine any_congr fun i hi => ?_
  rw [h i (List.mem_range.mp hi) s hs]
def goodB (M : Mv) (g : Int64) (T : Nat → Int64) (n set : Nat) : Bool := decide (jdg M g (orS T set n) = 0)
/-! the class -/
def CHc (ce : Ce) (ch a b : Nat) (S T : Nat → Int64) : Prop := ce ch = some (.inr (1, [.ref a, .ref b])) ∧ ce a = some (.inl (.long, 12, .inr (.inl S))) ∧ ce b = some (.inl (.long, 12, .inr (.inl T)))
theorem c_suffices {ce : Ce} {ch a b : Nat} {S T : Nat → Int64} (h : CHc ce ch a b S T) {set n : Nat} (hs : set < 2 ^ 31) (hn : n ≤ 12) (g : Int64) : m_X1_suffices ce ch (nI set) (nI n) g = some (if (g ||| orS T set n) &&& (orS S set n ^^^ (-1)) = 0 then 1 else 0) := by
  obtain ⟨h1, h2, h3⟩ := h
  refine ok_eq ?_
  unfold m_X1_suffices
  refine ok_call (P := fun o => o = (orS S set n, orS T set n)) (ok_cnt 0 n (fun k z => z = (orS S set k, orS T set k, nI k)) (by omega) (Nat.zero_le _) rfl ?_ ?_) ?_
  · rintro k _ hk rfl
    show Ok (if nI n ≤ nI k then _ else if ((nI set >>> (nI k &&& 31)) &&& (1 : Int32)) = 0 then _ else _) _
    rw [if_le (by omega) (by omega), if_neg (by omega), ibit0 hs (by omega)]
    by_cases hb : set.testBit k = true
    · rw [if_pos hb, gA_c (k := 0) h1 rfl, bind_s, aL_c h2 (by omega) (by omega), bind_s, gA_c (k := 1) h1 rfl, bind_s, aL_c h3 (by omega) (by omega), bind_s]
      refine ok_some ?_
      rw [orS, orS, if_pos hb, if_pos hb, nI_1]
    · rw [if_neg hb]
      refine ok_some ?_
      rw [orS, orS, if_neg hb, if_neg hb, nI_1]
  · rintro _ rfl
    show Ok (if nI n ≤ nI n then _ else _) _
    rw [if_pos (Int32.le_refl _)]
    exact ok_some rfl
  · rintro _ rfl
    show Ok (if lg_cmp ((g ||| orS T set n) &&& (orS S set n ^^^ (-1))) 0 = 0 then _ else _) _
    by_cases hz : (g ||| orS T set n) &&& (orS S set n ^^^ (-1)) = 0
    · rw [if_pos (lcmp_0.mpr hz), if_pos hz]
      exact ok_some rfl
    · rw [if_neg (fun z => hz (lcmp_0.mp z)), if_neg hz]
      exact ok_some rfl
theorem c_firstOf {ce : Ce} {ch : Nat} (hc : rcv ce 1 ch = some ()) {good : Nat → Bool} {n : Nat} (hn : n ≤ 12) {g : Int64} (hg : ∀ set, set < 2 ^ n → m_X1_suffices ce ch (nI set) (nI n) g = some (if good set then 1 else 0)) {k : Nat} (hk : k ≤ n) : Ok (m_X1_firstOf ce ch (nI k) (nI n) g) (fun v => (v = -1 ∧ ∀ s, s < 2 ^ n → pcf 13 s = k → good s = false) ∨ ∃ b, v = nI b ∧ b < 2 ^ n ∧ good b = true ∧ pcf 13 b = k ∧ ∀ s, s < b → pcf 13 s = k → good s = false) := by
  have h2n : 2 ^ n ≤ 4096 := Nat.pow_le_pow_right (n := 2) (i := n) (j := 12) (by omega) hn
  have hk12 : k ≤ 12 := by omega
  have sh : ∀ k, k ≤ 12 → (1 : Int32) <<< (nI k &&& 31) = nI (2 ^ k) ∧ pcf 13 (2 ^ k - 1) = k ∧ 2 ^ k - 1 < 4096 ∧ 1 ≤ 2 ^ k := by
    intro k hk
    have : ∀ k, k < 13 → (1 : Int32) <<< (nI k &&& 31) = nI (2 ^ k) ∧ pcf 13 (2 ^ k - 1) = k ∧ 2 ^ k - 1 < 4096 ∧ 1 ≤ 2 ^ k := by decide
    exact this k (by omega)
  have first := fst_all
  have hfirst : ∀ s, s < 2 ^ k - 1 → pcf 13 s ≠ k := by
    intro s hs
    have := first k (by omega)
    rw [List.all_eq_true] at this
    have := this s (List.mem_range.mpr hs)
    simpa using this
  unfold m_X1_firstOf
  rw [(sh k hk12).1, (sh n hn).1, nl_1, pk_sub (sh k hk12).2.2.2]
  refine ok_call (P := fun o => (o = Sum.inr () ∧ ∀ s, s < 2 ^ n → pcf 13 s = k → good s = false) ∨ ∃ b, o = Sum.inl (nI b) ∧ b < 2 ^ n ∧ good b = true ∧ pcf 13 b = k ∧ ∀ s, s < b → pcf 13 s = k → good s = false) (ok_cnt 0 4096 (fun j z => ∃ b, z = (nI b, nI j) ∧ j ≤ b ∧ b < 8192 ∧ (b < 4096 → pcf 13 b = k) ∧ ∀ s, s < b → s < 2 ^ n → pcf 13 s = k → good s = false) (by omega) (by omega) ⟨2 ^ k - 1, rfl, Nat.zero_le _, by have := (sh k hk12).2.2.1; omega, fun _ => (sh k hk12).2.1, fun s hs _ hp => absurd hp (hfirst s hs)⟩ ?_ ?_) ?_
  · rintro j _ hj ⟨b, rfl, y1, y2, y3, y4⟩
    show Ok (if (4096 : Int32) ≤ nI j then _ else if nI (2 ^ n) ≤ nI b then _ else (rcv ce 1 ch).bind _) _
    rw [nl_4096, if_le (by omega) (by omega), if_neg (by omega), if_le (by omega) (by omega)]
    by_cases hb : 2 ^ n ≤ b
    · rw [if_pos hb]
      exact ok_some (Or.inl ⟨rfl, fun s hs hp => y4 s (by omega) hs hp⟩)
    · rw [if_neg hb, hc, bind_s]
      show Ok ((m_X1_suffices ce ch (nI b) (nI n) g).bind _) _
      have hb4 : b < 4096 := by omega
      rw [hg b (by omega), bind_s, if_b]
      by_cases hgb : good b = true
      · rw [if_pos hgb]
        exact ok_some (Or.inr ⟨b, rfl, by omega, hgb, y3 hb4, fun s hs hp => y4 s hs (by omega) hp⟩)
      · rw [if_neg hgb]
        have hgb' : good b = false := by simpa using hgb
        show Ok ((m_X1_nextOfLikeMany (nI b)).bind _) _
        by_cases h0 : b = 0
        · subst h0
          have e0 : m_X1_nextOfLikeMany (nI 0) = some (nI 4096) := rfl
          rw [e0, bind_s]
          have k0 : k = 0 := by
            have := y3 hb4
            have e : pcf 13 0 = 0 := rfl
            omega
          refine ok_some ⟨4096, by show (nI 4096, nI j + nI 1) = _; rw [nI_add], by omega, by omega, fun h => by omega, fun s hs hs2 hp => ?_⟩
          by_cases e : s = 0
          · rw [e]; exact hgb'
          · exfalso
            have pos := pos_all
            have h1 := pos (s / 64) (by omega)
            rw [List.all_eq_true] at h1
            have h2 := h1 (s % 64) (List.mem_range.mpr (by omega))
            have e2 : s / 64 * 64 + s % 64 = s := by omega
            rw [e2] at h2
            rw [k0] at hp
            simp [e, hp] at h2
        · obtain ⟨n1, n2, n3, n4⟩ := nxt_ok hb4 h0
          rw [nxtJ hb4 h0, bind_s]
          refine ok_some ⟨nxt b, by show (nI (nxt b), nI j + nI 1) = _; rw [nI_add], by omega, n2, fun _ => by rw [n3]; exact y3 hb4, fun s hs hs2 hp => ?_⟩
          by_cases e : s < b
          · exact y4 s e hs2 hp
          · by_cases e2 : s = b
            · rw [e2]; exact hgb'
            · exact absurd (by rw [hp, y3 hb4]) (n4 s (by omega) hs)
  · rintro _ ⟨b, rfl, y1, y2, y3, y4⟩
    show Ok (if (4096 : Int32) ≤ nI 4096 then _ else _) _
    rw [nl_4096, if_pos (Int32.le_refl _)]
    exact ok_some (Or.inl ⟨rfl, fun s hs hp => y4 s (by omega) hs hp⟩)
  · rintro o (⟨rfl, h⟩ | ⟨b, rfl, h⟩)
    · exact ok_some (Or.inl ⟨rfl, h⟩)
    · exact ok_some (Or.inr ⟨b, rfl, h⟩)
