/-! HOW MANY -/
def cntN (f : Nat → Bool) : Nat → Nat
  | 0 => 0
  | n + 1 => cntN f n + (if f n then 1 else 0)
def cnt (x : Int64) : Nat := cntN (B x) 64
theorem cntN_congr {f g : Nat → Bool} : ∀ n, (∀ k, k < n → f k = g k) → cntN f n = cntN g n := by
  intro n
  induction n with
  | zero => intro _; rfl
  | succ n ih =>
    intro h
    rw [cntN, cntN, ih (fun k hk => h k (by omega)), h n (by omega)]
theorem cntN_le (f : Nat → Bool) : ∀ n, cntN f n ≤ n := by
  intro n
  induction n with
  | zero => exact Nat.le_refl _
  | succ n ih =>
    rw [cntN]
    split <;> omega
theorem cntN_off {f : Nat → Bool} {k : Nat} (hk : f k = true) : ∀ n, cntN (fun j => f j && decide (j ≠ k)) n + (if k < n then 1 else 0) = cntN f n := by
  intro n
  induction n with
  | zero => rfl
  | succ n ih =>
    have e1 : cntN (fun j => f j && decide (j ≠ k)) (n + 1) = cntN (fun j => f j && decide (j ≠ k)) n + (if (f n && decide (n ≠ k)) then 1 else 0) := rfl
    have e2 : cntN f (n + 1) = cntN f n + (if f n then 1 else 0) := rfl
    rw [e1, e2]
    generalize cntN (fun j => f j && decide (j ≠ k)) n = u at ih ⊢
    generalize cntN f n = v at ih ⊢
    by_cases h : k = n
    · subst h
      have h1 : ¬ k < k := Nat.lt_irrefl _
      have h2 : k < k + 1 := Nat.lt_succ_self _
      simp only [h1, if_false] at ih
      simp [hk]
      omega
    · have h3 : n ≠ k := fun q => h q.symm
      have e : decide (n ≠ k) = true := by simp [h3]
      rw [e, Bool.and_true]
      by_cases h2 : k < n
      · rw [if_pos h2] at ih
        rw [if_pos (Nat.lt_succ_of_lt h2)]
        omega
      · rw [if_neg h2] at ih
        have h4 : ¬ k < n + 1 := by omega
        rw [if_neg h4]
        omega
theorem cnt_le (x : Int64) : cnt x ≤ 64 := cntN_le _ _
theorem cnt_0 : cnt 0 = 0 := by decide +kernel
theorem cntN_pos {f : Nat → Bool} {k : Nat} (hk : f k = true) {n : Nat} (h : k < n) : 0 < cntN f n := by
  have := cntN_off hk n
  rw [if_pos h] at this
  omega
theorem pr_div {n P : Nat} (hp : 0 < P) (h0 : n % P = 0) (hn : 0 < n) : (n - 1) / P = n / P - 1 := by
  have hdm := Nat.div_add_mod n P
  rw [h0] at hdm
  generalize hQ : n / P = Q at hdm ⊢
  have hQ1 : Q ≠ 0 := by
    intro hz
    rw [hz, Nat.mul_zero] at hdm
    omega
  obtain ⟨R, rfl⟩ : ∃ R, Q = R + 1 := ⟨Q - 1, by omega⟩
  have h3 : n - 1 = P * R + (P - 1) := by
    have : P * (R + 1) = P * R + P := Nat.mul_succ P R
    omega
  rw [h3, Nat.mul_add_div hp, Nat.div_eq_of_lt (by omega)]
  rfl
theorem pr_div2 {n P : Nat} (hp : 0 < P) (h0 : n % P ≠ 0) : (n - 1) / P = n / P := by
  have hdm := Nat.div_add_mod n P
  have hml := Nat.mod_lt n hp
  have h3 : n - 1 = P * (n / P) + (n % P - 1) := by
    generalize P * (n / P) = u at hdm ⊢
    omega
  have h5 : (n % P - 1) / P = 0 := Nat.div_eq_of_lt (by omega)
  have h4 : (P * (n / P) + (n % P - 1)) / P = n / P := by
    rw [Nat.mul_add_div hp, h5]
    rfl
  rw [h3]
  exact h4
theorem tb_low {n k : Nat} (h : ∀ j, j < k → n.testBit j = false) : n % 2 ^ k = 0 := by
  refine Nat.eq_of_testBit_eq fun i => ?_
  rw [Nat.testBit_mod_two_pow, Nat.zero_testBit]
  by_cases hi : i < k
  · simp [h i hi]
  · simp [hi]
theorem tb_pred {n k : Nat} (hk : n.testBit k = true) (h : ∀ j, j < k → n.testBit j = false) {j : Nat} (hj : k ≤ j) : (n - 1).testBit j = (n.testBit j && decide (j ≠ k)) := by
  have h0 := tb_low h
  have hodd : n / 2 ^ k % 2 = 1 := by rw [Nat.testBit_eq_decide_div_mod_eq] at hk; simpa using hk
  have hp : 0 < 2 ^ k := Nat.two_pow_pos k
  have hdm := Nat.div_add_mod n (2 ^ k)
  have hn0 : 0 < n := by
    refine Nat.pos_of_ne_zero fun hz => ?_
    rw [hz, Nat.zero_testBit] at hk
    cases hk
  by_cases hjk : j = k
  · subst hjk
    have e : (n - 1) / 2 ^ j = n / 2 ^ j - 1 := pr_div hp h0 hn0
    rw [Nat.testBit_eq_decide_div_mod_eq, e]
    generalize n / 2 ^ j = Q at hodd ⊢
    have h9 : ¬ (Q - 1) % 2 = 1 := by omega
    simp [h9]
  · have hlt : k < j := by omega
    have hne : n % 2 ^ j ≠ 0 := by
      intro hz
      have := Nat.testBit_mod_two_pow n j k
      rw [hz, Nat.zero_testBit, hk] at this
      simp [hlt] at this
    have hpj : 0 < 2 ^ j := Nat.two_pow_pos j
    have hdj := Nat.div_add_mod n (2 ^ j)
    have hml := Nat.mod_lt n hpj
    have e : (n - 1) / 2 ^ j = n / 2 ^ j := pr_div2 hpj hne
    rw [Nat.testBit_eq_decide_div_mod_eq, e, Nat.testBit_eq_decide_div_mod_eq]
    simp [hjk]
theorem B_tb (x : Int64) (k : Nat) : B x k = x.toBitVec.toNat.testBit k := rfl
theorem B_low {x : Int64} (h : x ≠ 0) : ∃ k, k < 64 ∧ B x k = true ∧ ∀ j, j < k → B x j = false := by
  have key : ∀ n, n ≤ 64 → (∀ j, j < n → B x j = false) ∨ ∃ k, k < 64 ∧ B x k = true ∧ ∀ j, j < k → B x j = false := by
    intro n
    induction n with
    | zero => intro _; exact Or.inl (fun j hj => by omega)
    | succ n ih =>
      intro hn
      rcases ih (by omega) with h1 | h1
      · cases hb : B x n with
        | true => exact Or.inr ⟨n, by omega, hb, h1⟩
        | false =>
          refine Or.inl (fun j hj => ?_)
          by_cases e : j = n
          · rw [e]; exact hb
          · exact h1 j (by omega)
      · exact Or.inr h1
  rcases key 64 (Nat.le_refl _) with h1 | h1
  · exact absurd (B_ext0 h1) h
  · exact h1
theorem B_pred {x : Int64} {k : Nat} (hk : k < 64) (hb : B x k = true) (hl : ∀ j, j < k → B x j = false) {j : Nat} (hj : j < 64) : B (x &&& (x - 1)) j = (B x j && decide (j ≠ k)) := by
  rw [B_and]
  by_cases h : j < k
  · rw [hl j h]; rfl
  · have hn : x.toBitVec.toNat ≠ 0 := by
      intro hz
      rw [B_tb, hz, Nat.zero_testBit] at hb
      cases hb
    have hlt := x.toBitVec.isLt
    have e : (x - 1).toBitVec.toNat = x.toBitVec.toNat - 1 := by
      rw [Int64.toBitVec_sub, BitVec.toNat_sub]
      have e1 : (1 : Int64).toBitVec.toNat = 1 := rfl
      rw [e1]
      omega
    rw [B_tb (x - 1), e, tb_pred (by rw [← B_tb]; exact hb) (fun i hi => by rw [← B_tb]; exact hl i hi) (by omega), ← B_tb]
    cases B x j <;> simp
theorem cnt_pred {x : Int64} (h : x ≠ 0) : cnt (x &&& (x - 1)) + 1 = cnt x := by
  obtain ⟨k, hk, hb, hl⟩ := B_low h
  have e := cntN_off hb 64
  rw [if_pos hk] at e
  unfold cnt
  rw [cntN_congr (g := fun j => B x j && decide (j ≠ k)) 64 (fun j hj => B_pred hk hb hl hj)]
  exact e
theorem lcmp_0 {x y : Int64} : lg_cmp x y = 0 ↔ x = y := by
  unfold lg_cmp
  by_cases h1 : x > y
  · rw [if_pos h1]
    constructor
    · intro h; exact absurd h (by decide)
    · intro h; subst h; exact absurd h1 (fun q => Int64.lt_irrefl q)
  · rw [if_neg h1]
    by_cases h2 : x = y
    · rw [if_pos h2]; simp [h2]
    · rw [if_neg h2]
      constructor
      · intro h; exact absurd h (by decide)
      · intro h; exact absurd h h2
theorem sr_many (x : Int64) : m_X12_many x = some (nI (cnt x)) := by
  refine ok_eq ?_
  unfold m_X12_many
  refine ok_call (P := fun o => o = nI (cnt x)) (ok_loop (fun s => ∃ a, s.1 = nI a ∧ a + cnt s.2 = cnt x) (fun o => o = nI (cnt x)) (fun s => cnt s.2) ⟨0, nI_0.symm, by show 0 + cnt x = cnt x; omega⟩ (by have := cnt_le x; show cnt x < FU; exact lt_FU (by omega)) ?_) (fun a h => ok_some h)
  rintro ⟨n, y⟩ ⟨a, rfl, ha⟩
  have ha : a + cnt y = cnt x := ha
  refine ok_ite (fun h => ?_) (fun h => ?_)
  · have hy : y = 0 := lcmp_0.mp h
    subst hy
    rw [cnt_0] at ha
    refine ok_some ?_
    show nI a = nI (cnt x)
    rw [← ha]
    rfl
  · have hy : y ≠ 0 := fun e => h (lcmp_0.mpr e)
    have e := cnt_pred hy
    refine ok_some ⟨⟨a + 1, nI_1 a, ?_⟩, ?_⟩
    · show a + 1 + cnt (y &&& (y - 1)) = cnt x
      omega
    · show cnt (y &&& (y - 1)) < cnt y
      omega
