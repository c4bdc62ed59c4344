/-! TOKENS: blanks are passed -/
def blk (b : Nat) : Bool := b == 32 || b == 10
def skp (f : Nat → Nat) (n : Nat) : Nat → Nat → Nat
  | 0, k => k
  | t + 1, k => if k < n ∧ blk (f k) = true then skp f n t (k + 1) else k
theorem skp_in {f : Nat → Nat} {n : Nat} : ∀ t k, k ≤ n → k ≤ skp f n t k ∧ skp f n t k ≤ n := by
  intro t
  induction t with
  | zero => intro k h; exact ⟨Nat.le_refl _, h⟩
  | succ t ih =>
    intro k h
    rw [skp]
    by_cases hb : k < n ∧ blk (f k) = true
    · rw [if_pos hb]
      have := ih (k + 1) (by omega)
      exact ⟨by omega, this.2⟩
    · rw [if_neg hb]
      exact ⟨Nat.le_refl _, h⟩
theorem skp_end {f : Nat → Nat} {n : Nat} : ∀ t k, n - k ≤ t → k ≤ n → ¬ (skp f n t k < n ∧ blk (f (skp f n t k)) = true) := by
  intro t
  induction t with
  | zero =>
    intro k h1 h2
    rw [skp]
    omega
  | succ t ih =>
    intro k h1 h2
    rw [skp]
    by_cases hb : k < n ∧ blk (f k) = true
    · rw [if_pos hb]
      exact ih (k + 1) (by omega) (by omega)
    · rw [if_neg hb]
      exact hb
theorem nI_32 {b : Nat} (h : b < 256) : (nI b = (32 : Int32) ↔ b = 32) ∧ (nI b = (10 : Int32) ↔ b = 10) := ⟨nI_eq (b := 32) (by omega) (by omega), nI_eq (b := 10) (by omega) (by omega)⟩
