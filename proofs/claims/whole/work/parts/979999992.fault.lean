/-! FAULT: both sides -/
def FltR (μ : MS) (any lf lp : Int32) : Prop := (any = 0 ∧ μ.2.2.2 1 = -1 ∧ μ.2.2.2 2 = -1) ∨ (any = 1 ∧ μ.2.2.2 1 = lf ∧ μ.2.2.2 2 = lp)
theorem e_fault {ce c : Ce} {m : Nat} {μ : MS} {x tape : Nat} {tz any lf lp : Int32} {rd w k tr sp ch pt fr : Nat} (hx : ce x = some (.inr (8, fsX tape tz any lf lp rd w k tr sp ch pt fr))) (hF : FltR μ any lf lp) (p : Int32) : Both (m_X11_fault ce x p) (m_X12_fault (wr c m μ) m p) := by
  unfold m_X11_fault m_X12_fault
  rw [gI_c (k := 2) (x := any) hx rfl, bind_s]
  rcases hF with ⟨h1, h2, h3⟩ | ⟨h1, h2, h3⟩
  · rw [if_pos h1, wr_g8, bind_s, h2, wr_g9, bind_s, h3]
    by_cases p0 : p = 0
    · rw [if_pos p0]
      exact ⟨_, rfl, rfl⟩
    · rw [if_neg p0]
      by_cases p1 : p = 1
      · rw [if_pos p1]
        exact ⟨_, rfl, rfl⟩
      · rw [if_neg p1]
        exact ⟨_, rfl, rfl⟩
  · have ha : ¬ any = 0 := by
      rw [h1]
      decide
    rw [if_neg ha, gI_c (k := 3) (x := lf) hx rfl, bind_s, gI_c (k := 4) (x := lp) hx rfl, bind_s, wr_g8, bind_s, h2, wr_g9, bind_s, h3]
    by_cases p0 : p = 0
    · rw [if_pos p0]
      exact ⟨_, rfl, rfl⟩
    · rw [if_neg p0]
      by_cases p1 : p = 1
      · rw [if_pos p1]
        exact ⟨_, rfl, rfl⟩
      · rw [if_neg p1]
        exact ⟨_, rfl, rfl⟩
