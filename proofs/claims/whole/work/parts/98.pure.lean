/-- the pure functions of the law come to an end, and the room holds -/
theorem pure_law (L : Nat) (hL : L ≤ 3072) (xs : Nat → Int32) (nx : Nat) : ∃ q, m_L_law L xs nx (fun _ => none) = some q ∧ q.2.2.1 ≤ 600000 ∧ q.2.2.2 ≤ 7302249 := law_pure L hL xs nx
