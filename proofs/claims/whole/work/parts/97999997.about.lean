/-! ABOUT; the tape's end -/
theorem e_about {ce : Ce} {nx : Nat} {A : Nat → Nat} {κ : Nat × Nat × Nat} {W : Wv} {c : Ce} {m : Nat} {μ : MS} {x w t p s : Nat} {tp pp : List Nat} (hx1 : gA ce 8 6 x = some w) (hx2 : gA ce 7 4 w = some (A 0)) (h : SS ce nx A κ W.2.2) (hr : AR (μ.1 0) (μ.2.2.1 2) W) (hW : WC3 ce w t p s tp pp) (ht : tp.length = W.1.length) (hp : pp.length = W.2.1.length) (hz : gI ce 8 1 x = some (μ.2.2.2 0)) (q : Int32) : Both (m_X11_about ce x q) (m_X12_about (wr c m μ) m q) := by
  obtain ⟨T, P, w1, _⟩ := hW
  have hrr : RR (μ.1 0) (μ.2.2.1 2) W.2.2 := hr.2.2.2.2.1
  have a0 : μ.1 0 0 = nI W.1.length := hr.1
  have a1 : μ.1 0 1 = nI W.2.1.length := hr.2.2.1
  have a16 : μ.1 0 16 = nI W.2.2.2.2.2.2.2.length := hrr.2.2.2.2.2.1
  have a15 : μ.1 0 15 = nI (W.2.2.2.1 15) := hrr.2.1 15 (by decide)
  unfold m_X11_about m_X12_about
  by_cases q0 : q = 0
  · rw [if_pos q0, if_pos q0, hx1, bind_s, gI_c (k := 1) w1 rfl, bind_s, wr_g0, bind_s, rd_0, bind_s, a0, ht]
    exact ⟨_, rfl, rfl⟩
  · rw [if_neg q0, if_neg q0]
    by_cases q1 : q = 1
    · rw [if_pos q1, if_pos q1, hx1, bind_s, gI_c (k := 3) w1 rfl, bind_s, wr_g0, bind_s, rd_1, bind_s, a1, hp]
      exact ⟨_, rfl, rfl⟩
    · rw [if_neg q1, if_neg q1]
      by_cases q2 : q = 2
      · rw [if_pos q2, if_pos q2, hx1, bind_s, hx2, bind_s, ss_r14 h, bind_s, cw_size (ss_cls h), bind_s, wr_g0, bind_s, rd_16, bind_s, a16, clR_len]
        exact ⟨_, rfl, rfl⟩
      · rw [if_neg q2, if_neg q2]
        by_cases q3 : q = 3
        · rw [if_pos q3, if_pos q3, hz, bind_s, wr_g7, bind_s]
          exact ⟨_, rfl, rfl⟩
        · rw [if_neg q3, if_neg q3]
          by_cases q4 : q = 4
          · rw [if_pos q4, if_pos q4, hx1, bind_s, hx2, bind_s, ss_r2 h, bind_s, wr_g0, bind_s, rd_15, bind_s, a15]
            exact ⟨_, rfl, rfl⟩
          · rw [if_neg q4, if_neg q4]
            exact ⟨_, rfl, rfl⟩
/-- the fields of the class's object -/
abbrev fsX (tape : Nat) (tz any lf lp : Int32) (rd w k tr sp ch pt fr : Nat) : List Value := [.ref tape, .int tz, .int any, .int lf, .int lp, .ref rd, .ref w, .ref k, .ref tr, .ref sp, .ref ch, .ref pt, .ref fr]
theorem e_end {ce : Ce} {c : Ce} {m : Nat} {μ : MS} {x tape rd w k tr sp ch pt fr n : Nat} {any lf lp : Int32} (hx : ce x = some (.inr (8, fsX tape (nI n) any lf lp rd w k tr sp ch pt fr))) (hn : n ≤ 300) (hz : μ.2.2.2 0 = nI n) (p : Int32) : ∃ v n2, m_X11_end ce x p = some (v, gx_up ce x (.inr (8, fsX tape (nI n2) any lf lp rd w k tr sp ch pt fr))) ∧ m_X12_end (wr c m μ) m p = some (v, wr c m (muN μ 0 (nI n2))) ∧ n2 ≤ n := by
  have hself : gx_up ce x (.inr (8, fsX tape (nI n) any lf lp rd w k tr sp ch pt fr)) = ce := gu_self hx
  have hself2 : muN μ 0 (nI n) = μ := by
    unfold muN
    rw [← hz]
    have : va_up μ.2.2.2 0 (μ.2.2.2 0) = μ.2.2.2 := by
      funext j
      by_cases e : j = 0
      · rw [e, up_e]
      · rw [up_n _ _ _ e]
    rw [this]
  unfold m_X11_end m_X12_end
  rw [wr_g7, bind_s, hz, sr_isIn]
  by_cases h0 : p < 0
  · rw [if_pos h0, if_neg (fun z => absurd h0 (Int32.not_lt.mpr z.1)), bind_s, if_pos rfl]
    exact ⟨-1, n, by rw [hself], by rw [hself2], Nat.le_refl _⟩
  · obtain ⟨q, hq, rfl⟩ := nI_of h0
    rw [if_neg h0, gI_c (k := 1) (x := nI n) hx rfl, bind_s, if_le hq (by omega)]
    by_cases hle : q ≤ n
    · have hin : (0 : Int32) ≤ nI q ∧ nI q ≤ nI n := ⟨Int32.not_lt.mp h0, (nI_leI hq (by omega)).mpr hle⟩
      rw [if_pos hle, if_pos hin, bind_s, if_neg (by decide), pV_c hx (show 1 < 13 by omega), bind_s, wr_s7, bind_s]
      exact ⟨nI q, q, rfl, rfl, hle⟩
    · have hin : ¬ ((0 : Int32) ≤ nI q ∧ nI q ≤ nI n) := fun z => hle ((nI_leI hq (by omega)).mp z.2)
      rw [if_neg hle, if_neg hin, bind_s, if_pos rfl]
      exact ⟨-1, n, by rw [hself], by rw [hself2], Nat.le_refl _⟩
