/-! FEED: both sides -/
def KF (μ ν : MS) : Prop := (∀ r, r ≠ 6 → ν.1 r = μ.1 r) ∧ ν.2.1 = μ.2.1 ∧ ν.2.2.1 = μ.2.2.1 ∧ ∀ r, r ≠ 0 → ν.2.2.2 r = μ.2.2.2 r
theorem KF_refl (μ : MS) : KF μ μ := ⟨fun _ _ => rfl, rfl, rfl, fun _ _ => rfl⟩
theorem KF_trans {μ ν ρ : MS} (h : KF μ ν) (g : KF ν ρ) : KF μ ρ := ⟨fun r h1 => (g.1 r h1).trans (h.1 r h1), g.2.1.trans h.2.1, g.2.2.1.trans h.2.2.1, fun r hr => (g.2.2.2 r hr).trans (h.2.2.2 r hr)⟩
theorem sr_four (c : Ce) (m : Nat) {μ : MS} {n : Nat} (hz : μ.2.2.2 0 = nI n) (hn : n + 4 ≤ 300) (p : Int32) : ∃ ν, m_X12_four (wr c m μ) m p = some ((), wr c m ν) ∧ KF μ ν ∧ ν.2.2.2 0 = nI (n + 4) ∧ (∀ j, j < n → ν.1 6 j = μ.1 6 j) ∧ ∀ j, j < 4 → ν.1 6 (n + j) = nI (byA p (24 - 8 * j)) := by
  have key : Ok (m_X12_four (wr c m μ) m p) (fun o => ∃ ν, o = ((), wr c m ν) ∧ KF μ ν ∧ ν.2.2.2 0 = nI (n + 4) ∧ (∀ j, j < n → ν.1 6 j = μ.1 6 j) ∧ ∀ j, j < 4 → ν.1 6 (n + j) = nI (byA p (24 - 8 * j))) := by
    unfold m_X12_four
    refine ok_call (P := fun o => ∃ ν, o.2 = wr c m ν ∧ KF μ ν ∧ ν.2.2.2 0 = nI (n + 4) ∧ (∀ j, j < n → ν.1 6 j = μ.1 6 j) ∧ ∀ j, j < 4 → ν.1 6 (n + j) = nI (byA p (24 - 8 * j))) (ok_cnt 0 4 (fun i st => st.1 = eS i ∧ ∃ ν, st.2 = wr c m ν ∧ KF μ ν ∧ ν.2.2.2 0 = nI (n + i) ∧ (∀ j, j < n → ν.1 6 j = μ.1 6 j) ∧ ∀ j, j < i → ν.1 6 (n + j) = nI (byA p (24 - 8 * j))) (by omega) (by omega) ⟨rfl, μ, rfl, KF_refl μ, hz, fun _ _ => rfl, fun _ h => by omega⟩ ?_ ?_) (fun o h => ?_)
    · rintro i ⟨u, d⟩ hi ⟨hu, ν, hd, q1, q2, q3, q4⟩
      have hu : u = eS i := hu
      have hd : d = wr c m ν := hd
      subst hu hd
      obtain ⟨e1, e2, e3⟩ := eS_in i hi
      have hv : (p >>> (eS i &&& 31)) &&& 255 = nI (byA p (24 - 8 * i)) := by
        rw [e1]
        exact by_m p (by omega)
      show Ok (if eS i < 0 then _ else (gA (wr c m ν) 9 6 m).bind fun zx4 => (gI (wr c m ν) 9 7 m).bind fun zx5 => (sI (wr c m ν) zx4 zx5 ((p >>> (eS i &&& 31)) &&& (255 : Int32))).bind fun zc6 => (gI zc6 9 7 m).bind fun zx7 => (pV zc6 9 7 m (.int (zx7 + (1 : Int32)))).bind fun zc8 => some (Sum.inl ((eS i + (-8 : Int32)), zc8))) _
      rw [if_neg e3, wr_g6, bind_s, wr_g7, bind_s, q2, hv, wr_u6 c m ν (by omega), bind_s, wr_g7, bind_s]
      have e4 : (muI ν 6 (va_up (ν.1 6) (n + i) (nI (byA p (24 - 8 * i))))).2.2.2 0 + 1 = nI (n + (i + 1)) := by
        show ν.2.2.2 0 + 1 = _
        rw [q2, nI_1]
        rfl
      rw [e4, wr_n7, bind_s, e2]
      have c6 : ∀ j, (muN (muI ν 6 (va_up (ν.1 6) (n + i) (nI (byA p (24 - 8 * i))))) 0 (nI (n + (i + 1)))).1 6 j = va_up (ν.1 6) (n + i) (nI (byA p (24 - 8 * i))) j := fun j => by
        show va_up ν.1 6 (va_up (ν.1 6) (n + i) (nI (byA p (24 - 8 * i)))) 6 j = _
        rw [up_e]
      refine ok_some ⟨rfl, _, rfl, KF_trans q1 ⟨fun r hr => up_n _ _ _ hr, rfl, rfl, fun r hr => up_n _ _ _ hr⟩, by show va_up ν.2.2.2 0 (nI (n + (i + 1))) 0 = _; exact up_e _ _ _, fun j hj => ?_, fun j hj => ?_⟩
      · rw [c6, up_n _ _ _ (by omega)]
        exact q3 j hj
      · rw [c6]
        by_cases e : j = i
        · rw [e, up_e]
        · rw [up_n _ _ _ (by omega)]
          exact q4 j (by omega)
    · rintro ⟨u, d⟩ ⟨hu, ν, q⟩
      have hu : u = eS 4 := hu
      subst hu
      show Ok (if eS 4 < 0 then _ else _) _
      rw [if_pos eS_4]
      exact ok_some ⟨ν, q⟩
    · obtain ⟨ν, q1, q2⟩ := h
      rw [q1]
      exact ok_some ⟨ν, rfl, q2⟩
  obtain ⟨_, hv, ν, rfl, q⟩ := key
  exact ⟨ν, hv, q⟩
/-- the tape of the class, that of the reference -/
def TapR (ce : Ce) (μ : MS) (x tape n : Nat) (any lf lp : Int32) (rd w k tr sp ch pt fr : Nat) : Prop := ce x = some (.inr (8, fsX tape (nI n) any lf lp rd w k tr sp ch pt fr)) ∧ n ≤ 300 ∧ μ.2.2.2 0 = nI n ∧ ∃ F, ce tape = some (.inl (.byte, 300, .inl F)) ∧ Tap F (μ.1 6) n
theorem e_four {ce c : Ce} {m : Nat} {μ : MS} {x tape n : Nat} {any lf lp : Int32} {rd w k tr sp ch pt fr : Nat} (h : TapR ce μ x tape n any lf lp rd w k tr sp ch pt fr) (hd : x ≠ tape) (hn : n + 4 ≤ 300) (p : Int32) : ∃ d ν, m_X11_putBytes ce x p = some ((), d) ∧ m_X12_four (wr c m μ) m p = some ((), wr c m ν) ∧ TapR d ν x tape (n + 4) any lf lp rd w k tr sp ch pt fr ∧ (∀ b, b ≠ x → b ≠ tape → d b = ce b) ∧ KF μ ν := by
  obtain ⟨h1, h2, h3, F, h4, h5⟩ := h
  obtain ⟨d, F2, a1, a2, a3, a4, a5, a6⟩ := c_four h1 h4 hd hn p
  obtain ⟨ν, b1, b2, b3, b4, b5⟩ := sr_four c m h3 hn p
  refine ⟨d, ν, a1, b1, ⟨a2, hn, b3, F2, a3, fun j hj => ?_⟩, a4, b2⟩
  by_cases hjn : j < n
  · obtain ⟨b, c1, c2, c3⟩ := h5 j hjn
    exact ⟨b, c1, (a5 j hjn).trans c2, (b4 j hjn).trans c3⟩
  · have e : n + (j - n) = j := by omega
    have f1 := a6 (j - n) (by omega)
    have f2 := b5 (j - n) (by omega)
    rw [e] at f1 f2
    exact ⟨_, byA_lt p _, f1, f2⟩
theorem e_feed {ce c : Ce} {m : Nat} {μ : MS} {x tape n : Nat} {any lf lp : Int32} {rd w k tr sp ch pt fr : Nat} (h : TapR ce μ x tape n any lf lp rd w k tr sp ch pt fr) (hd : x ≠ tape) (p1 p2 p3 p4 p5 : Int32) : ∃ v d ν n2, m_X11_feed ce x p1 p2 p3 p4 p5 = some (v, d) ∧ m_X12_feed (wr c m μ) m p1 p2 p3 p4 p5 = some (v, wr c m ν) ∧ TapR d ν x tape n2 any lf lp rd w k tr sp ch pt fr ∧ (∀ b, b ≠ x → b ≠ tape → d b = ce b) ∧ KF μ ν := by
  have hn := h.2.1
  have e20 : nI n + (20 : Int32) ≤ (300 : Int32) ↔ n + 20 ≤ 300 := by
    rw [show (20 : Int32) = nI 20 from rfl, nI_add]
    exact nI_leI (b := 300) (by omega) (by omega)
  unfold m_X11_feed m_X12_feed
  rw [gI_c (k := 1) (x := nI n) h.1 rfl, bind_s, wr_g7, bind_s, h.2.2.1]
  by_cases hle : n + 20 ≤ 300
  · rw [if_pos (e20.mpr hle), if_pos (e20.mpr hle)]
    obtain ⟨d1, ν1, a1, a2, a3, a4, a5⟩ := e_four (c := c) (m := m) h hd (by omega) p1
    obtain ⟨d2, ν2, b1, b2, b3, b4, b5⟩ := e_four (c := c) (m := m) a3 hd (by omega) p2
    obtain ⟨d3, ν3, c1, c2, c3, c4, c5⟩ := e_four (c := c) (m := m) b3 hd (by omega) p3
    obtain ⟨d4, ν4, f1, f2, f3, f4, f5⟩ := e_four (c := c) (m := m) c3 hd (by omega) p4
    obtain ⟨d5, ν5, g1, g2, g3, g4, g5⟩ := e_four (c := c) (m := m) f3 hd (by omega) p5
    rw [rcv_c h.1, bind_s, a1, bind_s, rcv_c a3.1, bind_s, b1, bind_s, rcv_c b3.1, bind_s, c1, bind_s, rcv_c c3.1, bind_s, f1, bind_s, rcv_c f3.1, bind_s, g1, bind_s, gI_c (k := 1) (x := nI (n + 4 + 4 + 4 + 4 + 4)) g3.1 rfl, bind_s]
    rw [wr_rcv, bind_s, a2, bind_s, wr_rcv, bind_s, b2, bind_s, wr_rcv, bind_s, c2, bind_s, wr_rcv, bind_s, f2, bind_s, wr_rcv, bind_s, g2, bind_s, wr_g7, bind_s, g3.2.2.1]
    exact ⟨_, d5, ν5, n + 4 + 4 + 4 + 4 + 4, rfl, rfl, g3, fun b h1 h2 => ((((g4 b h1 h2).trans (f4 b h1 h2)).trans (c4 b h1 h2)).trans (b4 b h1 h2)).trans (a4 b h1 h2), KF_trans a5 (KF_trans b5 (KF_trans c5 (KF_trans f5 g5)))⟩
  · rw [if_neg (fun z => hle (e20.mp z)), if_neg (fun z => hle (e20.mp z))]
    exact ⟨-1, ce, μ, n, rfl, rfl, h, fun _ _ _ => rfl, KF_refl μ⟩
