/-! THE WHOLE: trials, spare -/
def GoS (nx : Nat) (m : Nat) (fx : Nat → Nat) (q K S : Nat) (oc : Option (Int32 × Ce × Nat × Nat)) (rf : Ce → Option (Int32 × Ce)) : Prop := ∃ v d k s e, oc = some (v, d, k, s) ∧ rcv d 9 m = some () ∧ rf d = some (v, e) ∧ GI (nx + k) e m fx (q + 1) (K + k) (S + s)
section
variable {ce d : Ce} {nx nx2 m : Nat} {own own2 fx A B T A2 T2 : Nat → Nat} {κ κb κt κ2 : Nat × Nat × Nat} {sp : Nat × Nat × Nat × Nat} {W Wb : Wv} {z : Tx5} {μ : MS} {q K S : Nat}
theorem CP_rcv (h : CP ce nx m own fx A B T κ κb κt sp W Wb z μ) : rcv ce 9 m = some () := by
  rw [CP_h h]
  exact wr_rcv _ _ _
theorem CP_tri (h : CP ce nx m own fx A B T κ κb κt sp W Wb z μ) : Tri ce nx (Zo own nx) A T (fx 0) (fx 8) := by
  have ho := h.1
  have w1 := h.2.2.2.1.1
  have t1 := h.2.2.2.2.2.1.1
  obtain ⟨a1, a2, a3⟩ := CP_XS h
  exact ⟨⟨a1, a2, a3, gA_c h.2.1.1 rfl⟩, ⟨Tg_dis w1 t1 (by decide), ⟨(ho.1 0 (by omega)).2, fx_off ho t1 (by omega) (by omega)⟩, (ho.1 8 (by omega)).2, fx_off ho t1 (by omega) (by omega)⟩, Tg_liv t1 (by decide), Tg_liv w1 (by decide)⟩
theorem GI_tr {c : Nat} (h1 : CP ce nx m own fx A B T κ κb κt sp W Wb z μ) (h2 : REF μ W Wb z) (h3 : CNT c q W Wb) (h4 : CST c q K S κ κb κt sp.2.2.2) (hq : q < 512) {n k s : Nat} (hn : n ≤ 4) (ht : TrR ce nx (Zo own nx) T κt c n d k s) : (rcv d 9 m = some () ∧ d = wr d m μ) ∧ ∀ ν, KT μ ν → RV ν W.2.2 → GI (nx + k) (wr d m ν) m fx (q + 1) (K + k) (S + s) := by
  obtain ⟨T2, κ2, U2, a1, a2, a3, a4⟩ := ht
  obtain ⟨own2, k1, hd⟩ := CP_T h1 (Nat.le_add_right nx k) a1 a2.1 a2.2.2 a2.2.1
  have hm : n * (3 * c + 2515) ≤ 4 * (3 * c + 2515) := Nat.mul_le_mul_right _ hn
  refine ⟨⟨CP_rcv hd, CP_h hd⟩, fun ν k2 hr => ⟨own2, A, B, T2, κ, κb, κ2, sp, W, Wb, z, ν, c, CP_wr hd ν, REF_kq h2 (KQ_t k2) (AR_kt h2.1 k2 hr) rfl, CNT_next h3 hq, CST_other h4 h3.1 (by omega) (by omega)⟩⟩
theorem g_foretold (h : GI nx ce m fx q K S) (hq : q < 512) (p : Int32) : GoS nx m fx q K S (m_X11_foretold nx ce (fx 0) p) (fun d => m_X12_foretold d m p) := by
  obtain ⟨own, A, B, T, κ, κb, κt, sp, W, Wb, z, μ, c, h1, h2, h3, h4⟩ := h
  have hv := h3.2.2 W.2.2 (Or.inl rfl)
  obtain ⟨U, hU⟩ := h1.2.2.2.2.2.1.2
  obtain ⟨⟨v, d, k, s⟩, e1, e2, e3⟩ := c_foretold (CP_tri h1) (CP_SZ h1) hU hv.1 hv.2 (by omega) p
  obtain ⟨⟨a0, a1⟩, a2⟩ := GI_tr h1 h2 h3 h4 hq (by omega) e3
  obtain ⟨ν, f1, f2, f3⟩ := sr_foretold d m (REF_RV h2) hv.1 hv.2 (by omega) p
  have e2 : v = _ := e2
  rw [← a1, ← e2] at f1
  exact ⟨v, d, k, s, _, e1, a0, f1, a2 ν f3 f2⟩
theorem g_till (h : GI nx ce m fx q K S) (hq : q < 512) : GoS nx m fx q K S (m_X11_till nx ce (fx 0)) (fun d => m_X12_till d m) := by
  obtain ⟨own, A, B, T, κ, κb, κt, sp, W, Wb, z, μ, c, h1, h2, h3, h4⟩ := h
  have hv := h3.2.2 W.2.2 (Or.inl rfl)
  obtain ⟨U, hU⟩ := h1.2.2.2.2.2.1.2
  obtain ⟨⟨v, d, k, s⟩, e1, e2, e3⟩ := c_till (CP_tri h1) (CP_SZ h1) hU hv.1 hv.2 (by omega)
  obtain ⟨⟨a0, a1⟩, a2⟩ := GI_tr h1 h2 h3 h4 hq (by omega) e3
  obtain ⟨ν, f1, f2, f3⟩ := sr_till d m (REF_RV h2) hv.1 hv.2 (by omega)
  have e2 : v = _ := e2
  rw [← a1, ← e2] at f1
  exact ⟨v, d, k, s, _, e1, a0, f1, a2 ν f3 f2⟩
theorem g_quickest (h : GI nx ce m fx q K S) (hq : q < 512) : GoS nx m fx q K S (m_X11_quickest nx ce (fx 0)) (fun d => m_X12_quickest d m) := by
  obtain ⟨own, A, B, T, κ, κb, κt, sp, W, Wb, z, μ, c, h1, h2, h3, h4⟩ := h
  have hv := h3.2.2 W.2.2 (Or.inl rfl)
  obtain ⟨U, hU⟩ := h1.2.2.2.2.2.1.2
  obtain ⟨⟨v, d, k, s⟩, e1, e2, e3⟩ := c_quickest (CP_tri h1) (CP_SZ h1) hU hv.1 hv.2 (by omega)
  obtain ⟨⟨a0, a1⟩, a2⟩ := GI_tr h1 h2 h3 h4 hq (by omega) e3
  obtain ⟨ν, f1, f2, f3⟩ := sr_quickest d m (REF_RV h2) hv.1 hv.2 (by omega)
  have e2 : v = _ := e2
  rw [← a1, ← e2] at f1
  exact ⟨v, d, k, s, _, e1, a0, f1, a2 ν f3 f2⟩
theorem g_bestMode (h : GI nx ce m fx q K S) (hq : q < 512) : GoS nx m fx q K S (m_X11_bestMode nx ce (fx 0)) (fun d => m_X12_bestMode d m) := by
  obtain ⟨own, A, B, T, κ, κb, κt, sp, W, Wb, z, μ, c, h1, h2, h3, h4⟩ := h
  have hv := h3.2.2 W.2.2 (Or.inl rfl)
  obtain ⟨U, hU⟩ := h1.2.2.2.2.2.1.2
  obtain ⟨⟨v, d, k, s⟩, e1, e2, e3⟩ := c_bestMode (CP_tri h1) (CP_SZ h1) hU hv.1
  obtain ⟨⟨a0, a1⟩, a2⟩ := GI_tr h1 h2 h3 h4 hq (by omega) e3
  obtain ⟨ν, f1, f2, f3⟩ := sr_bestMode d m (REF_RV h2) hv.1
  have e2 : v = _ := e2
  rw [← a1, ← e2] at f1
  exact ⟨v, d, k, s, _, e1, a0, f1, a2 ν f3 f2⟩
theorem g_spare (h : GI nx ce m fx q K S) (hq : q < 512) (p : Int32) : GoS nx m fx q K S (m_X11_spare nx ce (fx 0) p) (fun d => m_X12_spare d m p) := by
  obtain ⟨own, A, B, T, κ, κb, κt, sp, W, Wb, z, μ, c, h1, h2, h3, h4⟩ := h
  have hv := h3.2.2 W.2.2 (Or.inl rfl)
  have ho := h1.1
  have w1 := h1.2.2.2.1.1
  obtain ⟨⟨t1, t2, t3⟩, ⟨l1, l2, l3⟩, s4, l, s5⟩ := h1.2.2.2.2.2.2.1
  obtain ⟨a1, a2, a3⟩ := CP_XS h1
  have far : ∀ b, own b = 4 → (∀ i, i < 13 → A i ≠ b) ∧ ¬ Zo own nx b ∧ fx 0 ≠ b ∧ fx 8 ≠ b := fun b hb => ⟨fun i hi e => (by have := w1 i hi; rw [e] at this; omega), fun hz => (by have := hz.2; omega), fun e => (by have := (ho.1 0 (by omega)).1; rw [e] at this; omega), fun e => (by have := (ho.1 8 (by omega)).1; rw [e] at this; omega)⟩
  obtain ⟨⟨v, d, k, s⟩, e1, ⟨e2, e3⟩, l2, e4⟩ := c_spare a1 a2 a3 (CP_SZ h1) (CP_liv h1) hv.1 (gA_c h1.2.1.1 rfl) s5 s4 ⟨(ho.1 18 (by omega)).2, l1, l2, l3⟩ (fun b hb => by
    rcases hb with e | e | e | e
    · rw [e]
      exact ⟨fun i hi e => fx_off ho w1 (by omega) (i := 18) (by omega) i hi e.symm, fun hz => fx_z ho (i := 18) (by omega) hz rfl, fx_ne ho (by omega) (by omega) (by omega), fx_ne ho (by omega) (by omega) (by omega)⟩
    · rw [e]; exact far _ t1
    · rw [e]; exact far _ t2
    · rw [e]; exact far _ t3) ⟨(ho.1 0 (by omega)).2, (ho.1 8 (by omega)).2⟩ p
  obtain ⟨own2, sp2, k1, k2, k3, hd⟩ := CP_sp h1 e4
  have k2 : 6 * sp.2.2.2 + k ≤ 6 * sp2.2.2.2 := k2
  have k3 : 6 * sp.2.2.2 + s ≤ 6 * sp2.2.2.2 := k3
  obtain ⟨v2, ν, f1, f2, f3, f4⟩ := sr_spare d m (REF_RV h2) hv.1 p
  have ev : v2 = v := by
    by_cases hf : fineB W.2.2 p = true
    · obtain ⟨l, x1, x2⟩ := e3 hf
      obtain ⟨l', y1, y2⟩ := f4 hf
      rw [x1] at y1
      cases y1
      exact y2.trans x2.symm
    · exact (f3 hf).trans (e2 hf).symm
  rw [← CP_h hd, ev] at f1
  exact ⟨v, d, k, s, _, e1, CP_rcv hd, f1, own2, A, B, T, κ, κb, κt, sp2, W, Wb, z, ν, c, CP_wr hd ν, REF_kq h2 (KQ_j f2) (AR_kp h2.1 (KJ_Kp f2) (KJ_RV f2 (REF_RV h2))) rfl, CNT_next h3 hq, CST_other h4 h3.1 (by omega) (by omega)⟩
end
