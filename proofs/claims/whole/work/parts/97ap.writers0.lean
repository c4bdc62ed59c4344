/-! THE WHOLE: widened, chosen, fewest, feed, end -/
theorem sz_ev {ce d : Ce} {nx nx2 : Nat} {Z : Nat → Prop} {A A2 : Nat → Nat} {κ κ2 : Nat × Nat × Nat} {V V2 : Sv} (h : SZ ce nx Z A κ V) (hL : Liv nx Z A) (hs : SS d nx2 A2 κ2 V2) (hV : V2.1 = V.1) (h0 : A2 0 = A 0) (hfr : ∀ b, b < nx → Off A b → d b = ce b) (hm : gA d 6 0 (A 0) = gA ce 6 0 (A 0)) : SZ d nx2 Z A2 κ2 V2 := by
  obtain ⟨_, mp, h1, h2⟩ := h
  refine ⟨hs, mp, ?_, ?_⟩
  · rw [h0, hm]
    exact h1
  · rw [hV]
    exact MA_fr h2 (fun b hb => hfr b (hL b hb).1 (hL b hb).2)
section
variable {ce d : Ce} {nx nx2 m : Nat} {own own2 fx A B T A2 T2 : Nat → Nat} {κ κb κt κ2 : Nat × Nat × Nat} {sp : Nat × Nat × Nat × Nat} {W Wb : Wv} {z : Tx5} {μ : MS} {q K S : Nat}
theorem CP_liv (h : CP ce nx m own fx A B T κ κb κt sp W Wb z μ) : Liv nx (Zo own nx) A := Tg_liv h.2.2.2.1.1 (by decide)
theorem g_widened (h : GI nx ce m fx q K S) (hq : q < 512) (p q0 : Int32) : ∃ v d e, m_X11_widened ce (fx 0) p q0 = some (v, d) ∧ rcv d 9 m = some () ∧ m_X12_widened d m p q0 = some (v, e) ∧ GI nx e m fx (q + 1) K S := by
  obtain ⟨own, A, B, T, κ, κb, κt, sp, W, Wb, z, μ, c, h1, h2, h3, h4⟩ := h
  have hv := h3.2.2 W.2.2 (Or.inl rfl)
  obtain ⟨v, d, e1, e2, e3, e4⟩ := e_widened (m := m) (CP_X h1) (CP_SZ h1).1 (REF_RV h2) (IV_Wk hv.1 hv.2 (by omega)) hv.1 p q0
  obtain ⟨own2, k1, hd⟩ := CP_A h1 (Nat.le_refl nx) (sz_ev (CP_SZ h1) (CP_liv h1) e2 rfl rfl e3.2.1 e3.2.2.2.2.2) rfl (fun _ _ => Or.inl rfl) e3.2.1
  have hd : CP d nx m own2 fx A B T κ κb κt sp W Wb z μ := hd
  obtain ⟨ν, f1, f2, f3⟩ := e4 d
  rw [← CP_h hd] at f1
  exact ⟨v, d, _, e1, by rw [CP_h hd]; exact wr_rcv _ _ _, f1, GI_kp hd h2 h3 h4 hq (KQ_p f3) (AR_kp h2.1 f3 f2)⟩
theorem CP_chd (h1 : CP ce nx m own fx A B T κ κb κt sp W Wb z μ) (hd : ∀ b, b ≠ fx 15 → b ≠ fx 16 → d b = ce b) (hC : CHF d fx) : CP d nx m own fx A B T κ κb κt sp W Wb z μ := by
  have ho := h1.1
  have hx : ∀ k, k < 20 → k ≠ 15 → k ≠ 16 → d (fx k) = ce (fx k) := fun k hk n1 n2 => hd _ (fx_ne ho hk (by omega) n1) (fx_ne ho hk (by omega) n2)
  refine CP_fx h1 (fun b hb ht => hd b (fun e => ?_) (fun e => ?_)) (XCL_fr h1.2.1 (hx 0 (by omega) (by omega) (by omega)) (hx 1 (by omega) (by omega) (by omega))) (RDF_fr h1.2.2.1.1 (fun k _ _ => hx k (by omega) (by omega) (by omega))) hC (PTF_fr h1.2.2.1.2.2 (hx 17 (by omega) (by omega) (by omega)) (hx 19 (by omega) (by omega) (by omega)))
  · have := (ho.1 15 (by omega)).1
    rw [e] at ht
    omega
  · have := (ho.1 16 (by omega)).1
    rw [e] at ht
    omega
theorem g_fewest2 (h : GI nx ce m fx q K S) (hq : q < 512) (p : Int32) : (∃ v d e, m_X11_chosen ce (fx 0) p = some (v, d) ∧ rcv d 9 m = some () ∧ m_X12_chosen d m p = some (v, e) ∧ GI nx e m fx (q + 1) K S) ∧ (∃ v d e, m_X11_fewest ce (fx 0) p = some (v, d) ∧ rcv d 9 m = some () ∧ m_X12_fewest d m p = some (v, e) ∧ GI nx e m fx (q + 1) K S) := by
  obtain ⟨own, A, B, T, κ, κb, κt, sp, W, Wb, z, μ, c, h1, h2, h3, h4⟩ := h
  have hv := h3.2.2 W.2.2 (Or.inl rfl)
  have ho := h1.1
  have w1 := h1.2.2.2.1.1
  obtain ⟨S0, T0, hC⟩ := h1.2.2.1.2.1
  have g := fun c2 => e_fewest (c := c2) (m := m) (CP_X h1) (CP_SZ h1) (CP_liv h1) (REF_RV h2) hv.1 (gA_c h1.2.1.1 rfl) hC ⟨fx_ne ho (by omega) (by omega) (by omega), fx_ne ho (by omega) (by omega) (by omega), fx_ne ho (by omega) (by omega) (by omega)⟩ (fun i hi => ⟨fun e => fx_off ho w1 (by omega) (i := 15) (by omega) i hi e.symm, fun e => fx_off ho w1 (by omega) (i := 16) (by omega) i hi e.symm⟩) ⟨fun hz => fx_z ho (i := 15) (by omega) hz rfl, fun hz => fx_z ho (i := 16) (by omega) hz rfl⟩ p
  constructor
  · obtain ⟨v, d, ν, e1, e2, e3, e4, e5, e6⟩ := (g ce).1
    have hd := CP_chd h1 e4 e3
    obtain ⟨v2, d2, ν2, f1, f2, f3, f4, f5, f6⟩ := (g d).1
    rw [e1] at f1
    cases f1
    rw [← CP_h hd] at f2
    exact ⟨v, d, _, e1, by rw [CP_h hd]; exact wr_rcv _ _ _, f2, GI_kp hd h2 h3 h4 hq (KQ_p f6) (AR_kp h2.1 f6 f5)⟩
  · obtain ⟨v, d, ν, e1, e2, e3, e4, e5, e6⟩ := (g ce).2
    have hd := CP_chd h1 e4 e3
    obtain ⟨v2, d2, ν2, f1, f2, f3, f4, f5, f6⟩ := (g d).2
    rw [e1] at f1
    cases f1
    rw [← CP_h hd] at f2
    exact ⟨v, d, _, e1, by rw [CP_h hd]; exact wr_rcv _ _ _, f2, GI_kp hd h2 h3 h4 hq (KQ_p f6) (AR_kp h2.1 f6 f5)⟩
theorem CP_tape (h1 : CP ce nx m own fx A B T κ κb κt sp W Wb z μ) {z2 : Tx5} (hd : ∀ b, b ≠ fx 0 → b ≠ fx 1 → d b = ce b) (hX : XCL d fx (T 0) z2) : CP d nx m own fx A B T κ κb κt sp W Wb z2 μ := by
  have ho := h1.1
  have hx : ∀ k, k < 20 → 2 ≤ k → d (fx k) = ce (fx k) := fun k hk n1 => hd _ (fx_ne ho hk (by omega) (by omega)) (fx_ne ho hk (by omega) (by omega))
  refine CP_fx h1 (fun b hb ht => hd b (fun e => ?_) (fun e => ?_)) hX (RDF_fr h1.2.2.1.1 (fun k _ _ => hx k (by omega) (by omega))) (CHF_fr h1.2.2.1.2.1 (hx 14 (by omega) (by omega)) (hx 15 (by omega) (by omega)) (hx 16 (by omega) (by omega))) (PTF_fr h1.2.2.1.2.2 (hx 17 (by omega) (by omega)) (hx 19 (by omega) (by omega)))
  · have := (ho.1 0 (by omega)).1
    rw [e] at ht
    omega
  · have := (ho.1 1 (by omega)).1
    rw [e] at ht
    omega
theorem REF_f {ν : MS} {z2 : Tx5} (h : REF μ W Wb z) (k : KF μ ν) (hz : ν.2.2.2 0 = nI z2.1 ∧ z2.1 ≤ 300 ∧ Tap z2.2.1 (ν.1 6) z2.1) (e : z2.2.2 = z.2.2) : REF ν W Wb z2 := by
  obtain ⟨h1, h2, h3, h4, h7, h8⟩ := h
  obtain ⟨k1, k2, k3, k4⟩ := k
  refine ⟨?_, ?_, TXs_of h3 (k1 4 (by decide)) (by rw [k2]), hz, ?_, h8⟩
  · rw [k1 0 (by decide), k3]
    exact h1
  · rw [k1 1 (by decide), k3]
    exact h2
  · rw [e]
    exact FltR_of h7 (k4 1 (by decide)) (k4 2 (by decide))
theorem g_feed (h : GI nx ce m fx q K S) (hq : q < 512) (p1 p2 p3 p4 p5 : Int32) : ∃ v d e, m_X11_feed ce (fx 0) p1 p2 p3 p4 p5 = some (v, d) ∧ rcv d 9 m = some () ∧ m_X12_feed d m p1 p2 p3 p4 p5 = some (v, e) ∧ GI nx e m fx (q + 1) K S := by
  obtain ⟨own, A, B, T, κ, κb, κt, sp, W, Wb, z, μ, c, h1, h2, h3, h4⟩ := h
  have ho := h1.1
  have hT : TapR ce μ (fx 0) (fx 1) z.1 z.2.2.1 z.2.2.2.1 z.2.2.2.2 (fx 2) (fx 8) (fx 11) (T 0) (fx 18) (fx 14) (fx 17) (fx 19) := ⟨h1.2.1.1, h2.2.2.2.1.2.1, h2.2.2.2.1.1, z.2.1, h1.2.1.2, h2.2.2.2.1.2.2⟩
  have g := fun c2 => e_feed (c := c2) (m := m) hT (fx_ne ho (by omega) (by omega) (by omega)) p1 p2 p3 p4 p5
  obtain ⟨v, d, ν, n2, e1, e2, e3, e4, e5⟩ := g ce
  have hd0 : ∃ z2 : Tx5, CP d nx m own fx A B T κ κb κt sp W Wb z2 μ := by
    obtain ⟨t1, t2, t3, F, t4, t5⟩ := e3
    exact ⟨(n2, F, z.2.2), CP_tape h1 e4 ⟨t1, t4⟩⟩
  obtain ⟨z2, hd0⟩ := hd0
  obtain ⟨v2, d2, ν2, n3, f1, f2, f3, f4, f5⟩ := g d
  rw [e1] at f1
  cases f1
  rw [← CP_h hd0] at f2
  obtain ⟨t1, t2, t3, F, t4, t5⟩ := f3
  have hd : CP d nx m own fx A B T κ κb κt sp W Wb (n3, F, z.2.2) μ := CP_tape h1 f4 ⟨t1, t4⟩
  exact ⟨v, d, _, e1, by rw [CP_h hd]; exact wr_rcv _ _ _, f2, own, A, B, T, κ, κb, κt, sp, W, Wb, _, ν2, c, CP_wr hd ν2, REF_f h2 f5 ⟨t3, t2, t5⟩ rfl, CNT_next h3 hq, CST_other (k := 0) (s := 0) h4 h3.1 (by omega) (by omega)⟩
theorem g_end (h : GI nx ce m fx q K S) (hq : q < 512) (p : Int32) : ∃ v d e, m_X11_end ce (fx 0) p = some (v, d) ∧ rcv d 9 m = some () ∧ m_X12_end d m p = some (v, e) ∧ GI nx e m fx (q + 1) K S := by
  obtain ⟨own, A, B, T, κ, κb, κt, sp, W, Wb, z, μ, c, h1, h2, h3, h4⟩ := h
  have ho := h1.1
  have g := fun c2 => e_end (c := c2) (m := m) h1.2.1.1 h2.2.2.2.1.2.1 h2.2.2.2.1.1 p
  obtain ⟨v, n2, e1, e2, e3⟩ := g ce
  have hd : CP (gx_up ce (fx 0) (.inr (8, fsX (fx 1) (nI n2) z.2.2.1 z.2.2.2.1 z.2.2.2.2 (fx 2) (fx 8) (fx 11) (T 0) (fx 18) (fx 14) (fx 17) (fx 19)))) nx m own fx A B T κ κb κt sp W Wb (n2, z.2) μ := CP_tape h1 (fun b h0 _ => gu_n _ _ h0) ⟨gu_e _ _ _, (gu_n _ _ (fx_ne ho (by omega) (by omega) (by omega))).trans h1.2.1.2⟩
  obtain ⟨v2, n3, f1, f2, f3⟩ := g (gx_up ce (fx 0) (.inr (8, fsX (fx 1) (nI n2) z.2.2.1 z.2.2.2.1 z.2.2.2.2 (fx 2) (fx 8) (fx 11) (T 0) (fx 18) (fx 14) (fx 17) (fx 19))))
  have en : n3 = n2 ∧ v2 = v := by
    rw [e1] at f1
    have f1 := Option.some.inj f1
    have ea := congrArg Prod.fst f1
    have eb := congrFun (congrArg Prod.snd f1) (fx 0)
    have eb : gx_up ce (fx 0) (.inr (8, fsX (fx 1) (nI n2) z.2.2.1 z.2.2.2.1 z.2.2.2.2 (fx 2) (fx 8) (fx 11) (T 0) (fx 18) (fx 14) (fx 17) (fx 19))) (fx 0) = gx_up ce (fx 0) (.inr (8, fsX (fx 1) (nI n3) z.2.2.1 z.2.2.2.1 z.2.2.2.2 (fx 2) (fx 8) (fx 11) (T 0) (fx 18) (fx 14) (fx 17) (fx 19))) (fx 0) := eb
    rw [gu_e, gu_e] at eb
    have eb := Option.some.inj eb
    injection eb with eb
    have eb := congrArg Prod.snd eb
    have eb : [Value.ref (fx 1), .int (nI n2), .int z.2.2.1, .int z.2.2.2.1, .int z.2.2.2.2, .ref (fx 2), .ref (fx 8), .ref (fx 11), .ref (T 0), .ref (fx 18), .ref (fx 14), .ref (fx 17), .ref (fx 19)] = [Value.ref (fx 1), .int (nI n3), .int z.2.2.1, .int z.2.2.2.1, .int z.2.2.2.2, .ref (fx 2), .ref (fx 8), .ref (fx 11), .ref (T 0), .ref (fx 18), .ref (fx 14), .ref (fx 17), .ref (fx 19)] := eb
    injection eb with _ eb
    injection eb with eb _
    injection eb with eb
    have h300 := h2.2.2.2.1.2.1
    have := congrArg Int32.toNatClampNeg eb
    rw [nI_clamp (by omega), nI_clamp (by omega)] at this
    exact ⟨this.symm, ea.symm⟩
  obtain ⟨en1, en2⟩ := en
  subst en1 en2
  rw [← CP_h hd] at f2
  refine ⟨v2, _, _, f1, by rw [CP_h hd]; exact wr_rcv _ _ _, f2, own, A, B, T, κ, κb, κt, sp, W, Wb, _, muN μ 0 (nI n3), c, CP_wr hd _, REF_f h2 ⟨fun _ _ => rfl, rfl, rfl, fun r hr => mn_n μ _ hr⟩ ⟨mn_e μ 0 _, by have := h2.2.2.2.1.2.1; show n3 ≤ 300; omega, fun k hk => h2.2.2.2.1.2.2 k (Nat.lt_of_lt_of_le hk f3)⟩ rfl, CNT_next h3 hq, CST_other (k := 0) (s := 0) h4 h3.1 (by omega) (by omega)⟩
end
