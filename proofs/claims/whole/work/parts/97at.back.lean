/-! THE WHOLE: undo, image, back -/
section
variable {ce d : Ce} {nx nx2 m : Nat} {own own2 fx A B T A2 T2 B2 : Nat → Nat} {κ κb κt κ2 : Nat × Nat × Nat} {sp : Nat × Nat × Nat × Nat} {W Wb W2 : Wv} {z : Tx5} {μ : MS} {q K S : Nat}
theorem PP_pre {Z : Nat → Prop} {pp : List Nat} {pa pa2 : List Sv} {U : Sv} (h : PP ce nx Z pp pa) (e : pa = pa2 ++ [U]) : PP ce nx Z pp.dropLast pa2 := by
  obtain ⟨h1, h2, h3⟩ := h
  have hl : pa.length = pa2.length + 1 := by rw [e]; simp
  refine ⟨by rw [List.length_dropLast]; omega, by omega, fun i p V a b => ?_⟩
  have hi : i < pa2.length := (List.getElem?_eq_some_iff.mp b).1
  have a2 : pp[i]? = some p := by
    rw [List.getElem?_dropLast, if_pos (by omega)] at a
    exact a
  exact h3 i p V a2 (by rw [e, List.getElem?_append_left hi]; exact b)
theorem g_undo (h : GI nx ce m fx q K S) (hq : q < 512) : GoS nx m fx q K S (m_X11_undo nx ce (fx 0)) (fun d => m_X12_undo d m) := by
  have h0 := h
  obtain ⟨own, A, B, T, κ, κb, κt, sp, W, Wb, z, μ, c, h1, h2, h3, h4⟩ := h
  have hcq := h3.1
  have ho := h1.1
  obtain ⟨a1, a2, a3⟩ := CP_XS h1
  obtain ⟨w1, tp, pp, w2, w3, w4, w5⟩ := h1.2.2.2.1
  have hlA := (ss_lt w3.1).1
  have hob : ∀ U, U ∈ W.2.1 → U.2.2.2.1.length ≤ 80 := fun U hU => by have := IV_obl (h3.2.2 U (Or.inr (Or.inl hU))).1; omega
  rcases cx_takeBack w2 w3 w5 (Tg_liv w1 (by decide)) (fun b hb => ⟨fx_z ho (by omega) hb, fx_z ho (by omega) hb⟩) ⟨(ho.1 8 (by omega)).2, (ho.1 9 (by omega)).2, (ho.1 10 (by omega)).2⟩ ⟨fx_ne ho (by omega) (by omega) (by omega), fx_ne ho (by omega) (by omega) (by omega), fx_ne ho (by omega) (by omega) (by omega)⟩ ⟨fx_off ho w1 (by omega) (by omega), fx_off ho w1 (by omega) (by omega), fx_off ho w1 (by omega) (by omega)⟩ hob with ⟨e1, e2⟩ | ⟨pa2, U, e1, e2⟩
  · refine gos_no h0 hq (v := -1) ?_ ?_
    · unfold m_X11_undo
      rw [a2, bind_s, CP_w7 h1, bind_s, e2]
      rfl
    · show m_X12_undo ce m = _
      rcases sr_undo ce m h2.1 with ⟨_, f2⟩ | ⟨p, U, ν, f1, _⟩
      · rw [← CP_h h1] at f2
        exact f2
      · exfalso
        rw [e1] at f1
        have := congrArg List.length f1
        simp at this
  · refine gos_ok ?_
    unfold m_X11_undo
    rw [a2, bind_s, CP_w7 h1, bind_s]
    refine ok_adcB (ok_mono e2 (fun r hr => ok_some ?_))
    obtain ⟨r1, r2, r3, A2, pp2, r4, r5, r6, r7, r8, r9⟩ := hr
    have hU := h3.2.2 U (Or.inr (Or.inl (by rw [e1]; simp)))
    have hbc := bcost_le hU.1 κ
    have hph := Phi_bcap κ U
    have ke : KE own nx (fun b => if b < nx then own b else 1) (nx + r.2.2.1) := ⟨by omega, fun b hb => if_pos hb⟩
    have hf : ∀ b, b < nx → own b ≠ 1 → own b ≠ 18 → own b ≠ 20 → r.2.1 b = ce b := fun b hb n1 n2 n3 => r9 b hb (fun e => n2 (by rw [e]; exact (ho.1 8 (by omega)).1)) (fun e => n3 (by rw [e]; exact (ho.1 10 (by omega)).1)) (fun i hi e => n1 (by rw [e]; exact w1 i hi))
    have hd : CP r.2.1 (nx + r.2.2.1) m (fun b => if b < nx then own b else 1) fx A2 B T (bcap κ U) κb κt sp (W.1, pa2, U) Wb z μ := by
      refine CP_W h1 ke (fun b hb n1 n2 _ n4 => hf b hb n1 n2 n4) ⟨fun i hi => ?_, tp, pp2, ?_, ?_, ?_, ?_⟩
      · show (if A2 i < nx then own (A2 i) else 1) = 1
        rcases r8 i hi with e | e
        · rw [e, if_pos (hlA i hi)]
          exact w1 i hi
        · rw [if_neg (by omega)]
      · rw [r7]
        exact r4
      · exact SZ_zone r6 (by omega) (Off_new w1 (by decide) r8) (Zo_ke ke)
      · exact TP_congr w4 (fun b hb => hf b hb.1 (by have := hb.2; omega) (by have := hb.2; omega) (by have := hb.2; omega)) (Zo_ke ke)
      · rw [r5]
        exact PP_congr (PP_pre w5 e1) (fun b hb => hb.1) (fun b hb => hf b hb.1 (by have := hb.2; omega) (by have := hb.2; omega) (by have := hb.2; omega)) (by omega) (Zo_ke ke)
    rcases sr_undo r.2.1 m h2.1 with ⟨f1, _⟩ | ⟨p, U', ν, f1, f2, f3, f4⟩
    · exfalso
      rw [e1] at f1
      have := congrArg List.length f1
      simp at this
    · rw [e1] at f1
      obtain ⟨x1, x2⟩ := List.append_inj' f1 rfl
      have x2 : U = U' := by
        injection x2
      subst x1 x2
      rw [← CP_h hd] at f2
      rw [← r1] at f2
      refine ⟨CP_rcv hd, _, f2, ?_⟩
      have hg : GI (nx + r.2.2.1) (wr r.2.1 m ν) m fx (q + 1) (K + r.2.2.1) (S + r.2.2.2) := by
        refine ⟨_, A2, B, T, bcap κ U, κb, κt, sp, (W.1, pa2, U), Wb, z, ν, c, CP_wr hd ν, REF_kq h2 (KQ_w f4) f3 rfl, ?_, CST_other h4 hcq (by omega) (by omega)⟩
        refine ⟨by omega, by omega, fun V hV => ?_⟩
        have old := fun hV => (CNT_next h3 hq).2.2 V hV
        rcases hV with e | e | e
        · have e : V = U := e
          rw [e]
          exact (CNT_next h3 hq).2.2 U (Or.inr (Or.inl (by rw [e1]; simp)))
        · exact old (Or.inr (Or.inl (by rw [e1]; exact List.mem_append_left _ e)))
        · exact old (Or.inr (Or.inr e))
      show GI (nx + (0 + r.2.2.1)) _ _ _ _ (K + (0 + r.2.2.1)) (S + (0 + r.2.2.2))
      rw [Nat.zero_add, Nat.zero_add]
      exact hg
theorem g_image (h : GI nx ce m fx q K S) (hq : q < 512) : GoS nx m fx q K S (m_X11_image nx ce (fx 0)) (fun d => m_X12_image d m) := by
  obtain ⟨own, A, B, T, κ, κb, κt, sp, W, Wb, z, μ, c, h1, h2, h3, h4⟩ := h
  have hcq := h3.1
  have ho := h1.1
  have hv := h3.2.2 W.2.2 (Or.inl rfl)
  obtain ⟨a1, a2, a3⟩ := CP_XS h1
  obtain ⟨w1, tp, pp, w2, w3, w4, w5⟩ := h1.2.2.2.1
  obtain ⟨u1, tpb, ppb, u2, u3, u4, u5⟩ := h1.2.2.2.2.1
  have hlB := (ss_lt u3.1).1
  have hobl := IV_obl hv.1
  have hbc := bcost_le hv.1 κb
  have hph := Phi_bcap κb W.2.2
  have hr7 : rcv ce 7 (fx 11) = some () := by
    obtain ⟨_, _, x, _⟩ := u2
    exact rcv_c x
  refine gos_ok ?_
  unfold m_X11_image
  rw [gA_c (k := 7) (x := fx 11) h1.2.1.1 rfl, bind_s, a2, bind_s, hr7, bind_s]
  refine ok_adcB (ok_mono (cx_become u2 u3 (Tg_liv u1 (by decide)) w2 w3 (Tg_liv w1 (by decide)) w4 w5 (fun b hb => ⟨fx_z ho (by omega) hb, fx_z ho (by omega) hb, fx_z ho (by omega) hb⟩) ⟨(ho.1 11 (by omega)).2, (ho.1 12 (by omega)).2, (ho.1 13 (by omega)).2⟩ ⟨(ho.1 8 (by omega)).2, (ho.1 9 (by omega)).2, (ho.1 10 (by omega)).2⟩ ⟨fx_ne ho (by omega) (by omega) (by omega), fx_ne ho (by omega) (by omega) (by omega), fx_ne ho (by omega) (by omega) (by omega)⟩ (fun b hb => by
      rcases hb with e | e | e
      · rw [e]; exact ⟨fx_ne ho (by omega) (by omega) (by omega), fx_ne ho (by omega) (by omega) (by omega), fx_ne ho (by omega) (by omega) (by omega)⟩
      · rw [e]; exact ⟨fx_ne ho (by omega) (by omega) (by omega), fx_ne ho (by omega) (by omega) (by omega), fx_ne ho (by omega) (by omega) (by omega)⟩
      · rw [e]; exact ⟨fx_ne ho (by omega) (by omega) (by omega), fx_ne ho (by omega) (by omega) (by omega), fx_ne ho (by omega) (by omega) (by omega)⟩) ⟨fx_off ho u1 (by omega) (by omega), fx_off ho u1 (by omega) (by omega), fx_off ho u1 (by omega) (by omega)⟩ ⟨fx_off ho w1 (by omega) (by omega), fx_off ho w1 (by omega) (by omega), fx_off ho w1 (by omega) (by omega)⟩ ⟨fx_off ho u1 (by omega) (by omega), fx_off ho u1 (by omega) (by omega), fx_off ho u1 (by omega) (by omega)⟩ (Tg_dis w1 u1 (by decide)) (by omega)) (fun r hr => ?_))
  obtain ⟨r1, r2, B2, r3, r4, r5, r6, r7⟩ := hr
  have ke : KE own nx (fun b => if b < nx then own b else 2) (nx + r.2.2.1) := ⟨by omega, fun b hb => if_pos hb⟩
  have hf : ∀ b, b < nx → own b ≠ 2 → own b ≠ 21 → own b ≠ 22 → own b ≠ 23 → r.2.1 b = ce b := fun b hb n1 n2 n3 n4 => r7 b hb (fun e => n2 (by rw [e]; exact (ho.1 11 (by omega)).1)) (fun e => n3 (by rw [e]; exact (ho.1 12 (by omega)).1)) (fun e => n4 (by rw [e]; exact (ho.1 13 (by omega)).1)) (fun i hi e => n1 (by rw [e]; exact u1 i hi))
  have hz : ∀ b, Zo own nx b → r.2.1 b = ce b := fun b hb => hf b hb.1 (by have := hb.2; omega) (by have := hb.2; omega) (by have := hb.2; omega) (by have := hb.2; omega)
  have hd : CP r.2.1 (nx + r.2.2.1) m (fun b => if b < nx then own b else 2) fx A B2 T κ (bcap κb W.2.2) κt sp W W z μ := by
    refine CP_B h1 ke hf ⟨fun i hi => ?_, tp, pp, ?_, ?_, TP_congr w4 hz (Zo_ke ke), PP_congr w5 (fun b hb => hb.1) hz (by omega) (Zo_ke ke)⟩
    · show (if B2 i < nx then own (B2 i) else 2) = 2
      rcases r6 i hi with e | e
      · rw [e, if_pos (hlB i hi)]
        exact u1 i hi
      · rw [if_neg (by omega)]
    · rw [r5]
      exact r3
    · exact SZ_zone r4 (by omega) (Off_new u1 (by decide) r6) (Zo_ke ke)
  obtain ⟨b1, b2, b3⟩ := CP_XS hd
  rw [b2, bind_s, b3, bind_s, ss_r3 (CP_SZ hd).1, bind_s]
  refine ok_some ?_
  obtain ⟨ν, f1, f2, f3, f4, f5, f6⟩ := sr_image r.2.1 m h2.1
  rw [← CP_h hd] at f1
  refine ⟨CP_rcv hd, _, f1, ?_⟩
  have hg : GI (nx + r.2.2.1) (wr r.2.1 m ν) m fx (q + 1) (K + r.2.2.1) (S + r.2.2.2) := by
    refine ⟨_, A, B2, T, κ, bcap κb W.2.2, κt, sp, W, W, z, ν, c, CP_wr hd ν, ?_, ?_, CST_other h4 hcq (by omega) (by omega)⟩
    · obtain ⟨g1, g2, g3, ⟨g4, g5, g6⟩, g7, g8⟩ := h2
      refine ⟨?_, f2, TXs_of g3 (f3 4 (by decide)) (by rw [f4]), ⟨by rw [f6]; exact g4, g5, ?_⟩, FltR_of g7 (by rw [f6]) (by rw [f6]), [], (List.append_nil _).symm⟩
      · rw [f3 0 (by decide), f5 2 (by decide)]
        exact g1
      · rw [f3 6 (by decide)]
        exact g6
    · refine ⟨by omega, by omega, fun V hV => (CNT_next h3 hq).2.2 V ?_⟩
      rcases hV with e | e | e | e
      · exact Or.inl e
      · exact Or.inr (Or.inl e)
      · exact Or.inl e
      · exact Or.inr (Or.inl e)
  show GI (nx + (0 + r.2.2.1)) _ _ _ _ (K + (0 + r.2.2.1)) (S + (0 + r.2.2.2))
  rw [Nat.zero_add, Nat.zero_add]
  exact hg
theorem g_back (h : GI nx ce m fx q K S) (hq : q < 512) : GoS nx m fx q K S (m_X11_back nx ce (fx 0)) (fun d => m_X12_back d m) := by
  obtain ⟨own, A, B, T, κ, κb, κt, sp, W, Wb, z, μ, c, h1, h2, h3, h4⟩ := h
  have hcq := h3.1
  have ho := h1.1
  have hv := h3.2.2 Wb.2.2 (Or.inr (Or.inr (Or.inl rfl)))
  obtain ⟨a1, a2, a3⟩ := CP_XS h1
  obtain ⟨w1, tp, pp, w2, w3, w4, w5⟩ := h1.2.2.2.1
  obtain ⟨u1, tpb, ppb, u2, u3, u4, u5⟩ := h1.2.2.2.2.1
  have hlA := (ss_lt w3.1).1
  have hobl := IV_obl hv.1
  have hbc := bcost_le hv.1 κ
  have hph := Phi_bcap κ Wb.2.2
  refine gos_ok ?_
  unfold m_X11_back
  rw [a2, bind_s, gA_c (k := 7) (x := fx 11) h1.2.1.1 rfl, bind_s, CP_w7 h1, bind_s]
  refine ok_adcB (ok_mono (cx_become w2 w3 (Tg_liv w1 (by decide)) u2 u3 (Tg_liv u1 (by decide)) u4 u5 (fun b hb => ⟨fx_z ho (by omega) hb, fx_z ho (by omega) hb, fx_z ho (by omega) hb⟩) ⟨(ho.1 8 (by omega)).2, (ho.1 9 (by omega)).2, (ho.1 10 (by omega)).2⟩ ⟨(ho.1 11 (by omega)).2, (ho.1 12 (by omega)).2, (ho.1 13 (by omega)).2⟩ ⟨fx_ne ho (by omega) (by omega) (by omega), fx_ne ho (by omega) (by omega) (by omega), fx_ne ho (by omega) (by omega) (by omega)⟩ (fun b hb => by
      rcases hb with e | e | e
      · rw [e]; exact ⟨fx_ne ho (by omega) (by omega) (by omega), fx_ne ho (by omega) (by omega) (by omega), fx_ne ho (by omega) (by omega) (by omega)⟩
      · rw [e]; exact ⟨fx_ne ho (by omega) (by omega) (by omega), fx_ne ho (by omega) (by omega) (by omega), fx_ne ho (by omega) (by omega) (by omega)⟩
      · rw [e]; exact ⟨fx_ne ho (by omega) (by omega) (by omega), fx_ne ho (by omega) (by omega) (by omega), fx_ne ho (by omega) (by omega) (by omega)⟩) ⟨fx_off ho w1 (by omega) (by omega), fx_off ho w1 (by omega) (by omega), fx_off ho w1 (by omega) (by omega)⟩ ⟨fx_off ho u1 (by omega) (by omega), fx_off ho u1 (by omega) (by omega), fx_off ho u1 (by omega) (by omega)⟩ ⟨fx_off ho w1 (by omega) (by omega), fx_off ho w1 (by omega) (by omega), fx_off ho w1 (by omega) (by omega)⟩ (Tg_dis u1 w1 (by decide)) (by omega)) (fun r hr => ?_))
  obtain ⟨r1, r2, A2, r3, r4, r5, r6, r7⟩ := hr
  have ke : KE own nx (fun b => if b < nx then own b else 1) (nx + r.2.2.1) := ⟨by omega, fun b hb => if_pos hb⟩
  have hf : ∀ b, b < nx → own b ≠ 1 → own b ≠ 18 → own b ≠ 19 → own b ≠ 20 → r.2.1 b = ce b := fun b hb n1 n2 n3 n4 => r7 b hb (fun e => n2 (by rw [e]; exact (ho.1 8 (by omega)).1)) (fun e => n3 (by rw [e]; exact (ho.1 9 (by omega)).1)) (fun e => n4 (by rw [e]; exact (ho.1 10 (by omega)).1)) (fun i hi e => n1 (by rw [e]; exact w1 i hi))
  have hz : ∀ b, Zo own nx b → r.2.1 b = ce b := fun b hb => hf b hb.1 (by have := hb.2; omega) (by have := hb.2; omega) (by have := hb.2; omega) (by have := hb.2; omega)
  have hd : CP r.2.1 (nx + r.2.2.1) m (fun b => if b < nx then own b else 1) fx A2 B T (bcap κ Wb.2.2) κb κt sp Wb Wb z μ := by
    refine CP_W h1 ke hf ⟨fun i hi => ?_, tpb, ppb, ?_, ?_, TP_congr u4 hz (Zo_ke ke), PP_congr u5 (fun b hb => hb.1) hz (by omega) (Zo_ke ke)⟩
    · show (if A2 i < nx then own (A2 i) else 1) = 1
      rcases r6 i hi with e | e
      · rw [e, if_pos (hlA i hi)]
        exact w1 i hi
      · rw [if_neg (by omega)]
    · rw [r5]
      exact r3
    · exact SZ_zone r4 (by omega) (Off_new w1 (by decide) r6) (Zo_ke ke)
  obtain ⟨b1, b2, b3⟩ := CP_XS hd
  rw [b2, bind_s, b3, bind_s, ss_r3 (CP_SZ hd).1, bind_s]
  refine ok_some ?_
  obtain ⟨ν, f1, f2, f3⟩ := sr_back r.2.1 m h2.2.1
  rw [← CP_h hd] at f1
  refine ⟨CP_rcv hd, _, f1, ?_⟩
  have hg : GI (nx + r.2.2.1) (wr r.2.1 m ν) m fx (q + 1) (K + r.2.2.1) (S + r.2.2.2) := by
    refine ⟨_, A2, B, T, bcap κ Wb.2.2, κb, κt, sp, Wb, Wb, z, ν, c, CP_wr hd ν, ?_, ?_, CST_other h4 hcq (by omega) (by omega)⟩
    · obtain ⟨rr, e⟩ := h2.2.2.2.2.2
      have hT : TXs μ Wb.1 := fun p M hM => h2.2.2.1 p M (by
        have hi : p < Wb.1.length := (List.getElem?_eq_some_iff.mp hM).1
        rw [e, List.getElem?_append_left hi]
        exact hM)
      obtain ⟨g1, g2, g3, ⟨g4, g5, g6⟩, g7, g8⟩ := h2
      have k := KQ_w f3
      refine ⟨f2, ?_, TXs_of hT (k.1 4 (by omega)) k.2.1, ⟨(k.2.2.2 0 (by omega)).trans g4, g5, ?_⟩, FltR_of g7 (k.2.2.2 1 (by omega)) (k.2.2.2 2 (by omega)), [], (List.append_nil _).symm⟩
      · rw [k.1 1 (by omega), k.2.2.1]
        exact g2
      · rw [k.1 6 (by omega)]
        exact g6
    · refine ⟨by omega, by omega, fun V hV => (CNT_next h3 hq).2.2 V ?_⟩
      rcases hV with e | e | e | e
      · exact Or.inr (Or.inr (Or.inl e))
      · exact Or.inr (Or.inr (Or.inr e))
      · exact Or.inr (Or.inr (Or.inl e))
      · exact Or.inr (Or.inr (Or.inr e))
  show GI (nx + (0 + r.2.2.1)) _ _ _ _ (K + (0 + r.2.2.1)) (S + (0 + r.2.2.2))
  rw [Nat.zero_add, Nat.zero_add]
  exact hg
end
