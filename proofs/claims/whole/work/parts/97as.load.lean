/-! THE WHOLE: drawn, load -/
section
variable {ce d : Ce} {nx nx2 m : Nat} {own own2 fx A B T A2 T2 B2 : Nat → Nat} {κ κb κt κ2 : Nat × Nat × Nat} {sp : Nat × Nat × Nat × Nat} {W Wb W2 : Wv} {z : Tx5} {μ : MS} {q K S : Nat}
theorem CP_Z (h : CP ce nx m own fx A B T κ κb κt sp W Wb z μ) (hn : nx ≤ nx2) (hf : ∀ b, b < nx → d b = ce b) : ∃ own2, KE own nx own2 nx2 ∧ (∀ b, nx ≤ b → b < nx2 → Zo own2 nx2 b) ∧ CP d nx2 m own2 fx A B T κ κb κt sp W Wb z μ := by
  obtain ⟨h1, h2, ⟨h3, h4, h5⟩, h6, h7, h8, h9, h10⟩ := h
  have ke : KE own nx (fun b => if b < nx then own b else 0) nx2 := ⟨hn, fun b hb => if_pos hb⟩
  have hx : ∀ k, k < 20 → d (fx k) = ce (fx k) := fun k hk => hf _ (h1.1 k hk).2
  exact ⟨_, ke, fun b h1 h2 => ⟨h2, if_neg (by omega)⟩, OWF_ke h1 ke, XCL_fr h2 (hx 0 (by omega)) (hx 1 (by omega)), ⟨RDF_fr h3 (fun k _ _ => hx k (by omega)), CHF_fr h4 (hx 14 (by omega)) (hx 15 (by omega)) (hx 16 (by omega)), PTF_fr h5 (hx 17 (by omega)) (hx 19 (by omega))⟩, WRL_ke h6 ke (by decide) (fun b hb _ => hf b hb) (hx 8 (by omega)) (hx 9 (by omega)) (hx 10 (by omega)), WRL_ke h7 ke (by decide) (fun b hb _ => hf b hb) (hx 11 (by omega)) (hx 12 (by omega)) (hx 13 (by omega)), TRL_ke h8 ke (fun b hb _ => hf b hb), SPR_ke h9 ke (fun b hb _ => hf b hb) (hx 18 (by omega)), wr_keep h10 (fun i hi => hf _ (by have := h1.2.2; omega))⟩
/-- the world becomes another -/
theorem CP_W (h : CP ce nx m own fx A B T κ κb κt sp W Wb z μ) (ke : KE own nx own2 nx2) (hf : ∀ b, b < nx → own b ≠ 1 → own b ≠ 18 → own b ≠ 19 → own b ≠ 20 → d b = ce b) (hw : WRL d nx2 own2 (fx 8) (fx 9) (fx 10) A2 κ2 W2 1) : CP d nx2 m own2 fx A2 B T κ2 κb κt sp W2 Wb z μ := by
  obtain ⟨h1, h2, ⟨h3, h4, h5⟩, h6, h7, h8, h9, h10⟩ := h
  have hx : ∀ k, k < 20 → k ≠ 8 → k ≠ 9 → k ≠ 10 → d (fx k) = ce (fx k) := fun k hk n1 n2 n3 => by
    have e := (h1.1 k hk).1
    exact hf _ (h1.1 k hk).2 (by omega) (by omega) (by omega) (by omega)
  exact ⟨OWF_ke h1 ke, XCL_fr h2 (hx 0 (by omega) (by omega) (by omega) (by omega)) (hx 1 (by omega) (by omega) (by omega) (by omega)), ⟨RDF_fr h3 (fun k _ _ => hx k (by omega) (by omega) (by omega) (by omega)), CHF_fr h4 (hx 14 (by omega) (by omega) (by omega) (by omega)) (hx 15 (by omega) (by omega) (by omega) (by omega)) (hx 16 (by omega) (by omega) (by omega) (by omega)), PTF_fr h5 (hx 17 (by omega) (by omega) (by omega) (by omega)) (hx 19 (by omega) (by omega) (by omega) (by omega))⟩, hw, WRL_ke h7 ke (by decide) (fun b hb ht => hf b hb (by omega) (by omega) (by omega) (by omega)) (hx 11 (by omega) (by omega) (by omega) (by omega)) (hx 12 (by omega) (by omega) (by omega) (by omega)) (hx 13 (by omega) (by omega) (by omega) (by omega)), TRL_ke h8 ke (fun b hb ht => hf b hb (by omega) (by omega) (by omega) (by omega)), SPR_ke h9 ke (fun b hb ht => hf b hb (by omega) (by omega) (by omega) (by omega)) (hx 18 (by omega) (by omega) (by omega) (by omega)), wr_keep h10 (fun i hi => by
    have e := h1.2.1 i hi
    exact hf _ (by have := h1.2.2; omega) (by omega) (by omega) (by omega) (by omega))⟩
/-- the kept world becomes another -/
theorem CP_B (h : CP ce nx m own fx A B T κ κb κt sp W Wb z μ) (ke : KE own nx own2 nx2) (hf : ∀ b, b < nx → own b ≠ 2 → own b ≠ 21 → own b ≠ 22 → own b ≠ 23 → d b = ce b) (hw : WRL d nx2 own2 (fx 11) (fx 12) (fx 13) B2 κ2 W2 2) : CP d nx2 m own2 fx A B2 T κ κ2 κt sp W W2 z μ := by
  obtain ⟨h1, h2, ⟨h3, h4, h5⟩, h6, h7, h8, h9, h10⟩ := h
  have hx : ∀ k, k < 20 → k ≠ 11 → k ≠ 12 → k ≠ 13 → d (fx k) = ce (fx k) := fun k hk n1 n2 n3 => by
    have e := (h1.1 k hk).1
    exact hf _ (h1.1 k hk).2 (by omega) (by omega) (by omega) (by omega)
  exact ⟨OWF_ke h1 ke, XCL_fr h2 (hx 0 (by omega) (by omega) (by omega) (by omega)) (hx 1 (by omega) (by omega) (by omega) (by omega)), ⟨RDF_fr h3 (fun k _ _ => hx k (by omega) (by omega) (by omega) (by omega)), CHF_fr h4 (hx 14 (by omega) (by omega) (by omega) (by omega)) (hx 15 (by omega) (by omega) (by omega) (by omega)) (hx 16 (by omega) (by omega) (by omega) (by omega)), PTF_fr h5 (hx 17 (by omega) (by omega) (by omega) (by omega)) (hx 19 (by omega) (by omega) (by omega) (by omega))⟩, WRL_ke h6 ke (by decide) (fun b hb ht => hf b hb (by omega) (by omega) (by omega) (by omega)) (hx 8 (by omega) (by omega) (by omega) (by omega)) (hx 9 (by omega) (by omega) (by omega) (by omega)) (hx 10 (by omega) (by omega) (by omega) (by omega)), hw, TRL_ke h8 ke (fun b hb ht => hf b hb (by omega) (by omega) (by omega) (by omega)), SPR_ke h9 ke (fun b hb ht => hf b hb (by omega) (by omega) (by omega) (by omega)) (hx 18 (by omega) (by omega) (by omega) (by omega)), wr_keep h10 (fun i hi => by
    have e := h1.2.1 i hi
    exact hf _ (by have := h1.2.2; omega) (by omega) (by omega) (by omega) (by omega))⟩
theorem g_drawn (h : GI nx ce m fx q K S) (hq : q < 512) (p p2 : Int32) : GoS nx m fx q K S (m_X11_drawn nx ce (fx 0) p p2) (fun d => m_X12_drawn d m p p2) := by
  have h0 := h
  obtain ⟨own, A, B, T, κ, κb, κt, sp, W, Wb, z, μ, c, h1, h2, h3, h4⟩ := h
  have hv := h3.2.2 W.2.2 (Or.inl rfl)
  have hcq := h3.1
  have hmd := hv.1.2.2.1.2.2.1
  obtain ⟨a1, a2, a3⟩ := CP_XS h1
  by_cases hp : Inr 10000 p
  · obtain ⟨r0, hr0, rfl⟩ := hp
    have e1 : ¬ (9999 : Int32) < nI r0 := fun e => by
      have := (nI_ltI (a := 9999) (by omega) (by omega)).mp e
      omega
    have i1 : m_X12_isIn (nI r0) (0 : Int32) (9999 : Int32) = some 1 := isin_in (lo := 0) (hi := 9999) (by omega) (by omega) (by omega)
    by_cases hL : Inb 1 7 p2
    · obtain ⟨L, l1, l2, rfl⟩ := hL
      refine gos_ok ?_
      unfold m_X11_drawn
      rw [if_neg (nI_pos (by omega)), if_neg e1, if_neg (show ¬ nI L < (1 : Int32) from fun e => by have := (nI_ltI (b := 1) (by omega) (by omega)).mp e; omega), if_pos (show nI L ≤ (6 : Int32) from (nI_leI (b := 6) (by omega) (by omega)).mpr (by omega)), a2, bind_s, CP_w7 h1, bind_s]
      refine ok_adcB (ok_mono (g_rem h1 hv.1) (fun r hr => ?_))
      obtain ⟨r1, r2, own1, k1, hd1⟩ := hr
      obtain ⟨b1, b2, b3⟩ := CP_XS hd1
      rw [b2, bind_s, b3, bind_s]
      refine ok_adcB (ok_mono (c_bySeed r.2.1 (nx + r.2.2.1) (r0 := r0) (L := L) (by omega) l1 l2) (fun y hy => ?_))
      obtain ⟨y1, y2, y3, y4, y5⟩ := hy
      obtain ⟨own3, ke3, z3, hd3⟩ := CP_Z hd1 (Nat.le_add_right (nx + r.2.2.1) y.2.2.1) y5
      rw [ss_rcv (CP_SZ hd3).1, bind_s, y1]
      have hM : MA y.2.1 (Zo own3 (nx + r.2.2.1 + y.2.2.1)) (nx + r.2.2.1 + 2) (drM r0 L) := MA_congr (fun _ _ => rfl) (fun b hb => z3 b hb.1 hb.2) y2
      refine ok_call (sz_begin (CP_SZ hd3) (CP_liv hd3) hM) (fun d2 hd2 => ok_some ?_)
      obtain ⟨A2, s1, s2⟩ := hd2
      obtain ⟨⟨g0, g1⟩, g2⟩ := GI_wt h2 h3 hq hd3 (Nat.le_refl _) s1 s2
      obtain ⟨ν0, n1, n2, n3⟩ := sr_keep d2.2 m h2.1
      obtain ⟨ν, n4, n5, n6⟩ := sr_drawn d2.2 m n1 (n2.2.2.2.2.1.2.1 15 (by decide)) (r0 := r0) (L := L) (by omega) l1 l2
      rw [← g1] at n4
      refine ⟨g0, _, n4, ?_⟩
      have hg := g2 ν ν0 c (K + (0 + y.2.2.1 + r.2.2.1)) (S + (0 + y.2.2.2 + r.2.2.2)) n2 n3 n6 n5 (IV_mono (IV_beg y2.1 hmd) (Nat.zero_le _) (by omega)) (NI_mono (NI_beg _ _) (by omega)) (Nat.le_refl _) (by omega) (CST_other h4 hcq (by omega) (by omega))
      show GI (nx + (0 + y.2.2.1 + r.2.2.1)) _ _ _ _ _ _
      rw [show nx + (0 + y.2.2.1 + r.2.2.1) = nx + r.2.2.1 + y.2.2.1 by omega]
      exact hg
    · refine gos_no h0 hq (v := 0) ?_ ?_
      · unfold m_X11_drawn
        rw [if_neg (nI_pos (by omega)), if_neg e1]
        by_cases c1 : p2 < (1 : Int32)
        · rw [if_pos c1]
        · rw [if_neg c1]
          by_cases c2 : p2 ≤ (6 : Int32)
          · exfalso
            have hp0 : ¬ p2 < 0 := fun z => c1 (Int32.lt_trans z (by decide))
            obtain ⟨k, hk, rfl⟩ := nI_of hp0
            have u1 := (nI_leI (b := 6) hk (by omega)).mp c2
            have u2 : ¬ k < 1 := fun e => c1 ((nI_ltI (b := 1) hk (by omega)).mpr e)
            exact hL ⟨k, by omega, by omega, rfl⟩
          · rw [if_neg c2]
      · show m_X12_drawn ce m (nI r0) p2 = _
        unfold m_X12_drawn
        rw [i1, bind_s, if_neg ne10, show m_X12_isIn p2 (1 : Int32) (6 : Int32) = some 0 from isin_out (lo := 1) (hi := 6) (by omega) (by omega) hL, bind_s, if_pos rfl]
  · refine gos_no h0 hq (v := 0) ?_ ?_
    · unfold m_X11_drawn
      by_cases c1 : p < 0
      · rw [if_pos c1]
      · rw [if_neg c1]
        obtain ⟨k, hk, rfl⟩ := nI_of c1
        rw [if_pos (show (9999 : Int32) < nI k from (nI_ltI (a := 9999) (by omega) hk).mpr (Nat.lt_of_not_le fun e => hp ⟨k, by omega, rfl⟩))]
    · show m_X12_drawn ce m p p2 = _
      unfold m_X12_drawn
      rw [show m_X12_isIn p (0 : Int32) (9999 : Int32) = some 0 from isin_out (lo := 0) (hi := 9999) (by omega) (by omega) (inb0 hp), bind_s, if_pos rfl]
theorem g_load (h : GI nx ce m fx q K S) (hq : q < 512) (p : Int32) : GoS nx m fx q K S (m_X11_load nx ce (fx 0) p) (fun d => m_X12_load d m p) := by
  have h0 := h
  obtain ⟨own, A, B, T, κ, κb, κt, sp, W, Wb, z, μ, c, h1, h2, h3, h4⟩ := h
  have hv := h3.2.2 W.2.2 (Or.inl rfl)
  have hcq := h3.1
  have hmd := hv.1.2.2.1.2.2.1
  obtain ⟨a1, a2, a3⟩ := CP_XS h1
  obtain ⟨w1, tp, pp, w2, w3, w4, w5⟩ := h1.2.2.2.1
  obtain ⟨TT, PP, c1, c2, c3, c4, c5⟩ := w2
  have hlen := w4.1
  have hl4 := w4.2.1
  by_cases hp : Inr W.1.length p
  · obtain ⟨i, hi, rfl⟩ := hp
    have hM : W.1[i]? = some (W.1[i]'hi) := List.getElem?_eq_getElem hi
    generalize W.1[i]'hi = M at hM
    have htp : tp[i]? = some (tp[i]'(by omega)) := List.getElem?_eq_getElem _
    generalize tp[i]'(by omega) = pm at htp
    have hMA := w4.2.2 i pm M htp hM
    obtain ⟨L, i0, na, Af, nf, t1, t2, ⟨t3, t4⟩, t5, t6⟩ := h2.2.2.1 i M hM
    have hta : m_X10_textAt ce (fx 8) (nI i) = some (some pm) := by
      unfold m_X10_textAt
      rw [if_neg (nI_pos (by omega)), gI_c (k := 1) (x := nI tp.length) c1 rfl, bind_s, if_le (by omega) (by omega), if_neg (by omega), gA_c (k := 0) (x := fx 9) c1 rfl, bind_s, alen_M c2, bind_s, if_le (by omega) (by omega), if_neg (by omega), bind_s, aR_c c2 (by omega) (by omega), bind_s, c4 i (by omega), htp]
    refine gos_ok ?_
    unfold m_X11_load
    rw [a2, bind_s, CP_w7 h1, bind_s, hta, bind_s]
    dsimp only
    rw [bind_s, CP_w7 h1, bind_s]
    refine ok_adcB (ok_mono (g_rem0 h1 hv.1) (fun r hr => ?_))
    obtain ⟨r0, r1, r2, own1, k1, hd1⟩ := hr
    obtain ⟨b1, b2, b3⟩ := CP_XS hd1
    obtain ⟨v1, tp1, pp1, v2, v3, v4, v5⟩ := hd1.2.2.2.1
    rw [b2, bind_s, b3, bind_s, ss_rcv (CP_SZ hd1).1, bind_s]
    have hMA1 : MA r.2.1 (Zo own1 (nx + r.2.2.1)) pm M := MA_congr (fun b hb => r0 b hb.1 (by have := hb.2; omega) (by have := hb.2; omega)) (Zo_ke k1) hMA
    refine ok_call (sz_begin (CP_SZ hd1) (CP_liv hd1) hMA1) (fun d2 hd2 => ?_)
    obtain ⟨A2, s1, s2⟩ := hd2
    have hMA2 : MA d2.2 (Zo own1 (nx + r.2.2.1)) pm M := MA_fr hMA1 (fun b hb => s2.2.1 b hb.1 (CP_liv hd1 b hb).2)
    rw [(cm_states hMA2).2.1, bind_s]
    refine ok_some ?_
    obtain ⟨⟨g0, g1⟩, g2⟩ := GI_wt h2 h3 hq hd1 (Nat.le_refl _) s1 s2
    obtain ⟨ν0, n1, n2, n3⟩ := sr_keep d2.2 m h2.1
    have hTX : TX ν0 i L i0 na Af nf := by
      unfold TX at t2 ⊢
      rw [n3.1 4 (by omega), n3.2.1]
      exact t2
    obtain ⟨ν, n4, n5, n6⟩ := sr_load d2.2 m n1 h2.1.1 hi h2.1.2.1 (n2.2.2.2.2.1.2.1 15 (by decide)) hTX t3 t4 t5 t6
    have eM : M.1 = L := by rw [t1]; rfl
    rw [← g1, ← eM] at n4
    refine ⟨g0, _, n4, ?_⟩
    rw [← t1] at n5
    have hg := g2 ν ν0 c (K + (0 + r.2.2.1)) (S + (0 + r.2.2.2)) n2 n3 n6 n5 (IV_mono (IV_beg hMA.1 hmd) (Nat.zero_le _) (by omega)) (NI_mono (NI_beg _ _) (by omega)) (Nat.le_refl _) (by omega) (CST_other h4 hcq (by omega) (by omega))
    show GI (nx + (0 + r.2.2.1)) _ _ _ _ _ _
    rw [Nat.zero_add]
    rw [Nat.zero_add] at hg
    exact hg
  · refine gos_no h0 hq (v := -1) ?_ ?_
    · have hta : m_X10_textAt ce (fx 8) p = some none := by
        unfold m_X10_textAt
        by_cases n0 : p < 0
        · rw [if_pos n0]
        · rw [if_neg n0, gI_c (k := 1) (x := nI tp.length) c1 rfl, bind_s, if_pos (by rw [hlen]; exact nrg (by omega) hp n0)]
      unfold m_X11_load
      rw [a2, bind_s, CP_w7 h1, bind_s, hta, bind_s]
    · show m_X12_load ce m p = _
      have e : m_X12_load (wr ce m μ) m p = some (-1, wr ce m μ) := by
        unfold m_X12_load
        rw [wr_g0, bind_s, rd_0, bind_s, h2.1.1, isn_out hp (by omega), bind_s, if_pos rfl]
      rw [← CP_h h1] at e
      exact e
end
