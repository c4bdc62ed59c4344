/-! THE WHOLE: adopt, loosen -/
section
variable {ce d : Ce} {nx nx2 m : Nat} {own own2 fx A B T A2 T2 B2 : Nat → Nat} {κ κb κt κ2 : Nat × Nat × Nat} {sp : Nat × Nat × Nat × Nat} {W Wb W2 : Wv} {z : Tx5} {μ : MS} {q K S : Nat}
theorem gos_j {c : Nat} (h1 : CP ce nx m own fx A B T κ κb κt sp W Wb z μ) (h2 : REF μ W Wb z) (h3 : CNT c q W Wb) (h4 : CST c q K S κ κb κt sp.2.2.2) (hq : q < 512) {oc : Option (Int32 × Ce × Nat × Nat)} {rf : Ce → Option (Int32 × Ce)} {v : Int32} {ν : MS} (k : KJ μ ν) (e1 : oc = some (v, ce, 0, 0)) (e2 : rf ce = some (v, wr ce m ν)) : GoS nx m fx q K S oc rf := ⟨v, ce, 0, 0, _, e1, CP_rcv h1, e2, GI_kp h1 h2 h3 h4 hq (KQ_j k) (AR_kp h2.1 (KJ_Kp k) (KJ_RV k (REF_RV h2)))⟩
theorem fncL_ok {c : Nat} {V : Sv} (hi : IV c V) : ∀ q, q ∈ fncL V → q.1 < 2 ^ V.1.1 ∧ q.2 &&& q.1 = q.2 := by
  intro q hq
  unfold fncL at hq
  split at hq
  · obtain ⟨u, hu, rfl⟩ := List.mem_map.mp hq
    have hu := List.mem_of_mem_drop hu
    have hu : u ∈ V.2.2.1 := (srtF_perm fun q hq => by have := IV_fr hi q hq; omega).mem_iff.mp hu
    have := hi.2.2.2.1.1 u hu
    exact ⟨this.2.2.2.1, this.2.2.2.2.1⟩
  · cases hq
theorem g_adopt (h : GI nx ce m fx q K S) (hq : q < 512) : GoS nx m fx q K S (m_X11_adopt nx ce (fx 0)) (fun d => m_X12_adopt d m) := by
  obtain ⟨own, A, B, T, κ, κb, κt, sp, W, Wb, z, μ, c, h1, h2, h3, h4⟩ := h
  have hv := h3.2.2 W.2.2 (Or.inl rfl)
  have hcq := h3.1
  obtain ⟨a1, a2, a3⟩ := CP_XS h1
  have ss := (CP_SZ h1).1
  have h5 := hv.1.2.2.1.1
  have h6 := hv.1.2.2.1.2.2.2
  have hr := REF_RV h2
  have hlen := IV_len hv.1
  have hsl : (srtF W.2.2.2.2.1).length = W.2.2.2.2.1.length := srtF_len fun q hq => by have := IV_fr hv.1 q hq; omega
  have hle := stR_le (srtF W.2.2.2.2.1) (W.2.2.2.1 6 + 1)
  have r5 : ∀ c2 ν, KJ μ ν → aI (wr c2 m ν) (m + 1) (5 : Int32) = some (nI (W.2.2.2.1 5)) := fun c2 ν k => by rw [rd_5]; exact congrArg some ((KJ_RV k hr).2.1 5 (by decide))
  by_cases s3 : W.2.2.2.1 5 = 3
  · have hfl : (fncL W.2.2).length = (srtF W.2.2.2.2.1).length - stR (srtF W.2.2.2.2.1) (W.2.2.2.1 6 + 1) := by
      unfold fncL
      rw [if_pos s3, List.length_map, List.length_drop]
    by_cases h12 : (fncL W.2.2).length ≤ 12
    · refine gos_ok ?_
      unfold m_X11_adopt
      rw [a2, bind_s, a3, bind_s, ss_r3 ss, bind_s, s3, if_pos (show nI 3 = 3 from rfl), ss_r11 ss, bind_s, cw_size (ss_row ss), bind_s, ss_rcv ss, bind_s, ss_fenceStart ss s3 h6, bind_s, pk_sub hle, ← hfl, if_pos (show nI (fncL W.2.2).length ≤ (12 : Int32) from (nI_leI (b := 12) (by omega) (by omega)).mpr h12), bind_s, CP_w7 h1, bind_s]
      refine ok_adcB (ok_mono (g_rem h1 hv.1) (fun r hr2 => ?_))
      obtain ⟨r1, r2, own1, k1, hd1⟩ := hr2
      have s1 := (CP_SZ hd1).1
      obtain ⟨x1, x2⟩ := d4_9 s1
      obtain ⟨y1, y2⟩ := d4_1 s1
      have hdi := (ss_lt s1).2
      rw [ss_r14 s1, bind_s, ss_r11 s1, bind_s, ss_rcv s1, bind_s, ss_fenceStart s1 s3 h6, bind_s, cw_rcv (ss_cls s1), bind_s]
      refine ok_adcB (ok_mono (cw_takeFrom (ss_cls s1) x1 x2 (ss_row s1) y1 (fun b hb => by
        rcases hb with e | e | e | e
        · rw [e]; exact ⟨hdi 1 (by omega) 9 (by omega) (by omega), hdi 1 (by omega) 10 (by omega) (by omega), hdi 1 (by omega) 11 (by omega) (by omega), hdi 1 (by omega) 12 (by omega) (by omega)⟩
        · rw [e]; exact ⟨hdi 2 (by omega) 9 (by omega) (by omega), hdi 2 (by omega) 10 (by omega) (by omega), hdi 2 (by omega) 11 (by omega) (by omega), hdi 2 (by omega) 12 (by omega) (by omega)⟩
        · rw [e]; exact ⟨hdi 3 (by omega) 9 (by omega) (by omega), hdi 3 (by omega) 10 (by omega) (by omega), hdi 3 (by omega) 11 (by omega) (by omega), hdi 3 (by omega) 12 (by omega) (by omega)⟩
        · rw [e]; exact ⟨hdi 4 (by omega) 9 (by omega) (by omega), hdi 4 (by omega) 10 (by omega) (by omega), hdi 4 (by omega) 11 (by omega) (by omega), hdi 4 (by omega) 12 (by omega) (by omega)⟩) (st := stR (srtF W.2.2.2.2.1) (W.2.2.2.1 6 + 1)) hle (show (srtF W.2.2.2.2.1).length < 4800 by omega)) (fun y hy => ?_))
      have hy : RowEv r.2.1 (nx + r.2.2.1) (A 9) (A 10) (A 11) (A 12) κ.2.2 (clR (fncL W.2.2)) y.2.1 y.2.2.1 y.2.2.2 := by
        unfold fncL
        rw [if_pos s3]
        exact hy
      obtain ⟨A2, κ2, t1, t2⟩ := ss_clE s1 hy
      obtain ⟨t3, t4⟩ := Ev_Es t2
      have hs := sz_ev (V2 := clmV W.2.2 (fncL W.2.2)) (CP_SZ hd1) (CP_liv hd1) t1 rfl t3.1 t3.2.1 t4
      obtain ⟨⟨g0, g1⟩, g2⟩ := GI_wt h2 h3 hq hd1 (Nat.le_add_right _ _) hs t3
      have q1 := ss_r14 hs.1
      have q2 := cw_size (ss_cls hs.1)
      rw [t3.1] at q1
      rw [q1, bind_s, q2, bind_s, clR_len]
      refine ok_some ?_
      obtain ⟨ν1, l1, l2, l3⟩ := sr_layFence y.2.1 m hr hv.1
      obtain ⟨ν0, n1, n2, n3⟩ := sr_keep2 y.2.1 m (AR_kp h2.1 (KJ_Kp l3) (KJ_RV l3 hr))
      obtain ⟨ν, n4, n5, n6⟩ := sr_adoptTail y.2.1 m n2.2.2.2.2.1 (KZ_L n3 l2) h12
      have hm2 : m_X12_adopt (wr y.2.1 m μ) m = some (nI (fncL W.2.2).length, wr y.2.1 m ν) := by
        unfold m_X12_adopt
        rw [wr_rcv, bind_s, l1, bind_s, wr_g0, bind_s, r5 _ _ l3, bind_s, s3, if_pos (show nI 3 = 3 from rfl), wr_g31, bind_s, l2.1, if_pos (show nI (fncL W.2.2).length ≤ (12 : Int32) from (nI_leI (b := 12) (by omega) (by omega)).mpr h12), wr_rcv, bind_s, n1, bind_s]
        exact n4
      rw [← g1] at hm2
      refine ⟨g0, _, hm2, ?_⟩
      have p1 := t2.2.2.2.1
      have p2 := t2.2.2.2.2.1
      have hg := g2 ν ν0 c (K + (0 + y.2.2.1 + r.2.2.1)) (S + (0 + y.2.2.2 + r.2.2.2)) n2 (KW_trans (Kp_KW (KJ_Kp l3)) (KZ_W n3)) n6 n5 (IV_clm hv.1 h12 (fncL_ok hv.1)) (NI_mono hv.2 (by omega)) (Nat.le_refl _) (by omega) (CST_other h4 hcq (by omega) (by omega))
      show GI (nx + (0 + y.2.2.1 + r.2.2.1)) _ _ _ _ _ _
      rw [show nx + (0 + y.2.2.1 + r.2.2.1) = nx + r.2.2.1 + y.2.2.1 by omega]
      exact hg
    · obtain ⟨ν1, l1, l2, l3⟩ := sr_layFence ce m hr hv.1
      have hn : ¬ nI (fncL W.2.2).length ≤ (12 : Int32) := fun e => h12 ((nI_leI (b := 12) (by omega) (by omega)).mp e)
      refine gos_j h1 h2 h3 h4 hq l3 (v := -1) ?_ ?_
      · unfold m_X11_adopt
        rw [a2, bind_s, a3, bind_s, ss_r3 ss, bind_s, s3, if_pos (show nI 3 = 3 from rfl), ss_r11 ss, bind_s, cw_size (ss_row ss), bind_s, ss_rcv ss, bind_s, ss_fenceStart ss s3 h6, bind_s, pk_sub hle, ← hfl, if_neg hn]
      · show m_X12_adopt ce m = _
        have e : m_X12_adopt (wr ce m μ) m = some (-1, wr ce m ν1) := by
          unfold m_X12_adopt
          rw [wr_rcv, bind_s, l1, bind_s, wr_g0, bind_s, r5 _ _ l3, bind_s, s3, if_pos (show nI 3 = 3 from rfl), wr_g31, bind_s, l2.1, if_neg hn]
        rw [← CP_h h1] at e
        exact e
  · obtain ⟨ν1, l1, l2, l3⟩ := sr_layFence ce m hr hv.1
    have hn : ∀ {α : Type} (x y : α), (if nI (W.2.2.2.1 5) = (3 : Int32) then x else y) = y := fun x y => by rw [if_l 3 (3 : Int32) rfl (by omega) (by omega), if_neg s3]
    refine gos_j h1 h2 h3 h4 hq l3 (v := -1) ?_ ?_
    · unfold m_X11_adopt
      rw [a2, bind_s, a3, bind_s, ss_r3 ss, bind_s, hn]
    · show m_X12_adopt ce m = _
      have e : m_X12_adopt (wr ce m μ) m = some (-1, wr ce m ν1) := by
        unfold m_X12_adopt
        rw [wr_rcv, bind_s, l1, bind_s, wr_g0, bind_s, r5 _ _ l3, bind_s, hn]
      rw [← CP_h h1] at e
      exact e
theorem g_loosen (h : GI nx ce m fx q K S) (hq : q < 512) (p : Int32) : GoS nx m fx q K S (m_X11_loosen nx ce (fx 0) p) (fun d => m_X12_loosen d m p) := by
  obtain ⟨own, A, B, T, κ, κb, κt, sp, W, Wb, z, μ, c, h1, h2, h3, h4⟩ := h
  have hv := h3.2.2 W.2.2 (Or.inl rfl)
  have hcq := h3.1
  have hwk := IV_Wk hv.1 hv.2 (by omega)
  have hcl := hv.1.2.2.2.2.2.2.2
  obtain ⟨a1, a2, a3⟩ := CP_XS h1
  have ss := (CP_SZ h1).1
  have hr := REF_RV h2
  have h26 := p2_64 (IV_L hv.1)
  have r16 : ∀ c2 ν, KJ μ ν → aI (wr c2 m ν) (m + 1) (16 : Int32) = some (nI W.2.2.2.2.2.2.2.length) := fun c2 ν k => by rw [rd_16]; exact congrArg some (KJ_RV k hr).2.2.2.2.2.1
  by_cases hp : Inr W.2.2.2.2.2.2.2.length p
  · obtain ⟨i, hi, rfl⟩ := hp
    have hu : W.2.2.2.2.2.2.2[i]? = some (W.2.2.2.2.2.2.2[i]'hi) := List.getElem?_eq_getElem hi
    generalize W.2.2.2.2.2.2.2[i]'hi = u at hu
    have hu0 := hcl.2 u (List.mem_of_getElem? hu)
    have hj : m_X11_judged ce (fx 0) (0 : Int32) = some (nI (jdg W.2.2.1 (W.2.2.1.2.2.2.2 (W.2.2.2.1 8)) (barL W.2.2.1.1 W.2.2.2.2.2.2.2))) := by
      rw [c_judged (CP_X h1) ss hv.1 0]
      rfl
    have hjl := jdg_lt W.2.2.1 (W.2.2.1.2.2.2.2 (W.2.2.2.1 8)) (barL W.2.2.1.1 W.2.2.2.2.2.2.2)
    by_cases hg0 : jdg W.2.2.1 (W.2.2.1.2.2.2.2 (W.2.2.2.1 8)) (barL W.2.2.1.1 W.2.2.2.2.2.2.2) = 0
    · have hlo := looFl_ok (M := W.2.2.1) (g := W.2.2.1.2.2.2.2 (W.2.2.2.1 8)) (cl := W.2.2.2.2.2.2.2) (i := i) (N := 2 ^ W.2.2.1.1) (ordL (kkf (W.2.2.2.1 15) W.2.2.2.2.2.2.1) W.2.2.1.1) u hu0.1 hu0.2
      have hlo : (looF W.2.2 i u).1 < 2 ^ W.2.2.1.1 ∧ (looF W.2.2 i u).2 &&& (looF W.2.2 i u).1 = (looF W.2.2 i u).2 := hlo
      have hlo2 : (looF W.2.2 i u).2 ≤ (looF W.2.2 i u).1 := by
        have e := hlo.2
        rw [← e]
        exact Nat.and_le_right
      refine gos_ok ?_
      unfold m_X11_loosen
      rw [a2, bind_s, a3, bind_s, if_neg (nI_pos (by omega)), ss_r14 ss, bind_s, cw_size (ss_cls ss), bind_s, clR_len, if_le (by omega) (by omega), if_neg (by omega), a1, bind_s, hj, bind_s, hg0, if_pos (show nI 0 = 0 from rfl), bind_s, CP_w7 h1, bind_s]
      refine ok_adcB (ok_mono (g_rem h1 hv.1) (fun r hr2 => ?_))
      obtain ⟨r1, r2, own1, k1, hd1⟩ := hr2
      have s1 := (CP_SZ hd1).1
      rw [ss_rcv s1, bind_s]
      refine ok_call (ss_loosen s1 hv.1 hwk hu) (fun y hy => ?_)
      obtain ⟨y1, A2, κ2, t1, t2⟩ := hy
      have y1 : y.1 = nI ((looF W.2.2 i u).1 * 64 + (looF W.2.2 i u).2) := y1
      obtain ⟨t3, t4⟩ := Ev_Es t2
      have hs : SZ y.2 (nx + r.2.2.1) (Zo own1 (nx + r.2.2.1)) A2 κ2 (clmV W.2.2 (W.2.2.2.2.2.2.2.set i (looF W.2.2 i u))) := sz_ev (V2 := clmV W.2.2 (W.2.2.2.2.2.2.2.set i (looF W.2.2 i u))) (CP_SZ hd1) (CP_liv hd1) t1 rfl t3.1 t3.2.1 t4
      obtain ⟨⟨g0, g1⟩, g2⟩ := GI_wt h2 h3 hq hd1 (Nat.le_refl _) hs t3
      rw [y1, cc_maskOf (by omega) (by omega), bind_s]
      refine ok_some ?_
      obtain ⟨ν1, l1, l2, l3⟩ := sr_layClaims y.2 m hr.2.2.2.2.2
      have hr1 := KJ_RV l3 hr
      obtain ⟨ν0, n1, n2, n3⟩ := sr_keep2 y.2 m (AR_kp h2.1 (KJ_Kp l3) hr1)
      have hr0 : RV ν0 W.2.2 := n2.2.2.2.2.1
      obtain ⟨_, o1, od, rfl, o2⟩ := sr_layOrder y.2 m ν0 hr0.1.2.2.1 hr0.1.1 (show W.2.2.2.1 15 < 2 ^ 31 by have := hv.1.2.2.1.2.2.1; omega) (hr0.2.1 15 (by decide)) (Wk_KO hr0 hwk)
      have hr2 : RV (muI ν0 9 od) W.2.2 := RV_muI hr0 (by decide) od
      have hl2 : Laid (muI ν0 9 od) W.2.2.2.2.2.2.2 := by
        have := KZ_L n3 l2
        unfold Laid at this ⊢
        rw [muI_n ν0 od (show (14 : Nat) ≠ 9 by decide), muI_n ν0 od (show (15 : Nat) ≠ 9 by decide)]
        exact this
      obtain ⟨_, v1, ν3, rfl, v2, v3⟩ := sr_looLoop y.2 m hr2 hv.1.1 hv.1.2.2.1.2.1 hcl.1 (kk := kkf (W.2.2.2.1 15) W.2.2.2.2.2.2.1) (fun k x hk => by rw [muI_e]; exact o2 k x hk) hu hu0.1 hu0.2 hl2
      have v2 : Laid ν3 (W.2.2.2.2.2.2.2.set i (looF W.2.2 i u)) := v2
      have hr3 := KJ_RV v3 hr2
      have hat : (W.2.2.2.2.2.2.2.set i (looF W.2.2 i u))[i]? = some (looF W.2.2 i u) := List.getElem?_set_self hi
      obtain ⟨c1, c2, c3, c4⟩ := v2.2.2 i _ hat
      have e92 : (92 : Int32) + nI i = nI (92 + i) := by rw [nl_92, nI_add]
      have h12 := hcl.1
      have hm2 : m_X12_loosen (wr y.2 m μ) m (nI i) = some (nI (looF W.2.2 i u).1, wr y.2 m (ma ν3 (92 + i) (nI ((looF W.2.2 i u).1 * 64 + (looF W.2.2 i u).2)))) := by
        unfold m_X12_loosen
        rw [wr_rcv, bind_s, l1, bind_s, wr_g0, bind_s, r16 _ _ l3, bind_s, isn_in hi (by omega), bind_s, if_neg ne10, wr_rcv, bind_s, sr_barredAll y.2 m hr1.1 l2, bind_s, bind_s, sr_judge y.2 m hr1 hv.1.1 hv.1.2.2.1.2.1, bind_s, hg0, if_pos (show nI 0 = 0 from rfl), bind_s, n1, bind_s, wr_rcv, bind_s, o1, bind_s, v1, bind_s]
        show ((gA (wr y.2 m ν3) 9 0 m).bind fun zx17 => (gA (wr y.2 m ν3) 9 29 m).bind fun zx18 => (aI (wr y.2 m ν3) zx18 (nI i)).bind fun zx19 => (gA (wr y.2 m ν3) 9 30 m).bind fun zx20 => (aI (wr y.2 m ν3) zx20 (nI i)).bind fun zx21 => (sI (wr y.2 m ν3) zx17 ((92 : Int32) + nI i) ((zx19 <<< ((6 : Int32) &&& 31)) ||| zx21)).bind fun zc22 => (gA zc22 9 29 m).bind fun zx23 => (aI zc22 zx23 (nI i)).bind fun zx24 => some (zx24, zc22)) = _
        rw [wr_g0, bind_s, wr_g29, bind_s, wr_a14 y.2 m ν3 (by omega), bind_s, wr_g30, bind_s, wr_a15 y.2 m ν3 (by omega), bind_s, c1, c2, cl_mk c3 c4, e92, wr_u0 y.2 m ν3 (by omega), bind_s, wr_g29, bind_s, wr_a14 y.2 m _ (by omega), bind_s]
        show some (ν3.1 14 i, _) = _
        rw [c1]
      rw [← g1] at hm2
      refine ⟨g0, _, hm2, ?_⟩
      have p1 := t2.2.2.2.1
      have p2 := t2.2.2.2.2.1
      have hco : ∀ j, (ma ν3 (92 + i) (nI ((looF W.2.2 i u).1 * 64 + (looF W.2.2 i u).2))).1 0 j = if j = 92 + i then nI ((looF W.2.2 i u).1 * 64 + (looF W.2.2 i u).2) else ν3.1 0 j := ma_at _ _ _
      have hg := g2 (ma ν3 (92 + i) (nI ((looF W.2.2 i u).1 * 64 + (looF W.2.2 i u).2))) ν0 c (K + (0 + r.2.2.1)) (S + (0 + r.2.2.2)) n2 (KW_trans (Kp_KW (KJ_Kp l3)) (KZ_W n3)) (Kp_trans (Kp_trans (Kp_muI ν0 (by omega) od) (KJ_Kp v3)) (Kp_mu0 ν3 (b := va_up (ν3.1 0) (92 + i) (nI ((looF W.2.2 i u).1 * 64 + (looF W.2.2 i u).2))) (fun j hj => up_n _ _ _ (by omega)))) (by
        refine RR_clm hr3 (fun j j1 j2 => ?_) ⟨?_, ?_, fun k w hk => ?_⟩
        · rw [hco, if_neg (by omega)]
        · rw [hco, if_neg (by omega), List.length_set]
          exact hr3.2.2.2.2.2.1
        · rw [List.length_set]
          exact hcl.1
        · rw [hco]
          by_cases e : k = i
          · subst e
            rw [hat] at hk
            cases hk
            exact ⟨if_pos rfl, c3, c4⟩
          · rw [List.getElem?_set_ne (Ne.symm e)] at hk
            rw [if_neg (by omega)]
            exact hr3.2.2.2.2.2.2.2 k w hk) (IV_clm hv.1 (by rw [List.length_set]; exact hcl.1) (fun w hw => by
        rcases List.mem_or_eq_of_mem_set hw with e | e
        · exact hcl.2 w e
        · rw [e]
          exact hlo)) (NI_mono hv.2 (by omega)) (Nat.le_refl _) (by omega) (CST_other h4 hcq (by omega) (by omega))
      show GI (nx + (0 + r.2.2.1)) _ _ _ _ _ _
      rw [Nat.zero_add]
      rw [Nat.zero_add] at hg
      exact hg
    · obtain ⟨ν1, l1, l2, l3⟩ := sr_layClaims ce m hr.2.2.2.2.2
      have hr1 := KJ_RV l3 hr
      have hn : ∀ {α : Type} (x y : α), (if nI (jdg W.2.2.1 (W.2.2.1.2.2.2.2 (W.2.2.2.1 8)) (barL W.2.2.1.1 W.2.2.2.2.2.2.2)) = (0 : Int32) then x else y) = y := fun x y => by rw [if_l 0 (0 : Int32) rfl (by omega) (by omega), if_neg hg0]
      have h12 := hcl.1
      refine gos_j h1 h2 h3 h4 hq l3 (v := -1) ?_ ?_
      · unfold m_X11_loosen
        rw [a2, bind_s, a3, bind_s, if_neg (nI_pos (by omega)), ss_r14 ss, bind_s, cw_size (ss_cls ss), bind_s, clR_len, if_le (by omega) (by omega), if_neg (by omega), a1, bind_s, hj, bind_s, hn]
      · show m_X12_loosen ce m (nI i) = _
        have e : m_X12_loosen (wr ce m μ) m (nI i) = some (-1, wr ce m ν1) := by
          unfold m_X12_loosen
          rw [wr_rcv, bind_s, l1, bind_s, wr_g0, bind_s, r16 _ _ l3, bind_s, isn_in hi (by omega), bind_s, if_neg ne10, wr_rcv, bind_s, sr_barredAll ce m hr1.1 l2, bind_s, bind_s, sr_judge ce m hr1 hv.1.1 hv.1.2.2.1.2.1, bind_s, hn]
        rw [← CP_h h1] at e
        exact e
  · obtain ⟨ν1, l1, l2, l3⟩ := sr_layClaims ce m hr.2.2.2.2.2
    have h12 := hcl.1
    refine gos_j h1 h2 h3 h4 hq l3 (v := -1) ?_ ?_
    · unfold m_X11_loosen
      rw [a2, bind_s, a3, bind_s]
      by_cases n0 : p < 0
      · rw [if_pos n0]
      · rw [if_neg n0, ss_r14 ss, bind_s, cw_size (ss_cls ss), bind_s, clR_len, if_pos (nrg (by omega) hp n0)]
    · show m_X12_loosen ce m p = _
      have e : m_X12_loosen (wr ce m μ) m p = some (-1, wr ce m ν1) := by
        unfold m_X12_loosen
        rw [wr_rcv, bind_s, l1, bind_s, wr_g0, bind_s, r16 _ _ l3, bind_s, isn_out hp (by omega), bind_s, if_pos rfl]
      rw [← CP_h h1] at e
      exact e
end
