/-! THE WHOLE: claim, unclaim -/
theorem mask_c {ce : Ce} {U : Nat → Prop} {p : Nat} {M : Mv} (hm : MA ce U p M) (m : Nat) {μ : MS} (hM : Mac (μ.1 0) M) (p1 p2 : Int32) : (∃ mk b, mk < 2 ^ M.1 ∧ b &&& mk = b ∧ p1 = nI mk ∧ p2 = nI b ∧ m_X5_hasCube ce p p1 p2 = some 1 ∧ ∀ c, m_X12_isMask (wr c m μ) m p1 p2 = some 1) ∨ (m_X5_hasCube ce p p1 p2 = some 0 ∧ ∀ c, m_X12_isMask (wr c m μ) m p1 p2 = some 0) := by
  rcases ck_cube hm ce m hM p1 p2 with ⟨mk, b, h1, h2, h3, h4, h5, h6⟩ | ⟨h5, h6⟩
  · left
    refine ⟨mk, b, h1, h2, h3, h4, h5, fun c => ?_⟩
    rcases ck_cube hm c m hM p1 p2 with ⟨_, _, _, _, _, _, _, g6⟩ | ⟨g5, _⟩
    · exact g6
    · rw [h5] at g5
      exact absurd (Option.some.inj g5) (by decide)
  · right
    refine ⟨h5, fun c => ?_⟩
    rcases ck_cube hm c m hM p1 p2 with ⟨_, _, _, _, _, _, g5, _⟩ | ⟨_, g6⟩
    · rw [h5] at g5
      exact absurd (Option.some.inj g5) (by decide)
    · exact g6
section
variable {ce d : Ce} {nx nx2 m : Nat} {own own2 fx A B T A2 T2 B2 : Nat → Nat} {κ κb κt κ2 : Nat × Nat × Nat} {sp : Nat × Nat × Nat × Nat} {W Wb W2 : Wv} {z : Tx5} {μ : MS} {q K S : Nat}
theorem d4_9 {V : Sv} (h : SS ce nx A κ V) : (A 9 < nx ∧ A 10 < nx ∧ A 11 < nx ∧ A 12 < nx) ∧ D4 (A 9) (A 10) (A 11) (A 12) := by
  obtain ⟨h1, h2⟩ := ss_lt h
  exact ⟨⟨h1 9 (by omega), h1 10 (by omega), h1 11 (by omega), h1 12 (by omega)⟩, d4_of h2 9 (by omega)⟩
theorem d4_1 {V : Sv} (h : SS ce nx A κ V) : (A 1 < nx ∧ A 2 < nx ∧ A 3 < nx ∧ A 4 < nx) ∧ D4 (A 1) (A 2) (A 3) (A 4) := by
  obtain ⟨h1, h2⟩ := ss_lt h
  exact ⟨⟨h1 1 (by omega), h1 2 (by omega), h1 3 (by omega), h1 4 (by omega)⟩, d4_of h2 1 (by omega)⟩
theorem g_claim (h : GI nx ce m fx q K S) (hq : q < 512) (p p2 : Int32) : GoS nx m fx q K S (m_X11_claim nx ce (fx 0) p p2) (fun d => m_X12_claim d m p p2) := by
  have h0 := h
  obtain ⟨own, A, B, T, κ, κb, κt, sp, W, Wb, z, μ, c, h1, h2, h3, h4⟩ := h
  have hv := h3.2.2 W.2.2 (Or.inl rfl)
  have hcq := h3.1
  have hcl := hv.1.2.2.2.2.2.2.2
  obtain ⟨a1, a2, a3⟩ := CP_XS h1
  obtain ⟨ss, mp, m1, m2⟩ := CP_SZ h1
  have h26 := p2_64 (IV_L hv.1)
  have hr16 : ∀ c2, aI (wr c2 m μ) (m + 1) (16 : Int32) = some (nI W.2.2.2.2.2.2.2.length) := fun c2 => by rw [rd_16]; exact congrArg some (REF_RV h2).2.2.2.2.2.1
  have no : m_X11_claim nx ce (fx 0) p p2 = some (-1, ce, 0, 0) → m_X12_claim (wr ce m μ) m p p2 = some (-1, wr ce m μ) → GoS nx m fx q K S (m_X11_claim nx ce (fx 0) p p2) (fun d => m_X12_claim d m p p2) := fun e1 e2 => by
    rw [← CP_h h1] at e2
    exact gos_no h0 hq e1 e2
  rcases mask_c m2 m (REF_RV h2).1 p p2 with ⟨mk, b, hmk, hb, rfl, rfl, e1, e2⟩ | ⟨e1, e2⟩
  · have hble : b ≤ mk := by rw [← hb]; exact Nat.and_le_right
    by_cases h12 : W.2.2.2.2.2.2.2.length < 12
    · refine gos_ok ?_
      unfold m_X11_claim
      rw [a2, bind_s, a3, bind_s, m1, bind_s, cm_rcv m2, bind_s, e1, bind_s, if_neg ne10, ss_r14 ss, bind_s, cw_size (ss_cls ss), bind_s, clR_len, if_pos (show nI W.2.2.2.2.2.2.2.length < (12 : Int32) from (nI_ltI (b := 12) (by omega) (by omega)).mpr h12), bind_s, CP_w7 h1, bind_s]
      refine ok_adcB (ok_mono (g_rem h1 hv.1) (fun r hr => ?_))
      obtain ⟨r1, r2, own1, k1, hd1⟩ := hr
      have s1 := (CP_SZ hd1).1
      obtain ⟨x1, x2⟩ := d4_9 s1
      rw [ss_r14 s1, bind_s, cc_cubeOf, bind_s, cw_rcv (ss_cls s1), bind_s]
      refine ok_adcB (ok_mono (cw_append (ss_cls s1) x1 x2 (by rw [clR_len]; show W.2.2.2.2.2.2.2.length < 4900; omega) (show mk < 64 by omega) (show b < 64 by omega)) (fun y hy => ?_))
      have hy : RowTo r.2.1 (nx + r.2.2.1) (A 9) (A 10) (A 11) (A 12) κ.2.2 (clR (W.2.2.2.2.2.2.2 ++ [(mk, b)])) y.2.1 y.2.2.1 y.2.2.2 := by
        rw [clR_snoc]
        exact hy
      obtain ⟨A2, κ2, t1, t2⟩ := ss_clms s1 hy
      obtain ⟨t3, t4⟩ := Ev_Es t2
      have hs := sz_ev (V2 := clmV W.2.2 (W.2.2.2.2.2.2.2 ++ [(mk, b)])) (CP_SZ hd1) (CP_liv hd1) t1 rfl t3.1 t3.2.1 t4
      obtain ⟨⟨g0, g1⟩, g2⟩ := GI_wt h2 h3 hq hd1 (Nat.le_add_right _ _) hs t3
      have q1 := ss_r14 hs.1
      have q2 := cw_size (ss_cls hs.1)
      rw [t3.1] at q1
      rw [q1, bind_s, q2, bind_s, clR_len]
      refine ok_some ?_
      obtain ⟨ν0, n1, n2, n3⟩ := sr_keep y.2.1 m h2.1
      obtain ⟨ν, n4, n5, n6⟩ := sr_claimTail y.2.1 m n2.2.2.2.2.1 (mk := mk) (b := b) (by omega) (by omega) h12
      have hm2 : m_X12_claim (wr y.2.1 m μ) m (nI mk) (nI b) = some (nI (W.2.2.2.2.2.2.2.length + 1), wr y.2.1 m ν) := by
        unfold m_X12_claim
        rw [wr_rcv, bind_s, e2, bind_s, if_neg ne10, wr_g0, bind_s, hr16, bind_s, if_l 12 (12 : Int32) rfl (by omega) (by omega), if_neg (by omega), bind_s, n1, bind_s]
        exact n4
      rw [← g1] at hm2
      have el : (clmV W.2.2 (W.2.2.2.2.2.2.2 ++ [(mk, b)])).2.2.2.2.2.length = W.2.2.2.2.2.2.2.length + 1 := by
        show (W.2.2.2.2.2.2.2 ++ [(mk, b)]).length = _
        simp
      rw [el]
      refine ⟨g0, _, hm2, ?_⟩
      have p1 := t2.2.2.2.1
      have p2 := t2.2.2.2.2.1
      have hg := g2 ν ν0 c (K + (0 + y.2.2.1 + r.2.2.1)) (S + (0 + y.2.2.2 + r.2.2.2)) n2 n3 n6 n5 (IV_clm hv.1 (by simp; omega) (fun q hq => by
        rcases List.mem_append.mp hq with hq | hq
        · exact hcl.2 q hq
        · rw [List.mem_singleton.mp hq]
          exact ⟨hmk, hb⟩)) (NI_mono hv.2 (by omega)) (Nat.le_refl _) (by omega) (CST_other h4 hcq (by omega) (by omega))
      show GI (nx + (0 + y.2.2.1 + r.2.2.1)) _ _ _ _ _ _
      rw [show nx + (0 + y.2.2.1 + r.2.2.1) = nx + r.2.2.1 + y.2.2.1 by omega]
      exact hg
    · have e12 : W.2.2.2.2.2.2.2.length = 12 := by have := hcl.1; omega
      refine no ?_ ?_
      · unfold m_X11_claim
        rw [a2, bind_s, a3, bind_s, m1, bind_s, cm_rcv m2, bind_s, e1, bind_s, if_neg ne10, ss_r14 ss, bind_s, cw_size (ss_cls ss), bind_s, clR_len, e12, if_neg (by decide)]
      · unfold m_X12_claim
        rw [wr_rcv, bind_s, e2, bind_s, if_neg ne10, wr_g0, bind_s, hr16, bind_s, e12, if_pos (show nI 12 = 12 from rfl)]
  · refine no ?_ ?_
    · unfold m_X11_claim
      rw [a2, bind_s, a3, bind_s, m1, bind_s, cm_rcv m2, bind_s, e1, bind_s, if_pos rfl]
    · unfold m_X12_claim
      rw [wr_rcv, bind_s, e2, bind_s, if_pos rfl]
theorem g_unclaim (h : GI nx ce m fx q K S) (hq : q < 512) (p : Int32) : GoS nx m fx q K S (m_X11_unclaim nx ce (fx 0) p) (fun d => m_X12_unclaim d m p) := by
  have h0 := h
  obtain ⟨own, A, B, T, κ, κb, κt, sp, W, Wb, z, μ, c, h1, h2, h3, h4⟩ := h
  have hv := h3.2.2 W.2.2 (Or.inl rfl)
  have hcq := h3.1
  have hcl := hv.1.2.2.2.2.2.2.2
  obtain ⟨a1, a2, a3⟩ := CP_XS h1
  obtain ⟨ss, mp, m1, m2⟩ := CP_SZ h1
  have hr16 : ∀ c2, aI (wr c2 m μ) (m + 1) (16 : Int32) = some (nI W.2.2.2.2.2.2.2.length) := fun c2 => by rw [rd_16]; exact congrArg some (REF_RV h2).2.2.2.2.2.1
  by_cases hp : Inr W.2.2.2.2.2.2.2.length p
  · obtain ⟨i, hi, rfl⟩ := hp
    have h12 := hcl.1
    refine gos_ok ?_
    unfold m_X11_unclaim
    rw [a2, bind_s, a3, bind_s, ss_r14 ss, bind_s, if_neg (nI_pos (by omega)), cw_size (ss_cls ss), bind_s, clR_len, if_lt (by omega) (by omega), if_pos hi, bind_s, CP_w7 h1, bind_s]
    refine ok_adcB (ok_mono (g_rem h1 hv.1) (fun r hr => ?_))
    obtain ⟨r1, r2, own1, k1, hd1⟩ := hr
    have s1 := (CP_SZ hd1).1
    obtain ⟨x1, x2⟩ := d4_9 s1
    rw [cw_rcv (ss_cls s1), bind_s]
    refine ok_call (cw_removeAt (ss_cls s1) x2 (p := i) (by rw [clR_len]; exact hi)) (fun y hy => ?_)
    obtain ⟨y1, y2⟩ := hy
    have hG : RowG r.2.1 (nx + r.2.2.1) (A 9) (A 10) (A 11) (A 12) (clR (W.2.2.2.2.2.2.2.eraseIdx i)) y.2 0 κ.2.2 := by
      rw [← clR_er]
      exact ⟨A 10, A 11, A 12, y1, x2, Or.inl ⟨rfl, rfl, rfl, rfl⟩, fun b b1 b2 b3 b4 _ => y2 b b1 b2 b3 b4⟩
    obtain ⟨A2, t1, t3, t4⟩ := ss_clG s1 hG
    have hs : SZ y.2 (nx + r.2.2.1) (Zo own1 (nx + r.2.2.1)) A2 κ (clmV W.2.2 (W.2.2.2.2.2.2.2.eraseIdx i)) := sz_ev (V2 := clmV W.2.2 (W.2.2.2.2.2.2.2.eraseIdx i)) (CP_SZ hd1) (CP_liv hd1) t1 rfl t3.1 t3.2.1 t4
    obtain ⟨⟨g0, g1⟩, g2⟩ := GI_wt h2 h3 hq hd1 (Nat.le_refl _) hs t3
    rw [cw_size y1, bind_s, clR_er, clR_len]
    refine ok_some ?_
    obtain ⟨ν0, n1, n2, n3⟩ := sr_keep y.2 m h2.1
    obtain ⟨ν, n4, n5, n6⟩ := sr_unclaimTail y.2 m n2.2.2.2.2.1 (p := i) hi
    have hm2 : m_X12_unclaim (wr y.2 m μ) m (nI i) = some (nI (W.2.2.2.2.2.2.2.length - 1), wr y.2 m ν) := by
      unfold m_X12_unclaim
      rw [wr_g0, bind_s, hr16, bind_s, isn_in hi (by omega), bind_s, if_neg ne10, wr_rcv, bind_s, n1, bind_s]
      exact n4
    rw [← g1] at hm2
    have el : (W.2.2.2.2.2.2.2.eraseIdx i).length = W.2.2.2.2.2.2.2.length - 1 := List.length_eraseIdx_of_lt hi
    have el2 : List.length (W.1, pushP W.2.1 W.2.2, W.2.2).2.2.2.2.2.2.2 = W.2.2.2.2.2.2.2.length := rfl
    show rcv y.2 9 m = some () ∧ ∃ e, m_X12_unclaim y.2 m (nI i) = some (nI (W.2.2.2.2.2.2.2.eraseIdx i).length, e) ∧ GI (nx + (0 + r.2.2.1)) e m fx (q + 1) (K + (0 + r.2.2.1)) (S + (0 + r.2.2.2))
    rw [el]
    refine ⟨g0, _, hm2, ?_⟩
    have hg := g2 ν ν0 c (K + (0 + r.2.2.1)) (S + (0 + r.2.2.2)) n2 n3 n6 n5 (IV_clm hv.1 (by omega) (fun q hq => hcl.2 q (List.mem_of_mem_eraseIdx hq))) (NI_mono hv.2 (by omega)) (Nat.le_refl _) (by omega) (CST_other h4 hcq (by omega) (by omega))
    rw [Nat.zero_add]
    rw [Nat.zero_add] at hg
    exact hg
  · refine gos_no h0 hq (v := -1) ?_ ?_
    · unfold m_X11_unclaim
      rw [a2, bind_s, a3, bind_s, ss_r14 ss, bind_s]
      by_cases n0 : p < 0
      · rw [if_pos n0]
      · rw [if_neg n0, cw_size (ss_cls ss), bind_s, clR_len, if_neg (Int32.not_lt.mpr (nrg (by omega) hp n0))]
    · show m_X12_unclaim ce m p = _
      have e : m_X12_unclaim (wr ce m μ) m p = some (-1, wr ce m μ) := by
        unfold m_X12_unclaim
        rw [wr_g0, bind_s, hr16, bind_s, isn_out hp (by omega), bind_s, if_pos rfl]
      rw [← CP_h h1] at e
      exact e
end
