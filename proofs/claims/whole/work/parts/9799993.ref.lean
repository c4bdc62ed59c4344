/-! TRIALS: the reference -/
def KT (μ ν : MS) : Prop := (∀ j, (j < 3 ∨ 5424 ≤ j) → ν.1 0 j = μ.1 0 j) ∧ (∀ r, (r = 1 ∨ r = 4 ∨ r = 6) → ν.1 r = μ.1 r) ∧ ν.2.1 5 = μ.2.1 5 ∧ (∀ j, 7 ≤ j → ν.2.2.1 2 j = μ.2.2.1 2 j) ∧ ν.2.2.1 3 = μ.2.2.1 3 ∧ ∀ r, r < 3 → ν.2.2.2 r = μ.2.2.2 r
theorem Kp_KT {μ ν : MS} (h : Kp μ ν) : KT μ ν := ⟨h.1, fun r hr => h.2.1 r (by omega), h.2.2.1, h.2.2.2.1, h.2.2.2.2.1, h.2.2.2.2.2.2⟩
theorem KT_refl (μ : MS) : KT μ μ := ⟨fun _ _ => rfl, fun _ _ => rfl, rfl, fun _ _ => rfl, rfl, fun _ _ => rfl⟩
theorem KT_trans {μ ν ρ : MS} (h : KT μ ν) (g : KT ν ρ) : KT μ ρ := ⟨fun j hj => (g.1 j hj).trans (h.1 j hj), fun r hr => (g.2.1 r hr).trans (h.2.1 r hr), g.2.2.1.trans h.2.2.1, fun j hj => (g.2.2.2.1 j hj).trans (h.2.2.2.1 j hj), g.2.2.2.2.1.trans h.2.2.2.2.1, fun r hr => (g.2.2.2.2.2 r hr).trans (h.2.2.2.2.2 r hr)⟩
theorem AR_kt {μ ν : MS} {W : Wv} {V : Sv} (h : AR (μ.1 0) (μ.2.2.1 2) W) (hk : KT μ ν) (hr : RV ν V) : AR (ν.1 0) (ν.2.2.1 2) (W.1, W.2.1, V) := AR_now h hk.1 hk.2.2.2.1 hr
theorem Al_IV {c g k : Nat} (hg : g + k ≤ 1000000) : Along (fun j V => IV c V ∧ NI (g + j) V.2.1) k := fun j V hj h => ⟨(along_IV hg j V hj h).1.1, (along_IV hg j V hj h).2.2⟩
theorem sr_aside (c : Ce) (m : Nat) {μ : MS} {V : Sv} (h : RV μ V) : ∃ ν, m_X12_putAside (wr c m μ) m = some ((), wr c m ν) ∧ AS ν V ∧ RV ν V ∧ KT μ ν := by
  obtain ⟨ν, a1, a2, a3, a4, a5, a6⟩ := sr_putAside c m h
  refine ⟨ν, a1, a2, ?_, fun j _ => by rw [a3 0 (by omega)], fun r hr => a3 r (by omega), by rw [a4], fun j _ => by rw [a5 2 (by omega)], a5 3 (by omega), fun r _ => by rw [a6]⟩
  unfold RV
  rw [a3 0 (by omega), a5 2 (by omega)]
  exact h
theorem sr_isin1 (p : Int32) : m_X12_isIn p (1 : Int32) (500 : Int32) = some (if p < 1 then 0 else if p ≤ 500 then 1 else 0) := by
  rw [sr_isIn]
  by_cases h1 : p < 1
  · rw [if_pos h1, if_neg]
    rintro ⟨a, _⟩
    exact absurd h1 (Int32.not_lt.mpr a)
  · rw [if_neg h1]
    have h1 := Int32.not_lt.mp h1
    by_cases h5 : p ≤ 500
    · rw [if_pos h5, if_pos ⟨h1, h5⟩]
    · rw [if_neg h5, if_neg fun z => h5 z.2]
theorem sr_foretold (c : Ce) (m : Nat) {μ : MS} {V : Sv} (hr : RV μ V) {c0 g : Nat} (hi : IV c0 V) (hn : NI g V.2.1) (hg : g ≤ 990000) (p : Int32) : ∃ ν, m_X12_foretold (wr c m μ) m p = some (fortV V p, wr c m ν) ∧ RV ν V ∧ KT μ ν := by
  unfold m_X12_foretold fortV
  rw [sr_isin1, bind_s]
  by_cases h1 : p < 1
  · rw [if_pos h1, if_pos h1, if_pos rfl]
    exact ⟨μ, rfl, hr, KT_refl μ⟩
  · rw [if_neg h1, if_neg h1]
    by_cases h5 : p ≤ 500
    · rw [if_pos h5, if_pos h5, if_neg (by decide)]
      obtain ⟨k, hk, rfl⟩ : ∃ k, k ≤ 500 ∧ p = nI k := by
        have h0 : ¬ p < 0 := fun z => h1 (Int32.lt_trans z (by decide))
        obtain ⟨k, hk, rfl⟩ := nI_of h0
        exact ⟨k, (nI_leI (b := 500) hk (by omega)).mp h5, rfl⟩
      obtain ⟨ν1, a1, a2, a3, a4⟩ := sr_aside c m hr
      obtain ⟨_, b1, ν2, rfl, b2, b3⟩ := rr_stepsNow c m (Al_IV (c := c0) (g := g) (k := k) (by omega)) ν1 a3 ⟨hi, hn⟩ (by omega)
      obtain ⟨ν3, d1, d2, d3⟩ := sr_bringBack c m (AS_kp a2 b3)
      refine ⟨ν3, ?_, d2, KT_trans a4 (KT_trans (Kp_KT b3) (Kp_KT d3))⟩
      rw [nI_clamp (by omega), wr_rcv, bind_s, a1, bind_s, wr_rcv, bind_s, b1, bind_s, wr_g0, bind_s, rd_5, bind_s, wr_rcv, bind_s, d1, bind_s, b2.2.1 5 (by decide)]
    · rw [if_neg h5, if_neg h5, if_pos rfl]
      exact ⟨μ, rfl, hr, KT_refl μ⟩
theorem sr_tillOver (c : Ce) (m : Nat) {μ : MS} {V W : Sv} (hr : RV μ V) (ha : AS μ W) {c0 g : Nat} (hi : IV c0 V) (hn : NI g V.2.1) (hg : g ≤ 990000) : ∃ ν, m_X12_tillOver (wr c m μ) m = some (oI (tilO V), wr c m ν) ∧ RV ν W ∧ AS ν W ∧ Kp μ ν := by
  obtain ⟨_, b1, ν2, rfl, b2, b3⟩ := rr_stepsNow c m (Al_IV (c := c0) (g := g) (k := 400) (by omega)) μ hr ⟨hi, hn⟩ (by omega)
  have ha2 := AS_kp ha b3
  obtain ⟨ν3, d1, d2, d3⟩ := sr_bringBack c m ha2
  have h5 := (steps_IV 400 g V hi hn).1.2.2.1.1
  have b1 : m_X12_stepsNow (wr c m μ) m (400 : Int32) = _ := b1
  refine ⟨ν3, ?_, d2, AS_kp ha2 d3, Kp_trans b3 d3⟩
  unfold m_X12_tillOver tilO
  rw [wr_rcv, bind_s, b1, bind_s, wr_rcv, bind_s, sr_isOver c m ν2 (p := (stepsV 400 V).2.2.1 5) (by omega) (b2.2.1 5 (by decide)), bind_s, bind_s]
  show ((m_X12_bringBack (wr c m ν2) m).bind _) = _
  rw [d1, bind_s]
  by_cases h3 : (stepsV 400 V).2.2.1 5 < 3
  · rw [if_pos h3, if_pos h3, if_pos rfl]
    rfl
  · rw [if_neg h3, if_neg h3, if_neg (by decide)]
    rfl
theorem sr_till (c : Ce) (m : Nat) {μ : MS} {V : Sv} (hr : RV μ V) {c0 g : Nat} (hi : IV c0 V) (hn : NI g V.2.1) (hg : g ≤ 990000) : ∃ ν, m_X12_till (wr c m μ) m = some (oI (tilO V), wr c m ν) ∧ RV ν V ∧ KT μ ν := by
  obtain ⟨ν1, a1, a2, a3, a4⟩ := sr_aside c m hr
  obtain ⟨ν2, b1, b2, b3, b4⟩ := sr_tillOver c m a3 a2 hi hn hg
  refine ⟨ν2, ?_, b2, KT_trans a4 (Kp_KT b4)⟩
  unfold m_X12_till
  rw [wr_rcv, bind_s, a1, bind_s, wr_rcv, bind_s, b1, bind_s]
/-- as the reference keeps it -/
def qkR (o : Option (Nat × Nat)) : Int32 × Int32 := match o with
  | none => (-1, 0)
  | some b => (nI b.1, nI b.2)
theorem sr_pick {t : Nat → Option Nat} (ht : ∀ i v, t i = some v → v ≤ 400) {i : Nat} (hi : i < 1000) (d : Ce) : (if oI (t i) = (-1 : Int32) then
        some (Sum.inl (β := Int32 × Ce) (((qkR (qk t i)).1, (qkR (qk t i)).2, (nI i + (1 : Int32))), d))
      else
        (
          if (qkR (qk t i)).1 = (-1 : Int32) then
            some (Sum.inr (nI i))
          else
            if oI (t i) < (qkR (qk t i)).2 then
              some (Sum.inr (nI i))
            else
              some (Sum.inl (Sum.inl (((qkR (qk t i)).1, (qkR (qk t i)).2, (nI i + (1 : Int32))), d)))
        ).bind fun (zj12 : (((Int32 × Int32 × Int32) × Ce) ⊕ (Int32 × Ce)) ⊕ Int32) => Sum.elim (fun wzj12 => some wzj12) (fun vzj12 =>
          some (Sum.inl ((vzj12, oI (t i), (vzj12 + (1 : Int32))), d))
        ) zj12) = some (Sum.inl (((qkR (qk t (i + 1))).1, (qkR (qk t (i + 1))).2, nI (i + 1)), d)) := by
  cases h : t i with
  | none =>
    rw [show oI none = -1 from rfl, if_pos rfl, qk_n h, nI_1]
  | some v =>
    have hv := ht i v h
    have hq := qk_s h
    rw [show oI (some v) = nI v from rfl, if_neg (nI_m1 (by omega))]
    cases hb : qk t i with
    | none =>
      rw [hb] at hq
      have hq : qk t (i + 1) = some (i, v) := hq
      rw [hq, show (qkR none).1 = -1 from rfl, if_pos rfl, bind_s]
      show some (Sum.inl ((nI i, nI v, nI i + 1), d)) = _
      rw [nI_1]
      rfl
    | some b =>
      rw [hb] at hq
      have hq : qk t (i + 1) = if v < b.2 then some (i, v) else some b := hq
      obtain ⟨b1, b2⟩ := qk_lt ht i b hb
      rw [hq, show qkR (some b) = (nI b.1, nI b.2) from rfl, if_neg (nI_m1 (by omega)), if_lt (by omega) (by omega)]
      by_cases h4 : v < b.2
      · rw [if_pos h4, if_pos h4, bind_s]
        show some (Sum.inl ((nI i, nI v, nI i + 1), d)) = _
        rw [nI_1]
        rfl
      · rw [if_neg h4, if_neg h4, bind_s]
        show some (Sum.inl ((nI b.1, nI b.2, nI i + 1), d)) = _
        rw [nI_1]
        rfl
theorem sr_quickest (c : Ce) (m : Nat) {μ : MS} {V : Sv} (hr : RV μ V) {c0 g : Nat} (hi : IV c0 V) (hn : NI g V.2.1) (hg : g ≤ 990000) : ∃ ν, m_X12_quickest (wr c m μ) m = some (qkI (qk (fun i => if i < V.1.2.2.2.1 then tilO (aimV V i) else none) V.1.2.2.2.1), wr c m ν) ∧ RV ν V ∧ KT μ ν := by
  have hN : V.1.2.2.2.1 ≤ 4 := hi.1.2.2.2.2.2.1
  generalize ht : (fun i => if i < V.1.2.2.2.1 then tilO (aimV V i) else none) = t
  have ht4 : ∀ i v, t i = some v → v ≤ 400 := by
    intro i v h
    rw [← ht] at h
    have h : (if i < V.1.2.2.2.1 then tilO (aimV V i) else none) = some v := h
    by_cases h2 : i < V.1.2.2.2.1
    · rw [if_pos h2] at h
      exact tilO_le (IV_aim hi h2) (NI_aim hn i) h
    · rw [if_neg h2] at h
      cases h
  obtain ⟨ν1, a1, a2, a3, a4⟩ := sr_aside c m hr
  have key : Ok (m_X12_quickest (wr c m μ) m) (fun o => ∃ ν, o = (qkI (qk t V.1.2.2.2.1), wr c m ν) ∧ RV ν V ∧ KT μ ν) := by
    unfold m_X12_quickest
    rw [wr_rcv, bind_s, a1, bind_s]
    refine ok_call (P := fun o => ∃ ν, o = (qkI (qk t V.1.2.2.2.1), wr c m ν) ∧ RV ν V ∧ KT μ ν) (ok_cnt 0 V.1.2.2.2.1 (fun i s => s.1 = ((qkR (qk t i)).1, (qkR (qk t i)).2, nI i) ∧ ∃ ν, s.2 = wr c m ν ∧ RV ν V ∧ AS ν V ∧ KT μ ν) (by omega) (by omega) ⟨rfl, ν1, rfl, a3, a2, a4⟩ ?_ ?_) (fun o h => by obtain ⟨ν, rfl, h2⟩ := h; exact ok_some ⟨ν, rfl, h2⟩)
    · rintro i ⟨s, d⟩ hiN ⟨hs, ν, hd, h1, h2, h3⟩
      have hs : s = ((qkR (qk t i)).1, (qkR (qk t i)).2, nI i) := hs
      have hd : d = wr c m ν := hd
      subst hs hd
      have hti : tilO (aimV V i) = t i := by
        rw [← ht]
        exact (if_pos hiN).symm
      obtain ⟨ν2, b1, b2, b3⟩ := sr_aimAt c m h1 i
      obtain ⟨ν3, d1, d2, d3, d4⟩ := sr_tillOver c m b2 (AS_kp h2 b3) (IV_aim hi hiN) (NI_aim hn i) hg
      have h7 : ν.1 0 7 = nI V.1.2.2.2.1 := h1.1.2.2.2.1
      rw [hti] at d1
      show Ok ((gA (wr c m ν) 9 0 m).bind _) _
      rw [wr_g0, bind_s, rd_7, bind_s, h7]
      show Ok (if nI V.1.2.2.2.1 ≤ nI i then _ else _) _
      rw [if_le (by omega) (by omega), if_neg (by omega), wr_rcv, bind_s]
      show Ok ((m_X12_aimAt (wr c m ν) m (nI i)).bind _) _
      rw [b1, bind_s, wr_rcv, bind_s, d1, bind_s]
      exact ok_of (sr_pick ht4 (by omega) (wr c m ν3)) ⟨rfl, ν3, rfl, d2, d3, KT_trans h3 (KT_trans (Kp_KT b3) (Kp_KT d4))⟩
    · rintro ⟨s, d⟩ ⟨hs, ν, hd, h1, h2, h3⟩
      have hs : s = ((qkR (qk t V.1.2.2.2.1)).1, (qkR (qk t V.1.2.2.2.1)).2, nI V.1.2.2.2.1) := hs
      have hd : d = wr c m ν := hd
      subst hs hd
      have h7 : ν.1 0 7 = nI V.1.2.2.2.1 := h1.1.2.2.2.1
      show Ok ((gA (wr c m ν) 9 0 m).bind _) _
      rw [wr_g0, bind_s, rd_7, bind_s, h7]
      show Ok (if nI V.1.2.2.2.1 ≤ nI V.1.2.2.2.1 then _ else _) _
      rw [if_pos (Int32.le_refl _)]
      refine ok_some ⟨ν, ?_, h1, h3⟩
      show ((qkR (qk t V.1.2.2.2.1)).1, wr c m ν) = _
      cases qk t V.1.2.2.2.1 with
      | none => rfl
      | some b => rfl
  obtain ⟨_, hv, ν, rfl, h2⟩ := key
  exact ⟨ν, hv, h2⟩
theorem sr_bestMode (c : Ce) (m : Nat) {μ : MS} {V : Sv} (hr : RV μ V) {c0 : Nat} (hi : IV c0 V) : ∃ ν, m_X12_bestMode (wr c m μ) m = some (qkI (qk (fun i => if i < 3 then tilO (bmV V i) else none) 3), wr c m ν) ∧ RV ν V ∧ KT μ ν := by
  generalize ht : (fun i => if i < 3 then tilO (bmV V i) else none) = t
  have ht4 : ∀ i v, t i = some v → v ≤ 400 := by
    intro i v h
    rw [← ht] at h
    have h : (if i < 3 then tilO (bmV V i) else none) = some v := h
    by_cases h2 : i < 3
    · rw [if_pos h2] at h
      exact tilO_le (IV_bm hi h2).1 (IV_bm hi h2).2 h
    · rw [if_neg h2] at h
      cases h
  obtain ⟨ν1, a1, a2, a3, a4⟩ := sr_aside c m hr
  have key : Ok (m_X12_bestMode (wr c m μ) m) (fun o => ∃ ν, o = (qkI (qk t 3), wr c m ν) ∧ RV ν V ∧ KT μ ν) := by
    unfold m_X12_bestMode
    rw [wr_rcv, bind_s, a1, bind_s]
    refine ok_call (P := fun o => ∃ ν, o = (qkI (qk t 3), wr c m ν) ∧ RV ν V ∧ KT μ ν) (ok_cnt 0 3 (fun i s => s.1 = ((qkR (qk t i)).1, (qkR (qk t i)).2, nI i) ∧ ∃ ν, s.2 = wr c m ν ∧ RV ν V ∧ AS ν V ∧ KT μ ν) (by omega) (by omega) ⟨rfl, ν1, rfl, a3, a2, a4⟩ ?_ ?_) (fun o h => by obtain ⟨ν, rfl, h2⟩ := h; exact ok_some ⟨ν, rfl, h2⟩)
    · rintro i ⟨s, d⟩ hiN ⟨hs, ν, hd, h1, h2, h3⟩
      have hs : s = ((qkR (qk t i)).1, (qkR (qk t i)).2, nI i) := hs
      have hd : d = wr c m ν := hd
      subst hs hd
      have hti : tilO (bmV V i) = t i := by
        rw [← ht]
        exact (if_pos hiN).symm
      have h8 : ν.1 0 8 = nI (V.2.1 8) := h1.2.1 8 (by decide)
      obtain ⟨ν2, b1, b2, b3⟩ := sr_anew c m h1.1 (h1.2.1 15 (by decide))
      have b5 : RV (ma ν2 8 (nI (V.2.1 8))) (V.1, va_up (begN (V.2.1 15)) 8 (V.2.1 8), [], [], fl0, []) := RR_num b2 (k := 8) (by decide) _
      have b6 : RV (ma (ma ν2 8 (nI (V.2.1 8))) 15 (nI i)) (V.1, va_up (va_up (begN (V.2.1 15)) 8 (V.2.1 8)) 15 i, [], [], fl0, []) := RR_num b5 (k := 15) (by decide) _
      have b7 : RV (ma (ma ν2 8 (nI (V.2.1 8))) 15 (nI i)) (bmV V i) := by
        refine RR_n b6 fun k hk => ?_
        by_cases e : k = 15
        · subst e
          rfl
        · have hk2 := nums_r hk
          show va_up (va_up (va_up (va_up (begN 0) 8 (V.2.1 8)) 5 0) 4 (hiF [])) 15 i k = va_up (va_up (begN (V.2.1 15)) 8 (V.2.1 8)) 15 i k
          rw [up_n _ _ _ e, up_n _ _ _ e]
          by_cases e4 : k = 4
          · subst e4
            rfl
          · rw [up_n _ _ _ e4]
            by_cases e5 : k = 5
            · subst e5
              rfl
            · rw [up_n _ _ _ e5]
              by_cases e8 : k = 8
              · subst e8
                rfl
              · rw [up_n _ _ _ e8, up_n _ _ _ e8]
                unfold begN
                rw [if_neg e4, if_neg e, if_neg e4, if_neg e]
      have b8 : Kp ν2 (ma (ma ν2 8 (nI (V.2.1 8))) 15 (nI i)) := by
        refine ⟨fun j hj => ?_, fun r hr => ?_, rfl, fun _ _ => rfl, rfl, rfl, fun _ _ => rfl⟩
        · show va_up (va_up (ν2.1 0) 8 _) 15 _ j = _
          rw [up_n _ _ _ (by omega), up_n _ _ _ (by omega)]
        · have : r ≠ 0 := by omega
          show va_up (va_up ν2.1 0 _) 0 _ r = _
          rw [up_n _ _ _ this, up_n _ _ _ this]
      have hk2 := Kp_trans b3 b8
      obtain ⟨ν3, d1, d2, d3, d4⟩ := sr_tillOver c m b7 (AS_kp h2 hk2) (IV_bm hi hiN).1 (IV_bm hi hiN).2 (by omega)
      rw [hti] at d1
      show Ok (if (3 : Int32) ≤ nI i then _ else _) _
      rw [nl_3, if_le (by omega) (by omega), if_neg (by omega)]
      show Ok ((gA (wr c m ν) 9 0 m).bind fun zx6 => (aI (wr c m ν) zx6 (8 : Int32)).bind _) _
      rw [wr_g0, bind_s, rd_8, bind_s, wr_rcv, bind_s, b1, bind_s, wr_g0, bind_s, wt_8, bind_s, wr_g0, bind_s, h8]
      show Ok ((sI (wr c m (ma ν2 8 (nI (V.2.1 8)))) (m + 1) (15 : Int32) (nI i)).bind _) _
      rw [wt_15, bind_s, wr_rcv, bind_s, d1, bind_s]
      exact ok_of (sr_pick ht4 (by omega) (wr c m ν3)) ⟨rfl, ν3, rfl, d2, d3, KT_trans h3 (KT_trans (Kp_KT hk2) (Kp_KT d4))⟩
    · rintro ⟨s, d⟩ ⟨hs, ν, hd, h1, h2, h3⟩
      have hs : s = ((qkR (qk t 3)).1, (qkR (qk t 3)).2, nI 3) := hs
      have hd : d = wr c m ν := hd
      subst hs hd
      show Ok (if (3 : Int32) ≤ nI 3 then _ else _) _
      rw [nl_3, if_pos (Int32.le_refl _)]
      refine ok_some ⟨ν, ?_, h1, h3⟩
      show ((qkR (qk t 3)).1, wr c m ν) = _
      cases qk t 3 with
      | none => rfl
      | some b => rfl
  obtain ⟨_, hv, ν, rfl, h2⟩ := key
  exact ⟨ν, hv, h2⟩
