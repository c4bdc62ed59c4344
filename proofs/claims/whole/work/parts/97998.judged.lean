/-! JUDGED: both sides -/
def lay (V : Sv) (p : Int32) : Option (List (Nat × Nat)) := if p = 0 then some V.2.2.2.2.2 else if p = 1 then (if V.2.1 5 = 3 then some (fncL V) else none) else if p = 2 then some (V.2.2.1.map Prod.snd) else none
theorem sr_isLaid (c : Ce) (m : Nat) {μ : MS} {V : Sv} (hr : RV μ V) {j : Nat} (hi : IV j V) (p : Int32) : ∃ ν, m_X12_isLaid (wr c m μ) m p = some (if (lay V p).isSome = true then 1 else 0, wr c m ν) ∧ Laid ν ((lay V p).getD []) ∧ KJ μ ν := by
  have hC : Cub (μ.1 0) V.2.2.1 := hr.2.2.1
  have h5000 := hC.2.1
  have h5 : V.2.1 5 < 5 := hi.2.2.1.1
  obtain ⟨ν0, z1, z2, z3⟩ := laid_0 c m μ
  have r0 : ∀ ν, KJ μ ν → ν.1 0 = μ.1 0 := fun ν h => h.1 0 (by omega) (by omega)
  -- the loop over all cubes does nothing but for 2
  have lp : ∀ ν, KJ μ ν → ¬ p = 2 → it (fun (zs3 : Int32 × Ce) => (gA zs3.2 9 0 m).bind fun zx8 => (aI zs3.2 zx8 (17 : Int32)).bind fun zx9 => if zx9 ≤ zs3.1 then some (Sum.inr ((), zs3.2)) else if p = (2 : Int32) then (rcv zs3.2 9 m).bind fun zz10 => (m_X12_maskOf zs3.2 m zs3.1).bind fun zx11 => (rcv zs3.2 9 m).bind fun zz12 => (m_X12_bitsOf zs3.2 m zs3.1).bind fun zx13 => (rcv zs3.2 9 m).bind fun zz14 => (m_X12_addJudged zs3.2 m zx11 zx13).bind fun zq15 => some (Sum.inl ((zs3.1 + (1 : Int32)), zq15.2)) else some (Sum.inr ((), zs3.2))) FU ((0 : Int32), wr c m ν) = some ((), wr c m ν) := by
    intro ν _ h2
    refine ok_eq (ok_loop (fun s => s = ((0 : Int32), wr c m ν)) _ (fun _ => 0) rfl (lt_FU (by omega)) ?_)
    rintro _ rfl
    show Ok ((gA (wr c m ν) 9 0 m).bind _) _
    rw [wr_g0, bind_s]
    show Ok ((aI (wr c m ν) (m + 1) 17).bind _) _
    rw [rd_17, bind_s, if_neg h2]
    by_cases hz : ν.1 0 17 ≤ 0
    · show Ok (if ν.1 0 17 ≤ 0 then _ else _) _
      rw [if_pos hz]
      exact ok_some rfl
    · show Ok (if ν.1 0 17 ≤ 0 then _ else _) _
      rw [if_neg hz]
      exact ok_some rfl
  unfold m_X12_isLaid
  rw [z1, bind_s]
  by_cases p0 : p = 0
  · have hne : ¬ p = 2 := fun e => absurd (p0.symm.trans e) (by decide)
    have el : lay V p = some V.2.2.2.2.2 := by unfold lay; rw [if_pos p0]
    obtain ⟨ν1, y1, y2, y3⟩ := sr_layClaims c m (μ := ν0) (cl := V.2.2.2.2.2) (by rw [r0 ν0 z3]; exact hr.2.2.2.2.2)
    rw [if_pos p0, wr_rcv, bind_s, y1, bind_s, bind_s]
    show ∃ ν, (Option.bind (it _ FU ((0 : Int32), wr c m ν1)) _) = _ ∧ _
    rw [lp ν1 (KJ_trans z3 y3) hne, bind_s, if_pos p0, el]
    exact ⟨ν1, rfl, y2, KJ_trans z3 y3⟩
  · by_cases p1 : p = 1
    · have hne : ¬ p = 2 := fun e => absurd (p1.symm.trans e) (by decide)
      obtain ⟨ν1, y1, y2, y3⟩ := sr_layFence c m (KJ_RV z3 hr) hi
      have k1 := KJ_trans z3 y3
      have e5 : ν1.1 0 5 = nI (V.2.1 5) := by rw [r0 ν1 k1]; exact hr.2.1 5 (by decide)
      rw [if_neg p0, if_pos p1, wr_rcv, bind_s, y1, bind_s, bind_s]
      show ∃ ν, (Option.bind (it _ FU ((0 : Int32), wr c m ν1)) _) = _ ∧ _
      rw [lp ν1 k1 hne, bind_s, if_neg p0, if_neg hne, if_pos p1]
      show ∃ ν, ((gA (wr c m ν1) 9 0 m).bind _) = _ ∧ _
      rw [wr_g0, bind_s]
      show ∃ ν, ((aI (wr c m ν1) (m + 1) 5).bind _) = _ ∧ _
      rw [rd_5, bind_s, e5]
      have el : lay V p = if V.2.1 5 = 3 then some (fncL V) else none := by unfold lay; rw [if_neg p0, if_pos p1]
      by_cases e3 : V.2.1 5 = 3
      · rw [if_pos (show nI (V.2.1 5) = 3 by rw [e3]; rfl), el, if_pos e3]
        exact ⟨ν1, rfl, y2, k1⟩
      · have hz : ¬ nI (V.2.1 5) = 3 := fun z => e3 ((nI_eq (by omega) (by omega)).mp (z.trans nl_3))
        rw [if_neg hz, el, if_neg e3]
        refine ⟨ν1, rfl, ?_, k1⟩
        have : fncL V = [] := by unfold fncL; rw [if_neg e3]
        rw [this] at y2
        exact y2
    · by_cases p2 : p = 2
      · have el : lay V p = some (V.2.2.1.map Prod.snd) := by unfold lay; rw [if_neg p0, if_neg p1, if_pos p2]
        rw [if_neg p0, if_neg p1, bind_s]
        have key : Ok (it (fun (zs3 : Int32 × Ce) => (gA zs3.2 9 0 m).bind fun zx8 => (aI zs3.2 zx8 (17 : Int32)).bind fun zx9 => if zx9 ≤ zs3.1 then some (Sum.inr ((), zs3.2)) else if p = (2 : Int32) then (rcv zs3.2 9 m).bind fun zz10 => (m_X12_maskOf zs3.2 m zs3.1).bind fun zx11 => (rcv zs3.2 9 m).bind fun zz12 => (m_X12_bitsOf zs3.2 m zs3.1).bind fun zx13 => (rcv zs3.2 9 m).bind fun zz14 => (m_X12_addJudged zs3.2 m zx11 zx13).bind fun zq15 => some (Sum.inl ((zs3.1 + (1 : Int32)), zq15.2)) else some (Sum.inr ((), zs3.2))) FU ((0 : Int32), wr c m ν0)) (fun o => ∃ ν, o = ((), wr c m ν) ∧ Laid ν (V.2.2.1.map Prod.snd) ∧ KJ μ ν) := by
          refine ok_cnt 0 V.2.2.1.length (fun k s => ∃ ν, s = (nI k, wr c m ν) ∧ Laid ν ((V.2.2.1.take k).map Prod.snd) ∧ KJ μ ν) (by omega) (by omega) ⟨ν0, rfl, by rw [List.take_zero]; exact z2, z3⟩ ?_ ?_
          · rintro k _ hk ⟨ν, rfl, x1, x2⟩
            have hat : V.2.2.1[k]? = some V.2.2.1[k] := List.getElem?_eq_getElem hk
            generalize V.2.2.1[k] = u at hat
            have hu := (hC.2.2 k u hat).2
            have hCν : Cub (ν.1 0) V.2.2.1 := by rw [r0 ν x2]; exact hC
            have hll : ((V.2.2.1.take k).map Prod.snd).length < 5000 := by
              rw [List.length_map, List.length_take]
              omega
            obtain ⟨ν3, w1, w2, w3⟩ := sr_addJudged c m x1 hll (q := u.2) hu.2.1 hu.2.2
            show Ok ((gA (wr c m ν) 9 0 m).bind _) _
            simp only [wr_g0, bind_s, rd_17, hCν.1, wr_rcv, sc_maskOf c m ν hCν hat, sc_bitsOf c m ν hCν hat, if_pos p2, w1]
            rw [if_le (by omega) (by omega), if_neg (by omega)]
            refine ok_some ⟨ν3, by rw [nI_1], ?_, KJ_trans x2 w3⟩
            rw [take_s hat, List.map_append]
            exact w2
          · rintro _ ⟨ν, rfl, x1, x2⟩
            have hCν : Cub (ν.1 0) V.2.2.1 := by rw [r0 ν x2]; exact hC
            show Ok ((gA (wr c m ν) 9 0 m).bind _) _
            simp only [wr_g0, bind_s, rd_17, hCν.1]
            rw [if_pos (Int32.le_refl _)]
            rw [List.take_length] at x1
            exact ok_some ⟨ν, rfl, x1, x2⟩
        obtain ⟨o, ho, ν, rfl, x1, x2⟩ := key
        show ∃ ν, (Option.bind (it _ FU ((0 : Int32), wr c m ν0)) _) = _ ∧ _
        rw [ho, bind_s, if_neg p0, if_pos p2, el]
        exact ⟨ν, rfl, x1, x2⟩
      · have el : lay V p = none := by unfold lay; rw [if_neg p0, if_neg p1, if_neg p2]
        rw [if_neg p0, if_neg p1, bind_s]
        show ∃ ν, (Option.bind (it _ FU ((0 : Int32), wr c m ν0)) _) = _ ∧ _
        rw [lp ν0 z3 p2, bind_s, if_neg p0, if_neg p2, if_neg p1, el]
        exact ⟨ν0, rfl, z2, z3⟩
theorem ss_fenceStart {ce : Ce} {nx : Nat} {A : Nat → Nat} {κ : Nat × Nat × Nat} {V : Sv} (h : SS ce nx A κ V) (h3 : V.2.1 5 = 3) (h6 : V.2.1 6 ≤ 65) : m_X8_fenceStart ce (A 0) = some (nI (stR (srtF V.2.2.1) (V.2.1 6 + 1))) := by
  unfold m_X8_fenceStart
  rw [ss_r11 h, bind_s, ss_r5 h (Or.inr h3), bind_s, cw_rcv (ss_row h), bind_s, nI_1, cw_startOf (ss_row h) (by omega), bind_s]
theorem clR_snd (cl : List (Nat × Nat)) : (clR cl).map Prod.snd = cl := by
  unfold clR
  rw [List.map_map]
  exact List.map_id _
theorem barL_perm {L : Nat} {l l2 : List (Nat × Nat)} (h : l.Perm l2) : barL L l = barL L l2 := by
  unfold barL
  congr 1
  funext s
  exact h.any_eq
theorem c_lay {ce : Ce} {nx : Nat} {A : Nat → Nat} {κ : Nat × Nat × Nat} {V : Sv} {x j : Nat} (hx : XS ce x A) (h : SS ce nx A κ V) (hi : IV j V) (p : Int32) : (lay V p = none ∧ m_X11_rowOf ce x p = some none) ∨ ∃ b lr st cap l, (b = 1 ∨ b = 9) ∧ (lay V p = some l ∧ (p ≠ 2 → (lr.drop st).map Prod.snd = l) ∧ Agr V.1.1 (uniS (lr.drop st)) (barL V.1.1 l)) ∧ m_X11_rowOf ce x p = some (some (A b)) ∧ m_X11_startIn ce x p = some (nI st) ∧ RW ce (A b) (A (b + 1)) (A (b + 2)) (A (b + 3)) cap lr ∧ st ≤ lr.length ∧ (∀ q, q ∈ lr → q.2.1 < 2 ^ V.1.1) ∧ (p ≠ 1 → st = 0) := by
  obtain ⟨_, w, x1, x2⟩ := hx
  have h5 : V.2.1 5 < 5 := hi.2.2.1.1
  have h6 : V.2.1 6 ≤ 65 := hi.2.2.1.2.2.2
  have hCI := hi.2.2.2.1.1
  have hcl := hi.2.2.2.2.2.2.2.2
  have hrow : ∀ q, q ∈ srtF V.2.2.1 → q.2.1 < 2 ^ V.1.1 := fun q hq => (hCI q ((srtN_mem V.2.2.1 q 128).mp hq).1).2.2.2.1
  have hclr : ∀ q, q ∈ clR V.2.2.2.2.2 → q.2.1 < 2 ^ V.1.1 := by
    intro q hq
    unfold clR at hq
    obtain ⟨u, hu, rfl⟩ := List.mem_map.mp hq
    exact (hcl u hu).1
  by_cases p0 : p = 0
  · refine Or.inr ⟨9, clR V.2.2.2.2.2, 0, κ.2.2, V.2.2.2.2.2, Or.inr rfl, ⟨?_, ?_, ?_⟩, ?_, ?_, ss_cls h, Nat.zero_le _, hclr, fun _ => rfl⟩
    · unfold lay
      rw [if_pos p0]
    · intro _
      rw [List.drop_zero, clR_snd]
    · rw [List.drop_zero]
      have := agr_bar (IV_L hi) hclr
      rw [clR_snd] at this
      exact this
    · unfold m_X11_rowOf
      rw [x1, bind_s, x2, bind_s, if_pos p0, ss_r14 h, bind_s]
    · unfold m_X11_startIn
      rw [if_neg (fun e => absurd (p0.symm.trans e) (by decide))]
      rfl
  · by_cases p1 : p = 1
    · by_cases e3 : V.2.1 5 = 3
      · have efn : fncL V = ((srtF V.2.2.1).drop (stR (srtF V.2.2.1) (V.2.1 6 + 1))).map Prod.snd := by unfold fncL; rw [if_pos e3]
        refine Or.inr ⟨1, srtF V.2.2.1, stR (srtF V.2.2.1) (V.2.1 6 + 1), κ.1, fncL V, Or.inl rfl, ⟨?_, fun _ => efn.symm, ?_⟩, ?_, ?_, ss_row h, stR_le _ _, hrow, fun z => absurd p1 z⟩
        · unfold lay
          rw [if_neg p0, if_pos p1, if_pos e3]
        · rw [efn]
          exact agr_bar (IV_L hi) fun q hq => hrow q (List.mem_of_mem_drop hq)
        · unfold m_X11_rowOf
          rw [x1, bind_s, x2, bind_s, if_neg p0, if_pos p1, ss_r3 h, bind_s, if_pos (show nI (V.2.1 5) = 3 by rw [e3]; rfl), ss_r11 h, bind_s]
        · unfold m_X11_startIn
          rw [if_pos p1, x1, bind_s, x2, bind_s, ss_rcv h, bind_s, ss_fenceStart h e3 h6, bind_s]
      · refine Or.inl ⟨?_, ?_⟩
        · unfold lay
          rw [if_neg p0, if_pos p1, if_neg e3]
        · have hz : ¬ nI (V.2.1 5) = 3 := fun z => e3 ((nI_eq (by omega) (by omega)).mp (z.trans nl_3))
          unfold m_X11_rowOf
          rw [x1, bind_s, x2, bind_s, if_neg p0, if_pos p1, ss_r3 h, bind_s, if_neg hz]
    · by_cases p2 : p = 2
      · refine Or.inr ⟨1, srtF V.2.2.1, 0, κ.1, V.2.2.1.map Prod.snd, Or.inl rfl, ⟨?_, fun z => absurd p2 z, ?_⟩, ?_, ?_, ss_row h, Nat.zero_le _, hrow, fun _ => rfl⟩
        · unfold lay
          rw [if_neg p0, if_neg p1, if_pos p2]
        · rw [List.drop_zero, ← barL_perm ((srtF_perm (fr := V.2.2.1) fun q hq => by have := (hCI q hq).2.2.1; omega).map Prod.snd)]
          exact agr_bar (IV_L hi) hrow
        · unfold m_X11_rowOf
          rw [x1, bind_s, x2, bind_s, if_neg p0, if_neg p1, if_pos p2, ss_r11 h, bind_s]
        · unfold m_X11_startIn
          rw [if_neg p1]
          rfl
      · refine Or.inl ⟨?_, ?_⟩
        · unfold lay
          rw [if_neg p0, if_neg p1, if_neg p2]
        · unfold m_X11_rowOf
          rw [x1, bind_s, x2, bind_s, if_neg p0, if_neg p1, if_neg p2]
theorem WM_aim {c : Nat} {V : Sv} (hi : IV c V) : ∀ k, k < 64 → 2 ^ V.1.1 ≤ k → B (V.1.2.2.2.2 (V.2.1 8)) k = false := hi.1.2.2.2.2.2.2 _ hi.2.2.1.2.1
theorem Mac_kj {μ ν : MS} {V : Sv} (hk : KJ μ ν) (hr : RV μ V) : RV ν V := KJ_RV hk hr
/-- judged: the class -/
theorem c_judged {ce : Ce} {nx : Nat} {A : Nat → Nat} {κ : Nat × Nat × Nat} {V : Sv} {x j : Nat} (hx : XS ce x A) (h : SS ce nx A κ V) (hi : IV j V) (p : Int32) : m_X11_judged ce x p = some (match lay V p with | none => -1 | some l => nI (jdg V.1 (V.1.2.2.2.2 (V.2.1 8)) (barL V.1.1 l))) := by
  unfold m_X11_judged
  rcases c_lay hx h hi p with ⟨h1, h2⟩ | ⟨b, lr, st, cap, l, hb, ⟨h1, h2, h3⟩, h4, h5, h6, h7, h8, h9⟩
  · obtain ⟨x0, w, x1, x2⟩ := hx
    rw [x0, bind_s, h2, h1, bind_s]
  · obtain ⟨x0, w, x1, x2⟩ := hx
    rw [x0, bind_s, h4, h1, bind_s]
    show (gA ce 8 6 x).bind _ = _
    have hcap : lr.length < 2 ^ 31 := by
      obtain ⟨F, C, S, q1, q2, q3, q4, q5, q6, q7, q8⟩ := h6
      omega
    rw [x1, bind_s, x2, bind_s, bind_s, h5, bind_s, cw_rcv h6, bind_s, cw_unionFrom h6 (by omega), bind_s, ss_rcv h, bind_s, ss_judge h hi.2.2.1.2.1, bind_s, jdg_agr hi.1 h3 (WM_aim hi)]
theorem e_judged {ce : Ce} {nx : Nat} {A : Nat → Nat} {κ : Nat × Nat × Nat} {V : Sv} {c : Ce} {m : Nat} {μ : MS} {x j : Nat} (hx : XS ce x A) (h : SS ce nx A κ V) (hr : RV μ V) (hi : IV j V) (p : Int32) : ∃ v ν, m_X11_judged ce x p = some v ∧ m_X12_judged (wr c m μ) m p = some (v, wr c m ν) ∧ KJ μ ν := by
  obtain ⟨ν, y1, y2, y3⟩ := sr_isLaid c m hr hi p
  have hrν := KJ_RV y3 hr
  rw [c_judged hx h hi p]
  unfold m_X12_judged
  rw [wr_rcv, bind_s, y1, bind_s]
  cases hl : lay V p with
  | none =>
    rw [hl] at y2
    exact ⟨-1, ν, rfl, rfl, y3⟩
  | some l =>
    rw [hl] at y2
    have y2 : Laid ν l := y2
    refine ⟨_, ν, rfl, ?_, y3⟩
    show (if (1 : Int32) = 0 then _ else (rcv (wr c m ν) 9 m).bind _) = _
    rw [if_neg (by decide), wr_rcv, bind_s]
    show ((m_X12_barredAll (wr c m ν) m).bind _) = _
    rw [sr_barredAll c m hrν.1 y2, bind_s]
    rw [bind_s]
    show ((m_X12_judge (wr c m ν) m _).bind _) = _
    rw [sr_judge c m hrν hi.1 hi.2.2.1.2.1, bind_s]
def wit (M : Mv) (g x : Int64) : Int32 := if jdg M g x = 1 then lowI (M.2.2.1 &&& x) else if jdg M g x = 2 then lowI (befS M x &&& (x ^^^ (-1))) else if jdg M g x = 3 then lowI (g &&& (x ^^^ (-1))) else -1
theorem jdg_lt (M : Mv) (g x : Int64) : jdg M g x < 4 := by
  unfold jdg
  split
  · split
    · split <;> omega
    · omega
  · omega
theorem e_witness {ce : Ce} {nx : Nat} {A : Nat → Nat} {κ : Nat × Nat × Nat} {V : Sv} {c : Ce} {m : Nat} {μ : MS} {x j : Nat} (hx : XS ce x A) (h : SS ce nx A κ V) (hr : RV μ V) (hi : IV j V) (p : Int32) : ∃ v ν, m_X11_witness ce x p = some v ∧ m_X12_witness (wr c m μ) m p = some (v, wr c m ν) ∧ KJ μ ν := by
  obtain ⟨ν, y1, y2, y3⟩ := sr_isLaid c m hr hi p
  have hrν := KJ_RV y3 hr
  have h8 := hi.2.2.1.2.1
  unfold m_X11_witness m_X12_witness
  rw [wr_rcv, bind_s, y1, bind_s]
  rcases c_lay hx h hi p with ⟨h1, h2⟩ | ⟨b, lr, st, cap, l, hb, ⟨h1, h2, h3⟩, h4, h5, h6, h7, h9, h10⟩
  · obtain ⟨x0, w, x1, x2⟩ := hx
    rw [x0, bind_s, h2, h1, bind_s]
    exact ⟨-1, ν, rfl, rfl, y3⟩
  · obtain ⟨x0, w, x1, x2⟩ := hx
    rw [x0, bind_s, h4, h1, bind_s]
    rw [h1] at y2
    have y2 : Laid ν l := y2
    have hcap : lr.length < 2 ^ 31 := by
      obtain ⟨F, C, S, q1, q2, q3, q4, q5, q6, q7, q8⟩ := h6
      omega
    obtain ⟨mp, g1, g2⟩ := ss_mach h
    obtain ⟨a1, a2, a3⟩ := agr_all hi.1 h3 (WM_aim hi)
    have hj := jdg_lt V.1 (V.1.2.2.2.2 (V.2.1 8)) (barL V.1.1 l)
    have cls : m_X8_witnessOf ce (A 0) (uniS (lr.drop st)) = some (wit V.1 (V.1.2.2.2.2 (V.2.1 8)) (barL V.1.1 l)) := by
      unfold m_X8_witnessOf wit
      rw [ss_rcv h, bind_s, ss_judge h h8, bind_s, jdg_agr hi.1 h3 (WM_aim hi)]
      simp only [g1, bind_s, (cm_states g2).2.2.2, cm_rcv g2, cc_before g2, ss_rcv h, ss_aims h h8, cc_lowest, a1, a2, a3]
      rw [if_q nl_1 (by omega) (by omega), if_q nl_2 (by omega) (by omega), if_q nl_3 (by omega) (by omega)]
      split
      · rfl
      · split
        · rfl
        · split <;> rfl
    show ∃ v ν, ((gA ce 8 6 x).bind _) = some v ∧ _
    rw [x1, bind_s, x2, bind_s, bind_s, h5, bind_s, cw_rcv h6, bind_s, cw_unionFrom h6 (by omega), bind_s, ss_rcv h, bind_s, cls, bind_s]
    refine ⟨_, ν, rfl, ?_, y3⟩
    show (if (1 : Int32) = 0 then _ else (rcv (wr c m ν) 9 m).bind _) = _
    rw [if_neg (by decide), wr_rcv, bind_s]
    show ((m_X12_barredAll (wr c m ν) m).bind _) = _
    rw [sr_barredAll c m hrν.1 y2, bind_s]
    rw [bind_s]
    show ((m_X12_judge (wr c m ν) m _).bind _) = _
    rw [sr_judge c m hrν hi.1 h8, bind_s]
    unfold wit
    simp only [wr_rcv, bind_s, sr_sta c m hrν, sr_lowest, sr_leadIn c m hrν.1 hi.1, sr_aim c m hrν h8, Int64.and_comm (barL V.1.1 l) V.1.2.2.1]
    rw [if_q nl_1 (by omega) (by omega), if_q nl_2 (by omega) (by omega), if_q nl_3 (by omega) (by omega)]
    split
    · rfl
    · split
      · rfl
      · split <;> rfl
theorem all_hi {L : Nat} (hL : L < 7) {k : Nat} (hk : k < 64) (h : 2 ^ L ≤ k) : B (allS L) k = false := by
  rw [B_mkS _ hk]
  simp
  omega
theorem e_inside {ce : Ce} {nx : Nat} {A : Nat → Nat} {κ : Nat × Nat × Nat} {V : Sv} {c : Ce} {m : Nat} {μ : MS} {x j : Nat} (hx : XS ce x A) (h : SS ce nx A κ V) (hr : RV μ V) (hi : IV j V) (p : Int32) : ∃ v ν, m_X11_inside ce x p = some v ∧ m_X12_inside (wr c m μ) m p = some (v, wr c m ν) ∧ KJ μ ν := by
  obtain ⟨ν, y1, y2, y3⟩ := sr_isLaid c m hr hi p
  have hrν := KJ_RV y3 hr
  unfold m_X11_inside m_X12_inside
  rcases c_lay hx h hi p with ⟨h1, h2⟩ | ⟨b, lr, st, cap, l, hb, ⟨h1, h2, h3⟩, h4, h5, h6, h7, h9, h10⟩
  · obtain ⟨x0, w, x1, x2⟩ := hx
    rw [x0, bind_s, h2, bind_s]
    by_cases p2 : p = 2
    · rw [if_pos p2, if_pos p2]
      exact ⟨-1, μ, rfl, rfl, KJ_refl μ⟩
    · rw [if_neg p2, if_neg p2, wr_rcv, bind_s, y1, bind_s, h1]
      exact ⟨-1, ν, rfl, rfl, y3⟩
  · obtain ⟨x0, w, x1, x2⟩ := hx
    rw [x0, bind_s, h4, bind_s]
    by_cases p2 : p = 2
    · rw [if_pos p2, if_pos p2]
      exact ⟨-1, μ, rfl, rfl, KJ_refl μ⟩
    · rw [if_neg p2, if_neg p2, wr_rcv, bind_s, y1, bind_s]
      rw [h1] at y2 ⊢
      have y2 : Laid ν l := y2
      have hcap : lr.length < 2 ^ 31 := by
        obtain ⟨F, C, S, q1, q2, q3, q4, q5, q6, q7, q8⟩ := h6
        omega
      obtain ⟨mp, g1, g2⟩ := ss_mach h
      show ∃ v ν, ((gA ce 8 6 x).bind _) = some v ∧ _
      rw [x1, bind_s, x2, bind_s, g1, bind_s, (cm_states g2).2.2.1, bind_s, bind_s, h5, bind_s, cw_rcv h6, bind_s, cw_unionFrom h6 (by omega), bind_s, cc_bitCount, bind_s]
      refine ⟨_, ν, rfl, ?_, y3⟩
      show (if (1 : Int32) = 0 then _ else (rcv (wr c m ν) 9 m).bind _) = _
      rw [if_neg (by decide), wr_rcv, bind_s]
      show ((m_X12_all (wr c m ν) m).bind _) = _
      rw [sr_all c m ν hrν.1.2.2.1 hrν.1.1, bind_s]
      rw [bind_s]
      show ((m_X12_barredAll (wr c m ν) m).bind _) = _
      rw [sr_barredAll c m hrν.1 y2, bind_s, sr_many, bind_s, (agr_and (M := V.1) (IV_L hi) h3 (fun k hk h2 => all_hi (IV_L hi) hk h2)).2]
/-! the fence, part by part -/
def cpW (l : List (Nat × Nat)) (p q : Int32) : Int32 := if p = -1 then nI l.length else if p < 0 then -2 else match l[p.toNatClampNeg]? with
  | none => -2
  | some u => if q = 0 then nI u.1 else if q = 1 then nI u.2 else -2
theorem cpV_W (l : List Cu) (p q : Int32) : cpV l p q = cpW (l.map Prod.snd) p q := by
  unfold cpV cpW
  rw [List.length_map, List.getElem?_map]
  cases l[p.toNatClampNeg]? <;> rfl
theorem e_fence {ce : Ce} {nx : Nat} {A : Nat → Nat} {κ : Nat × Nat × Nat} {V : Sv} {c : Ce} {m : Nat} {μ : MS} {x j : Nat} (hx : XS ce x A) (h : SS ce nx A κ V) (hr : RV μ V) (hi : IV j V) (p q : Int32) : ∃ v ν, m_X11_fence ce x p q = some v ∧ m_X12_fence (wr c m μ) m p q = some (v, wr c m ν) ∧ KJ μ ν := by
  obtain ⟨ν, y1, y2, y3⟩ := sr_layFence c m hr hi
  obtain ⟨_, w, x1, x2⟩ := hx
  have h5 : V.2.1 5 < 5 := hi.2.2.1.1
  have h6 : V.2.1 6 ≤ 65 := hi.2.2.1.2.2.2
  have hR := ss_row h
  have cls : m_X11_fence ce x p q = some (cpW (fncL V) p q) := by
    unfold m_X11_fence
    rw [x1, bind_s, x2, bind_s, ss_r11 h, bind_s, cw_size hR, bind_s, ss_r3 h, bind_s]
    by_cases e3 : V.2.1 5 = 3
    · have efn : fncL V = ((srtF V.2.2.1).drop (stR (srtF V.2.2.1) (V.2.1 6 + 1))).map Prod.snd := by unfold fncL; rw [if_pos e3]
      rw [if_pos (show nI (V.2.1 5) = 3 by rw [e3]; rfl), ss_rcv h, bind_s, ss_fenceStart h e3 h6, bind_s, bind_s, bind_s, cw_part hR (stR_le _ _) (Nat.le_refl _), bind_s, cpV_W, List.take_of_length_le (by rw [List.length_drop]; exact Nat.le_refl _), efn]
    · have efn : fncL V = [] := by unfold fncL; rw [if_neg e3]
      have hz : ¬ nI (V.2.1 5) = 3 := fun z => e3 ((nI_eq (by omega) (by omega)).mp (z.trans nl_3))
      rw [if_neg hz, bind_s, bind_s, cw_part hR (Nat.le_refl _) (Nat.le_refl _), bind_s, cpV_W, Nat.sub_self, List.take_zero, efn]
      rfl
  rw [cls]
  refine ⟨_, ν, rfl, ?_, y3⟩
  have h5000 := y2.2.1
  unfold m_X12_fence
  rw [wr_rcv, bind_s, y1, bind_s]
  simp only [wr_g31, bind_s, y2.1, wr_g29, wr_g30]
  unfold cpW
  by_cases h1 : p = -1
  · rw [if_pos h1, if_pos h1]
  · rw [if_neg h1, if_neg h1]
    by_cases hp : Inr (fncL V).length p
    · obtain ⟨k, hk, rfl⟩ := hp
      have hu : (fncL V)[k]? = some ((fncL V)[k]'hk) := List.getElem?_eq_getElem _
      generalize (fncL V)[k]'hk = u at hu
      obtain ⟨a1, a2, a3, a4⟩ := y2.2.2 k u hu
      have e7 : m_X12_isIn (nI k) (0 : Int32) (nI (fncL V).length - 1) = some 1 := by
        rw [nl_0, nl_1, pk_sub (by omega)]
        exact isin_in (by omega) (by omega) (by omega)
      rw [e7, bind_s, if_neg (by decide), if_neg (nI_pos (by omega)), nI_clamp (by omega), hu, wr_a14 c m ν (by omega), bind_s, wr_a15 c m ν (by omega), bind_s, a1, a2]
      show _ = some (if q = 0 then nI u.1 else if q = 1 then nI u.2 else -2, _)
      by_cases q0 : q = 0
      · subst q0
        rfl
      · by_cases q1 : q = 1
        · subst q1
          rfl
        · have e3 : m_X12_isIn q (0 : Int32) (1 : Int32) = some 0 := by
            refine isin_out (lo := 0) (hi := 1) (by omega) (by omega) ?_
            rintro ⟨s, _, hs, e⟩
            have : s = 0 ∨ s = 1 := by omega
            rcases this with rfl | rfl
            · exact q0 e
            · exact q1 e
          rw [e3, bind_s, if_pos rfl, if_neg q0, if_neg q1]
    · have e2 : m_X12_isIn p (0 : Int32) (nI (fncL V).length - 1) = some 0 := by
        by_cases h0 : (fncL V).length = 0
        · rw [h0, sr_isIn, if_neg]
          rintro ⟨a, b⟩
          exact absurd (Int32.le_trans a b) (by decide)
        · rw [nl_0, nl_1, pk_sub (by omega)]
          refine isin_out (by omega) (by omega) ?_
          rintro ⟨s, _, hs, e⟩
          exact hp ⟨s, by omega, e⟩
      rw [e2, bind_s, if_pos rfl]
      by_cases h0 : p < 0
      · rw [if_pos h0]
      · rw [if_neg h0]
        obtain ⟨k, hk, rfl⟩ := nI_of h0
        rw [nI_clamp hk, List.getElem?_eq_none]
        exact Nat.le_of_not_lt fun z => hp ⟨k, z, rfl⟩
