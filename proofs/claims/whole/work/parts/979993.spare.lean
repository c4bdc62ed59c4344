/-! SPARE: both sides -/
def spG (M : Mv) (g : Int64) : Nat → Nat → List (Nat × Nat) → List (Nat × Nat)
  | 0, _, l => l
  | t + 1, i, l => if jdg M g (barL M.1 (l.eraseIdx i)) = 0 then spG M g t i (l.eraseIdx i) else spG M g t (i + 1) l
theorem clR_er (l : List (Nat × Nat)) (i : Nat) : (clR l).eraseIdx i = clR (l.eraseIdx i) := by
  unfold clR
  rw [List.eraseIdx_eq_take_drop_succ, List.eraseIdx_eq_take_drop_succ, List.map_append, List.map_take, List.map_drop]
theorem clR_len (l : List (Nat × Nat)) : (clR l).length = l.length := by
  unfold clR
  rw [List.length_map]
theorem agr_cl {L : Nat} (hL : L < 7) {l : List (Nat × Nat)} (h : ∀ q, q ∈ l → q.1 < 2 ^ L) : Agr L (uniS (clR l)) (barL L l) := by
  have := agr_bar hL (l := clR l) (fun q hq => by
    unfold clR at hq
    obtain ⟨u, hu, rfl⟩ := List.mem_map.mp hq
    exact h u hu)
  rw [clR_snd] at this
  exact this
theorem c_leaveOut {d : Ce} {nx : Nat} {A : Nat → Nat} {κ : Nat × Nat × Nat} {V : Sv} {x j r f g s cap : Nat} {l : List (Nat × Nat)} (hR : RW d r f g s cap (clR l)) (hD : D4 r f g s) (hst : ∀ c : Ce, (∀ b, b ≠ r → b ≠ f → b ≠ g → b ≠ s → c b = d b) → XS c x A ∧ SS c nx A κ V) (hi : IV j V) (hm : ∀ q, q ∈ l → q.1 < 2 ^ V.1.1) (hl : l.length < 5001) : Ok (m_X11_leaveOut d x r) (fun z => z.1 = nI (l.length - (spG V.1 (V.1.2.2.2.2 (V.2.1 8)) l.length 0 l).length) ∧ ∃ l2, RW z.2 r f g s cap l2 ∧ ∀ b, b ≠ r → b ≠ f → b ≠ g → b ≠ s → z.2 b = d b) := by
  have hL := IV_L hi
  have h8 := hi.2.2.1.2.1
  unfold m_X11_leaveOut
  rw [cw_size hR, bind_s, clR_len]
  generalize hN : l.length = N at hl
  refine ok_call (P := fun o => ∃ l2, RW o.2 r f g s cap (clR l2) ∧ l2 = spG V.1 (V.1.2.2.2.2 (V.2.1 8)) N 0 l ∧ l2.length ≤ N ∧ ∀ b, b ≠ r → b ≠ f → b ≠ g → b ≠ s → o.2 b = d b) (ok_cnt 0 N (fun k z => ∃ i l1 c, z = ((nI i, nI k), c) ∧ i + (N - k) = l1.length ∧ l1.length ≤ N ∧ (∀ q, q ∈ l1 → q.1 < 2 ^ V.1.1) ∧ RW c r f g s cap (clR l1) ∧ spG V.1 (V.1.2.2.2.2 (V.2.1 8)) (N - k) i l1 = spG V.1 (V.1.2.2.2.2 (V.2.1 8)) N 0 l ∧ ∀ b, b ≠ r → b ≠ f → b ≠ g → b ≠ s → c b = d b) (by omega) (by omega) ⟨0, l, d, rfl, by omega, by omega, hm, hR, rfl, fun _ _ _ _ _ => rfl⟩ ?_ ?_) ?_
  · rintro k _ hk ⟨i, l1, c, rfl, y1, y2, y3, y4, y5, y6⟩
    obtain ⟨⟨x0, w, x1, x2⟩, hS⟩ := hst c y6
    obtain ⟨t, ht⟩ : ∃ t, N - k = t + 1 := ⟨N - k - 1, by omega⟩
    have ht2 : N - (k + 1) = t := by omega
    have hil : i < l1.length := by omega
    have hj := jdg_lt V.1 (V.1.2.2.2.2 (V.2.1 8)) (barL V.1.1 (l1.eraseIdx i))
    rw [ht, spG] at y5
    have hub : m_X2_unionBut c r (nI i) = some (uniS (clR (l1.eraseIdx i))) := by rw [cw_unionBut y4 (by omega), clR_er]
    show Ok (if nI N ≤ nI k then _ else (gA c 8 6 x).bind _) _
    rw [if_le (by omega) (by omega), if_neg (by omega), x1, bind_s]
    show Ok ((gA c 7 4 w).bind _) _
    rw [x2, bind_s]
    show Ok ((rcv c 2 r).bind _) _
    rw [cw_rcv y4, bind_s]
    show Ok ((m_X2_unionBut c r (nI i)).bind _) _
    rw [hub, bind_s]
    show Ok ((rcv c 6 (A 0)).bind _) _
    rw [ss_rcv hS, bind_s]
    show Ok ((m_X8_judgementOf c (A 0) _).bind _) _
    rw [ss_judge hS h8, bind_s, jdg_agr hi.1 (agr_cl hL fun q hq => y3 q (List.mem_of_mem_eraseIdx hq)) (WM_aim hi), if_z (by omega)]
    by_cases hz : jdg V.1 (V.1.2.2.2.2 (V.2.1 8)) (barL V.1.1 (l1.eraseIdx i)) = 0
    · rw [if_pos hz] at y5
      rw [if_pos hz]
      show Ok ((some ()).bind _) _
      rw [bind_s]
      show Ok ((m_X2_removeAt c r (nI i)).bind _) _
      refine ok_call (cw_removeAt y4 hD (p := i) (by rw [clR_len]; exact hil)) ?_
      rintro ⟨u, c2⟩ ⟨w1, w2⟩
      rw [clR_er] at w1
      refine ok_some ⟨i, l1.eraseIdx i, c2, ?_, ?_, ?_, fun q hq => y3 q (List.mem_of_mem_eraseIdx hq), w1, by rw [ht2]; exact y5, fun b h1 h2 h3 h4 => (w2 b h1 h2 h3 h4).trans (y6 b h1 h2 h3 h4)⟩
      · show ((nI i, nI k + 1), c2) = _
        rw [nI_1]
      · rw [List.length_eraseIdx_of_lt hil]; omega
      · rw [List.length_eraseIdx_of_lt hil]; omega
    · rw [if_neg hz] at y5
      rw [if_neg hz]
      refine ok_some ⟨i + 1, l1, c, ?_, by omega, y2, y3, y4, by rw [ht2]; exact y5, y6⟩
      show ((nI i + 1, nI k + 1), c) = _
      rw [nI_1, nI_1]
  · rintro _ ⟨i, l1, c, rfl, y1, y2, y3, y4, y5, y6⟩
    show Ok (if nI N ≤ nI N then _ else _) _
    rw [if_pos (Int32.le_refl _)]
    rw [Nat.sub_self, spG] at y5
    exact ok_some ⟨l1, y4, y5, y2, y6⟩
  · rintro ⟨u, c⟩ ⟨l2, w1, w2, w3, w4⟩
    have w1 : RW c r f g s cap (clR l2) := w1
    show Ok ((gI c 2 3 r).bind _) _
    rw [cw_size w1, bind_s, clR_len, pk_sub w3, w2]
    rw [w2] at w1
    exact ok_some ⟨rfl, _, w1, w4⟩
/-! the reference -/
theorem Laid_erase {μ ν : MS} {l : List (Nat × Nat)} (hl : Laid μ l) {i : Nat} (hi : i < l.length) (h14 : ν.1 14 = shf (μ.1 14) 1 i (l.length - 1)) (h15 : ν.1 15 = shf (μ.1 15) 1 i (l.length - 1)) (hn : ν.2.2.2 15 = nI (l.length - 1)) : Laid ν (l.eraseIdx i) := by
  obtain ⟨a1, a2, a3⟩ := hl
  have hle := List.length_eraseIdx_of_lt hi
  refine ⟨by rw [hle]; exact hn, by omega, fun k q hq => ?_⟩
  have hk := (List.getElem?_eq_some_iff.mp hq).1
  rw [hle] at hk
  rw [List.getElem?_eraseIdx] at hq
  rw [h14, h15]
  by_cases h1 : k < i
  · rw [if_pos h1] at hq
    rw [shf_o (by omega), shf_o (by omega)]
    exact a3 k q hq
  · rw [if_neg h1] at hq
    rw [shf_i (by omega) hk, shf_i (by omega) hk]
    exact a3 (k + 1) q hq
theorem sr_but (c : Ce) (m : Nat) {μ : MS} {M : Mv} (hM : Mac (μ.1 0) M) {l : List (Nat × Nat)} (hl : Laid μ l) {i : Nat} (hi : i < l.length) : it (fun (zs7 : Int64 × Int32) => (gI (wr c m μ) 9 31 m).bind fun zx26 => if zx26 ≤ zs7.2 then some (Sum.inr zs7.1) else if zs7.2 = nI i then some (Sum.inl (zs7.1, (zs7.2 + (1 : Int32)))) else (rcv (wr c m μ) 9 m).bind fun zz27 => (m_X12_barredBy (wr c m μ) m zs7.2).bind fun zx28 => some (Sum.inl ((zs7.1 ||| zx28), (zs7.2 + (1 : Int32))))) FU ((0 : Int64), (0 : Int32)) = some (barL M.1 (l.eraseIdx i)) := by
  have h5 := hl.2.1
  have b0 : barL M.1 [] = 0 := by
    refine B_ext0 fun k hk => ?_
    unfold barL
    rw [B_mkS _ hk]
    rfl
  refine ok_eq (ok_cnt 0 l.length (fun j s => s = (barL M.1 ((l.take j).eraseIdx i), nI j)) (by omega) (by omega) ?_ ?_ ?_)
  · rw [List.take_zero]
    show _ = (barL M.1 [], _)
    rw [b0]
    rfl
  · rintro j _ hj rfl
    have hat : l[j]? = some l[j] := List.getElem?_eq_getElem hj
    generalize l[j] = u at hat
    have hlt : (l.take j).length = j := by rw [List.length_take]; omega
    show Ok ((gI (wr c m μ) 9 31 m).bind _) _
    simp only [wr_g31, bind_s, hl.1, wr_rcv, sr_barredBy c m hM hl hat]
    rw [if_le (by omega) (by omega), if_neg (by omega), if_eq (by omega) (by omega), take_s hat]
    by_cases e : j = i
    · subst e
      rw [if_pos rfl]
      refine ok_some ?_
      rw [nI_1, List.eraseIdx_append_of_length_le (by omega), hlt, Nat.sub_self, List.eraseIdx_of_length_le (by omega)]
      show _ = (barL M.1 (l.take j ++ []), _)
      rw [List.append_nil]
    · rw [if_neg e]
      refine ok_some ?_
      show (barL M.1 ((l.take j).eraseIdx i) ||| cubS M.1 u.1 u.2, nI j + 1) = _
      rw [nI_1]
      have eu : ∀ X : List (Nat × Nat), barL M.1 X ||| cubS M.1 u.1 u.2 = barL M.1 (X ++ [u]) := by
        intro X
        refine B_ext fun k hk => ?_
        unfold barL
        rw [B_or, B_mkS _ hk, B_mkS _ hk, List.any_append]
        simp
      rw [eu]
      by_cases hlp : i < j
      · rw [List.eraseIdx_append_of_lt_length (by omega)]
      · rw [List.eraseIdx_append_of_length_le (by omega), List.eraseIdx_of_length_le (l := [u]) (by show 1 ≤ i - (l.take j).length; omega), List.eraseIdx_of_length_le (by omega)]
  · rintro _ rfl
    show Ok ((gI (wr c m μ) 9 31 m).bind _) _
    simp only [wr_g31, bind_s, hl.1]
    rw [if_pos (Int32.le_refl _), List.take_length]
    exact ok_some rfl
theorem sr_shift (c : Ce) (m : Nat) {μ : MS} {l : List (Nat × Nat)} (hl : Laid μ l) {i : Nat} (hi : i < l.length) : it (fun (zs12 : Int32 × Ce) => (gI zs12.2 9 31 m).bind fun zx17 => if (zx17 - (1 : Int32)) ≤ zs12.1 then some (Sum.inr ((), zs12.2)) else (gA zs12.2 9 29 m).bind fun zx18 => (gA zs12.2 9 29 m).bind fun zx19 => (aI zs12.2 zx19 (zs12.1 + (1 : Int32))).bind fun zx20 => (sI zs12.2 zx18 zs12.1 zx20).bind fun zc21 => (gA zc21 9 30 m).bind fun zx22 => (gA zc21 9 30 m).bind fun zx23 => (aI zc21 zx23 (zs12.1 + (1 : Int32))).bind fun zx24 => (sI zc21 zx22 zs12.1 zx24).bind fun zc25 => some (Sum.inl ((zs12.1 + (1 : Int32)), zc25))) FU (nI i, wr c m μ) = some ((), wr c m (muI (muI μ 14 (shf (μ.1 14) 1 i (l.length - 1))) 15 (shf (μ.1 15) 1 i (l.length - 1)))) := by
  have h5 := hl.2.1
  have e1 : nI l.length - 1 = nI (l.length - 1) := by rw [nl_1, pk_sub (by omega)]
  refine ok_eq (ok_cnt i (l.length - 1) (fun k z => i ≤ k ∧ z = (nI k, wr c m (muI (muI μ 14 (shf (μ.1 14) 1 i k)) 15 (shf (μ.1 15) 1 i k)))) (by omega) (by omega) ⟨Nat.le_refl _, ?_⟩ ?_ ?_)
  · rw [shf_0, shf_0, muI_s, muI_s]
  · rintro k _ hk ⟨hik, rfl⟩
    generalize hν : muI (muI μ 14 (shf (μ.1 14) 1 i k)) 15 (shf (μ.1 15) 1 i k) = ν
    have n15 : ν.2.2.2 15 = nI l.length := by rw [← hν]; exact hl.1
    have v14 : ν.1 14 = shf (μ.1 14) 1 i k := by rw [← hν, muI_n _ _ (by omega), muI_e]
    have v15 : ν.1 15 = shf (μ.1 15) 1 i k := by rw [← hν, muI_e]
    have hnk : ¬ nI (l.length - 1) ≤ nI k := fun z => by have := (nI_leI (by omega) (by omega)).mp z; omega
    have r15 : (muI ν 14 (va_up (ν.1 14) k (ν.1 14 (k + 1)))).1 15 = ν.1 15 := muI_n _ _ (by omega)
    show Ok ((gI (wr c m ν) 9 31 m).bind _) _
    simp only [wr_g31, bind_s, n15, e1, if_neg hnk, wr_g29, nI_1, wr_a14 c m ν (show k + 1 < 5000 by omega), wr_u14 c m ν (show k < 5000 by omega), wr_g30, wr_a15 c m _ (show k + 1 < 5000 by omega), wr_u15 c m _ (show k < 5000 by omega), r15]
    refine ok_some ⟨by omega, ?_⟩
    rw [v14, v15, shf_s hik (by omega), shf_s hik (by omega)]
    congr 2
    rw [← hν]
    unfold muI
    congr 1
    funext q
    unfold va_up
    by_cases e15 : q = 15 <;> by_cases e14 : q = 14 <;> simp [e15, e14]
  · rintro _ ⟨hik, rfl⟩
    generalize hν : muI (muI μ 14 (shf (μ.1 14) 1 i (l.length - 1))) 15 (shf (μ.1 15) 1 i (l.length - 1)) = ν
    have n15 : ν.2.2.2 15 = nI l.length := by rw [← hν]; exact hl.1
    have hnk : nI (l.length - 1) ≤ nI (l.length - 1) := Int32.le_refl _
    show Ok ((gI (wr c m ν) 9 31 m).bind _) _
    simp only [wr_g31, bind_s, n15, e1, if_pos hnk]
    exact ok_some rfl
theorem sr_spareLoop (c : Ce) (m : Nat) {μ : MS} {V : Sv} (hr : RV μ V) (hw : WM V.1) (h8 : V.2.1 8 < V.1.2.2.2.1) {l : List (Nat × Nat)} (hl : Laid μ l) : Ok (it (fun (zs3 : (Int32 × Int32) × Ce) => (gI zs3.2 9 31 m).bind fun zx6 => if zx6 ≤ zs3.1.2 then some (Sum.inr (zs3.1.1, zs3.2)) else (it (fun (zs7 : Int64 × Int32) => (gI zs3.2 9 31 m).bind fun zx26 => if zx26 ≤ zs7.2 then some (Sum.inr zs7.1) else if zs7.2 = zs3.1.2 then some (Sum.inl (zs7.1, (zs7.2 + (1 : Int32)))) else (rcv zs3.2 9 m).bind fun zz27 => (m_X12_barredBy zs3.2 m zs7.2).bind fun zx28 => some (Sum.inl ((zs7.1 ||| zx28), (zs7.2 + (1 : Int32))))) FU ((0 : Int64), (0 : Int32))).bind fun (zo8 : Int64) => (rcv zs3.2 9 m).bind fun zz10 => (m_X12_judge zs3.2 m zo8).bind fun zx11 => if zx11 = 0 then (it (fun (zs12 : Int32 × Ce) => (gI zs12.2 9 31 m).bind fun zx17 => if (zx17 - (1 : Int32)) ≤ zs12.1 then some (Sum.inr ((), zs12.2)) else (gA zs12.2 9 29 m).bind fun zx18 => (gA zs12.2 9 29 m).bind fun zx19 => (aI zs12.2 zx19 (zs12.1 + (1 : Int32))).bind fun zx20 => (sI zs12.2 zx18 zs12.1 zx20).bind fun zc21 => (gA zc21 9 30 m).bind fun zx22 => (gA zc21 9 30 m).bind fun zx23 => (aI zc21 zx23 (zs12.1 + (1 : Int32))).bind fun zx24 => (sI zc21 zx22 zs12.1 zx24).bind fun zc25 => some (Sum.inl ((zs12.1 + (1 : Int32)), zc25))) FU (zs3.1.2, zs3.2)).bind fun (zo13 : Unit × Ce) => (gI zo13.2 9 31 m).bind fun zx15 => (pV zo13.2 9 31 m (.int (zx15 - (1 : Int32)))).bind fun zc16 => some (Sum.inl (((zs3.1.1 + (1 : Int32)), zs3.1.2), zc16)) else some (Sum.inl ((zs3.1.1, (zs3.1.2 + (1 : Int32))), zs3.2))) FU (((0 : Int32), (0 : Int32)), wr c m μ)) (fun o => ∃ ν, o = (nI (l.length - (spG V.1 (V.1.2.2.2.2 (V.2.1 8)) l.length 0 l).length), wr c m ν) ∧ KJ μ ν) := by
  have h5 := hl.2.1
  generalize hN : l.length = N at h5
  refine ok_cnt 0 N (fun k z => ∃ i l1 ν, z = ((nI (k - i), nI i), wr c m ν) ∧ i ≤ k ∧ i + (N - k) = l1.length ∧ l1.length ≤ N ∧ Laid ν l1 ∧ spG V.1 (V.1.2.2.2.2 (V.2.1 8)) (N - k) i l1 = spG V.1 (V.1.2.2.2.2 (V.2.1 8)) N 0 l ∧ KJ μ ν) (by omega) (Nat.zero_le _) ⟨0, l, μ, rfl, Nat.le_refl _, by omega, by omega, hl, rfl, KJ_refl μ⟩ ?_ ?_
  · rintro k _ hk ⟨i, l1, ν, rfl, y0, y1, y2, y3, y5, y6⟩
    obtain ⟨t, ht⟩ : ∃ t, N - k = t + 1 := ⟨N - k - 1, by omega⟩
    have ht2 : N - (k + 1) = t := by omega
    have hil : i < l1.length := by omega
    have hrν := KJ_RV y6 hr
    have hj := jdg_lt V.1 (V.1.2.2.2.2 (V.2.1 8)) (barL V.1.1 (l1.eraseIdx i))
    rw [ht, spG] at y5
    show Ok ((gI (wr c m ν) 9 31 m).bind _) _
    rw [wr_g31, bind_s, y3.1]
    show Ok (if nI l1.length ≤ nI i then _ else (it _ FU ((0 : Int64), (0 : Int32))).bind _) _
    rw [if_le (by omega) (by omega), if_neg (by omega)]
    have b1 := sr_but c m hrν.1 y3 hil
    rw [wr_g31, y3.1] at b1
    show Ok ((it (fun (zs7 : Int64 × Int32) => (some (nI l1.length)).bind fun zx26 => if zx26 ≤ zs7.2 then some (Sum.inr zs7.1) else if zs7.2 = nI i then some (Sum.inl (zs7.1, (zs7.2 + (1 : Int32)))) else (rcv (wr c m ν) 9 m).bind fun zz27 => (m_X12_barredBy (wr c m ν) m zs7.2).bind fun zx28 => some (Sum.inl ((zs7.1 ||| zx28), (zs7.2 + (1 : Int32))))) FU ((0 : Int64), (0 : Int32))).bind _) _
    rw [b1, bind_s]
    show Ok ((rcv (wr c m ν) 9 m).bind _) _
    rw [wr_rcv, bind_s]
    show Ok ((m_X12_judge (wr c m ν) m _).bind _) _
    rw [sr_judge c m hrν hw h8, bind_s, if_z (by omega)]
    by_cases hz : jdg V.1 (V.1.2.2.2.2 (V.2.1 8)) (barL V.1.1 (l1.eraseIdx i)) = 0
    · rw [if_pos hz] at y5
      rw [if_pos hz]
      have s1 := sr_shift c m y3 hil
      show Ok ((it _ FU (nI i, wr c m ν)).bind _) _
      rw [s1, bind_s]
      generalize hν2 : muI (muI ν 14 (shf (ν.1 14) 1 i (l1.length - 1))) 15 (shf (ν.1 15) 1 i (l1.length - 1)) = ν2
      have n15 : ν2.2.2.2 15 = nI l1.length := by rw [← hν2]; exact y3.1
      have e1 : nI l1.length - 1 = nI (l1.length - 1) := by rw [nl_1, pk_sub (by omega)]
      show Ok ((gI (wr c m ν2) 9 31 m).bind _) _
      rw [wr_g31, bind_s, n15, e1]
      show Ok ((pV (wr c m ν2) 9 31 m _).bind _) _
      rw [wr_n31, bind_s]
      have L3 : Laid (muN ν2 15 (nI (l1.length - 1))) (l1.eraseIdx i) := by
        refine Laid_erase y3 hil ?_ ?_ (show va_up ν2.2.2.2 15 (nI (l1.length - 1)) 15 = _ from up_e _ _ _)
        · show ν2.1 14 = _
          rw [← hν2, muI_n _ _ (by omega), muI_e]
        · show ν2.1 15 = _
          rw [← hν2, muI_e]
      have K3 : KJ ν (muN ν2 15 (nI (l1.length - 1))) := by
        refine ⟨fun q h14 h15 => ?_, by rw [← hν2]; rfl, by rw [← hν2]; rfl, fun q hq => ?_⟩
        · show ν2.1 q = _
          rw [← hν2, muI_n _ _ h15, muI_n _ _ h14]
        · show va_up ν2.2.2.2 15 _ q = _
          rw [up_n _ _ _ hq, ← hν2]
          rfl
      refine ok_some ⟨i, l1.eraseIdx i, _, ?_, by omega, ?_, ?_, L3, by rw [ht2]; exact y5, KJ_trans y6 K3⟩
      · show ((nI (k - i) + 1, nI i), _) = _
        have ek : k + 1 - i = k - i + 1 := by omega
        rw [nI_1, ek]
      · rw [List.length_eraseIdx_of_lt hil]; omega
      · rw [List.length_eraseIdx_of_lt hil]; omega
    · rw [if_neg hz] at y5
      rw [if_neg hz]
      refine ok_some ⟨i + 1, l1, ν, ?_, by omega, by omega, y2, y3, by rw [ht2]; exact y5, y6⟩
      show ((nI (k - i), nI i + 1), wr c m ν) = _
      have ek : k + 1 - (i + 1) = k - i := by omega
      rw [nI_1, ek]
  · rintro _ ⟨i, l1, ν, rfl, y0, y1, y2, y3, y5, y6⟩
    have hii : i = l1.length := by omega
    show Ok ((gI (wr c m ν) 9 31 m).bind _) _
    rw [wr_g31, bind_s, y3.1]
    show Ok (if nI l1.length ≤ nI i then _ else _) _
    rw [if_pos (by rw [hii]; exact Int32.le_refl _)]
    rw [Nat.sub_self, spG] at y5
    refine ok_some ⟨ν, ?_, y6⟩
    show (nI (N - i), wr c m ν) = _
    rw [← y5, hii]
