/-! ROWS TAKEN OVER, one cube after another -/
def RowEv (ce : Ce) (nx r f g s cap : Nat) (l : List Cu) (d : Ce) (K S : Nat) : Prop := ∃ f2 g2 s2 cap2, RW d r f2 g2 s2 cap2 l ∧ D4 r f2 g2 s2 ∧ (f2 = f ∨ (nx ≤ f2 ∧ f2 < nx + K)) ∧ (g2 = g ∨ (nx ≤ g2 ∧ g2 < nx + K)) ∧ (s2 = s ∨ (nx ≤ s2 ∧ s2 < nx + K)) ∧ 6 * cap + K ≤ 6 * cap2 ∧ 6 * cap + S ≤ 6 * cap2 ∧ ∀ b, b ≠ r → b ≠ f → b ≠ g → b ≠ s → b < nx → d b = ce b
theorem clR_take {lr : List Cu} {st j : Nat} {q : Cu} (hq : lr[j]? = some q) (hst : st ≤ j) : clR (((lr.take (j + 1)).drop st).map Prod.snd) = clR (((lr.take j).drop st).map Prod.snd) ++ [(0, q.2.1, q.2.2)] := by
  have hj := (List.getElem?_eq_some_iff.mp hq).1
  rw [take_s hq, List.drop_append_of_le_length (by rw [List.length_take]; omega), List.map_append]
  exact clR_snoc _ _
theorem cw_takeFrom {ce : Ce} {nx r f g s cap : Nat} {l : List Cu} (h : RW ce r f g s cap l) (hx : r < nx ∧ f < nx ∧ g < nx ∧ s < nx) (hd : D4 r f g s) {r' f' g' s' cap' : Nat} {lr : List Cu} (h' : RW ce r' f' g' s' cap' lr) (hx' : r' < nx ∧ f' < nx ∧ g' < nx ∧ s' < nx) (hr : ∀ b, (b = r' ∨ b = f' ∨ b = g' ∨ b = s') → b ≠ r ∧ b ≠ f ∧ b ≠ g ∧ b ≠ s) {st : Nat} (hst : st ≤ lr.length) (hlen : lr.length < 4800) : Ok (m_X2_takeFrom nx ce r (some r') (nI st)) (fun z => RowEv ce nx r f g s cap (clR ((lr.drop st).map Prod.snd)) z.2.1 z.2.2.1 z.2.2.2) := by
  unfold m_X2_takeFrom
  refine ok_call (cw_zero h hd) ?_
  rintro c0 ⟨z1, z2⟩
  have o1 := hr r' (Or.inl rfl)
  have o2 := hr f' (Or.inr (Or.inl rfl))
  have o3 := hr g' (Or.inr (Or.inr (Or.inl rfl)))
  have o4 := hr s' (Or.inr (Or.inr (Or.inr rfl)))
  have hRB : RB lr := by
    obtain ⟨F, C, S, q1, q2, q3, q4, q5, q6, q7, q8⟩ := h'
    exact q7
  have oth : ∀ {d : Ce}, (∀ b, b ≠ r → b ≠ f → b ≠ g → b ≠ s → b < nx → d b = ce b) → RW d r' f' g' s' cap' lr := fun hd2 => RW_congr (hd2 r' o1.1 o1.2.1 o1.2.2.1 o1.2.2.2 hx'.1) (hd2 f' o2.1 o2.2.1 o2.2.2.1 o2.2.2.2 hx'.2.1) (hd2 g' o3.1 o3.2.1 o3.2.2.1 o3.2.2.2 hx'.2.2.1) (hd2 s' o4.1 o4.2.1 o4.2.2.1 o4.2.2.2 hx'.2.2.2) h'
  clear o1 o2 o3 o4 hr
  show Ok (adcB (itA _ FU nx c0 (nI st)) _) _
  refine ok_adcB (ok_mono (ok_cntA (Q := fun _ d K S => RowEv ce nx r f g s cap (clR ((lr.drop st).map Prod.snd)) d K S) st lr.length (fun j nxj c t K S => st ≤ j ∧ t = nI j ∧ nxj = nx + K ∧ RowEv ce nx r f g s cap (clR (((lr.take j).drop st).map Prod.snd)) c K S) (by omega) hst ⟨Nat.le_refl _, rfl, rfl, f, g, s, cap, ?_, hd, Or.inl rfl, Or.inl rfl, Or.inl rfl, Nat.le_refl _, Nat.le_refl _, fun b h1 _ _ _ _ => z2 b h1⟩ ?_ ?_) ?_)
  · have : (lr.take st).drop st = [] := List.drop_eq_nil_of_le (by rw [List.length_take]; omega)
    rw [this]
    exact z1
  · rintro j nxj c t K S hj ⟨y0, rfl, rfl, f2, g2, s2, cap2, y1, y2, y3, y4, y5, y6, y7, y8⟩
    have hat : lr[j]? = some lr[j] := List.getElem?_eq_getElem hj
    generalize lr[j] = u at hat
    have hub := hRB u (List.mem_of_getElem? hat)
    have ho := oth y8
    have hl9 : (clR (((lr.take j).drop st).map Prod.snd)).length < 4900 := by
      unfold clR
      rw [List.length_map, List.length_map, List.length_drop, List.length_take]
      omega
    show Ok ((gI c 2 3 r').bind _) _
    rw [cw_size ho, bind_s, if_le (by omega) (by omega), if_neg (by omega), cw_rcv ho, bind_s, cw_cubeAt ho hat, bind_s, cw_rcv y1, bind_s]
    refine ok_adcB (ok_mono (cw_append y1 (nx := nx + K) ⟨by omega, by omega, by omega, by omega⟩ y2 hl9 hub.2.1 hub.2.2) ?_)
    rintro ⟨u0, d, K2, S2⟩ ⟨f3, g3, s3, cap3, w1, w2, w3, w4⟩
    have w1 : RW d r f3 g3 s3 cap3 (clR (((lr.take j).drop st).map Prod.snd) ++ [(0, u.2.1, u.2.2)]) := w1
    have w3 : (f3 = f2 ∧ g3 = g2 ∧ s3 = s2 ∧ cap3 = cap2 ∧ K2 = 0 ∧ S2 = 0) ∨ (f3 = nx + K ∧ g3 = nx + K + 1 ∧ s3 = nx + K + 2 ∧ cap3 = 2 * cap2 + 8 ∧ K2 = 3 ∧ S2 = 3 * cap3) := w3
    have w4 : ∀ b, b ≠ r → b ≠ f2 → b ≠ g2 → b ≠ s2 → b < nx + K → d b = c b := w4
    refine ok_some ⟨by omega, nI_1 j, ?_, f3, g3, s3, cap3, ?_, w2, ?_, ?_, ?_, ?_, ?_, fun b h1 h2 h3 h4 h5 => ?_⟩
    · show nx + K + (0 + K2) = nx + (K + (0 + K2))
      omega
    · rw [clR_take hat y0]
      exact w1
    · show f3 = f ∨ (nx ≤ f3 ∧ f3 < nx + (K + (0 + K2)))
      clear h h' z1 y1 w1 w2 y2 hd
      rcases w3 with ⟨a1, _, _, _, a5, _⟩ | ⟨a1, _, _, _, a5, _⟩ <;> omega
    · show g3 = g ∨ (nx ≤ g3 ∧ g3 < nx + (K + (0 + K2)))
      clear h h' z1 y1 w1 w2 y2 hd
      rcases w3 with ⟨_, a1, _, _, a5, _⟩ | ⟨_, a1, _, _, a5, _⟩ <;> omega
    · show s3 = s ∨ (nx ≤ s3 ∧ s3 < nx + (K + (0 + K2)))
      clear h h' z1 y1 w1 w2 y2 hd
      rcases w3 with ⟨_, _, a1, _, a5, _⟩ | ⟨_, _, a1, _, a5, _⟩ <;> omega
    · show 6 * cap + (K + (0 + K2)) ≤ 6 * cap3
      rcases w3 with ⟨_, _, _, a1, a5, _⟩ | ⟨_, _, _, a1, a5, _⟩ <;> omega
    · show 6 * cap + (S + (0 + S2)) ≤ 6 * cap3
      rcases w3 with ⟨_, _, _, a1, _, a5⟩ | ⟨_, _, _, a1, _, a5⟩ <;> omega
    · show d b = ce b
      rw [w4 b h1 ?_ ?_ ?_ (by omega), y8 b h1 h2 h3 h4 h5]
      · rcases y3 with e | e
        · rw [e]; exact h2
        · omega
      · rcases y4 with e | e
        · rw [e]; exact h3
        · omega
      · rcases y5 with e | e
        · rw [e]; exact h4
        · omega
  · rintro nxj c t K S ⟨y0, rfl, rfl, y⟩
    obtain ⟨f2, g2, s2, cap2, y1, y2, y3, y4, y5, y6, y7, y8⟩ := y
    have ho := oth y8
    show Ok ((gI c 2 3 r').bind _) _
    rw [cw_size ho, bind_s, if_pos (Int32.le_refl _)]
    refine ok_some ?_
    show RowEv ce nx r f g s cap (clR ((lr.drop st).map Prod.snd)) c (K + 0) (S + 0)
    rw [List.take_length] at y1
    exact ⟨f2, g2, s2, cap2, y1, y2, y3, y4, y5, y6, y7, y8⟩
  · rintro ⟨u, d, K, S⟩ hq
    refine ok_some ?_
    show RowEv ce nx r f g s cap (clR ((lr.drop st).map Prod.snd)) d (0 + K) (0 + S)
    rw [Nat.zero_add, Nat.zero_add]
    exact hq
theorem ss_clE {ce : Ce} {nx : Nat} {A : Nat → Nat} {κ : Nat × Nat × Nat} {M : Mv} {n : Nat → Nat} {fr : List Cu} {ob : List Ln} {fl : Nat → UInt32} {cl : List (Nat × Nat)} {cl2 : List (Nat × Nat)} (h : SS ce nx A κ (M, n, fr, ob, fl, cl)) {d : Ce} {K S : Nat} (ht : RowEv ce nx (A 9) (A 10) (A 11) (A 12) κ.2.2 (clR cl2) d K S) : ∃ A2 κ2, SS d (nx + K) A2 κ2 (M, n, fr, ob, fl, cl2) ∧ Ev ce nx A κ d K S A2 κ2 := by
  obtain ⟨mp, at1, h1, h2, lc, a1, a2, a3, a4, a5, a6, a7, a8⟩ := h
  obtain ⟨f2, g2, s2, cap2, t1, t2, t3a, t3b, t3c, t5, t6, t4⟩ := ht
  have b0 : ∀ i, i < 13 → i ≠ 9 → i ≠ 10 → i ≠ 11 → i ≠ 12 → d (A i) = ce (A i) := fun i hi j1 j2 j3 j4 => t4 _ (a8 i hi 9 (by omega) j1) (a8 i hi 10 (by omega) j2) (a8 i hi 11 (by omega) j3) (a8 i hi 12 (by omega) j4) (a7 i hi)
  have l2 := a7 10 (by omega)
  have l3 := a7 11 (by omega)
  have l4 := a7 12 (by omega)
  generalize hA2 : (fun i => if i = 10 then f2 else if i = 11 then g2 else if i = 12 then s2 else A i) = A2
  have e2 : A2 10 = f2 := by rw [← hA2]; rfl
  have e3 : A2 11 = g2 := by rw [← hA2]; rfl
  have e4 : A2 12 = s2 := by rw [← hA2]; rfl
  have eo : ∀ i, i ≠ 10 → i ≠ 11 → i ≠ 12 → A2 i = A i := fun i j1 j2 j3 => by
    rw [← hA2]
    show (if i = 10 then f2 else if i = 11 then g2 else if i = 12 then s2 else A i) = A i
    rw [if_neg j1, if_neg j2, if_neg j3]
  have hval : ∀ i, i < 13 → (i = 10 ∧ A2 i = f2) ∨ (i = 11 ∧ A2 i = g2) ∨ (i = 12 ∧ A2 i = s2) ∨ (i ≠ 10 ∧ i ≠ 11 ∧ i ≠ 12 ∧ A2 i = A i ∧ A i < nx) := by
    intro i hi
    have := a7 i hi
    by_cases j2 : i = 10
    · exact Or.inl ⟨j2, by rw [j2, e2]⟩
    · by_cases j3 : i = 11
      · exact Or.inr (Or.inl ⟨j3, by rw [j3, e3]⟩)
      · by_cases j4 : i = 12
        · exact Or.inr (Or.inr (Or.inl ⟨j4, by rw [j4, e4]⟩))
        · exact Or.inr (Or.inr (Or.inr ⟨j2, j3, j4, eo i j2 j3 j4, this⟩))
  have hev : ∀ i, i < 13 → A2 i = A i ∨ nx ≤ A2 i := by
    intro i hi
    rcases hval i hi with ⟨q1, q2⟩ | ⟨q1, q2⟩ | ⟨q1, q2⟩ | q
    · rw [q2, q1]; omega
    · rw [q2, q1]; omega
    · rw [q2, q1]; omega
    · exact Or.inl q.2.2.2.1
  have hfr : ∀ b, b < nx → Off A b → d b = ce b := fun b hb ho => t4 b (ho 9 (by omega)) (ho 10 (by omega)) (ho 11 (by omega)) (ho 12 (by omega)) hb
  have hb : ∀ i, i < 13 → A2 i < nx + K := by
    intro i hi
    rcases hval i hi with ⟨q1, q2⟩ | ⟨q1, q2⟩ | ⟨q1, q2⟩ | q
    · omega
    · omega
    · omega
    · omega
  refine ⟨A2, (κ.1, κ.2.1, cap2), ⟨mp, at1, ?_, h2, lc, ?_, ?_, a3, ?_, ?_, MA_congr (fun b hb => hfr b hb.1 hb.2) (fun b hb => ⟨by omega, Off_ev hev hb.1 hb.2⟩) a6, hb, ?_⟩, ⟨eo 0 (by omega) (by omega) (by omega), hfr, hev, by unfold Phi; show 6 * κ.1 + 2 * κ.2.1 + 6 * κ.2.2 + K ≤ 6 * κ.1 + 2 * κ.2.1 + 6 * cap2; omega, by unfold Phi; show 6 * κ.1 + 2 * κ.2.1 + 6 * κ.2.2 + S ≤ 6 * κ.1 + 2 * κ.2.1 + 6 * cap2; omega, by unfold gA; rw [b0 0 (by omega) (by omega) (by omega) (by omega) (by omega)]⟩⟩
  · have e : Sob A2 mp n at1 = Sob A mp n at1 := by
      unfold Sob
      rw [eo 1 (by omega) (by omega) (by omega), eo 5 (by omega) (by omega) (by omega), eo 7 (by omega) (by omega) (by omega), eo 9 (by omega) (by omega) (by omega)]
    show d (A2 0) = some (.inr (6, Sob A2 mp n at1))
    rw [e, eo 0 (by omega) (by omega) (by omega), b0 0 (by omega) (by omega) (by omega) (by omega) (by omega)]
    exact h1
  · rw [eo 1 (by omega) (by omega) (by omega), eo 2 (by omega) (by omega) (by omega), eo 3 (by omega) (by omega) (by omega), eo 4 (by omega) (by omega) (by omega)]
    exact RW_congr (b0 1 (by omega) (by omega) (by omega) (by omega) (by omega)) (b0 2 (by omega) (by omega) (by omega) (by omega) (by omega)) (b0 3 (by omega) (by omega) (by omega) (by omega) (by omega)) (b0 4 (by omega) (by omega) (by omega) (by omega) (by omega)) a1
  · rw [eo 5 (by omega) (by omega) (by omega), eo 6 (by omega) (by omega) (by omega)]
    exact OB_congr (b0 5 (by omega) (by omega) (by omega) (by omega) (by omega)) (b0 6 (by omega) (by omega) (by omega) (by omega) (by omega)) a2
  · rw [eo 7 (by omega) (by omega) (by omega), eo 8 (by omega) (by omega) (by omega)]
    exact AC_congr (b0 7 (by omega) (by omega) (by omega) (by omega) (by omega)) (b0 8 (by omega) (by omega) (by omega) (by omega) (by omega)) a4
  · show RW d (A2 9) (A2 10) (A2 11) (A2 12) cap2 _
    rw [eo 9 (by omega) (by omega) (by omega), e2, e3, e4]
    exact t1
  · have hD := t2
    unfold D4 at hD
    have w9 := a7 9 (by omega)
    intro i hi j hj hij
    have v3 := a8 i hi j hj hij
    rcases hval i hi with ⟨rfl, q⟩ | ⟨rfl, q⟩ | ⟨rfl, q⟩ | ⟨i1, i2, i3, q, qi⟩
    · rcases hval j hj with ⟨rfl, p⟩ | ⟨rfl, p⟩ | ⟨rfl, p⟩ | ⟨j1, j2, j3, p, pj⟩
      · exact absurd rfl hij
      · rw [q, p]; exact hD.2.2.2.1
      · rw [q, p]; exact hD.2.2.2.2.1
      · rw [q, p]; rcases t3a with e | e
        · rw [e]; exact v3
        · omega
    · rcases hval j hj with ⟨rfl, p⟩ | ⟨rfl, p⟩ | ⟨rfl, p⟩ | ⟨j1, j2, j3, p, pj⟩
      · rw [q, p]; exact fun e => hD.2.2.2.1 e.symm
      · exact absurd rfl hij
      · rw [q, p]; exact hD.2.2.2.2.2
      · rw [q, p]; rcases t3b with e | e
        · rw [e]; exact v3
        · omega
    · rcases hval j hj with ⟨rfl, p⟩ | ⟨rfl, p⟩ | ⟨rfl, p⟩ | ⟨j1, j2, j3, p, pj⟩
      · rw [q, p]; exact fun e => hD.2.2.2.2.1 e.symm
      · rw [q, p]; exact fun e => hD.2.2.2.2.2 e.symm
      · exact absurd rfl hij
      · rw [q, p]; rcases t3c with e | e
        · rw [e]; exact v3
        · omega
    · rcases hval j hj with ⟨rfl, p⟩ | ⟨rfl, p⟩ | ⟨rfl, p⟩ | ⟨j1, j2, j3, p, pj⟩
      · rw [q, p]; rcases t3a with e | e
        · rw [e]; exact v3
        · omega
      · rw [q, p]; rcases t3b with e | e
        · rw [e]; exact v3
        · omega
      · rw [q, p]; rcases t3c with e | e
        · rw [e]; exact v3
        · omega
      · rw [q, p]; exact v3
