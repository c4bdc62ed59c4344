/-! THE CLASS: a cube put last, rows copied -/
def pLp (fr mask bits : Nat) (q : Cu) : Bool := !(decide (q.1 ≤ fr) && lies q.2.1 q.2.2 mask bits)
/-- a cube is the last of a frame, those that lie in it are out -/
def pL (l : List Cu) (fr mask bits : Nat) : List Cu := (l.filter (pLp fr mask bits)).insertIdx (stR (l.filter (pLp fr mask bits)) (fr + 1)) (fr, mask, bits)
theorem RB_filter {l : List Cu} (h : RB l) (p : Cu → Bool) : RB (l.filter p) := fun q hq => h q (List.mem_filter.mp hq).1
theorem cw_putLast {ce : Ce} {nx r f g s cap : Nat} {l : List Cu} (h : RW ce r f g s cap l) (hx : r < nx ∧ f < nx ∧ g < nx ∧ s < nx) (hd : D4 r f g s) (hl : l.length < 4900) {fr mask bits : Nat} (hf : fr < 127) (hm : mask < 64) (hb : bits < 64) : Ok (m_X2_putLast nx ce r (nI fr) (nI (mask * 64 + bits))) (fun z => RowTo ce nx r f g s cap (pL l fr mask bits) z.2.1 z.2.2.1 z.2.2.2) := by
  obtain ⟨F, C, S, h1, h2, h3, h4, h5, h6, h7, h8⟩ := h
  unfold m_X2_putLast pL
  generalize hp : pLp fr mask bits = p
  have hpe : ∀ q, p q = !(decide (q.1 ≤ fr) && lies q.2.1 q.2.2 mask bits) := fun q => by rw [← hp]; rfl
  refine ok_call (P := fun o => ∃ F2 C2 S2, o = (nI (l.filter p).length, cr ce r f g s cap F2 C2 S2 l.length) ∧ RWc F2 C2 S2 (l.filter p)) (ok_cnt 0 l.length (fun i st => ∃ F2 C2 S2, st = ((nI ((l.take i).filter p).length, nI i), cr ce r f g s cap F2 C2 S2 l.length) ∧ RWc F2 C2 S2 ((l.take i).filter p) ∧ ∀ j, i ≤ j → F2 j = F j ∧ C2 j = C j ∧ S2 j = S j) (by omega) (by omega) ⟨F, C, S, ?_, fun i q hq => ?_, fun _ _ => ⟨rfl, rfl, rfl⟩⟩ ?_ ?_) ?_
  · rw [cr_self h1 h2 h3 h4]
    rfl
  · simp at hq
  · rintro i _ hi ⟨F2, C2, S2, rfl, hR, hE⟩
    have hat : l[i]? = some l[i] := List.getElem?_eq_getElem hi
    have htk : l.take (i + 1) = l.take i ++ [l[i]] := (List.take_append_getElem hi).symm
    have hq := h7 l[i] (List.getElem_mem hi)
    have h8i := h8 i _ hat
    have hEi := hE i (Nat.le_refl _)
    have hfl : ((l.take i).filter p).length ≤ i := Nat.le_trans (List.length_filter_le _ _) (by rw [List.length_take]; omega)
    generalize l[i] = q at hat htk hq h8i
    simp only [gA_c (k := 0) (cr_r _ _ _ _ _ _ _ _ _ _) rfl, gA_c (k := 1) (cr_r _ _ _ _ _ _ _ _ _ _) rfl, gI_c (k := 3) (cr_r _ _ _ _ _ _ _ _ _ _) rfl, bind_s]
    rw [if_le (by omega) (by omega), if_neg (by omega), aI_c (cr_f ce hd cap F2 C2 S2 l.length) (by omega) (by omega), aI_c (cr_g ce hd cap F2 C2 S2 l.length) (by omega) (by omega)]
    simp only [bind_s]
    rw [hEi.1, h8i.1, hEi.2.1, h8i.2.1, cc_liesIn hq.2.1 hq.2.2 hm hb]
    simp only [bind_s]
    rw [if_lt (by omega) (by omega), if_b]
    have keep : p q = true → ∃ F3 C3 S3, sI (cr ce r f g s cap F2 C2 S2 l.length) f (nI ((l.take i).filter p).length) (nI q.1) = some (cr ce r f g s cap F3 C2 S2 l.length) ∧ sI (cr ce r f g s cap F3 C2 S2 l.length) g (nI ((l.take i).filter p).length) (nI (q.2.1 * 64 + q.2.2)) = some (cr ce r f g s cap F3 C3 S2 l.length) ∧ sL (cr ce r f g s cap F3 C3 S2 l.length) s (nI ((l.take i).filter p).length) (cubS 6 q.2.1 q.2.2) = some (cr ce r f g s cap F3 C3 S3 l.length) ∧ RWc F3 C3 S3 ((l.take (i + 1)).filter p) ∧ (∀ j, i + 1 ≤ j → F3 j = F j ∧ C3 j = C j ∧ S3 j = S j) ∧ ((l.take (i + 1)).filter p).length = ((l.take i).filter p).length + 1 := by
      intro hk
      refine ⟨va_up F2 ((l.take i).filter p).length (nI q.1), va_up C2 ((l.take i).filter p).length (nI (q.2.1 * 64 + q.2.2)), va_up S2 ((l.take i).filter p).length (cubS 6 q.2.1 q.2.2), ?_, ?_, ?_, ?_, fun j hj => ?_, ?_⟩
      · rw [sI_c (cr_f ce hd cap F2 C2 S2 l.length) (by omega) (by omega), cr_uf ce hd]
      · rw [sI_c (cr_g ce hd cap _ C2 S2 l.length) (by omega) (by omega), cr_ug ce hd]
      · rw [sL_c (cr_s ce hd cap _ _ S2 l.length) (by omega) (by omega), cr_us ce hd]
      · intro j x hx
        rw [htk, List.filter_append] at hx
        have e1 : [q].filter p = [q] := by simp [hk]
        rw [e1] at hx
        by_cases hj : j < ((l.take i).filter p).length
        · rw [List.getElem?_append_left hj] at hx
          rw [up_n _ _ _ (by omega), up_n _ _ _ (by omega), up_n _ _ _ (by omega)]
          exact hR j x hx
        · have hlt := (List.getElem?_eq_some_iff.mp hx).1
          rw [List.length_append] at hlt
          have hj2 : j = ((l.take i).filter p).length := by
            have : [q].length = 1 := rfl
            omega
          subst hj2
          rw [List.getElem?_append_right (Nat.le_refl _), Nat.sub_self] at hx
          have : q = x := by simpa using hx
          subst this
          rw [up_e, up_e, up_e]
          exact ⟨rfl, rfl, rfl⟩
      · rw [up_n _ _ _ (by omega), up_n _ _ _ (by omega), up_n _ _ _ (by omega)]
        exact hE j (by omega)
      · rw [htk, List.filter_append]
        simp [hk]
    have tail : p q = true → Ok (Sum.elim (fun wzj17 => some wzj17) (fun vzj17 => (aI (cr ce r f g s cap F2 C2 S2 l.length) f vzj17).bind fun zx20 => (sI (cr ce r f g s cap F2 C2 S2 l.length) f (nI ((l.take i).filter p).length) zx20).bind fun zc21 => (gA zc21 2 1 r).bind fun zx22 => (gA zc21 2 1 r).bind fun zx23 => (aI zc21 zx23 vzj17).bind fun zx24 => (sI zc21 zx22 (nI ((l.take i).filter p).length) zx24).bind fun zc25 => (gA zc25 2 2 r).bind fun zx26 => (gA zc25 2 2 r).bind fun zx27 => (aL zc25 zx27 vzj17).bind fun zx28 => (sL zc25 zx26 (nI ((l.take i).filter p).length) zx28).bind fun zc29 => some (Sum.inl ((nI ((l.take i).filter p).length + 1, vzj17 + 1), zc29))) (Sum.inr (nI i) : (((Int32 × Int32) × Ce) ⊕ (Int32 × Ce)) ⊕ Int32)) (fun rr => ∃ F3 C3 S3, rr = Sum.inl ((nI ((l.take (i + 1)).filter p).length, nI (i + 1)), cr ce r f g s cap F3 C3 S3 l.length) ∧ RWc F3 C3 S3 ((l.take (i + 1)).filter p) ∧ ∀ j, i + 1 ≤ j → F3 j = F j ∧ C3 j = C j ∧ S3 j = S j) := by
      intro hk
      obtain ⟨F3, C3, S3, s1, s2, s3, hR3, hE3, hln⟩ := keep hk
      show Ok ((aI (cr ce r f g s cap F2 C2 S2 l.length) f (nI i)).bind _) _
      rw [aI_c (cr_f ce hd cap F2 C2 S2 l.length) (by omega) (by omega), bind_s, hEi.1, h8i.1, s1, bind_s]
      simp only [gA_c (k := 1) (cr_r _ _ _ _ _ _ _ _ _ _) rfl, bind_s]
      rw [aI_c (cr_g ce hd cap F3 C2 S2 l.length) (by omega) (by omega), bind_s, hEi.2.1, h8i.2.1, s2, bind_s]
      simp only [gA_c (k := 2) (cr_r _ _ _ _ _ _ _ _ _ _) rfl, bind_s]
      rw [aL_c (cr_s ce hd cap F3 C3 S2 l.length) (by omega) (by omega), bind_s, hEi.2.2, h8i.2.2, s3, bind_s]
      refine ok_some ⟨F3, C3, S3, ?_, hR3, hE3⟩
      rw [nI_1, nI_1, hln]
    by_cases hfq : fr < q.1
    · rw [if_pos hfq]
      refine ok_to (a := Sum.inr (nI i)) rfl ?_
      refine ok_mono (tail (by rw [hpe]; have hnf : ¬ q.1 ≤ fr := by omega
                               simp [hnf])) ?_
      rintro _ ⟨F3, C3, S3, rfl, hR3, hE3⟩
      exact ⟨F3, C3, S3, rfl, hR3, hE3⟩
    · rw [if_neg hfq]
      cases hlb : lies q.2.1 q.2.2 mask bits with
      | false =>
        refine ok_to (a := Sum.inr (nI i)) rfl ?_
        refine ok_mono (tail (by rw [hpe, hlb]; simp)) ?_
        rintro _ ⟨F3, C3, S3, rfl, hR3, hE3⟩
        exact ⟨F3, C3, S3, rfl, hR3, hE3⟩
      | true =>
        refine ok_to (a := Sum.inl (Sum.inl ((nI ((l.take i).filter p).length, nI i + 1), cr ce r f g s cap F2 C2 S2 l.length))) rfl ?_
        have hk : p q = false := by
          rw [hpe, hlb]
          have : q.1 ≤ fr := by omega
          simp [this]
        have e2 : (l.take (i + 1)).filter p = (l.take i).filter p := by
          rw [htk, List.filter_append]
          simp [hk]
        refine ok_some ⟨F2, C2, S2, ?_, ?_, fun j hj => hE j (by omega)⟩
        · show ((_, nI i + 1), _) = ((_, nI (i + 1)), _)
          rw [nI_1, e2]
        · rw [e2]
          exact hR
  · rintro _ ⟨F2, C2, S2, rfl, hR, hE⟩
    rw [List.take_length] at hR ⊢
    simp only [gI_c (k := 3) (cr_r _ _ _ _ _ _ _ _ _ _) rfl, bind_s]
    rw [if_le (by omega) (by omega), if_pos (Nat.le_refl _)]
    exact ok_some ⟨F2, C2, S2, rfl, hR⟩
  · rintro _ ⟨F2, C2, S2, rfl, hR⟩
    have hfl : (l.filter p).length ≤ l.length := List.length_filter_le _ _
    rw [pV_c (cr_r _ _ _ _ _ _ _ _ _ _) (show 3 < 4 by omega), bind_s]
    have es : List.set [Value.ref f, .ref g, .ref s, .int (nI l.length)] 3 (.int (nI (l.filter p).length)) = [.ref f, .ref g, .ref s, .int (nI (l.filter p).length)] := rfl
    rw [es, cr_ur]
    have hRW : RW (cr ce r f g s cap F2 C2 S2 (l.filter p).length) r f g s cap (l.filter p) := ⟨F2, C2, S2, cr_r _ _ _ _ _ _ _ _ _ _, cr_f _ hd _ _ _ _ _, cr_g _ hd _ _ _ _ _, cr_s _ hd _ _ _ _ _, by omega, h6, RB_filter h7 p, hR⟩
    rw [cw_rcv hRW]
    simp only [bind_s]
    rw [nI_1, cw_startOf hRW (by omega), bind_s]
    refine ok_adcB (ok_mono (cw_insert hRW hx hd (by omega) (stR_le _ _) (q := (fr, mask, bits)) ⟨by show fr < 128; omega, hm, hb⟩) ?_)
    rintro ⟨u, d, K, S0⟩ ⟨f2, g2, s2, cap2, z1, z2, z3, z4⟩
    refine ok_some ⟨f2, g2, s2, cap2, z1, z2, ?_, fun b hb1 hb2 hb3 hb4 hbx => ?_⟩
    · have z3 : (f2 = f ∧ g2 = g ∧ s2 = s ∧ cap2 = cap ∧ K = 0 ∧ S0 = 0) ∨ (f2 = nx ∧ g2 = nx + 1 ∧ s2 = nx + 2 ∧ cap2 = 2 * cap + 8 ∧ K = 3 ∧ S0 = 3 * cap2) := z3
      show (_ ∧ _ ∧ _ ∧ _ ∧ 0 + K = 0 ∧ 0 + S0 = 0) ∨ (_ ∧ _ ∧ _ ∧ _ ∧ 0 + K = 3 ∧ 0 + S0 = 3 * cap2)
      omega
    · have := z4 b hb1 hb2 hb3 hb4 hbx
      rw [cr_o _ _ _ _ _ _ ⟨hb1, hb2, hb3, hb4⟩] at this
      exact this
/-! the class's row is the reference's by frames -/
theorem stR_split {X Y : List Cu} {f : Nat} (hX : ∀ q, q ∈ X → q.1 < f) (hY : ∀ q, q ∈ Y → f ≤ q.1) : stR (X ++ Y) f = X.length := by
  unfold stR
  induction X with
  | nil =>
    cases Y with
    | nil => rfl
    | cons y Y =>
      rw [List.nil_append, List.findIdx_cons]
      have := hY y List.mem_cons_self
      simp [this]
  | cons x X ih =>
    have hx := hX x List.mem_cons_self
    have hnx : ¬ f ≤ x.1 := by omega
    rw [List.cons_append, List.findIdx_cons, ih fun q hq => hX q (List.mem_cons_of_mem _ hq)]
    simp [hnx]
theorem insertIdx_mid {X Y : List Cu} (q : Cu) : (X ++ Y).insertIdx X.length q = X ++ q :: Y := by
  induction X with
  | nil => rfl
  | cons x X ih => rw [List.cons_append, List.length_cons, List.insertIdx_succ_cons, ih, List.cons_append]
theorem stR_srt (fr : List Cu) {f : Nat} (hf : f ≤ 128) : stR (srtF fr) f = (srtN fr f).length := by
  obtain ⟨Y, h1, h2⟩ := srtN_cut fr f 128 hf
  show stR (srtN fr 128) f = _
  rw [h1]
  exact stR_split (fun q hq => ((srtN_mem fr q f).mp hq).2) h2
theorem pL_srt (fr : List Cu) {f mask bits : Nat} (hf : f < 127) : pL (srtF fr) f mask bits = srtF (addC fr f mask bits) := by
  unfold pL addC
  rw [srtN_filter]
  have e : (fr.filter fun q => !(decide (q.1 ≤ f) && lies q.2.1 q.2.2 mask bits)) = fr.filter (pLp f mask bits) := rfl
  rw [e]
  generalize fr.filter (pLp f mask bits) = fr1
  obtain ⟨Y, h1, h2, h3⟩ := srtN_split fr1 (f, mask, bits) 128 (by show f < 128; omega)
  show (srtF fr1).insertIdx (stR (srtF fr1) (f + 1)) (f, mask, bits) = srtN (fr1 ++ [(f, mask, bits)]) 128
  rw [h2, stR_srt fr1 (by omega)]
  show (srtN fr1 128).insertIdx _ _ = _
  rw [h1]
  exact insertIdx_mid _
