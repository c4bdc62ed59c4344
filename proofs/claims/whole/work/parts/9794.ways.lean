/-! THE CLASS: a machine's ways -/
theorem cm_next {ce : Ce} {U : Nat → Prop} {p : Nat} {M : Mv} (hm : MA ce U p M) {s i : Nat} (hs : s < 2 ^ M.1) (hi : i < 4) : m_X5_next ce p (nI s) (nI i) = some (nI (M.2.1 s i)) := by
  obtain ⟨⟨w1, w2, w3, w4⟩, aa, sa, la, Af, Sf, Df, u1, u2, u3, u4, h1, h2, h3, h4, h5, h6, h7⟩ := hm
  have h64 := p2_64 w2
  have e : nI s * 4 + nI i = nI (s * 4 + i) := by rw [nl_4, pk_mul, nI_add]
  unfold m_X5_next
  rw [e, if_neg (nI_pos (by omega)), gA_c (k := 5) h1 rfl, bind_s, alen_I h4, bind_s, if_le (by omega) (by omega), if_neg (by omega), bind_s, aI_c h4 (by omega) (by omega), bind_s, h5 s hs i hi]
theorem cm_rcv {ce : Ce} {U : Nat → Prop} {p : Nat} {M : Mv} (hm : MA ce U p M) : rcv ce 3 p = some () := by
  obtain ⟨_, aa, sa, la, Af, Sf, Df, u1, u2, u3, u4, h1, _⟩ := hm
  exact rcv_c h1
theorem cm_states {ce : Ce} {U : Nat → Prop} {p : Nat} {M : Mv} (hm : MA ce U p M) : gI ce 3 1 p = some (nI (2 ^ M.1)) ∧ gI ce 3 0 p = some (nI M.1) ∧ gJ ce 3 2 p = some (allS M.1) ∧ gJ ce 3 3 p = some M.2.2.1 := by
  obtain ⟨_, aa, sa, la, Af, Sf, Df, u1, u2, u3, u4, h1, _⟩ := hm
  exact ⟨gI_c h1 rfl, gI_c h1 rfl, gJ_c h1 rfl, gJ_c h1 rfl⟩
theorem cm_after {ce : Ce} {U : Nat → Prop} {p : Nat} {M : Mv} (hm : MA ce U p M) {inp : Nat} (hi : inp < 2 ^ 31) (x : Int64) : m_X5_after ce p x (nI inp) = some (imgF M inp x) := by
  have w3 := hm.1.2.2.1
  have h64 := p2_64 hm.1.2.1
  have g1 := (cm_states hm).1
  refine ok_eq ?_
  unfold m_X5_after
  refine ok_call (P := fun o => o = imgF M inp x) (ok_cnt 0 (2 ^ M.1) (fun j s => ∃ r, s = (imgN M inp x j, r, nI j) ∧ ∀ k, k < 64 → B r k = B x (j + k)) (by omega) (Nat.zero_le _) ⟨x, ?_, fun k _ => by rw [Nat.zero_add]⟩ ?_ ?_) (fun a h => ok_some h)
  · have e : imgN M inp x 0 = 0 := by
      refine B_ext0 fun k hk => ?_
      unfold imgN
      rw [B_mkS _ hk]
      rfl
    rw [e]
    rfl
  · rintro j _ hj ⟨r, rfl, hr⟩
    have hus : ∀ k, k < 64 → B (usr64 r (1 : Int32)) k = B x (j + 1 + k) := by
      intro k hk
      rw [nl_1, B_ushr (by omega)]
      by_cases h : 1 + k < 64
      · rw [hr _ h]
        congr 1
        omega
      · rw [B_big (by omega), B_big (by omega)]
    rw [g1, bind_s, if_le (by omega) (by omega), if_neg (by omega)]
    by_cases hr0 : r = 0
    · refine ok_iteT (lcmp_0.mpr hr0) (ok_some ?_)
      show imgN M inp x j = imgF M inp x
      have hz : ∀ t, j ≤ t → B x t = false := by
        intro t ht
        by_cases h : t - j < 64
        · have := hr (t - j) h
          rw [hr0, B_0, show j + (t - j) = t by omega] at this
          exact this.symm
        · exact B_big (by omega)
      have go : ∀ i, j ≤ i → imgN M inp x i = imgN M inp x j := by
        intro i hi
        induction i with
        | zero =>
          have : j = 0 := by omega
          rw [this]
        | succ i ih =>
          by_cases he : j = i + 1
          · rw [he]
          · rw [← ih (by omega)]
            refine B_ext fun k hk => ?_
            rw [imgN_s M inp x i hk, hz i (by omega)]
            simp
      exact (go (2 ^ M.1) (by omega)).symm
    · refine ok_iteF (fun z => hr0 (lcmp_0.mp z)) ?_
      have hb0 : B r 0 = B x j := by rw [hr 0 (by omega), Nat.add_zero]
      have e1 : lg_cmp (r &&& 1) 0 = 0 ↔ B x j = false := by
        rw [and1, hb0]
        cases B x j <;> decide
      cases hxj : B x j with
      | false =>
        have es : imgN M inp x (j + 1) = imgN M inp x j := by
          refine B_ext fun k hk => ?_
          rw [imgN_s M inp x j hk, hxj]
          simp
        refine ok_call (P := fun o => o = imgN M inp x j) (ok_cnt 0 0 (fun i s => s = (imgN M inp x j, nI i)) (by omega) (by omega) rfl (fun i s hi _ => by omega) ?_) ?_
        · rintro _ rfl
          refine ok_iteF (show ¬ (4 : Int32) ≤ nI 0 by decide) ?_
          exact ok_iteT (e1.mpr hxj) (ok_some rfl)
        · rintro _ rfl
          refine ok_some ⟨_, ?_, hus⟩
          show (imgN M inp x j, usr64 r 1, nI j + 1) = (imgN M inp x (j + 1), usr64 r 1, nI (j + 1))
          rw [nI_1, es]
      | true =>
        have es : imgN M inp x (j + 1) = imgN M inp x j ||| aftN M.2.1 j inp 4 := by
          refine B_ext fun k hk => ?_
          rw [imgN_s M inp x j hk, hxj, B_or]
          simp
        refine ok_call (P := fun o => o = imgN M inp x j ||| aftN M.2.1 j inp 4) (ok_cnt 0 4 (fun i s => s = (imgN M inp x j ||| aftN M.2.1 j inp i, nI i)) (by omega) (by omega) ?_ ?_ ?_) ?_
        · rw [aftN_0]
          have : imgN M inp x j ||| 0 = imgN M inp x j := B_ext fun k _ => by rw [B_or, B_0, Bool.or_false]
          rw [this]
          rfl
        · rintro i _ hi4 rfl
          have hsc := w3 j hj i hi4
          rw [nl_4, if_le (by omega) (by omega), if_neg (by omega)]
          refine ok_iteF (fun z => by rw [e1.mp z] at hxj; cases hxj) ?_
          show Ok (if ((nI inp >>> (nI i &&& 31)) &&& (1 : Int32)) = 0 then _ else _) _
          rw [ibit0 hi (by omega), aftN_s M.2.1 j inp i (by omega)]
          cases hb : inp.testBit i with
          | true =>
            rw [if_pos rfl, if_pos rfl, cm_rcv hm, bind_s]
            show Ok ((m_X5_next ce p (nI j) (nI i)).bind _) _
            rw [cm_next hm hj hi4, bind_s]
            refine ok_some ?_
            show (_, nI i + 1) = (_, nI (i + 1))
            rw [nI_1]
            congr 1
            refine B_ext fun k _ => ?_
            rw [B_or, B_or, B_or, B_or, Bool.or_assoc]
          | false =>
            rw [if_neg (by decide), if_neg (by decide)]
            refine ok_some ?_
            show (_, nI i + 1) = (_, nI (i + 1))
            rw [nI_1]
        · rintro _ rfl
          rw [nl_4, if_le (by omega) (by omega), if_pos (by omega)]
          exact ok_some rfl
        · rintro _ rfl
          refine ok_some ⟨_, ?_, hus⟩
          show (imgN M inp x j ||| aftN M.2.1 j inp 4, usr64 r 1, nI j + 1) = (imgN M inp x (j + 1), usr64 r 1, nI (j + 1))
          rw [nI_1, es]
  · rintro _ ⟨r, rfl, hr⟩
    rw [g1, bind_s, if_le (by omega) (by omega), if_pos (Nat.le_refl _)]
    exact ok_some rfl
theorem clo_or {F : Int64 → Int64} (hF : Add F) (x : Int64) (n : Nat) : clo F n x ||| (F (fre F n x) &&& (clo F n x ^^^ (-1))) = clo F (n + 1) x := (clo_step hF x n).1.symm
/-- how many times one goes on, at least: both ways -/
theorem cm_loop {F : Int64 → Int64} (hF : Add F) {g x : Int64} (op : Int64 → Option Int64) (hop : ∀ y, op y = some (F y)) : it (fun (zs3 : Int64 × Int64 × Int32) => if (64 : Int32) < zs3.2.2 then some (Sum.inr (Sum.inr ())) else if (lg_cmp zs3.2.1 (0 : Int64)) = 0 then some (Sum.inr (Sum.inr ())) else if (lg_cmp (zs3.2.1 &&& g) (0 : Int64)) = 0 then (op zs3.2.1).bind fun zx7 => some (Sum.inl ((zs3.1 ||| (zx7 &&& (zs3.1 ^^^ (-1 : Int64)))), (zx7 &&& (zs3.1 ^^^ (-1 : Int64))), (zs3.2.2 + (1 : Int32)))) else some (Sum.inr (Sum.inl zs3.2.2))) FU (x, x, (0 : Int32)) = some (match fst64 (fun n => decide (clo F n x &&& g ≠ 0)) with | some n => Sum.inl (nI n) | none => Sum.inr ()) := by
  refine ok_eq (ok_cnt 0 64 (fun n s => s = (clo F n x, fre F n x, nI n) ∧ ∀ j, j < n → clo F j x &&& g = 0) (by omega) (by omega) ⟨rfl, fun _ h => by omega⟩ ?_ ?_)
  · rintro n _ hn ⟨rfl, hl⟩
    have hmf := meet_fre hF (g := g) n hl
    rw [nl_64, if_lt (by omega) (by omega), if_neg (by omega)]
    by_cases h0 : fre F n x = 0
    · refine ok_iteT (lcmp_0.mpr h0) (ok_some ?_)
      have hz : clo F n x &&& g = 0 := by
        rw [hmf, h0]
        refine B_ext0 fun k _ => ?_
        rw [B_and, B_0]
        rfl
      have : fst64 (fun n => decide (clo F n x &&& g ≠ 0)) = none := fst_none fun j _ => by
        by_cases hj : j < n
        · simp [hl j hj]
        · rw [clo_fre0 hF h0 j (by omega)]
          simp [hz]
      rw [this]
    · refine ok_iteF (fun z => h0 (lcmp_0.mp z)) ?_
      by_cases h1 : fre F n x &&& g = 0
      · refine ok_iteT (lcmp_0.mpr h1) ?_
        show Ok ((op (fre F n x)).bind _) _
        rw [hop, bind_s]
        refine ok_some ⟨?_, fun j hj => ?_⟩
        · show (clo F n x ||| (F (fre F n x) &&& (clo F n x ^^^ (-1))), F (fre F n x) &&& (clo F n x ^^^ (-1)), nI n + 1) = (clo F (n + 1) x, fre F (n + 1) x, nI (n + 1))
          rw [nI_1, clo_or hF]
          rfl
        · by_cases e : j = n
          · rw [e, hmf]; exact h1
          · exact hl j (by omega)
      · refine ok_iteF (fun z => h1 (lcmp_0.mp z)) (ok_some ?_)
        rw [fst_at hn (by rw [hmf]; simp [h1]) (fun j hj => by simp [hl j hj])]
  · rintro _ ⟨rfl, hl⟩
    have h0 := fre_64 hF x
    rw [nl_64, if_lt (by omega) (by omega), if_neg (by omega)]
    refine ok_iteT (lcmp_0.mpr h0) (ok_some ?_)
    have : fst64 (fun n => decide (clo F n x &&& g ≠ 0)) = none := fst_none fun j hj => by simp [hl j hj]
    rw [this]
theorem cm_stepsTo {ce : Ce} {U : Nat → Prop} {p : Nat} {M : Mv} (hm : MA ce U p M) {inp : Nat} (hi : inp < 2 ^ 31) (g : Int64) : m_X5_stepsTo ce p g (nI inp) = some (oI (fst64 fun n => decide (clo (imgF M inp) n M.2.2.1 &&& g ≠ 0))) := by
  have g3 := (cm_states hm).2.2.2
  have hl := cm_loop (img_Add M inp) (g := g) (x := M.2.2.1) (fun y => (rcv ce 3 p).bind fun _ => (m_X5_after ce p y (nI inp)).bind fun z => some z) (fun y => by rw [cm_rcv hm, bind_s, cm_after hm hi, bind_s])
  unfold m_X5_stepsTo
  simp only [g3, bind_s]
  simp only [cm_rcv hm, bind_s] at hl ⊢
  have e : ∀ (zs3 : Int64 × Int64 × Int32), ((m_X5_after ce p zs3.2.1 (nI inp)).bind fun z => some z).bind (fun zx7 => (some (Sum.inl ((zs3.1 ||| (zx7 &&& (zs3.1 ^^^ (-1 : Int64)))), (zx7 &&& (zs3.1 ^^^ (-1 : Int64))), (zs3.2.2 + (1 : Int32)))) : Option ((Int64 × Int64 × Int32) ⊕ (Int32 ⊕ Unit)))) = (m_X5_after ce p zs3.2.1 (nI inp)).bind (fun zx7 => some (Sum.inl ((zs3.1 ||| (zx7 &&& (zs3.1 ^^^ (-1 : Int64)))), (zx7 &&& (zs3.1 ^^^ (-1 : Int64))), (zs3.2.2 + (1 : Int32))))) := by
    intro zs3
    cases m_X5_after ce p zs3.2.1 (nI inp) <;> rfl
  simp only [e] at hl
  rw [hl, bind_s]
  cases fst64 (fun n => decide (clo (imgF M inp) n M.2.2.1 &&& g ≠ 0)) <;> rfl
theorem cm_between {ce : Ce} {U : Nat → Prop} {p : Nat} {M : Mv} (hm : MA ce U p M) (fr g : Int64) : m_X5_stepsBetween ce p fr g = some (oI (fst64 fun n => decide (clo (befS M) n g &&& fr ≠ 0))) := by
  have hl := cm_loop (bef_Add M) (g := fr) (x := g) (fun y => m_X5_before ce p y) (fun y => cc_before hm y)
  unfold m_X5_stepsBetween
  simp only [cm_rcv hm, bind_s]
  rw [hl, bind_s]
  cases fst64 (fun n => decide (clo (befS M) n g &&& fr ≠ 0)) <;> rfl
theorem cm_loop2 {F : Int64 → Int64} (hF : Add F) {x : Int64} {k : Nat} (hk : k < 2 ^ 31) (op : Int64 → Option Int64) (hop : ∀ y, op y = some (F y)) : it (fun (zs3 : Int64 × Int64 × Int32) => if nI k ≤ zs3.2.2 then some (Sum.inr zs3.1) else if (64 : Int32) ≤ zs3.2.2 then some (Sum.inr zs3.1) else if (lg_cmp zs3.2.1 (0 : Int64)) = 0 then some (Sum.inr zs3.1) else (op zs3.2.1).bind fun zx7 => some (Sum.inl ((zs3.1 ||| (zx7 &&& (zs3.1 ^^^ (-1 : Int64)))), (zx7 &&& (zs3.1 ^^^ (-1 : Int64))), (zs3.2.2 + (1 : Int32))))) FU (x, x, (0 : Int32)) = some (clo F k x) := by
  refine ok_eq (ok_cnt 0 (min k 64) (fun n s => s = (clo F n x, fre F n x, nI n)) (by omega) (Nat.zero_le _) rfl ?_ ?_)
  · rintro n _ hn rfl
    rw [if_le hk (by omega), if_neg (by omega), nl_64, if_le (by omega) (by omega), if_neg (by omega)]
    by_cases h0 : fre F n x = 0
    · refine ok_iteT (lcmp_0.mpr h0) (ok_some ?_)
      exact (clo_fre0 hF h0 k (by omega)).symm
    · refine ok_iteF (fun z => h0 (lcmp_0.mp z)) ?_
      show Ok ((op (fre F n x)).bind _) _
      rw [hop, bind_s]
      refine ok_some ?_
      show (clo F n x ||| (F (fre F n x) &&& (clo F n x ^^^ (-1))), F (fre F n x) &&& (clo F n x ^^^ (-1)), nI n + 1) = (clo F (n + 1) x, fre F (n + 1) x, nI (n + 1))
      rw [nI_1, clo_or hF]
      rfl
  · rintro _ rfl
    rw [if_le hk (by omega)]
    by_cases hk64 : k ≤ min k 64
    · rw [if_pos hk64]
      refine ok_some ?_
      have : min k 64 = k := by omega
      rw [this]
    · have h64 : min k 64 = 64 := by omega
      rw [if_neg hk64, h64, nl_64, if_le (by omega) (by omega), if_pos (by omega)]
      refine ok_some ?_
      exact (clo_64 hF x (n := k) (by omega)).symm
theorem cm_coming {ce : Ce} {U : Nat → Prop} {p : Nat} {M : Mv} (hm : MA ce U p M) (g : Int64) {k : Nat} (hk : k < 2 ^ 31) : m_X5_comingTo ce p g (nI k) = some (clo (befS M) k g) := by
  have hl := cm_loop2 (bef_Add M) (x := g) hk (fun y => m_X5_before ce p y) (fun y => cc_before hm y)
  unfold m_X5_comingTo
  simp only [cm_rcv hm, bind_s]
  rw [hl, bind_s]
theorem cm_come {ce : Ce} {U : Nat → Prop} {p : Nat} {M : Mv} (hm : MA ce U p M) {k : Nat} (hk : k < 2 ^ 31) : m_X5_comeToBy ce p (nI k) = some (clo (imgF M 15) k M.2.2.1) := by
  have g3 := (cm_states hm).2.2.2
  have hl := cm_loop2 (img_Add M 15) (x := M.2.2.1) hk (fun y => m_X5_after ce p y (nI 15)) (fun y => cm_after hm (by omega) y)
  unfold m_X5_comeToBy
  simp only [g3, cm_rcv hm, bind_s]
  have e15 : (15 : Int32) = nI 15 := rfl
  rw [e15, hl, bind_s]
