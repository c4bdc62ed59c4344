/-! CLAIMS: rows written -/
theorem ss_clms {ce : Ce} {nx : Nat} {A : Nat → Nat} {κ : Nat × Nat × Nat} {M : Mv} {n : Nat → Nat} {fr : List Cu} {ob : List Ln} {fl : Nat → UInt32} {cl cl2 : List (Nat × Nat)} (h : SS ce nx A κ (M, n, fr, ob, fl, cl)) {d : Ce} {K S : Nat} (ht : RowTo ce nx (A 9) (A 10) (A 11) (A 12) κ.2.2 (clR cl2) d K S) : ∃ A2 κ2, SS d (nx + K) A2 κ2 (M, n, fr, ob, fl, cl2) ∧ Ev ce nx A κ d K S A2 κ2 := by
  obtain ⟨f2, g2, s2, cap2, t1, t2, t3, t4⟩ := ht
  obtain ⟨A2, q1, q2, q3⟩ := ss_clG (K := K) (cap2 := cap2) h ⟨f2, g2, s2, t1, t2, by omega, t4⟩
  refine ⟨A2, _, q1, q2.1, q2.2.1, q2.2.2, ?_, ?_, q3⟩
  · unfold Phi
    show 6 * κ.1 + 2 * κ.2.1 + 6 * κ.2.2 + K ≤ 6 * κ.1 + 2 * κ.2.1 + 6 * cap2
    omega
  · unfold Phi
    show 6 * κ.1 + 2 * κ.2.1 + 6 * κ.2.2 + S ≤ 6 * κ.1 + 2 * κ.2.1 + 6 * cap2
    omega
theorem cw_append {ce : Ce} {nx r f g s cap : Nat} {l : List Cu} (h : RW ce r f g s cap l) (hx : r < nx ∧ f < nx ∧ g < nx ∧ s < nx) (hd : D4 r f g s) (hl : l.length < 4900) {mk b : Nat} (hm : mk < 64) (hb : b < 64) : Ok (m_X2_append nx ce r (nI (mk * 64 + b))) (fun z => RowTo ce nx r f g s cap (l ++ [(0, mk, b)]) z.2.1 z.2.2.1 z.2.2.2) := by
  unfold m_X2_append
  rw [cw_size h, bind_s, cw_rcv h, bind_s]
  have e := cw_insert h hx hd hl (p := l.length) (Nat.le_refl _) (q := (0, mk, b)) ⟨by show 0 < 128; omega, hm, hb⟩
  refine ok_adcB (ok_mono e ?_)
  rintro ⟨u, d, K, S⟩ ht
  refine ok_some ?_
  have ei : l.insertIdx l.length (0, mk, b) = l ++ [(0, mk, b)] := by
    have := insertIdx_mid (X := l) (Y := []) (0, mk, b)
    rw [List.append_nil] at this
    exact this
  rw [ei] at ht
  show RowTo ce nx r f g s cap _ d (0 + K) (0 + S)
  rw [Nat.zero_add, Nat.zero_add]
  exact ht
theorem clR_snoc (cl : List (Nat × Nat)) (q : Nat × Nat) : clR (cl ++ [q]) = clR cl ++ [(0, q.1, q.2)] := by
  unfold clR
  rw [List.map_append]
  rfl
/-- a row from p on moved down by one -/
theorem er_row {α : Type} (F : Nat → α) {p z i : Nat} (hp : p < z) (hi : i < z - 1) : va_cpy F F (p + 1) p (z - p - 1) i = if i < p then F i else F (i + 1) := by
  by_cases h1 : i < p
  · rw [if_pos h1, pk_cpy_out (by omega)]
  · rw [if_neg h1, pk_cpy_in (by omega) (by omega)]
    congr 1
    omega
theorem cw_removeAt {ce : Ce} {r f g s cap : Nat} {l : List Cu} (h : RW ce r f g s cap l) (hd : D4 r f g s) {p : Nat} (hp : p < l.length) : Ok (m_X2_removeAt ce r (nI p)) (fun z => RW z.2 r f g s cap (l.eraseIdx p) ∧ ∀ b, b ≠ r → b ≠ f → b ≠ g → b ≠ s → z.2 b = ce b) := by
  obtain ⟨F, C, S, h1, h2, h3, h4, h5, h6, h7, h8⟩ := h
  have hself := cr_self h1 h2 h3 h4
  unfold m_X2_removeAt
  rw [if_neg (nI_pos (by omega)), gI_c (k := 3) h1 rfl, bind_s, if_lt (by omega) (by omega), if_pos hp, bind_s]
  have ez : nI l.length - nI p - 1 = nI (l.length - p - 1) := by
    rw [pk_sub (by omega), nl_1, pk_sub (by omega)]
  rw [ez, nI_1]
  rw [← hself]
  simp only [gA_c (k := 0) (cr_r _ _ _ _ _ _ _ _ _ _) rfl, bind_s]
  rw [cpI_c (cr_f ce hd cap F C S l.length) (cr_f ce hd cap F C S l.length) (by omega) (by omega) (by omega) (by omega), bind_s, cr_uf ce hd]
  simp only [gA_c (k := 1) (cr_r _ _ _ _ _ _ _ _ _ _) rfl, bind_s]
  rw [cpI_c (cr_g ce hd cap _ C S l.length) (cr_g ce hd cap _ C S l.length) (by omega) (by omega) (by omega) (by omega), bind_s, cr_ug ce hd]
  simp only [gA_c (k := 2) (cr_r _ _ _ _ _ _ _ _ _ _) rfl, bind_s]
  rw [cpL_c (cr_s ce hd cap _ _ S l.length) (cr_s ce hd cap _ _ S l.length) (by omega) (by omega) (by omega) (by omega), bind_s, cr_us ce hd]
  simp only [gI_c (k := 3) (cr_r _ _ _ _ _ _ _ _ _ _) rfl, bind_s]
  rw [nl_1, pk_sub (by omega), pV_c (cr_r _ _ _ _ _ _ _ _ _ _) (show 3 < 4 by omega), bind_s]
  have es : List.set [Value.ref f, .ref g, .ref s, .int (nI l.length)] 3 (.int (nI (l.length - 1))) = [.ref f, .ref g, .ref s, .int (nI (l.length - 1))] := rfl
  rw [es, cr_ur]
  have hle : (l.eraseIdx p).length = l.length - 1 := List.length_eraseIdx_of_lt hp
  refine ok_some ⟨⟨va_cpy F F (p + 1) p (l.length - p - 1), va_cpy C C (p + 1) p (l.length - p - 1), va_cpy S S (p + 1) p (l.length - p - 1), ?_, cr_f _ hd _ _ _ _ _, cr_g _ hd _ _ _ _ _, cr_s _ hd _ _ _ _ _, by omega, h6, fun q hq => h7 q (List.mem_of_mem_eraseIdx hq), fun i q hq => ?_⟩, fun b hb1 hb2 hb3 hb4 => ?_⟩
  · rw [hle]
    exact cr_r _ _ _ _ _ _ _ _ _ _
  · have hi := (List.getElem?_eq_some_iff.mp hq).1
    rw [hle] at hi
    rw [er_row F hp hi, er_row C hp hi, er_row S hp hi]
    rw [List.getElem?_eraseIdx] at hq
    by_cases h1 : i < p
    · rw [if_pos h1] at hq
      rw [if_pos h1, if_pos h1, if_pos h1]
      exact h8 i q hq
    · rw [if_neg h1] at hq
      rw [if_neg h1, if_neg h1, if_neg h1]
      exact h8 (i + 1) q hq
  · show cr ce r f g s cap _ _ _ _ b = cr ce r f g s cap F C S l.length b
    rw [cr_o _ _ _ _ _ _ ⟨hb1, hb2, hb3, hb4⟩, cr_o _ _ _ _ _ _ ⟨hb1, hb2, hb3, hb4⟩]
theorem cw_change {ce : Ce} {r f g s cap : Nat} {l : List Cu} (h : RW ce r f g s cap l) (hd : D4 r f g s) {p : Nat} (hp : p < l.length) {q : Cu} (hl : l[p]? = some q) {mk b : Nat} (hm : mk < 64) (hb : b < 64) : Ok (m_X2_change ce r (nI p) (nI (mk * 64 + b))) (fun z => RW z.2 r f g s cap (l.set p (q.1, mk, b)) ∧ ∀ b, b ≠ r → b ≠ f → b ≠ g → b ≠ s → z.2 b = ce b) := by
  obtain ⟨F, C, S, h1, h2, h3, h4, h5, h6, h7, h8⟩ := h
  have hself := cr_self h1 h2 h3 h4
  unfold m_X2_change
  rw [if_neg (nI_pos (by omega)), gI_c (k := 3) h1 rfl, bind_s, if_le (by omega) (by omega), if_neg (by omega)]
  rw [← hself]
  simp only [gA_c (k := 1) (cr_r _ _ _ _ _ _ _ _ _ _) rfl, bind_s]
  rw [sI_c (cr_g ce hd cap F C S l.length) (by omega) (by omega), bind_s, cr_ug ce hd]
  simp only [gA_c (k := 2) (cr_r _ _ _ _ _ _ _ _ _ _) rfl, bind_s]
  rw [cc_statesOf _ hm hb, bind_s, sL_c (cr_s ce hd cap F _ S l.length) (by omega) (by omega), bind_s, cr_us ce hd]
  have hqb := h7 q (List.mem_of_getElem? hl)
  refine ok_some ⟨⟨F, va_up C p (nI (mk * 64 + b)), va_up S p (cubS 6 mk b), ?_, cr_f _ hd _ _ _ _ _, cr_g _ hd _ _ _ _ _, cr_s _ hd _ _ _ _ _, by rw [List.length_set]; exact h5, h6, fun u hu => ?_, fun i u hu => ?_⟩, fun b hb1 hb2 hb3 hb4 => ?_⟩
  · rw [List.length_set]
    exact cr_r _ _ _ _ _ _ _ _ _ _
  · rcases List.mem_or_eq_of_mem_set hu with h | h
    · exact h7 u h
    · rw [h]
      exact ⟨hqb.1, hm, hb⟩
  · rw [List.getElem?_set] at hu
    by_cases e : p = i
    · subst e
      rw [if_pos rfl, if_pos hp] at hu
      have : (q.1, mk, b) = u := by simpa using hu
      subst this
      rw [up_e, up_e]
      exact ⟨(h8 p q hl).1, rfl, rfl⟩
    · rw [if_neg e] at hu
      rw [up_n _ _ _ (fun z => e z.symm), up_n _ _ _ (fun z => e z.symm)]
      exact h8 i u hu
  · show cr ce r f g s cap _ _ _ _ b = cr ce r f g s cap F C S l.length b
    rw [cr_o _ _ _ _ _ _ ⟨hb1, hb2, hb3, hb4⟩, cr_o _ _ _ _ _ _ ⟨hb1, hb2, hb3, hb4⟩]
/-- all but one -/
theorem cw_unionBut {ce : Ce} {r f g s cap : Nat} {l : List Cu} (h : RW ce r f g s cap l) {p : Nat} (hp : p < 2 ^ 31) : m_X2_unionBut ce r (nI p) = some (uniS (l.eraseIdx p)) := by
  obtain ⟨F, C, S, h1, h2, h3, h4, h5, h6, h7, h8⟩ := h
  refine ok_eq ?_
  unfold m_X2_unionBut
  refine ok_call (P := fun o => o = uniS (l.eraseIdx p)) (ok_cnt 0 l.length (fun j z => z = (uniS ((l.take j).eraseIdx p), nI j)) (by omega) (by omega) ?_ ?_ ?_) (fun a h => by rw [h]; exact ok_some rfl)
  · have : uniS (([] : List Cu).eraseIdx p) = 0 := by
      refine B_ext0 fun k hk => ?_
      unfold uniS
      rw [B_mkS _ hk]
      rfl
    rw [List.take_zero, this]
    rfl
  · rintro j _ hj rfl
    have hat : l[j]? = some l[j] := List.getElem?_eq_getElem hj
    generalize l[j] = u at hat
    have hlt : (l.take j).length = j := by rw [List.length_take]; omega
    show Ok ((gI ce 2 3 r).bind _) _
    simp only [gI_c (k := 3) h1 rfl, bind_s, gA_c (k := 2) h1 rfl, aL_c h4 (show j < cap by omega) (by omega), (h8 j u hat).2.2]
    rw [if_le (by omega) (by omega), if_neg (by omega), if_eq (by omega) hp, take_s hat]
    by_cases e : j = p
    · subst e
      rw [if_pos rfl]
      refine ok_some ?_
      rw [nI_1, List.eraseIdx_append_of_length_le (by omega), hlt, Nat.sub_self, List.eraseIdx_of_length_le (by omega)]
      show _ = (uniS (l.take j ++ []), _)
      rw [List.append_nil]
    · rw [if_neg e]
      refine ok_some ?_
      show (uniS ((l.take j).eraseIdx p) ||| cubS 6 u.2.1 u.2.2, nI j + 1) = _
      rw [nI_1]
      have eu : ∀ X : List Cu, uniS X ||| cubS 6 u.2.1 u.2.2 = uniS (X ++ [u]) := by
        intro X
        refine B_ext fun k hk => ?_
        unfold uniS
        rw [B_or, B_mkS _ hk, B_mkS _ hk, List.any_append]
        simp
      rw [eu]
      by_cases hlp : p < j
      · rw [List.eraseIdx_append_of_lt_length (by omega)]
      · rw [List.eraseIdx_append_of_length_le (by omega), List.eraseIdx_of_length_le (l := [u]) (by show 1 ≤ p - (l.take j).length; omega), List.eraseIdx_of_length_le (by omega)]
  · rintro _ rfl
    show Ok ((gI ce 2 3 r).bind _) _
    simp only [gI_c (k := 3) h1 rfl, bind_s]
    rw [if_pos (Int32.le_refl _), List.take_length]
    exact ok_some rfl
/-! the reference's claims -/
theorem RR_clm {a b : Nat → Int32} {h : Nat → UInt32} {V : Sv} (hr : RR a h V) (ho : ∀ j, j ≠ 16 → (j < 92 ∨ 104 ≤ j) → b j = a j) {cl : List (Nat × Nat)} (hc : Clm b cl) : RR b h (clmV V cl) := by
  obtain ⟨a1, a2, a3, a4, a5, a6⟩ := hr
  exact ⟨Mac_congr (ho 3 (by omega) (by omega)) (ho 7 (by omega) (by omega)) (fun j _ _ => ho j (by omega) (by omega)) a1, Num_congr (fun k hk => by have := nums_r hk; exact ho k (by omega) (by omega)) a2, Cub_congr (ho 17 (by omega) (by omega)) (fun j _ _ => ho j (by omega) (by omega)) a3, Lin_congr (ho 9 (by omega) (by omega)) (fun j _ _ => ho j (by omega) (by omega)) a4, a5, hc⟩
theorem cl_mk {mk b : Nat} (hm : mk < 64) (hb : b < 64) : (nI mk <<< ((6 : Int32) &&& 31)) ||| nI b = nI (mk * 64 + b) := by
  rw [pk_shlN _ 6 (by decide) (by omega), nI_or]
  exact congrArg nI (or_add mk b 6 (by omega))
theorem sr_claimTail (c : Ce) (m : Nat) {μ : MS} {V : Sv} (hr : RV μ V) {mk b : Nat} (hm : mk < 64) (hb : b < 64) (h12 : V.2.2.2.2.2.length < 12) : ∃ ν, ((gA (wr c m μ) 9 0 m).bind fun zx7 => (gA (wr c m μ) 9 0 m).bind fun zx8 => (aI (wr c m μ) zx8 (16 : Int32)).bind fun zx9 => (sI (wr c m μ) zx7 ((92 : Int32) + zx9) ((nI mk <<< ((6 : Int32) &&& 31)) ||| nI b)).bind fun zc10 => (gA zc10 9 0 m).bind fun zx11 => (aI zc10 zx11 (16 : Int32)).bind fun zx12 => (sI zc10 zx11 (16 : Int32) (zx12 + (1 : Int32))).bind fun zc13 => (gA zc13 9 0 m).bind fun zx14 => (aI zc13 zx14 (16 : Int32)).bind fun zx15 => some (zx15, zc13)) = some (nI (V.2.2.2.2.2.length + 1), wr c m ν) ∧ RV ν (clmV V (V.2.2.2.2.2 ++ [(mk, b)])) ∧ Kp μ ν := by
  have hC := hr.2.2.2.2.2
  generalize hcl : V.2.2.2.2.2 = cl at hC h12
  have e92 : (92 : Int32) + nI cl.length = nI (92 + cl.length) := by rw [nl_92, nI_add]
  rw [wr_g0, bind_s, bind_s, rd_16, bind_s, hC.1, cl_mk hm hb, e92, wr_u0 c m μ (by omega), bind_s]
  have q1 : (ma μ (92 + cl.length) (nI (mk * 64 + b))).1 0 16 = nI cl.length := by rw [ma_at, if_neg (by omega)]; exact hC.1
  rw [wr_g0, bind_s, rd_16, bind_s, q1, nI_1, wt_16, bind_s, wr_g0, bind_s, rd_16, bind_s]
  have em : ma μ (92 + cl.length) (nI (mk * 64 + b)) = mu0 μ (va_up (μ.1 0) (92 + cl.length) (nI (mk * 64 + b))) := rfl
  rw [em, ma_of, mu0_a, up_e]
  refine ⟨_, rfl, ?_, Kp_mu0 μ fun j hj => by rw [up_n _ _ _ (by omega), up_n _ _ _ (by omega)]⟩
  show RR ((mu0 μ _).1 0) (μ.2.2.1 2) _
  rw [mu0_a]
  refine RR_clm hr (fun j h1 h2 => by rw [up_n _ _ _ h1, up_n _ _ _ (by omega)]) ⟨?_, ?_, fun k q hq => ?_⟩
  · rw [up_e, List.length_append]
    rfl
  · rw [List.length_append]
    show cl.length + 1 ≤ 12
    omega
  · by_cases e : k = cl.length
    · subst e
      rw [List.getElem?_append_right (Nat.le_refl _), Nat.sub_self] at hq
      have : (mk, b) = q := by simpa using hq
      subst this
      rw [up_n _ _ _ (by omega), up_e]
      exact ⟨rfl, hm, hb⟩
    · have hk : k < cl.length := by
        have := (List.getElem?_eq_some_iff.mp hq).1
        rw [List.length_append] at this
        have this : k < cl.length + 1 := this
        omega
      rw [List.getElem?_append_left hk] at hq
      rw [up_n _ _ _ (by omega), up_n _ _ _ (by omega)]
      exact hC.2.2 k q hq
theorem sr_unclaimTail (c : Ce) (m : Nat) {μ : MS} {V : Sv} (hr : RV μ V) {p : Nat} (hp : p < V.2.2.2.2.2.length) : ∃ ν, ((it (fun (zs6 : Int32 × Ce) => (gA zs6.2 9 0 m).bind fun zx14 => (aI zs6.2 zx14 (16 : Int32)).bind fun zx15 => if (zx15 - (1 : Int32)) ≤ zs6.1 then some (Sum.inr ((), zs6.2)) else (gA zs6.2 9 0 m).bind fun zx16 => (gA zs6.2 9 0 m).bind fun zx17 => (aI zs6.2 zx17 (((92 : Int32) + zs6.1) + (1 : Int32))).bind fun zx18 => (sI zs6.2 zx16 ((92 : Int32) + zs6.1) zx18).bind fun zc19 => some (Sum.inl ((zs6.1 + (1 : Int32)), zc19))) FU (nI p, wr c m μ)).bind fun (zo7 : Unit × Ce) => (gA zo7.2 9 0 m).bind fun zx9 => (aI zo7.2 zx9 (16 : Int32)).bind fun zx10 => (sI zo7.2 zx9 (16 : Int32) (zx10 - (1 : Int32))).bind fun zc11 => (gA zc11 9 0 m).bind fun zx12 => (aI zc11 zx12 (16 : Int32)).bind fun zx13 => some (zx13, zc11)) = some (nI (V.2.2.2.2.2.length - 1), wr c m ν) ∧ RV ν (clmV V (V.2.2.2.2.2.eraseIdx p)) ∧ Kp μ ν := by
  have hC := hr.2.2.2.2.2
  generalize hcl : V.2.2.2.2.2 = cl at hC hp
  have h12 := hC.2.1
  have lp : it (fun (zs6 : Int32 × Ce) => (gA zs6.2 9 0 m).bind fun zx14 => (aI zs6.2 zx14 (16 : Int32)).bind fun zx15 => if (zx15 - (1 : Int32)) ≤ zs6.1 then some (Sum.inr ((), zs6.2)) else (gA zs6.2 9 0 m).bind fun zx16 => (gA zs6.2 9 0 m).bind fun zx17 => (aI zs6.2 zx17 (((92 : Int32) + zs6.1) + (1 : Int32))).bind fun zx18 => (sI zs6.2 zx16 ((92 : Int32) + zs6.1) zx18).bind fun zc19 => some (Sum.inl ((zs6.1 + (1 : Int32)), zc19))) FU (nI p, wr c m μ) = some ((), wr c m (mu0 μ (shf (μ.1 0) 1 (92 + p) (92 + (cl.length - 1))))) := by
    refine ok_eq (ok_cnt p (cl.length - 1) (fun k z => p ≤ k ∧ z = (nI k, wr c m (mu0 μ (shf (μ.1 0) 1 (92 + p) (92 + k))))) (by omega) (by omega) ⟨Nat.le_refl _, by rw [shf_0, mu0_self]⟩ ?_ ?_)
    · rintro k _ hk ⟨hpk, rfl⟩
      have e16 : (mu0 μ (shf (μ.1 0) 1 (92 + p) (92 + k))).1 0 16 = nI cl.length := by rw [mu0_a, shf_o (by omega)]; exact hC.1
      have e92 : (92 : Int32) + nI k = nI (92 + k) := by rw [nl_92, nI_add]
      show Ok ((gA (wr c m (mu0 μ (shf (μ.1 0) 1 (92 + p) (92 + k)))) 9 0 m).bind _) _
      simp only [wr_g0, bind_s, rd_16, e16, e92, nI_1]
      have hnk : ¬ nI cl.length - 1 ≤ nI k := by
        rw [nl_1, pk_sub (by omega)]
        exact fun z => by have := (nI_leI (by omega) (by omega)).mp z; omega
      rw [if_neg hnk, wr_a0 c m _ (by omega), bind_s, wr_u0 c m _ (by omega), bind_s]
      refine ok_some ⟨by omega, ?_⟩
      rw [ma_of, mu0_a, shf_s (by omega) (by omega)]
      rfl
    · rintro _ ⟨hpk, rfl⟩
      have e16 : (mu0 μ (shf (μ.1 0) 1 (92 + p) (92 + (cl.length - 1)))).1 0 16 = nI cl.length := by rw [mu0_a, shf_o (by omega)]; exact hC.1
      show Ok ((gA (wr c m (mu0 μ (shf (μ.1 0) 1 (92 + p) (92 + (cl.length - 1))))) 9 0 m).bind _) _
      simp only [wr_g0, bind_s, rd_16, e16]
      have hnk : nI cl.length - 1 ≤ nI (cl.length - 1) := by
        rw [nl_1, pk_sub (by omega)]
        exact Int32.le_refl _
      rw [if_pos hnk]
      exact ok_some rfl
  rw [lp, bind_s]
  generalize ha : shf (μ.1 0) 1 (92 + p) (92 + (cl.length - 1)) = a
  have e16 : (mu0 μ a).1 0 16 = nI cl.length := by rw [mu0_a, ← ha, shf_o (by omega)]; exact hC.1
  have e1 : nI cl.length - 1 = nI (cl.length - 1) := by rw [nl_1, pk_sub (by omega)]
  show ∃ ν, ((gA (wr c m (mu0 μ a)) 9 0 m).bind _) = _ ∧ _
  rw [wr_g0, bind_s]
  show ∃ ν, ((aI (wr c m (mu0 μ a)) (m + 1) 16).bind _) = _ ∧ _
  rw [rd_16, bind_s, e16, e1]
  show ∃ ν, ((sI (wr c m (mu0 μ a)) (m + 1) 16 (nI (cl.length - 1))).bind _) = _ ∧ _
  rw [wt_16, bind_s, ma_of, wr_g0, bind_s, rd_16, bind_s, mu0_a, up_e]
  refine ⟨_, rfl, ?_, Kp_mu0 μ fun j hj => by rw [up_n _ _ _ (by omega), ← ha, shf_o (by omega)]⟩
  show RR ((mu0 μ _).1 0) (μ.2.2.1 2) _
  rw [mu0_a]
  refine RR_clm hr (fun j h1 h2 => by rw [up_n _ _ _ h1, ← ha, shf_o (by omega)]) ⟨?_, ?_, fun k q hq => ?_⟩
  · rw [up_e, List.length_eraseIdx_of_lt hp]
  · rw [List.length_eraseIdx_of_lt hp]
    omega
  · have hk := (List.getElem?_eq_some_iff.mp hq).1
    rw [List.length_eraseIdx_of_lt hp] at hk
    rw [List.getElem?_eraseIdx] at hq
    rw [up_n _ _ _ (by omega), ← ha]
    by_cases h1 : k < p
    · rw [if_pos h1] at hq
      rw [shf_o (by omega)]
      exact hC.2.2 k q hq
    · rw [if_neg h1] at hq
      rw [shf_i (by omega) (by omega), Nat.add_assoc]
      exact hC.2.2 (k + 1) q hq
/-- claims taken over from what is laid -/
theorem sr_adoptTail (c : Ce) (m : Nat) {μ : MS} {V : Sv} (hr : RV μ V) {l : List (Nat × Nat)} (hl : Laid μ l) (h12 : l.length ≤ 12) : ∃ ν, ((it (fun (zs8 : Int32 × Ce) => (gI zs8.2 9 31 m).bind fun zx15 => if zx15 ≤ zs8.1 then some (Sum.inr ((), zs8.2)) else (gA zs8.2 9 0 m).bind fun zx16 => (gA zs8.2 9 29 m).bind fun zx17 => (aI zs8.2 zx17 zs8.1).bind fun zx18 => (gA zs8.2 9 30 m).bind fun zx19 => (aI zs8.2 zx19 zs8.1).bind fun zx20 => (sI zs8.2 zx16 ((92 : Int32) + zs8.1) ((zx18 <<< ((6 : Int32) &&& 31)) ||| zx20)).bind fun zc21 => some (Sum.inl ((zs8.1 + (1 : Int32)), zc21))) FU ((0 : Int32), wr c m μ)).bind fun (zo9 : Unit × Ce) => (gA zo9.2 9 0 m).bind fun zx11 => (gI zo9.2 9 31 m).bind fun zx12 => (sI zo9.2 zx11 (16 : Int32) zx12).bind fun zc13 => (gI zc13 9 31 m).bind fun zx14 => some (zx14, zc13)) = some (nI l.length, wr c m ν) ∧ RV ν (clmV V l) ∧ Kp μ ν := by
  obtain ⟨a1, a2, a3⟩ := hl
  have key : Ok (it (fun (zs8 : Int32 × Ce) => (gI zs8.2 9 31 m).bind fun zx15 => if zx15 ≤ zs8.1 then some (Sum.inr ((), zs8.2)) else (gA zs8.2 9 0 m).bind fun zx16 => (gA zs8.2 9 29 m).bind fun zx17 => (aI zs8.2 zx17 zs8.1).bind fun zx18 => (gA zs8.2 9 30 m).bind fun zx19 => (aI zs8.2 zx19 zs8.1).bind fun zx20 => (sI zs8.2 zx16 ((92 : Int32) + zs8.1) ((zx18 <<< ((6 : Int32) &&& 31)) ||| zx20)).bind fun zc21 => some (Sum.inl ((zs8.1 + (1 : Int32)), zc21))) FU ((0 : Int32), wr c m μ)) (fun o => ∃ a, o = ((), wr c m (mu0 μ a)) ∧ (∀ j, (j < 92 ∨ 104 ≤ j) → a j = μ.1 0 j) ∧ ∀ k q, l[k]? = some q → a (92 + k) = nI (q.1 * 64 + q.2)) := by
    refine ok_cnt 0 l.length (fun i z => ∃ a, z = (nI i, wr c m (mu0 μ a)) ∧ (∀ j, (j < 92 ∨ 104 ≤ j) → a j = μ.1 0 j) ∧ ∀ k q, k < i → l[k]? = some q → a (92 + k) = nI (q.1 * 64 + q.2)) (by omega) (by omega) ⟨μ.1 0, by rw [mu0_self]; rfl, fun _ _ => rfl, fun k q h => by omega⟩ ?_ ?_
    · rintro i _ hi ⟨a, rfl, y1, y2⟩
      have hat : l[i]? = some l[i] := List.getElem?_eq_getElem hi
      generalize l[i] = u at hat
      obtain ⟨b1, b2, b3, b4⟩ := a3 i u hat
      have e15 : (mu0 μ a).2.2.2 15 = nI l.length := a1
      have e92 : (92 : Int32) + nI i = nI (92 + i) := by rw [nl_92, nI_add]
      have r14 : (mu0 μ a).1 14 i = nI u.1 := by rw [mu0_r μ a (by omega)]; exact b1
      have r15 : (mu0 μ a).1 15 i = nI u.2 := by rw [mu0_r μ a (by omega)]; exact b2
      show Ok ((gI (wr c m (mu0 μ a)) 9 31 m).bind _) _
      simp only [wr_g31, bind_s, e15, wr_g0, wr_g29, wr_g30, wr_a14 c m (mu0 μ a) (show i < 5000 by omega), wr_a15 c m (mu0 μ a) (show i < 5000 by omega), r14, r15, cl_mk b3 b4, e92]
      rw [if_le (by omega) (by omega), if_neg (by omega), wr_u0 c m _ (by omega), bind_s, ma_of]
      refine ok_some ⟨_, by rw [nI_1], fun j hj => by rw [up_n _ _ _ (by omega)]; exact y1 j hj, fun k q hk hq => ?_⟩
      by_cases e : k = i
      · subst e
        rw [hat] at hq
        have : u = q := by simpa using hq
        subst this
        rw [up_e]
      · rw [up_n _ _ _ (by omega)]
        exact y2 k q (by omega) hq
    · rintro _ ⟨a, rfl, y1, y2⟩
      have e15 : (mu0 μ a).2.2.2 15 = nI l.length := a1
      show Ok ((gI (wr c m (mu0 μ a)) 9 31 m).bind _) _
      simp only [wr_g31, bind_s, e15]
      rw [if_pos (Int32.le_refl _)]
      exact ok_some ⟨a, rfl, y1, fun k q hq => y2 k q (List.getElem?_eq_some_iff.mp hq).1 hq⟩
  obtain ⟨o, ho, a, rfl, y1, y2⟩ := key
  rw [ho, bind_s]
  have e15 : (mu0 μ a).2.2.2 15 = nI l.length := a1
  have e15b : (mu0 μ (va_up a 16 (nI l.length))).2.2.2 15 = nI l.length := a1
  show ∃ ν, ((gA (wr c m (mu0 μ a)) 9 0 m).bind _) = _ ∧ _
  rw [wr_g0, bind_s]
  show ∃ ν, ((gI (wr c m (mu0 μ a)) 9 31 m).bind _) = _ ∧ _
  rw [wr_g31, bind_s, e15]
  show ∃ ν, ((sI (wr c m (mu0 μ a)) (m + 1) 16 (nI l.length)).bind _) = _ ∧ _
  rw [wt_16, bind_s, ma_of, wr_g31, bind_s, e15b]
  refine ⟨_, rfl, ?_, Kp_mu0 μ fun j hj => by rw [up_n _ _ _ (by omega)]; exact y1 j (by omega)⟩
  show RR ((mu0 μ _).1 0) (μ.2.2.1 2) _
  rw [mu0_a]
  refine RR_clm hr (fun j h1 h2 => by rw [up_n _ _ _ h1]; exact y1 j h2) ⟨up_e _ _ _, h12, fun k q hq => ?_⟩
  have hk := (List.getElem?_eq_some_iff.mp hq).1
  rw [up_n _ _ _ (by omega)]
  exact ⟨y2 k q hq, (a3 k q hq).2.2⟩
