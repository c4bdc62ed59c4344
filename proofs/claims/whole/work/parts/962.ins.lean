/-! THE CLASS: a row of cubes, written -/
theorem gu_gu (c : Ce) (a : Nat) (e e2 : PE) : gx_up (gx_up c a e) a e2 = gx_up c a e2 := by
  funext b
  unfold gx_up
  by_cases h : b = a
  · rw [if_pos h, if_pos h]
  · rw [if_neg h, if_neg h, if_neg h]
theorem nwa_n {n : Nat} (h : n ≤ 2000000) : nwa (nI n) = some n := by
  unfold nwa
  rw [nI_clamp (by omega), if_neg]
  rintro (h1 | h1)
  · exact nI_pos (by omega) h1
  · omega
theorem cc_min {a b : Nat} (ha : a < 2 ^ 31) (hb : b < 2 ^ 31) (h : a ≤ b) : m_J9_min_7cf53 (nI a) (nI b) = some (nI a) := by
  unfold m_J9_min_7cf53
  rw [if_lt hb ha, if_neg (by omega)]
theorem cc_copyI {ce : Ce} {nx a n N : Nat} {F : Nat → Int32} (h : ce a = some (.inl (.int, n, .inl F))) (ha : a ≠ nx) (hn : n < N) (hN : N ≤ 2000000) : m_J7_copyOf_59c91 nx ce a (nI N) = some (nx, gx_up ce nx (.inl (.int, N, .inl (va_cpy F (fun _ => 0) 0 0 n))), 1, N) := by
  unfold m_J7_copyOf_59c91
  rw [alen_I h, bind_s, if_eq (by omega) (by omega), if_neg (by omega), nwa_n hN, bind_s]
  have h2 : gx_up ce nx (.inl (.int, N, .inl fun _ => 0)) a = some (.inl (.int, n, .inl F)) := by rw [gu_n _ _ ha]; exact h
  have e0 : cpI (gx_up ce nx (.inl (.int, N, .inl fun _ => 0))) a (0 : Int32) nx (0 : Int32) (nI n) = some _ := cpI_c (sp := 0) (dp := 0) h2 (gu_e _ _ _) (by omega) (by omega) (by omega) (by omega)
  have e : ((some (gx_up ce nx (.inl (.int, N, .inl fun _ => 0)))).bind fun zc3 => (alen zc3 a).bind fun zx5 => (m_J9_min_7cf53 zx5 (nI N)).bind fun zx6 => (cpI zc3 a (0 : Int32) nx (0 : Int32) zx6).bind fun zc7 => some (nx, zc7, 0, 0)) = some (nx, gx_up ce nx (.inl (.int, N, .inl (va_cpy F (fun _ => 0) 0 0 n))), 0, 0) := by
    rw [bind_s, alen_I h2, bind_s, cc_min (by omega) (by omega) (by omega), bind_s, e0, bind_s, gu_gu]
  show adc 1 N _ = _
  rw [e]
  show some (nx, _, 0 + 1, 0 + N) = _
  rw [Nat.zero_add, Nat.zero_add]
theorem cc_copyL {ce : Ce} {nx a n N : Nat} {F : Nat → Int64} (h : ce a = some (.inl (.long, n, .inr (.inl F)))) (ha : a ≠ nx) (hn : n < N) (hN : N ≤ 2000000) : m_J7_copyOf_c38d5 nx ce a (nI N) = some (nx, gx_up ce nx (.inl (.long, N, .inr (.inl (va_cpy F (fun _ => 0) 0 0 n)))), 1, N) := by
  unfold m_J7_copyOf_c38d5
  rw [alen_L h, bind_s, if_eq (by omega) (by omega), if_neg (by omega), nwa_n hN, bind_s]
  have h2 : gx_up ce nx (.inl (.long, N, .inr (.inl fun _ => 0))) a = some (.inl (.long, n, .inr (.inl F))) := by rw [gu_n _ _ ha]; exact h
  have e0 : cpL (gx_up ce nx (.inl (.long, N, .inr (.inl fun _ => 0)))) a (0 : Int32) nx (0 : Int32) (nI n) = some _ := cpL_c (sp := 0) (dp := 0) h2 (gu_e _ _ _) (by omega) (by omega) (by omega) (by omega)
  have e : ((some (gx_up ce nx (.inl (.long, N, .inr (.inl fun _ => 0))))).bind fun zc3 => (alen zc3 a).bind fun zx5 => (m_J9_min_7cf53 zx5 (nI N)).bind fun zx6 => (cpL zc3 a (0 : Int32) nx (0 : Int32) zx6).bind fun zc7 => some (nx, zc7, 0, 0)) = some (nx, gx_up ce nx (.inl (.long, N, .inr (.inl (va_cpy F (fun _ => 0) 0 0 n)))), 0, 0) := by
    rw [bind_s, alen_L h2, bind_s, cc_min (by omega) (by omega) (by omega), bind_s, e0, bind_s, gu_gu]
  show adc 1 N _ = _
  rw [e]
  show some (nx, _, 0 + 1, 0 + N) = _
  rw [Nat.zero_add, Nat.zero_add]
/-- room is made -/
theorem cw_room {ce : Ce} {nx r f g s cap : Nat} {l : List Cu} (h : RW ce r f g s cap l) (hx : r < nx ∧ f < nx ∧ g < nx ∧ s < nx) (hd : D4 r f g s) {N : Nat} (hN : cap < N) (hN2 : N < 10000) : Ok (m_X2_makeRoom nx ce r (nI N)) (fun q => RW q.2.1 r nx (nx + 1) (nx + 2) N l ∧ q.2.2.1 = 3 ∧ q.2.2.2 = 3 * N ∧ ∀ b, b ≠ r → b < nx → q.2.1 b = ce b) := by
  obtain ⟨F, C, S, h1, h2, h3, h4, h5, h6, h7, h8⟩ := h
  unfold D4 at hd
  unfold m_X2_makeRoom
  rw [gA_c (k := 0) h1 rfl, bind_s, alen_I h2, bind_s, if_le (by omega) (by omega), if_neg (by omega), bind_s]
  refine ok_adcB ?_
  rw [cc_copyI h2 (by omega) hN (by omega)]
  refine ok_some ?_
  generalize e1 : gx_up ce nx (.inl (.int, N, .inl (va_cpy F (fun _ => 0) 0 0 cap))) = c1
  have a1 : c1 r = some (.inr (2, [.ref f, .ref g, .ref s, .int (nI l.length)])) := by rw [← e1, gu_n _ _ (by omega)]; exact h1
  show Ok ((pV c1 2 0 r (.ref nx)).bind _) _
  rw [pV_c a1 (show 0 < 4 by omega), bind_s]
  generalize e2 : gx_up c1 r (.inr (2, List.set [.ref f, .ref g, .ref s, .int (nI l.length)] 0 (.ref nx))) = c2
  have a2 : c2 r = some (.inr (2, [.ref nx, .ref g, .ref s, .int (nI l.length)])) := by rw [← e2, gu_e]; rfl
  have a2g : c2 g = some (.inl (.int, cap, .inl C)) := by rw [← e2, gu_n _ _ (by omega), ← e1, gu_n _ _ (by omega)]; exact h3
  rw [gA_c (k := 1) a2 rfl, bind_s]
  refine ok_adcB ?_
  show Ok (m_J7_copyOf_59c91 (nx + 1) c2 g (nI N)) _
  rw [cc_copyI a2g (by omega) hN (by omega)]
  refine ok_some ?_
  generalize e3 : gx_up c2 (nx + 1) (.inl (.int, N, .inl (va_cpy C (fun _ => 0) 0 0 cap))) = c3
  have a3 : c3 r = some (.inr (2, [.ref nx, .ref g, .ref s, .int (nI l.length)])) := by rw [← e3, gu_n _ _ (by omega)]; exact a2
  show Ok ((pV c3 2 1 r (.ref (nx + 1))).bind _) _
  rw [pV_c a3 (show 1 < 4 by omega), bind_s]
  generalize e4 : gx_up c3 r (.inr (2, List.set [.ref nx, .ref g, .ref s, .int (nI l.length)] 1 (.ref (nx + 1)))) = c4
  have a4 : c4 r = some (.inr (2, [.ref nx, .ref (nx + 1), .ref s, .int (nI l.length)])) := by rw [← e4, gu_e]; rfl
  have a4s : c4 s = some (.inl (.long, cap, .inr (.inl S))) := by rw [← e4, gu_n _ _ (by omega), ← e3, gu_n _ _ (by omega), ← e2, gu_n _ _ (by omega), ← e1, gu_n _ _ (by omega)]; exact h4
  rw [gA_c (k := 2) a4 rfl, bind_s]
  refine ok_adcB ?_
  show Ok (m_J7_copyOf_c38d5 (nx + 1 + 1) c4 s (nI N)) _
  rw [cc_copyL a4s (by omega) hN (by omega)]
  refine ok_some ?_
  generalize e5 : gx_up c4 (nx + 1 + 1) (.inl (.long, N, .inr (.inl (va_cpy S (fun _ => 0) 0 0 cap)))) = c5
  have a5 : c5 r = some (.inr (2, [.ref nx, .ref (nx + 1), .ref s, .int (nI l.length)])) := by rw [← e5, gu_n _ _ (by omega)]; exact a4
  show Ok ((pV c5 2 2 r (.ref (nx + 1 + 1))).bind _) _
  rw [pV_c a5 (show 2 < 4 by omega), bind_s]
  generalize e6 : gx_up c5 r (.inr (2, List.set [.ref nx, .ref (nx + 1), .ref s, .int (nI l.length)] 2 (.ref (nx + 1 + 1)))) = c6
  refine ok_some ?_
  show RW c6 r nx (nx + 1) (nx + 2) N l ∧ 0 + 1 + 1 + 1 = 3 ∧ 0 + N + N + N = 3 * N ∧ ∀ b, b ≠ r → b < nx → c6 b = ce b
  refine ⟨⟨va_cpy F (fun _ => 0) 0 0 cap, va_cpy C (fun _ => 0) 0 0 cap, va_cpy S (fun _ => 0) 0 0 cap, ?_, ?_, ?_, ?_, by omega, hN2, h7, fun i q hq => ?_⟩, by omega, by omega, fun b hb hbx => ?_⟩
  · rw [← e6, gu_e]; rfl
  · rw [← e6, gu_n _ _ (by omega), ← e5, gu_n _ _ (by omega), ← e4, gu_n _ _ (by omega), ← e3, gu_n _ _ (by omega), ← e2, gu_n _ _ (by omega), ← e1, gu_e]
  · rw [← e6, gu_n _ _ (by omega), ← e5, gu_n _ _ (by omega), ← e4, gu_n _ _ (by omega), ← e3, gu_e]
  · rw [← e6, gu_n _ _ (by omega), ← e5, gu_e]
  · have hi : i < l.length := (List.getElem?_eq_some_iff.mp hq).1
    rw [pk_cpy_in (by omega) (by omega), pk_cpy_in (by omega) (by omega), pk_cpy_in (by omega) (by omega)]
    have := h8 i q hq
    simpa using this
  · rw [← e6, gu_n _ _ hb, ← e5, gu_n _ _ (by omega), ← e4, gu_n _ _ hb, ← e3, gu_n _ _ (by omega), ← e2, gu_n _ _ hb, ← e1, gu_n _ _ (by omega)]
theorem ins_row {α : Type} (F : Nat → α) {p z i : Nat} (v : α) (hp : p ≤ z) (hi : i ≤ z) : va_up (va_cpy F F p (p + 1) (z - p)) p v i = if i < p then F i else if i = p then v else F (i - 1) := by
  by_cases h1 : i < p
  · rw [if_pos h1, up_n _ _ _ (by omega), pk_cpy_out (by omega)]
  · rw [if_neg h1]
    by_cases h2 : i = p
    · rw [if_pos h2, h2, up_e]
    · rw [if_neg h2, up_n _ _ _ h2, pk_cpy_in (by omega) (by omega)]
      congr 1
      omega
theorem RWc_ins {F C : Nat → Int32} {S : Nat → Int64} {l : List Cu} (h : RWc F C S l) {p : Nat} (hp : p ≤ l.length) (q : Cu) : RWc (va_up (va_cpy F F p (p + 1) (l.length - p)) p (nI q.1)) (va_up (va_cpy C C p (p + 1) (l.length - p)) p (nI (q.2.1 * 64 + q.2.2))) (va_up (va_cpy S S p (p + 1) (l.length - p)) p (cubS 6 q.2.1 q.2.2)) (l.insertIdx p q) := by
  intro i x hx
  have hil : i ≤ l.length := by
    have := (List.getElem?_eq_some_iff.mp hx).1
    rw [List.length_insertIdx, if_pos hp] at this
    omega
  rw [ins_row F _ hp hil, ins_row C _ hp hil, ins_row S _ hp hil]
  rw [List.getElem?_insertIdx] at hx
  by_cases h1 : i < p
  · rw [if_pos h1] at hx
    rw [if_pos h1, if_pos h1, if_pos h1]
    exact h i x hx
  · rw [if_neg h1] at hx
    rw [if_neg h1, if_neg h1, if_neg h1]
    by_cases h2 : i = p
    · rw [if_pos h2, if_pos hil] at hx
      have : q = x := by simpa using hx
      subst this
      rw [if_pos h2, if_pos h2, if_pos h2]
      exact ⟨rfl, rfl, rfl⟩
    · rw [if_neg h2] at hx
      rw [if_neg h2, if_neg h2, if_neg h2]
      exact h (i - 1) x hx
theorem RB_ins {l : List Cu} (h : RB l) {q : Cu} (hq : q.1 < 128 ∧ q.2.1 < 64 ∧ q.2.2 < 64) (p : Nat) : RB (l.insertIdx p q) := by
  intro x hx
  by_cases hp : p ≤ l.length
  · rcases (List.mem_insertIdx hp).mp hx with h1 | h1
    · rw [h1]; exact hq
    · exact h x h1
  · rw [List.insertIdx_of_length_lt (by omega)] at hx
    exact h x hx
/-- what a call that may make room leaves: the row, its addresses, all else, the cost -/
def RowTo (ce : Ce) (nx r f g s cap : Nat) (l : List Cu) (d : Ce) (K S : Nat) : Prop := ∃ f2 g2 s2 cap2, RW d r f2 g2 s2 cap2 l ∧ D4 r f2 g2 s2 ∧ ((f2 = f ∧ g2 = g ∧ s2 = s ∧ cap2 = cap ∧ K = 0 ∧ S = 0) ∨ (f2 = nx ∧ g2 = nx + 1 ∧ s2 = nx + 2 ∧ cap2 = 2 * cap + 8 ∧ K = 3 ∧ S = 3 * cap2)) ∧ ∀ b, b ≠ r → b ≠ f → b ≠ g → b ≠ s → b < nx → d b = ce b
theorem cw_insert {ce : Ce} {nx r f g s cap : Nat} {l : List Cu} (h : RW ce r f g s cap l) (hx : r < nx ∧ f < nx ∧ g < nx ∧ s < nx) (hd : D4 r f g s) (hl : l.length < 4900) {p : Nat} (hp : p ≤ l.length) {q : Cu} (hq : q.1 < 128 ∧ q.2.1 < 64 ∧ q.2.2 < 64) : Ok (m_X2_insert nx ce r (nI p) (nI q.1) (nI (q.2.1 * 64 + q.2.2))) (fun z => RowTo ce nx r f g s cap (l.insertIdx p q) z.2.1 z.2.2.1 z.2.2.2) := by
  have hcap : l.length ≤ cap ∧ cap < 10000 := by
    obtain ⟨F, C, S, h1, h2, h3, h4, h5, h6, h7, h8⟩ := h
    exact ⟨h5, h6⟩
  unfold m_X2_insert
  rw [if_neg (nI_pos (by omega)), cw_size h, bind_s, if_le (by omega) (by omega), if_pos hp, bind_s]
  have hfg : gA ce 2 0 r = some f ∧ alen ce f = some (nI cap) := by
    obtain ⟨F, C, S, h1, h2, h3, h4, h5, h6, h7, h8⟩ := h
    exact ⟨gA_c h1 rfl, alen_I h2⟩
  rw [hfg.1, bind_s, hfg.2, bind_s, bind_s]
  refine ok_adcB ?_
  refine ok_mono (P := fun z => ∃ f2 g2 s2 cap2, RW z.2.1 r f2 g2 s2 cap2 l ∧ l.length < cap2 ∧ D4 r f2 g2 s2 ∧ ((f2 = f ∧ g2 = g ∧ s2 = s ∧ cap2 = cap ∧ z.2.2.1 = 0 ∧ z.2.2.2 = 0) ∨ (f2 = nx ∧ g2 = nx + 1 ∧ s2 = nx + 2 ∧ cap2 = 2 * cap + 8 ∧ z.2.2.1 = 3 ∧ z.2.2.2 = 3 * cap2)) ∧ ∀ b, b ≠ r → b ≠ f → b ≠ g → b ≠ s → b < nx → z.2.1 b = ce b) ?_ ?_
  · rw [if_lt (by omega) (by omega)]
    by_cases hlc : l.length < cap
    · rw [if_pos hlc]
      exact ok_some ⟨f, g, s, cap, h, hlc, hd, Or.inl ⟨rfl, rfl, rfl, rfl, rfl, rfl⟩, fun _ _ _ _ _ _ => rfl⟩
    · rw [if_neg hlc, cw_rcv h, bind_s]
      have e : nI l.length * 2 + 8 = nI (2 * cap + 8) := by
        rw [nl_2, nl_8, pk_mul, nI_add]
        congr 1
        omega
      rw [e]
      refine ok_adcB (ok_mono (cw_room h hx hd (N := 2 * cap + 8) (by omega) (by omega)) ?_)
      rintro ⟨u, d, K, S⟩ ⟨z1, z2, z3, z4⟩
      have z2 : K = 3 := z2
      have z3 : S = 3 * (2 * cap + 8) := z3
      refine ok_some ⟨nx, nx + 1, nx + 2, 2 * cap + 8, z1, by omega, ?_, Or.inr ⟨rfl, rfl, rfl, rfl, ?_, ?_⟩, fun b hb _ _ _ hbx => z4 b hb hbx⟩
      · unfold D4
        omega
      · show 0 + K = 3
        omega
      · show 0 + S = 3 * (2 * cap + 8)
        omega
  · rintro ⟨u, d, K, S0⟩ ⟨f2, g2, s2, cap2, hR, hlt, hd2, hcs, hfr⟩
    have hcs : (f2 = f ∧ g2 = g ∧ s2 = s ∧ cap2 = cap ∧ K = 0 ∧ S0 = 0) ∨ (f2 = nx ∧ g2 = nx + 1 ∧ s2 = nx + 2 ∧ cap2 = 2 * cap + 8 ∧ K = 3 ∧ S0 = 3 * cap2) := hcs
    have hfr : ∀ b, b ≠ r → b ≠ f → b ≠ g → b ≠ s → b < nx → d b = ce b := hfr
    obtain ⟨F, C, S, h1, h2, h3, h4, h5, h6, h7, h8⟩ := hR
    have h1 : d r = some (.inr (2, [.ref f2, .ref g2, .ref s2, .int (nI l.length)])) := h1
    have hself := cr_self h1 h2 h3 h4
    show Ok ((gA d 2 0 r).bind _) _
    have ez : nI l.length - nI p = nI (l.length - p) := pk_sub hp
    rw [← hself]
    simp only [gA_c (k := 0) (cr_r _ _ _ _ _ _ _ _ _ _) rfl, gI_c (k := 3) (cr_r _ _ _ _ _ _ _ _ _ _) rfl, bind_s, nI_1, ez]
    rw [cpI_c (cr_f d hd2 cap2 F C S l.length) (cr_f d hd2 cap2 F C S l.length) (by omega) (by omega) (by omega) (by omega), bind_s, cr_uf d hd2]
    simp only [gA_c (k := 1) (cr_r _ _ _ _ _ _ _ _ _ _) rfl, gI_c (k := 3) (cr_r _ _ _ _ _ _ _ _ _ _) rfl, bind_s, ez]
    rw [cpI_c (cr_g d hd2 cap2 _ C S l.length) (cr_g d hd2 cap2 _ C S l.length) (by omega) (by omega) (by omega) (by omega), bind_s, cr_ug d hd2]
    simp only [gA_c (k := 2) (cr_r _ _ _ _ _ _ _ _ _ _) rfl, gI_c (k := 3) (cr_r _ _ _ _ _ _ _ _ _ _) rfl, bind_s, ez]
    rw [cpL_c (cr_s d hd2 cap2 _ _ S l.length) (cr_s d hd2 cap2 _ _ S l.length) (by omega) (by omega) (by omega) (by omega), bind_s, cr_us d hd2]
    simp only [gA_c (k := 0) (cr_r _ _ _ _ _ _ _ _ _ _) rfl, bind_s]
    rw [sI_c (cr_f d hd2 cap2 _ _ _ l.length) (by omega) (by omega), bind_s, cr_uf d hd2]
    simp only [gA_c (k := 1) (cr_r _ _ _ _ _ _ _ _ _ _) rfl, bind_s]
    rw [sI_c (cr_g d hd2 cap2 _ _ _ l.length) (by omega) (by omega), bind_s, cr_ug d hd2]
    simp only [gA_c (k := 2) (cr_r _ _ _ _ _ _ _ _ _ _) rfl, bind_s]
    rw [cc_statesOf _ hq.2.1 hq.2.2, bind_s, sL_c (cr_s d hd2 cap2 _ _ _ l.length) (by omega) (by omega), bind_s, cr_us d hd2]
    simp only [gI_c (k := 3) (cr_r _ _ _ _ _ _ _ _ _ _) rfl, bind_s, nI_1]
    rw [pV_c (cr_r _ _ _ _ _ _ _ _ _ _) (show 3 < 4 by omega), bind_s]
    have es : List.set [Value.ref f2, .ref g2, .ref s2, .int (nI l.length)] 3 (.int (nI (l.length + 1))) = [.ref f2, .ref g2, .ref s2, .int (nI (l.length + 1))] := rfl
    rw [es, cr_ur]
    have hli : (l.insertIdx p q).length = l.length + 1 := by rw [List.length_insertIdx, if_pos hp]
    refine ok_some ⟨f2, g2, s2, cap2, ⟨_, _, _, ?_, cr_f _ hd2 _ _ _ _ _, cr_g _ hd2 _ _ _ _ _, cr_s _ hd2 _ _ _ _ _, by omega, h6, RB_ins h7 hq p, RWc_ins h8 hp q⟩, hd2, ?_, fun b hb1 hb2 hb3 hb4 hbx => ?_⟩
    · rw [hli]
      exact cr_r _ _ _ _ _ _ _ _ _ _
    · show (_ ∧ _ ∧ _ ∧ _ ∧ 0 + K = 0 ∧ 0 + S0 = 0) ∨ (_ ∧ _ ∧ _ ∧ _ ∧ 0 + K = 3 ∧ 0 + S0 = 3 * cap2)
      omega
    · show cr d r f2 g2 s2 cap2 _ _ _ _ b = ce b
      rw [cr_o _ _ _ _ _ _ (by omega)]
      exact hfr b hb1 hb2 hb3 hb4 hbx
