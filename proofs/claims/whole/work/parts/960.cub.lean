/-! THE CLASS: cubes and sets of states -/
theorem cc_maskOf {m b : Nat} (hm : m < 64) (hb : b < 64) : m_X3_maskOf (nI (m * 64 + b)) = some (nI m) := by
  have e : (m * 64 + b) / 64 = m := by omega
  unfold m_X3_maskOf
  rw [show nz 64 = some () from rfl, bind_s, nl_64, pk_div (by omega) (by omega) (by omega), e]
theorem cc_bitsOf {m b : Nat} (hm : m < 64) (hb : b < 64) : m_X3_bitsOf (nI (m * 64 + b)) = some (nI b) := by
  have e : (m * 64 + b) % 64 = b := by omega
  unfold m_X3_bitsOf rm32
  rw [show nz 64 = some () from rfl, bind_s, nl_64, pk_rem (by omega) (by omega) (by omega), e]
theorem cc_cubeOf (m b : Nat) : m_X3_cubeOf (nI m) (nI b) = some (nI (m * 64 + b)) := by
  unfold m_X3_cubeOf
  rw [nl_64, pk_mul, nI_add]
theorem cc_without {m b l : Nat} (hm : m < 64) (hb : b < 64) (hl : l < 6) : m_X3_without (nI (m * 64 + b)) (nI l) = some (nI (offN m l * 64 + offN b l)) := by
  unfold m_X3_without
  rw [cc_maskOf hm hb, bind_s, cc_bitsOf hm hb, bind_s, off_1 m hm l hl, off_1 b hb l hl, cc_cubeOf, bind_s]
theorem cc_liesIn {m b om ob : Nat} (hm : m < 64) (hb : b < 64) (hom : om < 64) (hob : ob < 64) : m_X3_liesIn (nI (m * 64 + b)) (nI (om * 64 + ob)) = some (if lies m b om ob then 1 else 0) := by
  have e1 : m &&& om < 64 := Nat.and_lt_two_pow (n := 6) _ hom
  have e2 : b &&& om < 64 := Nat.and_lt_two_pow (n := 6) _ hom
  unfold m_X3_liesIn lies
  rw [cc_maskOf hom hob, bind_s, cc_maskOf hm hb, bind_s, cc_bitsOf hm hb, bind_s, cc_bitsOf hom hob, bind_s, nI_and, nI_and, if_eq (by omega) (by omega), if_eq (by omega) (by omega)]
  by_cases h1 : m &&& om = om
  · by_cases h2 : b &&& om = ob
    · simp [h1, h2]
    · simp [h1, h2]
  · simp [h1]
theorem LS_b : ∀ j, j < 6 → ∀ k, k < 64 → B (LSv j) k = k.testBit j := by decide +kernel
theorem cc_aLS {j : Nat} (hj : j < 6) : aLS (nI j) = some (LSv j) := by
  unfold aLS
  rw [if_neg (nI_in hj (by omega)), nI_clamp (by omega)]
theorem ibit0 {j l : Nat} (hj : j < 2 ^ 31) (hl : l < 32) {α : Type} (x y : α) : (if ((nI j >>> (nI l &&& 31)) &&& (1 : Int32)) = 0 then x else y) = if j.testBit l then y else x := by
  rw [ibit hj hl]
  cases j.testBit l <;> rfl
theorem cc_statesOf (ce : Ce) {m b : Nat} (hm : m < 64) (hb : b < 64) : m_X3_statesOf ce (nI (m * 64 + b)) = some (cubS 6 m b) := by
  refine ok_eq ?_
  unfold m_X3_statesOf
  rw [cc_maskOf hm hb, bind_s, cc_bitsOf hm hb, bind_s]
  refine ok_call (P := fun o => o = cubS 6 m b) (ok_cnt 0 6 (fun j q => q = (cubN 6 m b j, nI j)) (by omega) (by omega) ?_ ?_ ?_) (fun a h => ok_some h)
  · have e : cubN 6 m b 0 = -1 := by
      refine B_ext fun k hk => ?_
      rw [cubN_0, B_mkS _ hk, B_m1 hk]
      simp [show k < 2 ^ 6 by omega]
    rw [e]
    rfl
  · rintro j _ hj rfl
    rw [nl_6, if_le (by omega) (by omega), if_neg (by omega)]
    show Ok (if ((nI m >>> (nI j &&& 31)) &&& (1 : Int32)) = 0 then _ else _) _
    rw [ibit0 (by omega) (by omega)]
    cases h1 : m.testBit j with
    | false =>
      rw [if_neg (by decide)]
      refine ok_some ?_
      show (_, nI j + 1) = (cubN 6 m b (j + 1), nI (j + 1))
      rw [nI_1]
      congr 1
      refine B_ext fun k hk => ?_
      rw [cubN_s _ _ _ _ hk, h1]
      simp
    | true =>
      rw [if_pos rfl]
      refine ok_bind ?_
      show Ok (if ((nI b >>> (nI j &&& 31)) &&& (1 : Int32)) = 0 then _ else _) _
      rw [ibit0 (by omega) (by omega)]
      cases h2 : b.testBit j with
      | false =>
        rw [if_neg (by decide)]
        refine ok_some ?_
        refine ok_iteT rfl ?_
        rw [cc_aLS hj, bind_s]
        refine ok_some ?_
        show (_, nI j + 1) = (cubN 6 m b (j + 1), nI (j + 1))
        rw [nI_1]
        congr 1
        refine B_ext fun k hk => ?_
        rw [cubN_s _ _ _ _ hk, B_and, B_inv _ hk, LS_b j hj k hk, h1, h2]
        cases k.testBit j <;> simp
      | true =>
        rw [if_pos rfl]
        refine ok_some ?_
        refine ok_iteF (by decide) ?_
        rw [cc_aLS hj, bind_s]
        refine ok_some ?_
        show (_, nI j + 1) = (cubN 6 m b (j + 1), nI (j + 1))
        rw [nI_1]
        congr 1
        refine B_ext fun k hk => ?_
        rw [cubN_s _ _ _ _ hk, B_and, LS_b j hj k hk, h1, h2]
        cases k.testBit j <;> simp
  · rintro _ rfl
    rw [nl_6, if_le (by omega) (by omega), if_pos (by omega)]
    exact ok_some rfl
/-- the states of a cube, as if there were six letters, and as there are -/
theorem tb_lt {m L l : Nat} (hm : m < 2 ^ L) (hl : L ≤ l) : m.testBit l = false := Nat.testBit_lt_two_pow (Nat.lt_of_lt_of_le hm (Nat.pow_le_pow_right (by omega) hl))
theorem cub_mono {L m b s : Nat} : ∀ j, L ≤ j → m < 2 ^ L → ((List.range j).all fun l => !m.testBit l || (s.testBit l == b.testBit l)) = (List.range L).all fun l => !m.testBit l || (s.testBit l == b.testBit l) := by
  intro j hj hm
  induction j with
  | zero =>
    have : L = 0 := by omega
    rw [this]
  | succ j ih =>
    by_cases h : L = j + 1
    · rw [h]
    · rw [List.range_succ, List.all_append, ih (by omega)]
      simp [tb_lt hm (show L ≤ j by omega)]
theorem cub_6 {L m b s : Nat} (hL : L < 7) (hm : m < 2 ^ L) (hs : s < 2 ^ L) : B (cubS 6 m b) s = B (cubS L m b) s := by
  have h64 := p2_64 hL
  show B (cubN 6 m b 6) s = B (cubN L m b L) s
  unfold cubN
  rw [B_mkS _ (by omega), B_mkS _ (by omega), cub_mono 6 (by omega) hm]
  simp [show s < 2 ^ 6 by omega, hs]
theorem cub_hi {L m b s : Nat} (hL : L < 7) (hs : s < 64) (h : ¬ s < 2 ^ L) : B (cubS L m b) s = false := by
  show B (cubN L m b L) s = false
  unfold cubN
  rw [B_mkS _ hs]
  simp [h]
/-! a machine in the class -/
/-- all states that have a successor in a set -/
def befN (M : Mv) (x : Int64) (j : Nat) : Int64 := mkS fun s => decide (s < 2 ^ M.1) && (List.range j).any fun t => B x t && B (aftN M.2.1 s 15 4) t
abbrev befS (M : Mv) (x : Int64) : Int64 := befN M x (2 ^ M.1)
def ledS (M : Mv) (t : Nat) : Int64 := mkS fun s => decide (s < 2 ^ M.1) && B (aftN M.2.1 s 15 4) t
def WM (M : Mv) : Prop := 1 ≤ M.1 ∧ M.1 < 7 ∧ (∀ s, s < 2 ^ M.1 → ∀ i, i < 4 → M.2.1 s i < 2 ^ M.1) ∧ (∀ k, k < 64 → 2 ^ M.1 ≤ k → B M.2.2.1 k = false) ∧ 1 ≤ M.2.2.2.1 ∧ M.2.2.2.1 ≤ 4 ∧ ∀ i, i < M.2.2.2.1 → ∀ k, k < 64 → 2 ^ M.1 ≤ k → B (M.2.2.2.2 i) k = false
def MA (ce : Ce) (U : Nat → Prop) (p : Nat) (M : Mv) : Prop := WM M ∧ ∃ aa sa la Af Sf Df, U p ∧ U aa ∧ U sa ∧ U la ∧ ce p = some (.inr (3, [.int (nI M.1), .int (nI (2 ^ M.1)), .long (allS M.1), .long M.2.2.1, .ref aa, .ref sa, .ref la])) ∧ ce aa = some (.inl (.long, M.2.2.2.1, .inr (.inl Af))) ∧ (∀ i, i < M.2.2.2.1 → Af i = M.2.2.2.2 i) ∧ ce sa = some (.inl (.int, 2 ^ M.1 * 4, .inl Sf)) ∧ (∀ s, s < 2 ^ M.1 → ∀ i, i < 4 → Sf (s * 4 + i) = nI (M.2.1 s i)) ∧ ce la = some (.inl (.long, 2 ^ M.1, .inr (.inl Df))) ∧ ∀ t, t < 2 ^ M.1 → Df t = ledS M t
theorem MA_congr {ce c2 : Ce} {U U2 : Nat → Prop} {p : Nat} {M : Mv} (h : ∀ b, U b → c2 b = ce b) (hU : ∀ b, U b → U2 b) (hm : MA ce U p M) : MA c2 U2 p M := by
  obtain ⟨h0, aa, sa, la, Af, Sf, Df, u1, u2, u3, u4, h1, h2, h3, h4, h5, h6, h7⟩ := hm
  exact ⟨h0, aa, sa, la, Af, Sf, Df, hU _ u1, hU _ u2, hU _ u3, hU _ u4, by rw [h _ u1]; exact h1, by rw [h _ u2]; exact h2, h3, by rw [h _ u3]; exact h4, h5, by rw [h _ u4]; exact h6, h7⟩
/-! reads of a cell that is known -/
theorem gI_c {c : Ce} {ci k a : Nat} {fs : List Value} {x : Int32} (h : c a = some (.inr (ci, fs))) (hk : fs[k]? = some (.int x)) : gI c ci k a = some x := by
  unfold gI
  rw [h]
  simp [hk]
theorem gJ_c {c : Ce} {ci k a : Nat} {fs : List Value} {x : Int64} (h : c a = some (.inr (ci, fs))) (hk : fs[k]? = some (.long x)) : gJ c ci k a = some x := by
  unfold gJ
  rw [h]
  simp [hk]
theorem gF_c {c : Ce} {ci k a : Nat} {fs : List Value} {x : UInt32} (h : c a = some (.inr (ci, fs))) (hk : fs[k]? = some (.float x)) : gF c ci k a = some x := by
  unfold gF
  rw [h]
  simp [hk]
theorem gA_c {c : Ce} {ci k a : Nat} {fs : List Value} {x : Nat} (h : c a = some (.inr (ci, fs))) (hk : fs[k]? = some (.ref x)) : gA c ci k a = some x := by
  unfold gA
  rw [h]
  simp [hk]
theorem rcv_c {c : Ce} {ci a : Nat} {fs : List Value} (h : c a = some (.inr (ci, fs))) : rcv c ci a = some () := by
  unfold rcv
  rw [h]
  simp
theorem pV_c {c : Ce} {ci k a : Nat} {fs : List Value} {v : Value} (h : c a = some (.inr (ci, fs))) (hk : k < fs.length) : pV c ci k a v = some (gx_up c a (.inr (ci, fs.set k v))) := by
  unfold pV
  rw [h]
  simp [hk]
theorem aI_c {c : Ce} {a n k : Nat} {f : Nat → Int32} (h : c a = some (.inl (.int, n, .inl f))) (hk : k < n) (hn : n < 2 ^ 31) : aI c a (nI k) = some (f k) := by
  unfold aI
  rw [h]
  show (if _ then _ else _) = _
  rw [if_neg (nI_in hk hn), nI_clamp (by omega)]
theorem aL_c {c : Ce} {a n k : Nat} {f : Nat → Int64} (h : c a = some (.inl (.long, n, .inr (.inl f)))) (hk : k < n) (hn : n < 2 ^ 31) : aL c a (nI k) = some (f k) := by
  unfold aL
  rw [h]
  show (if _ then _ else _) = _
  rw [if_neg (nI_in hk hn), nI_clamp (by omega)]
theorem aG_c {c : Ce} {a n k : Nat} {f : Nat → UInt32} (h : c a = some (.inl (.float, n, .inr (.inr (.inl f))))) (hk : k < n) (hn : n < 2 ^ 31) : aG c a (nI k) = some (f k) := by
  unfold aG
  rw [h]
  show (if _ then _ else _) = _
  rw [if_neg (nI_in hk hn), nI_clamp (by omega)]
theorem sI_c {c : Ce} {a n k : Nat} {f : Nat → Int32} {v : Int32} (h : c a = some (.inl (.int, n, .inl f))) (hk : k < n) (hn : n < 2 ^ 31) : sI c a (nI k) v = some (gx_up c a (.inl (.int, n, .inl (va_up f k v)))) := by
  unfold sI
  rw [h]
  show (if _ then _ else _) = _
  rw [if_neg (nI_in hk hn), nI_clamp (by omega)]
theorem sL_c {c : Ce} {a n k : Nat} {f : Nat → Int64} {v : Int64} (h : c a = some (.inl (.long, n, .inr (.inl f)))) (hk : k < n) (hn : n < 2 ^ 31) : sL c a (nI k) v = some (gx_up c a (.inl (.long, n, .inr (.inl (va_up f k v))))) := by
  unfold sL
  rw [h]
  show (if _ then _ else _) = _
  rw [if_neg (nI_in hk hn), nI_clamp (by omega)]
theorem sG_c {c : Ce} {a n k : Nat} {f : Nat → UInt32} {v : UInt32} (h : c a = some (.inl (.float, n, .inr (.inr (.inl f))))) (hk : k < n) (hn : n < 2 ^ 31) : sG c a (nI k) v = some (gx_up c a (.inl (.float, n, .inr (.inr (.inl (va_up f k v)))))) := by
  unfold sG
  rw [h]
  show (if _ then _ else _) = _
  rw [if_neg (nI_in hk hn), nI_clamp (by omega)]
theorem alen_I {c : Ce} {a n : Nat} {f : Nat → Int32} (h : c a = some (.inl (.int, n, .inl f))) : alen c a = some (nI n) := by
  unfold alen
  rw [h]
  rfl
theorem alen_L {c : Ce} {a n : Nat} {f : Nat → Int64} (h : c a = some (.inl (.long, n, .inr (.inl f)))) : alen c a = some (nI n) := by
  unfold alen
  rw [h]
  rfl
theorem alen_G {c : Ce} {a n : Nat} {f : Nat → UInt32} (h : c a = some (.inl (.float, n, .inr (.inr (.inl f))))) : alen c a = some (nI n) := by
  unfold alen
  rw [h]
  rfl
theorem cpI_c {c : Ce} {a0 a n0 n1 sp dp n : Nat} {f g : Nat → Int32} (h0 : c a0 = some (.inl (.int, n0, .inl f))) (h : c a = some (.inl (.int, n1, .inl g))) (h1 : sp + n ≤ n0) (h2 : dp + n ≤ n1) (hn0 : n0 < 2 ^ 31) (hn1 : n1 < 2 ^ 31) : cpI c a0 (nI sp) a (nI dp) (nI n) = some (gx_up c a (.inl (.int, n1, .inl (va_cpy f g sp dp n)))) := by
  unfold cpI
  rw [h0, h]
  show (if _ then _ else _) = _
  rw [nI_clamp (by omega), nI_clamp (by omega), nI_clamp (by omega), if_neg]
  rintro (h | h | h | h | h)
  · exact nI_pos (by omega) h
  · exact nI_pos (by omega) h
  · exact nI_pos (by omega) h
  · omega
  · omega
theorem cpL_c {c : Ce} {a0 a n0 n1 sp dp n : Nat} {f g : Nat → Int64} (h0 : c a0 = some (.inl (.long, n0, .inr (.inl f)))) (h : c a = some (.inl (.long, n1, .inr (.inl g)))) (h1 : sp + n ≤ n0) (h2 : dp + n ≤ n1) (hn0 : n0 < 2 ^ 31) (hn1 : n1 < 2 ^ 31) : cpL c a0 (nI sp) a (nI dp) (nI n) = some (gx_up c a (.inl (.long, n1, .inr (.inl (va_cpy f g sp dp n))))) := by
  unfold cpL
  rw [h0, h]
  show (if _ then _ else _) = _
  rw [nI_clamp (by omega), nI_clamp (by omega), nI_clamp (by omega), if_neg]
  rintro (h | h | h | h | h)
  · exact nI_pos (by omega) h
  · exact nI_pos (by omega) h
  · exact nI_pos (by omega) h
  · omega
  · omega
theorem gu_e (c : Ce) (a : Nat) (e : PE) : gx_up c a e a = some e := if_pos rfl
theorem gu_n (c : Ce) {a b : Nat} (e : PE) (h : b ≠ a) : gx_up c a e b = c b := if_neg h
/-! all that leads into a set -/
theorem cc_before {ce : Ce} {U : Nat → Prop} {p : Nat} {M : Mv} (hm : MA ce U p M) (x : Int64) : m_X5_before ce p x = some (befS M x) := by
  obtain ⟨⟨w1, w2, w3, w4⟩, aa, sa, la, Af, Sf, Df, u1, u2, u3, u4, h1, h2, h3, h4, h5, h6, h7⟩ := hm
  have h64 := p2_64 w2
  refine ok_eq ?_
  unfold m_X5_before
  refine ok_call (P := fun o => o = befS M x) (ok_cnt 0 (2 ^ M.1) (fun j s => ∃ r, s = (befN M x j, r, nI j) ∧ ∀ k, k < 64 → B r k = B x (j + k)) (by omega) (Nat.zero_le _) ⟨x, ?_, fun k _ => by rw [Nat.zero_add]⟩ ?_ ?_) (fun a h => ok_some h)
  · have e : befN M x 0 = 0 := by
      refine B_ext0 fun k hk => ?_
      unfold befN
      rw [B_mkS _ hk]
      simp
    rw [e]
    rfl
  · rintro j _ hj ⟨r, rfl, hr⟩
    have stp : ∀ k, k < 64 → B (befN M x (j + 1)) k = (B (befN M x j) k || (B x j && B (ledS M j) k)) := by
      intro k hk
      unfold befN ledS
      rw [B_mkS _ hk, B_mkS _ hk, B_mkS _ hk, List.range_succ, List.any_append]
      simp only [List.any_cons, List.any_nil, Bool.or_false]
      cases decide (k < 2 ^ M.1) <;> cases B x j <;> simp
    have hus : ∀ k, k < 64 → B (usr64 r (1 : Int32)) k = B x (j + 1 + k) := by
      intro k hk
      rw [nl_1, B_ushr (by omega)]
      by_cases h : 1 + k < 64
      · rw [hr _ h]
        congr 1
        omega
      · rw [B_big (by omega), B_big (by omega)]
    rw [gA_c (k := 6) h1 rfl, bind_s, alen_L h6, bind_s]
    show Ok (if nI (2 ^ M.1) ≤ nI j then _ else _) _
    rw [if_le (by omega) (by omega), if_neg (by omega)]
    by_cases hr0 : r = 0
    · refine ok_iteT (lcmp_0.mpr hr0) (ok_some ?_)
      show befN M x j = befS M x
      have hz : ∀ t, j ≤ t → B x t = false := by
        intro t ht
        by_cases h : t - j < 64
        · have := hr (t - j) h
          rw [hr0, B_0, show j + (t - j) = t by omega] at this
          exact this.symm
        · exact B_big (by omega)
      have go : ∀ i, j ≤ i → befN M x i = befN M x j := by
        intro i hi
        induction i with
        | zero =>
          have : j = 0 := by omega
          rw [this]
        | succ i ih =>
          by_cases he : j = i + 1
          · rw [he]
          · rw [← ih (by omega)]
            refine B_ext fun k hk => ?_
            unfold befN
            rw [B_mkS _ hk, B_mkS _ hk, List.range_succ, List.any_append]
            simp [hz i (by omega)]
      exact (go (2 ^ M.1) (by omega)).symm
    · refine ok_iteF (fun z => hr0 (lcmp_0.mp z)) ?_
      have hb0 : B r 0 = B x j := by rw [hr 0 (by omega), Nat.add_zero]
      show Ok (Option.bind (if lg_cmp (r &&& 1) 0 = 0 then _ else _) _) _
      rw [and1, hb0]
      cases hxj : B x j with
      | false =>
        refine ok_to (if_pos rfl) (ok_some ⟨_, ?_, hus⟩)
        show (befN M x j, usr64 r 1, nI j + 1) = (befN M x (j + 1), usr64 r 1, nI (j + 1))
        rw [nI_1]
        congr 1
        refine B_ext fun k hk => ?_
        rw [stp k hk, hxj]
        simp
      | true =>
        rw [if_neg (show ¬ lg_cmp (if true = true then (1 : Int64) else 0) 0 = 0 by decide)]
        simp only [bind_s]
        rw [aL_c h6 hj (by omega)]
        simp only [bind_s]
        refine ok_some ⟨_, ?_, hus⟩
        show (befN M x j ||| Df j, usr64 r 1, nI j + 1) = (befN M x (j + 1), usr64 r 1, nI (j + 1))
        rw [nI_1, h7 j hj]
        congr 1
        refine B_ext fun k hk => ?_
        rw [stp k hk, hxj, B_or]
        simp
  · rintro _ ⟨r, rfl, hr⟩
    rw [gA_c (k := 6) h1 rfl, bind_s, alen_L h6, bind_s]
    show Ok (if nI (2 ^ M.1) ≤ nI (2 ^ M.1) then _ else _) _
    rw [if_le (by omega) (by omega), if_pos (Nat.le_refl _)]
    exact ok_some rfl
/-- the states of x, outside a cube, that lead into it: none -/
theorem kpo_iff {M : Mv} (hw : WM M) {m b : Nat} (hm : m < 2 ^ M.1) (x : Int64) : ((x &&& (cubS 6 m b ^^^ (-1))) &&& befS M (cubS 6 m b) = 0) ↔ clsd M.1 M.2.1 x (cubS M.1 m b) = true := by
  have h64 := p2_64 hw.2.1
  unfold clsd
  rw [List.all_eq_true]
  constructor
  · intro h s hs
    have hs := List.mem_range.mp hs
    have hb : B ((x &&& (cubS 6 m b ^^^ (-1))) &&& befS M (cubS 6 m b)) s = false := by rw [h, B_0]
    rw [B_and, B_and, B_inv _ (by omega), cub_6 hw.2.1 hm hs] at hb
    cases h1 : B x s with
    | false => rfl
    | true =>
      cases h2 : B (cubS M.1 m b) s with
      | true => rfl
      | false =>
        rw [h1, h2] at hb
        have hb : B (befS M (cubS 6 m b)) s = false := by simpa using hb
        by_cases h3 : aftN M.2.1 s 15 4 &&& cubS M.1 m b = 0
        · simp [h3]
        · exfalso
          obtain ⟨t, ht, htb⟩ := B_ne0 h3
          rw [B_and, Bool.and_eq_true] at htb
          have htl : t < 2 ^ M.1 := by
            refine Nat.lt_of_not_le fun hle => ?_
            rw [cub_hi hw.2.1 ht (by omega)] at htb
            exact absurd htb.2 (by decide)
          unfold befS befN at hb
          rw [B_mkS _ (by omega)] at hb
          simp only [hs, decide_true, Bool.true_and] at hb
          rw [List.any_eq_false] at hb
          have := hb t (List.mem_range.mpr htl)
          rw [cub_6 hw.2.1 hm htl, htb.1, htb.2] at this
          exact this rfl
  · intro h
    refine B_ext0 fun s hs => ?_
    rw [B_and, B_and, B_inv _ hs]
    by_cases hsl : s < 2 ^ M.1
    · have h1 := h s (List.mem_range.mpr hsl)
      rw [cub_6 hw.2.1 hm hsl]
      cases hx : B x s with
      | false => simp
      | true =>
        cases h2 : B (cubS M.1 m b) s with
        | true => simp
        | false =>
          rw [hx, h2] at h1
          have h3 : aftN M.2.1 s 15 4 &&& cubS M.1 m b = 0 := by simpa using h1
          have h4 : B (befS M (cubS 6 m b)) s = false := by
            unfold befS befN
            rw [B_mkS _ hs]
            simp only [hsl, decide_true, Bool.true_and]
            rw [List.any_eq_false]
            intro t ht
            have ht := List.mem_range.mp ht
            rw [cub_6 hw.2.1 hm ht]
            have h5 : B (aftN M.2.1 s 15 4 &&& cubS M.1 m b) t = false := by rw [h3, B_0]
            rw [B_and] at h5
            rw [Bool.and_comm, h5]
            decide
          rw [h4]
          simp
    · have h4 : B (befS M (cubS 6 m b)) s = false := by
        unfold befS befN
        rw [B_mkS _ hs]
        simp [hsl]
      rw [h4]
      simp
