/-! THE REFERENCE: what is kept, taken back, put aside -/
abbrev Wv : Type := List Mv × List Sv × Sv
def stp (a : Nat → Int32) (n : Nat) : Nat → Int32 := fun j => a (5424 + 5421 * n + (j - 3))
def stf (f : Nat → UInt32) (n : Nat) : Nat → UInt32 := fun k => f (7 + 7 * n + k)
def AR (a : Nat → Int32) (f : Nat → UInt32) (W : Wv) : Prop := a 0 = nI W.1.length ∧ W.1.length ≤ 4 ∧ a 1 = nI W.2.1.length ∧ W.2.1.length ≤ 20 ∧ RR a f W.2.2 ∧ ∃ fi, fi < 20 ∧ a 2 = nI fi ∧ ∀ i V, W.2.1[i]? = some V → RR (stp a ((fi + i) % 20)) (stf f ((fi + i) % 20)) V
/-- what is not the row a, nor f -/
def KW (μ ν : MS) : Prop := (∀ r, (r = 1 ∨ r = 4 ∨ r = 6 ∨ r = 11) → ν.1 r = μ.1 r) ∧ ν.2.1 5 = μ.2.1 5 ∧ ν.2.2.1 3 = μ.2.2.1 3 ∧ ν.2.2.1 12 = μ.2.2.1 12 ∧ ∀ r, r < 3 → ν.2.2.2 r = μ.2.2.2 r
theorem Kp_KW {μ ν : MS} (h : Kp μ ν) : KW μ ν := ⟨h.2.1, h.2.2.1, h.2.2.2.2.1, h.2.2.2.2.2.1, h.2.2.2.2.2.2⟩
theorem KW_refl (μ : MS) : KW μ μ := Kp_KW (Kp_refl μ)
theorem KW_trans {μ ν ρ : MS} (h : KW μ ν) (g : KW ν ρ) : KW μ ρ := ⟨fun r hr => (g.1 r hr).trans (h.1 r hr), g.2.1.trans h.2.1, g.2.2.1.trans h.2.2.1, g.2.2.2.1.trans h.2.2.2.1, fun r hr => (g.2.2.2.2 r hr).trans (h.2.2.2.2 r hr)⟩
theorem AR_now {a a2 : Nat → Int32} {f f2 : Nat → UInt32} {W : Wv} {V : Sv} (h : AR a f W) (ha : ∀ j, (j < 3 ∨ 5424 ≤ j) → a2 j = a j) (hf : ∀ j, 7 ≤ j → f2 j = f j) (hr : RR a2 f2 V) : AR a2 f2 (W.1, W.2.1, V) := by
  obtain ⟨h1, h2, h3, h4, _, fi, h6, h7, h8⟩ := h
  refine ⟨by rw [ha 0 (by omega)]; exact h1, h2, by rw [ha 1 (by omega)]; exact h3, h4, hr, fi, h6, by rw [ha 2 (by omega)]; exact h7, fun i U hU => ?_⟩
  have e1 : stp a2 ((fi + i) % 20) = stp a ((fi + i) % 20) := funext fun j => ha _ (by omega)
  have e2 : stf f2 ((fi + i) % 20) = stf f ((fi + i) % 20) := funext fun j => hf _ (by omega)
  rw [e1, e2]
  exact h8 i U hU
theorem AR_kp {μ ν : MS} {W : Wv} {V : Sv} (h : AR (μ.1 0) (μ.2.2.1 2) W) (hk : Kp μ ν) (hr : RV ν V) : AR (ν.1 0) (ν.2.2.1 2) (W.1, W.2.1, V) := AR_now h hk.1 hk.2.2.2.1 hr
/-! copies -/
theorem cpy_0 {α : Type} (f g : Nat → α) (s d : Nat) : va_cpy f g s d 0 = g := by
  funext j
  exact pk_cpy_out (by omega)
theorem cpy_s {α : Type} (f g : Nat → α) (s d k : Nat) : va_up (va_cpy f g s d k) (d + k) (f (s + k)) = va_cpy f g s d (k + 1) := by
  funext j
  by_cases e : j = d + k
  · subst e
    rw [up_e, pk_cpy_in (by omega) (by omega)]
    congr 1
    omega
  · rw [up_n _ _ _ e]
    by_cases h : d ≤ j ∧ j < d + k
    · rw [pk_cpy_in h.1 h.2, pk_cpy_in h.1 (by omega)]
    · rw [pk_cpy_out (by omega), pk_cpy_out (by omega)]
def muH (μ : MS) (r : Nat) (g : Nat → UInt32) : MS := (μ.1, μ.2.1, va_up μ.2.2.1 r g, μ.2.2.2)
theorem wr_a1 (c : Ce) (m : Nat) (μ : MS) {k : Nat} (hk : k < 113844) : aI (wr c m μ) (m + 2) (nI k) = some (μ.1 1 k) := by
  rw [wr_r1, if_neg (nI_in hk (by omega)), nI_clamp (by omega)]
theorem wr_u1 (c : Ce) (m : Nat) (μ : MS) {k : Nat} (hk : k < 113844) (v : Int32) : sI (wr c m μ) (m + 2) (nI k) v = some (wr c m (muI μ 1 (va_up (μ.1 1) k v))) := by
  rw [wr_s1, if_neg (nI_in hk (by omega)), nI_clamp (by omega)]
  rfl
theorem wr_a11 (c : Ce) (m : Nat) (μ : MS) {k : Nat} (hk : k < 5421) : aI (wr c m μ) (m + 12) (nI k) = some (μ.1 11 k) := by
  rw [wr_r25, if_neg (nI_in hk (by omega)), nI_clamp (by omega)]
theorem wr_u11 (c : Ce) (m : Nat) (μ : MS) {k : Nat} (hk : k < 5421) (v : Int32) : sI (wr c m μ) (m + 12) (nI k) v = some (wr c m (muI μ 11 (va_up (μ.1 11) k v))) := by
  rw [wr_s25, if_neg (nI_in hk (by omega)), nI_clamp (by omega)]
  rfl
theorem wr_f3 (c : Ce) (m : Nat) (μ : MS) {k : Nat} (hk : k < 147) : aG (wr c m μ) (m + 4) (nI k) = some (μ.2.2.1 3 k) := by
  rw [wr_r3, if_neg (nI_in hk (by omega)), nI_clamp (by omega)]
theorem wr_h3 (c : Ce) (m : Nat) (μ : MS) {k : Nat} (hk : k < 147) (v : UInt32) : sG (wr c m μ) (m + 4) (nI k) v = some (wr c m (muH μ 3 (va_up (μ.2.2.1 3) k v))) := by
  rw [wr_s3, if_neg (nI_in hk (by omega)), nI_clamp (by omega)]
  rfl
theorem wr_h2 (c : Ce) (m : Nat) (μ : MS) {k : Nat} (hk : k < 147) (v : UInt32) : sG (wr c m μ) (m + 3) (nI k) v = some (wr c m (muH μ 2 (va_up (μ.2.2.1 2) k v))) := by
  rw [wr_s2, if_neg (nI_in hk (by omega)), nI_clamp (by omega)]
  rfl
theorem wr_f12 (c : Ce) (m : Nat) (μ : MS) {k : Nat} (hk : k < 7) : aG (wr c m μ) (m + 13) (nI k) = some (μ.2.2.1 12 k) := by
  rw [wr_r26, if_neg (nI_in hk (by omega)), nI_clamp (by omega)]
theorem wr_h12 (c : Ce) (m : Nat) (μ : MS) {k : Nat} (hk : k < 7) (v : UInt32) : sG (wr c m μ) (m + 13) (nI k) v = some (wr c m (muH μ 12 (va_up (μ.2.2.1 12) k v))) := by
  rw [wr_s26, if_neg (nI_in hk (by omega)), nI_clamp (by omega)]
  rfl
theorem muH_e (μ : MS) (r : Nat) (g : Nat → UInt32) : (muH μ r g).2.2.1 r = g := up_e _ _ _
theorem muH_n (μ : MS) {r s : Nat} (g : Nat → UInt32) (h : s ≠ r) : (muH μ r g).2.2.1 s = μ.2.2.1 s := up_n _ _ _ h
theorem muH_1 (μ : MS) (r : Nat) (g : Nat → UInt32) : (muH μ r g).1 = μ.1 := rfl
theorem muH_H (μ : MS) (r : Nat) (g h : Nat → UInt32) : muH (muH μ r g) r h = muH μ r h := by
  unfold muH
  rw [up_up]
theorem muH_s (μ : MS) (r : Nat) : muH μ r (μ.2.2.1 r) = μ := by
  unfold muH
  rw [up_self]
theorem muI_s (μ : MS) (r : Nat) : muI μ r (μ.1 r) = μ := by
  unfold muI
  rw [up_self]
theorem mu0_I (μ : MS) (a : Nat → Int32) : mu0 μ a = muI μ 0 a := rfl
theorem wr_v0 (c : Ce) (m : Nat) (μ : MS) {k : Nat} (hk : k < 113844) (v : Int32) : sI (wr c m μ) (m + 1) (nI k) v = some (wr c m (muI μ 0 (va_up (μ.1 0) k v))) := wr_u0 c m μ hk v
/-- row a, copied within itself -/
theorem lp_in (c : Ce) (m : Nat) (μ : MS) {s d : Nat} (hs : s + 5421 ≤ d ∨ d + 5421 ≤ s) (hb : s + 5421 ≤ 113844) (hd : d + 5421 ≤ 113844) (fs fd : Int32 → Int32) (h1 : ∀ k, fs (nI k) = nI (s + k)) (h2 : ∀ k, fd (nI k) = nI (d + k)) : it (fun (z : Int32 × Ce) => if (5421 : Int32) ≤ z.1 then some (Sum.inr ((), z.2)) else (gA z.2 9 0 m).bind fun x1 => (gA z.2 9 0 m).bind fun x2 => (aI z.2 x2 (fs z.1)).bind fun x3 => (sI z.2 x1 (fd z.1) x3).bind fun c4 => some (Sum.inl ((z.1 + (1 : Int32)), c4))) FU ((0 : Int32), wr c m μ) = some ((), wr c m (muI μ 0 (va_cpy (μ.1 0) (μ.1 0) s d 5421))) := by
  refine ok_eq (ok_cnt 0 5421 (fun k z => z = (nI k, wr c m (muI μ 0 (va_cpy (μ.1 0) (μ.1 0) s d k)))) (by omega) (by omega) ?_ ?_ ?_)
  · rw [cpy_0, muI_s]
    rfl
  · rintro k _ hk rfl
    show Ok (if (5421 : Int32) ≤ nI k then _ else _) _
    rw [nl_5421, if_le (by omega) (by omega), if_neg (by omega)]
    simp only [wr_g0, bind_s, h1, h2]
    rw [wr_a0 c m _ (by omega), bind_s, wr_v0 c m _ (by omega), bind_s]
    refine ok_some ?_
    show (nI k + 1, _) = _
    rw [nI_1, muI_e, pk_cpy_out (by omega), muI_muI, cpy_s]
  · rintro _ rfl
    show Ok (if (5421 : Int32) ≤ nI 5421 then _ else _) _
    rw [nl_5421, if_pos (Int32.le_refl _)]
    exact ok_some rfl
/-- f, copied within itself -/
theorem lp_inf (c : Ce) (m : Nat) (μ : MS) {s d : Nat} (hs : s + 7 ≤ d ∨ d + 7 ≤ s) (hb : s + 7 ≤ 147) (hd : d + 7 ≤ 147) (fs fd : Int32 → Int32) (h1 : ∀ k, fs (nI k) = nI (s + k)) (h2 : ∀ k, fd (nI k) = nI (d + k)) : it (fun (z : Int32 × Ce) => if (7 : Int32) ≤ z.1 then some (Sum.inr ((), z.2)) else (gA z.2 9 2 m).bind fun x1 => (gA z.2 9 2 m).bind fun x2 => (aG z.2 x2 (fs z.1)).bind fun x3 => (sG z.2 x1 (fd z.1) x3).bind fun c4 => some (Sum.inl ((z.1 + (1 : Int32)), c4))) FU ((0 : Int32), wr c m μ) = some ((), wr c m (muH μ 2 (va_cpy (μ.2.2.1 2) (μ.2.2.1 2) s d 7))) := by
  refine ok_eq (ok_cnt 0 7 (fun k z => z = (nI k, wr c m (muH μ 2 (va_cpy (μ.2.2.1 2) (μ.2.2.1 2) s d k)))) (by omega) (by omega) ?_ ?_ ?_)
  · rw [cpy_0, muH_s]
    rfl
  · rintro k _ hk rfl
    show Ok (if (7 : Int32) ≤ nI k then _ else _) _
    rw [nl_7, if_le (by omega) (by omega), if_neg (by omega)]
    simp only [wr_g2, bind_s, h1, h2]
    rw [wr_f2 c m _ (by omega), bind_s, wr_h2 c m _ (by omega), bind_s]
    refine ok_some ?_
    show (nI k + 1, _) = _
    rw [nI_1, muH_e, pk_cpy_out (by omega), muH_H, cpy_s]
  · rintro _ rfl
    show Ok (if (7 : Int32) ≤ nI 7 then _ else _) _
    rw [nl_7, if_pos (Int32.le_refl _)]
    exact ok_some rfl
theorem fn_a {s : Nat} (k : Nat) (x : Int32) (hx : x = nI s) : x + nI k = nI (s + k) := by rw [hx, nI_add]
theorem fn_5 (n k : Nat) : ((5424 : Int32) + (5421 : Int32) * nI n) + nI k = nI (5424 + 5421 * n + k) := by
  rw [nl_5424, nl_5421, pk_mul, nI_add, nI_add]
theorem fn_7 (n k : Nat) : ((7 : Int32) + (7 : Int32) * nI n) + nI k = nI (7 + 7 * n + k) := by
  rw [nl_7, pk_mul, nI_add, nI_add]
theorem rm_20 (a : Nat) (h : a < 2 ^ 31) : rm32 (nI a) (20 : Int32) = nI (a % 20) := by
  unfold rm32
  rw [nl_20]
  exact pk_rem h (by omega) (by omega)
def pushP (l : List Sv) (V : Sv) : List Sv := (if l.length = 20 then l.drop 1 else l) ++ [V]
/-- a step is kept -/
theorem sr_keep (c : Ce) (m : Nat) {μ : MS} {W : Wv} (h : AR (μ.1 0) (μ.2.2.1 2) W) : ∃ ν, m_X12_keep (wr c m μ) m = some ((), wr c m ν) ∧ AR (ν.1 0) (ν.2.2.1 2) (W.1, pushP W.2.1 W.2.2, W.2.2) ∧ KW μ ν := by
  obtain ⟨h1, h2, h3, h4, h5, fi, h6, h7, h8⟩ := h
  obtain ⟨tx, pa, V⟩ := W
  have h1 : μ.1 0 0 = nI tx.length := h1
  have h2 : tx.length ≤ 4 := h2
  have h3 : μ.1 0 1 = nI pa.length := h3
  have h4 : pa.length ≤ 20 := h4
  have h5 : RR (μ.1 0) (μ.2.2.1 2) V := h5
  have h8 : ∀ i V, pa[i]? = some V → RR (stp (μ.1 0) ((fi + i) % 20)) (stf (μ.2.2.1 2) ((fi + i) % 20)) V := h8
  -- ahead of the copies
  have stage : ∃ a p f2, (if μ.1 0 1 = (20 : Int32) then (gA (wr c m μ) 9 0 m).bind fun zx26 => (gA (wr c m μ) 9 0 m).bind fun zx27 => (aI (wr c m μ) zx27 (2 : Int32)).bind fun zx28 => (nz (20 : Int32)).bind fun zz29 => (sI (wr c m μ) zx26 (2 : Int32) (rm32 (zx28 + (1 : Int32)) (20 : Int32))).bind fun zc30 => (gA zc30 9 0 m).bind fun zx31 => (aI zc30 zx31 (1 : Int32)).bind fun zx32 => (sI zc30 zx31 (1 : Int32) (zx32 - (1 : Int32))).bind fun zc33 => some ((), zc33) else some ((), wr c m μ)) = some ((), wr c m (mu0 μ a)) ∧ (∀ j, 3 ≤ j → a j = μ.1 0 j) ∧ a 0 = nI tx.length ∧ a 1 = nI p.length ∧ p.length < 20 ∧ a 2 = nI f2 ∧ f2 < 20 ∧ p = (if pa.length = 20 then pa.drop 1 else pa) ∧ ∀ i V, p[i]? = some V → RR (stp (μ.1 0) ((f2 + i) % 20)) (stf (μ.2.2.1 2) ((f2 + i) % 20)) V := by
    by_cases e : pa.length = 20
    · refine ⟨va_up (va_up (μ.1 0) 2 (nI ((fi + 1) % 20))) 1 (nI 19), pa.drop 1, (fi + 1) % 20, ?_, fun j hj => ?_, ?_, ?_, ?_, ?_, by omega, ?_, fun i V hV => ?_⟩
      · have n20 : nz (20 : Int32) = some () := rfl
        have e20 : nI 20 - 1 = nI 19 := rfl
        rw [h3, e, if_pos nl_20.symm]
        simp only [wr_g0, bind_s, rd_2, n20, h7, wt_2]
        rw [nI_1, rm_20 _ (by omega)]
        simp only [wr_g0, bind_s, rd_1, wt_1]
        have e1 : (ma μ 2 (nI ((fi + 1) % 20))).1 0 1 = nI 20 := by
          rw [ma_at, if_neg (by omega), h3, e]
        rw [e1, e20]
        have e7 : ma μ 2 (nI ((fi + 1) % 20)) = mu0 μ (va_up (μ.1 0) 2 (nI ((fi + 1) % 20))) := rfl
        rw [e7, ma_of]
      · rw [up_n _ _ _ (by omega), up_n _ _ _ (by omega)]
      · rw [up_n _ _ _ (by omega), up_n _ _ _ (by omega)]
        exact h1
      · rw [up_e, List.length_drop, e]
      · rw [List.length_drop, e]
        omega
      · rw [up_n _ _ _ (by omega), up_e]
      · rw [if_pos e]
      · rw [List.getElem?_drop] at hV
        have e9 : ((fi + 1) % 20 + i) % 20 = (fi + (1 + i)) % 20 := by omega
        rw [e9]
        exact h8 (1 + i) V hV
    · refine ⟨μ.1 0, pa, fi, ?_, fun j hj => rfl, h1, h3, by omega, h7, h6, ?_, h8⟩
      · rw [h3, if_neg (fun z => e ((nI_eq (by omega) (by omega)).mp (z.trans nl_20))), mu0_self]
      · rw [if_neg e]
  obtain ⟨a, p, f2, s1, s2, s3, s4, s5, s6, s7, s8, s9⟩ := stage
  have hn20 : (f2 + p.length) % 20 < 20 := Nat.mod_lt _ (by omega)
  generalize hn : (f2 + p.length) % 20 = n at hn20
  unfold m_X12_keep
  rw [wr_g0, bind_s, rd_1, bind_s]
  rw [wr_g0] at s1
  rw [s1, bind_s]
  have st : m_X12_stepAt (nI f2) (nI p.length) = some (nI n) := by
    unfold m_X12_stepAt
    show some (rm32 (nI f2 + nI p.length) 20) = _
    rw [nI_add, rm_20 _ (by omega), hn]
  rw [wr_g0, bind_s, rd_2, bind_s, bind_s, rd_1, bind_s, mu0_a, s4, s6, st, bind_s]
  have l1 := lp_in c m (mu0 μ a) (s := 3) (d := 5424 + 5421 * n) (by omega) (by omega) (by omega) (fun x => (3 : Int32) + x) (fun x => ((5424 : Int32) + (5421 : Int32) * nI n) + x) (fun k => fn_a k 3 nl_3) (fun k => fn_5 n k)
  rw [mu0_a] at l1
  rw [l1, bind_s]
  generalize hμ2 : muI (mu0 μ a) 0 (va_cpy a a 3 (5424 + 5421 * n) 5421) = μ2
  have l2 := lp_inf c m μ2 (s := 0) (d := 7 + 7 * n) (by omega) (by omega) (by omega) (fun x => x) (fun x => ((7 : Int32) + (7 : Int32) * nI n) + x) (fun k => by rw [Nat.zero_add]) (fun k => fn_7 n k)
  rw [l2, bind_s]
  rw [wr_g0, bind_s, rd_1, bind_s, wt_1, bind_s]
  have hf2 : μ2.2.2.1 2 = μ.2.2.1 2 := by rw [← hμ2]; rfl
  rw [hf2]
  have e0 : μ2.1 0 = va_cpy a a 3 (5424 + 5421 * n) 5421 := by rw [← hμ2, muI_e]
  have e1 : (muH μ2 2 (va_cpy (μ.2.2.1 2) (μ.2.2.1 2) 0 (7 + 7 * n) 7)).1 0 1 = nI p.length := by
    rw [muH_1, e0, pk_cpy_out (by omega)]
    exact s4
  rw [e1, nI_1]
  refine ⟨_, rfl, ?_, ?_⟩
  · show AR (va_up (μ2.1 0) 1 (nI (p.length + 1))) (va_up μ2.2.2.1 2 (va_cpy (μ.2.2.1 2) (μ.2.2.1 2) 0 (7 + 7 * n) 7) 2) (tx, pushP pa V, V)
    rw [up_e, e0]
    have hp : pushP pa V = p ++ [V] := by unfold pushP; rw [s8]
    have rdv : ∀ j, 3 ≤ j → j < 5424 → va_up (va_cpy a a 3 (5424 + 5421 * n) 5421) 1 (nI (p.length + 1)) j = μ.1 0 j := by
      intro j h1 h2
      rw [up_n _ _ _ (by omega), pk_cpy_out (by omega)]
      exact s2 j h1
    refine ⟨?_, h2, ?_, ?_, ?_, f2, s7, ?_, ?_⟩
    · rw [up_n _ _ _ (by omega), pk_cpy_out (by omega)]
      exact s3
    · rw [up_e]
      show _ = nI (pushP pa V).length
      rw [hp, List.length_append]
      rfl
    · show (pushP pa V).length ≤ 20
      rw [hp, List.length_append]
      show p.length + 1 ≤ 20
      omega
    · exact RR_congr rdv (fun k hk => pk_cpy_out (by omega)) h5
    · rw [up_n _ _ _ (by omega), pk_cpy_out (by omega)]
      exact s6
    · intro i U hU
      have hU : (p ++ [V])[i]? = some U := by rw [← hp]; exact hU
      by_cases hi : i < p.length
      · rw [List.getElem?_append_left hi] at hU
        have hne : (f2 + i) % 20 ≠ n := by omega
        have hlt : (f2 + i) % 20 < 20 := Nat.mod_lt _ (by omega)
        refine RR_congr (fun j j1 j2 => ?_) (fun k hk => ?_) (s9 i U hU)
        · show va_up (va_cpy a a 3 (5424 + 5421 * n) 5421) 1 (nI (p.length + 1)) (5424 + 5421 * ((f2 + i) % 20) + (j - 3)) = μ.1 0 (5424 + 5421 * ((f2 + i) % 20) + (j - 3))
          rw [up_n _ _ _ (by omega), pk_cpy_out (by omega)]
          exact s2 _ (by omega)
        · show va_cpy (μ.2.2.1 2) (μ.2.2.1 2) 0 (7 + 7 * n) 7 (7 + 7 * ((f2 + i) % 20) + k) = μ.2.2.1 2 (7 + 7 * ((f2 + i) % 20) + k)
          rw [pk_cpy_out (by omega)]
      · have hil : i = p.length := by
          have := (List.getElem?_eq_some_iff.mp hU).1
          rw [List.length_append] at this
          have this : i < p.length + 1 := this
          omega
        subst hil
        rw [List.getElem?_append_right (Nat.le_refl _), Nat.sub_self] at hU
        have hUV : V = U := by simpa using hU
        subst hUV
        rw [hn]
        refine RR_congr (fun j j1 j2 => ?_) (fun k hk => ?_) h5
        · show va_up (va_cpy a a 3 (5424 + 5421 * n) 5421) 1 (nI (p.length + 1)) (5424 + 5421 * n + (j - 3)) = μ.1 0 j
          rw [up_n _ _ _ (by omega), pk_cpy_in (by omega) (by omega)]
          have e9 : 3 + (5424 + 5421 * n + (j - 3) - (5424 + 5421 * n)) = j := by omega
          rw [e9]
          exact s2 j j1
        · show va_cpy (μ.2.2.1 2) (μ.2.2.1 2) 0 (7 + 7 * n) 7 (7 + 7 * n + k) = μ.2.2.1 2 k
          rw [pk_cpy_in (by omega) (by omega)]
          exact congrArg (μ.2.2.1 2) (by omega)
  · rw [← hμ2]
    refine ⟨fun r hr => ?_, rfl, rfl, rfl, fun _ _ => rfl⟩
    show va_up (va_up (va_up μ.1 0 a) 0 _) 0 _ r = μ.1 r
    rw [up_n _ _ _ (by omega), up_n _ _ _ (by omega), up_n _ _ _ (by omega)]
/-- a step is taken back -/
theorem sr_undo (c : Ce) (m : Nat) {μ : MS} {W : Wv} (h : AR (μ.1 0) (μ.2.2.1 2) W) : (W.2.1 = [] ∧ m_X12_undo (wr c m μ) m = some (-1, wr c m μ)) ∨ ∃ p U ν, W.2.1 = p ++ [U] ∧ m_X12_undo (wr c m μ) m = some (nI p.length, wr c m ν) ∧ AR (ν.1 0) (ν.2.2.1 2) (W.1, p, U) ∧ KW μ ν := by
  obtain ⟨h1, h2, h3, h4, h5, fi, h6, h7, h8⟩ := h
  obtain ⟨tx, pa, V⟩ := W
  have h1 : μ.1 0 0 = nI tx.length := h1
  have h2 : tx.length ≤ 4 := h2
  have h3 : μ.1 0 1 = nI pa.length := h3
  have h4 : pa.length ≤ 20 := h4
  have h8 : ∀ i V, pa[i]? = some V → RR (stp (μ.1 0) ((fi + i) % 20)) (stf (μ.2.2.1 2) ((fi + i) % 20)) V := h8
  unfold m_X12_undo
  rw [wr_g0, bind_s, rd_1, bind_s, bind_s]
  by_cases e : pa.length = 0
  · refine Or.inl ⟨List.length_eq_zero_iff.mp e, ?_⟩
    rw [h3, e, if_pos nI_0]
  · refine Or.inr ?_
    obtain ⟨p, U, hpU⟩ : ∃ p U, pa = p ++ [U] := ⟨pa.dropLast, pa.getLast (fun z => e (by rw [z]; rfl)), (List.dropLast_concat_getLast _).symm⟩
    have hpl : pa.length = p.length + 1 := by rw [hpU, List.length_append]; rfl
    have hn20 : (fi + p.length) % 20 < 20 := Nat.mod_lt _ (by omega)
    generalize hn : (fi + p.length) % 20 = n at hn20
    have hU := h8 p.length U (by rw [hpU, List.getElem?_append_right (Nat.le_refl _), Nat.sub_self]; rfl)
    rw [hn] at hU
    have st : m_X12_stepAt (nI fi) (nI p.length) = some (nI n) := by
      unfold m_X12_stepAt
      show some (rm32 (nI fi + nI p.length) 20) = _
      rw [nI_add, rm_20 _ (by omega), hn]
    rw [h3, if_neg (nI_ne0 (by omega) (by omega)), rd_1, bind_s, h3, hpl, nI_pred, wt_1, bind_s]
    have q2 : (ma μ 1 (nI p.length)).1 0 2 = nI fi := by rw [ma_at, if_neg (by omega)]; exact h7
    have q1 : (ma μ 1 (nI p.length)).1 0 1 = nI p.length := by rw [ma_at, if_pos rfl]
    rw [wr_g0, bind_s, rd_2, bind_s, bind_s, rd_1, bind_s, q2, q1, st, bind_s]
    generalize hμ1 : ma μ 1 (nI p.length) = μ1 at q1 q2
    have ea : μ1.1 0 = va_up (μ.1 0) 1 (nI p.length) := by
      rw [← hμ1]
      show va_up μ.1 0 (va_up (μ.1 0) 1 (nI p.length)) 0 = _
      exact up_e _ _ _
    have ef : μ1.2.2.1 2 = μ.2.2.1 2 := by rw [← hμ1]; rfl
    have l1 := lp_in c m μ1 (s := 5424 + 5421 * n) (d := 3) (by omega) (by omega) (by omega) (fun x => ((5424 : Int32) + (5421 : Int32) * nI n) + x) (fun x => (3 : Int32) + x) (fun k => fn_5 n k) (fun k => fn_a k 3 nl_3)
    rw [ea] at l1
    rw [l1, bind_s]
    generalize hμ2 : muI μ1 0 (va_cpy (va_up (μ.1 0) 1 (nI p.length)) (va_up (μ.1 0) 1 (nI p.length)) (5424 + 5421 * n) 3 5421) = μ2
    have l2 := lp_inf c m μ2 (s := 7 + 7 * n) (d := 0) (by omega) (by omega) (by omega) (fun x => ((7 : Int32) + (7 : Int32) * nI n) + x) (fun x => x) (fun k => fn_7 n k) (fun k => by rw [Nat.zero_add])
    rw [l2, bind_s]
    rw [wr_g0, bind_s, rd_1, bind_s]
    have hf2 : μ2.2.2.1 2 = μ.2.2.1 2 := by rw [← hμ2]; exact ef
    have e0 : μ2.1 0 = va_cpy (va_up (μ.1 0) 1 (nI p.length)) (va_up (μ.1 0) 1 (nI p.length)) (5424 + 5421 * n) 3 5421 := by rw [← hμ2, muI_e]
    have e1 : (muH μ2 2 (va_cpy (μ2.2.2.1 2) (μ2.2.2.1 2) (7 + 7 * n) 0 7)).1 0 1 = nI p.length := by
      rw [muH_1, e0, pk_cpy_out (by omega), up_e]
    rw [e1]
    refine ⟨p, U, _, hpU, rfl, ?_, ?_⟩
    · show AR (μ2.1 0) (va_up μ2.2.2.1 2 (va_cpy (μ2.2.2.1 2) (μ2.2.2.1 2) (7 + 7 * n) 0 7) 2) (tx, p, U)
      rw [up_e, e0, hf2]
      refine ⟨?_, h2, ?_, by show p.length ≤ 20; omega, ?_, fi, h6, ?_, fun i T hT => ?_⟩
      · rw [pk_cpy_out (by omega), up_n _ _ _ (by omega)]
        exact h1
      · rw [pk_cpy_out (by omega), up_e]
      · refine RR_congr (fun j j1 j2 => ?_) (fun k hk => ?_) hU
        · rw [pk_cpy_in (by omega) (by omega), up_n _ _ _ (by omega)]
          rfl
        · rw [pk_cpy_in (by omega) (by omega)]
          exact congrArg (μ.2.2.1 2) (by omega)
      · rw [pk_cpy_out (by omega), up_n _ _ _ (by omega)]
        exact h7
      · have hip : i < p.length := (List.getElem?_eq_some_iff.mp hT).1
        have hT2 : pa[i]? = some T := by rw [hpU, List.getElem?_append_left hip]; exact hT
        refine RR_congr (fun j j1 j2 => ?_) (fun k hk => ?_) (h8 i T hT2)
        · show va_cpy _ _ (5424 + 5421 * n) 3 5421 (5424 + 5421 * ((fi + i) % 20) + (j - 3)) = μ.1 0 (5424 + 5421 * ((fi + i) % 20) + (j - 3))
          rw [pk_cpy_out (by omega), up_n _ _ _ (by omega)]
        · show va_cpy _ _ (7 + 7 * n) 0 7 (7 + 7 * ((fi + i) % 20) + k) = μ.2.2.1 2 (7 + 7 * ((fi + i) % 20) + k)
          rw [pk_cpy_out (by omega)]
    · rw [← hμ2, ← hμ1]
      refine ⟨fun r hr => ?_, rfl, rfl, rfl, fun _ _ => rfl⟩
      show va_up (va_up μ.1 0 _) 0 _ r = μ.1 r
      rw [up_n _ _ _ (by omega), up_n _ _ _ (by omega)]
/-! THE IMAGE -/
theorem sr_copy01 (c : Ce) (m : Nat) (μ : MS) : m_X12_copy (wr c m μ) (m + 1) (m + 2) = some ((), wr c m (muI μ 1 (va_cpy (μ.1 0) (μ.1 1) 0 0 113844))) := by
  unfold m_X12_copy
  refine ok_eq (ok_call (P := fun o => o = ((), wr c m (muI μ 1 (va_cpy (μ.1 0) (μ.1 1) 0 0 113844)))) (ok_cnt 0 113844 (fun k z => z = (nI k, wr c m (muI μ 1 (va_cpy (μ.1 0) (μ.1 1) 0 0 k)))) (by omega) (by omega) ?_ ?_ ?_) (fun a h => by rw [h]; exact ok_some rfl))
  · rw [cpy_0, muI_s]
    rfl
  · rintro k _ hk rfl
    show Ok (if (113844 : Int32) ≤ nI k then _ else (aI (wr c m (muI μ 1 (va_cpy (μ.1 0) (μ.1 1) 0 0 k))) (m + 1) (nI k)).bind fun zx4 => (sI (wr c m (muI μ 1 (va_cpy (μ.1 0) (μ.1 1) 0 0 k))) (m + 2) (nI k) zx4).bind fun zc5 => _) _
    rw [nl_113844, if_le (by omega) (by omega), if_neg (by omega), wr_a0 c m _ hk, bind_s, wr_u1 c m _ hk, bind_s]
    refine ok_some ?_
    show (nI k + 1, _) = _
    have e := cpy_s (μ.1 0) (μ.1 1) 0 0 k
    rw [Nat.zero_add] at e
    rw [nI_1, muI_e, muI_n μ _ (by omega), muI_muI, e]
  · rintro _ rfl
    show Ok (if (113844 : Int32) ≤ nI 113844 then _ else _) _
    rw [nl_113844, if_pos (Int32.le_refl _)]
    exact ok_some rfl
theorem sr_copy10 (c : Ce) (m : Nat) (μ : MS) : m_X12_copy (wr c m μ) (m + 2) (m + 1) = some ((), wr c m (muI μ 0 (va_cpy (μ.1 1) (μ.1 0) 0 0 113844))) := by
  unfold m_X12_copy
  refine ok_eq (ok_call (P := fun o => o = ((), wr c m (muI μ 0 (va_cpy (μ.1 1) (μ.1 0) 0 0 113844)))) (ok_cnt 0 113844 (fun k z => z = (nI k, wr c m (muI μ 0 (va_cpy (μ.1 1) (μ.1 0) 0 0 k)))) (by omega) (by omega) ?_ ?_ ?_) (fun a h => by rw [h]; exact ok_some rfl))
  · rw [cpy_0, muI_s]
    rfl
  · rintro k _ hk rfl
    show Ok (if (113844 : Int32) ≤ nI k then _ else (aI (wr c m (muI μ 0 (va_cpy (μ.1 1) (μ.1 0) 0 0 k))) (m + 2) (nI k)).bind fun zx4 => (sI (wr c m (muI μ 0 (va_cpy (μ.1 1) (μ.1 0) 0 0 k))) (m + 1) (nI k) zx4).bind fun zc5 => _) _
    rw [nl_113844, if_le (by omega) (by omega), if_neg (by omega), wr_a1 c m _ hk, bind_s, wr_v0 c m _ hk, bind_s]
    refine ok_some ?_
    show (nI k + 1, _) = _
    have e := cpy_s (μ.1 1) (μ.1 0) 0 0 k
    rw [Nat.zero_add] at e
    rw [nI_1, muI_e, muI_n μ _ (by omega), muI_muI, e]
  · rintro _ rfl
    show Ok (if (113844 : Int32) ≤ nI 113844 then _ else _) _
    rw [nl_113844, if_pos (Int32.le_refl _)]
    exact ok_some rfl
theorem sr_copyF23 (c : Ce) (m : Nat) (μ : MS) : m_X12_copyFloats (wr c m μ) (m + 3) (m + 4) = some ((), wr c m (muH μ 3 (va_cpy (μ.2.2.1 2) (μ.2.2.1 3) 0 0 147))) := by
  unfold m_X12_copyFloats
  refine ok_eq (ok_call (P := fun o => o = ((), wr c m (muH μ 3 (va_cpy (μ.2.2.1 2) (μ.2.2.1 3) 0 0 147)))) (ok_cnt 0 147 (fun k z => z = (nI k, wr c m (muH μ 3 (va_cpy (μ.2.2.1 2) (μ.2.2.1 3) 0 0 k)))) (by omega) (by omega) ?_ ?_ ?_) (fun a h => by rw [h]; exact ok_some rfl))
  · rw [cpy_0, muH_s]
    rfl
  · rintro k _ hk rfl
    show Ok (if (147 : Int32) ≤ nI k then _ else (aG (wr c m (muH μ 3 (va_cpy (μ.2.2.1 2) (μ.2.2.1 3) 0 0 k))) (m + 3) (nI k)).bind fun zx4 => (sG (wr c m (muH μ 3 (va_cpy (μ.2.2.1 2) (μ.2.2.1 3) 0 0 k))) (m + 4) (nI k) zx4).bind fun zc5 => _) _
    rw [nl_147, if_le (by omega) (by omega), if_neg (by omega), wr_f2 c m _ hk, bind_s, wr_h3 c m _ hk, bind_s]
    refine ok_some ?_
    show (nI k + 1, _) = _
    have e := cpy_s (μ.2.2.1 2) (μ.2.2.1 3) 0 0 k
    rw [Nat.zero_add] at e
    rw [nI_1, muH_e, muH_n μ _ (by omega), muH_H, e]
  · rintro _ rfl
    show Ok (if (147 : Int32) ≤ nI 147 then _ else _) _
    rw [nl_147, if_pos (Int32.le_refl _)]
    exact ok_some rfl
theorem sr_copyF32 (c : Ce) (m : Nat) (μ : MS) : m_X12_copyFloats (wr c m μ) (m + 4) (m + 3) = some ((), wr c m (muH μ 2 (va_cpy (μ.2.2.1 3) (μ.2.2.1 2) 0 0 147))) := by
  unfold m_X12_copyFloats
  refine ok_eq (ok_call (P := fun o => o = ((), wr c m (muH μ 2 (va_cpy (μ.2.2.1 3) (μ.2.2.1 2) 0 0 147)))) (ok_cnt 0 147 (fun k z => z = (nI k, wr c m (muH μ 2 (va_cpy (μ.2.2.1 3) (μ.2.2.1 2) 0 0 k)))) (by omega) (by omega) ?_ ?_ ?_) (fun a h => by rw [h]; exact ok_some rfl))
  · rw [cpy_0, muH_s]
    rfl
  · rintro k _ hk rfl
    show Ok (if (147 : Int32) ≤ nI k then _ else (aG (wr c m (muH μ 2 (va_cpy (μ.2.2.1 3) (μ.2.2.1 2) 0 0 k))) (m + 4) (nI k)).bind fun zx4 => (sG (wr c m (muH μ 2 (va_cpy (μ.2.2.1 3) (μ.2.2.1 2) 0 0 k))) (m + 3) (nI k) zx4).bind fun zc5 => _) _
    rw [nl_147, if_le (by omega) (by omega), if_neg (by omega), wr_f3 c m _ hk, bind_s, wr_h2 c m _ hk, bind_s]
    refine ok_some ?_
    show (nI k + 1, _) = _
    have e := cpy_s (μ.2.2.1 3) (μ.2.2.1 2) 0 0 k
    rw [Nat.zero_add] at e
    rw [nI_1, muH_e, muH_n μ _ (by omega), muH_H, e]
  · rintro _ rfl
    show Ok (if (147 : Int32) ≤ nI 147 then _ else _) _
    rw [nl_147, if_pos (Int32.le_refl _)]
    exact ok_some rfl
theorem AR_congr {a a2 : Nat → Int32} {f f2 : Nat → UInt32} {W : Wv} (h : AR a f W) (ha : ∀ j, j < 113844 → a2 j = a j) (hf : ∀ j, j < 147 → f2 j = f j) : AR a2 f2 W := by
  obtain ⟨h1, h2, h3, h4, h5, fi, h6, h7, h8⟩ := h
  refine ⟨by rw [ha 0 (by omega)]; exact h1, h2, by rw [ha 1 (by omega)]; exact h3, h4, RR_congr (fun j _ _ => ha j (by omega)) (fun k _ => hf k (by omega)) h5, fi, h6, by rw [ha 2 (by omega)]; exact h7, fun i U hU => ?_⟩
  have hlt : (fi + i) % 20 < 20 := Nat.mod_lt _ (by omega)
  exact RR_congr (fun j _ _ => ha _ (by omega)) (fun k _ => hf _ (by omega)) (h8 i U hU)
theorem sr_image (c : Ce) (m : Nat) {μ : MS} {W : Wv} (h : AR (μ.1 0) (μ.2.2.1 2) W) : ∃ ν, m_X12_image (wr c m μ) m = some (nI (W.2.2.2.1 5), wr c m ν) ∧ AR (ν.1 1) (ν.2.2.1 3) W ∧ (∀ r, r ≠ 1 → ν.1 r = μ.1 r) ∧ ν.2.1 = μ.2.1 ∧ (∀ r, r ≠ 3 → ν.2.2.1 r = μ.2.2.1 r) ∧ ν.2.2.2 = μ.2.2.2 := by
  unfold m_X12_image
  simp only [wr_g0, wr_g1, bind_s, sr_copy01, wr_g2, wr_g3, sr_copyF23, rd_5]
  have e5 : μ.1 0 5 = nI (W.2.2.2.1 5) := h.2.2.2.2.1.2.1 5 (by decide)
  refine ⟨muH (muI μ 1 (va_cpy (μ.1 0) (μ.1 1) 0 0 113844)) 3 (va_cpy (μ.2.2.1 2) (μ.2.2.1 3) 0 0 147), ?_, ?_, fun r hr => ?_, rfl, fun r hr => ?_, rfl⟩
  · rw [muH_1, muI_n μ _ (by omega), e5]
    rfl
  · rw [muH_1, muI_e, muH_e]
    exact AR_congr h (fun j hj => by rw [pk_cpy_in (by omega) (by omega)]; exact congrArg (μ.1 0) (by omega)) (fun j hj => by rw [pk_cpy_in (by omega) (by omega)]; exact congrArg (μ.2.2.1 2) (by omega))
  · rw [muH_1, muI_n μ _ hr]
  · rw [muH_n _ _ hr]
    rfl
theorem sr_back (c : Ce) (m : Nat) {μ : MS} {W : Wv} (h : AR (μ.1 1) (μ.2.2.1 3) W) : ∃ ν, m_X12_back (wr c m μ) m = some (nI (W.2.2.2.1 5), wr c m ν) ∧ AR (ν.1 0) (ν.2.2.1 2) W ∧ KW μ ν := by
  unfold m_X12_back
  simp only [wr_g0, wr_g1, bind_s, sr_copy10, wr_g2, wr_g3, sr_copyF32, rd_5]
  have e5 : μ.1 1 5 = nI (W.2.2.2.1 5) := h.2.2.2.2.1.2.1 5 (by decide)
  refine ⟨muH (muI μ 0 (va_cpy (μ.1 1) (μ.1 0) 0 0 113844)) 2 (va_cpy (μ.2.2.1 3) (μ.2.2.1 2) 0 0 147), ?_, ?_, fun r hr => ?_, rfl, ?_, ?_, fun _ _ => rfl⟩
  · rw [muH_1, muI_e, pk_cpy_in (by omega) (by omega)]
    show some (μ.1 1 5, _) = _
    rw [e5]
    rfl
  · rw [muH_1, muI_e, muH_e]
    exact AR_congr h (fun j hj => by rw [pk_cpy_in (by omega) (by omega)]; exact congrArg (μ.1 1) (by omega)) (fun j hj => by rw [pk_cpy_in (by omega) (by omega)]; exact congrArg (μ.2.2.1 3) (by omega))
  · rw [muH_1, muI_n μ _ (by omega)]
  · exact rfl
  · exact rfl
/-! ASIDE -/
def AS (μ : MS) (V : Sv) : Prop := RR (fun j => μ.1 11 (j - 3)) (μ.2.2.1 12) V
theorem AS_kp {μ ν : MS} {V : Sv} (h : AS μ V) (hk : Kp μ ν) : AS ν V := by
  unfold AS
  rw [hk.2.1 11 (by omega), hk.2.2.2.2.2.1]
  exact h
theorem sr_putAside (c : Ce) (m : Nat) {μ : MS} {V : Sv} (h : RV μ V) : ∃ ν, m_X12_putAside (wr c m μ) m = some ((), wr c m ν) ∧ AS ν V ∧ (∀ r, r ≠ 11 → ν.1 r = μ.1 r) ∧ ν.2.1 = μ.2.1 ∧ (∀ r, r ≠ 12 → ν.2.2.1 r = μ.2.2.1 r) ∧ ν.2.2.2 = μ.2.2.2 := by
  have l1 : it (fun (zs1 : Int32 × Ce) => if (5421 : Int32) ≤ zs1.1 then some (Sum.inr ((), zs1.2)) else (gA zs1.2 9 25 m).bind fun zx11 => (gA zs1.2 9 0 m).bind fun zx12 => (aI zs1.2 zx12 ((3 : Int32) + zs1.1)).bind fun zx13 => (sI zs1.2 zx11 zs1.1 zx13).bind fun zc14 => some (Sum.inl ((zs1.1 + (1 : Int32)), zc14))) FU ((0 : Int32), wr c m μ) = some ((), wr c m (muI μ 11 (va_cpy (μ.1 0) (μ.1 11) 3 0 5421))) := by
    refine ok_eq (ok_cnt 0 5421 (fun k z => z = (nI k, wr c m (muI μ 11 (va_cpy (μ.1 0) (μ.1 11) 3 0 k)))) (by omega) (by omega) ?_ ?_ ?_)
    · rw [cpy_0, muI_s]
      rfl
    · rintro k _ hk rfl
      show Ok (if (5421 : Int32) ≤ nI k then _ else _) _
      rw [nl_5421, if_le (by omega) (by omega), if_neg (by omega)]
      simp only [wr_g0, wr_g25, bind_s, fn_a k 3 nl_3]
      rw [wr_a0 c m _ (by omega), bind_s, wr_u11 c m _ (by omega), bind_s]
      refine ok_some ?_
      show (nI k + 1, _) = _
      have e := cpy_s (μ.1 0) (μ.1 11) 3 0 k
      rw [Nat.zero_add] at e
      rw [nI_1, muI_e, muI_n μ _ (by omega), muI_muI, e]
    · rintro _ rfl
      show Ok (if (5421 : Int32) ≤ nI 5421 then _ else _) _
      rw [nl_5421, if_pos (Int32.le_refl _)]
      exact ok_some rfl
  have l2 : ∀ μ : MS, it (fun (zs4 : Int32 × Ce) => if (7 : Int32) ≤ zs4.1 then some (Sum.inr ((), zs4.2)) else (gA zs4.2 9 26 m).bind fun zx7 => (gA zs4.2 9 2 m).bind fun zx8 => (aG zs4.2 zx8 zs4.1).bind fun zx9 => (sG zs4.2 zx7 zs4.1 zx9).bind fun zc10 => some (Sum.inl ((zs4.1 + (1 : Int32)), zc10))) FU ((0 : Int32), wr c m μ) = some ((), wr c m (muH μ 12 (va_cpy (μ.2.2.1 2) (μ.2.2.1 12) 0 0 7))) := by
    intro μ
    refine ok_eq (ok_cnt 0 7 (fun k z => z = (nI k, wr c m (muH μ 12 (va_cpy (μ.2.2.1 2) (μ.2.2.1 12) 0 0 k)))) (by omega) (by omega) ?_ ?_ ?_)
    · rw [cpy_0, muH_s]
      rfl
    · rintro k _ hk rfl
      show Ok (if (7 : Int32) ≤ nI k then _ else _) _
      rw [nl_7, if_le (by omega) (by omega), if_neg (by omega)]
      simp only [wr_g2, wr_g26, bind_s]
      rw [wr_f2 c m _ (by omega), bind_s, wr_h12 c m _ (by omega), bind_s]
      refine ok_some ?_
      show (nI k + 1, _) = _
      have e := cpy_s (μ.2.2.1 2) (μ.2.2.1 12) 0 0 k
      rw [Nat.zero_add] at e
      rw [nI_1, muH_e, muH_n μ _ (by omega), muH_H, e]
    · rintro _ rfl
      show Ok (if (7 : Int32) ≤ nI 7 then _ else _) _
      rw [nl_7, if_pos (Int32.le_refl _)]
      exact ok_some rfl
  unfold m_X12_putAside
  rw [l1, bind_s, l2, bind_s]
  refine ⟨_, rfl, ?_, fun r hr => ?_, rfl, fun r hr => ?_, rfl⟩
  · unfold AS
    rw [muH_1, muI_e, muH_e]
    exact RR_congr (fun j h1 h2 => by rw [pk_cpy_in (by omega) (by omega)]; exact congrArg (μ.1 0) (by omega)) (fun k hk => by rw [pk_cpy_in (by omega) (by omega)]; exact congrArg (μ.2.2.1 2) (by omega)) h
  · rw [muH_1, muI_n μ _ hr]
  · rw [muH_n _ _ hr]
    rfl
theorem sr_bringBack (c : Ce) (m : Nat) {μ : MS} {V : Sv} (h : AS μ V) : ∃ ν, m_X12_bringBack (wr c m μ) m = some ((), wr c m ν) ∧ RV ν V ∧ Kp μ ν := by
  have l1 : it (fun (zs1 : Int32 × Ce) => if (5421 : Int32) ≤ zs1.1 then some (Sum.inr ((), zs1.2)) else (gA zs1.2 9 0 m).bind fun zx11 => (gA zs1.2 9 25 m).bind fun zx12 => (aI zs1.2 zx12 zs1.1).bind fun zx13 => (sI zs1.2 zx11 ((3 : Int32) + zs1.1) zx13).bind fun zc14 => some (Sum.inl ((zs1.1 + (1 : Int32)), zc14))) FU ((0 : Int32), wr c m μ) = some ((), wr c m (muI μ 0 (va_cpy (μ.1 11) (μ.1 0) 0 3 5421))) := by
    refine ok_eq (ok_cnt 0 5421 (fun k z => z = (nI k, wr c m (muI μ 0 (va_cpy (μ.1 11) (μ.1 0) 0 3 k)))) (by omega) (by omega) ?_ ?_ ?_)
    · rw [cpy_0, muI_s]
      rfl
    · rintro k _ hk rfl
      show Ok (if (5421 : Int32) ≤ nI k then _ else _) _
      rw [nl_5421, if_le (by omega) (by omega), if_neg (by omega)]
      simp only [wr_g0, wr_g25, bind_s, fn_a k 3 nl_3]
      rw [wr_a11 c m _ (by omega), bind_s, wr_v0 c m _ (by omega), bind_s]
      refine ok_some ?_
      show (nI k + 1, _) = _
      have e := cpy_s (μ.1 11) (μ.1 0) 0 3 k
      rw [Nat.zero_add] at e
      rw [nI_1, muI_e, muI_n μ _ (by omega), muI_muI, e]
    · rintro _ rfl
      show Ok (if (5421 : Int32) ≤ nI 5421 then _ else _) _
      rw [nl_5421, if_pos (Int32.le_refl _)]
      exact ok_some rfl
  have l2 : ∀ μ : MS, it (fun (zs4 : Int32 × Ce) => if (7 : Int32) ≤ zs4.1 then some (Sum.inr ((), zs4.2)) else (gA zs4.2 9 2 m).bind fun zx7 => (gA zs4.2 9 26 m).bind fun zx8 => (aG zs4.2 zx8 zs4.1).bind fun zx9 => (sG zs4.2 zx7 zs4.1 zx9).bind fun zc10 => some (Sum.inl ((zs4.1 + (1 : Int32)), zc10))) FU ((0 : Int32), wr c m μ) = some ((), wr c m (muH μ 2 (va_cpy (μ.2.2.1 12) (μ.2.2.1 2) 0 0 7))) := by
    intro μ
    refine ok_eq (ok_cnt 0 7 (fun k z => z = (nI k, wr c m (muH μ 2 (va_cpy (μ.2.2.1 12) (μ.2.2.1 2) 0 0 k)))) (by omega) (by omega) ?_ ?_ ?_)
    · rw [cpy_0, muH_s]
      rfl
    · rintro k _ hk rfl
      show Ok (if (7 : Int32) ≤ nI k then _ else _) _
      rw [nl_7, if_le (by omega) (by omega), if_neg (by omega)]
      simp only [wr_g2, wr_g26, bind_s]
      rw [wr_f12 c m _ (by omega), bind_s, wr_h2 c m _ (by omega), bind_s]
      refine ok_some ?_
      show (nI k + 1, _) = _
      have e := cpy_s (μ.2.2.1 12) (μ.2.2.1 2) 0 0 k
      rw [Nat.zero_add] at e
      rw [nI_1, muH_e, muH_n μ _ (by omega), muH_H, e]
    · rintro _ rfl
      show Ok (if (7 : Int32) ≤ nI 7 then _ else _) _
      rw [nl_7, if_pos (Int32.le_refl _)]
      exact ok_some rfl
  unfold m_X12_bringBack
  rw [l1, bind_s, l2, bind_s]
  refine ⟨_, rfl, ?_, fun j hj => ?_, fun r hr => ?_, rfl, fun j hj => ?_, ?_, ?_, fun _ _ => rfl⟩
  · show RR (va_up μ.1 0 (va_cpy (μ.1 11) (μ.1 0) 0 3 5421) 0) (va_up μ.2.2.1 2 (va_cpy (μ.2.2.1 12) (μ.2.2.1 2) 0 0 7) 2) V
    rw [up_e, up_e]
    exact RR_congr (fun j h1 h2 => by rw [pk_cpy_in (by omega) (by omega)]; exact congrArg (μ.1 11) (by omega)) (fun k hk => by rw [pk_cpy_in (by omega) (by omega)]; exact congrArg (μ.2.2.1 12) (by omega)) h
  · show va_up μ.1 0 (va_cpy (μ.1 11) (μ.1 0) 0 3 5421) 0 j = _
    rw [up_e, pk_cpy_out (by omega)]
  · rw [muH_1, muI_n μ _ (by omega)]
  · show va_up μ.2.2.1 2 (va_cpy (μ.2.2.1 12) (μ.2.2.1 2) 0 0 7) 2 j = _
    rw [up_e, pk_cpy_out (by omega)]
  · exact rfl
  · exact rfl
