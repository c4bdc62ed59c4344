/-! THE WHOLE: bar; a step is kept: what stays -/
def KZ (μ ν : MS) : Prop := (∀ r, r ≠ 0 → ν.1 r = μ.1 r) ∧ ν.2.1 = μ.2.1 ∧ (∀ r, r ≠ 2 → ν.2.2.1 r = μ.2.2.1 r) ∧ ν.2.2.2 = μ.2.2.2
theorem KZ_W {μ ν : MS} (h : KZ μ ν) : KW μ ν := ⟨fun r hr => h.1 r (by omega), by rw [h.2.1], h.2.2.1 3 (by decide), h.2.2.1 12 (by decide), fun r _ => by rw [h.2.2.2]⟩
theorem sr_keep2 (c : Ce) (m : Nat) {μ : MS} {W : Wv} (h : AR (μ.1 0) (μ.2.2.1 2) W) : ∃ ν, m_X12_keep (wr c m μ) m = some ((), wr c m ν) ∧ AR (ν.1 0) (ν.2.2.1 2) (W.1, pushP W.2.1 W.2.2, W.2.2) ∧ KZ μ ν := by
  obtain ⟨h1, h2, h3, h4, h5, fi, h6, h7, h8⟩ := h
  obtain ⟨tx, pa, V⟩ := W
  have h1 : μ.1 0 0 = nI tx.length := h1
  have h2 : tx.length ≤ 4 := h2
  have h3 : μ.1 0 1 = nI pa.length := h3
  have h4 : pa.length ≤ 20 := h4
  have h5 : RR (μ.1 0) (μ.2.2.1 2) V := h5
  have h8 : ∀ i V, pa[i]? = some V → RR (stp (μ.1 0) ((fi + i) % 20)) (stf (μ.2.2.1 2) ((fi + i) % 20)) V := h8
  -- ahead of the copies
  have stage : ∃ a p f2, (if μ.1 0 1 = (20 : Int32) then (gA (wr c m μ) 9 0 m).bind fun zx26 => (gA (wr c m μ) 9 0 m).bind fun zx27 => (aI (wr c m μ) zx27 (2 : Int32)).bind fun zx28 => (nz (20 : Int32)).bind fun zz29 => (sI (wr c m μ) zx26 (2 : Int32) (rm32 (zx28 + (1 : Int32)) (20 : Int32))).bind fun zc30 => (gA zc30 9 0 m).bind fun zx31 => (aI zc30 zx31 (1 : Int32)).bind fun zx32 => (sI zc30 zx31 (1 : Int32) (zx32 - (1 : Int32))).bind fun zc33 => some ((), zc33) else some ((), wr c m μ)) = some ((), wr c m (mu0 μ a)) ∧ (∀ j, 3 ≤ j → a j = μ.1 0 j) ∧ a 0 = nI tx.length ∧ a 1 = nI p.length ∧ p.length < 20 ∧ a 2 = nI f2 ∧ f2 < 20 ∧ p = (if pa.length = 20 then pa.drop 1 else pa) ∧ ∀ i V, p[i]? = some V → RR (stp (μ.1 0) ((f2 + i) % 20)) (stf (μ.2.2.1 2) ((f2 + i) % 20)) V := by
    by_cases e : pa.length = 20
    · refine ⟨va_up (va_up (μ.1 0) 2 (nI ((fi + 1) % 20))) 1 (nI 19), pa.drop 1, (fi + 1) % 20, ?_, fun j hj => ?_, ?_, ?_, ?_, ?_, by omega, ?_, fun i V hV => ?_⟩
      · have n20 : nz (20 : Int32) = some () := rfl
        have e20 : nI 20 - 1 = nI 19 := rfl
        rw [h3, e, if_pos nl_20.symm]
        simp only [wr_g0, bind_s, rd_2, n20, h7, wt_2]
        rw [nI_1, rm_20 _ (by omega)]
        simp only [wr_g0, bind_s, rd_1, wt_1]
        have e1 : (ma μ 2 (nI ((fi + 1) % 20))).1 0 1 = nI 20 := by
          rw [ma_at, if_neg (by omega), h3, e]
        rw [e1, e20]
        have e7 : ma μ 2 (nI ((fi + 1) % 20)) = mu0 μ (va_up (μ.1 0) 2 (nI ((fi + 1) % 20))) := rfl
        rw [e7, ma_of]
      · rw [up_n _ _ _ (by omega), up_n _ _ _ (by omega)]
      · rw [up_n _ _ _ (by omega), up_n _ _ _ (by omega)]
        exact h1
      · rw [up_e, List.length_drop, e]
      · rw [List.length_drop, e]
        omega
      · rw [up_n _ _ _ (by omega), up_e]
      · rw [if_pos e]
      · rw [List.getElem?_drop] at hV
        have e9 : ((fi + 1) % 20 + i) % 20 = (fi + (1 + i)) % 20 := by omega
        rw [e9]
        exact h8 (1 + i) V hV
    · refine ⟨μ.1 0, pa, fi, ?_, fun j hj => rfl, h1, h3, by omega, h7, h6, ?_, h8⟩
      · rw [h3, if_neg (fun z => e ((nI_eq (by omega) (by omega)).mp (z.trans nl_20))), mu0_self]
      · rw [if_neg e]
  obtain ⟨a, p, f2, s1, s2, s3, s4, s5, s6, s7, s8, s9⟩ := stage
  have hn20 : (f2 + p.length) % 20 < 20 := Nat.mod_lt _ (by omega)
  generalize hn : (f2 + p.length) % 20 = n at hn20
  unfold m_X12_keep
  rw [wr_g0, bind_s, rd_1, bind_s]
  rw [wr_g0] at s1
  rw [s1, bind_s]
  have st : m_X12_stepAt (nI f2) (nI p.length) = some (nI n) := by
    unfold m_X12_stepAt
    show some (rm32 (nI f2 + nI p.length) 20) = _
    rw [nI_add, rm_20 _ (by omega), hn]
  rw [wr_g0, bind_s, rd_2, bind_s, bind_s, rd_1, bind_s, mu0_a, s4, s6, st, bind_s]
  have l1 := lp_in c m (mu0 μ a) (s := 3) (d := 5424 + 5421 * n) (by omega) (by omega) (by omega) (fun x => (3 : Int32) + x) (fun x => ((5424 : Int32) + (5421 : Int32) * nI n) + x) (fun k => fn_a k 3 nl_3) (fun k => fn_5 n k)
  rw [mu0_a] at l1
  rw [l1, bind_s]
  generalize hμ2 : muI (mu0 μ a) 0 (va_cpy a a 3 (5424 + 5421 * n) 5421) = μ2
  have l2 := lp_inf c m μ2 (s := 0) (d := 7 + 7 * n) (by omega) (by omega) (by omega) (fun x => x) (fun x => ((7 : Int32) + (7 : Int32) * nI n) + x) (fun k => by rw [Nat.zero_add]) (fun k => fn_7 n k)
  rw [l2, bind_s]
  rw [wr_g0, bind_s, rd_1, bind_s, wt_1, bind_s]
  have hf2 : μ2.2.2.1 2 = μ.2.2.1 2 := by rw [← hμ2]; rfl
  rw [hf2]
  have e0 : μ2.1 0 = va_cpy a a 3 (5424 + 5421 * n) 5421 := by rw [← hμ2, muI_e]
  have e1 : (muH μ2 2 (va_cpy (μ.2.2.1 2) (μ.2.2.1 2) 0 (7 + 7 * n) 7)).1 0 1 = nI p.length := by
    rw [muH_1, e0, pk_cpy_out (by omega)]
    exact s4
  rw [e1, nI_1]
  refine ⟨_, rfl, ?_, ?_⟩
  · show AR (va_up (μ2.1 0) 1 (nI (p.length + 1))) (va_up μ2.2.2.1 2 (va_cpy (μ.2.2.1 2) (μ.2.2.1 2) 0 (7 + 7 * n) 7) 2) (tx, pushP pa V, V)
    rw [up_e, e0]
    have hp : pushP pa V = p ++ [V] := by unfold pushP; rw [s8]
    have rdv : ∀ j, 3 ≤ j → j < 5424 → va_up (va_cpy a a 3 (5424 + 5421 * n) 5421) 1 (nI (p.length + 1)) j = μ.1 0 j := by
      intro j h1 h2
      rw [up_n _ _ _ (by omega), pk_cpy_out (by omega)]
      exact s2 j h1
    refine ⟨?_, h2, ?_, ?_, ?_, f2, s7, ?_, ?_⟩
    · rw [up_n _ _ _ (by omega), pk_cpy_out (by omega)]
      exact s3
    · rw [up_e]
      show _ = nI (pushP pa V).length
      rw [hp, List.length_append]
      rfl
    · show (pushP pa V).length ≤ 20
      rw [hp, List.length_append]
      show p.length + 1 ≤ 20
      omega
    · exact RR_congr rdv (fun k hk => pk_cpy_out (by omega)) h5
    · rw [up_n _ _ _ (by omega), pk_cpy_out (by omega)]
      exact s6
    · intro i U hU
      have hU : (p ++ [V])[i]? = some U := by rw [← hp]; exact hU
      by_cases hi : i < p.length
      · rw [List.getElem?_append_left hi] at hU
        have hne : (f2 + i) % 20 ≠ n := by omega
        have hlt : (f2 + i) % 20 < 20 := Nat.mod_lt _ (by omega)
        refine RR_congr (fun j j1 j2 => ?_) (fun k hk => ?_) (s9 i U hU)
        · show va_up (va_cpy a a 3 (5424 + 5421 * n) 5421) 1 (nI (p.length + 1)) (5424 + 5421 * ((f2 + i) % 20) + (j - 3)) = μ.1 0 (5424 + 5421 * ((f2 + i) % 20) + (j - 3))
          rw [up_n _ _ _ (by omega), pk_cpy_out (by omega)]
          exact s2 _ (by omega)
        · show va_cpy (μ.2.2.1 2) (μ.2.2.1 2) 0 (7 + 7 * n) 7 (7 + 7 * ((f2 + i) % 20) + k) = μ.2.2.1 2 (7 + 7 * ((f2 + i) % 20) + k)
          rw [pk_cpy_out (by omega)]
      · have hil : i = p.length := by
          have := (List.getElem?_eq_some_iff.mp hU).1
          rw [List.length_append] at this
          have this : i < p.length + 1 := this
          omega
        subst hil
        rw [List.getElem?_append_right (Nat.le_refl _), Nat.sub_self] at hU
        have hUV : V = U := by simpa using hU
        subst hUV
        rw [hn]
        refine RR_congr (fun j j1 j2 => ?_) (fun k hk => ?_) h5
        · show va_up (va_cpy a a 3 (5424 + 5421 * n) 5421) 1 (nI (p.length + 1)) (5424 + 5421 * n + (j - 3)) = μ.1 0 j
          rw [up_n _ _ _ (by omega), pk_cpy_in (by omega) (by omega)]
          have e9 : 3 + (5424 + 5421 * n + (j - 3) - (5424 + 5421 * n)) = j := by omega
          rw [e9]
          exact s2 j j1
        · show va_cpy (μ.2.2.1 2) (μ.2.2.1 2) 0 (7 + 7 * n) 7 (7 + 7 * n + k) = μ.2.2.1 2 k
          rw [pk_cpy_in (by omega) (by omega)]
          exact congrArg (μ.2.2.1 2) (by omega)
  · rw [← hμ2]
    refine ⟨fun r hr => ?_, rfl, fun r hr => up_n _ _ _ hr, rfl⟩
    show va_up (va_up (va_up μ.1 0 a) 0 _) 0 _ r = μ.1 r
    rw [up_n _ _ _ (by omega), up_n _ _ _ (by omega), up_n _ _ _ (by omega)]
theorem KZ_L {μ ν : MS} {l : List (Nat × Nat)} (h : KZ μ ν) (hl : Laid μ l) : Laid ν l := by
  unfold Laid at hl ⊢
  rw [h.2.2.2, h.1 14 (by decide), h.1 15 (by decide)]
  exact hl
section
variable {ce d : Ce} {nx nx2 m : Nat} {own own2 fx A B T A2 T2 B2 : Nat → Nat} {κ κb κt κ2 : Nat × Nat × Nat} {sp : Nat × Nat × Nat × Nat} {W Wb W2 : Wv} {z : Tx5} {μ : MS} {q K S : Nat}
/-- may a cube be barred: the class -/
def cbB (V : Sv) (mk b f : Nat) : Bool := decide (V.2.1 5 < 2) && decide (cubS V.1.1 mk b &&& V.1.2.2.1 = 0) && hld V.1 V.2.2.1 mk b (f - 1)
theorem cb_in {V : Sv} {c mk b f : Nat} (ss : SS ce nx A κ V) (hi : IV c V) (hmk : mk < 2 ^ V.1.1) (hb : b < 64) (f1 : 1 ≤ f) (f2 : f < V.2.1 4 + 1) : m_X8_canBar ce (A 0) (nI (mk * 64 + b)) (nI f) = some (if cbB V mk b f = true then 1 else 0) := by
  have h4 := IV_top hi
  have h5 := hi.2.2.1.1
  unfold m_X8_canBar cbB
  rw [ss_r3 ss, bind_s, bind_s]
  by_cases h2 : V.2.1 5 < 2
  · have e : (if nI (V.2.1 5) = 0 then (some (Sum.inr ()) : Option (Int32 ⊕ Unit)) else if nI (V.2.1 5) = (1 : Int32) then some (Sum.inr ()) else some (Sum.inl (0 : Int32))) = some (Sum.inr ()) := by
      rw [if_l 0 (0 : Int32) rfl (by omega) (by omega), if_l 1 (1 : Int32) rfl (by omega) (by omega)]
      by_cases z0 : V.2.1 5 = 0
      · rw [if_pos z0]
      · rw [if_neg z0, if_pos (by omega)]
    rw [e, bind_s, Sum.elim_inr, ss_rcv ss, bind_s, ck_in ss h4 f1 f2, bind_s, if_neg ne10, bind_s, ss_hasInit ss hmk hb, bind_s]
    by_cases hc : cubS V.1.1 mk b &&& V.1.2.2.1 = 0
    · rw [if_pos hc, if_pos rfl, bind_s, nl_1, pk_sub f1, ss_wth ss hi (by omega), bind_s, bind_s, ss_keeps ss hmk hb, bind_s]
      show _ = some (if (decide (V.2.1 5 < 2) && decide (cubS V.1.1 mk b &&& V.1.2.2.1 = 0) && clsd V.1.1 V.1.2.1 (wth V.1 V.2.2.1 (f - 1)) (cubS V.1.1 mk b)) = true then 1 else 0)
      rw [decide_eq_true h2, decide_eq_true hc]
      cases clsd V.1.1 V.1.2.1 (wth V.1 V.2.2.1 (f - 1)) (cubS V.1.1 mk b) <;> rfl
    · rw [if_neg hc, if_neg ne10, decide_eq_false hc, Bool.and_false, Bool.false_and, if_neg (by decide)]
  · have e : (if nI (V.2.1 5) = 0 then (some (Sum.inr ()) : Option (Int32 ⊕ Unit)) else if nI (V.2.1 5) = (1 : Int32) then some (Sum.inr ()) else some (Sum.inl (0 : Int32))) = some (Sum.inl 0) := by
      rw [if_l 0 (0 : Int32) rfl (by omega) (by omega), if_l 1 (1 : Int32) rfl (by omega) (by omega), if_neg (by omega), if_neg (by omega)]
    rw [e, bind_s, Sum.elim_inl, decide_eq_false h2, Bool.false_and, Bool.false_and, if_neg (by decide)]
theorem cb_out {V : Sv} {c : Nat} (ss : SS ce nx A κ V) (hi : IV c V) (cu : Int32) {p : Int32} (hp : ¬ Inb 1 (V.2.1 4 + 1) p) : m_X8_canBar ce (A 0) cu p = some 0 := by
  have h4 := IV_top hi
  have h5 := hi.2.2.1.1
  unfold m_X8_canBar
  rw [ss_r3 ss, bind_s, bind_s, if_l 0 (0 : Int32) rfl (by omega) (by omega), if_l 1 (1 : Int32) rfl (by omega) (by omega)]
  by_cases z0 : V.2.1 5 = 0
  · rw [if_pos z0, bind_s, Sum.elim_inr, ss_rcv ss, bind_s, ck_out ss h4 hp, bind_s, if_pos rfl]
  · rw [if_neg z0]
    by_cases z1 : V.2.1 5 = 1
    · rw [if_pos z1, bind_s, Sum.elim_inr, ss_rcv ss, bind_s, ck_out ss h4 hp, bind_s, if_pos rfl]
    · rw [if_neg z1, bind_s, Sum.elim_inl]
theorem g_bar (h : GI nx ce m fx q K S) (hq : q < 512) (p p2 p3 : Int32) : GoS nx m fx q K S (m_X11_bar nx ce (fx 0) p p2 p3) (fun d => m_X12_bar d m p p2 p3) := by
  have h0 := h
  obtain ⟨own, A, B, T, κ, κb, κt, sp, W, Wb, z, μ, c, h1, h2, h3, h4⟩ := h
  have hv := h3.2.2 W.2.2 (Or.inl rfl)
  have hcq := h3.1
  obtain ⟨a1, a2, a3⟩ := CP_XS h1
  obtain ⟨ss, mp, m1, m2⟩ := CP_SZ h1
  have h26 := p2_64 (IV_L hv.1)
  have htop := IV_top hv.1
  have h5 := hv.1.2.2.1.1
  have hr := REF_RV h2
  have r5 : ∀ c2, aI (wr c2 m μ) (m + 1) (5 : Int32) = some (nI (W.2.2.2.1 5)) := fun c2 => by rw [rd_5]; exact congrArg some (hr.2.1 5 (by decide))
  have r4 : ∀ c2, aI (wr c2 m μ) (m + 1) (4 : Int32) = some (nI (W.2.2.2.1 4)) := fun c2 => by rw [rd_4]; exact congrArg some (hr.2.1 4 (by decide))
  have no : m_X11_bar nx ce (fx 0) p p2 p3 = some (-1, ce, 0, 0) → m_X12_bar (wr ce m μ) m p p2 p3 = some (-1, wr ce m μ) → GoS nx m fx q K S (m_X11_bar nx ce (fx 0) p p2 p3) (fun d => m_X12_bar d m p p2 p3) := fun e1 e2 => by
    rw [← CP_h h1] at e2
    exact gos_no h0 hq e1 e2
  have hs2 : ∀ x y : Option (Int32 × Ce), (if (1 : Int32) < nI (W.2.2.2.1 5) then x else y) = if W.2.2.2.1 5 < 2 then y else x := fun x y => by
    rw [nl_1, if_lt (by omega) (by omega)]
    by_cases e : W.2.2.2.1 5 < 2
    · rw [if_neg (by omega), if_pos e]
    · rw [if_pos (by omega), if_neg e]
  rcases mask_c m2 m hr.1 p p2 with ⟨mk, b, hmk, hb, rfl, rfl, e1, e2⟩ | ⟨e1, e2⟩
  · have hble : b ≤ mk := by rw [← hb]; exact Nat.and_le_right
    by_cases hf : Inb 1 (W.2.2.2.1 4 + 1) p3
    · obtain ⟨f, f1, f2, rfl⟩ := hf
      have hcb := cb_in ss hv.1 hmk (show b < 64 by omega) f1 f2
      have refB : ∀ c2, m_X12_bar (wr c2 m μ) m (nI mk) (nI b) (nI f) = if cbB W.2.2 mk b f = true then ((m_X12_keep (wr c2 m μ) m).bind fun zq15 => (rcv zq15.2 9 m).bind fun zz16 => (m_X12_addCube zq15.2 m (nI mk) (nI b) (nI f)).bind fun zq17 => (rcv zq17.2 9 m).bind fun zz18 => (m_X12_manyOf zq17.2 m (nI f)).bind fun zx19 => some (zx19, zq17.2)) else some (-1, wr c2 m μ) := fun c2 => by
        unfold m_X12_bar cbB
        rw [wr_g0, bind_s, r5, bind_s, hs2]
        by_cases z2 : W.2.2.2.1 5 < 2
        · rw [if_pos z2, wr_rcv, bind_s, e2, bind_s, if_neg ne10, bind_s, r4, bind_s, show m_X12_isIn (nI f) (1 : Int32) (nI (W.2.2.2.1 4)) = some 1 from isin_in (lo := 1) f1 (by omega) (by omega), bind_s, if_neg ne10, bind_s, sr_cubeSet c2 m μ hr.1.2.2.1 hr.1.1 (by omega) (by omega), bind_s, bind_s, sr_starts, bind_s, hr.1.2.2.2.2.2.2.1]
          by_cases hc : cubS W.2.2.1.1 mk b &&& W.2.2.1.2.2.1 = 0
          · rw [if_pos (lcmp_0.mpr hc), bind_s, nl_1, pk_sub f1, sr_doesHold c2 m μ hr.1 hr.2.2.1 (by omega) (by omega) (by omega), bind_s, decide_eq_true z2, decide_eq_true hc]
            cases hld W.2.2.1 W.2.2.2.2.1 mk b (f - 1)
            · rfl
            · rfl
          · rw [if_neg (fun e => hc (lcmp_0.mp e)), decide_eq_false hc, Bool.and_false, Bool.false_and, if_neg (by decide)]
        · rw [if_neg z2, decide_eq_false z2, Bool.false_and, Bool.false_and, if_neg (by decide)]
      by_cases hcc : cbB W.2.2 mk b f = true
      · have hcc0 := hcc
        unfold cbB at hcc0
        rw [Bool.and_eq_true, Bool.and_eq_true] at hcc0
        obtain ⟨⟨u1, u2⟩, u3⟩ := hcc0
        have u1 := of_decide_eq_true u1
        have u2 := of_decide_eq_true u2
        have hlen := IV_len hv.1
        have hsl : (srtF W.2.2.2.2.1).length = W.2.2.2.2.1.length := srtF_len fun q hq => by have := IV_fr hv.1 q hq; omega
        refine gos_ok ?_
        unfold m_X11_bar
        rw [a2, bind_s, a3, bind_s, m1, bind_s, cm_rcv m2, bind_s, e1, bind_s, if_neg ne10, cc_cubeOf, bind_s, ss_rcv ss, bind_s, hcb, bind_s, if_pos hcc, if_neg ne10, bind_s, CP_w7 h1, bind_s]
        refine ok_adcB (ok_mono (g_rem h1 hv.1) (fun r hr2 => ?_))
        obtain ⟨r1, r2, own1, k1, hd1⟩ := hr2
        have s1 := (CP_SZ hd1).1
        obtain ⟨x1, x2⟩ := d4_1 s1
        rw [ss_r11 s1, bind_s, bind_s, cw_rcv (ss_row s1), bind_s]
        refine ok_adcB (ok_mono (cw_putLast (ss_row s1) x1 x2 (show (srtF W.2.2.2.2.1).length < 4900 by omega) (fr := f) (mask := mk) (bits := b) (by omega) (by omega) (by omega)) (fun y hy => ?_))
        have hy : RowTo r.2.1 (nx + r.2.2.1) (A 1) (A 2) (A 3) (A 4) κ.1 (srtF (addC W.2.2.2.2.1 f mk b)) y.2.1 y.2.2.1 y.2.2.2 := by
          rw [← pL_srt _ (by omega)]
          exact hy
        obtain ⟨A2, κ2, t1, t2⟩ := ss_frames s1 hy
        obtain ⟨t3, t4⟩ := Ev_Es t2
        have hs := sz_ev (V2 := hbarV W.2.2 f mk b) (CP_SZ hd1) (CP_liv hd1) t1 rfl t3.1 t3.2.1 t4
        obtain ⟨⟨g0, g1⟩, g2⟩ := GI_wt h2 h3 hq hd1 (Nat.le_add_right _ _) hs t3
        have q1 := ss_r11 hs.1
        have q2 := ss_row hs.1
        obtain ⟨q3, q4⟩ := srt_count (cur := addC W.2.2.2.2.1 f mk b) (a := f) (by omega)
        rw [t3.1] at q1
        rw [q1, bind_s, cw_rcv q2, bind_s, cw_countOf q2 (by omega) q4, bind_s]
        refine ok_some ?_
        obtain ⟨ν0, n1, n2, n3⟩ := sr_keep y.2.1 m h2.1
        have n2r : RR (ν0.1 0) (ν0.2.2.1 2) (W.2.2.1, W.2.2.2.1, W.2.2.2.2.1, W.2.2.2.2.2) := n2.2.2.2.2.1
        obtain ⟨_, n4, bb, rfl, n5, n6⟩ := rr_addCube y.2.1 m ν0 n2r (by omega) (f := f) (mask := mk) (bits := b) (by omega) (by omega) (by omega)
        rw [mu0_self] at n4
        have hm2 : m_X12_bar (wr y.2.1 m μ) m (nI mk) (nI b) (nI f) = some (nI (manyF (addC W.2.2.2.2.1 f mk b) f), wr y.2.1 m (mu0 ν0 bb)) := by
          rw [refB, if_pos hcc, n1, bind_s, wr_rcv, bind_s, n4, bind_s, wr_rcv, bind_s, sr_manyOf y.2.1 m (mu0 ν0 bb) (fr := addC W.2.2.2.2.1 f mk b) (by rw [mu0_a]; exact n5.2.2.1) (by omega), bind_s]
        rw [← g1] at hm2
        have q3 : stR (srtF (hbarV W.2.2 f mk b).2.2.1) (f + 1) - stR (srtF (hbarV W.2.2 f mk b).2.2.1) f = manyF (addC W.2.2.2.2.1 f mk b) f := q3
        rw [q3]
        refine ⟨g0, _, hm2, ?_⟩
        have p1 := t2.2.2.2.1
        have p2 := t2.2.2.2.2.1
        have hg := g2 (mu0 ν0 bb) ν0 (c + 1) (K + (0 + y.2.2.1 + r.2.2.1)) (S + (0 + y.2.2.2 + r.2.2.2)) n2 n3 (Kp_mu0 ν0 n6) (by
          show RR ((mu0 ν0 bb).1 0) (ν0.2.2.1 2) (hbarV W.2.2 f mk b)
          rw [mu0_a]
          exact n5) (IV_bar hv.1 u1 f1 (by omega) hmk hb u2 u3 (by omega)) (NI_mono hv.2 (by omega)) (by omega) (by omega) (CST_bar h4 hcq (by omega) (by omega))
        show GI (nx + (0 + y.2.2.1 + r.2.2.1)) _ _ _ _ _ _
        rw [show nx + (0 + y.2.2.1 + r.2.2.1) = nx + r.2.2.1 + y.2.2.1 by omega]
        exact hg
      · refine no ?_ ?_
        · unfold m_X11_bar
          rw [a2, bind_s, a3, bind_s, m1, bind_s, cm_rcv m2, bind_s, e1, bind_s, if_neg ne10, cc_cubeOf, bind_s, ss_rcv ss, bind_s, hcb, bind_s, if_neg hcc, if_pos rfl]
        · rw [refB, if_neg hcc]
    · refine no ?_ ?_
      · unfold m_X11_bar
        rw [a2, bind_s, a3, bind_s, m1, bind_s, cm_rcv m2, bind_s, e1, bind_s, if_neg ne10, cc_cubeOf, bind_s, ss_rcv ss, bind_s, cb_out ss hv.1 _ hf, bind_s, if_pos rfl]
      · unfold m_X12_bar
        rw [wr_g0, bind_s, r5, bind_s, hs2]
        by_cases z2 : W.2.2.2.1 5 < 2
        · rw [if_pos z2, wr_rcv, bind_s, e2, bind_s, if_neg ne10, bind_s, r4, bind_s, show m_X12_isIn p3 (1 : Int32) (nI (W.2.2.2.1 4)) = some 0 from isin_out (lo := 1) (by omega) (by omega) hf, bind_s, if_pos rfl]
        · rw [if_neg z2]
  · refine no ?_ ?_
    · unfold m_X11_bar
      rw [a2, bind_s, a3, bind_s, m1, bind_s, cm_rcv m2, bind_s, e1, bind_s, if_pos rfl]
    · unfold m_X12_bar
      rw [wr_g0, bind_s, r5, bind_s, hs2]
      by_cases z2 : W.2.2.2.1 5 < 2
      · rw [if_pos z2, wr_rcv, bind_s, e2, bind_s, if_pos rfl]
      · rw [if_neg z2]
end
