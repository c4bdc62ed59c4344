/-! SHORTEST -/
theorem fst_some {p : Nat → Bool} {n : Nat} (h : fst64 p = some n) : n < 64 ∧ p n = true ∧ ∀ j, j < n → p j = false := by
  unfold fst64 at h
  rw [List.find?_range_eq_some] at h
  obtain ⟨h1, h2, h3⟩ := h
  exact ⟨List.mem_range.mp h2, h1, fun j hj => by have := h3 j hj; simpa using this⟩
theorem fst_no {p : Nat → Bool} (h : fst64 p = none) : ∀ j, j < 64 → p j = false := by
  unfold fst64 at h
  rw [List.find?_eq_none] at h
  intro j hj
  have := h j (List.mem_range.mpr hj)
  simpa using this
abbrev opn (M : Mv) (g : Int64) (n : Nat) : Bool := decide (clo (befS M) n g &&& M.2.2.1 ≠ 0)
def shS (M : Mv) (g : Int64) (N : Nat) : Nat → Option Nat
  | 0 => lowS (M.2.2.1 &&& clo (befS M) N g)
  | i + 1 => (shS M g N i).bind fun s => lowS (aftN M.2.1 s 15 4 &&& clo (befS M) (N - (i + 1)) g)
theorem low_ne {x : Int64} (h : x ≠ 0) : ∃ k, lowS x = some k ∧ k < 64 ∧ B x k = true := by
  obtain ⟨k, h1, h2, h3, _⟩ := bitsL_low h
  exact ⟨k, h3, h1, h2⟩
theorem and_com (x y : Int64) : x &&& y = y &&& x := B_ext fun k _ => by rw [B_and, B_and, Bool.and_comm]
theorem aft_lt {M : Mv} (hw : WM M) {s t : Nat} (hs : s < 2 ^ M.1) (ht : t < 64) (hb : B (aftN M.2.1 s 15 4) t = true) : t < 2 ^ M.1 := by
  unfold aftN at hb
  rw [B_mkS _ ht, List.any_eq_true] at hb
  obtain ⟨i, hi, h2⟩ := hb
  have hi := List.mem_range.mp hi
  have h3 := hw.2.2.1 s hs i hi
  have : M.2.1 s i = t := by
    have := (Bool.and_eq_true_iff.mp h2).2
    simpa using this
  omega
theorem shS_at {M : Mv} (hw : WM M) {g : Int64} {N : Nat} (hN : fst64 (opn M g) = some N) : ∀ i, i ≤ N → ∃ s, shS M g N i = some s ∧ s < 2 ^ M.1 ∧ B (clo (befS M) (N - i) g) s = true ∧ (i < N → B (clo (befS M) (N - i - 1) g) s = false) := by
  obtain ⟨h1, h2, h3⟩ := fst_some hN
  have h64 := p2_64 hw.2.1
  intro i
  induction i with
  | zero =>
    intro _
    have h2 : clo (befS M) N g &&& M.2.2.1 ≠ 0 := of_decide_eq_true h2
    rw [and_com] at h2
    obtain ⟨s, a1, a2, a3⟩ := low_ne h2
    rw [B_and, Bool.and_eq_true] at a3
    refine ⟨s, a1, ?_, a3.2, fun hlt => ?_⟩
    · refine Nat.lt_of_not_le fun z => ?_
      have := hw.2.2.2.1 s a2 z
      rw [this] at a3
      cases a3.1
    · have h4 := h3 (N - 1) (by omega)
      have h4 : clo (befS M) (N - 1) g &&& M.2.2.1 = 0 := by simpa using h4
      have := congrArg (fun z => B z s) h4
      simp only [B_and, B_0, a3.1, Bool.and_true] at this
      exact this
  | succ i ih =>
    intro hi
    obtain ⟨s, a1, a2, a3, a4⟩ := ih (by omega)
    have a4 := a4 (by omega)
    have hk : N - i = (N - (i + 1)) + 1 := by omega
    have hk2 : N - i - 1 = N - (i + 1) := by omega
    rw [hk] at a3
    rw [hk2] at a4
    have a3 : B (clo (befS M) (N - (i + 1)) g ||| befS M (clo (befS M) (N - (i + 1)) g)) s = true := a3
    rw [B_or, a4, Bool.false_or, bef_iff hw _ (by omega)] at a3
    have a5 : aftN M.2.1 s 15 4 &&& clo (befS M) (N - (i + 1)) g ≠ 0 := of_decide_eq_true (Bool.and_eq_true_iff.mp a3).2
    obtain ⟨t, b1, b2, b3⟩ := low_ne a5
    rw [B_and, Bool.and_eq_true] at b3
    refine ⟨t, ?_, aft_lt hw a2 b2 b3.1, b3.2, fun hlt => ?_⟩
    · show (shS M g N i).bind _ = _
      rw [a1]
      exact b1
    · have hk3 : N - (i + 1) = (N - (i + 1) - 1) + 1 := by omega
      rw [hk3] at a4
      have a4 : B (clo (befS M) (N - (i + 1) - 1) g ||| befS M (clo (befS M) (N - (i + 1) - 1) g)) s = false := a4
      rw [B_or, Bool.or_eq_false_iff, bef_iff hw _ (by omega)] at a4
      have a6 : aftN M.2.1 s 15 4 &&& clo (befS M) (N - (i + 1) - 1) g = 0 := by
        have := a4.2
        simp only [a2, decide_true, Bool.true_and] at this
        simpa using this
      have := congrArg (fun z => B z t) a6
      simp only [B_and, B_0, b3.1, Bool.true_and] at this
      exact this
def shW (M : Mv) (g : Int64) (N i : Nat) : List Nat := (List.range i).map fun k => (shS M g N k).getD 0
theorem shW_s {M : Mv} {g : Int64} {N i s : Nat} (h : shS M g N i = some s) : shW M g N (i + 1) = shW M g N i ++ [s] := by
  unfold shW
  rw [List.range_succ, List.map_append]
  show _ ++ [(shS M g N i).getD 0] = _
  rw [h]
  rfl
theorem shW_len (M : Mv) (g : Int64) (N i : Nat) : (shW M g N i).length = i := by
  unfold shW
  rw [List.length_map, List.length_range]
theorem shW_lt {M : Mv} (hw : WM M) {g : Int64} {N : Nat} (hN : fst64 (opn M g) = some N) : ∀ q, q ∈ shW M g N (N + 1) → q < 2 ^ M.1 := by
  intro q hq
  unfold shW at hq
  obtain ⟨k, hk, rfl⟩ := List.mem_map.mp hq
  have hk := List.mem_range.mp hk
  obtain ⟨s, a1, a2, _⟩ := shS_at hw hN k (by omega)
  rw [a1]
  exact a2
def shL (M : Mv) (g : Int64) : List Nat := match fst64 (opn M g) with
  | none => []
  | some N => shW M g N (N + 1)
theorem shL_lt {M : Mv} (hw : WM M) {g : Int64} : ∀ q, q ∈ shL M g → q < 2 ^ M.1 := by
  intro q hq
  unfold shL at hq
  cases h : fst64 (opn M g) with
  | none => rw [h] at hq; cases hq
  | some N => rw [h] at hq; exact shW_lt hw h q hq
theorem shL_len {M : Mv} {g : Int64} : (shL M g).length ≤ 64 := by
  unfold shL
  cases h : fst64 (opn M g) with
  | none => show 0 ≤ 64; omega
  | some N =>
    show (shW M g N (N + 1)).length ≤ 64
    have := (fst_some h).1
    rw [shW_len]
    omega
theorem sr_layShort (c : Ce) (m : Nat) {μ : MS} {M : Mv} (hM : Mac (μ.1 0) M) (hw : WM M) {a : Nat} (ha : a < M.2.2.2.1) (h8 : μ.1 0 8 = nI a) : ∃ ν, m_X12_layShortest (wr c m μ) m = some ((), wr c m ν) ∧ Way ν (shL M (M.2.2.2.2 a)) ∧ KY μ ν := by
  obtain ⟨ν0, e0, w0, k0⟩ := way_0 c m μ
  have hst : ∀ ν, KY μ ν → lset (ν.1 0) 0 = M.2.2.1 := fun ν hk => by rw [hk.1 0 (by omega)]; exact hM.2.2.2.2.2.2.1
  have hne : ∀ ν, KY μ ν → ∀ k, k < 2 ^ 31 → m_X12_nearing (wr c m ν) m (nI k) = some (clo (befS M) k (M.2.2.2.2 a)) := fun ν hk k hk2 => sr_nearing c m ν (by rw [hk.1 0 (by omega)]; exact hM) hw ha (by rw [hk.1 0 (by omega)]; exact h8) hk2
  generalize M.2.2.2.2 a = g at hne
  have key : Ok (m_X12_layShortest (wr c m μ) m) (fun o => ∃ ν, o = ((), wr c m ν) ∧ Way ν (shL M g) ∧ KY μ ν) := by
    unfold m_X12_layShortest
    rw [e0, bind_s]
    refine ok_call (P := fun v => v = match fst64 (opn M g) with | none => 64 | some N => nI N) (ok_cnt 0 64 (fun i s => s = nI i ∧ ∀ j, j < i → opn M g j = false) (by omega) (by omega) ⟨rfl, fun _ h => by omega⟩ ?_ ?_) (fun zo h => ?_)
    · rintro i _ hi ⟨rfl, hl⟩
      rw [nl_64, if_le (by omega) (by omega), if_neg (by omega), wr_rcv, bind_s, hne ν0 k0 i (by omega), bind_s, bind_s, sr_starts, bind_s, hst ν0 k0]
      by_cases hz : clo (befS M) i g &&& M.2.2.1 = 0
      · rw [if_pos (lcmp_0.mpr hz)]
        refine ok_some ⟨nI_1 i, fun j hj => ?_⟩
        by_cases e : j = i
        · rw [e]
          simp [opn, hz]
        · exact hl j (by omega)
      · rw [if_neg (fun z => hz (lcmp_0.mp z))]
        refine ok_some ?_
        rw [fst_at (n := i) (by omega) (by simp [opn, hz]) hl]
    · rintro _ ⟨rfl, hl⟩
      rw [nl_64, if_pos (Int32.le_refl _)]
      refine ok_some ?_
      rw [fst_none hl]
    · unfold shL
      cases hf : fst64 (opn M g) with
      | none =>
        rw [hf] at h
        have h : zo = 64 := h
        rw [if_pos h]
        exact ok_some ⟨ν0, rfl, w0, k0⟩
      | some N =>
        rw [hf] at h
        have h : zo = nI N := h
        subst h
        have hN := (fst_some hf).1
        obtain ⟨s0, a1, a2, _⟩ := shS_at hw hf 0 (Nat.zero_le _)
        have h64 := p2_64 hM.2.2.1
        have hn64 : ¬ nI N = (64 : Int32) := fun z => by
          have : N = 64 := (nI_eq (b := 64) (by omega) (by omega)).mp z
          omega
        have a0 : lowI (clo (befS M) N g &&& M.2.2.1) = nI s0 := by
          rw [and_com]
          exact lowI_some a1
        obtain ⟨w2, k2⟩ := way_add w0 (by decide) s0
        rw [if_neg hn64, wr_g27, bind_s, wr_rcv, bind_s, hne ν0 k0 N (by omega), bind_s, bind_s, sr_starts, bind_s, hst ν0 k0, sr_lowest, bind_s, a0, show (0 : Int32) = nI 0 from rfl, wr_u13 c m ν0 (by omega), bind_s]
        show Ok ((pV _ 9 28 m (.int (nI (0 + 1)))).bind _) _
        rw [wr_n28, bind_s]
        refine ok_call (P := fun o => ∃ ν, o = ((), wr c m ν) ∧ Way ν (shW M g N (N + 1)) ∧ KY μ ν) (ok_cnt 0 N (fun i s => s.1 = nI (N - i) ∧ ∃ ν, s.2 = wr c m ν ∧ Way ν (shW M g N (i + 1)) ∧ KY μ ν) (by omega) (by omega) ⟨rfl, wayA ν0 0 (nI s0), rfl, by rw [shW_s a1]; exact w2, KY_trans k0 k2⟩ ?_ ?_) (fun o h => ?_)
        · rintro i ⟨u, d⟩ hi ⟨hu, ν, hd, hwy, hk⟩
          have hu : u = nI (N - i) := hu
          have hd : d = wr c m ν := hd
          subst hu hd
          obtain ⟨s, b1, b2, _⟩ := shS_at hw hf i (by omega)
          obtain ⟨t, d1, d2, _⟩ := shS_at hw hf (i + 1) (by omega)
          have hlen := shW_len M g N (i + 1)
          have hu0 : ¬ nI (N - i) ≤ (0 : Int32) := fun z => by
            have := (nI_leI (b := 0) (by omega) (by omega)).mp z
            omega
          have hu1 : nI (N - i) + (-1 : Int32) = nI (N - (i + 1)) := by
            rw [show N - i = (N - (i + 1)) + 1 by omega]
            rw [← nI_1, Int32.add_assoc, show (1 : Int32) + -1 = 0 from rfl, Int32.add_zero]
          have hw1 := hwy.1
          rw [hlen] at hw1
          have hlast : ν.1 13 i = nI s := by
            refine hwy.2.2 i s ?_
            rw [shW_s b1, List.getElem?_append_right (by rw [shW_len]; omega), shW_len, Nat.sub_self]
            rfl
          have hsu : nI (i + 1) - (1 : Int32) = nI i := by
            rw [nl_1, pk_sub (by omega)]
            rfl
          have ht : lowI (aftN M.2.1 s 15 4 &&& clo (befS M) (N - (i + 1)) g) = nI t := by
            have d1 : (shS M g N i).bind _ = _ := d1
            rw [b1] at d1
            exact lowI_some d1
          obtain ⟨w3, k3⟩ := way_add hwy (by omega) t
          rw [hlen] at w3 k3
          have hS : Suc (ν.1 0) M.1 M.2.1 := by rw [hk.1 0 (by omega)]; exact hM.2.2.2.2.2.2.2.2
          show Ok (if nI (N - i) ≤ 0 then _ else (gA (wr c m ν) 9 27 m).bind _) _
          rw [if_neg hu0, wr_g27, bind_s, wr_g28, bind_s, bind_s, bind_s, hw1, hsu, wr_a13 c m ν (by omega), bind_s, wr_rcv, bind_s, hlast, sr_after c m ν hM.2.2.1 hS b2, bind_s, bind_s, hu1, hne ν hk (N - (i + 1)) (by omega), bind_s, sr_lowest, bind_s, ht, wr_u13 c m ν (by omega), bind_s, wr_g28, bind_s]
          have e2 : (muI ν 13 (va_up (ν.1 13) (i + 1) (nI t))).2.2.2 14 + 1 = nI (i + 1 + 1) := by
            show ν.2.2.2 14 + 1 = _
            rw [hw1, nI_1]
          rw [e2, wr_n28, bind_s]
          exact ok_some ⟨rfl, wayA ν (i + 1) (nI t), rfl, by rw [shW_s d1]; exact w3, KY_trans hk k3⟩
        · rintro ⟨u, d⟩ ⟨hu, ν, hd, hwy, hk⟩
          have hu : u = nI (N - N) := hu
          have hd : d = wr c m ν := hd
          subst hu hd
          have hu0 : nI (N - N) ≤ (0 : Int32) := by
            rw [Nat.sub_self]
            exact Int32.le_refl _
          show Ok (if nI (N - N) ≤ 0 then _ else _) _
          rw [if_pos hu0]
          exact ok_some ⟨ν, rfl, hwy, hk⟩
        · obtain ⟨ν, rfl, h2, h3⟩ := h
          exact ok_some ⟨ν, rfl, h2, h3⟩
  obtain ⟨_, hv, ν, rfl, h2, h3⟩ := key
  exact ⟨ν, hv, h2, h3⟩
/-! the class -/
theorem img_bit {M : Mv} (hL : M.1 < 7) {s : Nat} (hs : s < 2 ^ M.1) : imgF M 15 ((1 : Int64) <<< (Int32.toInt64 (nI s) &&& 63)) = aftN M.2.1 s 15 4 := by
  have h64 := p2_64 hL
  refine B_ext fun t ht => ?_
  unfold imgF imgN
  rw [B_mkS _ ht]
  cases hb : B (aftN M.2.1 s 15 4) t with
  | true =>
    rw [List.any_eq_true]
    refine ⟨s, List.mem_range.mpr hs, ?_⟩
    rw [B_bit s (by omega) s (by omega), hb]
    simp
  | false =>
    rw [List.any_eq_false]
    intro r hr
    have hr := List.mem_range.mp hr
    rw [B_bit s (by omega) r (by omega)]
    by_cases e : r = s
    · rw [e, hb]
      simp
    · simp [e]
/-- what leads to a state that is not FAR by at most k is not FAR by less -/
theorem aft_far {M : Mv} (hw : WM M) {g : Int64} {s k : Nat} (hs : s < 2 ^ M.1) (h : B (clo (befS M) k g) s = false) : ∀ j, j < k → clo (befS M) j g &&& aftN M.2.1 s 15 4 = 0 := by
  have h64 := p2_64 hw.2.1
  intro j hj
  refine Classical.byContradiction fun hne => ?_
  rw [and_com] at hne
  have h1 : B (befS M (clo (befS M) j g)) s = true := by
    rw [bef_iff hw _ (by omega)]
    simp [hs, hne]
  have h2 : B (clo (befS M) (j + 1) g) s = true := by
    show B (clo (befS M) j g ||| befS M (clo (befS M) j g)) s = true
    rw [B_or, h1, Bool.or_true]
  have h3 := clo_mono g (show j + 1 ≤ k by omega) (show s < 64 by omega) h2
  rw [h] at h3
  cases h3
theorem cm_fars {ce : Ce} {U : Nat → Prop} {mp : Nat} {M : Mv} (hm : MA ce U mp M) (g : Int64) {ft : Nat} {Q0 : Nat → Int64} (hq : ce ft = some (.inl (.long, 64, .inr (.inl Q0)))) (hU : ¬ U ft) : ∃ d, m_X5_fillFars ce mp g ft = some (oI (fst64 (opn M g)), d) ∧ (∀ b, b ≠ ft → d b = ce b) ∧ ∃ Q : Nat → Int64, d ft = some (.inl (.long, 64, .inr (.inl Q))) ∧ ∀ N, fst64 (opn M g) = some N → ∀ n, n ≤ N → Q n = fre (befS M) n g := by
  have hF := bef_Add M
  have hfr : ∀ d : Ce, (∀ b, b ≠ ft → d b = ce b) → MA d U mp M := fun d hd => MA_fr hm fun b hb => hd b fun z => hU (z ▸ hb)
  have key : Ok (m_X5_fillFars ce mp g ft) (fun o => ∃ d, o = (oI (fst64 (opn M g)), d) ∧ (∀ b, b ≠ ft → d b = ce b) ∧ ∃ Q : Nat → Int64, d ft = some (.inl (.long, 64, .inr (.inl Q))) ∧ ∀ N, fst64 (opn M g) = some N → ∀ n, n ≤ N → Q n = fre (befS M) n g) := by
    unfold m_X5_fillFars
    refine ok_call (P := fun o => (∀ b, b ≠ ft → o.2 b = ce b) ∧ ∃ Q : Nat → Int64, o.2 ft = some (.inl (.long, 64, .inr (.inl Q))) ∧ ((∃ N, o.1 = Sum.inl (nI N) ∧ fst64 (opn M g) = some N ∧ ∀ n, n ≤ N → Q n = fre (befS M) n g) ∨ (o.1 = Sum.inr () ∧ fst64 (opn M g) = none))) (ok_cnt 0 64 (fun i s => s.1 = (clo (befS M) i g, fre (befS M) i g, nI i) ∧ (∀ b, b ≠ ft → s.2 b = ce b) ∧ (∃ Q : Nat → Int64, s.2 ft = some (.inl (.long, 64, .inr (.inl Q))) ∧ ∀ n, n < i → Q n = fre (befS M) n g) ∧ ∀ j, j < i → clo (befS M) j g &&& M.2.2.1 = 0) (by omega) (by omega) ⟨rfl, fun _ _ => rfl, ⟨Q0, hq, fun _ h => by omega⟩, fun _ h => by omega⟩ ?_ ?_) (fun o ho => ?_)
    · rintro i ⟨s1, d⟩ hi ⟨hs, hd, ⟨Q, q1, q2⟩, hl⟩
      have hs : s1 = (clo (befS M) i g, fre (befS M) i g, nI i) := hs
      have hd : ∀ b, b ≠ ft → d b = ce b := hd
      have q1 : d ft = some (.inl (.long, 64, .inr (.inl Q))) := q1
      subst hs
      have hmf := meet_fre hF (x := g) (g := M.2.2.1) i hl
      show Ok ((alen d ft).bind _) _
      rw [alen_L q1, bind_s]
      show Ok (if nI 64 ≤ nI i then _ else if (lg_cmp (fre (befS M) i g) (0 : Int64)) = 0 then _ else (sL d ft (nI i) (fre (befS M) i g)).bind _) _
      rw [if_le (by omega) (by omega), if_neg (by omega)]
      by_cases h0 : fre (befS M) i g = 0
      · refine ok_iteT (lcmp_0.mpr h0) (ok_some ⟨hd, Q, q1, Or.inr ⟨rfl, ?_⟩⟩)
        have hz : clo (befS M) i g &&& M.2.2.1 = 0 := by
          rw [hmf, h0]
          refine B_ext0 fun k _ => ?_
          rw [B_and, B_0]
          rfl
        exact fst_none fun j _ => by
          by_cases hj : j < i
          · simp [opn, hl j hj]
          · show decide (clo (befS M) j g &&& M.2.2.1 ≠ 0) = false
            rw [clo_fre0 hF h0 j (by omega)]
            simp [hz]
      · refine ok_iteF (fun z => h0 (lcmp_0.mp z)) ?_
        rw [sL_c q1 (by omega) (by omega), bind_s]
        have hd2 : ∀ b, b ≠ ft → gx_up d ft (.inl (.long, 64, .inr (.inl (va_up Q i (fre (befS M) i g))))) b = ce b := fun b hb => (if_neg hb).trans (hd b hb)
        generalize hE : gx_up d ft (.inl (.long, 64, .inr (.inl (va_up Q i (fre (befS M) i g))))) = e at hd2
        have he : e ft = some (.inl (.long, 64, .inr (.inl (va_up Q i (fre (befS M) i g))))) := by
          rw [← hE]
          exact if_pos rfl
        have hme := hfr e hd2
        have hup : ∀ n, n < i + 1 → va_up Q i (fre (befS M) i g) n = fre (befS M) n g := fun n hn => by
          by_cases en : n = i
          · rw [en, up_e]
          · rw [up_n _ _ _ en]
            exact q2 n (by omega)
        rw [(cm_states hme).2.2.2, bind_s]
        by_cases h1 : fre (befS M) i g &&& M.2.2.1 = 0
        · refine ok_iteT (lcmp_0.mpr h1) ?_
          rw [cm_rcv hme, bind_s]
          show Ok ((m_X5_before e mp (fre (befS M) i g)).bind _) _
          rw [cc_before hme, bind_s]
          refine ok_some ⟨?_, hd2, ⟨_, he, hup⟩, fun j hj => ?_⟩
          · show (clo (befS M) i g ||| (befS M (fre (befS M) i g) &&& (clo (befS M) i g ^^^ (-1))), befS M (fre (befS M) i g) &&& (clo (befS M) i g ^^^ (-1)), nI i + 1) = (clo (befS M) (i + 1) g, fre (befS M) (i + 1) g, nI (i + 1))
            rw [nI_1, clo_or hF]
            rfl
          · by_cases e2 : j = i
            · rw [e2, hmf]
              exact h1
            · exact hl j (by omega)
        · refine ok_iteF (fun z => h1 (lcmp_0.mp z)) (ok_some ⟨hd2, _, he, Or.inl ⟨i, rfl, ?_, fun n hn => hup n (by omega)⟩⟩)
          refine fst_at hi ?_ (fun j hj => by simp [opn, hl j hj])
          show decide (clo (befS M) i g &&& M.2.2.1 ≠ 0) = true
          rw [hmf]
          simp [h1]
    · rintro ⟨s1, d⟩ ⟨hs, hd, ⟨Q, q1, q2⟩, hl⟩
      have hs : s1 = (clo (befS M) 64 g, fre (befS M) 64 g, nI 64) := hs
      have hd : ∀ b, b ≠ ft → d b = ce b := hd
      have q1 : d ft = some (.inl (.long, 64, .inr (.inl Q))) := q1
      subst hs
      show Ok ((alen d ft).bind _) _
      rw [alen_L q1, bind_s]
      show Ok (if nI 64 ≤ nI 64 then _ else _) _
      rw [if_pos (Int32.le_refl _)]
      exact ok_some ⟨hd, Q, q1, Or.inr ⟨rfl, fst_none fun j hj => by simp [opn, hl j hj]⟩⟩
    · obtain ⟨r, d⟩ := o
      obtain ⟨hd, Q, q1, hr⟩ := ho
      rcases hr with ⟨N, hr, hN, q2⟩ | ⟨hr, hN⟩
      · have hr : r = Sum.inl (nI N) := hr
        subst hr
        refine ok_some ⟨d, ?_, hd, Q, q1, fun N2 h2 n hn => ?_⟩
        · rw [hN]
          rfl
        · rw [hN] at h2
          have : N = N2 := Option.some.inj h2
          exact q2 n (by omega)
      · have hr : r = Sum.inr () := hr
        subst hr
        refine ok_some ⟨d, ?_, hd, Q, q1, fun N2 h2 => ?_⟩
        · rw [hN]
          rfl
        · rw [hN] at h2
          cases h2
  obtain ⟨_, hv, d, rfl, h2⟩ := key
  exact ⟨d, hv, h2⟩
theorem cm_short {ce : Ce} {U : Nat → Prop} {mp : Nat} {M : Mv} (hm : MA ce U mp M) (hw : WM M) (g : Int64) {pt : Nat} {P0 : Nat → Int32} (hp : ce pt = some (.inl (.int, 128, .inl P0))) (hU : ¬ U pt) {ft : Nat} {Q0 : Nat → Int64} (hq : ce ft = some (.inl (.long, 64, .inr (.inl Q0)))) (hV : ¬ U ft) (hne : pt ≠ ft) : ∃ d, m_X5_fillShortest ce mp g ft pt = some (nI (shL M g).length, d) ∧ (∀ b, b ≠ pt → b ≠ ft → d b = ce b) ∧ (∃ Q : Nat → Int64, d ft = some (.inl (.long, 64, .inr (.inl Q)))) ∧ Pth d pt (shL M g) := by
  have h64 := p2_64 hw.2.1
  have hF := bef_Add M
  obtain ⟨c1, e1, f1, Q, g1, g2⟩ := cm_fars hm g hq hV
  have hm1 : MA c1 U mp M := MA_fr hm fun b hb => f1 b fun z => hV (z ▸ hb)
  have hp1 : c1 pt = some (.inl (.int, 128, .inl P0)) := (f1 pt hne).trans hp
  have hfr : ∀ d : Ce, (∀ b, b ≠ pt → d b = c1 b) → MA d U mp M := fun d hd => MA_fr hm1 fun b hb => hd b fun z => hU (z ▸ hb)
  have hin := (cm_states hm1).2.2.2
  unfold m_X5_fillShortest
  rw [cm_rcv hm, bind_s, e1, bind_s]
  unfold shL
  cases hf : fst64 (opn M g) with
  | none => exact ⟨c1, rfl, fun b _ hb => f1 b hb, ⟨Q, g1⟩, P0, hp1, fun k q hq => by cases hq⟩
  | some N =>
    have g2 := g2 N hf
    obtain ⟨hN, _, hbef⟩ := fst_some hf
    show ∃ d, (if nI N = -1 then some ((0 : Int32), c1) else (alen c1 pt).bind fun zx3 => if nI N < zx3 then (gJ c1 3 3 mp).bind fun zx4 => (it (fun (zs5 : (Int64 × Int32) × Ce) =>
        if nI N < zs5.1.2 then
          some (Sum.inr (Sum.inr (α := Int32) (), zs5.2))
        else
          (aL zs5.2 ft (nI N - zs5.1.2)).bind fun zx8 =>
          (m_X9_lowest (zs5.1.1 &&& zx8)).bind fun zx9 =>
          if zx9 = (-1 : Int32) then
            some (Sum.inr (Sum.inl (0 : Int32), zs5.2))
          else
            (sI zs5.2 pt zs5.1.2 zx9).bind fun zc10 =>
            (rcv zc10 3 mp).bind fun _ =>
            (m_X5_after zc10 mp ((1 : Int64) <<< (Int32.toInt64 zx9 &&& 63)) (15 : Int32)).bind fun zx12 =>
            some (Sum.inl ((zx12, (zs5.1.2 + (1 : Int32))), zc10))
      ) FU ((zx4, (0 : Int32)), c1)).bind fun (zo6 : (Int32 ⊕ Unit) × Ce) => Sum.elim (fun wzo6 => some (wzo6, zo6.2)) (fun vzo6 => some ((nI N + (1 : Int32)), zo6.2)) zo6.1 else some ((0 : Int32), c1)) = some (nI (shW M g N (N + 1)).length, d) ∧ _
    rw [if_neg (nI_m1 (by omega)), alen_I hp1, bind_s, shW_len, if_lt (by omega) (by omega), if_pos (by omega), hin, bind_s]
    have key : Ok (it (fun (zs5 : (Int64 × Int32) × Ce) =>
        if nI N < zs5.1.2 then
          some (Sum.inr (Sum.inr (α := Int32) (), zs5.2))
        else
          (aL zs5.2 ft (nI N - zs5.1.2)).bind fun zx8 =>
          (m_X9_lowest (zs5.1.1 &&& zx8)).bind fun zx9 =>
          if zx9 = (-1 : Int32) then
            some (Sum.inr (Sum.inl (0 : Int32), zs5.2))
          else
            (sI zs5.2 pt zs5.1.2 zx9).bind fun zc10 =>
            (rcv zc10 3 mp).bind fun _ =>
            (m_X5_after zc10 mp ((1 : Int64) <<< (Int32.toInt64 zx9 &&& 63)) (15 : Int32)).bind fun zx12 =>
            some (Sum.inl ((zx12, (zs5.1.2 + (1 : Int32))), zc10))
      ) FU ((M.2.2.1, (0 : Int32)), c1)) (fun o => ∃ d, o = (Sum.inr (), d) ∧ (∀ b, b ≠ pt → d b = c1 b) ∧ Pth d pt (shW M g N (N + 1))) := by
      have hst : lowS (M.2.2.1 &&& fre (befS M) N g) = shS M g N 0 := by
        have e := meet_fre hF (x := g) (g := M.2.2.1) N (fun j hj => by simpa using hbef j hj)
        rw [and_com M.2.2.1, ← e, and_com]
        rfl
      refine ok_cnt 0 (N + 1) (fun i s => s.1.2 = nI i ∧ (∀ b, b ≠ pt → s.2 b = c1 b) ∧ Pth s.2 pt (shW M g N i) ∧ (i ≤ N → lowS (s.1.1 &&& fre (befS M) (N - i) g) = shS M g N i)) (by omega) (by omega) ⟨rfl, fun _ _ => rfl, ⟨P0, hp1, fun k q hq => by cases hq⟩, fun _ => hst⟩ ?_ ?_
      · rintro i ⟨⟨o, u⟩, d⟩ hi ⟨hu, hd, hP, hc⟩
        have hu : u = nI i := hu
        have hd : ∀ b, b ≠ pt → d b = c1 b := hd
        obtain ⟨P, p1, p2⟩ := hP
        have p1 : d pt = some (.inl (.int, 128, .inl P)) := p1
        subst hu
        obtain ⟨s, b1, b2, _, b4⟩ := shS_at hw hf i (by omega)
        have hc : lowS (o &&& fre (befS M) (N - i) g) = some s := (hc (by omega)).trans b1
        have hdf : d ft = some (.inl (.long, 64, .inr (.inl Q))) := (hd ft (fun z => hne z.symm)).trans g1
        show Ok (if nI N < nI i then _ else (aL d ft (nI N - nI i)).bind _) _
        rw [if_lt (by omega) (by omega), if_neg (by omega), pk_sub (by omega), aL_c hdf (by omega) (by omega), bind_s, g2 (N - i) (by omega)]
        show Ok ((m_X9_lowest (o &&& fre (befS M) (N - i) g)).bind _) _
        rw [cc_lowest, bind_s, lowI_some hc, if_neg (nI_m1 (by omega))]
        show Ok ((sI d pt (nI i) (nI s)).bind _) _
        rw [sI_c p1 (by omega) (by omega), bind_s]
        have hd2 : ∀ b, b ≠ pt → gx_up d pt (.inl (.int, 128, .inl (va_up P i (nI s)))) b = c1 b := fun b hb => (if_neg hb).trans (hd b hb)
        generalize hE : gx_up d pt (.inl (.int, 128, .inl (va_up P i (nI s)))) = e at hd2
        have he : e pt = some (.inl (.int, 128, .inl (va_up P i (nI s)))) := by
          rw [← hE]
          exact if_pos rfl
        have hme := hfr e hd2
        have e15 := cm_after hme (inp := 15) (by omega) ((1 : Int64) <<< (Int32.toInt64 (nI s) &&& 63))
        have e15 : m_X5_after e mp ((1 : Int64) <<< (Int32.toInt64 (nI s) &&& 63)) (15 : Int32) = _ := e15
        rw [cm_rcv hme, bind_s, e15, bind_s, img_bit hw.2.1 b2]
        refine ok_some ⟨nI_1 i, hd2, ⟨_, he, fun k2 q2 hq2 => ?_⟩, fun hi2 => ?_⟩
        · rw [shW_s b1] at hq2
          have hlen := shW_len M g N i
          by_cases e2 : k2 = i
          · subst e2
            rw [List.getElem?_append_right (by omega), hlen, Nat.sub_self] at hq2
            have : s = q2 := by simpa using hq2
            rw [this, up_e]
          · have hk2 : k2 < i := by
              have := (List.getElem?_eq_some_iff.mp hq2).1
              rw [List.length_append] at this
              have this : k2 < (shW M g N i).length + 1 := this
              omega
            rw [List.getElem?_append_left (by omega)] at hq2
            rw [up_n _ _ _ e2]
            exact p2 k2 q2 hq2
        · have hk : N - i - 1 = N - (i + 1) := by omega
          have b4 := b4 (by omega)
          rw [hk] at b4
          have e := meet_fre hF (x := g) (g := aftN M.2.1 s 15 4) (N - (i + 1)) (aft_far hw b2 b4)
          show lowS (aftN M.2.1 s 15 4 &&& fre (befS M) (N - (i + 1)) g) = (shS M g N i).bind _
          rw [b1, and_com (aftN M.2.1 s 15 4), ← e, and_com]
          rfl
      · rintro ⟨⟨o, u⟩, d⟩ ⟨hu, hd, hP, hc⟩
        have hu : u = nI (N + 1) := hu
        subst hu
        show Ok (if nI N < nI (N + 1) then _ else _) _
        rw [if_lt (by omega) (by omega), if_pos (by omega)]
        exact ok_some ⟨d, rfl, hd, hP⟩
    obtain ⟨_, hv, d, rfl, k1, k2⟩ := key
    refine ⟨d, ?_, fun b hb hb2 => (k1 b hb).trans (f1 b hb2), ⟨Q, (k1 ft (fun z => hne z.symm)).trans g1⟩, k2⟩
    rw [hv, bind_s]
    show some (nI N + 1, d) = _
    rw [nI_1]
/-- the row of what is FAR: apart from all that is read, and from the path -/
def Aft (ce : Ce) (Z : Nat → Prop) (A : Nat → Nat) (x w pt ft : Nat) : Prop := (gA ce 8 12 x = some ft ∧ ∃ Q : Nat → Int64, ce ft = some (.inl (.long, 64, .inr (.inl Q)))) ∧ pt ≠ ft ∧ x ≠ ft ∧ w ≠ ft ∧ (∀ i, i < 13 → A i ≠ ft) ∧ ¬ Z ft
theorem Apt_fr2 {ce d : Ce} {nx : Nat} {Z : Nat → Prop} {A : Nat → Nat} {κ : Nat × Nat × Nat} {V : Sv} {x w pt ft : Nat} (h : Apt ce nx Z A x w pt) (hf : Aft ce Z A x w pt ft) (hz : SZ ce nx Z A κ V) (hd : ∀ b, b ≠ pt → b ≠ ft → d b = ce b) {P : Nat → Int32} (hP : d pt = some (.inl (.int, 128, .inl P))) : Apt d nx Z A x w pt ∧ SZ d nx Z A κ V := by
  obtain ⟨⟨a1, a2, a3⟩, ⟨b1, b2⟩, ⟨c1, c2, c3, c4⟩, e⟩ := h
  obtain ⟨_, _, g1, g2, g3, g4⟩ := hf
  have f1 := hd x c1 g1
  have f2 := hd w c2 g2
  exact ⟨⟨⟨(rcv_fr f1).trans a1, (gA_fr f1).trans a2, (gA_fr f2).trans a3⟩, ⟨(gA_fr f1).trans b1, P, hP⟩, ⟨c1, c2, c3, c4⟩, e⟩, SZ_congr hz e (fun i hi => hd _ (c3 i hi) (g3 i hi)) (fun b hb => hd b (fun z => c4 (z ▸ hb)) (fun z => g4 (z ▸ hb))) (Nat.le_refl _) (fun _ hb => hb)⟩
theorem e_shortest {ce : Ce} {nx : Nat} {Z : Nat → Prop} {A : Nat → Nat} {κ : Nat × Nat × Nat} {V : Sv} {c : Ce} {m : Nat} {μ : MS} {x w pt ft j : Nat} (ha : Apt ce nx Z A x w pt) (hf : Aft ce Z A x w pt ft) (h : SZ ce nx Z A κ V) (hr : RV μ V) (hi : IV j V) (p q : Int32) : ∃ v d ν, m_X11_shortest ce x p q = some (v, d) ∧ (∀ b, b ≠ pt → b ≠ ft → d b = ce b) ∧ ((∃ P : Nat → Int32, d pt = some (.inl (.int, 128, .inl P))) ∧ ∃ Q : Nat → Int64, d ft = some (.inl (.long, 64, .inr (.inl Q)))) ∧ m_X12_shortest (wr c m μ) m p q = some (v, wr c m ν) ∧ KY μ ν := by
  have h8 := hi.2.2.1.2.1
  obtain ⟨⟨x0, x1, x2⟩, ⟨b1, P0, b2⟩, ⟨c1, c2, c3, c4⟩, e⟩ := id ha
  obtain ⟨⟨y1, Q0, y2⟩, y3, y4, y5, y6, y7⟩ := id hf
  obtain ⟨mp, g1, g2⟩ := id h.2
  obtain ⟨ν, l1, l2, l3⟩ := sr_layShort c m hr.1 hi.1 h8 (hr.2.1 8 (by decide))
  obtain ⟨d, f1, f2, f6, f3⟩ := cm_short g2 hi.1 (V.1.2.2.2.2 (V.2.1 8)) b2 c4 y2 y7 y3
  obtain ⟨P, f4, f5⟩ := id f3
  obtain ⟨ha2, hz2⟩ := Apt_fr2 ha hf h f2 f4
  have hrν := KY_RV l3 hr
  have hlt := shL_lt hi.1 (g := V.1.2.2.2.2 (V.2.1 8))
  have hln := shL_len (M := V.1) (g := V.1.2.2.2.2 (V.2.1 8))
  have cp := c_pathPart (Apt_XS ha2) hz2.1 ha2.2.1.1 f3 (by omega) hlt p q
  unfold m_X11_shortest m_X12_shortest
  refine ⟨wpV V.1 (shL V.1 (V.1.2.2.2.2 (V.2.1 8))) p q, d, ν, ?_, f2, ⟨⟨P, f4⟩, f6⟩, ?_, l3⟩
  · rw [x1, bind_s, x2, bind_s, g1, bind_s, ss_rcv h.1, bind_s, ss_aims h.1 h8, bind_s, y1, bind_s, b1, bind_s, cm_rcv g2, bind_s, f1, bind_s, ha2.1.1, bind_s, cp, bind_s]
  · rw [wr_rcv, bind_s, l1, bind_s, wr_rcv, bind_s, sr_ofWay c m hrν.1 l2 hlt p q, bind_s]
theorem e_detour {ce : Ce} {nx : Nat} {Z : Nat → Prop} {A : Nat → Nat} {κ : Nat × Nat × Nat} {V : Sv} {c : Ce} {m : Nat} {μ : MS} {x w pt ft j : Nat} (ha : Apt ce nx Z A x w pt) (hf : Aft ce Z A x w pt ft) (h : SZ ce nx Z A κ V) (hr : RV μ V) (hi : IV j V) (hw : Wk V) : ∃ v d ν, m_X11_detour ce x = some (v, d) ∧ (∀ b, b ≠ pt → b ≠ ft → d b = ce b) ∧ ((∃ P : Nat → Int32, d pt = some (.inl (.int, 128, .inl P))) ∧ ∃ Q : Nat → Int64, d ft = some (.inl (.long, 64, .inr (.inl Q)))) ∧ m_X12_detour (wr c m μ) m = some (v, wr c m ν) ∧ KY μ ν := by
  have hB : LB V.2.2.2.1 := hw.1.2.2.2.2.2.2.2.1
  have hg : Grow V.2.2.2.1 := hw.2.2.2.2.1
  obtain ⟨lc, g3, g4⟩ := ss_obl h.1
  have h5 := hi.2.2.1.1
  have h8 := hi.2.2.1.2.1
  obtain ⟨⟨x0, x1, x2⟩, ⟨b1, P0, b2⟩, ⟨c1, c2, c3, c4⟩, e⟩ := id ha
  obtain ⟨⟨z1, Q0, z2⟩, z3, z4, z5, z6, z7⟩ := id hf
  unfold m_X11_detour m_X12_detour
  by_cases q4 : V.2.1 5 = 4
  · obtain ⟨N, n1, n2, n3, n4⟩ := chain_of hi g4
    obtain ⟨ν, l1, l2, l3⟩ := sr_layTrace c m hr hg g4 hB h5 n1 n2 n3
    rw [if_pos q4] at l2
    have hrν := KY_RV l3 hr
    obtain ⟨ν2, s1, s2, s3⟩ := sr_layShort c m hrν.1 hi.1 h8 (hrν.2.1 8 (by decide))
    obtain ⟨d, f1, f2, f3⟩ := co_chain g3 b2 (c3 5 (by omega)) (c3 6 (by omega)) n1 n2 n3
    obtain ⟨P, f4, f5⟩ := id f3
    obtain ⟨ha2, hz2⟩ := Apt_fr ha h f2 f4
    obtain ⟨mp, g1, g2⟩ := id hz2.2
    obtain ⟨d2, y1, y2, y6, y3⟩ := cm_short g2 hi.1 (V.1.2.2.2.2 (V.2.1 8)) f4 c4 ((f2 ft (fun z => z3 z.symm)).trans z2) z7 z3
    obtain ⟨P2, y4, y5⟩ := id y3
    refine ⟨nI N - nI (shL V.1 (V.1.2.2.2.2 (V.2.1 8))).length, d2, ν2, ?_, fun b hb hb2 => (y2 b hb hb2).trans (f2 b hb), ⟨⟨P2, y4⟩, y6⟩, ?_, KY_trans l3 s3⟩
    · rw [x1, bind_s, x2, bind_s, ss_r3 h.1, bind_s, nl_4, if_eq (by omega) (by omega), if_pos q4, ss_r12 h.1, bind_s, b1, bind_s]
      show ((rcv ce 4 (A 5)).bind fun _ => _) = _
      rw [co_rcv g3, bind_s, f1, bind_s]
      show ((gA d 6 0 (A 0)).bind fun _ => _) = _
      rw [g1, bind_s, ss_rcv hz2.1, bind_s, ss_aims hz2.1 h8, bind_s, (gA_fr (f2 x c1)).trans z1, bind_s, ha2.2.1.1, bind_s, cm_rcv g2, bind_s, y1, bind_s]
    · rw [wr_g0, bind_s, rd_5, bind_s, hr.2.1 5 (by decide), nl_4, if_eq (by omega) (by omega), if_pos q4, wr_rcv, bind_s, l1, bind_s, wr_g28, bind_s, wr_rcv, bind_s, s1, bind_s, wr_g28, bind_s, l2.1, s2.1, chW_len]
  · refine ⟨-1, ce, μ, ?_, fun _ _ _ => rfl, ⟨⟨P0, b2⟩, Q0, z2⟩, ?_, KY_refl μ⟩
    · rw [x1, bind_s, x2, bind_s, ss_r3 h.1, bind_s, nl_4, if_eq (by omega) (by omega), if_neg q4]
    · rw [wr_g0, bind_s, rd_5, bind_s, hr.2.1 5 (by decide), nl_4, if_eq (by omega) (by omega), if_neg q4]
