/-! TRACE -/
def fnm (lc : List Ln) (num : Nat) : Option Ln := lc.find? fun q => decide (q.2.2.1 = num)
def cst (lc : List Ln) : Nat → Option Ln
  | 0 => lc[0]?
  | i + 1 => (cst lc i).bind fun q => fnm lc q.2.2.2
def upto (lc : List Ln) (n : Nat) : Nat := (lc.filter fun q => decide (q.2.2.1 ≤ n)).length
theorem upto_c (x : Ln) (l : List Ln) (n : Nat) : upto (x :: l) n = upto l n + if x.2.2.1 ≤ n then 1 else 0 := by
  unfold upto
  rw [List.filter_cons]
  by_cases h : x.2.2.1 ≤ n
  · rw [if_pos h, if_pos (by simp [h]), List.length_cons]
  · rw [if_neg h, if_neg (by simp [h])]
    rfl
theorem upto_le {n m : Nat} (h : n ≤ m) : ∀ l : List Ln, upto l n ≤ upto l m := by
  intro l
  induction l with
  | nil => exact Nat.le_refl _
  | cons x l ih =>
    rw [upto_c, upto_c]
    by_cases h1 : x.2.2.1 ≤ n
    · rw [if_pos h1, if_pos (by omega)]
      omega
    · rw [if_neg h1]
      omega
theorem upto_lt {q : Ln} {n : Nat} (h : n < q.2.2.1) : ∀ l : List Ln, q ∈ l → upto l n < upto l q.2.2.1 := by
  intro l
  induction l with
  | nil => intro hq; cases hq
  | cons x l ih =>
    intro hq
    rw [upto_c, upto_c]
    have hle := upto_le (Nat.le_of_lt h) l
    rcases List.mem_cons.mp hq with rfl | hq
    · rw [if_neg (by omega), if_pos (Nat.le_refl _)]
      omega
    · have := ih hq
      by_cases h1 : x.2.2.1 ≤ n
      · rw [if_pos h1, if_pos (by omega)]
        omega
      · rw [if_neg h1]
        omega
theorem fnm_s {lc : List Ln} {num : Nat} {q : Ln} (h : fnm lc num = some q) : q ∈ lc ∧ q.2.2.1 = num := ⟨List.mem_of_find?_eq_some h, by have := List.find?_some h; simpa using this⟩
theorem cst_in {lc : List Ln} : ∀ {i : Nat} {q : Ln}, cst lc i = some q → q ∈ lc := by
  intro i q h
  cases i with
  | zero => exact List.mem_of_getElem? h
  | succ i =>
    obtain ⟨r, _, h2⟩ := Option.bind_eq_some_iff.mp h
    exact (fnm_s h2).1
theorem cst_up {lc : List Ln} (hp : ∀ q, q ∈ lc → q.2.2.2 < q.2.2.1) : ∀ {i : Nat} {q : Ln}, cst lc i = some q → i + upto lc q.2.2.1 ≤ lc.length := by
  intro i
  induction i with
  | zero =>
    intro q _
    rw [Nat.zero_add]
    exact List.length_filter_le _ _
  | succ i ih =>
    intro q h
    obtain ⟨r, h1, h2⟩ := Option.bind_eq_some_iff.mp h
    have h3 := ih h1
    have hr := cst_in h1
    have h4 := upto_lt (hp r hr) lc hr
    rw [(fnm_s h2).2]
    omega
theorem cst_end {lc : List Ln} (hp : ∀ q, q ∈ lc → q.2.2.2 < q.2.2.1) : ∃ N, N ≤ lc.length ∧ cst lc N = none ∧ ∀ i, i < N → ∃ q, cst lc i = some q := by
  have key : ∀ k, (∃ N, N ≤ k ∧ cst lc N = none ∧ ∀ i, i < N → ∃ q, cst lc i = some q) ∨ ∀ i, i ≤ k → ∃ q, cst lc i = some q := by
    intro k
    induction k with
    | zero =>
      cases h : cst lc 0 with
      | none => exact Or.inl ⟨0, Nat.le_refl _, h, fun i hi => by omega⟩
      | some q => exact Or.inr fun i hi => by rw [show i = 0 by omega]; exact ⟨q, h⟩
    | succ k ih =>
      rcases ih with ⟨N, h1, h2⟩ | ih
      · exact Or.inl ⟨N, by omega, h2⟩
      · cases h : cst lc (k + 1) with
        | none => exact Or.inl ⟨k + 1, Nat.le_refl _, h, fun i hi => ih i (by omega)⟩
        | some q =>
          refine Or.inr fun i hi => ?_
          by_cases e : i = k + 1
          · rw [e]; exact ⟨q, h⟩
          · exact ih i (by omega)
  rcases key lc.length with h | h
  · exact h
  · obtain ⟨q, hq⟩ := h lc.length (Nat.le_refl _)
    have h1 := cst_up hp hq
    have h2 := cst_in hq
    have h3 := upto_lt (hp q h2) lc h2
    omega
def chW (lc : List Ln) (i : Nat) : List Nat := (List.range i).map fun k => ((cst lc k).getD (0, 0, 0, 0)).1
theorem chW_s {lc : List Ln} {i : Nat} {q : Ln} (h : cst lc i = some q) : chW lc (i + 1) = chW lc i ++ [q.1] := by
  unfold chW
  rw [List.range_succ, List.map_append]
  show _ ++ [((cst lc i).getD (0, 0, 0, 0)).1] = _
  rw [h]
  rfl
theorem chW_len (lc : List Ln) (i : Nat) : (chW lc i).length = i := by
  unfold chW
  rw [List.length_map, List.length_range]
theorem fnd_idx (l : List Ln) (num : Nat) : (fndL l num = none ∧ fnm l num = none) ∨ ∃ k q, fndL l num = some k ∧ l[k]? = some q ∧ fnm l num = some q := by
  cases h : fndL l num with
  | none =>
    refine Or.inl ⟨rfl, ?_⟩
    unfold fndL at h
    rw [List.findIdx?_eq_none_iff] at h
    unfold fnm
    rw [List.find?_eq_none]
    intro x hx
    rw [h x hx]
    decide
  | some k =>
    unfold fndL at h
    rw [List.findIdx?_eq_some_iff_getElem] at h
    obtain ⟨h1, h2, h3⟩ := h
    refine Or.inr ⟨k, l[k], rfl, List.getElem?_eq_getElem h1, ?_⟩
    unfold fnm
    rw [List.find?_eq_some_iff_getElem]
    exact ⟨h2, k, h1, rfl, fun j hj => by have := h3 j hj; simpa using this⟩
theorem sr_layTrace (c : Ce) (m : Nat) {μ : MS} {V : Sv} (hr : RV μ V) {lc : List Ln} (hg : Grow V.2.2.2.1) (hs : SrtO V.2.2.2.1 lc) (hB : LB V.2.2.2.1) (h5 : V.2.1 5 < 5) {N : Nat} (hN : N ≤ 78) (h0 : cst lc N = none) (hS : ∀ i, i < N → ∃ q, cst lc i = some q) : ∃ ν, m_X12_layTrace (wr c m μ) m = some ((), wr c m ν) ∧ Way ν (if V.2.1 5 = 4 then chW lc N else []) ∧ KY μ ν := by
  obtain ⟨ν0, e0, w0, k0⟩ := way_0 c m μ
  have hr0 := KY_RV k0 hr
  have h80 := hr0.2.2.2.1.2.1
  have hBl : LB lc := fun q hq => hB q (hs.1.subset hq)
  have key : Ok (m_X12_layTrace (wr c m μ) m) (fun o => ∃ ν, o = ((), wr c m ν) ∧ Way ν (if V.2.1 5 = 4 then chW lc N else []) ∧ KY μ ν) := by
    unfold m_X12_layTrace
    rw [e0, bind_s, wr_g0, bind_s, rd_5, bind_s, hr0.2.1 5 (by decide), nl_4, if_eq (by omega) (by omega)]
    by_cases q4 : V.2.1 5 = 4
    · have e1 : m_X12_nextLine (wr c m ν0) m (-1) = some (oI (bst (fun _ => true) V.2.2.2.1 V.2.2.2.1.length)) := sr_nextLine c m ν0 hr0.2.2.2.1 hB (o := none) (p := fun _ => true) (fun _ => rfl)
      have b0 := bst_0 hg hs
      rw [if_pos q4, if_pos q4, wr_rcv, bind_s, e1, bind_s, bind_s]
      refine ok_call (P := fun o => ∃ ν, o = ((), wr c m ν) ∧ Way ν (chW lc N) ∧ KY μ ν) (ok_cnt 0 N (fun i s => ∃ ν, s.2 = wr c m ν ∧ Way ν (chW lc i) ∧ KY μ ν ∧ ((∃ k q, s.1 = nI k ∧ V.2.2.2.1[k]? = some q ∧ cst lc i = some q) ∨ (s.1 = -1 ∧ cst lc i = none))) (by omega) (by omega) ⟨ν0, rfl, w0, k0, ?_⟩ ?_ ?_) (fun a h => ?_)
      · show (∃ k q, oI (bst (fun _ => true) V.2.2.2.1 V.2.2.2.1.length) = nI k ∧ _ ∧ lc[0]? = some q) ∨ (oI (bst (fun _ => true) V.2.2.2.1 V.2.2.2.1.length) = -1 ∧ lc[0]? = none)
        rw [← b0]
        cases hb : bst (fun _ => true) V.2.2.2.1 V.2.2.2.1.length with
        | none => exact Or.inr ⟨rfl, rfl⟩
        | some k =>
          have hlt : ∃ q, V.2.2.2.1[k]? = some q := by
            rw [hb] at b0
            have b0 : V.2.2.2.1[k]? = lc[0]? := b0
            cases hq : V.2.2.2.1[k]? with
            | some q => exact ⟨q, rfl⟩
            | none =>
              rw [hq] at b0
              have : lc.length = 0 := by
                have := List.getElem?_eq_none_iff.mp b0.symm
                omega
              have : V.2.2.2.1.length = 0 := by rw [← hs.1.length_eq]; exact this
              have hn : V.2.2.2.1 = [] := List.length_eq_zero_iff.mp this
              rw [hn] at hb
              cases hb
          obtain ⟨q, hq⟩ := hlt
          exact Or.inl ⟨k, q, rfl, hq, hq⟩
      · rintro i ⟨u, d⟩ hi ⟨ν, hd, hw, hk, hc⟩
        have hd : d = wr c m ν := hd
        obtain ⟨q0, hq0⟩ := hS i hi
        rcases hc with ⟨k, q, h1, h2, h3⟩ | ⟨_, h2⟩
        · have h1 : u = nI k := h1
          subst h1 hd
          have hk1 := (List.getElem?_eq_some_iff.mp h2).1
          have hrν := KY_RV hk hr
          have hO := hrν.2.2.2.1
          have hbq := hB q (List.mem_of_getElem? h2)
          have hlen := chW_len lc i
          obtain ⟨w2, k2⟩ := way_add hw (by omega) q.1
          have hw1 := hw.1
          have hO2 := (KY_RV (KY_trans hk k2) hr).2.2.2.1
          show Ok (if nI k = -1 then _ else _) _
          rw [if_neg (nI_m1 (by omega))]
          show Ok ((gA (wr c m ν) 9 27 m).bind _) _
          rw [wr_g27, bind_s, wr_g28, bind_s, wr_rcv, bind_s, rl_0 c m ν hO h2, bind_s, hw1, wr_u13 c m ν (by omega), bind_s, wr_g28, bind_s]
          have e2 : (muI ν 13 (va_up (ν.1 13) (chW lc i).length (nI q.1))).2.2.2 14 + 1 = nI ((chW lc i).length + 1) := by
            show ν.2.2.2 14 + 1 = _
            rw [hw1, nI_1]
          rw [e2, wr_n28, bind_s]
          show Ok ((rcv (wr c m (wayA ν (chW lc i).length (nI q.1))) 9 m).bind fun _ => (m_X12_ofLine (wr c m (wayA ν (chW lc i).length (nI q.1))) m (nI k) (3 : Int32)).bind fun zx16 => (rcv (wr c m (wayA ν (chW lc i).length (nI q.1))) 9 m).bind fun _ => (m_X12_lineOf (wr c m (wayA ν (chW lc i).length (nI q.1))) m zx16).bind fun zx18 => some (Sum.inl (zx18, wr c m (wayA ν (chW lc i).length (nI q.1))))) _
          rw [wr_rcv, bind_s, rl_3 c m _ hO2 h2, bind_s, bind_s, sr_lineOf c m _ hO2 hB hbq.2.2.2, bind_s]
          have hnx : cst lc (i + 1) = fnm V.2.2.2.1 q.2.2.2 := by
            show (cst lc i).bind _ = _
            rw [h3]
            exact (fnd_same hg hs q.2.2.2).symm
          refine ok_some ⟨_, rfl, by rw [chW_s h3]; exact w2, KY_trans hk k2, ?_⟩
          rw [hnx]
          rcases fnd_idx V.2.2.2.1 q.2.2.2 with ⟨f1, f2⟩ | ⟨k3, q3, f1, f2, f3⟩
          · exact Or.inr ⟨by show oI (fndL _ _) = -1; rw [f1]; rfl, f2⟩
          · exact Or.inl ⟨k3, q3, by show oI (fndL _ _) = nI k3; rw [f1]; rfl, f2, f3⟩
        · rw [hq0] at h2
          cases h2
      · rintro ⟨u, d⟩ ⟨ν, hd, hw, hk, hc⟩
        have hd : d = wr c m ν := hd
        rcases hc with ⟨k, q, h1, h2, h3⟩ | ⟨h1, h2⟩
        · rw [h0] at h3
          cases h3
        · have h1 : u = -1 := h1
          subst h1 hd
          show Ok (if (-1 : Int32) = -1 then _ else _) _
          rw [if_pos rfl]
          exact ok_some ⟨ν, rfl, hw, hk⟩
      · obtain ⟨ν, rfl, h2, h3⟩ := h
        exact ok_some ⟨ν, rfl, h2, h3⟩
    · rw [if_neg q4, if_neg q4, bind_s]
      refine ok_call (P := fun o => o = ((), wr c m ν0)) (ok_cnt 0 0 (fun i s => s = ((-1 : Int32), wr c m ν0)) (by omega) (by omega) rfl (fun _ _ h => by omega) ?_) (fun a h => ?_)
      · rintro _ rfl
        show Ok (if (-1 : Int32) = -1 then _ else _) _
        rw [if_pos rfl]
        exact ok_some rfl
      · subst h
        exact ok_some ⟨ν0, rfl, w0, k0⟩
  obtain ⟨_, hv, ν, rfl, h2, h3⟩ := key
  exact ⟨ν, hv, h2, h3⟩
/-! the class -/
theorem co_place {ce : Ce} {o p cap : Nat} {lc : List Ln} (h : OB ce o p cap lc) {num : Nat} (hn : num < 2 ^ 31) : m_X6_placeOf ce o (nI num) = some (oI (fndL lc num)) := by
  have hcap : lc.length < 1000 := by
    obtain ⟨P, _, _, a1, a2, _⟩ := h
    omega
  have hB : LB lc := by
    obtain ⟨P, _, _, _, _, a3, _⟩ := h
    exact a3
  refine ok_eq ?_
  unfold m_X6_placeOf
  refine ok_call (P := fun o => Sum.elim (fun w => some w) (fun _ => some (-1 : Int32)) o = some (oI (fndL lc num))) (ok_cnt 0 lc.length (fun j s => s = nI j ∧ ∀ i (hi : i < lc.length), i < j → lc[i].2.2.1 ≠ num) (by omega) (by omega) ⟨rfl, fun _ _ h => by omega⟩ ?_ ?_) (fun a h => ok_of h rfl)
  · rintro j _ hj ⟨rfl, hl⟩
    have hat : lc[j]? = some lc[j] := List.getElem?_eq_getElem hj
    have hb := hB lc[j] (List.getElem_mem hj)
    rw [co_size h, bind_s, if_le (by omega) (by omega), if_neg (by omega), co_rcv h, bind_s, co_p2 h hat, bind_s, if_eq (by omega) (by omega)]
    by_cases hq : lc[j].2.2.1 = num
    · rw [if_pos hq]
      refine ok_some ?_
      show some (nI j) = some (oI (fndL lc num))
      unfold fndL
      rw [fnd_at hj (by simp [hq]) (fun i hi => by simp [hl i (by omega) hi])]
      rfl
    · rw [if_neg hq]
      refine ok_some ⟨nI_1 j, fun i hi hij => ?_⟩
      by_cases e : i = j
      · subst e; exact hq
      · exact hl i hi (by omega)
  · rintro _ ⟨rfl, hl⟩
    rw [co_size h, bind_s, if_pos (Int32.le_refl _)]
    refine ok_some ?_
    show some (-1 : Int32) = some (oI (fndL lc num))
    have : fndL lc num = none := by
      unfold fndL
      rw [List.findIdx?_eq_none_iff]
      intro x hx
      obtain ⟨i, hi, rfl⟩ := List.getElem_of_mem hx
      simp [hl i hi hi]
    rw [this]
    rfl
theorem co_chain {ce : Ce} {o p cap : Nat} {lc : List Ln} (h : OB ce o p cap lc) {pt : Nat} {P0 : Nat → Int32} (hp : ce pt = some (.inl (.int, 128, .inl P0))) (n1 : o ≠ pt) (n2 : p ≠ pt) {N : Nat} (hN : N ≤ 78) (h0 : cst lc N = none) (hS : ∀ i, i < N → ∃ q, cst lc i = some q) : ∃ d, m_X6_fillChain ce o pt = some (nI N, d) ∧ (∀ b, b ≠ pt → d b = ce b) ∧ Pth d pt (chW lc N) := by
  have hcap : lc.length < 1000 := by
    obtain ⟨P, _, _, a1, a2, _⟩ := h
    omega
  have hB : LB lc := by
    obtain ⟨P, _, _, _, _, a3, _⟩ := h
    exact a3
  have key : Ok (m_X6_fillChain ce o pt) (fun r => r.1 = nI N ∧ (∀ b, b ≠ pt → r.2 b = ce b) ∧ Pth r.2 pt (chW lc N)) := by
    unfold m_X6_fillChain
    have e0 : nI lc.length ≤ (0 : Int32) ↔ lc.length ≤ 0 := by
      rw [nl_0]
      exact nI_leI (by omega) (by omega)
    rw [co_size h, bind_s]
    refine ok_call (P := fun v => (∃ k q, v = nI k ∧ lc[k]? = some q ∧ cst lc 0 = some q) ∨ (v = -1 ∧ cst lc 0 = none)) ?_ (fun zj hj => ?_)
    · by_cases hl : lc.length ≤ 0
      · rw [if_pos (e0.mpr hl)]
        exact ok_some (Or.inr ⟨rfl, List.getElem?_eq_none hl⟩)
      · rw [if_neg (fun z => hl (e0.mp z))]
        have : lc[0]? = some (lc[0]'(by omega)) := List.getElem?_eq_getElem _
        exact ok_some (Or.inl ⟨0, _, rfl, this, this⟩)
    · refine ok_call (P := fun r => r.1 = nI N ∧ (∀ b, b ≠ pt → r.2 b = ce b) ∧ Pth r.2 pt (chW lc N)) (ok_cnt 0 N (fun i s => s.1.1 = nI i ∧ (∀ b, b ≠ pt → s.2 b = ce b) ∧ Pth s.2 pt (chW lc i) ∧ ((∃ k q, s.1.2 = nI k ∧ lc[k]? = some q ∧ cst lc i = some q) ∨ (s.1.2 = -1 ∧ cst lc i = none))) (by omega) (by omega) ⟨rfl, fun _ _ => rfl, ⟨P0, hp, fun k q hq => by cases hq⟩, hj⟩ ?_ ?_) (fun a h => ok_some h)
      · rintro i ⟨⟨u, v⟩, d⟩ hi ⟨hu, hd, hP, hc⟩
        have hu : u = nI i := hu
        have hd : ∀ b, b ≠ pt → d b = ce b := hd
        obtain ⟨P, p1, p2⟩ := hP
        have p1 : d pt = some (.inl (.int, 128, .inl P)) := p1
        obtain ⟨q0, hq0⟩ := hS i hi
        rcases hc with ⟨k, q, h1, h2, h3⟩ | ⟨_, h2⟩
        · have h1 : v = nI k := h1
          subst h1 hu
          have hk1 := (List.getElem?_eq_some_iff.mp h2).1
          have hbq := hB q (List.mem_of_getElem? h2)
          have hOd : OB d o p cap lc := OB_congr (hd o n1) (hd p n2) h
          show Ok (if nI k = -1 then _ else (alen d pt).bind _) _
          rw [if_neg (nI_m1 (by omega)), alen_I p1, bind_s]
          show Ok (if nI 128 ≤ nI i then _ else (rcv d 4 o).bind _) _
          rw [if_le (by omega) (by omega), if_neg (by omega), co_rcv hOd, bind_s, co_p0 hOd h2, bind_s, sI_c p1 (by omega) (by omega), bind_s]
          have hd2 : ∀ b, b ≠ pt → gx_up d pt (.inl (.int, 128, .inl (va_up P i (nI q.1)))) b = ce b := fun b hb => (if_neg hb).trans (hd b hb)
          generalize hE : gx_up d pt (.inl (.int, 128, .inl (va_up P i (nI q.1)))) = e at hd2
          have he : e pt = some (.inl (.int, 128, .inl (va_up P i (nI q.1)))) := by
            rw [← hE]
            exact if_pos rfl
          have hOe : OB e o p cap lc := OB_congr (hd2 o n1) (hd2 p n2) h
          rw [co_rcv hOe, bind_s, co_p3 hOe h2, bind_s, bind_s, co_place hOe hbq.2.2.2, bind_s]
          have hnx : cst lc (i + 1) = fnm lc q.2.2.2 := by
            show (cst lc i).bind _ = _
            rw [h3]
            rfl
          refine ok_some ⟨nI_1 i, hd2, ⟨_, he, fun k2 q2 hq2 => ?_⟩, ?_⟩
          · rw [chW_s h3] at hq2
            have hlen := chW_len lc i
            by_cases e2 : k2 = i
            · subst e2
              rw [List.getElem?_append_right (by omega), hlen, Nat.sub_self] at hq2
              have : q.1 = q2 := by simpa using hq2
              rw [this, up_e]
            · have hk2 : k2 < i := by
                have := (List.getElem?_eq_some_iff.mp hq2).1
                rw [List.length_append] at this
                have this : k2 < (chW lc i).length + 1 := this
                omega
              rw [List.getElem?_append_left (by omega)] at hq2
              rw [up_n _ _ _ e2]
              exact p2 k2 q2 hq2
          · rw [hnx]
            rcases fnd_idx lc q.2.2.2 with ⟨f1, f2⟩ | ⟨k3, q3, f1, f2, f3⟩
            · exact Or.inr ⟨by show oI (fndL _ _) = -1; rw [f1]; rfl, f2⟩
            · exact Or.inl ⟨k3, q3, by show oI (fndL _ _) = nI k3; rw [f1]; rfl, f2, f3⟩
        · rw [hq0] at h2
          cases h2
      · rintro ⟨⟨u, v⟩, d⟩ ⟨hu, hd, hP, hc⟩
        rcases hc with ⟨k, q, h1, h2, h3⟩ | ⟨h1, h2⟩
        · rw [h0] at h3
          cases h3
        · have h1 : v = -1 := h1
          subst h1
          show Ok (if (-1 : Int32) = -1 then _ else _) _
          rw [if_pos rfl]
          exact ok_some ⟨hu, hd, hP⟩
  obtain ⟨⟨v, d⟩, hv, h1, h2, h3⟩ := key
  have h1 : v = nI N := h1
  subst h1
  exact ⟨d, hv, h2, h3⟩
theorem gA_fr {ce d : Ce} {k i a : Nat} (h : d a = ce a) : gA d k i a = gA ce k i a := by
  unfold gA
  rw [h]
theorem rcv_fr {ce d : Ce} {k a : Nat} (h : d a = ce a) : rcv d k a = rcv ce k a := by
  unfold rcv
  rw [h]
/-- the path's cells: apart from all that is read -/
def Apt (ce : Ce) (nx : Nat) (Z : Nat → Prop) (A : Nat → Nat) (x w pt : Nat) : Prop := (rcv ce 8 x = some () ∧ gA ce 8 6 x = some w ∧ gA ce 7 4 w = some (A 0)) ∧ (gA ce 8 11 x = some pt ∧ ∃ P : Nat → Int32, ce pt = some (.inl (.int, 128, .inl P))) ∧ (x ≠ pt ∧ w ≠ pt ∧ (∀ i, i < 13 → A i ≠ pt) ∧ ¬ Z pt) ∧ ∀ b, Z b → b < nx ∧ Off A b
theorem Apt_XS {ce : Ce} {nx : Nat} {Z : Nat → Prop} {A : Nat → Nat} {x w pt : Nat} (h : Apt ce nx Z A x w pt) : XS ce x A := ⟨h.1.1, w, h.1.2.1, h.1.2.2⟩
theorem Apt_fr {ce d : Ce} {nx : Nat} {Z : Nat → Prop} {A : Nat → Nat} {κ : Nat × Nat × Nat} {V : Sv} {x w pt : Nat} (h : Apt ce nx Z A x w pt) (hz : SZ ce nx Z A κ V) (hd : ∀ b, b ≠ pt → d b = ce b) {P : Nat → Int32} (hP : d pt = some (.inl (.int, 128, .inl P))) : Apt d nx Z A x w pt ∧ SZ d nx Z A κ V := by
  obtain ⟨⟨a1, a2, a3⟩, ⟨b1, b2⟩, ⟨c1, c2, c3, c4⟩, e⟩ := h
  have f1 := hd x c1
  have f2 := hd w c2
  exact ⟨⟨⟨(rcv_fr f1).trans a1, (gA_fr f1).trans a2, (gA_fr f2).trans a3⟩, ⟨(gA_fr f1).trans b1, P, hP⟩, ⟨c1, c2, c3, c4⟩, e⟩, SZ_congr hz e (fun i hi => hd _ (c3 i hi)) (fun b hb => hd b fun z => c4 (z ▸ hb)) (Nat.le_refl _) (fun _ hb => hb)⟩
theorem chain_of {j : Nat} {V : Sv} (hi : IV j V) {lc : List Ln} (hs : SrtO V.2.2.2.1 lc) : ∃ N, N ≤ 78 ∧ cst lc N = none ∧ (∀ i, i < N → ∃ q, cst lc i = some q) ∧ ∀ q, q ∈ chW lc N → q < 2 ^ V.1.1 := by
  obtain ⟨_, a2, _, _, a5, _⟩ := hi
  have hl := OI_len a5
  have hll := hs.1.length_eq
  have h64 := a2.2.1
  have hm : ∀ q, q ∈ lc → q.1 < 2 ^ V.1.1 ∧ q.2.2.2 < q.2.2.1 := fun q hq => by
    have := a5.2.2.1 q (hs.1.subset hq)
    exact ⟨this.1, this.2.2.2.2.2⟩
  obtain ⟨N, n1, n2, n3⟩ := cst_end fun q hq => (hm q hq).2
  refine ⟨N, by omega, n2, n3, fun q hq => ?_⟩
  unfold chW at hq
  obtain ⟨k, hk, rfl⟩ := List.mem_map.mp hq
  obtain ⟨r, hr⟩ := n3 k (List.mem_range.mp hk)
  rw [hr]
  exact (hm r (cst_in hr)).1
theorem e_trace {ce : Ce} {nx : Nat} {Z : Nat → Prop} {A : Nat → Nat} {κ : Nat × Nat × Nat} {V : Sv} {c : Ce} {m : Nat} {μ : MS} {x w pt j : Nat} (ha : Apt ce nx Z A x w pt) (h : SZ ce nx Z A κ V) (hr : RV μ V) (hi : IV j V) (hw : Wk V) (p q : Int32) : ∃ v d ν, m_X11_trace ce x p q = some (v, d) ∧ (∀ b, b ≠ pt → d b = ce b) ∧ (∃ P : Nat → Int32, d pt = some (.inl (.int, 128, .inl P))) ∧ m_X12_trace (wr c m μ) m p q = some (v, wr c m ν) ∧ KY μ ν := by
  have hB : LB V.2.2.2.1 := hw.1.2.2.2.2.2.2.2.1
  have hg : Grow V.2.2.2.1 := hw.2.2.2.2.1
  obtain ⟨lc, g3, g4⟩ := ss_obl h.1
  have h5 := hi.2.2.1.1
  obtain ⟨⟨x0, x1, x2⟩, ⟨b1, P0, b2⟩, ⟨c1, c2, c3, c4⟩, e⟩ := id ha
  obtain ⟨N, n1, n2, n3, n4⟩ := chain_of hi g4
  obtain ⟨ν, l1, l2, l3⟩ := sr_layTrace c m hr hg g4 hB h5 n1 n2 n3
  have hrν := KY_RV l3 hr
  unfold m_X11_trace m_X12_trace
  by_cases q4 : V.2.1 5 = 4
  · obtain ⟨d, f1, f2, f3⟩ := co_chain g3 b2 (c3 5 (by omega)) (c3 6 (by omega)) n1 n2 n3
    obtain ⟨P, f4, f5⟩ := id f3
    obtain ⟨ha2, hz2⟩ := Apt_fr ha h f2 f4
    rw [if_pos q4] at l2
    have hlen := chW_len lc N
    have cp := c_pathPart (Apt_XS ha2) hz2.1 ha2.2.1.1 f3 (by omega) n4 p q
    rw [hlen] at cp
    refine ⟨wpV V.1 (chW lc N) p q, d, ν, ?_, f2, ⟨P, f4⟩, ?_, l3⟩
    · rw [x1, bind_s, x2, bind_s, ss_r3 h.1, bind_s, nl_4, if_eq (by omega) (by omega), if_pos q4, ss_r12 h.1, bind_s, b1, bind_s]
      show (((rcv ce 4 (A 5)).bind fun _ => _).bind _) = _
      rw [co_rcv g3, bind_s, f1, bind_s, bind_s, ha2.1.1, bind_s, cp, bind_s]
    · rw [wr_rcv, bind_s, l1, bind_s, wr_rcv, bind_s, sr_ofWay c m hrν.1 l2 n4 p q, bind_s]
  · rw [if_neg q4] at l2
    have cp := c_pathPart (wl := []) (Apt_XS ha) h.1 b1 ⟨P0, b2, fun k q hq => by cases hq⟩ (by decide) (fun q hq => by cases hq) p q
    have cp : m_X11_pathPart ce x (0 : Int32) p q = some (wpV V.1 [] p q) := cp
    refine ⟨wpV V.1 [] p q, ce, ν, ?_, fun _ _ => rfl, ⟨P0, b2⟩, ?_, l3⟩
    · rw [x1, bind_s, x2, bind_s, ss_r3 h.1, bind_s, nl_4, if_eq (by omega) (by omega), if_neg q4, bind_s, x0, bind_s, cp, bind_s]
    · rw [wr_rcv, bind_s, l1, bind_s, wr_rcv, bind_s, sr_ofWay c m hrν.1 l2 (fun q hq => by cases hq) p q, bind_s]
