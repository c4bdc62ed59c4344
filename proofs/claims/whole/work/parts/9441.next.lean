/-! THE EARLIEST OBLIGATION -/
/-- the earlier of two: by level, by state, by number -/
def erl (q r : Ln) : Bool := if q.2.1 = r.2.1 then (if q.1 = r.1 then decide (q.2.2.1 < r.2.2.1) else decide (q.1 < r.1)) else decide (q.2.1 < r.2.1)
theorem sr_isEarlier (c : Ce) (m : Nat) (μ : MS) {ob : List Ln} (hO : Lin (μ.1 0) ob) (hB : LB ob) {k j : Nat} {q r : Ln} (hq : ob[k]? = some q) (hr : ob[j]? = some r) : m_X12_isEarlier (wr c m μ) m (nI k) (nI j) = some (if erl q r then 1 else 0) := by
  obtain ⟨q1, q2, q3, q4⟩ := hB q (List.mem_of_getElem? hq)
  obtain ⟨r1, r2, r3, r4⟩ := hB r (List.mem_of_getElem? hr)
  unfold m_X12_isEarlier erl
  simp only [wr_rcv, bind_s]
  rw [rl_1 c m μ hO hq, bind_s, rl_1 c m μ hO hr, bind_s, rl_0 c m μ hO hq, rl_0 c m μ hO hr]
  simp only [bind_s]
  rw [if_eq (by omega) (by omega), if_eq (by omega) (by omega)]
  by_cases h1 : q.2.1 = r.2.1
  · rw [if_pos h1, if_pos h1]
    by_cases h2 : q.1 = r.1
    · rw [if_pos h2, if_pos h2, bind_s, rl_2 c m μ hO hq, bind_s, rl_2 c m μ hO hr, bind_s, if_le (by omega) (by omega)]
      by_cases h3 : r.2.2.1 ≤ q.2.2.1
      · have : ¬ q.2.2.1 < r.2.2.1 := by omega
        simp [h3, this]
      · have : q.2.2.1 < r.2.2.1 := by omega
        simp [h3, this]
    · rw [if_neg h2, if_neg h2, bind_s, rl_0 c m μ hO hq, bind_s, rl_0 c m μ hO hr, bind_s, if_le (by omega) (by omega)]
      by_cases h3 : r.1 ≤ q.1
      · have : ¬ q.1 < r.1 := by omega
        simp [h3, this]
      · have : q.1 < r.1 := by omega
        simp [h3, this]
  · rw [if_neg h1, if_neg h1, bind_s, rl_1 c m μ hO hq, bind_s, rl_1 c m μ hO hr, bind_s, if_le (by omega) (by omega)]
    by_cases h3 : r.2.1 ≤ q.2.1
    · have : ¬ q.2.1 < r.2.1 := by omega
      simp [h3, this]
    · have : q.2.1 < r.2.1 := by omega
      simp [h3, this]
/-- the earliest of those that p takes, among the first j: its place -/
def bst (p : Ln → Bool) (ob : List Ln) : Nat → Option Nat
  | 0 => none
  | j + 1 => match ob[j]? with
    | none => bst p ob j
    | some q => if p q then (match (bst p ob j).bind fun i => ob[i]? with
      | none => some j
      | some r => if erl q r then some j else bst p ob j) else bst p ob j
def oI (o : Option Nat) : Int32 := match o with
  | none => -1
  | some k => nI k
theorem bst_lt (p : Ln → Bool) (ob : List Ln) : ∀ j i, bst p ob j = some i → i < j ∧ i < ob.length := by
  intro j
  induction j with
  | zero => intro i h; cases h
  | succ j ih =>
    intro i h
    rw [bst] at h
    cases hq : ob[j]? with
    | none =>
      rw [hq] at h
      have := ih i h
      omega
    | some q =>
      have hj : j < ob.length := (List.getElem?_eq_some_iff.mp hq).1
      rw [hq] at h
      simp only at h
      have old : bst p ob j = some i → i < j + 1 ∧ i < ob.length := fun z => by have := ih i z; omega
      have new : some j = some i → i < j + 1 ∧ i < ob.length := fun z => by
        have : j = i := by simpa using z
        omega
      by_cases hp : p q = true
      · rw [if_pos hp] at h
        split at h
        · exact new h
        · split at h
          · exact new h
          · exact old h
      · rw [if_neg hp] at h
        exact old h
/-- nextLine, behind none or behind one -/
theorem sr_nextLine (c : Ce) (m : Nat) (μ : MS) {ob : List Ln} (hO : Lin (μ.1 0) ob) (hB : LB ob) {o : Option Nat} {p : Ln → Bool} (hp : match o with | none => (∀ q, p q = true) | some k => ∃ r, ob[k]? = some r ∧ p = erl r) : m_X12_nextLine (wr c m μ) m (oI o) = some (oI (bst p ob ob.length)) := by
  have h80 := hO.2.1
  refine ok_eq ?_
  unfold m_X12_nextLine
  refine ok_call (P := fun w => w = oI (bst p ob ob.length)) (ok_cnt 0 ob.length (fun j s => s = (oI (bst p ob j), nI j)) (by omega) (by omega) rfl ?_ ?_) (fun a h => ok_some h)
  · rintro j _ hj rfl
    have hat : ob[j]? = some ob[j] := List.getElem?_eq_getElem hj
    generalize ob[j] = q at hat
    simp only [wr_g0, wr_rcv, bind_s, mu0_a, ma_of, rd_0, wt_0, rd_1, wt_1, rd_2, wt_2, rd_3, wt_3, rd_4, wt_4, rd_5, wt_5, rd_6, wt_6, rd_7, wt_7, rd_8, wt_8, rd_9, wt_9, rd_10, wt_10, rd_11, wt_11, rd_12, wt_12, rd_13, wt_13, rd_14, wt_14, rd_15, wt_15, rd_16, wt_16, rd_17, wt_17]
    rw [hO.1, if_le (by omega) (by omega), if_neg (by omega)]
    have stay : p q = false → bst p ob (j + 1) = bst p ob j := by
      intro hf
      rw [bst, hat]
      simp [hf]
    have go : p q = true → (if oI (bst p ob j) = (-1 : Int32) then some (Sum.inl (nI j, nI j + 1)) else (m_X12_isEarlier (wr c m μ) m (nI j) (oI (bst p ob j))).bind fun zx8 => if zx8 = 0 then some (Sum.inl (oI (bst p ob j), nI j + 1)) else some (Sum.inl (nI j, nI j + 1)) : Option ((Int32 × Int32) ⊕ Int32)) = some (Sum.inl (oI (bst p ob (j + 1)), nI (j + 1))) := by
      intro ht
      have e : bst p ob (j + 1) = (match (bst p ob j).bind fun i => ob[i]? with | none => some j | some r => if erl q r then some j else bst p ob j) := by
        rw [bst, hat]
        simp [ht]
      cases hb : bst p ob j with
      | none =>
        rw [hb] at e
        have e : bst p ob (j + 1) = some j := e
        rw [if_pos (show oI none = -1 from rfl), e, nI_1]
        rfl
      | some i =>
        have hi := bst_lt p ob j i hb
        have hai : ob[i]? = some ob[i] := List.getElem?_eq_getElem hi.2
        rw [hb, Option.bind_some, hai] at e
        have e : bst p ob (j + 1) = if erl q ob[i] = true then some j else some i := e
        rw [show oI (some i) = nI i from rfl, if_neg (nI_m1 (by omega)), sr_isEarlier c m μ hO hB hat hai, bind_s, if_b, e]
        cases erl q ob[i] with
        | true => rw [if_pos rfl, if_pos rfl, nI_1]; rfl
        | false => rw [if_neg (by decide), if_neg (by decide), nI_1]; rfl
    cases o with
    | none =>
      refine ok_to (a := Sum.inr (nI j)) (if_pos rfl) ?_
      exact ok_of (go (hp q)) rfl
    | some k =>
      obtain ⟨r, hr, rfl⟩ := hp
      have hk : k < ob.length := (List.getElem?_eq_some_iff.mp hr).1
      rw [show oI (some k) = nI k from rfl, if_neg (nI_m1 (by omega)), sr_isEarlier c m μ hO hB hr hat, bind_s, if_b]
      cases hq : erl r q with
      | true =>
        refine ok_to (a := Sum.inr (nI j)) rfl ?_
        exact ok_of (go hq) rfl
      | false =>
        refine ok_to (a := Sum.inl (Sum.inl (oI (bst (erl r) ob j), nI j + 1))) rfl ?_
        refine ok_some ?_
        show (_, nI j + 1) = (_, nI (j + 1))
        rw [stay hq, nI_1]
  · rintro _ rfl
    simp only [wr_g0, wr_rcv, bind_s, mu0_a, ma_of, rd_0, wt_0, rd_1, wt_1, rd_2, wt_2, rd_3, wt_3, rd_4, wt_4, rd_5, wt_5, rd_6, wt_6, rd_7, wt_7, rd_8, wt_8, rd_9, wt_9, rd_10, wt_10, rd_11, wt_11, rd_12, wt_12, rd_13, wt_13, rd_14, wt_14, rd_15, wt_15, rd_16, wt_16, rd_17, wt_17]
    rw [hO.1, if_le (by omega) (by omega), if_pos (Nat.le_refl _)]
    exact ok_some rfl
/-- the line of a number -/
def fndL (ob : List Ln) (num : Nat) : Option Nat := ob.findIdx? fun q => decide (q.2.2.1 = num)
theorem fnd_at {α : Type} {l : List α} {p : α → Bool} {j : Nat} (hj : j < l.length) (hp : p l[j] = true) (hn : ∀ i (hi : i < j), p (l[i]'(by omega)) = false) : l.findIdx? p = some j := by
  rw [List.findIdx?_eq_some_iff_getElem]
  exact ⟨hj, hp, fun i hi => by rw [hn i hi]; decide⟩
theorem sr_lineOf (c : Ce) (m : Nat) (μ : MS) {ob : List Ln} (hO : Lin (μ.1 0) ob) (hB : LB ob) {num : Nat} (hn : num < 2 ^ 31) : m_X12_lineOf (wr c m μ) m (nI num) = some (oI (fndL ob num)) := by
  have h80 := hO.2.1
  refine ok_eq ?_
  unfold m_X12_lineOf
  refine ok_call (P := fun o => Sum.elim (fun w => some w) (fun _ => some (-1 : Int32)) o = some (oI (fndL ob num))) (ok_cnt 0 ob.length (fun j s => s = nI j ∧ ∀ i (hi : i < ob.length), i < j → ob[i].2.2.1 ≠ num) (by omega) (by omega) ⟨rfl, fun _ _ h => by omega⟩ ?_ ?_) (fun a h => ok_of h rfl)
  · rintro j _ hj ⟨rfl, hl⟩
    have hat : ob[j]? = some ob[j] := List.getElem?_eq_getElem hj
    have hb := hB ob[j] (List.getElem_mem hj)
    simp only [wr_g0, wr_rcv, bind_s, mu0_a, ma_of, rd_0, wt_0, rd_1, wt_1, rd_2, wt_2, rd_3, wt_3, rd_4, wt_4, rd_5, wt_5, rd_6, wt_6, rd_7, wt_7, rd_8, wt_8, rd_9, wt_9, rd_10, wt_10, rd_11, wt_11, rd_12, wt_12, rd_13, wt_13, rd_14, wt_14, rd_15, wt_15, rd_16, wt_16, rd_17, wt_17]
    rw [hO.1, if_le (by omega) (by omega), if_neg (by omega), rl_2 c m μ hO hat, bind_s, if_eq (by omega) (by omega)]
    by_cases hq : ob[j].2.2.1 = num
    · rw [if_pos hq]
      refine ok_some ?_
      show some (nI j) = some (oI (fndL ob num))
      unfold fndL
      rw [fnd_at hj (by simp [hq]) (fun i hi => by simp [hl i (by omega) hi])]
      rfl
    · rw [if_neg hq]
      refine ok_some ⟨nI_1 j, fun i hi hij => ?_⟩
      by_cases e : i = j
      · subst e; exact hq
      · exact hl i hi (by omega)
  · rintro _ ⟨rfl, hl⟩
    simp only [wr_g0, wr_rcv, bind_s, mu0_a, ma_of, rd_0, wt_0, rd_1, wt_1, rd_2, wt_2, rd_3, wt_3, rd_4, wt_4, rd_5, wt_5, rd_6, wt_6, rd_7, wt_7, rd_8, wt_8, rd_9, wt_9, rd_10, wt_10, rd_11, wt_11, rd_12, wt_12, rd_13, wt_13, rd_14, wt_14, rd_15, wt_15, rd_16, wt_16, rd_17, wt_17]
    rw [hO.1, if_le (by omega) (by omega), if_pos (Nat.le_refl _)]
    refine ok_some ?_
    show some (-1 : Int32) = some (oI (fndL ob num))
    have : fndL ob num = none := by
      unfold fndL
      rw [List.findIdx?_eq_none_iff]
      intro q hq
      obtain ⟨i, hi, rfl⟩ := List.getElem_of_mem hq
      simp [hl i hi hi]
    rw [this]
    rfl
/-- the lowest state ahead of one -/
def ahdS (M : Mv) (st : Nat) (x : Int64) : Int64 := mkS fun s => decide (s < 2 ^ M.1) && decide (s ≠ st) && B x s && B (aftN M.2.1 s 15 4) st
theorem sr_aheadOf (c : Ce) (m : Nat) (μ : MS) {M : Mv} (hM : Mac (μ.1 0) M) {st : Nat} (hst : st < 64) (x : Int64) : m_X12_aheadOf (wr c m μ) m (nI st) x = some (lowI (ahdS M st x)) := by
  have hL := hM.2.2.1
  have h64 := p2_64 hL
  refine ok_eq ?_
  unfold m_X12_aheadOf
  have hB : ∀ j, j < 64 → B (ahdS M st x) j = (decide (j < 2 ^ M.1) && decide (j ≠ st) && B x j && B (aftN M.2.1 j 15 4) st) := fun j hj => by unfold ahdS; exact B_mkS _ hj
  refine ok_call (P := fun o => Sum.elim (fun w => some w) (fun _ => some (-1 : Int32)) o = some (lowI (ahdS M st x))) (ok_cnt 0 (2 ^ M.1) (fun j s => s = nI j ∧ ∀ i, i < j → B (ahdS M st x) i = false) (by omega) (Nat.zero_le _) ⟨rfl, fun _ h => by omega⟩ ?_ ?_) (fun a h => ok_of h rfl)
  · rintro j _ hj ⟨rfl, hl⟩
    have nxt : B (ahdS M st x) j = false → ∀ i, i < j + 1 → B (ahdS M st x) i = false := by
      intro hf i hi
      by_cases e : i = j
      · rw [e]; exact hf
      · exact hl i (by omega)
    have hbj := hB j (by omega)
    simp only [wr_rcv, bind_s]
    rw [sr_states c m μ hL hM.1, bind_s, if_le (by omega) (by omega), if_neg (by omega), if_eq (by omega) (by omega)]
    by_cases h1 : j = st
    · rw [if_pos h1]
      exact ok_some ⟨nI_1 j, nxt (by rw [hbj]; simp [h1])⟩
    · rw [if_neg h1, mh_has _ (by omega : j < 64), bind_s, if_b]
      cases h2 : B x j with
      | false =>
        rw [if_neg (by decide)]
        exact ok_some ⟨nI_1 j, nxt (by rw [hbj]; simp [h2])⟩
      | true =>
        rw [if_pos rfl, sr_after c m μ hL hM.2.2.2.2.2.2.2.2 hj, bind_s, mh_has _ hst, bind_s, if_b]
        cases h3 : B (aftN M.2.1 j 15 4) st with
        | false =>
          rw [if_neg (by decide)]
          exact ok_some ⟨nI_1 j, nxt (by rw [hbj]; simp [h3])⟩
        | true =>
          rw [if_pos rfl]
          refine ok_some ?_
          show some (nI j) = some (lowI (ahdS M st x))
          unfold lowI
          rw [lowS_at (by omega) (by rw [hbj]; simp [h1, h2, h3, hj]) hl]
  · rintro _ ⟨rfl, hl⟩
    simp only [wr_rcv, bind_s]
    rw [sr_states c m μ hL hM.1, bind_s, if_le (by omega) (by omega), if_pos (Nat.le_refl _)]
    refine ok_some ?_
    show some (-1 : Int32) = some (lowI (ahdS M st x))
    unfold lowI
    rw [lowS_none fun j hj => ?_]
    by_cases h : j < 2 ^ M.1
    · exact hl j h
    · rw [hB j hj]; simp [h]
