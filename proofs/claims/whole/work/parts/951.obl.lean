/-! OBLIGATIONS IN ORDER: as the class has them -/
theorem erl_iff (q r : Ln) : erl q r = true ↔ (q.2.1 < r.2.1 ∨ q.2.1 = r.2.1 ∧ (q.1 < r.1 ∨ q.1 = r.1 ∧ q.2.2.1 < r.2.2.1)) := by
  unfold erl
  by_cases h1 : q.2.1 = r.2.1
  · by_cases h2 : q.1 = r.1
    · simp [h1, h2]
    · simp [h1, h2]
  · simp [h1]
theorem erl_irr (q : Ln) : erl q q = false := by
  have := erl_iff q q
  cases h : erl q q with
  | false => rfl
  | true => rw [h] at this; have := this.mp rfl; omega
theorem erl_asym {q r : Ln} (h : erl q r = true) : erl r q = false := by
  have h1 := (erl_iff q r).mp h
  have h2 := erl_iff r q
  cases h3 : erl r q with
  | false => rfl
  | true => rw [h3] at h2; have := h2.mp rfl; omega
theorem erl_trans {q r s : Ln} (h : erl q r = true) (h2 : erl r s = true) : erl q s = true := by
  have h1 := (erl_iff q r).mp h
  have h2 := (erl_iff r s).mp h2
  refine (erl_iff q s).mpr ?_
  omega
theorem erl_tot {q r : Ln} (h : q.2.2.1 ≠ r.2.2.1) (h2 : ¬ erl q r = true) : erl r q = true := by
  rw [erl_iff] at *
  omega
/-- numbers grow as they come -/
abbrev Grow (ob : List Ln) : Prop := ob.Pairwise (fun a b => a.2.2.1 < b.2.2.1)
theorem grow_ne {ob : List Ln} (h : Grow ob) {i j : Nat} {q r : Ln} (hi : ob[i]? = some q) (hj : ob[j]? = some r) (hne : i ≠ j) : q.2.2.1 ≠ r.2.2.1 := by
  have h : ob.Pairwise (fun a b => a.2.2.1 < b.2.2.1) := h
  rw [List.pairwise_iff_getElem] at h
  obtain ⟨i1, rfl⟩ := List.getElem?_eq_some_iff.mp hi
  obtain ⟨j1, rfl⟩ := List.getElem?_eq_some_iff.mp hj
  by_cases hlt : i < j
  · have := h i j i1 j1 hlt
    omega
  · have := h j i j1 i1 (by omega)
    omega
theorem bst_none {p : Ln → Bool} {ob : List Ln} : ∀ j, bst p ob j = none → ∀ i q, i < j → ob[i]? = some q → p q = false := by
  intro j
  induction j with
  | zero => intro _ i q h; omega
  | succ j ih =>
    intro h i q hij hq
    rw [bst] at h
    cases hj : ob[j]? with
    | none =>
      rw [hj] at h
      by_cases e : i = j
      · subst e; rw [hj] at hq; cases hq
      · exact ih h i q (by omega) hq
    | some r =>
      rw [hj] at h
      simp only at h
      by_cases hp : p r = true
      · rw [if_pos hp] at h
        split at h
        · cases h
        · rename_i x hx
          split at h
          · cases h
          · rw [h] at hx
            cases hx
      · rw [if_neg hp] at h
        by_cases e : i = j
        · subst e
          rw [hj] at hq
          have : r = q := by simpa using hq
          subst this
          simpa using hp
        · exact ih h i q (by omega) hq
theorem bst_some {p : Ln → Bool} {ob : List Ln} (hg : Grow ob) : ∀ j i, bst p ob j = some i → ∃ q, ob[i]? = some q ∧ p q = true ∧ ∀ k r, k < j → ob[k]? = some r → p r = true → k = i ∨ erl q r = true := by
  intro j
  induction j with
  | zero => intro i h; cases h
  | succ j ih =>
    intro i h
    rw [bst] at h
    cases hj : ob[j]? with
    | none =>
      rw [hj] at h
      obtain ⟨q, h1, h2, h3⟩ := ih i h
      refine ⟨q, h1, h2, fun k r hk hr hp => ?_⟩
      by_cases e : k = j
      · subst e; rw [hj] at hr; cases hr
      · exact h3 k r (by omega) hr hp
    | some x =>
      rw [hj] at h
      simp only at h
      by_cases hp : p x = true
      · rw [if_pos hp] at h
        cases hb : bst p ob j with
        | none =>
          rw [hb] at h
          have : j = i := by simpa using h
          subst this
          refine ⟨x, hj, hp, fun k r hk hr hpr => ?_⟩
          by_cases e : k = j
          · exact Or.inl e
          · have := bst_none j hb k r (by omega) hr
            rw [this] at hpr
            cases hpr
        | some i2 =>
          obtain ⟨q, h1, h2, h3⟩ := ih i2 hb
          rw [hb, Option.bind_some, h1] at h
          simp only at h
          by_cases he : erl x q = true
          · rw [if_pos he] at h
            have : j = i := by simpa using h
            subst this
            refine ⟨x, hj, hp, fun k r hk hr hpr => ?_⟩
            by_cases e : k = j
            · exact Or.inl e
            · rcases h3 k r (by omega) hr hpr with h4 | h4
              · subst h4
                rw [h1] at hr
                have : q = r := by simpa using hr
                subst this
                exact Or.inr he
              · exact Or.inr (erl_trans he h4)
          · rw [if_neg he] at h
            have : i2 = i := by simpa using h
            subst this
            refine ⟨q, h1, h2, fun k r hk hr hpr => ?_⟩
            by_cases e : k = j
            · subst e
              rw [hj] at hr
              have : x = r := by simpa using hr
              subst this
              by_cases e2 : k = i2
              · exact Or.inl e2
              · exact Or.inr (erl_tot (grow_ne hg hj h1 e2) he)
            · exact h3 k r (by omega) hr hpr
      · rw [if_neg hp] at h
        obtain ⟨q, h1, h2, h3⟩ := ih i h
        refine ⟨q, h1, h2, fun k r hk hr hpr => ?_⟩
        by_cases e : k = j
        · subst e
          rw [hj] at hr
          have : x = r := by simpa using hr
          subst this
          exact absurd hpr hp
        · exact h3 k r (by omega) hr hpr
/-- lc is ob in order -/
def SrtO (ob lc : List Ln) : Prop := lc.Perm ob ∧ lc.Pairwise (fun a b => erl a b = true)
theorem srt_lt {lc : List Ln} (h : lc.Pairwise (fun a b => erl a b = true)) {i j : Nat} {q r : Ln} (hi : lc[i]? = some q) (hj : lc[j]? = some r) : erl q r = true ↔ i < j := by
  rw [List.pairwise_iff_getElem] at h
  obtain ⟨i1, rfl⟩ := List.getElem?_eq_some_iff.mp hi
  obtain ⟨j1, rfl⟩ := List.getElem?_eq_some_iff.mp hj
  constructor
  · intro he
    refine Nat.lt_of_not_le fun hle => ?_
    by_cases e : i = j
    · subst e
      rw [erl_irr] at he
      cases he
    · have := erl_asym (h j i j1 i1 (by omega))
      rw [this] at he
      cases he
  · exact h i j i1 j1
/-- the earliest of all, and the one behind one -/
theorem bst_first {ob lc : List Ln} (hg : Grow ob) (hs : SrtO ob lc) {p : Ln → Bool} (i : Nat) (hp : ∀ j q, lc[j]? = some q → (p q = true ↔ i ≤ j)) : (bst p ob ob.length).bind (fun k => ob[k]?) = lc[i]? := by
  cases hb : bst p ob ob.length with
  | none =>
    show none = _
    cases hl : lc[i]? with
    | none => rfl
    | some q =>
      have h1 : q ∈ ob := hs.1.mem_iff.mp (List.mem_of_getElem? hl)
      obtain ⟨k, hk⟩ := List.getElem?_of_mem h1
      have h2 := bst_none ob.length hb k q (List.getElem?_eq_some_iff.mp hk).1 hk
      have h3 := (hp i q hl).mpr (Nat.le_refl _)
      rw [h2] at h3
      cases h3
  | some k =>
    obtain ⟨q, h1, h2, h3⟩ := bst_some hg ob.length k hb
    show ob[k]? = _
    rw [h1]
    have hq : q ∈ lc := hs.1.mem_iff.mpr (List.mem_of_getElem? h1)
    obtain ⟨j, hj⟩ := List.getElem?_of_mem hq
    have hij := (hp j q hj).mp h2
    by_cases e : i = j
    · rw [e, hj]
    · have hil : i < lc.length := by
        have := (List.getElem?_eq_some_iff.mp hj).1
        omega
      have hl : lc[i]? = some lc[i] := List.getElem?_eq_getElem hil
      have hm : lc[i] ∈ ob := hs.1.mem_iff.mp (List.getElem_mem hil)
      obtain ⟨k2, hk2⟩ := List.getElem?_of_mem hm
      rcases h3 k2 _ (List.getElem?_eq_some_iff.mp hk2).1 hk2 ((hp i _ hl).mpr (Nat.le_refl _)) with h4 | h4
      · subst h4
        rw [h1] at hk2
        rw [hl]
        exact hk2
      · have := (srt_lt hs.2 hj hl).mp h4
        omega
theorem bst_0 {ob lc : List Ln} (hg : Grow ob) (hs : SrtO ob lc) : (bst (fun _ => true) ob ob.length).bind (fun k => ob[k]?) = lc[0]? := bst_first hg hs 0 (fun _ _ _ => by simp)
theorem bst_s {ob lc : List Ln} (hg : Grow ob) (hs : SrtO ob lc) {i : Nat} {r : Ln} (hr : lc[i]? = some r) : (bst (erl r) ob ob.length).bind (fun k => ob[k]?) = lc[i + 1]? := bst_first hg hs (i + 1) (fun j q hq => by rw [srt_lt hs.2 hr hq]; rfl)
/-- one more is put in -/
def insO (x : Ln) : List Ln → List Ln
  | [] => [x]
  | q :: l => if q.2.1 < x.2.1 ∨ q.2.1 = x.2.1 ∧ q.1 ≤ x.1 then q :: insO x l else x :: q :: l
def insOA (x : Ln) : List Ln → Nat
  | [] => 0
  | q :: l => if q.2.1 < x.2.1 ∨ q.2.1 = x.2.1 ∧ q.1 ≤ x.1 then insOA x l + 1 else 0
theorem insO_perm (x : Ln) : ∀ l, (insO x l).Perm (x :: l) := by
  intro l
  induction l with
  | nil => exact List.Perm.refl _
  | cons q l ih =>
    rw [insO]
    split
    · exact (List.Perm.cons q ih).trans (List.Perm.swap x q l)
    · exact List.Perm.refl _
theorem insO_cut (x : Ln) : ∀ l, insO x l = l.take (insOA x l) ++ x :: l.drop (insOA x l) := by
  intro l
  induction l with
  | nil => rfl
  | cons q l ih =>
    rw [insO, insOA]
    split
    · rw [ih]
      rfl
    · rfl
theorem insOA_le (x : Ln) : ∀ l, insOA x l ≤ l.length := by
  intro l
  induction l with
  | nil => exact Nat.le_refl _
  | cons q l ih =>
    rw [insOA]
    split
    · simp [ih]
    · exact Nat.zero_le _
theorem insOA_at (x : Ln) : ∀ l (i : Nat) (q : Ln), l[i]? = some q → i < insOA x l → (q.2.1 < x.2.1 ∨ q.2.1 = x.2.1 ∧ q.1 ≤ x.1) := by
  intro l
  induction l with
  | nil => intro i q h; simp at h
  | cons r l ih =>
    intro i q h hi
    rw [insOA] at hi
    split at hi
    · rename_i hr
      cases i with
      | zero =>
        have : r = q := by simpa using h
        subst this
        exact hr
      | succ i => exact ih i q (by simpa using h) (by omega)
    · omega
theorem insOA_stop (x : Ln) : ∀ l (q : Ln), l[insOA x l]? = some q → ¬ (q.2.1 < x.2.1 ∨ q.2.1 = x.2.1 ∧ q.1 ≤ x.1) := by
  intro l
  induction l with
  | nil => intro q h; simp at h
  | cons r l ih =>
    intro q h
    rw [insOA] at h
    split at h
    · exact ih q (by simpa using h)
    · rename_i hr
      have : r = q := by simpa using h
      subst this
      exact hr
theorem insO_sort (x : Ln) : ∀ l, l.Pairwise (fun a b => erl a b = true) → (∀ q, q ∈ l → q.2.2.1 < x.2.2.1) → (insO x l).Pairwise (fun a b => erl a b = true) := by
  intro l
  induction l with
  | nil => intro _ _; simp [insO]
  | cons q l ih =>
    intro hp hx
    rw [List.pairwise_cons] at hp
    have hq := hx q List.mem_cons_self
    rw [insO]
    split
    · rename_i h
      rw [List.pairwise_cons]
      refine ⟨fun b hb => ?_, ih hp.2 (fun b hb => hx b (List.mem_cons_of_mem _ hb))⟩
      rcases List.mem_cons.mp ((insO_perm x l).mem_iff.mp hb) with h2 | h2
      · subst h2
        rw [erl_iff]
        omega
      · exact hp.1 b h2
    · rename_i h
      rw [List.pairwise_cons, List.pairwise_cons]
      have hxq : erl x q = true := by
        rw [erl_iff]
        omega
      refine ⟨fun b hb => ?_, hp⟩
      rcases List.mem_cons.mp hb with h2 | h2
      · rw [h2]; exact hxq
      · exact erl_trans hxq (hp.1 b h2)
theorem srtO_add {ob lc : List Ln} (hs : SrtO ob lc) (x : Ln) (hx : ∀ q, q ∈ ob → q.2.2.1 < x.2.2.1) : SrtO (ob ++ [x]) (insO x lc) := by
  refine ⟨?_, insO_sort x lc hs.2 fun q hq => hx q (hs.1.mem_iff.mp hq)⟩
  exact ((insO_perm x lc).trans (List.Perm.cons x hs.1)).trans (List.perm_append_singleton x ob).symm
theorem srtO_drop {ob lc : List Ln} (hs : SrtO ob lc) {k : Nat} {q : Ln} {t : List Ln} (hl : lc = q :: t) (hk : ob[k]? = some q) : SrtO (ob.eraseIdx k) t := by
  subst hl
  obtain ⟨h1, h2⟩ := hs
  rw [List.pairwise_cons] at h2
  refine ⟨?_, h2.2⟩
  have hkl := (List.getElem?_eq_some_iff.mp hk)
  obtain ⟨hk1, hk2⟩ := hkl
  have h3 : ob.Perm (q :: ob.eraseIdx k) := by
    have e := List.take_append_drop k ob
    rw [List.drop_eq_getElem_cons hk1, hk2] at e
    rw [List.eraseIdx_eq_take_drop_succ]
    have h4 : (ob.take k ++ q :: ob.drop (k + 1)).Perm (q :: (ob.take k ++ ob.drop (k + 1))) := List.perm_middle
    rw [e] at h4
    exact h4
  exact (List.perm_cons q).mp (h1.trans h3)
theorem grow_erase {ob : List Ln} (h : Grow ob) (k : Nat) : Grow (ob.eraseIdx k) := h.sublist (List.eraseIdx_sublist _ _)
theorem grow_add {ob : List Ln} (h : Grow ob) {x : Ln} (hx : ∀ q, q ∈ ob → q.2.2.1 < x.2.2.1) : Grow (ob ++ [x]) := by
  refine List.pairwise_append.mpr ⟨h, List.pairwise_singleton _ _, fun a ha b hb => ?_⟩
  have : b = x := by simpa using hb
  subst this
  exact hx a ha
/-- the one of a number is one, in whatever order -/
theorem fnd_same {ob lc : List Ln} (hg : Grow ob) (hs : SrtO ob lc) (num : Nat) : (ob.find? fun q => decide (q.2.2.1 = num)) = lc.find? fun q => decide (q.2.2.1 = num) := by
  cases h1 : ob.find? fun q => decide (q.2.2.1 = num) with
  | none =>
    rw [List.find?_eq_none] at h1
    symm
    rw [List.find?_eq_none]
    intro q hq
    exact h1 q (hs.1.mem_iff.mp hq)
  | some q =>
    have hq1 := List.mem_of_find?_eq_some h1
    have hq2 := List.find?_some h1
    cases h2 : lc.find? fun q => decide (q.2.2.1 = num) with
    | none =>
      rw [List.find?_eq_none] at h2
      exact absurd hq2 (h2 q (hs.1.mem_iff.mpr hq1))
    | some r =>
      have hr1 := hs.1.mem_iff.mp (List.mem_of_find?_eq_some h2)
      have hr2 := List.find?_some h2
      obtain ⟨i, hi⟩ := List.getElem?_of_mem hq1
      obtain ⟨j, hj⟩ := List.getElem?_of_mem hr1
      simp only [decide_eq_true_eq] at hq2 hr2
      by_cases e : i = j
      · subst e
        rw [hi] at hj
        exact hj
      · exact absurd (hq2.trans hr2.symm) (grow_ne hg hi hj e)
