/-! THE ORDER OF LETTERS: by a key, like keys by number -/
def bef (kk : Nat → Nat) (o l : Nat) : Bool := decide (kk o < kk l) || (decide (kk o = kk l) && decide (o < l))
/-- x, greater than all of l, goes ahead of those whose key is greater -/
def insP (kk : Nat → Nat) (x : Nat) : List Nat → List Nat
  | [] => [x]
  | o :: l => if kk x < kk o then x :: o :: l else o :: insP kk x l
def ordL (kk : Nat → Nat) : Nat → List Nat
  | 0 => []
  | j + 1 => insP kk j (ordL kk j)
/-- where it goes -/
def insAt (kk : Nat → Nat) (x : Nat) : List Nat → Nat
  | [] => 0
  | o :: l => if kk x < kk o then 0 else insAt kk x l + 1
theorem insP_mem (kk : Nat → Nat) (x b : Nat) : ∀ l, b ∈ insP kk x l ↔ b = x ∨ b ∈ l := by
  intro l
  induction l with
  | nil => simp [insP]
  | cons o l ih =>
    rw [insP]
    by_cases h : kk x < kk o
    · simp [h]
    · simp [h, ih]
      constructor
      · rintro (h | h | h) <;> simp [h]
      · rintro (h | h | h) <;> simp [h]
theorem insP_len (kk : Nat → Nat) (x : Nat) : ∀ l, (insP kk x l).length = l.length + 1 := by
  intro l
  induction l with
  | nil => rfl
  | cons o l ih =>
    rw [insP]
    by_cases h : kk x < kk o
    · simp [h]
    · simp [h, ih]
theorem insP_perm (kk : Nat → Nat) (x : Nat) : ∀ l, (insP kk x l).Perm (x :: l) := by
  intro l
  induction l with
  | nil => exact List.Perm.refl _
  | cons o l ih =>
    rw [insP]
    by_cases h : kk x < kk o
    · rw [if_pos h]
    · rw [if_neg h]
      exact (List.Perm.cons o ih).trans (List.Perm.swap x o l)
theorem insAt_le (kk : Nat → Nat) (x : Nat) : ∀ l, insAt kk x l ≤ l.length := by
  intro l
  induction l with
  | nil => exact Nat.le_refl _
  | cons o l ih =>
    rw [insAt]
    by_cases h : kk x < kk o
    · simp [h]
    · simp [h, ih]
theorem insP_at (kk : Nat → Nat) (x : Nat) : ∀ l (i : Nat), (insP kk x l)[i]? = if i < insAt kk x l then l[i]? else if i = insAt kk x l then some x else l[i - 1]? := by
  intro l
  induction l with
  | nil =>
    intro i
    rw [insP, insAt]
    cases i with
    | zero => rfl
    | succ i => simp
  | cons o l ih =>
    intro i
    rw [insP, insAt]
    by_cases h : kk x < kk o
    · rw [if_pos h, if_pos h]
      cases i with
      | zero => rfl
      | succ i => simp
    · rw [if_neg h, if_neg h]
      cases i with
      | zero => simp
      | succ i =>
        rw [List.getElem?_cons_succ, ih i]
        by_cases h1 : i < insAt kk x l
        · have h3 : i + 1 < insAt kk x l + 1 := by omega
          rw [if_pos h1, if_pos h3]
          rfl
        · have h3 : ¬ i + 1 < insAt kk x l + 1 := by omega
          rw [if_neg h1, if_neg h3]
          by_cases h2 : i = insAt kk x l
          · have h4 : i + 1 = insAt kk x l + 1 := by omega
            rw [if_pos h2, if_pos h4]
          · have h4 : ¬ i + 1 = insAt kk x l + 1 := by omega
            rw [if_neg h2, if_neg h4]
            obtain ⟨i2, rfl⟩ : ∃ i2, i = i2 + 1 := ⟨i - 1, by omega⟩
            rfl
theorem insP_sort (kk : Nat → Nat) (x : Nat) : ∀ l, l.Pairwise (fun a b => bef kk a b = true) → (∀ o, o ∈ l → o < x) → (insP kk x l).Pairwise (fun a b => bef kk a b = true) := by
  intro l
  induction l with
  | nil => intro _ _; simp [insP]
  | cons o l ih =>
    intro hp hx
    rw [List.pairwise_cons] at hp
    rw [insP]
    by_cases h : kk x < kk o
    · rw [if_pos h, List.pairwise_cons, List.pairwise_cons]
      refine ⟨fun b hb => ?_, hp⟩
      unfold bef
      have : kk x < kk b := by
        rcases List.mem_cons.mp hb with h2 | h2
        · rw [h2]; exact h
        · have := hp.1 b h2
          unfold bef at this
          simp at this
          omega
      simp [this]
    · rw [if_neg h, List.pairwise_cons]
      refine ⟨fun b hb => ?_, ih hp.2 (fun b hb => hx b (List.mem_cons_of_mem _ hb))⟩
      rcases (insP_mem kk x b l).mp hb with h2 | h2
      · subst h2
        have h3 := hx o (List.mem_cons_self)
        unfold bef
        by_cases h4 : kk o < kk b
        · simp [h4]
        · have h5 : kk o = kk b := by omega
          simp [h5, h3]
      · exact hp.1 b h2
/-- those behind its place have a greater key, those ahead have none -/
theorem insAt_ge (kk : Nat → Nat) (x : Nat) : ∀ l, l.Pairwise (fun a b => bef kk a b = true) → ∀ (i : Nat) (o : Nat), l[i]? = some o → (kk x < kk o ↔ insAt kk x l ≤ i) := by
  intro l
  induction l with
  | nil => intro _ i o h; simp at h
  | cons p l ih =>
    intro hp i o h
    rw [List.pairwise_cons] at hp
    rw [insAt]
    by_cases hx : kk x < kk p
    · rw [if_pos hx]
      refine ⟨fun _ => Nat.zero_le _, fun _ => ?_⟩
      cases i with
      | zero =>
        have : p = o := by simpa using h
        rw [← this]; exact hx
      | succ i =>
        have h2 : o ∈ l := List.mem_of_getElem? (i := i) (by simpa using h)
        have := hp.1 o h2
        unfold bef at this
        simp at this
        omega
    · rw [if_neg hx]
      cases i with
      | zero =>
        have : p = o := by simpa using h
        rw [← this]
        constructor
        · intro q; exact absurd q hx
        · intro q; omega
      | succ i =>
        rw [ih hp.2 i o (by simpa using h)]
        omega
theorem ordL_len (kk : Nat → Nat) : ∀ j, (ordL kk j).length = j := by
  intro j
  induction j with
  | zero => rfl
  | succ j ih => rw [ordL, insP_len, ih]
theorem ordL_perm (kk : Nat → Nat) : ∀ j, (ordL kk j).Perm (List.range j) := by
  intro j
  induction j with
  | zero => exact List.Perm.refl _
  | succ j ih =>
    rw [ordL, List.range_succ]
    exact ((insP_perm kk j _).trans (List.Perm.cons j ih)).trans (List.perm_append_singleton j _).symm
theorem ordL_lt (kk : Nat → Nat) {j o : Nat} (h : o ∈ ordL kk j) : o < j := List.mem_range.mp ((ordL_perm kk j).mem_iff.mp h)
theorem ordL_sort (kk : Nat → Nat) : ∀ j, (ordL kk j).Pairwise (fun a b => bef kk a b = true) := by
  intro j
  induction j with
  | zero => exact List.Pairwise.nil
  | succ j ih => exact insP_sort kk j _ ih (fun o ho => ordL_lt kk ho)
theorem bef_irr (kk : Nat → Nat) (a : Nat) : bef kk a a = false := by simp [bef]
theorem bef_asym {kk : Nat → Nat} {a b : Nat} (h : bef kk a b = true) : bef kk b a = false := by
  unfold bef at *
  simp at *
  omega
theorem sort_rank {kk : Nat → Nat} : ∀ (l : List Nat), l.Pairwise (fun a b => bef kk a b = true) → ∀ (i x : Nat), l[i]? = some x → l.countP (fun o => bef kk o x) = i := by
  intro l
  induction l with
  | nil => intro _ i x h; simp at h
  | cons p l ih =>
    intro hp i x h
    rw [List.pairwise_cons] at hp
    rw [List.countP_cons]
    cases i with
    | zero =>
      have : p = x := by simpa using h
      subst this
      rw [bef_irr]
      have : l.countP (fun o => bef kk o p) = 0 := by
        rw [List.countP_eq_zero]
        intro b hb
        rw [bef_asym (hp.1 b hb)]
        decide
      rw [this]
      rfl
    | succ i =>
      have h2 : l[i]? = some x := by simpa using h
      rw [ih hp.2 i x h2, hp.1 x (List.mem_of_getElem? h2)]
      rfl
theorem ordL_rank (kk : Nat → Nat) {L i l : Nat} (h : (ordL kk L)[i]? = some l) : (List.range L).countP (fun o => bef kk o l) = i := by
  rw [← (ordL_perm kk L).countP_eq]
  exact sort_rank _ (ordL_sort kk L) i l h
theorem ordL_of_rank (kk : Nat → Nat) {L l : Nat} (hl : l < L) : (ordL kk L)[(List.range L).countP (fun o => bef kk o l)]? = some l := by
  have hm : l ∈ ordL kk L := (ordL_perm kk L).mem_iff.mpr (List.mem_range.mpr hl)
  obtain ⟨i, hi⟩ := List.getElem?_of_mem hm
  rw [ordL_rank kk hi]
  exact hi
