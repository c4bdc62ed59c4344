/-! CUBES BY FRAMES: as the class has them -/
def srtN (fr : List Cu) : Nat → List Cu
  | 0 => []
  | n + 1 => srtN fr n ++ fr.filter fun q => decide (q.1 = n)
abbrev srtF (fr : List Cu) : List Cu := srtN fr 128
theorem srtN_mem (fr : List Cu) (q : Cu) : ∀ n, q ∈ srtN fr n ↔ q ∈ fr ∧ q.1 < n := by
  intro n
  induction n with
  | zero => simp [srtN]
  | succ n ih =>
    rw [srtN, List.mem_append, ih, List.mem_filter]
    simp only [decide_eq_true_eq]
    constructor
    · rintro (⟨h1, h2⟩ | ⟨h1, h2⟩)
      · exact ⟨h1, by omega⟩
      · exact ⟨h1, by omega⟩
    · rintro ⟨h1, h2⟩
      by_cases h : q.1 < n
      · exact Or.inl ⟨h1, h⟩
      · exact Or.inr ⟨h1, by omega⟩
theorem srtN_sort (fr : List Cu) : ∀ n, (srtN fr n).Pairwise (fun a b => a.1 ≤ b.1) := by
  intro n
  induction n with
  | zero => exact List.Pairwise.nil
  | succ n ih =>
    rw [srtN, List.pairwise_append]
    refine ⟨ih, ?_, fun a ha b hb => ?_⟩
    · rw [List.pairwise_iff_getElem]
      intro i j hi hj _
      have h1 := (List.mem_filter.mp (List.getElem_mem hi)).2
      have h2 := (List.mem_filter.mp (List.getElem_mem hj)).2
      simp only [decide_eq_true_eq] at h1 h2
      omega
    · have h1 := ((srtN_mem fr a n).mp ha).2
      have h2 := (List.mem_filter.mp hb).2
      simp only [decide_eq_true_eq] at h2
      omega
theorem filter_two (fr : List Cu) (n : Nat) : ((fr.filter fun q => decide (q.1 < n)) ++ fr.filter fun q => decide (q.1 = n)).Perm (fr.filter fun q => decide (q.1 < n + 1)) := by
  induction fr with
  | nil => exact List.Perm.refl _
  | cons q fr ih =>
    by_cases h1 : q.1 < n
    · have h2 : ¬ q.1 = n := by omega
      have h3 : q.1 < n + 1 := by omega
      simp only [List.filter_cons, h1, h2, h3, decide_true, decide_false, if_true, Bool.false_eq_true, if_false, List.cons_append]
      exact List.Perm.cons q ih
    · by_cases h2 : q.1 = n
      · have h3 : q.1 < n + 1 := by omega
        have e1 : decide (q.1 < n) = false := by simp [h1]
        have e2 : decide (q.1 = n) = true := by simp [h2]
        have e3 : decide (q.1 < n + 1) = true := by simp [h3]
        rw [List.filter_cons, e1, List.filter_cons, e2, List.filter_cons, e3]
        exact List.perm_middle.trans (List.Perm.cons q ih)
      · have h3 : ¬ q.1 < n + 1 := by omega
        simp only [List.filter_cons, h1, h2, h3, decide_true, decide_false, if_true, Bool.false_eq_true, if_false]
        exact ih
theorem srtN_perm (fr : List Cu) : ∀ n, (srtN fr n).Perm (fr.filter fun q => decide (q.1 < n)) := by
  intro n
  induction n with
  | zero =>
    have : (fr.filter fun q => decide (q.1 < 0)) = [] := by simp
    rw [this]
    exact List.Perm.refl _
  | succ n ih =>
    rw [srtN]
    exact (List.Perm.append_right _ ih).trans (filter_two fr n)
theorem srtF_perm {fr : List Cu} (h : ∀ q, q ∈ fr → q.1 < 128) : (srtF fr).Perm fr := by
  have e : (fr.filter fun q => decide (q.1 < 128)) = fr := List.filter_eq_self.mpr fun q hq => by simp [h q hq]
  have := srtN_perm fr 128
  rw [e] at this
  exact this
theorem srtF_len {fr : List Cu} (h : ∀ q, q ∈ fr → q.1 < 128) : (srtF fr).length = fr.length := (srtF_perm h).length_eq
theorem srtN_filter (fr : List Cu) (p : Cu → Bool) : ∀ n, (srtN fr n).filter p = srtN (fr.filter p) n := by
  intro n
  induction n with
  | zero => rfl
  | succ n ih =>
    rw [srtN, srtN, List.filter_append, ih, List.filter_filter, List.filter_filter]
    congr 1
    refine List.filter_congr fun q _ => ?_
    exact Bool.and_comm _ _
theorem srtN_low {fr : List Cu} {q : Cu} : ∀ n, n ≤ q.1 → srtN (fr ++ [q]) n = srtN fr n := by
  intro n
  induction n with
  | zero => intro _; rfl
  | succ n ih =>
    intro h
    have h2 : ¬ q.1 = n := by omega
    rw [srtN, srtN, ih (by omega), List.filter_append]
    simp [h2]
/-- the row split at a frame, and one more put in there -/
theorem srtN_split (fr : List Cu) (q : Cu) : ∀ n, q.1 < n → ∃ Y, srtN fr n = srtN fr (q.1 + 1) ++ Y ∧ srtN (fr ++ [q]) n = srtN fr (q.1 + 1) ++ q :: Y ∧ ∀ y, y ∈ Y → q.1 < y.1 := by
  intro n
  induction n with
  | zero => intro h; omega
  | succ n ih =>
    intro h
    by_cases he : q.1 = n
    · subst he
      refine ⟨[], by simp, ?_, by simp⟩
      rw [srtN, srtN_low _ (Nat.le_refl _), List.filter_append, srtN]
      simp
    · obtain ⟨Y, h1, h2, h3⟩ := ih (by omega)
      refine ⟨Y ++ fr.filter fun r => decide (r.1 = n), ?_, ?_, fun y hy => ?_⟩
      · rw [srtN, h1, List.append_assoc]
      · rw [srtN, h2, List.filter_append]
        simp [he]
      · rcases List.mem_append.mp hy with hy | hy
        · exact h3 y hy
        · have := (List.mem_filter.mp hy).2
          simp only [decide_eq_true_eq] at this
          omega
theorem srtN_cut (fr : List Cu) (f : Nat) : ∀ n, f ≤ n → ∃ Y, srtN fr n = srtN fr f ++ Y ∧ ∀ y, y ∈ Y → f ≤ y.1 := by
  intro n
  induction n with
  | zero =>
    intro h
    have : f = 0 := by omega
    subst this
    exact ⟨[], rfl, by simp⟩
  | succ n ih =>
    intro h
    by_cases he : f = n + 1
    · subst he
      exact ⟨[], by simp, by simp⟩
    · obtain ⟨Y, h1, h2⟩ := ih (by omega)
      refine ⟨Y ++ fr.filter fun r => decide (r.1 = n), ?_, fun y hy => ?_⟩
      · rw [srtN, h1, List.append_assoc]
      · rcases List.mem_append.mp hy with hy | hy
        · exact h2 y hy
        · have := (List.mem_filter.mp hy).2
          simp only [decide_eq_true_eq] at this
          omega
/-- HOW MANY CUBES: those that come again behind -/
def rep : List Cu → Nat
  | [] => 0
  | q :: l => rep l + if l.any (fun r => decide (r.2 = q.2)) then 1 else 0
theorem any_mono {l : List Cu} {p : Cu → Bool} {q : Cu} (h : (l.filter p).any (fun r => decide (r.2 = q.2)) = true) : l.any (fun r => decide (r.2 = q.2)) = true := by
  rw [List.any_eq_true] at *
  obtain ⟨r, h1, h2⟩ := h
  exact ⟨r, (List.mem_filter.mp h1).1, h2⟩
theorem rep_filter (p : Cu → Bool) : ∀ l, rep (l.filter p) ≤ rep l := by
  intro l
  induction l with
  | nil => exact Nat.le_refl _
  | cons q l ih =>
    rw [List.filter_cons]
    cases hp : p q with
    | false =>
      rw [if_neg (by decide), rep]
      omega
    | true =>
      rw [if_pos rfl, rep, rep]
      by_cases h : (l.filter p).any (fun r => decide (r.2 = q.2)) = true
      · rw [if_pos h, if_pos (any_mono h)]
        omega
      · rw [if_neg h]
        omega
theorem rep_add (x : Cu) : ∀ l, rep (l ++ [x]) = rep l + if l.any (fun r => decide (r.2 = x.2)) then 1 else 0 := by
  intro l
  induction l with
  | nil => rfl
  | cons q l ih =>
    rw [List.cons_append, rep, rep, ih]
    simp only [List.any_append, List.any_cons, List.any_nil, Bool.or_false]
    by_cases h1 : x.2 = q.2
    · simp [h1]
      rw [h1]
    · have h2 : ¬ q.2 = x.2 := fun z => h1 z.symm
      simp only [h1, h2, decide_false, Bool.or_false, Bool.false_or]
      omega
/-- one is out whose like stays -/
theorem rep_filter1 (p : Cu → Bool) {c : Nat × Nat} : ∀ l, (∃ x, x ∈ l ∧ x.2 = c ∧ p x = false) → (∃ y, y ∈ l ∧ y.2 = c ∧ p y = true) → rep (l.filter p) + 1 ≤ rep l := by
  intro l
  induction l with
  | nil =>
    rintro ⟨x, hx, _⟩ _
    cases hx
  | cons q l ih =>
    rintro ⟨x, hx, hxc, hxp⟩ ⟨y, hy, hyc, hyp⟩
    have hf := rep_filter p l
    rcases List.mem_cons.mp hx with hx1 | hx1
    · subst hx1
      rcases List.mem_cons.mp hy with hy1 | hy1
      · subst hy1
        rw [hxp] at hyp
        cases hyp
      · rw [List.filter_cons, hxp, if_neg (by decide), rep]
        have : l.any (fun r => decide (r.2 = x.2)) = true := by
          rw [List.any_eq_true]
          exact ⟨y, hy1, by simp [hyc, hxc]⟩
        rw [if_pos this]
        omega
    · rcases List.mem_cons.mp hy with hy1 | hy1
      · subst hy1
        rw [List.filter_cons, hyp, if_pos rfl, rep, rep]
        have h1 : l.any (fun r => decide (r.2 = y.2)) = true := by
          rw [List.any_eq_true]
          exact ⟨x, hx1, by simp [hyc, hxc]⟩
        rw [if_pos h1]
        by_cases h2 : (l.filter p).any (fun r => decide (r.2 = y.2)) = true
        · rw [if_pos h2]
          rw [List.any_eq_true] at h2
          obtain ⟨z, hz1, hz2⟩ := h2
          have := ih ⟨x, hx1, hxc, hxp⟩ ⟨z, (List.mem_filter.mp hz1).1, by simp at hz2; rw [hz2, hyc], (List.mem_filter.mp hz1).2⟩
          omega
        · rw [if_neg h2]
          omega
      · have := ih ⟨x, hx1, hxc, hxp⟩ ⟨y, hy1, hyc, hyp⟩
        rw [List.filter_cons]
        cases hp : p q with
        | false =>
          rw [if_neg (by decide), rep]
          omega
        | true =>
          rw [if_pos rfl, rep, rep]
          by_cases h : (l.filter p).any (fun r => decide (r.2 = q.2)) = true
          · rw [if_pos h, if_pos (any_mono h)]
            omega
          · rw [if_neg h]
            omega
/-- the codes of cubes: 729 of them -/
def okC (c : Nat) : Bool := decide ((c % 64) &&& (c / 64) = c % 64)
abbrev allC : List Nat := (List.range 4096).filter okC
theorem allC_len : allC.length = 729 := by decide +kernel
theorem range_nd (n : Nat) : (List.range n).Nodup := List.nodup_range
def codeC (q : Cu) : Nat := q.2.1 * 64 + q.2.2
/-- the different ones -/
def dif : List Cu → List Nat
  | [] => []
  | q :: l => if l.any (fun r => decide (r.2 = q.2)) then dif l else codeC q :: dif l
theorem dif_len : ∀ l, (dif l).length + rep l = l.length := by
  intro l
  induction l with
  | nil => rfl
  | cons q l ih =>
    rw [dif, rep]
    by_cases h : l.any (fun r => decide (r.2 = q.2)) = true
    · rw [if_pos h, if_pos h, List.length_cons]
      omega
    · rw [if_neg h, if_neg h, List.length_cons, List.length_cons]
      omega
theorem dif_mem {c : Nat} : ∀ l, c ∈ dif l → ∃ q, q ∈ l ∧ c = codeC q := by
  intro l
  induction l with
  | nil => intro h; cases h
  | cons q l ih =>
    intro h
    rw [dif] at h
    have go : c ∈ dif l → ∃ r, r ∈ q :: l ∧ c = codeC r := fun z => by
      obtain ⟨r, h1, h2⟩ := ih z
      exact ⟨r, List.mem_cons_of_mem _ h1, h2⟩
    by_cases ha : l.any (fun r => decide (r.2 = q.2)) = true
    · rw [if_pos ha] at h
      exact go h
    · rw [if_neg ha] at h
      rcases List.mem_cons.mp h with h1 | h1
      · exact ⟨q, List.mem_cons_self, h1⟩
      · exact go h1
theorem dif_nd : ∀ l, (∀ q, q ∈ l → q.2.2 < 64) → (dif l).Nodup := by
  intro l
  induction l with
  | nil => intro _; exact List.nodup_nil
  | cons q l ih =>
    intro hb
    have ih := ih (fun r hr => hb r (List.mem_cons_of_mem _ hr))
    rw [dif]
    by_cases ha : l.any (fun r => decide (r.2 = q.2)) = true
    · rw [if_pos ha]
      exact ih
    · rw [if_neg ha, List.nodup_cons]
      refine ⟨fun hc => ha ?_, ih⟩
      obtain ⟨r, h1, h2⟩ := dif_mem l hc
      rw [List.any_eq_true]
      refine ⟨r, h1, ?_⟩
      have b1 := hb q List.mem_cons_self
      have b2 := hb r (List.mem_cons_of_mem _ h1)
      unfold codeC at h2
      have e1 : r.2.1 = q.2.1 := by omega
      have e2 : r.2.2 = q.2.2 := by omega
      simp [Prod.ext_iff, e1, e2]
/-- what has no like twice and lies in a row is no longer than it -/
theorem nd_le : ∀ (l m : List Nat), l.Nodup → (∀ x, x ∈ l → x ∈ m) → l.length ≤ m.length := by
  intro l
  induction l with
  | nil => intro m _ _; exact Nat.zero_le _
  | cons a l ih =>
    intro m hn hm
    rw [List.nodup_cons] at hn
    have ha := hm a List.mem_cons_self
    have h2 := ih (m.erase a) hn.2 (fun x hx => by
      have hne : x ≠ a := fun e => hn.1 (e ▸ hx)
      exact (List.mem_erase_of_ne hne).mpr (hm x (List.mem_cons_of_mem _ hx)))
    rw [List.length_erase_of_mem ha] at h2
    have : 0 < m.length := List.length_pos_of_mem ha
    rw [List.length_cons]
    omega
theorem len_rep {l : List Cu} (h : ∀ q, q ∈ l → q.2.1 < 64 ∧ q.2.2 < 64 ∧ q.2.2 &&& q.2.1 = q.2.2) : l.length ≤ rep l + 729 := by
  have h1 := dif_len l
  have h2 := nd_le (dif l) allC (dif_nd l fun q hq => (h q hq).2.1) (fun c hc => by
    obtain ⟨q, hq, rfl⟩ := dif_mem l hc
    obtain ⟨a1, a2, a3⟩ := h q hq
    rw [List.mem_filter, List.mem_range]
    unfold codeC okC
    refine ⟨by omega, ?_⟩
    have e1 : (q.2.1 * 64 + q.2.2) % 64 = q.2.2 := by omega
    have e2 : (q.2.1 * 64 + q.2.2) / 64 = q.2.1 := by omega
    rw [e1, e2]
    simp [a3])
  rw [allC_len] at h2
  omega
