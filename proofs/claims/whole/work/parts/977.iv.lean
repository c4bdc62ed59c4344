/-! WHAT HOLDS OF A SEARCH ALL ALONG -/
def OI (V : Sv) : Prop := (V.2.1 5 ≠ 1 → V.2.1 5 ≠ 4 → V.2.2.2.1 = []) ∧ Grow V.2.2.2.1 ∧ (∀ q, q ∈ V.2.2.2.1 → q.1 < 2 ^ V.1.1 ∧ q.2.1 ≤ V.2.1 4 ∧ (q.2.1 = 0 → B V.1.2.2.1 q.1 = true) ∧ 1 ≤ q.2.2.1 ∧ q.2.2.1 ≤ V.2.1 10 ∧ q.2.2.2 < q.2.2.1) ∧ (V.2.2.2.1.filter fun q => decide (q.2.1 = V.2.1 4)).length ≤ 8 ∧ (V.2.2.2.1.filter fun q => decide (q.2.1 < V.2.1 4)).Pairwise (fun a b => b.2.1 < a.2.1)
/-- all is out of the highest frame -/
def YI (V : Sv) : Prop := ∃ f, (∃ q, q ∈ V.2.2.1 ∧ q.1 = f) ∧ (∀ q, q ∈ V.2.2.1 → q.1 ≤ f) ∧ wth V.1 V.2.2.1 f = 0 ∧ (V.2.1 5 < 2 → V.2.1 4 = f) ∧ (V.2.1 5 = 2 → V.2.1 6 = 1)
def IV (c : Nat) (V : Sv) : Prop := WM V.1 ∧ (1 ≤ V.2.1 4 ∧ V.2.1 4 ≤ 65 ∧ (V.2.1 5 < 2 ∨ V.2.1 5 = 4 → V.2.1 4 ≤ 64)) ∧ (V.2.1 5 < 5 ∧ V.2.1 8 < V.1.2.2.2.1 ∧ V.2.1 15 < 3 ∧ V.2.1 6 ≤ 65) ∧ (CI V.1 (V.2.1 4) V.2.2.1 ∧ rep V.2.2.1 ≤ c ∧ c ≤ 600) ∧ OI V ∧ (V.2.1 5 = 2 → 1 ≤ V.2.1 6 ∧ V.2.1 6 < V.2.1 4 ∧ PC V.1 (V.2.1 6) V.2.2.1) ∧ (FI 139 V.2.2.2.2.1 ∨ (YI V ∧ FI 141 V.2.2.2.2.1)) ∧ V.2.2.2.2.2.length ≤ 12 ∧ ∀ q, q ∈ V.2.2.2.2.2 → q.1 < 2 ^ V.1.1 ∧ q.2 &&& q.1 = q.2
/-- counts: what is told, what was gone -/
def NI (g : Nat) (n : Nat → Nat) : Prop := n 11 ≤ g ∧ n 10 ≤ 8 * n 11 ∧ n 12 ≤ 2000 * n 11
theorem IV_L {c : Nat} {V : Sv} (h : IV c V) : V.1.1 < 7 := h.1.2.1
theorem IV_len {c : Nat} {V : Sv} (h : IV c V) : V.2.2.1.length ≤ c + 729 := by
  have hL := IV_L h
  have h64 := p2_64 hL
  have := len_rep (l := V.2.2.1) fun q hq => by
    obtain ⟨a1, a2, a3, a4, a5, a6, a7⟩ := h.2.2.2.1.1 q hq
    have hb : q.2.2 ≤ q.2.1 := by
      rw [← a5]
      exact Nat.and_le_right
    exact ⟨by omega, by omega, a5⟩
  have := h.2.2.2.1.2.1
  omega
/-- falling levels: no more than there are -/
theorem fall_len : ∀ (l : List Ln) (t : Nat), l.Pairwise (fun a b => b.2.1 < a.2.1) → (∀ q, q ∈ l → q.2.1 < t) → l.length ≤ t := by
  intro l
  induction l with
  | nil => intro t _ _; exact Nat.zero_le _
  | cons x l ih =>
    intro t hp hx
    rw [List.pairwise_cons] at hp
    have h1 := ih x.2.1 hp.2 hp.1
    have h2 := hx x List.mem_cons_self
    rw [List.length_cons]
    omega
theorem two_len (l : List Ln) (t : Nat) (h : ∀ q, q ∈ l → q.2.1 ≤ t) : l.length = (l.filter fun q => decide (q.2.1 = t)).length + (l.filter fun q => decide (q.2.1 < t)).length := by
  induction l with
  | nil => rfl
  | cons x l ih =>
    have hx := h x List.mem_cons_self
    have ih := ih fun q hq => h q (List.mem_cons_of_mem _ hq)
    rw [List.filter_cons, List.filter_cons, List.length_cons, ih]
    by_cases he : x.2.1 = t
    · have hn : ¬ x.2.1 < t := by omega
      simp only [he, hn, decide_true, decide_false, if_true, List.length_cons]
      simp
      omega
    · have hlt : x.2.1 < t := by omega
      simp only [he, hlt, decide_true, decide_false, if_true, List.length_cons]
      simp
      omega
theorem OI_len {V : Sv} (h : OI V) : V.2.2.2.1.length ≤ 8 + V.2.1 4 := by
  obtain ⟨h1, h2, h3, h4, h5⟩ := h
  rw [two_len _ (V.2.1 4) fun q hq => (h3 q hq).2.1]
  have := fall_len _ (V.2.1 4) h5 fun q hq => by simpa using (List.mem_filter.mp hq).2
  omega
theorem IV_ob {c : Nat} {V : Sv} (h : IV c V) : V.2.2.2.1.length ≤ 72 := by
  have h1 := OI_len h.2.2.2.2.1
  have h2 := h.2.2.2.2.1.1
  have h3 := h.2.1.2.2
  by_cases h5 : V.2.1 5 = 1
  · have := h3 (Or.inl (by omega))
    omega
  · by_cases h6 : V.2.1 5 = 4
    · have := h3 (Or.inr h6)
      omega
    · rw [h2 h5 h6]
      exact Nat.zero_le _
theorem IV_FI {c : Nat} {V : Sv} (h : IV c V) : FI 141 V.2.2.2.2.1 := by
  rcases h.2.2.2.2.2.2.1 with h1 | h1
  · refine ⟨h1.1, ?_⟩
    have := h1.2
    omega
  · exact h1.2
theorem IV_Wk {c g : Nat} {V : Sv} (h : IV c V) (hn : NI g V.2.1) (hg : g ≤ 1000000) : Wk V := by
  have hL := IV_L h
  have h64 := p2_64 hL
  have hlen := IV_len h
  have hob := IV_ob h
  have hFI := IV_FI h
  obtain ⟨i1, ⟨i2, i2b, i2c⟩, ⟨i3, i4, i5, i5b⟩, ⟨i6, i7, i8⟩, i9, i10, i11, i12⟩ := h
  obtain ⟨o1, o2, o3, o4, o5⟩ := i9
  obtain ⟨n1, n2, n3⟩ := hn
  have hFp := FI_Fp (by omega) hFI
  refine ⟨⟨by omega, by omega, i4, i5, i3, by omega, hob, fun q hq => ?_, fun q hq => ?_, fp_KO fun l hl => hFp l (by omega), fun mask _ => FI_BOk hL (by omega) (by omega) hFI, fun q hq => (i6 q hq).2.2.2.2.1⟩, CI_WC hL i6, fp_RK i5 fun l hl => hFp l (by omega), FI_NG hL (by omega) hFI, o2, fun q hq => (o3 q hq).2.2.2.2.1, by omega⟩
  · obtain ⟨q1, q2, q3, q4, q5, q6⟩ := o3 q hq
    exact ⟨by omega, by omega, by omega, by omega⟩
  · obtain ⟨q1, q2, q3, q4, q5, q6⟩ := o3 q hq
    exact ⟨q2, q3, q1⟩
theorem IV_gon {c : Nat} {V : Sv} (h : IV c V) : IV c (gonV V) := h
/-! seek -/
theorem addO_grow (lv : Nat) : ∀ (l : List Nat) (s : List Ln × Nat), Grow s.1 → (∀ q, q ∈ s.1 → q.2.2.1 ≤ s.2) → Grow (addO lv l s).1 ∧ ∀ q, q ∈ (addO lv l s).1 → q.2.2.1 ≤ (addO lv l s).2 ∧ (q ∈ s.1 ∨ (q.1 ∈ l ∧ q.2.1 = lv ∧ 1 ≤ q.2.2.1 ∧ q.2.2.2 = 0)) := by
  intro l
  induction l with
  | nil => intro s h1 h2; exact ⟨h1, fun q hq => ⟨h2 q hq, Or.inl hq⟩⟩
  | cons x l ih =>
    intro s h1 h2
    have e : addO lv (x :: l) s = addO lv l (s.1 ++ [(x, lv, s.2 + 1, 0)], s.2 + 1) := rfl
    rw [e]
    have hlt : ∀ q, q ∈ s.1 → q.2.2.1 < (x, lv, s.2 + 1, 0).2.2.1 := fun q hq => by
      have := h2 q hq
      show q.2.2.1 < s.2 + 1
      omega
    obtain ⟨i1, i2⟩ := ih (s.1 ++ [(x, lv, s.2 + 1, 0)], s.2 + 1) (grow_add h1 hlt) (fun q hq => by
      rcases List.mem_append.mp hq with hz | hz
      · have := h2 q hz
        show q.2.2.1 ≤ s.2 + 1
        omega
      · have : q = (x, lv, s.2 + 1, 0) := by simpa using hz
        rw [this]
        exact Nat.le_refl _)
    refine ⟨i1, fun q hq => ⟨(i2 q hq).1, ?_⟩⟩
    rcases (i2 q hq).2 with hz | hz
    · rcases List.mem_append.mp hz with hy | hy
      · exact Or.inl hy
      · have : q = (x, lv, s.2 + 1, 0) := by simpa using hy
        rw [this]
        exact Or.inr ⟨List.mem_cons_self, rfl, by show 1 ≤ s.2 + 1; omega, rfl⟩
    · exact Or.inr ⟨List.mem_cons_of_mem _ hz.1, hz.2⟩
theorem seek_IV {c : Nat} {V : Sv} (h : IV c V) (h5 : V.2.1 5 = 0) : IV c (seekV V) ∧ (seekV V).2.1 10 ≤ V.2.1 10 + 8 ∧ (seekV V).2.1 12 = V.2.1 12 ∧ (seekV V).2.1 11 = V.2.1 11 := by
  have hL := IV_L h
  have h64 := p2_64 hL
  obtain ⟨M, n, fr, ob, fl, cl⟩ := V
  obtain ⟨i1, ⟨i2, i2b, i2c⟩, ⟨i3, i4, i5, i5b⟩, ⟨i6, i7, i8⟩, i9, i10, i11, i12⟩ := h
  have h5 : n 5 = 0 := h5
  have hob : ob = [] := i9.1 (by show n 5 ≠ 1; omega) (by show n 5 ≠ 4; omega)
  have i2 : 1 ≤ n 4 := i2
  have h4b : n 4 ≤ 64 := i2c (Or.inl (by show n 5 < 2; omega))
  have i5b : n 6 ≤ 65 := i5b
  unfold seekV
  show IV c (if badV M n fr = 0 then (M, va_up (va_up (va_up n 4 (n 4 + 1)) 5 2) 6 1, fr, ob, fl, cl) else (M, va_up (va_up n 10 (addO (n 4) ((bitsL (badV M n fr)).take 8) (ob, n 10)).2) 5 1, fr, (addO (n 4) ((bitsL (badV M n fr)).take 8) (ob, n 10)).1, fl, cl)) ∧ (if badV M n fr = 0 then (M, va_up (va_up (va_up n 4 (n 4 + 1)) 5 2) 6 1, fr, ob, fl, cl) else (M, va_up (va_up n 10 (addO (n 4) ((bitsL (badV M n fr)).take 8) (ob, n 10)).2) 5 1, fr, (addO (n 4) ((bitsL (badV M n fr)).take 8) (ob, n 10)).1, fl, cl)).2.1 10 ≤ n 10 + 8 ∧ (if badV M n fr = 0 then (M, va_up (va_up (va_up n 4 (n 4 + 1)) 5 2) 6 1, fr, ob, fl, cl) else (M, va_up (va_up n 10 (addO (n 4) ((bitsL (badV M n fr)).take 8) (ob, n 10)).2) 5 1, fr, (addO (n 4) ((bitsL (badV M n fr)).take 8) (ob, n 10)).1, fl, cl)).2.1 12 = n 12 ∧ (if badV M n fr = 0 then (M, va_up (va_up (va_up n 4 (n 4 + 1)) 5 2) 6 1, fr, ob, fl, cl) else (M, va_up (va_up n 10 (addO (n 4) ((bitsL (badV M n fr)).take 8) (ob, n 10)).2) 5 1, fr, (addO (n 4) ((bitsL (badV M n fr)).take 8) (ob, n 10)).1, fl, cl)).2.1 11 = n 11
  by_cases h0 : badV M n fr = 0
  · rw [if_pos h0]
    refine ⟨⟨i1, ⟨by show 1 ≤ n 4 + 1; omega, by show n 4 + 1 ≤ 65; omega, fun z => ?_⟩, ⟨by show 2 < 5; omega, i4, i5, by show 1 ≤ 65; omega⟩, ⟨CI_top i6 (by show n 4 ≤ n 4 + 1; omega), i7, i8⟩, ?_, fun _ => ⟨Nat.le_refl _, by show 1 < n 4 + 1; omega, ⟨fun f f1 f2 => by have f2 : f < 1 := f2; omega, fun q hq hq1 => by have hq1 : q.1 < 1 := hq1; have := (i6 q hq).1; omega⟩⟩, ?_, i12⟩, by show n 10 ≤ n 10 + 8; omega, rfl, rfl⟩
    · have z : 2 < 2 ∨ 2 = 4 := z
      omega
    · subst hob
      exact ⟨fun _ _ => rfl, List.Pairwise.nil, fun q hq => (by cases hq), Nat.zero_le _, List.Pairwise.nil⟩
    · rcases i11 with hz | ⟨⟨f, y1, y2, y3, y4, y5⟩, hz⟩
      · exact Or.inl hz
      · refine Or.inr ⟨⟨f, y1, y2, y3, fun z => ?_, fun _ => rfl⟩, hz⟩
        have z : 2 < 2 := z
        omega
  · rw [if_neg h0]
    have hlen8 : ((bitsL (badV M n fr)).take 8).length ≤ 8 := by rw [List.length_take]; omega
    have hmem : ∀ x, x ∈ (bitsL (badV M n fr)).take 8 → x < 2 ^ M.1 := by
      intro x hx
      obtain ⟨hx1, hx2⟩ := bitsL_lt (List.mem_of_mem_take hx)
      refine Nat.lt_of_not_le fun hle => ?_
      unfold badV at hx2
      rw [B_and, i1.2.2.2.2.2.2 (n 8) i4 x hx1 hle] at hx2
      cases hx2
    subst hob
    obtain ⟨a1, a2⟩ := addO_len (n 4) ((bitsL (badV M n fr)).take 8) ([], n 10)
    obtain ⟨b1, b2⟩ := addO_grow (n 4) ((bitsL (badV M n fr)).take 8) ([], n 10) List.Pairwise.nil (fun q hq => (by cases hq))
    generalize addO (n 4) ((bitsL (badV M n fr)).take 8) ([], n 10) = r at a1 a2 b1 b2
    generalize (bitsL (badV M n fr)).take 8 = l8 at hlen8 hmem a1 a2 b2
    have a1 : r.1.length = 0 + l8.length := a1
    have a2 : r.2 = n 10 + l8.length := a2
    have hlvl : ∀ q, q ∈ r.1 → q.2.1 = n 4 := fun q hq => by
      rcases (b2 q hq).2 with hz | hz
      · cases hz
      · exact hz.2.1
    refine ⟨⟨i1, ⟨i2, i2b, fun _ => h4b⟩, ⟨by show 1 < 5; omega, i4, i5, i5b⟩, ⟨i6, i7, i8⟩, ⟨fun z => absurd rfl z, b1, fun q hq => ?_, ?_, ?_⟩, fun z => ?_, ?_, i12⟩, ?_, rfl, rfl⟩
    · rcases b2 q hq with ⟨c1, hz | hz⟩
      · cases hz
      · refine ⟨hmem _ hz.1, ?_, fun hz0 => ?_, hz.2.2.1, c1, ?_⟩
        · show q.2.1 ≤ n 4
          omega
        · omega
        · omega
    · exact Nat.le_trans (List.length_filter_le _ _) (by show r.1.length ≤ 8; omega)
    · have : (r.1.filter fun q => decide (q.2.1 < n 4)) = [] := by
        rw [List.filter_eq_nil_iff]
        intro q hq
        rw [hlvl q hq]
        simp
      show (r.1.filter fun q => decide (q.2.1 < n 4)).Pairwise _
      rw [this]
      exact List.Pairwise.nil
    · have z : 1 = 2 := z
      omega
    · rcases i11 with hz | ⟨⟨f, y1, y2, y3, y4, y5⟩, hz⟩
      · exact Or.inl hz
      · refine Or.inr ⟨⟨f, y1, y2, y3, fun _ => y4 (by show n 5 < 2; omega), fun z => ?_⟩, hz⟩
        have z : 1 = 2 := z
        omega
    · show r.2 ≤ n 10 + 8
      omega
