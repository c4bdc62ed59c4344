/-! A SEARCH's parts taken over: rows of any room -/
def RowG (ce : Ce) (nx r f g s : Nat) (l : List Cu) (d : Ce) (K cap2 : Nat) : Prop := ∃ f2 g2 s2, RW d r f2 g2 s2 cap2 l ∧ D4 r f2 g2 s2 ∧ ((f2 = f ∧ g2 = g ∧ s2 = s ∧ K = 0) ∨ (f2 = nx ∧ g2 = nx + 1 ∧ s2 = nx + 2 ∧ K = 3)) ∧ ∀ b, b ≠ r → b ≠ f → b ≠ g → b ≠ s → b < nx → d b = ce b
def Es (ce : Ce) (nx : Nat) (A : Nat → Nat) (d : Ce) (A2 : Nat → Nat) : Prop := A2 0 = A 0 ∧ (∀ b, b < nx → Off A b → d b = ce b) ∧ ∀ i, i < 13 → A2 i = A i ∨ nx ≤ A2 i
theorem Es_refl (ce : Ce) (nx : Nat) (A : Nat → Nat) : Es ce nx A ce A := ⟨rfl, fun _ _ _ => rfl, fun _ _ => Or.inl rfl⟩
theorem Es_trans {ce : Ce} {nx : Nat} {A : Nat → Nat} {d : Ce} {K : Nat} {A2 : Nat → Nat} {e : Ce} {A3 : Nat → Nat} (h : Es ce nx A d A2) (g : Es d (nx + K) A2 e A3) : Es ce nx A e A3 := by
  obtain ⟨a1, a2, a3⟩ := h
  obtain ⟨b1, b2, b3⟩ := g
  refine ⟨b1.trans a1, fun b hb ho => ?_, fun i hi => ?_⟩
  · rw [b2 b (by omega) (Off_ev a3 hb ho)]
    exact a2 b hb ho
  · rcases b3 i hi with h1 | h1
    · rcases a3 i hi with h2 | h2
      · exact Or.inl (h1.trans h2)
      · exact Or.inr (by omega)
    · exact Or.inr (by omega)
theorem Ev_Es {ce : Ce} {nx : Nat} {A : Nat → Nat} {κ : Nat × Nat × Nat} {d : Ce} {K S : Nat} {A2 : Nat → Nat} {κ2 : Nat × Nat × Nat} (h : Ev ce nx A κ d K S A2 κ2) : Es ce nx A d A2 ∧ gA d 6 0 (A 0) = gA ce 6 0 (A 0) := ⟨⟨h.1, h.2.1, h.2.2.1⟩, h.2.2.2.2.2⟩
theorem ss_frG {ce : Ce} {nx : Nat} {A : Nat → Nat} {κ : Nat × Nat × Nat} {M : Mv} {n : Nat → Nat} {fr : List Cu} {ob : List Ln} {fl : Nat → UInt32} {cl : List (Nat × Nat)} {fr2 : List Cu} (h : SS ce nx A κ (M, n, fr, ob, fl, cl)) {d : Ce} {K cap2 : Nat} (ht : RowG ce nx (A 1) (A 2) (A 3) (A 4) (srtF fr2) d K cap2) : ∃ A2, SS d (nx + K) A2 (cap2, κ.2.1, κ.2.2) (M, n, fr2, ob, fl, cl) ∧ Es ce nx A d A2 ∧ gA d 6 0 (A 0) = gA ce 6 0 (A 0) := by
  obtain ⟨mp, at1, h1, h2, lc, a1, a2, a3, a4, a5, a6, a7, a8⟩ := h
  obtain ⟨f2, g2, s2, t1, t2, t3, t4⟩ := ht
  have b0 : ∀ i, i < 13 → i ≠ 1 → i ≠ 2 → i ≠ 3 → i ≠ 4 → d (A i) = ce (A i) := fun i hi j1 j2 j3 j4 => t4 _ (a8 i hi 1 (by omega) j1) (a8 i hi 2 (by omega) j2) (a8 i hi 3 (by omega) j3) (a8 i hi 4 (by omega) j4) (a7 i hi)
  have l2 := a7 2 (by omega)
  have l3 := a7 3 (by omega)
  have l4 := a7 4 (by omega)
  generalize hA2 : (fun i => if i = 2 then f2 else if i = 3 then g2 else if i = 4 then s2 else A i) = A2
  have e2 : A2 2 = f2 := by rw [← hA2]; rfl
  have e3 : A2 3 = g2 := by rw [← hA2]; rfl
  have e4 : A2 4 = s2 := by rw [← hA2]; rfl
  have eo : ∀ i, i ≠ 2 → i ≠ 3 → i ≠ 4 → A2 i = A i := fun i j1 j2 j3 => by
    rw [← hA2]
    show (if i = 2 then f2 else if i = 3 then g2 else if i = 4 then s2 else A i) = A i
    rw [if_neg j1, if_neg j2, if_neg j3]
  have hval : ∀ i, i < 13 → (i = 2 ∧ A2 i = f2) ∨ (i = 3 ∧ A2 i = g2) ∨ (i = 4 ∧ A2 i = s2) ∨ (i ≠ 2 ∧ i ≠ 3 ∧ i ≠ 4 ∧ A2 i = A i ∧ A i < nx) := by
    intro i hi
    have := a7 i hi
    by_cases j2 : i = 2
    · exact Or.inl ⟨j2, by rw [j2, e2]⟩
    · by_cases j3 : i = 3
      · exact Or.inr (Or.inl ⟨j3, by rw [j3, e3]⟩)
      · by_cases j4 : i = 4
        · exact Or.inr (Or.inr (Or.inl ⟨j4, by rw [j4, e4]⟩))
        · exact Or.inr (Or.inr (Or.inr ⟨j2, j3, j4, eo i j2 j3 j4, this⟩))
  have hev : ∀ i, i < 13 → A2 i = A i ∨ nx ≤ A2 i := by
    intro i hi
    rcases hval i hi with ⟨q1, q2⟩ | ⟨q1, q2⟩ | ⟨q1, q2⟩ | q
    · rw [q2, q1]; omega
    · rw [q2, q1]; omega
    · rw [q2, q1]; omega
    · exact Or.inl q.2.2.2.1
  have hfr : ∀ b, b < nx → Off A b → d b = ce b := fun b hb ho => t4 b (ho 1 (by omega)) (ho 2 (by omega)) (ho 3 (by omega)) (ho 4 (by omega)) hb
  have hb : ∀ i, i < 13 → A2 i < nx + K := by
    intro i hi
    rcases hval i hi with ⟨q1, q2⟩ | ⟨q1, q2⟩ | ⟨q1, q2⟩ | q
    · omega
    · omega
    · omega
    · omega
  refine ⟨A2, ⟨mp, at1, ?_, h2, lc, ?_, ?_, a3, ?_, ?_, MA_congr (fun b hb => hfr b hb.1 hb.2) (fun b hb => ⟨by omega, Off_ev hev hb.1 hb.2⟩) a6, hb, ?_⟩, ⟨eo 0 (by omega) (by omega) (by omega), hfr, hev⟩, by unfold gA; rw [b0 0 (by omega) (by omega) (by omega) (by omega) (by omega)]⟩
  · have e : Sob A2 mp n at1 = Sob A mp n at1 := by
      unfold Sob
      rw [eo 1 (by omega) (by omega) (by omega), eo 5 (by omega) (by omega) (by omega), eo 7 (by omega) (by omega) (by omega), eo 9 (by omega) (by omega) (by omega)]
    show d (A2 0) = some (.inr (6, Sob A2 mp n at1))
    rw [e, eo 0 (by omega) (by omega) (by omega), b0 0 (by omega) (by omega) (by omega) (by omega) (by omega)]
    exact h1
  · show RW d (A2 1) (A2 2) (A2 3) (A2 4) cap2 _
    rw [eo 1 (by omega) (by omega) (by omega), e2, e3, e4]
    exact t1
  · rw [eo 5 (by omega) (by omega) (by omega), eo 6 (by omega) (by omega) (by omega)]
    exact OB_congr (b0 5 (by omega) (by omega) (by omega) (by omega) (by omega)) (b0 6 (by omega) (by omega) (by omega) (by omega) (by omega)) a2
  · rw [eo 7 (by omega) (by omega) (by omega), eo 8 (by omega) (by omega) (by omega)]
    exact AC_congr (b0 7 (by omega) (by omega) (by omega) (by omega) (by omega)) (b0 8 (by omega) (by omega) (by omega) (by omega) (by omega)) a4
  · rw [eo 9 (by omega) (by omega) (by omega), eo 10 (by omega) (by omega) (by omega), eo 11 (by omega) (by omega) (by omega), eo 12 (by omega) (by omega) (by omega)]
    exact RW_congr (b0 9 (by omega) (by omega) (by omega) (by omega) (by omega)) (b0 10 (by omega) (by omega) (by omega) (by omega) (by omega)) (b0 11 (by omega) (by omega) (by omega) (by omega) (by omega)) (b0 12 (by omega) (by omega) (by omega) (by omega) (by omega)) a5
  · have hD := t2
    unfold D4 at hD
    rcases t3 with ⟨z1, z2, z3, z4⟩ | ⟨z1, z2, z3, z4⟩
    · have : A2 = A := by
        funext i
        by_cases j2 : i = 2
        · subst j2; rw [e2, z1]
        · by_cases j3 : i = 3
          · subst j3; rw [e3, z2]
          · by_cases j4 : i = 4
            · subst j4; rw [e4, z3]
            · exact eo i j2 j3 j4
      rw [this]
      exact a8
    · intro i hi j hj hij
      have v1 := hval i hi
      have v2 := hval j hj
      have v3 := a8 i hi j hj hij
      omega
theorem ss_clG {ce : Ce} {nx : Nat} {A : Nat → Nat} {κ : Nat × Nat × Nat} {M : Mv} {n : Nat → Nat} {fr : List Cu} {ob : List Ln} {fl : Nat → UInt32} {cl : List (Nat × Nat)} {cl2 : List (Nat × Nat)} (h : SS ce nx A κ (M, n, fr, ob, fl, cl)) {d : Ce} {K cap2 : Nat} (ht : RowG ce nx (A 9) (A 10) (A 11) (A 12) (clR cl2) d K cap2) : ∃ A2, SS d (nx + K) A2 (κ.1, κ.2.1, cap2) (M, n, fr, ob, fl, cl2) ∧ Es ce nx A d A2 ∧ gA d 6 0 (A 0) = gA ce 6 0 (A 0) := by
  obtain ⟨mp, at1, h1, h2, lc, a1, a2, a3, a4, a5, a6, a7, a8⟩ := h
  obtain ⟨f2, g2, s2, t1, t2, t3, t4⟩ := ht
  have b0 : ∀ i, i < 13 → i ≠ 9 → i ≠ 10 → i ≠ 11 → i ≠ 12 → d (A i) = ce (A i) := fun i hi j1 j2 j3 j4 => t4 _ (a8 i hi 9 (by omega) j1) (a8 i hi 10 (by omega) j2) (a8 i hi 11 (by omega) j3) (a8 i hi 12 (by omega) j4) (a7 i hi)
  have l2 := a7 10 (by omega)
  have l3 := a7 11 (by omega)
  have l4 := a7 12 (by omega)
  generalize hA2 : (fun i => if i = 10 then f2 else if i = 11 then g2 else if i = 12 then s2 else A i) = A2
  have e2 : A2 10 = f2 := by rw [← hA2]; rfl
  have e3 : A2 11 = g2 := by rw [← hA2]; rfl
  have e4 : A2 12 = s2 := by rw [← hA2]; rfl
  have eo : ∀ i, i ≠ 10 → i ≠ 11 → i ≠ 12 → A2 i = A i := fun i j1 j2 j3 => by
    rw [← hA2]
    show (if i = 10 then f2 else if i = 11 then g2 else if i = 12 then s2 else A i) = A i
    rw [if_neg j1, if_neg j2, if_neg j3]
  have hval : ∀ i, i < 13 → (i = 10 ∧ A2 i = f2) ∨ (i = 11 ∧ A2 i = g2) ∨ (i = 12 ∧ A2 i = s2) ∨ (i ≠ 10 ∧ i ≠ 11 ∧ i ≠ 12 ∧ A2 i = A i ∧ A i < nx) := by
    intro i hi
    have := a7 i hi
    by_cases j2 : i = 10
    · exact Or.inl ⟨j2, by rw [j2, e2]⟩
    · by_cases j3 : i = 11
      · exact Or.inr (Or.inl ⟨j3, by rw [j3, e3]⟩)
      · by_cases j4 : i = 12
        · exact Or.inr (Or.inr (Or.inl ⟨j4, by rw [j4, e4]⟩))
        · exact Or.inr (Or.inr (Or.inr ⟨j2, j3, j4, eo i j2 j3 j4, this⟩))
  have hev : ∀ i, i < 13 → A2 i = A i ∨ nx ≤ A2 i := by
    intro i hi
    rcases hval i hi with ⟨q1, q2⟩ | ⟨q1, q2⟩ | ⟨q1, q2⟩ | q
    · rw [q2, q1]; omega
    · rw [q2, q1]; omega
    · rw [q2, q1]; omega
    · exact Or.inl q.2.2.2.1
  have hfr : ∀ b, b < nx → Off A b → d b = ce b := fun b hb ho => t4 b (ho 9 (by omega)) (ho 10 (by omega)) (ho 11 (by omega)) (ho 12 (by omega)) hb
  have hb : ∀ i, i < 13 → A2 i < nx + K := by
    intro i hi
    rcases hval i hi with ⟨q1, q2⟩ | ⟨q1, q2⟩ | ⟨q1, q2⟩ | q
    · omega
    · omega
    · omega
    · omega
  refine ⟨A2, ⟨mp, at1, ?_, h2, lc, ?_, ?_, a3, ?_, ?_, MA_congr (fun b hb => hfr b hb.1 hb.2) (fun b hb => ⟨by omega, Off_ev hev hb.1 hb.2⟩) a6, hb, ?_⟩, ⟨eo 0 (by omega) (by omega) (by omega), hfr, hev⟩, by unfold gA; rw [b0 0 (by omega) (by omega) (by omega) (by omega) (by omega)]⟩
  · have e : Sob A2 mp n at1 = Sob A mp n at1 := by
      unfold Sob
      rw [eo 1 (by omega) (by omega) (by omega), eo 5 (by omega) (by omega) (by omega), eo 7 (by omega) (by omega) (by omega), eo 9 (by omega) (by omega) (by omega)]
    show d (A2 0) = some (.inr (6, Sob A2 mp n at1))
    rw [e, eo 0 (by omega) (by omega) (by omega), b0 0 (by omega) (by omega) (by omega) (by omega) (by omega)]
    exact h1
  · rw [eo 1 (by omega) (by omega) (by omega), eo 2 (by omega) (by omega) (by omega), eo 3 (by omega) (by omega) (by omega), eo 4 (by omega) (by omega) (by omega)]
    exact RW_congr (b0 1 (by omega) (by omega) (by omega) (by omega) (by omega)) (b0 2 (by omega) (by omega) (by omega) (by omega) (by omega)) (b0 3 (by omega) (by omega) (by omega) (by omega) (by omega)) (b0 4 (by omega) (by omega) (by omega) (by omega) (by omega)) a1
  · rw [eo 5 (by omega) (by omega) (by omega), eo 6 (by omega) (by omega) (by omega)]
    exact OB_congr (b0 5 (by omega) (by omega) (by omega) (by omega) (by omega)) (b0 6 (by omega) (by omega) (by omega) (by omega) (by omega)) a2
  · rw [eo 7 (by omega) (by omega) (by omega), eo 8 (by omega) (by omega) (by omega)]
    exact AC_congr (b0 7 (by omega) (by omega) (by omega) (by omega) (by omega)) (b0 8 (by omega) (by omega) (by omega) (by omega) (by omega)) a4
  · show RW d (A2 9) (A2 10) (A2 11) (A2 12) cap2 _
    rw [eo 9 (by omega) (by omega) (by omega), e2, e3, e4]
    exact t1
  · have hD := t2
    unfold D4 at hD
    rcases t3 with ⟨z1, z2, z3, z4⟩ | ⟨z1, z2, z3, z4⟩
    · have : A2 = A := by
        funext i
        by_cases j2 : i = 10
        · subst j2; rw [e2, z1]
        · by_cases j3 : i = 11
          · subst j3; rw [e3, z2]
          · by_cases j4 : i = 12
            · subst j4; rw [e4, z3]
            · exact eo i j2 j3 j4
      rw [this]
      exact a8
    · intro i hi j hj hij
      have v1 := hval i hi
      have v2 := hval j hj
      have v3 := a8 i hi j hj hij
      omega
def OboG (ce : Ce) (nx o p : Nat) (lc : List Ln) (d : Ce) (K cap2 : Nat) : Prop := ∃ p2, OB d o p2 cap2 lc ∧ o ≠ p2 ∧ ((p2 = p ∧ K = 0) ∨ (p2 = nx ∧ K = 1)) ∧ ∀ b, b ≠ o → b ≠ p → b < nx → d b = ce b
theorem ss_obG {ce : Ce} {nx : Nat} {A : Nat → Nat} {κ : Nat × Nat × Nat} {M : Mv} {n : Nat → Nat} {fr : List Cu} {ob ob2 : List Ln} {Y : (Nat → UInt32) × List (Nat × Nat)} (h : SS ce nx A κ (M, n, fr, ob, Y)) {lc2 : List Ln} (hs : SrtO ob2 lc2) {d : Ce} {K cap2 : Nat} (ht : OboG ce nx (A 5) (A 6) lc2 d K cap2) : ∃ A2, SS d (nx + K) A2 (κ.1, cap2, κ.2.2) (M, n, fr, ob2, Y) ∧ Es ce nx A d A2 ∧ gA d 6 0 (A 0) = gA ce 6 0 (A 0) := by
  obtain ⟨mp, at1, h1, h2, lc, a1, a2, a3, a4, a5, a6, a7, a8⟩ := h
  obtain ⟨p2, t1, t2, t3, t4⟩ := ht
  have b0 : ∀ i, i < 13 → i ≠ 5 → i ≠ 6 → d (A i) = ce (A i) := fun i hi j1 j2 => t4 _ (a8 i hi 5 (by omega) j1) (a8 i hi 6 (by omega) j2) (a7 i hi)
  have l6 := a7 6 (by omega)
  have hev : ∀ i, i < 13 → va_up A 6 p2 i = A i ∨ nx ≤ va_up A 6 p2 i := by
    intro i hi
    by_cases j : i = 6
    · subst j; rw [up_e]; omega
    · exact Or.inl (up_n _ _ _ j)
  have hfr : ∀ b, b < nx → Off A b → d b = ce b := fun b hb ho => t4 b (ho 5 (by omega)) (ho 6 (by omega)) hb
  refine ⟨va_up A 6 p2, ⟨mp, at1, ?_, h2, lc2, ?_, ?_, hs, ?_, ?_, MA_congr (fun b hb => hfr b hb.1 hb.2) (fun b hb => ⟨by omega, Off_ev hev hb.1 hb.2⟩) a6, fun i hi => ?_, fun i hi j hj hij => ?_⟩, ⟨up_n _ _ _ (by omega), hfr, hev⟩, by unfold gA; rw [b0 0 (by omega) (by omega) (by omega)]⟩
  · show d (A 0) = some (.inr (6, Sob A mp n at1))
    rw [b0 0 (by omega) (by omega) (by omega)]
    exact h1
  · exact RW_congr (b0 1 (by omega) (by omega) (by omega)) (b0 2 (by omega) (by omega) (by omega)) (b0 3 (by omega) (by omega) (by omega)) (b0 4 (by omega) (by omega) (by omega)) a1
  · exact t1
  · exact AC_congr (b0 7 (by omega) (by omega) (by omega)) (b0 8 (by omega) (by omega) (by omega)) a4
  · exact RW_congr (b0 9 (by omega) (by omega) (by omega)) (b0 10 (by omega) (by omega) (by omega)) (b0 11 (by omega) (by omega) (by omega)) (b0 12 (by omega) (by omega) (by omega)) a5
  · have := a7 i hi
    by_cases j : i = 6
    · subst j; rw [up_e]; omega
    · rw [up_n _ _ _ j]; omega
  · have v1 := a7 i hi
    have v2 := a7 j hj
    have v3 := a8 i hi j hj hij
    by_cases ji : i = 6
    · subst ji
      rw [up_e, up_n _ _ _ (fun e => hij e.symm)]
      omega
    · rw [up_n _ _ _ ji]
      by_cases jj : j = 6
      · subst jj
        rw [up_e]
        omega
      · rw [up_n _ _ _ jj]
        exact v3
theorem ss_actG {ce : Ce} {nx : Nat} {A : Nat → Nat} {κ : Nat × Nat × Nat} {M : Mv} {n : Nat → Nat} {fr : List Cu} {ob : List Ln} {fl fl2 : Nat → UInt32} {cl : List (Nat × Nat)} (h : SS ce nx A κ (M, n, fr, ob, fl, cl)) {d : Ce} (h2 : AC d (A 7) (A 8) fl2) (hf : ∀ b, b ≠ A 7 → b ≠ A 8 → d b = ce b) : SS d nx A κ (M, n, fr, ob, fl2, cl) ∧ Es ce nx A d A ∧ gA d 6 0 (A 0) = gA ce 6 0 (A 0) := by
  obtain ⟨q1, q2⟩ := ss_acts h h2 hf
  exact ⟨q1, Ev_Es q2⟩
