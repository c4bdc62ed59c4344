/-! FORMS: read by descent, as a function of tokens; the reference's loop -/
abbrev PR : Type := (Nat × Nat) ⊕ ((Nat → Int64) × Nat)
def jn (r : Nat) : Nat := if r = 0 then 124 else if r = 1 then 94 else 38
def pAt (K V : Nat → Nat) (L : Nat) (nx : Bool) (j : Nat) : PR :=
  if K j = 2 then (if V j < L then .inr (fun _ => LSv (V j), j + 1) else .inl (3, j))
  else if K j = 3 then (if nx = true then .inr (fun i => if i.testBit (V j) = true then -1 else 0, j + 1) else .inl (5, j))
  else if K j = 4 then (if V j ≤ 1 then .inr (fun _ => if V j = 1 then -1 else 0, j + 1) else .inl (2, j))
  else .inl (1, j)
def lp (K V : Nat → Nat) (b : Nat) (sub : Nat → PR) : Nat → (Nat → Int64) → Nat → PR
  | 0, x, j => .inr (x, j)
  | s + 1, x, j => if K j = 5 ∧ V j = b then (match sub (j + 1) with | .inl e => .inl e | .inr y => lp K V b sub s (bop b x y.1) y.2) else .inr (x, j)
def pF (K V : Nat → Nat) (L : Nat) (nx : Bool) : Nat → Nat → Nat → Nat → PR
  | 0, _, _, j => .inl (1, j)
  | t + 1, r, d, j =>
    if r < 3 then (match pF K V L nx t (r + 1) d j with | .inl e => .inl e | .inr x => lp K V (jn r) (fun k => pF K V L nx t (r + 1) d k) 300 x.1 x.2)
    else if r = 3 then pF K V L nx t 4 d j
    else if K j = 5 ∧ V j = 33 then (if d < 10 then (match pF K V L nx t 4 (d + 1) (j + 1) with | .inl e => .inl e | .inr x => .inr (vnot x.1, x.2)) else .inl (6, j))
    else if K j = 5 ∧ V j = 40 then (if d < 10 then (match pF K V L nx t 0 (d + 1) (j + 1) with | .inl e => .inl e | .inr x => if K x.2 = 5 ∧ V x.2 = 41 then .inr (x.1, x.2 + 1) else .inl (1, x.2)) else .inl (6, j))
    else pAt K V L nx j
theorem pAt_r {K V : Nat → Nat} {L : Nat} {nx : Bool} {j : Nat} {y : (Nat → Int64) × Nat} (h : pAt K V L nx j = .inr y) : y.2 = j + 1 := by
  unfold pAt at h
  split at h
  · split at h
    · cases h
      rfl
    · cases h
  · split at h
    · split at h
      · cases h
        rfl
      · cases h
    · split at h
      · split at h
        · cases h
          rfl
        · cases h
      · cases h
theorem lp_r {K V : Nat → Nat} {b : Nat} {sub : Nat → PR} {Q : Nat → Prop} (h0 : ∀ j, 300 ≤ j → K j = 0) (hs : ∀ j y, sub j = .inr y → j < y.2 ∧ Q y.2) : ∀ s x j y, lp K V b sub s x j = .inr y → Q j → 300 ≤ j + s → j ≤ y.2 ∧ Q y.2 ∧ ¬ (K y.2 = 5 ∧ V y.2 = b) := by
  intro s
  induction s with
  | zero =>
    intro x j y h hQ hj
    rw [lp] at h
    cases h
    refine ⟨Nat.le_refl _, hQ, fun z => ?_⟩
    exact absurd ((h0 j hj).symm.trans z.1) (by decide)
  | succ s ih =>
    intro x j y h hQ hj
    rw [lp] at h
    by_cases hc : K j = 5 ∧ V j = b
    · rw [if_pos hc] at h
      generalize hw : sub (j + 1) = w at h
      cases w with
      | inl e => cases h
      | inr w =>
        obtain ⟨a1, a2⟩ := hs _ _ hw
        obtain ⟨b1, b2⟩ := ih _ _ _ h a2 (by omega)
        exact ⟨by omega, b2⟩
    · rw [if_neg hc] at h
      cases h
      exact ⟨Nat.le_refl _, hQ, hc⟩
theorem pF_r {K V : Nat → Nat} {L : Nat} {nx : Bool} (h0 : ∀ j, 300 ≤ j → K j = 0) : ∀ t r d j y, pF K V L nx t r d j = .inr y → j < y.2 ∧ ∀ q, r ≤ q → q < 3 → ¬ (K y.2 = 5 ∧ V y.2 = jn q) := by
  intro t
  induction t with
  | zero =>
    intro r d j y h
    cases h
  | succ t ih =>
    intro r d j y h
    rw [pF] at h
    by_cases r3 : r < 3
    · rw [if_pos r3] at h
      generalize hw : pF K V L nx t (r + 1) d j = w at h
      cases w with
      | inl e => cases h
      | inr w =>
        obtain ⟨a1, a2⟩ := ih _ _ _ _ hw
        obtain ⟨b1, b2, b3⟩ := lp_r (Q := fun k => ∀ q, r + 1 ≤ q → q < 3 → ¬ (K k = 5 ∧ V k = jn q)) h0 (fun k y hk => ih _ _ _ _ hk) _ _ _ _ h a2 (by omega)
        refine ⟨by omega, fun q q1 q2 => ?_⟩
        by_cases e : q = r
        · rw [e]
          exact b3
        · exact b2 q (by omega) q2
    · rw [if_neg r3] at h
      by_cases r4 : r = 3
      · rw [if_pos r4] at h
        exact ⟨(ih _ _ _ _ h).1, fun q q1 q2 => by omega⟩
      · rw [if_neg r4] at h
        refine ⟨?_, fun q q1 q2 => by omega⟩
        split at h
        · split at h
          · generalize hw : pF K V L nx t 4 (d + 1) (j + 1) = w at h
            cases w with
            | inl e => cases h
            | inr w =>
              cases h
              have := (ih _ _ _ _ hw).1
              show j < w.2
              omega
          · cases h
        · split at h
          · split at h
            · generalize hw : pF K V L nx t 0 (d + 1) (j + 1) = w at h
              cases w with
              | inl e => cases h
              | inr w =>
                have h : (if K w.2 = 5 ∧ V w.2 = 41 then (Sum.inr (w.1, w.2 + 1) : PR) else .inl (1, w.2)) = .inr y := h
                split at h
                · cases h
                  have := (ih _ _ _ _ hw).1
                  show j < w.2 + 1
                  omega
                · cases h
            · cases h
          · have := pAt_r h
            omega
/-- the loop of the reference's forms -/
def fbd (m : Nat) (zs4 : Int32 × Ce) : Option ((Int32 × Ce) ⊕ ((Int32 ⊕ Unit) × Ce)) :=
    if zs4.1 = 0 then
      (gI zs4.2 9 12 m).bind fun zx33 =>
      (
        if zx33 = (40 : Int32) then
          some ((Sum.inr (), zs4.2))
        else
          (gI zs4.2 9 12 m).bind fun zx40 =>
          if zx40 = (33 : Int32) then
            some ((Sum.inr (), zs4.2))
          else
            (
              if (0 : Int32) = 0 then
                (rcv zs4.2 9 m).bind fun zz42 =>
                (m_X12_atom zs4.2 m).bind fun zq43 =>
                some (zq43.1, zq43.2)
              else
                (rcv zs4.2 9 m).bind fun zz44 =>
                (m_X12_opened zs4.2 m).bind fun zq45 =>
                some (zq45.1, zq45.2)
            ).bind fun (zj41 : Int32 × Ce) =>
            if zj41.1 = 0 then
              if (0 : Int32) = 0 then
                some ((Sum.inl (Sum.inl ((1 : Int32), zj41.2)), zj41.2))
              else
                some ((Sum.inl (Sum.inl ((0 : Int32), zj41.2)), zj41.2))
            else
              some ((Sum.inl (Sum.inr (Sum.inl zj41.1, zj41.2)), zj41.2))
      ).bind fun (zj34 : (((Int32 × Ce) ⊕ ((Int32 ⊕ Unit) × Ce)) ⊕ Unit) × Ce) => Sum.elim (fun wzj34 => some wzj34) (fun vzj34 =>
        (
          if (1 : Int32) = 0 then
            (rcv zj34.2 9 m).bind fun zz36 =>
            (m_X12_atom zj34.2 m).bind fun zq37 =>
            some (zq37.1, zq37.2)
          else
            (rcv zj34.2 9 m).bind fun zz38 =>
            (m_X12_opened zj34.2 m).bind fun zq39 =>
            some (zq39.1, zq39.2)
        ).bind fun (zj35 : Int32 × Ce) =>
        if zj35.1 = 0 then
          if (1 : Int32) = 0 then
            some (Sum.inl ((1 : Int32), zj35.2))
          else
            some (Sum.inl ((0 : Int32), zj35.2))
        else
          some (Sum.inr (Sum.inl zj35.1, zj35.2))
      ) zj34.1
    else
      (rcv zs4.2 9 m).bind fun zz7 =>
      (m_X12_isBetween zs4.2 m).bind fun zx8 =>
      if zx8 = 0 then
        (rcv zs4.2 9 m).bind fun zz9 =>
        (m_X12_settle zs4.2 m (1 : Int32)).bind fun zq10 =>
        (gI zq10.2 9 17 m).bind fun zx11 =>
        if zx11 = 0 then
          some (Sum.inr (Sum.inl (0 : Int32), zq10.2))
        else
          (gI zq10.2 9 12 m).bind fun zx12 =>
          if zx12 = (41 : Int32) then
            (gI zq10.2 9 17 m).bind fun zx13 =>
            (pV zq10.2 9 17 m (.int (zx13 - (1 : Int32)))).bind fun zc14 =>
            (gI zc14 9 18 m).bind fun zx15 =>
            (pV zc14 9 18 m (.int (zx15 - (1 : Int32)))).bind fun zc16 =>
            (rcv zc16 9 m).bind fun zz17 =>
            (m_X12_nextToken zc16 m).bind fun zq18 =>
            (rcv zq18.2 9 m).bind fun zz19 =>
            (m_X12_settle zq18.2 m (4 : Int32)).bind fun zq20 =>
            some (Sum.inl (zs4.1, zq20.2))
          else
            some (Sum.inr (Sum.inl (1 : Int32), zq10.2))
      else
        (gI zs4.2 9 12 m).bind fun zx21 =>
        (m_X12_rank zx21).bind fun zx22 =>
        (rcv zs4.2 9 m).bind fun zz23 =>
        (m_X12_settle zs4.2 m zx22).bind fun zq24 =>
        (gA zq24.2 9 15 m).bind fun zx25 =>
        (gI zq24.2 9 17 m).bind fun zx26 =>
        (gI zq24.2 9 12 m).bind fun zx27 =>
        (sI zq24.2 zx25 zx26 zx27).bind fun zc28 =>
        (gI zc28 9 17 m).bind fun zx29 =>
        (pV zc28 9 17 m (.int (zx29 + (1 : Int32)))).bind fun zc30 =>
        (rcv zc30 9 m).bind fun zz31 =>
        (m_X12_nextToken zc30 m).bind fun zq32 =>
        some (Sum.inl ((0 : Int32), zq32.2))
def Run (m : Nat) : Nat → (Int32 × Ce) → (Int32 × Ce) → Prop
  | 0, s, s2 => s2 = s
  | k + 1, s, s2 => ∃ u, fbd m s = some (.inl u) ∧ Run m k u s2
theorem Run_tr {m : Nat} : ∀ a b s u v, Run m a s u → Run m b u v → Run m (a + b) s v := by
  intro a
  induction a with
  | zero =>
    intro b s u v h1 h2
    have h1 : u = s := h1
    subst h1
    rw [Nat.zero_add]
    exact h2
  | succ a ih =>
    rintro b s u v ⟨w, h1, h2⟩ h3
    rw [Nat.succ_add]
    exact ⟨w, h1, ih b w u v h2 h3⟩
theorem Run_it {m : Nat} : ∀ k t s u, Run m k s u → it (fbd m) (k + t) s = it (fbd m) t u := by
  intro k
  induction k with
  | zero =>
    intro t s u h
    have h : u = s := h
    subst h
    rw [Nat.zero_add]
  | succ k ih =>
    rintro t s u ⟨w, h1, h2⟩
    rw [Nat.succ_add]
    show (fbd m s).bind _ = _
    rw [h1, bind_s]
    exact ih t w u h2
theorem sr_form0 (ce : Ce) (m : Nat) : m_X12_form ce m = (pV ce 9 16 m (.int (0 : Int32))).bind fun zc1 => (pV zc1 9 17 m (.int (0 : Int32))).bind fun zc2 => (pV zc2 9 18 m (.int (0 : Int32))).bind fun zc3 => (it (fbd m) FU ((0 : Int32), zc3)).bind fun (zo5 : (Int32 ⊕ Unit) × Ce) => Sum.elim (fun wzo5 => some (wzo5, zo5.2)) (fun (_ : Unit) => none) zo5.1 := rfl
