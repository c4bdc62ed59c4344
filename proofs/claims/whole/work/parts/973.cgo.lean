/-! THE CLASS: steps -/
def setG (g : Nat) (V : Sv) : Sv := (V.1, va_up V.2.1 11 g, V.2.2)
def stpV (V : Sv) : Sv := if V.2.1 5 = 0 then seekV V else if V.2.1 5 = 1 then oblV V else pushV V
theorem stepV_stp (V : Sv) : stepV V = stpV (gonV V) := rfl
theorem up_comm {α : Type} (f : Nat → α) {k l : Nat} (v w : α) (h : k ≠ l) : va_up (va_up f k v) l w = va_up (va_up f l w) k v := by
  funext j
  unfold va_up
  by_cases h1 : j = l
  · by_cases h2 : j = k
    · omega
    · simp [h1, h2]
      omega
  · simp [h1]
theorem setG_setG (g h : Nat) (V : Sv) : setG g (setG h V) = setG g V := by
  unfold setG
  rw [up_up]
theorem setG_gon (g : Nat) (V : Sv) : setG g (gonV V) = setG g V := by
  unfold setG gonV
  rw [up_up]
theorem setG_self (V : Sv) : setG (V.2.1 11) V = V := by
  unfold setG
  rw [up_self]
theorem seek_G (g : Nat) (V : Sv) : seekV (setG g V) = setG g (seekV V) := by
  obtain ⟨M, n, fr, ob, fl, cl⟩ := V
  unfold seekV setG
  show (if badV M n fr = 0 then _ else _) = _
  by_cases h : badV M n fr = 0
  · rw [if_pos h, if_pos h]
    show (M, va_up (va_up (va_up (va_up n 11 g) 4 (n 4 + 1)) 5 2) 6 1, fr, ob, fl, cl) = (M, va_up (va_up (va_up (va_up n 4 (n 4 + 1)) 5 2) 6 1) 11 g, fr, ob, fl, cl)
    rw [up_comm n (k := 11) (l := 4) _ _ (by omega), up_comm _ (k := 11) (l := 5) _ _ (by omega), up_comm _ (k := 11) (l := 6) _ _ (by omega)]
  · rw [if_neg h, if_neg h]
    show (M, va_up (va_up (va_up n 11 g) 10 (addO (n 4) ((bitsL (badV M n fr)).take 8) (ob, n 10)).2) 5 1, fr, (addO (n 4) ((bitsL (badV M n fr)).take 8) (ob, n 10)).1, fl, cl) = (M, va_up (va_up (va_up n 10 (addO (n 4) ((bitsL (badV M n fr)).take 8) (ob, n 10)).2) 5 1) 11 g, fr, (addO (n 4) ((bitsL (badV M n fr)).take 8) (ob, n 10)).1, fl, cl)
    rw [up_comm n (k := 11) (l := 10) _ _ (by omega), up_comm _ (k := 11) (l := 5) _ _ (by omega)]
theorem bar_G (g : Nat) (V : Sv) (k : Nat) (q : Ln) : barV (setG g V) k q = setG g (barV V k q) := by
  obtain ⟨M, n, fr, ob, fl, cl⟩ := V
  have e1 : barW (setG g (M, n, fr, ob, fl, cl)) q = barW (M, n, fr, ob, fl, cl) q := rfl
  have e2 : barU (setG g (M, n, fr, ob, fl, cl)) q = barU (M, n, fr, ob, fl, cl) q := rfl
  unfold barV
  rw [e1, e2]
  show (M, va_up (va_up (va_up n 11 g) 12 _) 13 (n 13 + 1), _) = (M, va_up (va_up (va_up n 12 _) 13 (n 13 + 1)) 11 g, _)
  rw [up_comm n (k := 11) (l := 12) _ _ (by omega), up_comm _ (k := 11) (l := 13) _ _ (by omega)]
  rfl
theorem meet_G (g : Nat) (V : Sv) (k : Nat) (q : Ln) : meetV (setG g V) k q = setG g (meetV V k q) := by
  obtain ⟨M, n, fr, ob, fl, cl⟩ := V
  unfold meetV
  show (match lowS (ahdS M q.1 (wth M fr (q.2.1 - 1))) with | some s => (M, va_up (va_up (va_up n 11 g) 12 (n 12 + 1)) 10 (n 10 + 1), fr, ob ++ [(s, q.2.1 - 1, n 10 + 1, q.2.2.1)], fl, cl) | none => barV (M, va_up (va_up n 11 g) 12 (n 12 + 1), fr, ob, fl, cl) k q) = setG g (match lowS (ahdS M q.1 (wth M fr (q.2.1 - 1))) with | some s => (M, va_up (va_up n 12 (n 12 + 1)) 10 (n 10 + 1), fr, ob ++ [(s, q.2.1 - 1, n 10 + 1, q.2.2.1)], fl, cl) | none => barV (M, va_up n 12 (n 12 + 1), fr, ob, fl, cl) k q)
  cases lowS (ahdS M q.1 (wth M fr (q.2.1 - 1))) with
  | some s =>
    show (M, va_up (va_up (va_up n 11 g) 12 (n 12 + 1)) 10 (n 10 + 1), _) = (M, va_up (va_up (va_up n 12 (n 12 + 1)) 10 (n 10 + 1)) 11 g, _)
    rw [up_comm n (k := 11) (l := 12) _ _ (by omega), up_comm _ (k := 11) (l := 10) _ _ (by omega)]
  | none =>
    show barV (M, va_up (va_up n 11 g) 12 (n 12 + 1), fr, ob, fl, cl) k q = setG g (barV (M, va_up n 12 (n 12 + 1), fr, ob, fl, cl) k q)
    rw [up_comm n (k := 11) (l := 12) _ _ (by omega)]
    exact bar_G g (M, va_up n 12 (n 12 + 1), fr, ob, fl, cl) k q
theorem obl_G (g : Nat) (V : Sv) : oblV (setG g V) = setG g (oblV V) := by
  have hm := meet_G g V
  obtain ⟨M, n, fr, ob, fl, cl⟩ := V
  unfold oblV
  show (match bst (fun _ => true) ob ob.length with | none => (M, va_up (va_up n 11 g) 5 0, fr, ob, fl, cl) | some k => match ob[k]? with | none => (M, va_up n 11 g, fr, ob, fl, cl) | some q => if B M.2.2.1 q.1 then (M, va_up (va_up n 11 g) 5 4, fr, ob, fl, cl) else if B (wth M fr q.2.1) q.1 then meetV (setG g (M, n, fr, ob, fl, cl)) k q else (M, va_up n 11 g, fr, ob.eraseIdx k, fl, cl)) = setG g (match bst (fun _ => true) ob ob.length with | none => (M, va_up n 5 0, fr, ob, fl, cl) | some k => match ob[k]? with | none => (M, n, fr, ob, fl, cl) | some q => if B M.2.2.1 q.1 then (M, va_up n 5 4, fr, ob, fl, cl) else if B (wth M fr q.2.1) q.1 then meetV (M, n, fr, ob, fl, cl) k q else (M, n, fr, ob.eraseIdx k, fl, cl))
  cases bst (fun _ => true) ob ob.length with
  | none =>
    show (M, va_up (va_up n 11 g) 5 0, _) = (M, va_up (va_up n 5 0) 11 g, _)
    rw [up_comm n (k := 11) (l := 5) _ _ (by omega)]
  | some k =>
    show (match ob[k]? with | none => (M, va_up n 11 g, fr, ob, fl, cl) | some q => if B M.2.2.1 q.1 then (M, va_up (va_up n 11 g) 5 4, fr, ob, fl, cl) else if B (wth M fr q.2.1) q.1 then meetV (setG g (M, n, fr, ob, fl, cl)) k q else (M, va_up n 11 g, fr, ob.eraseIdx k, fl, cl)) = setG g (match ob[k]? with | none => (M, n, fr, ob, fl, cl) | some q => if B M.2.2.1 q.1 then (M, va_up n 5 4, fr, ob, fl, cl) else if B (wth M fr q.2.1) q.1 then meetV (M, n, fr, ob, fl, cl) k q else (M, n, fr, ob.eraseIdx k, fl, cl))
    cases ob[k]? with
    | none => rfl
    | some q =>
      show (if B M.2.2.1 q.1 then (M, va_up (va_up n 11 g) 5 4, fr, ob, fl, cl) else if B (wth M fr q.2.1) q.1 then meetV (setG g (M, n, fr, ob, fl, cl)) k q else (M, va_up n 11 g, fr, ob.eraseIdx k, fl, cl)) = setG g (if B M.2.2.1 q.1 then (M, va_up n 5 4, fr, ob, fl, cl) else if B (wth M fr q.2.1) q.1 then meetV (M, n, fr, ob, fl, cl) k q else (M, n, fr, ob.eraseIdx k, fl, cl))
      cases B M.2.2.1 q.1 with
      | true =>
        show (M, va_up (va_up n 11 g) 5 4, _) = (M, va_up (va_up n 5 4) 11 g, _)
        rw [up_comm n (k := 11) (l := 5) _ _ (by omega)]
        rfl
      | false =>
        cases B (wth M fr q.2.1) q.1 with
        | true => exact hm k q
        | false => rfl
theorem push_G (g : Nat) (V : Sv) : pushV (setG g V) = setG g (pushV V) := by
  obtain ⟨M, n, fr, ob, fl, cl⟩ := V
  have e1 : pushR (setG g (M, n, fr, ob, fl, cl)) = pushR (M, n, fr, ob, fl, cl) := rfl
  unfold pushV
  rw [e1]
  generalize pushR (M, n, fr, ob, fl, cl) = r
  show (if manyF r.1 (n 6) = 0 then (M, va_up (va_up (va_up (va_up n 11 g) 12 r.2.1) 14 r.2.2) 5 3, r.1, ob, fl, cl) else if n 6 + 1 = n 4 then (M, va_up (va_up (va_up (va_up (va_up n 11 g) 12 r.2.1) 14 r.2.2) 6 (n 6 + 1)) 5 0, r.1, ob, fl, cl) else (M, va_up (va_up (va_up (va_up n 11 g) 12 r.2.1) 14 r.2.2) 6 (n 6 + 1), r.1, ob, fl, cl)) = setG g (if manyF r.1 (n 6) = 0 then (M, va_up (va_up (va_up n 12 r.2.1) 14 r.2.2) 5 3, r.1, ob, fl, cl) else if n 6 + 1 = n 4 then (M, va_up (va_up (va_up (va_up n 12 r.2.1) 14 r.2.2) 6 (n 6 + 1)) 5 0, r.1, ob, fl, cl) else (M, va_up (va_up (va_up n 12 r.2.1) 14 r.2.2) 6 (n 6 + 1), r.1, ob, fl, cl))
  rw [up_comm n (k := 11) (l := 12) _ _ (by omega), up_comm _ (k := 11) (l := 14) _ _ (by omega), up_comm _ (k := 11) (l := 5) _ _ (by omega), up_comm _ (k := 11) (l := 6) _ _ (by omega), up_comm _ (k := 11) (l := 5) _ _ (by omega)]
  by_cases h1 : manyF r.1 (n 6) = 0
  · rw [if_pos h1, if_pos h1]
    rfl
  · rw [if_neg h1, if_neg h1]
    by_cases h2 : n 6 + 1 = n 4
    · rw [if_pos h2, if_pos h2]
      rfl
    · rw [if_neg h2, if_neg h2]
      rfl
theorem stp_G (g : Nat) (V : Sv) : stpV (setG g V) = setG g (stpV V) := by
  have e : (setG g V).2.1 5 = V.2.1 5 := rfl
  unfold stpV
  rw [e]
  by_cases h0 : V.2.1 5 = 0
  · rw [if_pos h0, if_pos h0]
    exact seek_G g V
  · rw [if_neg h0, if_neg h0]
    by_cases h1 : V.2.1 5 = 1
    · rw [if_pos h1, if_pos h1]
      exact obl_G g V
    · rw [if_neg h1, if_neg h1]
      exact push_G g V
theorem step_G (g : Nat) (V : Sv) : setG g (stepV V) = stpV (setG g V) := by
  rw [stepV_stp, ← stp_G, setG_gon]
theorem step_11 (V : Sv) : (stepV V).2.1 11 = V.2.1 11 + 1 := by
  have h1 : stepV V = setG (V.2.1 11 + 1) (stpV (gonV V)) := by
    rw [← stp_G, stepV_stp]
    congr 1
    exact (setG_self (gonV V)).symm
  rw [h1]
  exact up_e (stpV (gonV V)).2.1 11 (V.2.1 11 + 1)
theorem ss_isOver {ce : Ce} {nx : Nat} {A : Nat → Nat} {κ : Nat × Nat × Nat} {V : Sv} (h : SS ce nx A κ V) (h5 : V.2.1 5 < 5) : m_X8_isOver ce (A 0) = some (if V.2.1 5 < 3 then 0 else 1) := by
  unfold m_X8_isOver
  simp only [ss_r3 h, bind_s]
  rw [if_q nl_3 (by omega) (by omega), if_q nl_4 (by omega) (by omega)]
  by_cases h3 : V.2.1 5 = 3
  · rw [if_pos h3, if_neg (by omega)]
  · rw [if_neg h3]
    by_cases h4 : V.2.1 5 = 4
    · rw [if_pos h4, if_neg (by omega)]
    · rw [if_neg h4, if_pos (by omega)]
/-- all along, a step of the class finds what it asks for -/
def AlongC (I : Nat → Sv → Prop) (k : Nat) : Prop := ∀ j V, j ≤ k → I j V → Wk V ∧ (V.2.1 5 = 2 → 0 < V.2.1 6 ∧ V.2.1 6 < V.2.1 4 ∧ HL (V.2.1 6) V.2.2.1) ∧ (j < k → V.2.1 5 < 3 → I (j + 1) (stepV V))
theorem Along_C {I : Nat → Sv → Prop} {k : Nat} (h : AlongC I k) : Along I k := fun j V hj hv => ⟨(h j V hj hv).1.1, (h j V hj hv).2.2⟩
theorem ss_stp {ce : Ce} {nx : Nat} {A : Nat → Nat} {κ : Nat × Nat × Nat} {V : Sv} (h : SS ce nx A κ V) (hw : Wk V) (hp : V.2.1 5 = 2 → 0 < V.2.1 6 ∧ V.2.1 6 < V.2.1 4 ∧ HL (V.2.1 6) V.2.2.1) (h3 : V.2.1 5 < 3) (j : Int32) : Ok (if nI (V.2.1 5) = 0 then adcB (m_X8_seek nx ce (A 0)) fun zq50 => some (Sum.inl (j + (1 : Int32)), zq50.2.1, 0, 0) else if nI (V.2.1 5) = (1 : Int32) then adcB (m_X8_oblige nx ce (A 0)) fun zq43 => some (Sum.inl (j + (1 : Int32)), zq43.2.1, 0, 0) else adcB (m_X8_push nx ce (A 0)) fun zq36 => some (Sum.inl (j + (1 : Int32)), zq36.2.1, 0, 0) : Option ((Int32 ⊕ Int32) × Ce × Nat × Nat)) (fun q => q.1 = Sum.inl (j + 1) ∧ StTo ce nx A κ (stpV V) q.2.1 q.2.2.1 q.2.2.2) := by
  have hw0 := hw
  obtain ⟨wr, hC, hRK, hNG, hGr, hnum, h10⟩ := hw
  have fin : ∀ (V2 : Sv) (o : Option (Unit × Ce × Nat × Nat)), Ok o (fun z => StTo ce nx A κ V2 z.2.1 z.2.2.1 z.2.2.2) → Ok (adcB o fun zq => some (Sum.inl (j + (1 : Int32)), zq.2.1, 0, 0) : Option ((Int32 ⊕ Int32) × Ce × Nat × Nat)) (fun q => q.1 = Sum.inl (j + 1) ∧ StTo ce nx A κ V2 q.2.1 q.2.2.1 q.2.2.2) := by
    intro V2 o ho
    refine ok_adcB (ok_mono ho ?_)
    rintro ⟨u, d, K, S⟩ hz
    refine ok_some ⟨rfl, ?_⟩
    show StTo ce nx A κ V2 d (0 + K) (0 + S)
    rw [Nat.zero_add, Nat.zero_add]
    exact hz
  unfold stpV
  rw [if_z (by omega), if_q nl_1 (by omega) (by omega)]
  by_cases h0 : V.2.1 5 = 0
  · rw [if_pos h0, if_pos h0]
    exact fin _ _ (ss_seek h hC wr.2.2.1 (by have := wr.1; omega) h10 wr.2.2.2.2.2.2.1 hnum)
  · rw [if_neg h0, if_neg h0]
    by_cases h1 : V.2.1 5 = 1
    · rw [if_pos h1, if_pos h1]
      exact fin _ _ (ss_oblige h hw0)
    · rw [if_neg h1, if_neg h1]
      have h2 : V.2.1 5 = 2 := by omega
      obtain ⟨p1, p2, p3⟩ := hp h2
      exact fin _ _ (ss_push h hw0 h2 p1 p2 p3)
theorem ss_goOn {I : Nat → Sv → Prop} {k : Nat} (hI : AlongC I k) {ce : Ce} {nx : Nat} {A : Nat → Nat} {κ : Nat × Nat × Nat} {V : Sv} (h : SS ce nx A κ V) (hv : I 0 V) (hk : k < 1000000) : Ok (m_X8_goOn nx ce (A 0) (nI k)) (fun z => z.1 = nI (stepsV k V).1 ∧ StTo ce nx A κ (stepsV k V).2 z.2.1 z.2.2.1 z.2.2.2) := by
  unfold m_X8_goOn
  refine ok_adcB (ok_mono (P := fun q => ∃ j U, q.1 = nI j ∧ StTo ce nx A κ (setG (V.2.1 11) U) q.2.1 q.2.2.1 q.2.2.2 ∧ U.2.1 11 = V.2.1 11 + j ∧ stepsV k V = (j, U)) (ok_cntA (Q := fun o d K S => ∃ j U, o = nI j ∧ StTo ce nx A κ (setG (V.2.1 11) U) d K S ∧ U.2.1 11 = V.2.1 11 + j ∧ stepsV k V = (j, U)) 0 k (fun j nx2 c s K S => s = nI j ∧ nx2 = nx + K ∧ ∃ U, I j U ∧ StTo ce nx A κ (setG (V.2.1 11) U) c K S ∧ U.2.1 11 = V.2.1 11 + j ∧ stepsV k V = ((stepsV (k - j) U).1 + j, (stepsV (k - j) U).2)) (by omega) (by omega) ?_ ?_ ?_) ?_)
  · refine ⟨rfl, rfl, V, hv, ?_, rfl, rfl⟩
    rw [setG_self]
    exact StTo_0 h (Ev_refl _ _ _ _)
  · rintro j nx2 c s K S hj ⟨rfl, rfl, U, hU, ⟨A2, κ2, hS, hE⟩, h11, he⟩
    obtain ⟨hw, hp, hn⟩ := hI j U (by omega) hU
    have hw5 : U.2.1 5 < 5 := hw.1.2.2.2.2.1
    have e0 : A2 0 = A 0 := hE.1
    obtain ⟨t, ht⟩ : ∃ t, k - j = t + 1 := ⟨k - j - 1, by omega⟩
    rw [ht, stepsV] at he
    have r3 : gI c 6 3 (A2 0) = some (nI (U.2.1 5)) := by rw [ss_r3 hS]; rfl
    have ho : m_X8_isOver c (A2 0) = some (if U.2.1 5 < 3 then 0 else 1) := ss_isOver (V := setG (V.2.1 11) U) hS hw5
    rw [if_le (by omega) (by omega), if_neg (by omega), ← e0, ss_rcv hS, bind_s, ho, bind_s]
    by_cases h3 : U.2.1 5 < 3
    · rw [if_pos h3] at he
      rw [if_pos h3]
      refine ok_iteT rfl ?_
      simp only [r3, bind_s]
      refine ok_mono (ss_stp (V := setG (V.2.1 11) U) hS hw hp h3 (nI j)) ?_
      rintro ⟨r, d, K2, S2⟩ ⟨hr, A3, κ3, s1, e1⟩
      have hr : r = Sum.inl (nI j + 1) := hr
      subst hr
      have s1 : SS d (nx + K + K2) A3 κ3 (stpV (setG (V.2.1 11) U)) := s1
      have e1 : Ev c (nx + K) A2 κ2 d K2 S2 A3 κ3 := e1
      refine ⟨nI_1 j, ?_, stepV U, hn hj h3, ⟨A3, κ3, ?_, ?_⟩, ?_, ?_⟩
      · show nx + K + K2 = nx + (K + K2)
        omega
      · show SS d (nx + (K + K2)) A3 κ3 (setG (V.2.1 11) (stepV U))
        rw [step_G, show nx + (K + K2) = nx + K + K2 by omega]
        exact s1
      · show Ev ce nx A κ d (K + K2) (S + S2) A3 κ3
        rw [Nat.add_comm K K2, Nat.add_comm S S2]
        exact Ev_trans hE e1
      · rw [step_11, h11]
        omega
      · rw [show k - (j + 1) = t by omega, he, show (stepsV t (stepV U)).1 + 1 + j = (stepsV t (stepV U)).1 + (j + 1) by omega]
    · rw [if_neg h3] at he
      rw [if_neg h3]
      refine ok_iteF (by decide) (ok_some ⟨j, U, rfl, ⟨A2, κ2, hS, hE⟩, h11, ?_⟩)
      rw [he]
      show (0 + j, U) = (j, U)
      rw [Nat.zero_add]
  · rintro nx2 c s K S ⟨rfl, rfl, U, hU, ⟨A2, κ2, hS, hE⟩, h11, he⟩
    rw [Nat.sub_self, stepsV] at he
    rw [if_le (by omega) (by omega), if_pos (Nat.le_refl _)]
    refine ok_some ⟨k, U, rfl, ⟨A2, κ2, hS, hE⟩, h11, ?_⟩
    rw [he]
    show (0 + k, U) = (k, U)
    rw [Nat.zero_add]
  · rintro ⟨r, d, K, S⟩ ⟨j, U, hr, ⟨A2, κ2, hS, hE⟩, h11, he⟩
    have hr : r = nI j := hr
    subst hr
    have hS : SS d (nx + K) A2 κ2 (setG (V.2.1 11) U) := hS
    have hE : Ev ce nx A κ d K S A2 κ2 := hE
    have e0 : A2 0 = A 0 := hE.1
    have r7 : gI d 6 7 (A2 0) = some (nI (V.2.1 11)) := by rw [ss_r7 hS]; rfl
    show Ok ((gI d 6 7 (A 0)).bind _) _
    rw [← e0, r7, bind_s]
    show Ok ((pV d 6 7 (A2 0) (.int (nI (V.2.1 11) + nI j))).bind _) _
    rw [nI_add, ← h11]
    refine ok_call (ss_w7 hS (U.2.1 11)) ?_
    rintro d2 ⟨s1, e1⟩
    have s1 : SS d2 (nx + K) A2 κ2 (setG (U.2.1 11) (setG (V.2.1 11) U)) := s1
    rw [setG_setG, setG_self] at s1
    rw [he]
    refine ok_some ⟨rfl, A2, κ2, ?_, ?_⟩
    · show SS d2 (nx + (0 + K)) A2 κ2 U
      rw [Nat.zero_add]
      exact s1
    · show Ev ce nx A κ d2 (0 + K) (0 + S) A2 κ2
      exact Ev_trans hE e1
