/-! FORMS of the reference: signs between, piles settled -/
theorem sr_two (c : Ce) (m : Nat) {μ : MS} {n j d o : Nat} {f : Nat → Nat} {x y : Nat → Int64} {vs : List (Nat → Int64)} {os : List Nat} (h : St μ f n j (y :: x :: vs) os d) (hv : vs.length < 38) (ho : o ≠ 33) (ho2 : o < 2 ^ 31) : ∃ ν, m_X12_apply (wr c m μ) m (nI o) = some ((), wr c m ν) ∧ KG μ ν ∧ St ν f n j (bop o x y :: vs) os d := by
  obtain ⟨h1, h2, h3, h4, h5, h6, h7⟩ := h
  have key : Ok (m_X12_apply (wr c m μ) m (nI o)) (fun r => ∃ ν, r = ((), wr c m ν) ∧ KG μ ν ∧ St ν f n j (bop o x y :: vs) os d) := by
    unfold m_X12_apply
    rw [wr_g16, bind_s, if_l 33 (33 : Int32) rfl ho2 (by omega), if_neg ho, h3, List.length_cons, List.length_cons]
    have e0 : ((4 : Int32) * nI (vs.length + 1 + 1)) - (4 : Int32) = nI (4 * vs.length + 4) := by rw [nl_4, pk_mul, nI_sb (by omega), show 4 * (vs.length + 1 + 1) - 4 = 4 * vs.length + 4 by omega]
    have e1 : nI (4 * vs.length + 4) + (4 : Int32) = nI (4 * vs.length + 8) := by rw [nl_4, nI_add]
    rw [e0]
    refine ok_call (P := fun r => ∃ ν, r.2 = wr c m ν ∧ KG μ ν ∧ ν.1 = μ.1 ∧ ν.2.2.2 = μ.2.2.2 ∧ (∀ i, i < 4 → ν.2.1 7 (4 * vs.length + i) = bop o x y i) ∧ ∀ k, k < 4 * vs.length → ν.2.1 7 k = μ.2.1 7 k) (ok_cnt 0 4 (fun i st => st.1 = nI (4 * vs.length + 4 + i) ∧ ∃ ν, st.2 = wr c m ν ∧ KG μ ν ∧ ν.1 = μ.1 ∧ ν.2.2.2 = μ.2.2.2 ∧ (∀ t, t < i → ν.2.1 7 (4 * vs.length + t) = bop o x y t) ∧ (∀ t, i ≤ t → t < 4 → ν.2.1 7 (4 * vs.length + t) = x t) ∧ (∀ t, t < 4 → ν.2.1 7 (4 * vs.length + 4 + t) = y t) ∧ ∀ k, k < 4 * vs.length → ν.2.1 7 k = μ.2.1 7 k) (by omega) (by omega) ⟨rfl, μ, rfl, KG_refl μ, rfl, rfl, fun _ h => by omega, fun t _ ht => h6.2.1 t ht, fun t ht => ?_, fun _ _ => rfl⟩ ?_ ?_) (fun r h => ?_)
    · have := h6.1 t ht
      rw [List.length_cons, show 4 * (vs.length + 1) + t = 4 * vs.length + 4 + t by omega] at this
      exact this
    · rintro i ⟨u, e⟩ hi ⟨hu, ν, he, q1, q2, q3, q4, q5, q6, q7⟩
      have hu : u = nI (4 * vs.length + 4 + i) := hu
      have he : e = wr c m ν := he
      subst hu he
      show Ok (if nI (4 * vs.length + 4) + (4 : Int32) ≤ nI (4 * vs.length + 4 + i) then _ else (gA (wr c m ν) 9 14 m).bind fun zx7 => if nI o = (38 : Int32) then (gA (wr c m ν) 9 14 m).bind fun zx18 => (aL (wr c m ν) zx18 (nI (4 * vs.length + 4 + i) - (4 : Int32))).bind fun zx19 => (gA (wr c m ν) 9 14 m).bind fun zx20 => (aL (wr c m ν) zx20 (nI (4 * vs.length + 4 + i))).bind fun zx21 => (sL (wr c m ν) zx7 (nI (4 * vs.length + 4 + i) - (4 : Int32)) (zx19 &&& zx21)).bind fun zc22 => some (Sum.inl ((nI (4 * vs.length + 4 + i) + (1 : Int32)), zc22)) else if nI o = (94 : Int32) then (gA (wr c m ν) 9 14 m).bind fun zx18 => (aL (wr c m ν) zx18 (nI (4 * vs.length + 4 + i) - (4 : Int32))).bind fun zx19 => (gA (wr c m ν) 9 14 m).bind fun zx20 => (aL (wr c m ν) zx20 (nI (4 * vs.length + 4 + i))).bind fun zx21 => (sL (wr c m ν) zx7 (nI (4 * vs.length + 4 + i) - (4 : Int32)) (zx19 ^^^ zx21)).bind fun zc22 => some (Sum.inl ((nI (4 * vs.length + 4 + i) + (1 : Int32)), zc22)) else (gA (wr c m ν) 9 14 m).bind fun zx18 => (aL (wr c m ν) zx18 (nI (4 * vs.length + 4 + i) - (4 : Int32))).bind fun zx19 => (gA (wr c m ν) 9 14 m).bind fun zx20 => (aL (wr c m ν) zx20 (nI (4 * vs.length + 4 + i))).bind fun zx21 => (sL (wr c m ν) zx7 (nI (4 * vs.length + 4 + i) - (4 : Int32)) (zx19 ||| zx21)).bind fun zc22 => some (Sum.inl ((nI (4 * vs.length + 4 + i) + (1 : Int32)), zc22))) _
      have e2 : nI (4 * vs.length + 4 + i) - (4 : Int32) = nI (4 * vs.length + i) := by rw [nl_4, nI_sb (by omega), show 4 * vs.length + 4 + i - 4 = 4 * vs.length + i by omega]
      have e3 : nI (4 * vs.length + 4 + i) + (1 : Int32) = nI (4 * vs.length + 4 + (i + 1)) := nI_1 _
      rw [e1, if_le (by omega) (by omega), if_neg (by omega), e2, e3]
      have fin : ∀ v, v = bop o x y i → ∃ ρ, wr c m (muL ν 7 (va_up (ν.2.1 7) (4 * vs.length + i) v)) = wr c m ρ ∧ KG μ ρ ∧ ρ.1 = μ.1 ∧ ρ.2.2.2 = μ.2.2.2 ∧ (∀ t, t < i + 1 → ρ.2.1 7 (4 * vs.length + t) = bop o x y t) ∧ (∀ t, i + 1 ≤ t → t < 4 → ρ.2.1 7 (4 * vs.length + t) = x t) ∧ (∀ t, t < 4 → ρ.2.1 7 (4 * vs.length + 4 + t) = y t) ∧ ∀ k, k < 4 * vs.length → ρ.2.1 7 k = μ.2.1 7 k := fun v hv => by
        refine ⟨_, rfl, KG_trans q1 (KG_L ν _), q2, q3, fun t ht => ?_, fun t h1 h2 => ?_, fun t ht => ?_, fun k hk => ?_⟩
        · rw [mL_e]
          by_cases e : t = i
          · rw [e, up_e, hv]
          · rw [up_n _ _ _ (by omega)]
            exact q4 t (by omega)
        · rw [mL_e, up_n _ _ _ (by omega)]
          exact q5 t (by omega) h2
        · rw [mL_e, up_n _ _ _ (by omega)]
          exact q6 t ht
        · rw [mL_e, up_n _ _ _ (by omega)]
          exact q7 k hk
      rw [wr_g14, bind_s, if_l 38 (38 : Int32) rfl ho2 (by omega), if_l 94 (94 : Int32) rfl ho2 (by omega)]
      by_cases o1 : o = 38
      · rw [if_pos o1]
        rw [bind_s, wr_q14 c m ν (by omega), bind_s, q5 i (by omega) hi, bind_s, wr_q14 c m ν (by omega), bind_s, q6 i hi, wr_w14 c m ν (by omega), bind_s]
        exact ok_some ⟨rfl, fin _ (by unfold bop; rw [if_pos o1])⟩
      · rw [if_neg o1]
        by_cases o2 : o = 94
        · rw [if_pos o2]
          rw [bind_s, wr_q14 c m ν (by omega), bind_s, q5 i (by omega) hi, bind_s, wr_q14 c m ν (by omega), bind_s, q6 i hi, wr_w14 c m ν (by omega), bind_s]
          exact ok_some ⟨rfl, fin _ (by unfold bop; rw [if_neg o1, if_pos o2])⟩
        · rw [if_neg o2]
          rw [bind_s, wr_q14 c m ν (by omega), bind_s, q5 i (by omega) hi, bind_s, wr_q14 c m ν (by omega), bind_s, q6 i hi, wr_w14 c m ν (by omega), bind_s]
          exact ok_some ⟨rfl, fin _ (by unfold bop; rw [if_neg o1, if_neg o2])⟩
    · rintro ⟨u, e⟩ ⟨hu, ν, he, q1, q2, q3, q4, q5, q6, q7⟩
      have hu : u = nI (4 * vs.length + 4 + 4) := hu
      subst hu
      show Ok (if nI (4 * vs.length + 4) + (4 : Int32) ≤ nI (4 * vs.length + 4 + 4) then _ else _) _
      rw [e1, if_le (by omega) (by omega), if_pos (by omega)]
      exact ok_some ⟨ν, he, q1, q2, q3, q4, q7⟩
    · obtain ⟨ν, q0, q1, q2, q3, q4, q6⟩ := h
      have h9 : ν.2.2.2 7 = nI (vs.length + 1 + 1) := by rw [q3]; exact h3
      rw [q0, wr_g16, bind_s, h9, nI_pred, wr_n16, bind_s]
      refine ok_some ⟨_, rfl, KG_trans q1 (KG_n _ _ (by omega) (by omega)), Byt_g h1 (KG_trans q1 (KG_n _ _ (by omega) (by omega))), At_k h2 (fun r a1 a2 => (mn_n _ _ (by omega)).trans (by rw [q3])), (mn_e _ _ _).trans (by rw [List.length_cons]), ((mn_n _ _ (by decide)).trans (by rw [q3])).trans h4, ((mn_n _ _ (by decide)).trans (by rw [q3])).trans h5, ⟨q4, PIL_k vs h6.2.2 q6⟩, by show SGN (ν.1 8) os; rw [q2]; exact h7⟩
  obtain ⟨_, hv, ν, rfl, q⟩ := key
  exact ⟨ν, hv, q⟩
/-- ranks of signs -/
def rank (o : Nat) : Nat := if o = 33 then 4 else if o = 38 then 3 else if o = 94 then 2 else if o = 124 then 1 else 0
theorem sr_rank {o : Nat} (h : o < 2 ^ 31) : m_X12_rank (nI o) = some (nI (rank o)) := by
  unfold m_X12_rank rank
  rw [if_l 33 (33 : Int32) rfl h (by omega), if_l 38 (38 : Int32) rfl h (by omega), if_l 94 (94 : Int32) rfl h (by omega), if_l 124 (124 : Int32) rfl h (by omega)]
  split
  · rfl
  · split
    · rfl
    · split
      · rfl
      · split <;> rfl
theorem rank_lt (o : Nat) : rank o ≤ 4 := by
  unfold rank
  split
  · omega
  · split
    · omega
    · split
      · omega
      · split <;> omega
/-- piles settled: what comes of them -/
def Stl (r : Nat) : List Nat → List (Nat → Int64) → Nat → List Nat → List (Nat → Int64) → Nat → Prop
  | [], vs, d, os2, vs2, d2 => os2 = [] ∧ vs2 = vs ∧ d2 = d
  | o :: os, vs, d, os2, vs2, d2 => (rank o < r ∧ os2 = o :: os ∧ vs2 = vs ∧ d2 = d) ∨ (r ≤ rank o ∧ o = 33 ∧ ∃ x ws e, vs = x :: ws ∧ d = e + 1 ∧ Stl r os (vnot x :: ws) e os2 vs2 d2) ∨ (r ≤ rank o ∧ o ≠ 33 ∧ ∃ y x ws, vs = y :: x :: ws ∧ Stl r os (bop o x y :: ws) d os2 vs2 d2)
theorem Stl_go {a b : Nat} (hab : b ≤ a) {os1 : List Nat} {vs1 : List (Nat → Int64)} {d1 : Nat} {os2 : List Nat} {vs2 : List (Nat → Int64)} {d2 : Nat} : ∀ (os : List Nat) (vs : List (Nat → Int64)) (d : Nat), Stl a os vs d os1 vs1 d1 → Stl b os1 vs1 d1 os2 vs2 d2 → Stl b os vs d os2 vs2 d2 := by
  intro os
  induction os with
  | nil =>
    rintro vs d ⟨rfl, rfl, rfl⟩ h2
    exact h2
  | cons o os ih =>
    rintro vs d h1 h2
    rcases h1 with ⟨_, rfl, rfl, rfl⟩ | ⟨q1, q2, x, ws, e, q3, q4, q5⟩ | ⟨q1, q2, y, x, ws, q3, q5⟩
    · exact h2
    · exact Or.inr (Or.inl ⟨by omega, q2, x, ws, e, q3, q4, ih _ _ q5 h2⟩)
    · exact Or.inr (Or.inr ⟨by omega, q2, y, x, ws, q3, ih _ _ q5 h2⟩)
def top (os : List Nat) : Nat := match os with
  | [] => 0
  | o :: _ => rank o
theorem Stl_id {a : Nat} (ha : 0 < a) : ∀ (os : List Nat) (vs : List (Nat → Int64)) (d : Nat), top os < a → Stl a os vs d os vs d := by
  intro os vs d h
  cases os with
  | nil => exact ⟨rfl, rfl, rfl⟩
  | cons o os => exact Or.inl ⟨h, rfl, rfl, rfl⟩
def stlB (m : Nat) (p1 : Int32) (zs1 : Unit × Ce) : Option ((Unit × Ce) ⊕ (Unit × Ce)) :=
    (gI zs1.2 9 17 m).bind fun zx4 =>
    if zx4 ≤ 0 then
      some (Sum.inr ((), zs1.2))
    else
      (gA zs1.2 9 15 m).bind fun zx5 =>
      (gI zs1.2 9 17 m).bind fun zx6 =>
      (aI zs1.2 zx5 (zx6 - (1 : Int32))).bind fun zx7 =>
      (m_X12_rank zx7).bind fun zx8 =>
      if zx8 < p1 then
        some (Sum.inr ((), zs1.2))
      else
        (gI zs1.2 9 17 m).bind fun zx9 =>
        (pV zs1.2 9 17 m (.int (zx9 - (1 : Int32)))).bind fun zc10 =>
        (gA zc10 9 15 m).bind fun zx11 =>
        (gI zc10 9 17 m).bind fun zx12 =>
        (aI zc10 zx11 zx12).bind fun zx13 =>
        (rcv zc10 9 m).bind fun zz14 =>
        (m_X12_apply zc10 m zx13).bind fun zq15 =>
        some (Sum.inl ((), zq15.2))
theorem sr_stl0 (c : Ce) (m : Nat) {n j r : Nat} {f : Nat → Nat} (hr : r ≤ 4) {os2 : List Nat} {vs2 : List (Nat → Int64)} {d2 : Nat} : ∀ (os : List Nat) (vs : List (Nat → Int64)) (d : Nat) (μ : MS) (t : Nat), St μ f n j vs os d → vs.length ≤ 39 → os.length ≤ 79 → (∀ o, o ∈ os → o < 256) → Stl r os vs d os2 vs2 d2 → os.length < t → Ok (it (stlB m (nI r)) t ((), wr c m μ)) (fun o => ∃ ν, o.2 = wr c m ν ∧ KG μ ν ∧ St ν f n j vs2 os2 d2) := by
  intro os
  induction os with
  | nil =>
    rintro vs d μ t hS hv ho hb ⟨rfl, rfl, rfl⟩ ht
    obtain ⟨t, rfl⟩ : ∃ s, t = s + 1 := ⟨t - 1, by omega⟩
    show Ok ((stlB m (nI r) ((), wr c m μ)).bind _) _
    have e : stlB m (nI r) ((), wr c m μ) = some (Sum.inr ((), wr c m μ)) := by
      unfold stlB
      rw [wr_g17, bind_s, hS.2.2.2.1]
      exact if_pos (by decide)
    rw [e, bind_s]
    exact ok_some ⟨μ, rfl, KG_refl μ, hS⟩
  | cons o os ih =>
    rintro vs d μ t hS hv ho hb hst ht
    have hS0 := hS
    obtain ⟨h1, h2, h3, h4, h5, h6, h7⟩ := hS
    rw [List.length_cons] at ho ht h4
    have ho8 := hb o (List.mem_cons_self)
    obtain ⟨t, rfl⟩ : ∃ s, t = s + 1 := ⟨t - 1, by omega⟩
    show Ok ((stlB m (nI r) ((), wr c m μ)).bind _) _
    have hk := rank_lt o
    have e0 : stlB m (nI r) ((), wr c m μ) = if rank o < r then some (Sum.inr ((), wr c m μ)) else (m_X12_apply (wr c m (muN μ 8 (nI os.length))) m (nI o)).bind fun zq15 => some (Sum.inl ((), zq15.2)) := by
      unfold stlB
      rw [wr_g17, bind_s, h4, if_neg (nI_nle (by omega) (by omega)), wr_g15, bind_s, bind_s, nI_pred, wr_q15 c m μ (by omega), bind_s, h7.1, sr_rank (by omega), bind_s, if_lt (by omega) (by omega), bind_s, nI_pred, wr_n17, bind_s, wr_g15, bind_s, wr_g17, bind_s, mn_e, wr_q15 c m _ (by omega), bind_s, wr_rcv, bind_s]
      show (if rank o < r then _ else (m_X12_apply _ m (μ.1 8 os.length)).bind _) = _
      rw [h7.1]
    have k8 : KG μ (muN μ 8 (nI os.length)) := KG_n _ _ (by omega) (by omega)
    have hS1 : St (muN μ 8 (nI os.length)) f n j vs os d := ⟨Byt_g h1 k8, At_k h2 (fun r a1 a2 => mn_n _ _ (by omega)), (mn_n _ _ (by decide)).trans h3, mn_e _ _ _, (mn_n _ _ (by decide)).trans h5, h6, h7.2⟩
    rcases hst with ⟨q1, rfl, rfl, rfl⟩ | ⟨q1, q2, x, ws, e, q3, q4, q5⟩ | ⟨q1, q2, y, x, ws, q3, q5⟩
    · rw [e0, if_pos q1, bind_s]
      exact ok_some ⟨μ, rfl, KG_refl μ, hS0⟩
    · subst q2 q3 q4
      rw [List.length_cons] at hv
      obtain ⟨ν, a1, a2, a3⟩ := sr_not c m hS1 (by omega)
      have a1 : m_X12_apply (wr c m (muN μ 8 (nI os.length))) m (nI 33) = _ := a1
      rw [e0, if_neg (by omega), a1, bind_s, bind_s]
      exact ok_mono (ih _ _ ν t a3 (by rw [List.length_cons]; omega) (by omega) (fun o ho => hb o (List.mem_cons_of_mem _ ho)) q5 (by omega)) (fun o ⟨ρ, b1, b2, b3⟩ => ⟨ρ, b1, KG_trans k8 (KG_trans a2 b2), b3⟩)
    · subst q3
      rw [List.length_cons, List.length_cons] at hv
      obtain ⟨ν, a1, a2, a3⟩ := sr_two c m hS1 (by omega) q2 (by omega)
      rw [e0, if_neg (by omega), a1, bind_s, bind_s]
      exact ok_mono (ih _ _ ν t a3 (by rw [List.length_cons]; omega) (by omega) (fun o ho => hb o (List.mem_cons_of_mem _ ho)) q5 (by omega)) (fun o ⟨ρ, b1, b2, b3⟩ => ⟨ρ, b1, KG_trans k8 (KG_trans a2 b2), b3⟩)
theorem sr_settle (c : Ce) (m : Nat) {n j r : Nat} {f : Nat → Nat} (hr : r ≤ 4) {os os2 : List Nat} {vs vs2 : List (Nat → Int64)} {d d2 : Nat} {μ : MS} (hS : St μ f n j vs os d) (hv : vs.length ≤ 39) (ho : os.length ≤ 79) (hb : ∀ o, o ∈ os → o < 256) (hst : Stl r os vs d os2 vs2 d2) : ∃ ν, m_X12_settle (wr c m μ) m (nI r) = some ((), wr c m ν) ∧ KG μ ν ∧ St ν f n j vs2 os2 d2 := by
  obtain ⟨o, h1, ν, h2, h3⟩ := sr_stl0 c m hr os vs d μ FU hS hv ho hb hst (lt_FU (by omega))
  refine ⟨ν, ?_, h3⟩
  show ((it (stlB m (nI r)) FU ((), wr c m μ)).bind fun (zo2 : Unit × Ce) => some ((), zo2.2)) = _
  rw [h1, bind_s, h2]
