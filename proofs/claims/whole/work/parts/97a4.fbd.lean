/-! FORMS: the reference's loop: what each turn does -/
theorem tK_st {f : Nat → Nat} {n i : Nat} (h : tK f n i = 0) : tK f n (i + 1) = 0 := by
  have h1 := tK_0.mp h
  refine tK_0.mpr ?_
  unfold tP at h1 ⊢
  have h2 := tkE_in (f := f) (q := tkq f n (ps f n i)) (n := n) (by omega)
  have h3 : ps f n (i + 1) = n := by
    rw [ps]
    omega
  rw [h3]
  have := tkq_in (f := f) (n := n) (Nat.le_refl n)
  omega
theorem tK_up {f : Nat → Nat} {n i : Nat} (h : tK f n i = 0) : ∀ k, tK f n (i + k) = 0 := by
  intro k
  induction k with
  | zero => exact h
  | succ k ih => exact tK_st ih
theorem tK_300 {f : Nat → Nat} {n : Nat} (hn : n ≤ 300) (j : Nat) (hj : 300 ≤ j) : tK f n j = 0 := by
  refine Classical.byContradiction fun hc => ?_
  have hall : ∀ i, i < j → tK f n i ≠ 0 := fun i hi e => hc (by
    have := tK_up e (j - i)
    rw [show i + (j - i) = j by omega] at this
    exact this)
  have h1 := ps_ge j hall
  have h2 := ps_le f n j
  have h3 := tkq_in (f := f) h2
  refine hc (tK_0.mpr ?_)
  unfold tP
  omega
theorem ne10 : ¬ (1 : Int32) = 0 := by decide
theorem fb_open (c : Ce) (m : Nat) {μ : MS} {n j d : Nat} {f : Nat → Nat} {vs : List (Nat → Int64)} {os : List Nat} (h : St μ f n j vs os d) (ho : os.length < 80) (hd : d < 10) (hK : tK f n j = 5) (hV : tV f n j = 40 ∨ tV f n j = 33) : ∃ ν, fbd m (0, wr c m μ) = some (.inl (0, wr c m ν)) ∧ KG μ ν ∧ St ν f n (j + 1) vs (tV f n j :: os) (d + 1) := by
  obtain ⟨ν, a1, a2, a3⟩ := sr_opened c m h ho hd hK
  refine ⟨ν, ?_, a2, a3⟩
  have hA := h.2.1
  unfold fbd
  rw [if_pos (show ((0 : Int32), wr c m μ).1 = 0 from rfl), wr_g12, bind_s, if_tk hA 40 (40 : Int32) rfl (by decide) (by decide)]
  by_cases e : tK f n j = 5 ∧ tV f n j = 40
  · rw [if_pos e, bind_s, Sum.elim_inr, if_neg (show ¬ (1 : Int32) = 0 by decide), wr_rcv, bind_s, a1, bind_s, bind_s, if_pos rfl, if_neg (show ¬ (1 : Int32) = 0 by decide)]
  · rw [if_neg e, bind_s, if_tk hA 33 (33 : Int32) rfl (by decide) (by decide), if_pos ⟨hK, by omega⟩, bind_s, Sum.elim_inr, if_neg (show ¬ (1 : Int32) = 0 by decide), wr_rcv, bind_s, a1, bind_s, bind_s, if_pos rfl, if_neg (show ¬ (1 : Int32) = 0 by decide)]
theorem fb_open6 (c : Ce) (m : Nat) {μ : MS} {n j d : Nat} {f : Nat → Nat} {vs : List (Nat → Int64)} {os : List Nat} (h : St μ f n j vs os d) (hd : d = 10) (hK : tK f n j = 5) (hV : tV f n j = 40 ∨ tV f n j = 33) : fbd m (0, wr c m μ) = some (.inr (.inl 6, wr c m μ)) := by
  have a1 := sr_opened6 c m h hd
  have hA := h.2.1
  unfold fbd
  rw [if_pos (show ((0 : Int32), wr c m μ).1 = 0 from rfl), wr_g12, bind_s, if_tk hA 40 (40 : Int32) rfl (by decide) (by decide)]
  by_cases e : tK f n j = 5 ∧ tV f n j = 40
  · rw [if_pos e, bind_s, Sum.elim_inr, if_neg (show ¬ (1 : Int32) = 0 by decide), wr_rcv, bind_s, a1, bind_s, bind_s, if_neg (show ¬ (6 : Int32) = 0 by decide)]
  · rw [if_neg e, bind_s, if_tk hA 33 (33 : Int32) rfl (by decide) (by decide), if_pos ⟨hK, by omega⟩, bind_s, Sum.elim_inr, if_neg (show ¬ (1 : Int32) = 0 by decide), wr_rcv, bind_s, a1, bind_s, bind_s, if_neg (show ¬ (6 : Int32) = 0 by decide)]
theorem fb_at0 (c : Ce) (m : Nat) {μ : MS} {n j d : Nat} {f : Nat → Nat} {vs : List (Nat → Int64)} {os : List Nat} (h : St μ f n j vs os d) (h1 : ¬ (tK f n j = 5 ∧ tV f n j = 33)) (h2 : ¬ (tK f n j = 5 ∧ tV f n j = 40)) {v : Int32} {ν : MS} (ha : m_X12_atom (wr c m μ) m = some (v, wr c m ν)) : fbd m (0, wr c m μ) = if v = 0 then some (.inl (1, wr c m ν)) else some (.inr (.inl v, wr c m ν)) := by
  have hA := h.2.1
  unfold fbd
  rw [if_pos (show ((0 : Int32), wr c m μ).1 = 0 from rfl), wr_g12, bind_s, if_tk hA 40 (40 : Int32) rfl (by decide) (by decide), if_neg h2, bind_s, if_tk hA 33 (33 : Int32) rfl (by decide) (by decide), if_neg h1, if_pos (show (0 : Int32) = 0 from rfl), wr_rcv, bind_s, ha, bind_s, bind_s]
  by_cases e : v = 0
  · rw [if_pos e, if_pos (show (0 : Int32) = 0 from rfl), if_pos e, bind_s, Sum.elim_inl]
  · rw [if_neg e, if_neg e, bind_s, Sum.elim_inl]
theorem fb_atom (c : Ce) (m : Nat) {μ : MS} {n j d L : Nat} {nx : Bool} {f : Nat → Nat} {vs vs2 : List (Nat → Int64)} {os os2 : List Nat} {d2 : Nat} (h : St μ f n j vs os d) (h1 : ¬ (tK f n j = 5 ∧ tV f n j = 33)) (h2 : ¬ (tK f n j = 5 ∧ tV f n j = 40)) (hv : vs.length < 39) (ho : os.length ≤ 79) (hb : ∀ o, o ∈ os → o < 256) (hL : μ.2.2.2 10 = nI L) (hL6 : L ≤ 6) (hx : μ.2.2.2 11 = if nx = true then 1 else 0) {y : (Nat → Int64) × Nat} (hp : pAt (tK f n) (tV f n) L nx j = .inr y) (hst : Stl 4 os (y.1 :: vs) d os2 vs2 d2) : ∃ ν, fbd m (0, wr c m μ) = some (.inl (1, wr c m ν)) ∧ KG μ ν ∧ St ν f n (j + 1) vs2 os2 d2 := by
  obtain ⟨ν, a1, a2, a3⟩ := sr_atom c m h hv ho hb hL hL6 hx hp hst
  exact ⟨ν, (fb_at0 c m h h1 h2 a1).trans (if_pos rfl), a2, a3⟩
theorem fb_atomF (c : Ce) (m : Nat) {μ : MS} {n j d L : Nat} {nx : Bool} {f : Nat → Nat} {vs : List (Nat → Int64)} {os : List Nat} (h : St μ f n j vs os d) (h1 : ¬ (tK f n j = 5 ∧ tV f n j = 33)) (h2 : ¬ (tK f n j = 5 ∧ tV f n j = 40)) (hL : μ.2.2.2 10 = nI L) (hL6 : L ≤ 6) (hx : μ.2.2.2 11 = if nx = true then 1 else 0) {e : Nat × Nat} (hp : pAt (tK f n) (tV f n) L nx j = .inl e) : fbd m (0, wr c m μ) = some (.inr (.inl (nI e.1), wr c m μ)) ∧ e.2 = j ∧ 0 < e.1 ∧ e.1 < 7 := by
  obtain ⟨a1, a2, a3, a4⟩ := sr_atomF c m h hL hL6 hx hp
  exact ⟨(fb_at0 c m h h1 h2 a1).trans (if_neg (nI_ne0 a3 (by omega))), a2, a3, a4⟩
theorem sr_btw (c : Ce) (m : Nat) {μ : MS} {n j : Nat} {f : Nat → Nat} (hA : At μ f n j) : m_X12_isBetween (wr c m μ) m = some (if tK f n j = 5 ∧ (tV f n j = 38 ∨ tV f n j = 94 ∨ tV f n j = 124) then 1 else 0) := by
  unfold m_X12_isBetween
  rw [wr_g12, bind_s, if_tk hA 38 (38 : Int32) rfl (by decide) (by decide), bind_s, if_tk hA 94 (94 : Int32) rfl (by decide) (by decide), bind_s, if_tk hA 124 (124 : Int32) rfl (by decide) (by decide)]
  by_cases e1 : tK f n j = 5 ∧ tV f n j = 38
  · rw [if_pos e1, if_pos ⟨e1.1, Or.inl e1.2⟩]
  · rw [if_neg e1]
    by_cases e2 : tK f n j = 5 ∧ tV f n j = 94
    · rw [if_pos e2, if_pos ⟨e2.1, Or.inr (Or.inl e2.2)⟩]
    · rw [if_neg e2]
      by_cases e3 : tK f n j = 5 ∧ tV f n j = 124
      · rw [if_pos e3, if_pos ⟨e3.1, Or.inr (Or.inr e3.2)⟩]
      · rw [if_neg e3, if_neg (fun z => by omega)]
theorem fb_btw (c : Ce) (m : Nat) {μ : MS} {n j d : Nat} {f : Nat → Nat} {vs vs2 : List (Nat → Int64)} {os os2 : List Nat} {d2 : Nat} (h : St μ f n j vs os d) (hv : vs.length ≤ 39) (ho : os.length ≤ 79) (hb : ∀ o, o ∈ os → o < 256) (hK : tK f n j = 5) (hV : tV f n j = 38 ∨ tV f n j = 94 ∨ tV f n j = 124) (hst : Stl (rank (tV f n j)) os vs d os2 vs2 d2) (ho2 : os2.length < 80) : ∃ ν, fbd m (1, wr c m μ) = some (.inl (0, wr c m ν)) ∧ KG μ ν ∧ St ν f n (j + 1) vs2 (tV f n j :: os2) d2 := by
  have hA := h.2.1
  obtain ⟨ρ, a1, a2, a3⟩ := sr_settle c m (rank_lt _) h hv ho hb hst
  obtain ⟨h1, h2, h3, h4, h5, h6, h7⟩ := a3
  have e5 : μ.2.2.2 5 = nI (tV f n j) := by
    rw [hA.2.2.1, hK]
    rfl
  have e5b : ρ.2.2.2 5 = nI (tV f n j) := by
    rw [h2.2.2.1, hK]
    rfl
  have k1 : KG ρ (muN (muI ρ 8 (va_up (ρ.1 8) os2.length (nI (tV f n j)))) 8 (nI (os2.length + 1))) := KG_trans (KG_I _ _) (KG_n _ _ (by omega) (by omega))
  have hS : St (muN (muI ρ 8 (va_up (ρ.1 8) os2.length (nI (tV f n j)))) 8 (nI (os2.length + 1))) f n j vs2 (tV f n j :: os2) d2 := by
    refine ⟨Byt_g h1 k1, At_k h2 (fun r a1 a2 => mn_n _ _ (by omega)), (mn_n _ _ (by decide)).trans h3, (mn_e _ _ _).trans (by rw [List.length_cons]), (mn_n _ _ (by decide)).trans h5, h6, ?_⟩
    show SGN (va_up ρ.1 8 (va_up (ρ.1 8) os2.length (nI (tV f n j))) 8) _
    rw [up_e]
    exact ⟨up_e _ _ _, SGN_k os2 h7 (fun k hk => up_n _ _ _ (by omega))⟩
  obtain ⟨ν, q1, q2, q3⟩ := St_next c m hS
  refine ⟨ν, ?_, KG_trans a2 (KG_trans k1 q2), q3⟩
  unfold fbd
  rw [if_neg (show ¬ ((1 : Int32), wr c m μ).1 = 0 from ne10), wr_rcv, bind_s, sr_btw c m hA, bind_s, if_pos (show tK f n j = 5 ∧ (tV f n j = 38 ∨ tV f n j = 94 ∨ tV f n j = 124) from ⟨hK, hV⟩), if_neg (show ¬ (1 : Int32) = 0 by decide), wr_g12, bind_s, e5, sr_rank (by omega), bind_s, bind_s, a1, bind_s, wr_g15, bind_s, wr_g17, bind_s, h4, wr_g12, bind_s, e5b, wr_w15 c m _ ho2, bind_s, wr_g17, bind_s]
  have e8 : (muI ρ 8 (va_up (ρ.1 8) os2.length (nI (tV f n j)))).2.2.2 8 = nI os2.length := h4
  rw [e8, nI_1, wr_n17, bind_s, wr_rcv, bind_s, q1, bind_s]
theorem fb_end (c : Ce) (m : Nat) {μ : MS} {n j d : Nat} {f : Nat → Nat} {vs vs2 : List (Nat → Int64)} {os os2 : List Nat} {d2 : Nat} (h : St μ f n j vs os d) (hv : vs.length ≤ 39) (ho : os.length ≤ 79) (hb : ∀ o, o ∈ os → o < 256) (hN : ¬ (tK f n j = 5 ∧ (tV f n j = 38 ∨ tV f n j = 94 ∨ tV f n j = 124))) (hst : Stl 1 os vs d os2 vs2 d2) (hd2 : d2 ≤ 10) (ho2 : os2.length ≤ 79) (hv2 : vs2.length ≤ 39) (hb2 : ∀ o, o ∈ os2 → o < 256) : (os2 = [] → ∃ ν, fbd m (1, wr c m μ) = some (.inr (.inl 0, wr c m ν)) ∧ KG μ ν ∧ St ν f n j vs2 [] d2) ∧ (∀ o os3, os2 = o :: os3 → ¬ (tK f n j = 5 ∧ tV f n j = 41) → ∃ ν, fbd m (1, wr c m μ) = some (.inr (.inl 1, wr c m ν)) ∧ KG μ ν ∧ At ν f n j) ∧ (∀ o os3 e os4 vs4 d4, os2 = o :: os3 → d2 = e + 1 → tK f n j = 5 ∧ tV f n j = 41 → Stl 4 os3 vs2 e os4 vs4 d4 → ∃ ν, fbd m (1, wr c m μ) = some (.inl (1, wr c m ν)) ∧ KG μ ν ∧ St ν f n (j + 1) vs4 os4 d4) := by
  have hA := h.2.1
  obtain ⟨ρ, a1, a2, a3⟩ := sr_settle c m (r := 1) (by omega) h hv ho hb hst
  have a1 : m_X12_settle (wr c m μ) m (1 : Int32) = _ := a1
  have hS := a3
  obtain ⟨h1, h2, h3, h4, h5, h6, h7⟩ := a3
  have e0 : fbd m (1, wr c m μ) = if nI os2.length = (0 : Int32) then some (.inr (.inl (0 : Int32), wr c m ρ)) else if tK f n j = 5 ∧ tV f n j = 41 then (pV (wr c m ρ) 9 17 m (.int (nI os2.length - (1 : Int32)))).bind fun zc14 => (gI zc14 9 18 m).bind fun zx15 => (pV zc14 9 18 m (.int (zx15 - (1 : Int32)))).bind fun zc16 => (rcv zc16 9 m).bind fun zz17 => (m_X12_nextToken zc16 m).bind fun zq18 => (rcv zq18.2 9 m).bind fun zz19 => (m_X12_settle zq18.2 m (4 : Int32)).bind fun zq20 => some (.inl (1, zq20.2)) else some (.inr (.inl (1 : Int32), wr c m ρ)) := by
    unfold fbd
    rw [if_neg (show ¬ ((1 : Int32), wr c m μ).1 = 0 from ne10), wr_rcv, bind_s, sr_btw c m hA, bind_s, if_neg hN, if_pos (show (0 : Int32) = 0 from rfl), bind_s, a1, bind_s, wr_g17, bind_s, h4, wr_g12, bind_s, if_tk h2 41 (41 : Int32) rfl (by decide) (by decide), bind_s]
  refine ⟨fun z => ?_, fun o os3 z hn => ?_, fun o os3 e os4 vs4 d4 z hd hK hs4 => ?_⟩
  · subst z
    exact ⟨ρ, e0.trans (if_pos rfl), a2, hS⟩
  · subst z
    rw [List.length_cons] at ho2
    refine ⟨ρ, e0.trans ?_, a2, h2⟩
    rw [if_neg (nI_ne0 (by rw [List.length_cons]; omega) (by rw [List.length_cons]; omega)), if_neg hn]
  · subst z
    rw [List.length_cons] at ho2 h4 e0
    have k1 : KG ρ (muN (muN ρ 8 (nI os3.length)) 9 (nI e)) := KG_trans (KG_n _ _ (by omega) (by omega)) (KG_n _ _ (by omega) (by omega))
    have hS2 : St (muN (muN ρ 8 (nI os3.length)) 9 (nI e)) f n j vs2 os3 e := ⟨Byt_g h1 k1, At_k h2 (fun r a1 a2 => (mn_n _ _ (by omega)).trans (mn_n _ _ (by omega))), ((mn_n _ _ (by decide)).trans (mn_n _ _ (by decide))).trans h3, (mn_n _ _ (by decide)).trans (mn_e _ _ _), mn_e _ _ _, h6, h7.2⟩
    obtain ⟨σ, b1, b2, b3⟩ := St_next c m hS2
    obtain ⟨τ, c1, c2, c3⟩ := sr_settle c m (r := 4) (by omega) b3 hv2 (by omega) (fun o ho => hb2 o (List.mem_cons_of_mem _ ho)) hs4
    have c1 : m_X12_settle (wr c m σ) m (4 : Int32) = _ := c1
    refine ⟨τ, e0.trans ?_, KG_trans a2 (KG_trans k1 (KG_trans b2 c2)), c3⟩
    rw [if_neg (nI_ne0 (by omega) (by omega)), if_pos hK, nI_pred, wr_n17, bind_s, wr_g18, bind_s, mn_n _ _ (show 9 ≠ 8 by decide), h5, hd, nI_pred, wr_n18, bind_s, wr_rcv, bind_s, b1, bind_s, wr_rcv, bind_s, c1, bind_s]
