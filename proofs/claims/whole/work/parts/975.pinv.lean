/-! WHAT HOLDS ALL ALONG: as cubes are moved, and barred -/
theorem rep_move {fr : List Cu} {f : Nat} {q : Cu} (hq : q ∈ fr) (hf : q.1 ≤ f) (hv : q.2.2 &&& q.2.1 = q.2.2) : rep (addC fr f q.2.1 q.2.2) ≤ rep fr := by
  unfold addC
  rw [rep_add]
  generalize hp : (fun (r : Cu) => !(decide (r.1 ≤ f) && lies r.2.1 r.2.2 q.2.1 q.2.2)) = p
  have hpq : p q = false := by
    rw [← hp]
    simp [lies_self hv, hf]
  by_cases ha : (fr.filter p).any (fun r => decide (r.2 = (f, q.2.1, q.2.2).2)) = true
  · rw [if_pos ha]
    rw [List.any_eq_true] at ha
    obtain ⟨y, hy1, hy2⟩ := ha
    have hy := List.mem_filter.mp hy1
    have hy2 : y.2 = q.2 := by simpa using hy2
    exact rep_filter1 p (c := q.2) fr ⟨q, hq, rfl, hpq⟩ ⟨y, hy.1, hy2, hy.2⟩
  · rw [if_neg ha]
    exact rep_filter p fr
/-- one more, of which none like it stays -/
theorem rep_new {fr : List Cu} {f m b : Nat} (h : ∀ r, r ∈ fr → r.2 = (m, b) → r.1 ≤ f) (hv : b &&& m = b) : rep (addC fr f m b) ≤ rep fr := by
  unfold addC
  rw [rep_add]
  rw [if_neg]
  · exact rep_filter _ fr
  · intro ha
    rw [List.any_eq_true] at ha
    obtain ⟨y, hy1, hy2⟩ := ha
    have hy := List.mem_filter.mp hy1
    have hy2 : y.2 = (m, b) := by simpa using hy2
    have e1 : y.2.1 = m := by rw [hy2]
    have e2 : y.2.2 = b := by rw [hy2]
    have := hy.2
    rw [e1, e2, lies_self hv] at this
    simp [h y hy.1 hy2] at this
theorem rep_any (fr : List Cu) (f m b : Nat) : rep (addC fr f m b) ≤ rep fr + 1 := by
  unfold addC
  rw [rep_add]
  have := rep_filter (fun q => !(decide (q.1 ≤ f) && lies q.2.1 q.2.2 m b)) fr
  split <;> omega
def PJ (M : Mv) (top a c : Nat) (W : Int64) (cur : List Cu) : Prop := CI M top cur ∧ PC M a cur ∧ wth M cur a = W ∧ rep cur ≤ c
theorem PJ_add {M : Mv} (hL : M.1 < 7) {top a c : Nat} {W : Int64} (ha : 1 ≤ a) (hat : a < top) {cur : List Cu} (h : PJ M top a c W cur) {q : Cu} (hq : q ∈ cur) (hqa : q.1 = a) (hh : hld M cur q.2.1 q.2.2 a = true) : PJ M top a c W (addC cur (a + 1) q.2.1 q.2.2) := by
  obtain ⟨h1, h2, h3, h4⟩ := h
  obtain ⟨a1, a2, a3, a4, a5, a6, a7⟩ := h1 q hq
  have h63 := at_63 hL h1 ha h2 hq hqa
  have hsame : ∀ g, 1 ≤ g → g ≤ a → wth M (addC cur (a + 1) q.2.1 q.2.2) g = wth M cur g := fun g g1 g2 => wth_same hL (by omega) hq (by omega) (by omega)
  have hl := PC_HL hL h1 h2
  refine ⟨CI_add hL h1 (by omega) (by omega) (by omega) a4 a5 a6 (by rw [Nat.add_sub_cancel]; exact hh), ⟨fun f f1 f2 => ?_, fun r hr hra => ?_⟩, ?_, ?_⟩
  · obtain ⟨r, hr, hrf⟩ := h2.1 f f1 f2
    refine ⟨r, addC_iff.mpr (Or.inl ⟨hr, fun z => ?_⟩), hrf⟩
    rw [hl r hr (by omega) q hq hqa] at z
    exact absurd z.2 (by decide)
  · rcases addC_iff.mp hr with hz | hz
    · unfold hld
      rw [hsame r.1 (h1 r hz.1).1 (by omega)]
      exact h2.2 r hz.1 hra
    · rw [hz] at hra
      have hra : a + 1 < a := hra
      omega
  · rw [hsame a ha (Nat.le_refl _)]
    exact h3
  · exact Nat.le_trans (rep_move hq (by omega) a5) h4
theorem push_inv {M : Mv} (hL : M.1 < 7) {top a c : Nat} {W : Int64} (ha : 1 ≤ a) (hat : a < top) : ∀ (R : List Cu) (s : List Cu × Nat × Nat), (∀ r, r ∈ R → r.1 = a) → PJ M top a c W s.1 → PJ M top a c W (R.foldl (pushS M a) s).1 ∧ (∀ r, r ∈ R → r ∈ (R.foldl (pushS M a) s).1 → clsd M.1 M.2.1 W (cubS M.1 r.2.1 r.2.2) = false) ∧ (∀ r, r.1 = a → r ∈ (R.foldl (pushS M a) s).1 → r ∈ s.1) ∧ (R.foldl (pushS M a) s).2.1 ≤ s.2.1 + R.length := by
  intro R
  induction R with
  | nil =>
    intro s _ hj
    exact ⟨hj, fun r hr => (by cases hr), fun r _ hr => hr, Nat.le_refl _⟩
  | cons q R ih =>
    intro s hR hj
    have hqa := hR q List.mem_cons_self
    have hR2 : ∀ r, r ∈ R → r.1 = a := fun r hr => hR r (List.mem_cons_of_mem _ hr)
    rw [List.foldl_cons, List.length_cons]
    have key : PJ M top a c W (pushS M a s q).1 ∧ (q ∈ (pushS M a s q).1 → clsd M.1 M.2.1 W (cubS M.1 q.2.1 q.2.2) = false) ∧ (∀ r, r.1 = a → r ∈ (pushS M a s q).1 → r ∈ s.1) ∧ (pushS M a s q).2.1 ≤ s.2.1 + 1 := by
      unfold pushS
      by_cases hany : s.1.any (fun r => decide (r = q)) = true
      · rw [if_pos hany]
        rw [List.any_eq_true] at hany
        obtain ⟨r, hr1, hr2⟩ := hany
        have : r = q := by simpa using hr2
        subst this
        have hh : hld M s.1 r.2.1 r.2.2 a = clsd M.1 M.2.1 W (cubS M.1 r.2.1 r.2.2) := by
          unfold hld
          rw [hj.2.2.1]
        by_cases hc : hld M s.1 r.2.1 r.2.2 a = true
        · rw [if_pos hc]
          refine ⟨PJ_add hL ha hat hj hr1 hqa hc, fun hm => ?_, fun x hx hm => ?_, Nat.le_refl _⟩
          · exfalso
            rcases addC_iff.mp hm with hz | hz
            · exact hz.2 ⟨by omega, lies_self (hj.1 r hr1).2.2.2.2.1⟩
            · rw [hz] at hqa
              have hqa : a + 1 = a := hqa
              omega
          · rcases addC_iff.mp hm with hz | hz
            · exact hz.1
            · rw [hz] at hx
              have hx : a + 1 = a := hx
              omega
        · rw [if_neg hc]
          refine ⟨hj, fun _ => ?_, fun _ _ hm => hm, Nat.le_refl _⟩
          rw [← hh]
          simpa using hc
      · rw [if_neg hany]
        refine ⟨hj, fun hm => ?_, fun _ _ hm => hm, Nat.le_succ _⟩
        exfalso
        apply hany
        rw [List.any_eq_true]
        exact ⟨q, hm, by simp⟩
    obtain ⟨k1, k2, k3, k4⟩ := key
    obtain ⟨i1, i2, i3, i4⟩ := ih (pushS M a s q) hR2 k1
    refine ⟨i1, fun r hr hm => ?_, fun r hra hm => k3 r hra (i3 r hra hm), by omega⟩
    rcases List.mem_cons.mp hr with h | h
    · subst h
      exact k2 (i3 r hqa hm)
    · exact i2 r h hm
/-- after a push: fewer than or as many as before; if one is left there, the push went on by one -/
theorem pushR_inv {V : Sv} (hL : V.1.1 < 7) (hC : CI V.1 (V.2.1 4) V.2.2.1) (ha : 1 ≤ V.2.1 6) (hat : V.2.1 6 < V.2.1 4) (hp : PC V.1 (V.2.1 6) V.2.2.1) : CI V.1 (V.2.1 4) (pushR V).1 ∧ rep (pushR V).1 ≤ rep V.2.2.1 ∧ (pushR V).2.1 ≤ V.2.1 12 + V.2.2.1.length ∧ (manyF (pushR V).1 (V.2.1 6) ≠ 0 → V.2.1 6 ≤ 63 ∧ PC V.1 (V.2.1 6 + 1) (pushR V).1) := by
  obtain ⟨M, n, fr, ob, fl, cl⟩ := V
  have ha : 1 ≤ n 6 := ha
  have hR : ∀ r, r ∈ (fr.filter fun q => decide (q.1 = n 6)) → r.1 = n 6 := fun r hr => by simpa using (List.mem_filter.mp hr).2
  obtain ⟨⟨j1, j2, j3, j4⟩, i2, i3, i4⟩ := push_inv (W := wth M fr (n 6)) (c := rep fr) hL ha hat (fr.filter fun q => decide (q.1 = n 6)) (fr, n 12, n 14) hR ⟨hC, hp, rfl, Nat.le_refl _⟩
  have hlen : (fr.filter fun q => decide (q.1 = n 6)).length ≤ fr.length := List.length_filter_le _ _
  refine ⟨j1, j4, Nat.le_trans i4 (Nat.add_le_add_left hlen _), fun hm => ?_⟩
  obtain ⟨q, hq, hqa⟩ : ∃ q, q ∈ (pushR (M, n, fr, ob, fl, cl)).1 ∧ q.1 = n 6 := by
    refine Classical.byContradiction fun hno => hm ?_
    unfold manyF
    rw [List.countP_eq_zero]
    intro r hr hd
    exact hno ⟨r, hr, by simpa using hd⟩
  refine ⟨at_63 hL j1 ha j2 hq hqa, ⟨fun f f1 f2 => ?_, fun r hr hra => ?_⟩⟩
  · by_cases hf : f = n 6
    · exact ⟨q, hq, by rw [hqa, hf]⟩
    · have f2 : f < n 6 + 1 := f2
      exact j2.1 f f1 (by omega)
  · have hra : r.1 < n 6 + 1 := hra
    by_cases hf : r.1 = n 6
    · have hrf := i3 r hf hr
      have := i2 r (List.mem_filter.mpr ⟨hrf, by simp [hf]⟩) hr
      show clsd M.1 M.2.1 (wth M _ r.1) _ = false
      rw [hf]
      rw [← j3] at this
      exact this
    · exact j2.2 r hr (by omega)
/-! the widened cube -/
theorem offN_and {st m l : Nat} : st &&& offN m l = offN (st &&& m) l := by
  unfold offN
  exact (Nat.and_assoc _ _ _).symm
theorem widF_inv {M : Mv} {fr : List Cu} {st lv : Nat} : ∀ (l : List Nat) (s : Nat × Nat), (cubS M.1 s.1 (st &&& s.1) &&& M.2.2.1 = 0) → hld M fr s.1 (st &&& s.1) lv = true → (cubS M.1 (l.foldl (widS M fr st lv) s).1 (st &&& (l.foldl (widS M fr st lv) s).1) &&& M.2.2.1 = 0) ∧ hld M fr (l.foldl (widS M fr st lv) s).1 (st &&& (l.foldl (widS M fr st lv) s).1) lv = true ∧ (l.foldl (widS M fr st lv) s).2 ≤ s.2 + l.length := by
  intro l
  induction l with
  | nil => intro s h1 h2; exact ⟨h1, h2, Nat.le_refl _⟩
  | cons x l ih =>
    intro s h1 h2
    rw [List.foldl_cons, List.length_cons]
    have key : (cubS M.1 (widS M fr st lv s x).1 (st &&& (widS M fr st lv s x).1) &&& M.2.2.1 = 0) ∧ hld M fr (widS M fr st lv s x).1 (st &&& (widS M fr st lv s x).1) lv = true ∧ (widS M fr st lv s x).2 ≤ s.2 + 1 := by
      unfold widS
      by_cases h0 : cubS M.1 (offN s.1 x) (st &&& offN s.1 x) &&& M.2.2.1 = 0
      · rw [if_pos h0]
        by_cases hh : hld M fr (offN s.1 x) (st &&& offN s.1 x) lv = true
        · rw [if_pos hh]
          exact ⟨h0, hh, Nat.le_refl _⟩
        · rw [if_neg hh]
          exact ⟨h1, h2, Nat.le_refl _⟩
      · rw [if_neg h0]
        exact ⟨h1, h2, Nat.le_succ _⟩
    obtain ⟨k1, k2, k3⟩ := key
    obtain ⟨i1, i2, i3⟩ := ih _ k1 k2
    exact ⟨i1, i2, by omega⟩
/-- the cube of one state alone -/
theorem cub_one {L st s : Nat} (hL : L < 7) (hst : st < 2 ^ L) (hs : s < 2 ^ L) : B (cubS L (2 ^ L - 1) st) s = decide (s = st) := by
  have h64 := p2_64 hL
  show B (cubN L (2 ^ L - 1) st L) s = _
  unfold cubN
  rw [B_mkS _ (by omega)]
  by_cases he : s = st
  · subst he
    have hall : ((List.range L).all fun l => !(2 ^ L - 1).testBit l || (s.testBit l == s.testBit l)) = true := by
      rw [List.all_eq_true]
      intro l _
      simp
    rw [hall]
    simp [hs]
  · have hno : ((List.range L).all fun l => !(2 ^ L - 1).testBit l || (s.testBit l == st.testBit l)) = false := by
      cases hb : ((List.range L).all fun l => !(2 ^ L - 1).testBit l || (s.testBit l == st.testBit l)) with
      | false => rfl
      | true =>
        exfalso
        apply he
        rw [List.all_eq_true] at hb
        refine Nat.eq_of_testBit_eq fun l => ?_
        by_cases hl : l < L
        · have := hb l (List.mem_range.mpr hl)
          rw [Nat.testBit_two_pow_sub_one] at this
          simpa [hl] using this
        · rw [tb_lt hs (by omega), tb_lt hst (by omega)]
    rw [hno]
    simp [he]
/-- a state that none leads to, ahead of it: its cube holds -/
theorem one_hld {M : Mv} (hL : M.1 < 7) {fr : List Cu} {st lv : Nat} (hst : st < 2 ^ M.1) (h : lowS (ahdS M st (wth M fr lv)) = none) : hld M fr (2 ^ M.1 - 1) st lv = true := by
  have h64 := p2_64 hL
  refine clsd_iff.mpr fun s hs hx hy => ?_
  rw [cub_one hL hst hs] at hy
  have hne : s ≠ st := by simpa using hy
  refine B_ext0 fun k hk => ?_
  rw [B_and]
  by_cases hkl : k < 2 ^ M.1
  · rw [cub_one hL hst hkl]
    by_cases hks : k = st
    · subst hks
      have hz : B (ahdS M k (wth M fr lv)) s = false := by
        unfold lowS at h
        rw [List.find?_eq_none] at h
        have := h s (List.mem_range.mpr (by omega))
        simpa using this
      unfold ahdS at hz
      rw [B_mkS _ (by omega), hx] at hz
      simp [hs, hne] at hz
      rw [hz]
      rfl
    · simp [hks]
  · rw [cub_hi hL hk hkl]
    simp
