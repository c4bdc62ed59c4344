/-! WHAT HOLDS ALL ALONG: a push, a step -/
theorem push_mem {M : Mv} (hL : M.1 < 7) {a : Nat} : ∀ (R : List Cu) (s : List Cu × Nat × Nat), (∀ r, r ∈ (R.foldl (pushS M a) s).1 → r ∈ s.1 ∨ r.1 = a + 1) ∧ (∀ r, r ∈ s.1 → a + 1 < r.1 → r ∈ (R.foldl (pushS M a) s).1) ∧ ∀ g k, k < 64 → B (wth M (R.foldl (pushS M a) s).1 g) k = true → B (wth M s.1 g) k = true := by
  intro R
  induction R with
  | nil => intro s; exact ⟨fun r hr => Or.inl hr, fun r hr _ => hr, fun g k _ h => h⟩
  | cons q R ih =>
    intro s
    rw [List.foldl_cons]
    have key : (∀ r, r ∈ (pushS M a s q).1 → r ∈ s.1 ∨ r.1 = a + 1) ∧ (∀ r, r ∈ s.1 → a + 1 < r.1 → r ∈ (pushS M a s q).1) ∧ ∀ g k, k < 64 → B (wth M (pushS M a s q).1 g) k = true → B (wth M s.1 g) k = true := by
      unfold pushS
      split
      · split
        · refine ⟨fun r hr => ?_, fun r hr hlt => addC_iff.mpr (Or.inl ⟨hr, fun z => by omega⟩), fun g k hk hb => wth_addle hL hk hb⟩
          rcases addC_iff.mp hr with hz | hz
          · exact Or.inl hz.1
          · exact Or.inr (by rw [hz])
        · exact ⟨fun r hr => Or.inl hr, fun r hr _ => hr, fun g k _ h => h⟩
      · exact ⟨fun r hr => Or.inl hr, fun r hr _ => hr, fun g k _ h => h⟩
    obtain ⟨k1, k2, k3⟩ := key
    obtain ⟨i1, i2, i3⟩ := ih (pushS M a s q)
    refine ⟨fun r hr => ?_, fun r hr hlt => i2 r (k2 r hr hlt) hlt, fun g k hk hb => k3 g k hk (i3 g k hk hb)⟩
    rcases i1 r hr with hz | hz
    · exact k1 r hz
    · exact Or.inr hz
/-- all is out of the lowest frame: then all of it moves, and the fence is found -/
theorem push_Y {V : Sv} (hL : V.1.1 < 7) (hC : CI V.1 (V.2.1 4) V.2.2.1) (hat : 1 < V.2.1 4) (hp : PC V.1 1 V.2.2.1) (h6 : V.2.1 6 = 1) {f : Nat} (y1 : ∃ q, q ∈ V.2.2.1 ∧ q.1 = f) (y2 : ∀ q, q ∈ V.2.2.1 → q.1 ≤ f) (y3 : wth V.1 V.2.2.1 f = 0) : manyF (pushR V).1 (V.2.1 6) = 0 ∧ ∃ f2, (∃ q, q ∈ (pushR V).1 ∧ q.1 = f2) ∧ (∀ q, q ∈ (pushR V).1 → q.1 ≤ f2) ∧ wth V.1 (pushR V).1 f2 = 0 := by
  obtain ⟨M, n, fr, ob, fl, cl⟩ := V
  have h64 := p2_64 hL
  have h6 : n 6 = 1 := h6
  have hC : CI M (n 4) fr := hC
  obtain ⟨q0, hq0, hq0f⟩ := y1
  have hq0 : q0 ∈ fr := hq0
  have hf1 : 1 ≤ f := by
    have := (hC q0 hq0).1
    omega
  have y3 : wth M fr f = 0 := y3
  have hw1 : wth M fr 1 = 0 := B_ext0 fun s hs => by
    cases hb : B (wth M fr 1) s with
    | false => rfl
    | true =>
      have := wth_mono (by omega) hf1 hs hb
      rw [y3, B_0] at this
      cases this
  have hR : ∀ r, r ∈ (fr.filter fun q => decide (q.1 = n 6)) → r.1 = 1 := fun r hr => by
    have : r.1 = n 6 := by simpa using (List.mem_filter.mp hr).2
    omega
  have hpr : (pushR (M, n, fr, ob, fl, cl)) = (fr.filter fun q => decide (q.1 = n 6)).foldl (pushS M (n 6)) (fr, n 12, n 14) := rfl
  rw [hpr]
  show manyF ((fr.filter fun q => decide (q.1 = n 6)).foldl (pushS M (n 6)) (fr, n 12, n 14)).1 (n 6) = 0 ∧ _
  rw [h6] at hR hpr ⊢
  obtain ⟨⟨j1, j2, j3, j4⟩, i2, i3, i4⟩ := push_inv (W := wth M fr 1) (c := rep fr) hL (Nat.le_refl 1) hat (fr.filter fun q => decide (q.1 = 1)) (fr, n 12, n 14) hR ⟨hC, hp, rfl, Nat.le_refl _⟩
  obtain ⟨m1, m2, m3⟩ := push_mem (M := M) hL (a := 1) (fr.filter fun q => decide (q.1 = 1)) (fr, n 12, n 14)
  generalize (fr.filter fun q => decide (q.1 = 1)).foldl (pushS M 1) (fr, n 12, n 14) = res at *
  have hno : ∀ r, r ∈ res.1 → r.1 ≠ 1 := by
    intro r hr h1
    have hrf : r ∈ fr := i3 r h1 hr
    have := i2 r (List.mem_filter.mpr ⟨hrf, by simp [h1]⟩) hr
    rw [hw1] at this
    have ht : clsd M.1 M.2.1 0 (cubS M.1 r.2.1 r.2.2) = true := clsd_iff.mpr fun s _ hx _ => by rw [B_0] at hx; cases hx
    rw [ht] at this
    cases this
  have hge : ∀ r, r ∈ res.1 → 2 ≤ r.1 := fun r hr => by
    have := (j1 r hr).1
    have := hno r hr
    omega
  have hw2 : wth M res.1 2 = 0 := B_ext0 fun s hs => by
    cases hb : B (wth M res.1 2) s with
    | false => rfl
    | true =>
      exfalso
      obtain ⟨b1, b2⟩ := (wth_iff (by omega) hs).mp hb
      have : B (wth M res.1 1) s = true := (wth_iff (by omega) hs).mpr ⟨b1, fun q hq _ => b2 q hq (hge q hq)⟩
      rw [j3, hw1, B_0] at this
      cases this
  refine ⟨?_, ?_⟩
  · unfold manyF
    rw [List.countP_eq_zero]
    intro r hr hd
    exact hno r hr (by simpa using hd)
  · by_cases hf2 : f ≤ 2
    · refine ⟨2, ?_, fun q hq => ?_, hw2⟩
      · have h0 : B (wth M res.1 1) 0 = false := by rw [j3, hw1, B_0]
        have hpos := Nat.two_pow_pos M.1
        refine Classical.byContradiction fun hn => ?_
        have : B (wth M res.1 1) 0 = true := (wth_iff (by omega) (by omega)).mpr ⟨hpos, fun q hq _ => by
          exfalso
          rcases m1 q hq with hz | hz
          · have := y2 q hz
            have := hge q hq
            exact hn ⟨q, hq, by omega⟩
          · exact hn ⟨q, hq, by omega⟩⟩
        rw [h0] at this
        cases this
      · rcases m1 q hq with hz | hz
        · have := y2 q hz
          omega
        · omega
    · refine ⟨f, ⟨q0, m2 q0 hq0 (by omega), hq0f⟩, fun q hq => ?_, ?_⟩
      · rcases m1 q hq with hz | hz
        · exact y2 q hz
        · omega
      · refine B_ext0 fun s hs => ?_
        cases hb : B (wth M res.1 f) s with
        | false => rfl
        | true =>
          have := m3 f s hs hb
          have this : B (wth M fr f) s = true := this
          rw [y3, B_0] at this
          cases this
theorem push_IV {c : Nat} {V : Sv} (h : IV c V) (h5 : V.2.1 5 = 2) : IV c (pushV V) ∧ (pushV V).2.1 10 ≤ V.2.1 10 + 8 ∧ (pushV V).2.1 12 ≤ V.2.1 12 + 2000 ∧ (pushV V).2.1 11 = V.2.1 11 := by
  have hL := IV_L h
  have hlen := IV_len h
  obtain ⟨M, n, fr, ob, fl, cl⟩ := V
  obtain ⟨i1, ⟨i2, i2b, i2c⟩, ⟨i3, i4, i5, i5b⟩, ⟨i6, i7, i8⟩, i9, i10, i11, i12⟩ := h
  have h5 : n 5 = 2 := h5
  obtain ⟨p1, p2, p3⟩ := i10 h5
  have p1 : 1 ≤ n 6 := p1
  have p2 : n 6 < n 4 := p2
  have i2b : n 4 ≤ 65 := i2b
  have hlen : fr.length ≤ c + 729 := hlen
  have hob : ob = [] := i9.1 (by show n 5 ≠ 1; omega) (by show n 5 ≠ 4; omega)
  obtain ⟨r1, r2, r3, r4⟩ := pushR_inv (V := (M, n, fr, ob, fl, cl)) hL i6 p1 p2 p3
  have hYc : (∃ f, (∃ q, q ∈ fr ∧ q.1 = f) ∧ (∀ q, q ∈ fr → q.1 ≤ f) ∧ wth M fr f = 0) → n 6 = 1 → manyF (pushR (M, n, fr, ob, fl, cl)).1 (n 6) = 0 ∧ ∃ f2, (∃ q, q ∈ (pushR (M, n, fr, ob, fl, cl)).1 ∧ q.1 = f2) ∧ (∀ q, q ∈ (pushR (M, n, fr, ob, fl, cl)).1 → q.1 ≤ f2) ∧ wth M (pushR (M, n, fr, ob, fl, cl)).1 f2 = 0 := by
    rintro ⟨f, y1, y2, y3⟩ e6
    have p3 : PC M (n 6) fr := p3
    rw [e6] at p3
    exact push_Y (V := (M, n, fr, ob, fl, cl)) hL i6 (show 1 < n 4 by omega) p3 e6 y1 y2 y3
  have hY : ∀ (n2 : Nat → Nat), (FI 139 fl ∨ (manyF (pushR (M, n, fr, ob, fl, cl)).1 (n 6) = 0 ∧ FI 141 fl ∧ ∃ f2, (∃ q, q ∈ (pushR (M, n, fr, ob, fl, cl)).1 ∧ q.1 = f2) ∧ (∀ q, q ∈ (pushR (M, n, fr, ob, fl, cl)).1 → q.1 ≤ f2) ∧ wth M (pushR (M, n, fr, ob, fl, cl)).1 f2 = 0)) := by
    intro _
    rcases i11 with hz | ⟨⟨f, y1, y2, y3, y4, y5⟩, hz⟩
    · exact Or.inl hz
    · obtain ⟨g1, g2⟩ := hYc ⟨f, y1, y2, y3⟩ (y5 h5)
      exact Or.inr ⟨g1, hz, g2⟩
  unfold pushV
  have r1 : CI M (n 4) (pushR (M, n, fr, ob, fl, cl)).1 := r1
  have r2 : rep (pushR (M, n, fr, ob, fl, cl)).1 ≤ rep fr := r2
  have i7 : rep fr ≤ c := i7
  have r3 : (pushR (M, n, fr, ob, fl, cl)).2.1 ≤ n 12 + fr.length := r3
  have r4 : manyF (pushR (M, n, fr, ob, fl, cl)).1 (n 6) ≠ 0 → n 6 ≤ 63 ∧ PC M (n 6 + 1) (pushR (M, n, fr, ob, fl, cl)).1 := r4
  have hY := hY n
  generalize pushR (M, n, fr, ob, fl, cl) = r at *
  show IV c (if manyF r.1 (n 6) = 0 then (M, va_up (va_up (va_up n 12 r.2.1) 14 r.2.2) 5 3, r.1, ob, fl, cl) else if n 6 + 1 = n 4 then (M, va_up (va_up (va_up (va_up n 12 r.2.1) 14 r.2.2) 6 (n 6 + 1)) 5 0, r.1, ob, fl, cl) else (M, va_up (va_up (va_up n 12 r.2.1) 14 r.2.2) 6 (n 6 + 1), r.1, ob, fl, cl)) ∧ (if manyF r.1 (n 6) = 0 then (M, va_up (va_up (va_up n 12 r.2.1) 14 r.2.2) 5 3, r.1, ob, fl, cl) else if n 6 + 1 = n 4 then (M, va_up (va_up (va_up (va_up n 12 r.2.1) 14 r.2.2) 6 (n 6 + 1)) 5 0, r.1, ob, fl, cl) else (M, va_up (va_up (va_up n 12 r.2.1) 14 r.2.2) 6 (n 6 + 1), r.1, ob, fl, cl)).2.1 10 ≤ n 10 + 8 ∧ (if manyF r.1 (n 6) = 0 then (M, va_up (va_up (va_up n 12 r.2.1) 14 r.2.2) 5 3, r.1, ob, fl, cl) else if n 6 + 1 = n 4 then (M, va_up (va_up (va_up (va_up n 12 r.2.1) 14 r.2.2) 6 (n 6 + 1)) 5 0, r.1, ob, fl, cl) else (M, va_up (va_up (va_up n 12 r.2.1) 14 r.2.2) 6 (n 6 + 1), r.1, ob, fl, cl)).2.1 12 ≤ n 12 + 2000 ∧ (if manyF r.1 (n 6) = 0 then (M, va_up (va_up (va_up n 12 r.2.1) 14 r.2.2) 5 3, r.1, ob, fl, cl) else if n 6 + 1 = n 4 then (M, va_up (va_up (va_up (va_up n 12 r.2.1) 14 r.2.2) 6 (n 6 + 1)) 5 0, r.1, ob, fl, cl) else (M, va_up (va_up (va_up n 12 r.2.1) 14 r.2.2) 6 (n 6 + 1), r.1, ob, fl, cl)).2.1 11 = n 11
  have h12 : r.2.1 ≤ n 12 + 2000 := by omega
  by_cases h0 : manyF r.1 (n 6) = 0
  · rw [if_pos h0]
    refine ⟨⟨i1, ⟨i2, i2b, fun z => ?_⟩, ⟨by show 3 < 5; omega, i4, i5, i5b⟩, ⟨r1, Nat.le_trans r2 i7, i8⟩, ?_, fun z => ?_, ?_, i12⟩, by show n 10 ≤ n 10 + 8; omega, h12, rfl⟩
    · have z : 3 < 2 ∨ 3 = 4 := z
      omega
    · subst hob
      exact ⟨fun _ _ => rfl, List.Pairwise.nil, fun q hq => (by cases hq), Nat.zero_le _, List.Pairwise.nil⟩
    · have z : 3 = 2 := z
      omega
    · rcases hY with hz | ⟨_, hz, f2, g1, g2, g3⟩
      · exact Or.inl hz
      · refine Or.inr ⟨⟨f2, g1, g2, g3, fun z => ?_, fun z => ?_⟩, hz⟩
        · have z : 3 < 2 := z
          omega
        · have z : 3 = 2 := z
          omega
  · rw [if_neg h0]
    obtain ⟨a1, a2⟩ := r4 h0
    have hF : FI 139 fl := by
      rcases hY with hz | ⟨hz, _⟩
      · exact hz
      · exact absurd hz h0
    by_cases h1 : n 6 + 1 = n 4
    · rw [if_pos h1]
      refine ⟨⟨i1, ⟨i2, i2b, fun _ => ?_⟩, ⟨by show 0 < 5; omega, i4, i5, by show n 6 + 1 ≤ 65; omega⟩, ⟨r1, Nat.le_trans r2 i7, i8⟩, ?_, fun z => ?_, Or.inl hF, i12⟩, by show n 10 ≤ n 10 + 8; omega, h12, rfl⟩
      · show n 4 ≤ 64
        omega
      · subst hob
        exact ⟨fun _ _ => rfl, List.Pairwise.nil, fun q hq => (by cases hq), Nat.zero_le _, List.Pairwise.nil⟩
      · have z : 0 = 2 := z
        omega
    · rw [if_neg h1]
      refine ⟨⟨i1, ⟨i2, i2b, fun z => ?_⟩, ⟨i3, i4, i5, by show n 6 + 1 ≤ 65; omega⟩, ⟨r1, Nat.le_trans r2 i7, i8⟩, ?_, fun _ => ⟨by show 1 ≤ n 6 + 1; omega, by show n 6 + 1 < n 4; omega, a2⟩, Or.inl hF, i12⟩, by show n 10 ≤ n 10 + 8; omega, h12, rfl⟩
      · have z : n 5 < 2 ∨ n 5 = 4 := z
        omega
      · subst hob
        exact ⟨fun _ _ => rfl, List.Pairwise.nil, fun q hq => (by cases hq), Nat.zero_le _, List.Pairwise.nil⟩
/-- a step keeps all this -/
theorem step_IV {c g : Nat} {V : Sv} (h : IV c V) (hn : NI g V.2.1) (h3 : V.2.1 5 < 3) : IV c (stepV V) ∧ NI (g + 1) (stepV V).2.1 := by
  have hg : IV c (gonV V) := h
  obtain ⟨n1, n2, n3⟩ := hn
  have e11 : (gonV V).2.1 11 = V.2.1 11 + 1 := rfl
  have e10 : (gonV V).2.1 10 = V.2.1 10 := rfl
  have e12 : (gonV V).2.1 12 = V.2.1 12 := rfl
  have key : IV c (stepV V) ∧ (stepV V).2.1 10 ≤ (gonV V).2.1 10 + 8 ∧ (stepV V).2.1 12 ≤ (gonV V).2.1 12 + 2000 ∧ (stepV V).2.1 11 = (gonV V).2.1 11 := by
    unfold stepV
    by_cases h0 : V.2.1 5 = 0
    · rw [if_pos h0]
      obtain ⟨k1, k2, k3, k4⟩ := seek_IV hg h0
      exact ⟨k1, k2, by omega, k4⟩
    · rw [if_neg h0]
      by_cases h1 : V.2.1 5 = 1
      · rw [if_pos h1]
        exact obl_IV hg h1
      · rw [if_neg h1]
        exact push_IV hg (by show V.2.1 5 = 2; omega)
  obtain ⟨k1, k2, k3, k4⟩ := key
  refine ⟨k1, ?_, ?_, ?_⟩
  · rw [k4, e11]; omega
  · rw [k4, e11]; omega
  · rw [k4, e11]; omega
theorem along_IV {c g k : Nat} (hg : g + k ≤ 1000000) : AlongC (fun j V => IV c V ∧ NI (g + j) V.2.1) k := by
  intro j V hj ⟨h, hn⟩
  have hL := IV_L h
  refine ⟨IV_Wk h hn (by omega), fun h5 => ?_, fun hjk h3 => ?_⟩
  · obtain ⟨p1, p2, p3⟩ := h.2.2.2.2.2.1 h5
    exact ⟨p1, p2, PC_HL hL h.2.2.2.1.1 p3⟩
  · obtain ⟨s1, s2⟩ := step_IV h hn h3
    exact ⟨s1, s2⟩
theorem steps_IV {c : Nat} : ∀ (k g : Nat) (V : Sv), IV c V → NI g V.2.1 → IV c (stepsV k V).2 ∧ NI (g + k) (stepsV k V).2.2.1 ∧ (stepsV k V).1 ≤ k := by
  intro k
  induction k with
  | zero => intro g V h hn; exact ⟨h, hn, Nat.le_refl _⟩
  | succ k ih =>
    intro g V h hn
    rw [stepsV]
    by_cases h3 : V.2.1 5 < 3
    · rw [if_pos h3]
      obtain ⟨s1, s2⟩ := step_IV h hn h3
      obtain ⟨i1, i2, i3⟩ := ih (g + 1) (stepV V) s1 s2
      refine ⟨i1, ?_, by show _ + 1 ≤ k + 1; omega⟩
      rw [show g + (k + 1) = g + 1 + k by omega]
      exact i2
    · rw [if_neg h3]
      obtain ⟨n1, n2, n3⟩ := hn
      exact ⟨h, ⟨by show V.2.1 11 ≤ g + (k + 1); omega, n2, n3⟩, by show 0 ≤ k + 1; omega⟩
