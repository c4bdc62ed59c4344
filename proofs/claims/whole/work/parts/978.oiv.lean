/-! WHAT HOLDS ALL ALONG: an obligation, a push, a step -/
theorem upF_inv {M : Mv} {fr : List Cu} {m b : Nat} : ∀ t up ak, (upF M fr m b t up ak).2 ≤ ak + t ∧ ((upF M fr m b t up ak).1 = up ∨ hld M fr m b ((upF M fr m b t up ak).1 - 1) = true) ∧ ((∀ g, hld M fr m b g = true) → (upF M fr m b t up ak).1 = up + t) := by
  intro t
  induction t with
  | zero => intro up ak; exact ⟨Nat.le_refl _, Or.inl rfl, fun _ => rfl⟩
  | succ t ih =>
    intro up ak
    rw [upF]
    by_cases h : hld M fr m b up = true
    · rw [if_pos h]
      obtain ⟨i1, i2, i3⟩ := ih (up + 1) (ak + 1)
      refine ⟨by omega, Or.inr ?_, fun hz => ?_⟩
      · rcases i2 with hz | hz
        · rw [hz]
          exact h
        · exact hz
      · rw [i3 hz]
        omega
    · rw [if_neg h]
      refine ⟨?_, Or.inl rfl, fun hz => absurd (hz up) h⟩
      show ak + 1 ≤ ak + (t + 1)
      omega
theorem all_hld {M : Mv} (hL : M.1 < 7) (fr : List Cu) (g : Nat) : hld M fr 0 0 g = true := by
  have h64 := p2_64 hL
  refine clsd_iff.mpr fun s hs _ hy => ?_
  have := cub_st (L := M.1) (m := 0) (st := s) hL hs
  rw [Nat.and_zero] at this
  rw [this] at hy
  cases hy
theorem OI_erase {M : Mv} {n : Nat → Nat} {fr fr2 : List Cu} {ob : List Ln} {Y Y2 : (Nat → UInt32) × List (Nat × Nat)} {n2 : Nat → Nat} (h : OI (M, n, fr, ob, Y)) (k : Nat) (h5 : n2 5 = 1) (h4 : n2 4 = n 4) (h10 : n2 10 = n 10) : OI (M, n2, fr2, ob.eraseIdx k, Y2) := by
  obtain ⟨o1, o2, o3, o4, o5⟩ := h
  have hsub : (ob.eraseIdx k).Sublist ob := List.eraseIdx_sublist _ _
  refine ⟨fun z => absurd h5 z, grow_erase o2 k, fun q hq => ?_, ?_, ?_⟩
  · obtain ⟨q1, q2, q3, q4, q5, q6⟩ := o3 q (hsub.subset hq)
    refine ⟨q1, ?_, q3, q4, ?_, q6⟩
    · show q.2.1 ≤ n2 4
      rw [h4]; exact q2
    · show q.2.2.1 ≤ n2 10
      rw [h10]; exact q5
  · show ((ob.eraseIdx k).filter fun q => decide (q.2.1 = n2 4)).length ≤ 8
    rw [h4]
    exact Nat.le_trans (hsub.filter _).length_le o4
  · show ((ob.eraseIdx k).filter fun q => decide (q.2.1 < n2 4)).Pairwise _
    rw [h4]
    exact List.Pairwise.sublist (hsub.filter _) o5
theorem OI_5 {M : Mv} {n n2 : Nat → Nat} {X : Xv} (h : OI (M, n, X)) (h5 : n2 5 = 1 ∨ n2 5 = 4 ∨ X.2.1 = []) (h4 : n2 4 = n 4) (h10 : n2 10 = n 10) : OI (M, n2, X) := by
  obtain ⟨o1, o2, o3, o4, o5⟩ := h
  refine ⟨fun z1 z2 => ?_, o2, fun q hq => ?_, ?_, ?_⟩
  · rcases h5 with hz | hz | hz
    · exact absurd hz z1
    · exact absurd hz z2
    · exact hz
  · obtain ⟨q1, q2, q3, q4, q5, q6⟩ := o3 q hq
    refine ⟨q1, ?_, q3, q4, ?_, q6⟩
    · show q.2.1 ≤ n2 4
      rw [h4]; exact q2
    · show q.2.2.1 ≤ n2 10
      rw [h10]; exact q5
  · show (X.2.1.filter fun q => decide (q.2.1 = n2 4)).length ≤ 8
    rw [h4]; exact o4
  · show (X.2.1.filter fun q => decide (q.2.1 < n2 4)).Pairwise _
    rw [h4]; exact o5
theorem obl_IV {c : Nat} {V : Sv} (h : IV c V) (h5 : V.2.1 5 = 1) : IV c (oblV V) ∧ (oblV V).2.1 10 ≤ V.2.1 10 + 8 ∧ (oblV V).2.1 12 ≤ V.2.1 12 + 2000 ∧ (oblV V).2.1 11 = V.2.1 11 := by
  have hL := IV_L h
  have h64 := p2_64 hL
  obtain ⟨M, n, fr, ob, fl, cl⟩ := V
  obtain ⟨i1, ⟨i2, i2b, i2c⟩, ⟨i3, i4, i5, i5b⟩, ⟨i6, i7, i8⟩, i9, i10, i11, i12⟩ := h
  have h5 : n 5 = 1 := h5
  have i2 : 1 ≤ n 4 := i2
  have h4b : n 4 ≤ 64 := i2c (Or.inl (by show n 5 < 2; omega))
  have i5b : n 6 ≤ 65 := i5b
  have o2 : Grow ob := i9.2.1
  have hY5 : ∀ (n2 : Nat → Nat), n2 4 = n 4 → n2 5 ≠ 2 → (FI 139 fl ∨ (YI (M, n, fr, ob, fl, cl) ∧ FI 141 fl)) → ∀ (ob2 : List Ln), (FI 139 fl ∨ (YI (M, n2, fr, ob2, fl, cl) ∧ FI 141 fl)) := by
    intro n2 e4 e5 hz ob2
    rcases hz with hz | ⟨⟨f, y1, y2, y3, y4, y5⟩, hz⟩
    · exact Or.inl hz
    · exact Or.inr ⟨⟨f, y1, y2, y3, fun _ => by show n2 4 = f; rw [e4]; exact y4 (by show n 5 < 2; omega), fun z => absurd z e5⟩, hz⟩
  unfold oblV
  generalize hR : (match bst (fun _ => true) ob ob.length with | none => (M, va_up n 5 0, fr, ob, fl, cl) | some k => match ob[k]? with | none => (M, n, fr, ob, fl, cl) | some q => if B M.2.2.1 q.1 then (M, va_up n 5 4, fr, ob, fl, cl) else if B (wth M fr q.2.1) q.1 then meetV (M, n, fr, ob, fl, cl) k q else (M, n, fr, ob.eraseIdx k, fl, cl)) = R
  show IV c _ ∧ (_ : Sv).2.1 10 ≤ n 10 + 8 ∧ (_ : Sv).2.1 12 ≤ n 12 + 2000 ∧ (_ : Sv).2.1 11 = n 11
  have hgoal : IV c R ∧ R.2.1 10 ≤ n 10 + 8 ∧ R.2.1 12 ≤ n 12 + 2000 ∧ R.2.1 11 = n 11 := by
    cases hb : bst (fun _ => true) ob ob.length with
    | none =>
      rw [hb] at hR
      have hR : (M, va_up n 5 0, fr, ob, fl, cl) = R := hR
      subst hR
      have hob : ob = [] := by
        cases ob with
        | nil => rfl
        | cons x t =>
          have := bst_none _ hb 0 x (by simp) rfl
          cases this
      refine ⟨⟨i1, ⟨i2, i2b, fun _ => h4b⟩, ⟨by show 0 < 5; omega, i4, i5, i5b⟩, ⟨i6, i7, i8⟩, OI_5 i9 (Or.inr (Or.inr hob)) rfl rfl, fun z => ?_, hY5 (va_up n 5 0) rfl (by show (0 : Nat) ≠ 2; omega) i11 ob, i12⟩, by show n 10 ≤ n 10 + 8; omega, by show n 12 ≤ n 12 + 2000; omega, rfl⟩
      have z : 0 = 2 := z
      omega
    | some k =>
      rw [hb] at hR
      have hk := (bst_lt _ ob _ k hb).2
      obtain ⟨q, hq, _, hmin⟩ := bst_some o2 ob.length k hb
      have hR : (match ob[k]? with | none => (M, n, fr, ob, fl, cl) | some q => if B M.2.2.1 q.1 then (M, va_up n 5 4, fr, ob, fl, cl) else if B (wth M fr q.2.1) q.1 then meetV (M, n, fr, ob, fl, cl) k q else (M, n, fr, ob.eraseIdx k, fl, cl)) = R := hR
      rw [hq] at hR
      have hR : (if B M.2.2.1 q.1 then (M, va_up n 5 4, fr, ob, fl, cl) else if B (wth M fr q.2.1) q.1 then meetV (M, n, fr, ob, fl, cl) k q else (M, n, fr, ob.eraseIdx k, fl, cl)) = R := hR
      obtain ⟨q1, q2, q3, q4, q5, q6⟩ := i9.2.2.1 q (List.mem_of_getElem? hq)
      have q1 : q.1 < 2 ^ M.1 := q1
      have q2 : q.2.1 ≤ n 4 := q2
      have q3 : q.2.1 = 0 → B M.2.2.1 q.1 = true := q3
      have q5 : q.2.2.1 ≤ n 10 := q5
      cases hi : B M.2.2.1 q.1 with
      | true =>
        rw [hi, if_pos rfl] at hR
        subst hR
        refine ⟨⟨i1, ⟨i2, i2b, fun _ => h4b⟩, ⟨by show 4 < 5; omega, i4, i5, i5b⟩, ⟨i6, i7, i8⟩, OI_5 i9 (Or.inr (Or.inl rfl)) rfl rfl, fun z => ?_, ?_, i12⟩, by show n 10 ≤ n 10 + 8; omega, by show n 12 ≤ n 12 + 2000; omega, rfl⟩
        · have z : 4 = 2 := z
          omega
        · exact hY5 (va_up n 5 4) rfl (by show (4 : Nat) ≠ 2; omega) i11 ob
      | false =>
        rw [hi, if_neg (by decide)] at hR
        have hlv : 0 < q.2.1 := Nat.pos_of_ne_zero fun e => by rw [q3 e] at hi; cases hi
        cases hw : B (wth M fr q.2.1) q.1 with
        | false =>
          rw [hw, if_neg (by decide)] at hR
          subst hR
          refine ⟨⟨i1, ⟨i2, i2b, fun _ => h4b⟩, ⟨i3, i4, i5, i5b⟩, ⟨i6, i7, i8⟩, OI_erase i9 k h5 rfl rfl, i10, hY5 n rfl (by omega) i11 _, i12⟩, by show n 10 ≤ n 10 + 8; omega, by show n 12 ≤ n 12 + 2000; omega, rfl⟩
        | true =>
          rw [hw, if_pos rfl] at hR
          have hF : FI 139 fl := by
            rcases i11 with hz | ⟨⟨f, y1, y2, y3, y4, y5⟩, hz⟩
            · exact hz
            · exfalso
              have hf : n 4 = f := y4 (by show n 5 < 2; omega)
              have := wth_mono (M := M) (fr := fr) hlv q2 (show q.1 < 64 by omega) hw
              rw [hf] at this
              have y3 : wth M fr f = 0 := y3
              rw [y3, B_0] at this
              cases this
          unfold meetV at hR
          have hR : (match lowS (ahdS M q.1 (wth M fr (q.2.1 - 1))) with | some s => (M, va_up (va_up n 12 (n 12 + 1)) 10 (n 10 + 1), fr, ob ++ [(s, q.2.1 - 1, n 10 + 1, q.2.2.1)], fl, cl) | none => barV (M, va_up n 12 (n 12 + 1), fr, ob, fl, cl) k q) = R := hR
          cases hah : lowS (ahdS M q.1 (wth M fr (q.2.1 - 1))) with
          | some s =>
            rw [hah] at hR
            have hR : (M, va_up (va_up n 12 (n 12 + 1)) 10 (n 10 + 1), fr, ob ++ [(s, q.2.1 - 1, n 10 + 1, q.2.2.1)], fl, cl) = R := hR
            subst hR
            obtain ⟨s1, s2⟩ := lowS_lt hah
            unfold ahdS at s2
            rw [B_mkS _ s1] at s2
            simp only [Bool.and_eq_true, decide_eq_true_eq] at s2
            have hlev : ∀ r, r ∈ ob → q.2.1 ≤ r.2.1 := by
              intro r hr
              obtain ⟨i, hi2⟩ := List.getElem?_of_mem hr
              rcases hmin i r (List.getElem?_eq_some_iff.mp hi2).1 hi2 rfl with hz | hz
              · subst hz
                rw [hq] at hi2
                have : q = r := by simpa using hi2
                rw [this]
                exact Nat.le_refl _
              · rw [erl_iff] at hz
                omega
            refine ⟨⟨i1, ⟨i2, i2b, fun _ => h4b⟩, ⟨i3, i4, i5, i5b⟩, ⟨i6, i7, i8⟩, ⟨fun z => absurd h5 z, grow_add o2 (fun r hr => ?_), fun r hr => ?_, ?_, ?_⟩, i10, Or.inl hF, i12⟩, by show n 10 + 1 ≤ n 10 + 8; omega, by show n 12 + 1 ≤ n 12 + 2000; omega, rfl⟩
            · have := (i9.2.2.1 r hr).2.2.2.2.1
              have this : r.2.2.1 ≤ n 10 := this
              show r.2.2.1 < n 10 + 1
              omega
            · rcases List.mem_append.mp hr with hz | hz
              · obtain ⟨r1, r2, r3, r4, r5, r6⟩ := i9.2.2.1 r hz
                have r5 : r.2.2.1 ≤ n 10 := r5
                exact ⟨r1, r2, r3, r4, by show r.2.2.1 ≤ n 10 + 1; omega, r6⟩
              · have : r = (s, q.2.1 - 1, n 10 + 1, q.2.2.1) := by simpa using hz
                subst this
                refine ⟨s2.1.1.1, by show q.2.1 - 1 ≤ n 4; omega, fun z0 => ?_, by show 1 ≤ n 10 + 1; omega, Nat.le_refl _, by show q.2.2.1 < n 10 + 1; omega⟩
                have z0 : q.2.1 - 1 = 0 := z0
                have := s2.1.2
                rw [z0] at this
                exact this
            · show ((ob ++ [(s, q.2.1 - 1, n 10 + 1, q.2.2.1)]).filter fun r => decide (r.2.1 = n 4)).length ≤ 8
              have hn4 : ¬ q.2.1 - 1 = n 4 := by omega
              rw [List.filter_append]
              have e1 : [(s, q.2.1 - 1, n 10 + 1, q.2.2.1)].filter (fun r => decide (r.2.1 = n 4)) = [] := by simp [hn4]
              rw [e1, List.append_nil]
              exact i9.2.2.2.1
            · show ((ob ++ [(s, q.2.1 - 1, n 10 + 1, q.2.2.1)]).filter fun r => decide (r.2.1 < n 4)).Pairwise _
              have hlt : q.2.1 - 1 < n 4 := by omega
              rw [List.filter_append]
              have e1 : [(s, q.2.1 - 1, n 10 + 1, q.2.2.1)].filter (fun r => decide (r.2.1 < n 4)) = [(s, q.2.1 - 1, n 10 + 1, q.2.2.1)] := by simp [hlt]
              rw [e1]
              refine List.pairwise_append.mpr ⟨i9.2.2.2.2, List.pairwise_singleton _ _, fun a ha b hb => ?_⟩
              have : b = (s, q.2.1 - 1, n 10 + 1, q.2.2.1) := by simpa using hb
              subst this
              have := hlev a (List.mem_filter.mp ha).1
              show q.2.1 - 1 < a.2.1
              omega
          | none =>
            rw [hah] at hR
            have hR : barV (M, va_up n 12 (n 12 + 1), fr, ob, fl, cl) k q = R := hR
            unfold barV at hR
            have hbU : barU (M, va_up n 12 (n 12 + 1), fr, ob, fl, cl) q = upF M fr (barW (M, va_up n 12 (n 12 + 1), fr, ob, fl, cl) q).1 (q.1 &&& (barW (M, va_up n 12 (n 12 + 1), fr, ob, fl, cl) q).1) (n 4 - q.2.1) q.2.1 (barW (M, va_up n 12 (n 12 + 1), fr, ob, fl, cl) q).2 := rfl
            rw [hbU] at hR
            have est : q.1 &&& (2 ^ M.1 - 1) = q.1 := by rw [Nat.and_two_pow_sub_one_eq_mod, Nat.mod_eq_of_lt q1]
            have hini0 : cubS M.1 (2 ^ M.1 - 1) (q.1 &&& (2 ^ M.1 - 1)) &&& M.2.2.1 = 0 := by
              rw [est]
              refine B_ext0 fun s hs => ?_
              rw [B_and]
              by_cases hsl : s < 2 ^ M.1
              · rw [cub_one hL q1 hsl]
                by_cases he : s = q.1
                · rw [he, hi]; simp
                · simp [he]
              · rw [cub_hi hL hs hsl]; rfl
            have hh0 : hld M fr (2 ^ M.1 - 1) (q.1 &&& (2 ^ M.1 - 1)) (q.2.1 - 1) = true := by
              rw [est]
              exact one_hld hL q1 hah
            obtain ⟨w1, w2, w3⟩ := widF_inv (M := M) (fr := fr) (st := q.1) (lv := q.2.1 - 1) (ordL (kkf (n 15) fl) M.1) (2 ^ M.1 - 1, n 12 + 1) hini0 hh0
            have wle := widF_le M fr q.1 (q.2.1 - 1) (ordL (kkf (n 15) fl) M.1) (2 ^ M.1 - 1, n 12 + 1)
            have hbW : barW (M, va_up n 12 (n 12 + 1), fr, ob, fl, cl) q = (ordL (kkf (n 15) fl) M.1).foldl (widS M fr q.1 (q.2.1 - 1)) (2 ^ M.1 - 1, n 12 + 1) := rfl
            rw [hbW] at hR
            rw [ordL_len] at w3
            generalize (ordL (kkf (n 15) fl) M.1).foldl (widS M fr q.1 (q.2.1 - 1)) (2 ^ M.1 - 1, n 12 + 1) = w at hR w1 w2 w3 wle
            have wlt : w.1 < 2 ^ M.1 := by
              have : w.1 ≤ 2 ^ M.1 - 1 := wle
              have := Nat.two_pow_pos M.1
              omega
            have w3 : w.2 ≤ n 12 + 1 + M.1 := w3
            have hL6 : M.1 < 7 := hL
            obtain ⟨u1, u2, u3⟩ := upF_inv (M := M) (fr := fr) (m := w.1) (b := q.1 &&& w.1) (n 4 - q.2.1) q.2.1 w.2
            have hup := upF_le M fr w.1 (q.1 &&& w.1) (n 4 - q.2.1) q.2.1 w.2
            generalize upF M fr w.1 (q.1 &&& w.1) (n 4 - q.2.1) q.2.1 w.2 = u at hR u1 u2 u3 hup
            have hbv : (q.1 &&& w.1) &&& w.1 = q.1 &&& w.1 := by rw [Nat.and_assoc, Nat.and_self]
            have hR : (M, va_up (va_up (va_up n 12 (n 12 + 1)) 12 u.2) 13 (n 13 + 1), addC fr u.1 w.1 (q.1 &&& w.1), ob.eraseIdx k, bumpF M.1 w.1 fl, cl) = R := hR
            subst hR
            have hhu : hld M fr w.1 (q.1 &&& w.1) (u.1 - 1) = true := by
              rcases u2 with hz | hz
              · rw [hz]; exact w2
              · exact hz
            have hCI : CI M (n 4) (addC fr u.1 w.1 (q.1 &&& w.1)) := CI_add (t := n 4) hL i6 (by omega) (by omega) (by omega) wlt hbv w1 hhu
            have hrep : rep (addC fr u.1 w.1 (q.1 &&& w.1)) ≤ c := by
              refine Nat.le_trans (rep_new (fun r hr hr2 => ?_) hbv) i7
              refine Nat.le_of_not_lt fun hlt => ?_
              have hst := cub_st (L := M.1) (m := w.1) hL q1
              have := ((wth_iff hlv (show q.1 < 64 by omega)).mp hw).2 r hr (by omega)
              rw [hr2] at this
              have this : B (cubS M.1 w.1 (q.1 &&& w.1)) q.1 = false := this
              rw [hst] at this
              cases this
            refine ⟨⟨i1, ⟨i2, i2b, fun _ => h4b⟩, ⟨i3, i4, i5, i5b⟩, ⟨hCI, hrep, i8⟩, OI_erase i9 k h5 rfl rfl, fun z => ?_, ?_, i12⟩, by show n 10 ≤ n 10 + 8; omega, ?_, rfl⟩
            · have z : n 5 = 2 := z
              omega
            · show FI 139 (bumpF M.1 w.1 fl) ∨ _
              by_cases hm0 : w.1 = 0
              · refine Or.inr ⟨?_, ?_⟩
                · have hu4 : u.1 = n 4 := by
                    rw [u3 fun g => by rw [hm0, Nat.and_zero]; exact all_hld hL fr g]
                    omega
                  refine ⟨n 4, ⟨(u.1, w.1, q.1 &&& w.1), addC_iff.mpr (Or.inr rfl), hu4⟩, fun r hr => (hCI r hr).2.1, ?_, fun _ => rfl, fun z => ?_⟩
                  · show wth M (addC fr u.1 w.1 (q.1 &&& w.1)) (n 4) = 0
                    refine B_ext0 fun s hs => ?_
                    rw [wth_add hL (by omega) (by omega) hs]
                    by_cases hsl : s < 2 ^ M.1
                    · have := cub_st (L := M.1) (m := 0) hL hsl
                      rw [Nat.and_zero] at this
                      rw [hm0, Nat.and_zero, this]
                      simp
                    · cases hb9 : B (wth M fr (n 4)) s with
                      | false => rfl
                      | true => exact absurd ((wth_iff (by omega) hs).mp hb9).1 hsl
                  · have z : n 5 = 2 := z
                    omega
                · show FI 141 (bumpF M.1 w.1 fl)
                  rw [hm0]
                  exact FI_bump0 hL hF
              · exact Or.inl (FI_bump hL wlt hm0 hF)
            · show u.2 ≤ n 12 + 2000
              omega
  rw [← hR] at hgoal
  exact hgoal
