/-! FORMS: the reference's loop does what the descent does -/
/-- it ends with a fault -/
def EndF (c : Ce) (m : Nat) (μ : MS) (f : Nat → Nat) (n j : Nat) (s0 : Int32 × Ce) (e : Nat × Nat) : Prop := ∃ ν s, KG μ ν ∧ Run m (e.2 - j) s0 s ∧ fbd m s = some (.inr (.inl (nI e.1), wr c m ν)) ∧ At ν f n e.2 ∧ j ≤ e.2 ∧ e.2 ≤ 300 ∧ 0 < e.1 ∧ e.1 < 7
/-- it comes to a value -/
def EndV (c : Ce) (m : Nat) (μ : MS) (f : Nat → Nat) (n j : Nat) (s0 : Int32 × Ce) (r : Nat) (os : List Nat) (vs : List (Nat → Int64)) (d : Nat) (y : (Nat → Int64) × Nat) : Prop := ∃ ν os2 vs2 d2, KG μ ν ∧ Run m (y.2 - j) s0 (1, wr c m ν) ∧ St ν f n y.2 vs2 os2 d2 ∧ Stl (r + 1) os2 vs2 d2 os (y.1 :: vs) d ∧ os2.length ≤ 79 ∧ vs2.length ≤ 39 ∧ (∀ o, o ∈ os2 → o < 256) ∧ y.2 ≤ 300
theorem EndF_go {c : Ce} {m : Nat} {μ ν : MS} {f : Nat → Nat} {n j k : Nat} {s0 s1 : Int32 × Ce} {e : Nat × Nat} (hk : KG μ ν) (hr : Run m (k - j) s0 s1) (hjk : j ≤ k) (h : EndF c m ν f n k s1 e) : EndF c m μ f n j s0 e := by
  obtain ⟨ρ, s, a1, a2, a3, a4, a5, a6, a7⟩ := h
  refine ⟨ρ, s, KG_trans hk a1, ?_, a3, a4, by omega, a6, a7⟩
  have := Run_tr _ _ _ _ _ hr a2
  rw [show k - j + (e.2 - k) = e.2 - j by omega] at this
  exact this
theorem EndV_go {c : Ce} {m : Nat} {μ ν : MS} {f : Nat → Nat} {n j k r : Nat} {s0 s1 : Int32 × Ce} {os : List Nat} {vs : List (Nat → Int64)} {d : Nat} {y : (Nat → Int64) × Nat} (hk : KG μ ν) (hr : Run m (k - j) s0 s1) (hjk : j ≤ k) (hky : k ≤ y.2) (h : EndV c m ν f n k s1 r os vs d y) : EndV c m μ f n j s0 r os vs d y := by
  obtain ⟨ρ, os2, vs2, d2, a1, a2, a3⟩ := h
  refine ⟨ρ, os2, vs2, d2, KG_trans hk a1, ?_, a3⟩
  have := Run_tr _ _ _ _ _ hr a2
  rw [show k - j + (y.2 - k) = y.2 - j by omega] at this
  exact this
theorem Run_1 {m : Nat} {s u : Int32 × Ce} (j : Nat) (h : fbd m s = some (.inl u)) : Run m (j + 1 - j) s u := by
  rw [show j + 1 - j = 1 by omega]
  exact ⟨u, h, rfl⟩
theorem jn_rank {r : Nat} (h : r < 3) : rank (jn r) = r + 1 ∧ jn r ≠ 33 ∧ (jn r = 38 ∨ jn r = 94 ∨ jn r = 124) := by
  rcases r with _ | _ | _ | r
  · decide
  · decide
  · decide
  · omega
theorem lp_le {K V : Nat → Nat} {b : Nat} {sub : Nat → PR} (hs : ∀ j y, sub j = .inr y → j < y.2) : ∀ s x j y, lp K V b sub s x j = .inr y → j ≤ y.2 := by
  intro s
  induction s with
  | zero =>
    intro x j y h
    rw [lp] at h
    cases h
    exact Nat.le_refl _
  | succ s ih =>
    intro x j y h
    rw [lp] at h
    by_cases hc : K j = 5 ∧ V j = b
    · rw [if_pos hc] at h
      generalize hw : sub (j + 1) = w at h
      cases w with
      | inl e => cases h
      | inr w =>
        have a1 := hs _ _ hw
        have b1 := ih _ _ _ h
        omega
    · rw [if_neg hc] at h
      cases h
      exact Nat.le_refl _
/-- what a fuel's descent is worth to the reference -/
def LBd (c : Ce) (m : Nat) (f : Nat → Nat) (n L : Nat) (nx : Bool) (t : Nat) : Prop := ∀ r d j vs os μ, r ≤ 4 → d ≤ 10 → 5 * (10 - d) + (4 - r) + 1 ≤ t → St μ f n j vs os d → μ.2.2.2 10 = nI L → μ.2.2.2 11 = (if nx = true then 1 else 0) → vs.length ≤ 3 * d + min r 3 → os.length ≤ 4 * d + min r 3 → (∀ o, o ∈ os → o < 256) → j ≤ 300 → (r < 4 → top os ≤ r) → (∀ e, pF (tK f n) (tV f n) L nx t r d j = .inl e → EndF c m μ f n j (0, wr c m μ) e) ∧ (∀ y, pF (tK f n) (tV f n) L nx t r d j = .inr y → r < 4 → EndV c m μ f n j (0, wr c m μ) r os vs d y) ∧ (∀ y, pF (tK f n) (tV f n) L nx t r d j = .inr y → r = 4 → y.2 ≤ 300 ∧ ∀ os2 vs2 d2, Stl 4 os (y.1 :: vs) d os2 vs2 d2 → ∃ ν, KG μ ν ∧ Run m (y.2 - j) (0, wr c m μ) (1, wr c m ν) ∧ St ν f n y.2 vs2 os2 d2)
theorem sr_lp {c : Ce} {m : Nat} {f : Nat → Nat} {n L t : Nat} {nx : Bool} (hn : n ≤ 300) (ih : LBd c m f n L nx t) {r d : Nat} (hr : r < 3) (hd : d ≤ 10) (ht : 5 * (10 - d) + (4 - (r + 1)) + 1 ≤ t) {vs : List (Nat → Int64)} {os : List Nat} (hv : vs.length ≤ 3 * d + r) (ho : os.length ≤ 4 * d + r) (hb : ∀ o, o ∈ os → o < 256) (htop : top os ≤ r) : ∀ s x j (μ : MS) os1 vs1 d1, St μ f n j vs1 os1 d1 → μ.2.2.2 10 = nI L → μ.2.2.2 11 = (if nx = true then 1 else 0) → Stl (r + 1) os1 vs1 d1 os (x :: vs) d → os1.length ≤ 79 → vs1.length ≤ 39 → (∀ o, o ∈ os1 → o < 256) → j ≤ 300 → (∀ e, lp (tK f n) (tV f n) (jn r) (fun k => pF (tK f n) (tV f n) L nx t (r + 1) d k) s x j = .inl e → EndF c m μ f n j (1, wr c m μ) e) ∧ (∀ y, lp (tK f n) (tV f n) (jn r) (fun k => pF (tK f n) (tV f n) L nx t (r + 1) d k) s x j = .inr y → EndV c m μ f n j (1, wr c m μ) r os vs d y) := by
  obtain ⟨g1, g2, g3⟩ := jn_rank hr
  intro s
  induction s with
  | zero =>
    intro x j μ os1 vs1 d1 hS hL hx hst h1 h2 h3 hj
    refine ⟨fun e h => ?_, fun y h => ?_⟩
    · rw [lp] at h
      cases h
    · rw [lp] at h
      cases h
      refine ⟨μ, os1, vs1, d1, KG_refl μ, ?_, hS, hst, h1, h2, h3, hj⟩
      show Run m (j - j) _ _
      rw [Nat.sub_self]
      rfl
  | succ s ihs =>
    intro x j μ os1 vs1 d1 hS hL hx hst h1 h2 h3 hj
    rw [lp]
    by_cases hc : tK f n j = 5 ∧ tV f n j = jn r
    · rw [if_pos hc]
      have hj2 : j + 1 ≤ 300 := by
        refine Classical.byContradiction fun z => ?_
        have := tK_300 (f := f) hn j (by omega)
        omega
      obtain ⟨ν, a1, a2, a3⟩ := fb_btw c m hS h2 h1 h3 hc.1 (by rw [hc.2]; exact g3) (by rw [hc.2, g1]; exact hst) (by omega)
      rw [hc.2] at a3
      have hmr : min (r + 1) 3 = r + 1 := by omega
      have sub := ih (r + 1) d (j + 1) (x :: vs) (jn r :: os) ν (by omega) hd ht a3 ((a2.2.2.2 10 (by omega)).trans hL) ((a2.2.2.2 11 (by omega)).trans hx) (by rw [List.length_cons, hmr]; omega) (by rw [List.length_cons, hmr]; omega) (fun o ho => by
        rcases List.mem_cons.mp ho with e | e
        · omega
        · exact hb o e) hj2 (fun _ => by show rank (jn r) ≤ _; omega)
      have hR := Run_1 j a1
      generalize hw : pF (tK f n) (tV f n) L nx t (r + 1) d (j + 1) = w
      cases w with
      | inl w =>
        refine ⟨fun e h => ?_, fun y h => (by cases h)⟩
        cases h
        exact EndF_go a2 hR (by omega) (sub.1 _ hw)
      | inr w =>
        obtain ⟨ρ, os2, vs2, d2, b1, b2, b3, b4, b5, b6, b7, b8⟩ := sub.2.1 w hw (by omega)
        have hlt := (pF_r (tK_300 (f := f) hn) _ _ _ _ _ hw).1
        have hst2 : Stl (r + 1) os2 vs2 d2 os (bop (jn r) x w.1 :: vs) d := Stl_go (a := r + 1 + 1) (by omega) _ _ _ b4 (Or.inr (Or.inr ⟨by omega, g2, w.1, x, vs, rfl, Stl_id (by omega) _ _ _ (by omega)⟩))
        have k2 := KG_trans a2 b1
        have nx := ihs (bop (jn r) x w.1) w.2 ρ os2 vs2 d2 b3 ((k2.2.2.2 10 (by omega)).trans hL) ((k2.2.2.2 11 (by omega)).trans hx) hst2 b5 b6 b7 b8
        have hR2 : Run m (w.2 - j) (1, wr c m μ) (1, wr c m ρ) := by
          have := Run_tr _ _ _ _ _ hR b2
          rw [show j + 1 - j + (w.2 - (j + 1)) = w.2 - j by omega] at this
          exact this
        refine ⟨fun e h => EndF_go k2 hR2 (by omega) (nx.1 e h), fun y h => ?_⟩
        refine EndV_go k2 hR2 (by omega) ?_ (nx.2 y h)
        exact lp_le (fun k y hk => (pF_r (tK_300 (f := f) hn) _ _ _ _ _ hk).1) _ _ _ _ h
    · rw [if_neg hc]
      refine ⟨fun e h => (by cases h), fun y h => ?_⟩
      cases h
      refine ⟨μ, os1, vs1, d1, KG_refl μ, ?_, hS, hst, h1, h2, h3, hj⟩
      show Run m (j - j) _ _
      rw [Nat.sub_self]
      rfl
theorem sr_LB {c : Ce} {m : Nat} {f : Nat → Nat} {n L : Nat} {nx : Bool} (hn : n ≤ 300) (hL6 : L ≤ 6) : ∀ t, LBd c m f n L nx t := by
  intro t
  induction t with
  | zero =>
    intro r d j vs os μ h1 h2 h3
    omega
  | succ t ih =>
    intro r d j vs os μ hr hd ht hS hL hx hv ho hb hj htop
    rw [pF]
    by_cases r3 : r < 3
    · rw [if_pos r3]
      have hmr : min r 3 = r := by omega
      have hmr2 : min (r + 1) 3 = r + 1 := by omega
      rw [hmr] at hv ho
      have htp := htop (by omega)
      have sub := ih (r + 1) d j vs os μ (by omega) hd (by omega) hS hL hx (by omega) (by omega) hb hj (fun _ => by omega)
      generalize hw : pF (tK f n) (tV f n) L nx t (r + 1) d j = w
      cases w with
      | inl w =>
        refine ⟨fun e h => ?_, fun y h => (by cases h), fun y h => (by cases h)⟩
        cases h
        exact sub.1 _ hw
      | inr w =>
        obtain ⟨ρ, os2, vs2, d2, b1, b2, b3, b4, b5, b6, b7, b8⟩ := sub.2.1 w hw (by omega)
        have hlt := (pF_r (tK_300 (f := f) hn) _ _ _ _ _ hw).1
        have hst2 : Stl (r + 1) os2 vs2 d2 os (w.1 :: vs) d := Stl_go (a := r + 1 + 1) (by omega) _ _ _ b4 (Stl_id (by omega) _ _ _ (by omega))
        have nxt := sr_lp hn ih r3 hd (by omega) hv ho hb htp 300 w.1 w.2 ρ os2 vs2 d2 b3 ((b1.2.2.2 10 (by omega)).trans hL) ((b1.2.2.2 11 (by omega)).trans hx) hst2 b5 b6 b7 b8
        refine ⟨fun e h => EndF_go b1 b2 (by omega) (nxt.1 e h), fun y h _ => EndV_go b1 b2 (by omega) (lp_le (fun k y hk => (pF_r (tK_300 (f := f) hn) _ _ _ _ _ hk).1) _ _ _ _ h) (nxt.2 y h), fun y h h4 => by omega⟩
    · rw [if_neg r3]
      have hmr : min r 3 = 3 := by omega
      rw [hmr] at hv ho
      by_cases r4 : r = 3
      · rw [if_pos r4]
        have htp := htop (by omega)
        have sub := ih 4 d j vs os μ (by omega) hd (by omega) hS hL hx (by omega) (by omega) hb hj (fun h => by omega)
        refine ⟨sub.1, fun y h _ => ?_, fun y h h4 => by omega⟩
        obtain ⟨z1, z2⟩ := sub.2.2 y h rfl
        obtain ⟨ν, a1, a2, a3⟩ := z2 os (y.1 :: vs) d (Stl_id (by omega) _ _ _ (by omega))
        exact ⟨ν, os, y.1 :: vs, d, a1, a2, a3, Stl_id (by omega) _ _ _ (by omega), by omega, by rw [List.length_cons]; omega, hb, z1⟩
      · rw [if_neg r4]
        have h300 : tK f n j ≠ 0 → j + 1 ≤ 300 := fun h => by
          refine Classical.byContradiction fun z => h (tK_300 (f := f) hn j (by omega))
        by_cases e33 : tK f n j = 5 ∧ tV f n j = 33
        · rw [if_pos e33]
          by_cases hd10 : d < 10
          · rw [if_pos hd10]
            obtain ⟨ν, a1, a2, a3⟩ := fb_open c m hS (by omega) hd10 e33.1 (Or.inr e33.2)
            rw [e33.2] at a3
            have sub := ih 4 (d + 1) (j + 1) vs (33 :: os) ν (by omega) (by omega) (by omega) a3 ((a2.2.2.2 10 (by omega)).trans hL) ((a2.2.2.2 11 (by omega)).trans hx) (by omega) (by rw [List.length_cons]; omega) (fun o ho => by
              rcases List.mem_cons.mp ho with e | e
              · omega
              · exact hb o e) (h300 (by omega)) (fun h => by omega)
            have hR := Run_1 j a1
            generalize hw : pF (tK f n) (tV f n) L nx t 4 (d + 1) (j + 1) = w
            cases w with
            | inl w =>
              refine ⟨fun e h => ?_, fun y h => (by cases h), fun y h => (by cases h)⟩
              cases h
              exact EndF_go a2 hR (by omega) (sub.1 _ hw)
            | inr w =>
              refine ⟨fun e h => (by cases h), fun y h h4 => by omega, fun y h _ => ?_⟩
              cases h
              obtain ⟨z1, z2⟩ := sub.2.2 w hw rfl
              have hlt := (pF_r (tK_300 (f := f) hn) _ _ _ _ _ hw).1
              refine ⟨z1, fun os2 vs2 d2 hst => ?_⟩
              obtain ⟨ρ, b1, b2, b3⟩ := z2 os2 vs2 d2 (Or.inr (Or.inl ⟨by decide, rfl, w.1, vs, d, rfl, rfl, hst⟩))
              refine ⟨ρ, KG_trans a2 b1, ?_, b3⟩
              have := Run_tr _ _ _ _ _ hR b2
              rw [show j + 1 - j + (w.2 - (j + 1)) = w.2 - j by omega] at this
              exact this
          · rw [if_neg hd10]
            refine ⟨fun e h => ?_, fun y h => (by cases h), fun y h => (by cases h)⟩
            cases h
            refine ⟨μ, _, KG_refl μ, ?_, fb_open6 c m hS (by omega) e33.1 (Or.inr e33.2), hS.2.1, Nat.le_refl _, hj, Nat.le_of_ble_eq_true rfl, Nat.le_of_ble_eq_true rfl⟩
            show Run m (j - j) _ _
            rw [Nat.sub_self]
            rfl
        · rw [if_neg e33]
          by_cases e40 : tK f n j = 5 ∧ tV f n j = 40
          · rw [if_pos e40]
            by_cases hd10 : d < 10
            · rw [if_pos hd10]
              obtain ⟨ν, a1, a2, a3⟩ := fb_open c m hS (by omega) hd10 e40.1 (Or.inl e40.2)
              rw [e40.2] at a3
              have sub := ih 0 (d + 1) (j + 1) vs (40 :: os) ν (by omega) (by omega) (by omega) a3 ((a2.2.2.2 10 (by omega)).trans hL) ((a2.2.2.2 11 (by omega)).trans hx) (by omega) (by rw [List.length_cons]; omega) (fun o ho => by
                rcases List.mem_cons.mp ho with e | e
                · omega
                · exact hb o e) (h300 (by omega)) (fun h => by show rank 40 ≤ 0; decide)
              have hR := Run_1 j a1
              generalize hw : pF (tK f n) (tV f n) L nx t 0 (d + 1) (j + 1) = w
              cases w with
              | inl w =>
                refine ⟨fun e h => ?_, fun y h => (by cases h), fun y h => (by cases h)⟩
                cases h
                exact EndF_go a2 hR (by omega) (sub.1 _ hw)
              | inr w =>
                obtain ⟨ρ, os2, vs2, d2, b1, b2, b3, b4, b5, b6, b7, b8⟩ := sub.2.1 w hw (by omega)
                obtain ⟨hlt, hnb⟩ := pF_r (tK_300 (f := f) hn) _ _ _ _ _ hw
                have hnb2 : ¬ (tK f n w.2 = 5 ∧ (tV f n w.2 = 38 ∨ tV f n w.2 = 94 ∨ tV f n w.2 = 124)) := fun z => by
                  rcases z with ⟨z1, z2 | z2 | z2⟩
                  · exact hnb 2 (by omega) (by omega) ⟨z1, z2⟩
                  · exact hnb 1 (by omega) (by omega) ⟨z1, z2⟩
                  · exact hnb 0 (by omega) (by omega) ⟨z1, z2⟩
                obtain ⟨q1, q2, q3⟩ := fb_end c m b3 b6 b5 b7 hnb2 b4 (by omega) (by rw [List.length_cons]; omega) (by rw [List.length_cons]; omega) (fun o ho => by
                  rcases List.mem_cons.mp ho with e | e
                  · omega
                  · exact hb o e)
                have k2 := KG_trans a2 b1
                have hR2 : Run m (w.2 - j) (0, wr c m μ) (1, wr c m ρ) := by
                  have := Run_tr _ _ _ _ _ hR b2
                  rw [show j + 1 - j + (w.2 - (j + 1)) = w.2 - j by omega] at this
                  exact this
                show (∀ e, (if tK f n w.2 = 5 ∧ tV f n w.2 = 41 then (Sum.inr (w.1, w.2 + 1) : PR) else .inl (1, w.2)) = .inl e → _) ∧ (∀ y, (if tK f n w.2 = 5 ∧ tV f n w.2 = 41 then (Sum.inr (w.1, w.2 + 1) : PR) else .inl (1, w.2)) = .inr y → _) ∧ (∀ y, (if tK f n w.2 = 5 ∧ tV f n w.2 = 41 then (Sum.inr (w.1, w.2 + 1) : PR) else .inl (1, w.2)) = .inr y → _)
                by_cases e41 : tK f n w.2 = 5 ∧ tV f n w.2 = 41
                · rw [if_pos e41]
                  refine ⟨fun e h => (by cases h), fun y h h4 => by omega, fun y h _ => ?_⟩
                  cases h
                  refine ⟨?_, fun os3 vs3 d3 hst => ?_⟩
                  · refine Classical.byContradiction fun z => ?_
                    have h1 : 300 ≤ w.2 := by
                      have z : ¬ w.2 + 1 ≤ 300 := z
                      omega
                    have := tK_300 (f := f) hn w.2 h1
                    omega
                  · obtain ⟨σ, c1, c2, c3⟩ := q3 40 os d os3 vs3 d3 rfl rfl e41 hst
                    refine ⟨σ, KG_trans k2 c2, ?_, c3⟩
                    have := Run_tr _ _ _ _ _ hR2 (Run_1 w.2 c1)
                    rw [show w.2 - j + (w.2 + 1 - w.2) = w.2 + 1 - j by omega] at this
                    exact this
                · rw [if_neg e41]
                  refine ⟨fun e h => ?_, fun y h => (by cases h), fun y h => (by cases h)⟩
                  cases h
                  obtain ⟨σ, c1, c2, c3⟩ := q2 40 os rfl e41
                  exact ⟨σ, _, KG_trans k2 c2, hR2, c1, c3, Nat.le_of_lt (Nat.lt_of_succ_lt hlt), b8, Nat.le_of_ble_eq_true rfl, Nat.le_of_ble_eq_true rfl⟩
            · rw [if_neg hd10]
              refine ⟨fun e h => ?_, fun y h => (by cases h), fun y h => (by cases h)⟩
              cases h
              refine ⟨μ, _, KG_refl μ, ?_, fb_open6 c m hS (by omega) e40.1 (Or.inl e40.2), hS.2.1, Nat.le_refl _, hj, Nat.le_of_ble_eq_true rfl, Nat.le_of_ble_eq_true rfl⟩
              show Run m (j - j) _ _
              rw [Nat.sub_self]
              rfl
          · rw [if_neg e40]
            refine ⟨fun e h => ?_, fun y h h4 => by omega, fun y h _ => ?_⟩
            · obtain ⟨a1, a2, a3, a4⟩ := fb_atomF c m hS e33 e40 hL hL6 hx h
              refine ⟨μ, _, KG_refl μ, ?_, a1, by rw [a2]; exact hS.2.1, by omega, by omega, a3, a4⟩
              rw [a2, Nat.sub_self]
              rfl
            · have hy := pAt_r h
              refine ⟨?_, fun os2 vs2 d2 hst => ?_⟩
              · rw [hy]
                refine h300 (fun z => ?_)
                unfold pAt at h
                rw [z, if_neg (by decide), if_neg (by decide), if_neg (by decide)] at h
                cases h
              · obtain ⟨ν, a1, a2, a3⟩ := fb_atom c m hS e33 e40 (by omega) (by omega) hb hL hL6 hx h hst
                rw [hy]
                exact ⟨ν, a2, Run_1 j a1, a3⟩
