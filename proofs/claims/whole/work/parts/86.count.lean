/-- a loop that counts from j0 up to N: the invariant by the number -/
theorem ok_cnt0 {σ ρ : Type} {body : σ → Option (σ ⊕ ρ)} {Q : ρ → Prop} (N : Nat) (P : Nat → σ → Prop) (step : ∀ j s, j < N → P j s → Ok (body s) (fun r => match r with | Sum.inl s2 => P (j + 1) s2 | Sum.inr o => Q o)) (last : ∀ s, P N s → Ok (body s) (fun r => match r with | Sum.inl _ => False | Sum.inr o => Q o)) : ∀ (n j : Nat) (s : σ), j ≤ N → P j s → N - j < n → Ok (it body n s) Q := by
  intro n
  induction n with
  | zero => intro j s _ _ h; omega
  | succ n ih =>
    intro j s hj hP hn
    show Ok ((body s).bind _) Q
    by_cases hN : j = N
    · subst hN
      obtain ⟨r, h1, h2⟩ := last s hP
      refine ok_to h1 ?_
      cases r with
      | inl s2 => exact absurd h2 id
      | inr o => exact ok_some h2
    · obtain ⟨r, h1, h2⟩ := step j s (by omega) hP
      refine ok_to h1 ?_
      cases r with
      | inl s2 => exact ih (j + 1) s2 (by omega) h2 (by omega)
      | inr o => exact ok_some h2
theorem ok_cnt {σ ρ : Type} {body : σ → Option (σ ⊕ ρ)} {s : σ} {Q : ρ → Prop} (j N : Nat) (P : Nat → σ → Prop) (hN : N < 1000000) (hj : j ≤ N) (h0 : P j s) (step : ∀ j s, j < N → P j s → Ok (body s) (fun r => match r with | Sum.inl s2 => P (j + 1) s2 | Sum.inr o => Q o)) (last : ∀ s, P N s → Ok (body s) (fun r => match r with | Sum.inl _ => False | Sum.inr o => Q o)) : Ok (it body FU s) Q := ok_cnt0 N P step last FU j s hj h0 (lt_FU (by omega))
/-- the same for a loop that makes cells -/
theorem ok_cntA0 {σ ρ : Type} {body : Nat → Ce → σ → Option ((σ ⊕ ρ) × Ce × Nat × Nat)} {Q : ρ → Ce → Nat → Nat → Prop} (N : Nat) (P : Nat → Nat → Ce → σ → Nat → Nat → Prop) (step : ∀ j nx c s K S, j < N → P j nx c s K S → Ok (body nx c s) (fun q => match q.1 with | Sum.inl s2 => P (j + 1) (nx + q.2.2.1) q.2.1 s2 (K + q.2.2.1) (S + q.2.2.2) | Sum.inr o => Q o q.2.1 (K + q.2.2.1) (S + q.2.2.2))) (last : ∀ nx c s K S, P N nx c s K S → Ok (body nx c s) (fun q => match q.1 with | Sum.inl _ => False | Sum.inr o => Q o q.2.1 (K + q.2.2.1) (S + q.2.2.2))) : ∀ (n j nx : Nat) (c : Ce) (s : σ) (K S : Nat), j ≤ N → P j nx c s K S → N - j < n → Ok (itA body n nx c s) (fun q => Q q.1 q.2.1 (K + q.2.2.1) (S + q.2.2.2)) := by
  intro n
  induction n with
  | zero => intro j nx c s K S _ _ h; omega
  | succ n ih =>
    intro j nx c s K S hj hP hn
    show Ok ((body nx c s).bind _) _
    by_cases hN : j = N
    · subst hN
      obtain ⟨⟨r, c2, k2, s2⟩, h1, h2⟩ := last nx c s K S hP
      refine ok_to h1 ?_
      cases r with
      | inl s3 => exact absurd h2 id
      | inr o => exact ok_some h2
    · obtain ⟨⟨r, c2, k2, s2⟩, h1, h2⟩ := step j nx c s K S (by omega) hP
      refine ok_to h1 ?_
      cases r with
      | inl s3 =>
        obtain ⟨q, h3, h4⟩ := ih (j + 1) (nx + k2) c2 s3 (K + k2) (S + s2) (by omega) h2 (by omega)
        refine ⟨(q.1, q.2.1, q.2.2.1 + k2, q.2.2.2 + s2), ?_, ?_⟩
        · refine Eq.trans (congrArg (adc k2 s2) h3) ?_
          rfl
        · have e1 : K + k2 + q.2.2.1 = K + (q.2.2.1 + k2) := by omega
          have e2 : S + s2 + q.2.2.2 = S + (q.2.2.2 + s2) := by omega
          rw [e1, e2] at h4
          exact h4
      | inr o => exact ok_some h2
theorem ok_cntA {σ ρ : Type} {body : Nat → Ce → σ → Option ((σ ⊕ ρ) × Ce × Nat × Nat)} {nx : Nat} {c : Ce} {s : σ} {Q : ρ → Ce → Nat → Nat → Prop} (j N : Nat) (P : Nat → Nat → Ce → σ → Nat → Nat → Prop) (hN : N < 1000000) (hj : j ≤ N) (h0 : P j nx c s 0 0) (step : ∀ j nx c s K S, j < N → P j nx c s K S → Ok (body nx c s) (fun q => match q.1 with | Sum.inl s2 => P (j + 1) (nx + q.2.2.1) q.2.1 s2 (K + q.2.2.1) (S + q.2.2.2) | Sum.inr o => Q o q.2.1 (K + q.2.2.1) (S + q.2.2.2))) (last : ∀ nx c s K S, P N nx c s K S → Ok (body nx c s) (fun q => match q.1 with | Sum.inl _ => False | Sum.inr o => Q o q.2.1 (K + q.2.2.1) (S + q.2.2.2))) : Ok (itA body FU nx c s) (fun q => Q q.1 q.2.1 q.2.2.1 q.2.2.2) := by
  have h := ok_cntA0 N P step last FU j nx c s 0 0 hj h0 (lt_FU (by omega))
  simpa using h
/-- numbers compared -/
theorem n_ge {a b : Nat} (ha : a < 2 ^ 31) (hb : b < 2 ^ 31) (h : nI a ≤ nI b) : a ≤ b := (nI_leI ha hb).mp h
theorem n_nge {a b : Nat} (ha : a < 2 ^ 31) (hb : b < 2 ^ 31) (h : ¬ nI a ≤ nI b) : b < a := Nat.lt_of_not_le fun q => h ((nI_leI ha hb).mpr q)
/-- lowest -/
def lowS (x : Int64) : Option Nat := (List.range 64).find? (B x)
def lowI (x : Int64) : Int32 := match lowS x with
  | some k => nI k
  | none => -1
theorem lowS_at {x : Int64} {k : Nat} (hk : k < 64) (hb : B x k = true) (hl : ∀ j, j < k → B x j = false) : lowS x = some k := by
  unfold lowS
  rw [List.find?_eq_some_iff_getElem]
  refine ⟨hb, k, by simpa using hk, by simp, fun j hj => ?_⟩
  simp [hl j hj]
theorem lowS_none {x : Int64} (hl : ∀ j, j < 64 → B x j = false) : lowS x = none := by
  unfold lowS
  rw [List.find?_eq_none]
  intro j hj
  simp [hl j (by simpa using hj)]
theorem sr_lowest (x : Int64) : m_X12_lowest x = some (lowI x) := by
  refine ok_eq ?_
  unfold m_X12_lowest
  refine ok_call (P := fun o => Sum.elim (fun w => some w) (fun _ => some (-1 : Int32)) o = some (lowI x)) (ok_cnt 0 64 (fun j s => s = nI j ∧ ∀ i, i < j → B x i = false) (by decide) (by decide) ⟨rfl, fun _ h => by omega⟩ ?_ ?_) (fun a h => ok_of h rfl)
  · rintro j _ hj ⟨rfl, hl⟩
    rw [nl_64, if_neg (fun h => by have := n_ge (by omega) (by omega) h; omega), mh_has x hj, bind_s]
    cases hb : B x j with
    | true =>
      refine ok_iteF (by decide) (ok_some ?_)
      show some (nI j) = some (lowI x)
      unfold lowI
      rw [lowS_at hj hb hl]
    | false =>
      refine ok_iteT rfl (ok_some ⟨nI_1 j, fun i hi => ?_⟩)
      by_cases h : i = j
      · rw [h]; exact hb
      · exact hl i (by omega)
  · rintro _ ⟨rfl, hl⟩
    refine ok_iteT (by decide) (ok_some ?_)
    show some (-1 : Int32) = some (lowI x)
    unfold lowI
    rw [lowS_none hl]
