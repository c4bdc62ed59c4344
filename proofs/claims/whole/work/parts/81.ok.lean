/-! WHAT CAN FAIL, AND DOESN'T: Ok o Q says that o is there and Q holds of it -/
def Ok {α : Type} (o : Option α) (Q : α → Prop) : Prop := ∃ a, o = some a ∧ Q a
theorem ok_some {α : Type} {a : α} {Q : α → Prop} (h : Q a) : Ok (some a) Q := ⟨a, rfl, h⟩
theorem ok_bind {α β : Type} {o : Option α} {f : α → Option β} {Q : β → Prop} (h : Ok o (fun a => Ok (f a) Q)) : Ok (o.bind f) Q := by
  obtain ⟨a, h1, b, h2, h3⟩ := h
  exact ⟨b, by rw [h1]; exact h2, h3⟩
theorem ok_to {α β : Type} {o : Option α} {f : α → Option β} {Q : β → Prop} {a : α} (h1 : o = some a) (h2 : Ok (f a) Q) : Ok (o.bind f) Q := by
  rw [h1]
  exact h2
theorem ok_mono {α : Type} {o : Option α} {P Q : α → Prop} (h : Ok o P) (hpq : ∀ a, P a → Q a) : Ok o Q := by
  obtain ⟨a, h1, h2⟩ := h
  exact ⟨a, h1, hpq a h2⟩
theorem ok_call {α β : Type} {o : Option α} {f : α → Option β} {P : α → Prop} {Q : β → Prop} (h1 : Ok o P) (h2 : ∀ a, P a → Ok (f a) Q) : Ok (o.bind f) Q := ok_bind (ok_mono h1 h2)
theorem ok_eq {α : Type} {o : Option α} {a : α} (h : Ok o (fun b => b = a)) : o = some a := by
  obtain ⟨b, h1, rfl⟩ := h
  exact h1
theorem ok_of {α : Type} {o : Option α} {a : α} {Q : α → Prop} (h : o = some a) (hq : Q a) : Ok o Q := ⟨a, h, hq⟩
theorem ok_iteT {α : Type} {c : Prop} [Decidable c] {a b : Option α} {Q : α → Prop} (hc : c) (h : Ok a Q) : Ok (if c then a else b) Q := by rw [if_pos hc]; exact h
theorem ok_iteF {α : Type} {c : Prop} [Decidable c] {a b : Option α} {Q : α → Prop} (hc : ¬ c) (h : Ok b Q) : Ok (if c then a else b) Q := by rw [if_neg hc]; exact h
theorem ok_ite {α : Type} {c : Prop} [Decidable c] {a b : Option α} {Q : α → Prop} (h1 : c → Ok a Q) (h2 : ¬ c → Ok b Q) : Ok (if c then a else b) Q := by
  by_cases hc : c
  · exact ok_iteT hc (h1 hc)
  · exact ok_iteF hc (h2 hc)
/-- a loop: an invariant, and a measure that falls -/
theorem ok_it {σ ρ : Type} {body : σ → Option (σ ⊕ ρ)} {P : σ → Prop} {Q : ρ → Prop} (μ : σ → Nat) (step : ∀ s, P s → Ok (body s) (fun r => match r with | Sum.inl s2 => P s2 ∧ μ s2 < μ s | Sum.inr o => Q o)) : ∀ (n : Nat) (s : σ), P s → μ s < n → Ok (it body n s) Q := by
  intro n
  induction n with
  | zero => intro s _ h; omega
  | succ n ih =>
    intro s hP hm
    obtain ⟨r, h1, h2⟩ := step s hP
    show Ok ((body s).bind _) Q
    refine ok_to h1 ?_
    cases r with
    | inl s2 =>
      have h2 : P s2 ∧ μ s2 < μ s := h2
      exact ih s2 h2.1 (by omega)
    | inr o => exact ok_some h2
theorem ok_loop {σ ρ : Type} {body : σ → Option (σ ⊕ ρ)} {s : σ} (P : σ → Prop) (Q : ρ → Prop) (μ : σ → Nat) (h0 : P s) (hm : μ s < FU) (step : ∀ s, P s → Ok (body s) (fun r => match r with | Sum.inl s2 => P s2 ∧ μ s2 < μ s | Sum.inr o => Q o)) : Ok (it body FU s) Q := ok_it μ step FU s h0 hm
/-- a loop that makes cells: the invariant speaks of addresses, pool, state and what was made so far -/
theorem ok_itA {σ ρ : Type} {body : Nat → Ce → σ → Option ((σ ⊕ ρ) × Ce × Nat × Nat)} {P : Nat → Ce → σ → Nat → Nat → Prop} {Q : ρ → Ce → Nat → Nat → Prop} (μ : σ → Nat) (step : ∀ nx c s K S, P nx c s K S → Ok (body nx c s) (fun q => match q.1 with | Sum.inl s2 => P (nx + q.2.2.1) q.2.1 s2 (K + q.2.2.1) (S + q.2.2.2) ∧ μ s2 < μ s | Sum.inr o => Q o q.2.1 (K + q.2.2.1) (S + q.2.2.2))) : ∀ (n nx : Nat) (c : Ce) (s : σ) (K S : Nat), P nx c s K S → μ s < n → Ok (itA body n nx c s) (fun q => Q q.1 q.2.1 (K + q.2.2.1) (S + q.2.2.2)) := by
  intro n
  induction n with
  | zero => intro nx c s K S _ h; omega
  | succ n ih =>
    intro nx c s K S hP hm
    obtain ⟨⟨r, c2, k2, s2⟩, h1, h2⟩ := step nx c s K S hP
    show Ok ((body nx c s).bind _) _
    refine ok_to h1 ?_
    cases r with
    | inl s3 =>
      have h2 : P (nx + k2) c2 s3 (K + k2) (S + s2) ∧ μ s3 < μ s := h2
      obtain ⟨q, h3, h4⟩ := ih (nx + k2) c2 s3 (K + k2) (S + s2) h2.1 (by omega)
      refine ⟨(q.1, q.2.1, q.2.2.1 + k2, q.2.2.2 + s2), ?_, ?_⟩
      · refine Eq.trans (congrArg (adc k2 s2) h3) ?_
        rfl
      · have e1 : K + k2 + q.2.2.1 = K + (q.2.2.1 + k2) := by omega
        have e2 : S + s2 + q.2.2.2 = S + (q.2.2.2 + s2) := by omega
        rw [e1, e2] at h4
        exact h4
    | inr o => exact ok_some h2
theorem ok_loopA {σ ρ : Type} {body : Nat → Ce → σ → Option ((σ ⊕ ρ) × Ce × Nat × Nat)} {nx : Nat} {c : Ce} {s : σ} (P : Nat → Ce → σ → Nat → Nat → Prop) (Q : ρ → Ce → Nat → Nat → Prop) (μ : σ → Nat) (h0 : P nx c s 0 0) (hm : μ s < FU) (step : ∀ nx c s K S, P nx c s K S → Ok (body nx c s) (fun q => match q.1 with | Sum.inl s2 => P (nx + q.2.2.1) q.2.1 s2 (K + q.2.2.1) (S + q.2.2.2) ∧ μ s2 < μ s | Sum.inr o => Q o q.2.1 (K + q.2.2.1) (S + q.2.2.2))) : Ok (itA body FU nx c s) (fun q => Q q.1 q.2.1 q.2.2.1 q.2.2.2) := by
  have h := ok_itA μ step FU nx c s 0 0 h0 hm
  simpa using h
theorem ok_adcB {α β : Type} {o : Option (α × Ce × Nat × Nat)} {f : α × Ce × Nat × Nat → Option (β × Ce × Nat × Nat)} {Q : β × Ce × Nat × Nat → Prop} (h : Ok o (fun q => Ok (f q) (fun r => Q (r.1, r.2.1, r.2.2.1 + q.2.2.1, r.2.2.2 + q.2.2.2)))) : Ok (adcB o f) Q := by
  obtain ⟨q, h1, r, h2, h3⟩ := h
  refine ⟨_, ?_, h3⟩
  show (o.bind fun q => adc q.2.2.1 q.2.2.2 (f q)) = _
  rw [h1]
  show adc _ _ (f q) = _
  rw [h2]
  rfl
theorem ok_adcK {β : Type} {k s : Nat} {f : Unit → Option (β × Ce × Nat × Nat)} {Q : β × Ce × Nat × Nat → Prop} (h : Ok (f ()) (fun r => Q (r.1, r.2.1, r.2.2.1 + k, r.2.2.2 + s))) : Ok (adcK k s f) Q := by
  obtain ⟨r, h2, h3⟩ := h
  refine ⟨_, ?_, h3⟩
  show adc _ _ (f ()) = _
  rw [h2]
  rfl
