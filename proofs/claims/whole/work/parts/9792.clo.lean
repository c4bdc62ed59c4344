/-! COMING ON AND ON -/
def clo (F : Int64 → Int64) : Nat → Int64 → Int64
  | 0, x => x
  | n + 1, x => clo F n x ||| F (clo F n x)
def fre (F : Int64 → Int64) : Nat → Int64 → Int64
  | 0, x => x
  | n + 1, x => F (fre F n x) &&& (clo F n x ^^^ (-1))
/-- what it leads to comes from its states, one by one -/
def Add (F : Int64 → Int64) : Prop := (∀ x y, F (x ||| y) = F x ||| F y) ∧ F 0 = 0
theorem or_b {x y : Int64} {k : Nat} (h : B (x ||| y) k = true) : B x k = true ∨ B y k = true := by
  rw [B_or, Bool.or_eq_true] at h
  exact h
theorem clo_step {F : Int64 → Int64} (hF : Add F) (x : Int64) : ∀ n, clo F (n + 1) x = clo F n x ||| fre F (n + 1) x ∧ (∀ k, k < 64 → B (fre F n x) k = true → B (clo F n x) k = true) ∧ (n = 0 ∨ clo F n x = clo F (n - 1) x ||| fre F n x) := by
  intro n
  induction n with
  | zero =>
    refine ⟨?_, fun k _ h => h, Or.inl rfl⟩
    show x ||| F x = x ||| (F x &&& (x ^^^ (-1)))
    refine B_ext fun k hk => ?_
    rw [B_or, B_or, B_and, B_inv _ hk]
    cases B x k <;> simp
  | succ n ih =>
    obtain ⟨i1, i2, i3⟩ := ih
    have hsub : ∀ k, k < 64 → B (fre F (n + 1) x) k = true → B (clo F (n + 1) x) k = true := by
      intro k hk hb
      rw [i1, B_or, hb, Bool.or_true]
    refine ⟨?_, hsub, Or.inr i1⟩
    have e : clo F (n + 1 + 1) x = clo F (n + 1) x ||| F (clo F (n + 1) x) := rfl
    have e2 : fre F (n + 1 + 1) x = F (fre F (n + 1) x) &&& (clo F (n + 1) x ^^^ (-1)) := rfl
    have e3 : F (clo F (n + 1) x) = F (clo F n x) ||| F (fre F (n + 1) x) := by
      rw [i1]
      exact hF.1 _ _
    have e4 : ∀ k, k < 64 → B (F (clo F n x)) k = true → B (clo F (n + 1) x) k = true := by
      intro k hk hb
      have : clo F (n + 1) x = clo F n x ||| F (clo F n x) := rfl
      rw [this, B_or, hb, Bool.or_true]
    refine B_ext fun k hk => ?_
    rw [e, e2, e3, B_or, B_or, B_or, B_and, B_inv _ hk]
    cases hc : B (clo F (n + 1) x) k with
    | true => simp
    | false =>
      have : B (F (clo F n x)) k = false := by
        cases hz : B (F (clo F n x)) k with
        | false => rfl
        | true => rw [e4 k hk hz] at hc; cases hc
      rw [this]
      simp
theorem clo_mono {F : Int64 → Int64} (x : Int64) {n m : Nat} (h : n ≤ m) {k : Nat} (hk : k < 64) (hb : B (clo F n x) k = true) : B (clo F m x) k = true := by
  induction m with
  | zero =>
    have : n = 0 := by omega
    rw [this] at hb
    exact hb
  | succ m ih =>
    by_cases he : n = m + 1
    · rw [he] at hb
      exact hb
    · have := ih (by omega)
      show B (clo F m x ||| F (clo F m x)) k = true
      rw [B_or, this, Bool.true_or]
theorem clo_stop {F : Int64 → Int64} {x : Int64} {n : Nat} (h : clo F (n + 1) x = clo F n x) : ∀ m, n ≤ m → clo F m x = clo F n x := by
  intro m hm
  induction m with
  | zero =>
    have : n = 0 := by omega
    rw [this]
  | succ m ih =>
    by_cases he : n = m + 1
    · rw [he]
    · have i := ih (by omega)
      show clo F m x ||| F (clo F m x) = clo F n x
      rw [i]
      exact h
theorem clo_fre0 {F : Int64 → Int64} (hF : Add F) {x : Int64} {n : Nat} (h : fre F n x = 0) : ∀ m, n ≤ m → clo F m x = clo F n x := by
  refine clo_stop ?_
  have e : clo F (n + 1) x = clo F n x ||| fre F (n + 1) x := (clo_step hF x n).1
  have e2 : fre F (n + 1) x = 0 := by
    show F (fre F n x) &&& _ = 0
    rw [h, hF.2]
    refine B_ext0 fun k _ => ?_
    rw [B_and, B_0]
    rfl
  rw [e, e2]
  refine B_ext fun k _ => ?_
  rw [B_or, B_0, Bool.or_false]
/-- by the 64th nothing is new -/
theorem fre_64 {F : Int64 → Int64} (hF : Add F) (x : Int64) : fre F 64 x = 0 := by
  have key : ∀ n, n ≤ 64 → (∀ m, m < n → fre F m x ≠ 0) → n ≤ cnt (clo F n x) + (if fre F n x = 0 then 1 else 0) ∧ (0 < n → n ≤ cnt (clo F (n - 1) x)) := by
    intro n
    induction n with
    | zero => intro _ _; exact ⟨by omega, fun h => by omega⟩
    | succ n ih =>
      intro hn hm
      obtain ⟨i1, i2⟩ := ih (by omega) fun m hm2 => hm m (by omega)
      have hfn := hm n (by omega)
      rw [if_neg hfn] at i1
      have hge : n + 1 ≤ cnt (clo F n x) := by
        obtain ⟨u, hu, hub⟩ := B_ne0 hfn
        by_cases h0 : n = 0
        · subst h0
          have : 0 < cnt (clo F 0 x) := cntN_pos hub hu
          omega
        · have hlt : cnt (clo F (n - 1) x) < cnt (clo F n x) := by
            refine cnt_lt (fun k hk hb => clo_mono x (by omega) hk hb) hu ((clo_step hF x n).2.1 u hu hub) ?_
            obtain ⟨p, rfl⟩ : ∃ p, n = p + 1 := ⟨n - 1, by omega⟩
            have : B (F (fre F p x) &&& (clo F p x ^^^ (-1))) u = true := hub
            rw [B_and, B_inv _ hu, Bool.and_eq_true] at this
            simpa using this.2
          have := i2 (by omega)
          omega
      refine ⟨?_, fun _ => hge⟩
      by_cases h1 : fre F (n + 1) x = 0
      · rw [if_pos h1]
        have hle : cnt (clo F n x) ≤ cnt (clo F (n + 1) x) := by
          by_cases hq : clo F (n + 1) x = clo F n x
          · rw [hq]
            exact Nat.le_refl _
          · have e : clo F (n + 1) x = clo F n x ||| fre F (n + 1) x := (clo_step hF x n).1
            rw [h1] at e
            exfalso
            apply hq
            rw [e]
            refine B_ext fun k _ => ?_
            rw [B_or, B_0, Bool.or_false]
        omega
      · rw [if_neg h1]
        obtain ⟨u, hu, hub⟩ := B_ne0 h1
        have : B (F (fre F n x) &&& (clo F n x ^^^ (-1))) u = true := hub
        rw [B_and, B_inv _ hu, Bool.and_eq_true] at this
        have hlt : cnt (clo F n x) < cnt (clo F (n + 1) x) := cnt_lt (fun k hk hb => clo_mono x (by omega) hk hb) hu ((clo_step hF x (n + 1)).2.1 u hu hub) (by simpa using this.2)
        omega
  refine Classical.byContradiction fun hne => ?_
  have hall : ∀ m, m < 64 → fre F m x ≠ 0 := by
    intro m hm h0
    apply hne
    have h1 : ∀ p, m ≤ p → fre F p x = 0 := by
      intro p hp
      induction p with
      | zero =>
        have : m = 0 := by omega
        rw [← this]
        exact h0
      | succ p ih =>
        by_cases he : m = p + 1
        · rw [← he]; exact h0
        · show F (fre F p x) &&& _ = 0
          rw [ih (by omega), hF.2]
          refine B_ext0 fun k _ => ?_
          rw [B_and, B_0]
          rfl
    exact h1 64 (by omega)
  obtain ⟨k1, k2⟩ := key 64 (Nat.le_refl _) hall
  have h63 := k2 (by omega)
  obtain ⟨u, hu, hub⟩ := B_ne0 hne
  have : B (F (fre F 63 x) &&& (clo F 63 x ^^^ (-1))) u = true := hub
  rw [B_and, B_inv _ hu, Bool.and_eq_true] at this
  have hlt : cnt (clo F 63 x) < cnt (-1 : Int64) := cnt_lt (fun s hs _ => B_m1 hs) hu (B_m1 hu) (by simpa using this.2)
  have e64 : cnt (-1 : Int64) = 64 := by decide +kernel
  have h63 : 64 ≤ cnt (clo F 63 x) := h63
  omega
theorem clo_64 {F : Int64 → Int64} (hF : Add F) (x : Int64) {n : Nat} (h : 64 ≤ n) : clo F n x = clo F 64 x := clo_fre0 hF (fre_64 hF x) n h
theorem clo_63 {F : Int64 → Int64} (hF : Add F) (x : Int64) {n : Nat} (h : 63 ≤ n) : clo F n x = clo F 63 x := by
  refine clo_stop ?_ n h
  have e : clo F 64 x = clo F 63 x ||| fre F 64 x := (clo_step hF x 63).1
  rw [fre_64 hF x] at e
  show clo F 64 x = _
  rw [e]
  refine B_ext fun k _ => ?_
  rw [B_or, B_0, Bool.or_false]
/-- by how many, at least, it meets a set -/
def fst64 (p : Nat → Bool) : Option Nat := (List.range 64).find? p
theorem fst_at {p : Nat → Bool} {n : Nat} (hn : n < 64) (hp : p n = true) (hl : ∀ j, j < n → p j = false) : fst64 p = some n := by
  unfold fst64
  rw [List.find?_eq_some_iff_getElem]
  refine ⟨hp, n, by simpa using hn, by simp, fun j hj => ?_⟩
  simp [hl j hj]
theorem fst_none {p : Nat → Bool} (hl : ∀ j, j < 64 → p j = false) : fst64 p = none := by
  unfold fst64
  rw [List.find?_eq_none]
  intro j hj
  simp [hl j (by simpa using hj)]
theorem meet_fre {F : Int64 → Int64} (hF : Add F) {x g : Int64} : ∀ n, (∀ j, j < n → clo F j x &&& g = 0) → clo F n x &&& g = fre F n x &&& g := by
  intro n hl
  cases n with
  | zero => rfl
  | succ n =>
    rw [(clo_step hF x n).1]
    refine B_ext fun k hk => ?_
    have : B (clo F n x &&& g) k = false := by rw [hl n (by omega), B_0]
    rw [B_and] at this
    rw [B_and, B_or, B_and]
    cases hg : B g k with
    | false => simp
    | true =>
      rw [hg, Bool.and_true] at this
      rw [this]
      simp
