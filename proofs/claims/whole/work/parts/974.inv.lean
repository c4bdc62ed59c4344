/-! WHAT HOLDS OF A SEARCH ALL ALONG: cubes -/
theorem clsd_anti {L : Nat} {sc : Nat → Nat → Nat} {x x2 y : Int64} (hL : L < 7) (h : ∀ s, s < 64 → B x2 s = true → B x s = true) (hc : clsd L sc x y = true) : clsd L sc x2 y = true := by
  have h64 := p2_64 hL
  exact clsd_iff.mpr fun s hs hx hy => clsd_iff.mp hc s hs (h s (by omega) hx) hy
/-- what is within a frame is within those above -/
theorem wth_mono {M : Mv} {fr : List Cu} {f g : Nat} (h0 : 0 < f) (hfg : f ≤ g) {s : Nat} (hs : s < 64) (h : B (wth M fr f) s = true) : B (wth M fr g) s = true := by
  obtain ⟨h1, h2⟩ := (wth_iff h0 hs).mp h
  exact (wth_iff (by omega) hs).mpr ⟨h1, fun q hq hle => h2 q hq (by omega)⟩
/-- as one more is put in, less is within -/
theorem wth_addle {M : Mv} (hL : M.1 < 7) {fr : List Cu} {f m b g : Nat} {s : Nat} (hs : s < 64) (h : B (wth M (addC fr f m b) g) s = true) : B (wth M fr g) s = true := by
  by_cases h0 : g = 0
  · subst h0
    exact h
  · by_cases hg : g ≤ f
    · rw [wth_add hL (by omega) hg hs, Bool.and_eq_true] at h
      exact h.1
    · obtain ⟨h1, h2⟩ := (wth_iff (by omega) hs).mp h
      refine (wth_iff (by omega) hs).mpr ⟨h1, fun q hq hle => ?_⟩
      exact h2 q (addC_iff.mpr (Or.inl ⟨hq, fun z => by omega⟩)) hle
theorem hld_add {M : Mv} (hL : M.1 < 7) {fr : List Cu} {f m b mm bb g : Nat} (h : hld M fr mm bb g = true) : hld M (addC fr f m b) mm bb g = true := clsd_anti hL (fun _ hs hb => wth_addle hL hs hb) h
/-- cubes: well formed, INIT in none, each holds by the frame below -/
def CI (M : Mv) (top : Nat) (fr : List Cu) : Prop := ∀ q, q ∈ fr → 1 ≤ q.1 ∧ q.1 ≤ top ∧ q.1 ≤ 64 ∧ q.2.1 < 2 ^ M.1 ∧ q.2.2 &&& q.2.1 = q.2.2 ∧ cubS M.1 q.2.1 q.2.2 &&& M.2.2.1 = 0 ∧ hld M fr q.2.1 q.2.2 (q.1 - 1) = true
theorem CI_top {M : Mv} {t t2 : Nat} {fr : List Cu} (h : CI M t fr) (ht : t ≤ t2) : CI M t2 fr := fun q hq => ⟨(h q hq).1, Nat.le_trans (h q hq).2.1 ht, (h q hq).2.2⟩
theorem CI_add {M : Mv} (hL : M.1 < 7) {t : Nat} {fr : List Cu} (h : CI M t fr) {f m b : Nat} (h1 : 1 ≤ f) (h2 : f ≤ t) (h3 : f ≤ 64) (h4 : m < 2 ^ M.1) (h5 : b &&& m = b) (h6 : cubS M.1 m b &&& M.2.2.1 = 0) (h7 : hld M fr m b (f - 1) = true) : CI M t (addC fr f m b) := by
  intro q hq
  rcases addC_iff.mp hq with hz | hz
  · obtain ⟨a1, a2, a3, a4, a5, a6, a7⟩ := h q hz.1
    exact ⟨a1, a2, a3, a4, a5, a6, hld_add hL a7⟩
  · rw [hz]
    exact ⟨h1, h2, h3, h4, h5, h6, hld_add hL h7⟩
theorem CI_WC {M : Mv} (hL : M.1 < 7) {t : Nat} {fr : List Cu} (h : CI M t fr) : WC M fr := by
  have h64 := p2_64 hL
  intro q hq
  obtain ⟨a1, a2, a3, a4, a5, a6, a7⟩ := h q hq
  have hb : q.2.2 ≤ q.2.1 := by
    rw [← a5]
    exact Nat.and_le_right
  exact ⟨a1, by omega, a4, by omega⟩
/-- a cube has a state: that of its bits -/
theorem cub_has {L m b : Nat} (hL : L < 7) (hm : m < 2 ^ L) (hb : b &&& m = b) : b < 2 ^ L ∧ B (cubS L m b) b = true := by
  have h64 := p2_64 hL
  have hbm : b ≤ m := by
    rw [← hb]
    exact Nat.and_le_right
  refine ⟨by omega, ?_⟩
  show B (cubN L m b L) b = true
  unfold cubN
  rw [B_mkS _ (by omega), Bool.and_eq_true, List.all_eq_true]
  refine ⟨by simp; omega, fun l _ => ?_⟩
  simp
theorem cub_st {L m st : Nat} (hL : L < 7) (hst : st < 2 ^ L) : B (cubS L m (st &&& m)) st = true := by
  have h64 := p2_64 hL
  show B (cubN L m (st &&& m) L) st = true
  unfold cubN
  rw [B_mkS _ (by omega), Bool.and_eq_true, List.all_eq_true]
  refine ⟨by simp [hst], fun l _ => ?_⟩
  rw [Nat.testBit_and]
  cases m.testBit l <;> simp
/-- a cube of a frame that does not hold by its own frame: more is within the next -/
theorem chain1 {M : Mv} (hL : M.1 < 7) {t : Nat} {fr : List Cu} (h : CI M t fr) {q : Cu} (hq : q ∈ fr) (hn : hld M fr q.2.1 q.2.2 q.1 = false) : (∃ s, s < 64 ∧ B (wth M fr q.1) s = true) ∧ ∃ u, u < 64 ∧ B (wth M fr (q.1 + 1)) u = true ∧ B (wth M fr q.1) u = false := by
  have h64 := p2_64 hL
  obtain ⟨a1, a2, a3, a4, a5, a6, a7⟩ := h q hq
  obtain ⟨s, hs, hx, hy, h0⟩ := clsd_not hn
  refine ⟨⟨s, by omega, hx⟩, ?_⟩
  obtain ⟨u, hu, hub⟩ := B_ne0 h0
  rw [B_and, Bool.and_eq_true] at hub
  have hul : u < 2 ^ M.1 := Nat.lt_of_not_le fun hle => by
    rw [cub_hi hL hu (by omega)] at hub
    exact absurd hub.2 (by decide)
  refine ⟨u, hu, (wth_iff (by omega) hu).mpr ⟨hul, fun d hd hle => ?_⟩, ?_⟩
  · cases hb : B (cubS M.1 d.2.1 d.2.2) u with
    | false => rfl
    | true =>
      exfalso
      obtain ⟨b1, b2, b3, b4, b5, b6, b7⟩ := h d hd
      have hxs := (wth_iff (by omega) (by omega)).mp hx
      have hsd := hxs.2 d hd (by omega)
      have hsw : B (wth M fr (d.1 - 1)) s = true := wth_mono (by omega) (by omega) (by omega) hx
      have := clsd_iff.mp b7 s hs hsw hsd
      have hz : B (aftN M.2.1 s 15 4 &&& cubS M.1 d.2.1 d.2.2) u = false := by rw [this, B_0]
      rw [B_and, hub.1, hb] at hz
      cases hz
  · cases hb : B (wth M fr q.1) u with
    | false => rfl
    | true =>
      exfalso
      have := ((wth_iff (by omega) hu).mp hb).2 q hq (Nat.le_refl _)
      rw [hub.2] at this
      cases this
theorem cnt_lt {x y : Int64} (h : ∀ s, s < 64 → B x s = true → B y s = true) {u : Nat} (hu : u < 64) (hy : B y u = true) (hx : B x u = false) : cnt x < cnt y := by
  have e := cntN_off hy 64
  rw [if_pos hu] at e
  have hle : cntN (B x) 64 ≤ cntN (fun j => B y j && decide (j ≠ u)) 64 := by
    have gen : ∀ (f g : Nat → Bool) (n : Nat), (∀ k, k < n → f k = true → g k = true) → cntN f n ≤ cntN g n := by
      intro f g n
      induction n with
      | zero => intro _; exact Nat.le_refl _
      | succ n ih =>
        intro hfg
        have := ih fun k hk => hfg k (by omega)
        rw [cntN, cntN]
        cases hf : f n with
        | false =>
          cases g n <;> simp <;> omega
        | true =>
          rw [hfg n (by omega) hf]
          simp
          omega
    refine gen _ _ 64 fun k hk hb => ?_
    have hne : k ≠ u := fun e => by rw [e, hx] at hb; cases hb
    simp [h k hk hb, hne]
  unfold cnt
  omega
/-- as far as pushed: each frame has more within than its number -/
def PC (M : Mv) (a : Nat) (fr : List Cu) : Prop := (∀ f, 1 ≤ f → f < a → ∃ q, q ∈ fr ∧ q.1 = f) ∧ ∀ q, q ∈ fr → q.1 < a → hld M fr q.2.1 q.2.2 q.1 = false
theorem chain {M : Mv} (hL : M.1 < 7) {t : Nat} {fr : List Cu} (h : CI M t fr) {a : Nat} (hp : PC M a fr) : ∀ f, 1 ≤ f → f < a → f ≤ cnt (wth M fr f) ∧ f + 1 ≤ cnt (wth M fr (f + 1)) := by
  intro f
  induction f with
  | zero => intro h1; omega
  | succ f ih =>
    intro h1 h2
    obtain ⟨q, hq, hqf⟩ := hp.1 (f + 1) h1 h2
    have hn := hp.2 q hq (by omega)
    obtain ⟨⟨s, hs, hb⟩, u, hu, hu1, hu2⟩ := chain1 hL h hq hn
    rw [hqf] at hb hu1 hu2
    have hlt := cnt_lt (x := wth M fr (f + 1)) (y := wth M fr (f + 1 + 1)) (fun k hk => wth_mono (by omega) (by omega) hk) hu hu1 hu2
    have hge : f + 1 ≤ cnt (wth M fr (f + 1)) := by
      by_cases h0 : f = 0
      · subst h0
        have : 0 < cnt (wth M fr (0 + 1)) := cntN_pos hb hs
        omega
      · have := (ih (by omega) (by omega)).2
        exact this
    exact ⟨hge, by omega⟩
theorem at_63 {M : Mv} (hL : M.1 < 7) {t : Nat} {fr : List Cu} (h : CI M t fr) {a : Nat} (ha : 1 ≤ a) (hp : PC M a fr) {q : Cu} (hq : q ∈ fr) (hqa : q.1 = a) : a ≤ 63 := by
  have h64 := p2_64 hL
  by_cases h1 : a = 1
  · omega
  · have := (chain hL h hp (a - 1) (by omega) (by omega)).2
    rw [show a - 1 + 1 = a by omega] at this
    obtain ⟨a1, a2, a3, a4, a5, a6, a7⟩ := h q hq
    obtain ⟨c1, c2⟩ := cub_has hL a4 a5
    have hno : B (wth M fr a) q.2.2 = false := by
      cases hb : B (wth M fr a) q.2.2 with
      | false => rfl
      | true =>
        have := ((wth_iff (by omega) (by omega)).mp hb).2 q hq (by omega)
        rw [c2] at this
        cases this
    have hall : cnt (wth M fr a) < cnt (-1 : Int64) := cnt_lt (fun s hs _ => B_m1 hs) (u := q.2.2) (by omega) (B_m1 (by omega)) hno
    have : cnt (-1 : Int64) = 64 := by decide +kernel
    omega
/-- lower ones lie in none of a frame that is pushed -/
theorem PC_HL {M : Mv} (hL : M.1 < 7) {t : Nat} {fr : List Cu} (h : CI M t fr) {a : Nat} (hp : PC M a fr) : HL a fr := by
  intro r hr hra q hq hqa
  have h64 := p2_64 hL
  cases hl : lies r.2.1 r.2.2 q.2.1 q.2.2 with
  | false => rfl
  | true =>
    exfalso
    obtain ⟨r1, _⟩ := h r hr
    obtain ⟨s, hs, hx, hy, h0⟩ := clsd_not (hp.2 r hr hra)
    obtain ⟨b1, b2, b3, b4, b5, b6, b7⟩ := h q hq
    have hsq := ((wth_iff (by omega) (by omega)).mp hx).2 q hq (by omega)
    have hsw : B (wth M fr (q.1 - 1)) s = true := wth_mono (by omega) (by omega) (by omega) hx
    exact and_sub (fun t ht hb => lies_sub hL hl ht hb) h0 (clsd_iff.mp b7 s hs hsw hsq)
