/-! CUBES MOVED FORWARD: the class's way and the reference's -/
theorem wth_b {M : Mv} {fr : List Cu} {f s : Nat} (h0 : 0 < f) (hs : s < 64) : B (wth M fr f) s = (decide (s < 2 ^ M.1) && fr.all fun q => decide (q.1 < f) || !B (cubS M.1 q.2.1 q.2.2) s) := by
  unfold wth opnS
  rw [if_neg (by omega)]
  unfold opnN
  rw [B_mkS _ hs, List.take_length]
theorem wth_iff {M : Mv} {fr : List Cu} {f s : Nat} (h0 : 0 < f) (hs : s < 64) : B (wth M fr f) s = true ↔ s < 2 ^ M.1 ∧ ∀ q, q ∈ fr → f ≤ q.1 → B (cubS M.1 q.2.1 q.2.2) s = false := by
  rw [wth_b h0 hs, Bool.and_eq_true, List.all_eq_true, decide_eq_true_eq]
  constructor
  · rintro ⟨h1, h2⟩
    refine ⟨h1, fun q hq hle => ?_⟩
    have := h2 q hq
    have hn : ¬ q.1 < f := by omega
    simpa [hn] using this
  · rintro ⟨h1, h2⟩
    refine ⟨h1, fun q hq => ?_⟩
    by_cases hlt : q.1 < f
    · simp [hlt]
    · simp [h2 q hq (by omega)]
/-- one cube lies in another: so do its states -/
theorem lies_sub {L m b om ob s : Nat} (hL : L < 7) (h : lies m b om ob = true) (hs : s < 64) (hb : B (cubS L m b) s = true) : B (cubS L om ob) s = true := by
  unfold lies at h
  rw [Bool.and_eq_true, decide_eq_true_eq, decide_eq_true_eq] at h
  have hb : B (cubN L m b L) s = true := hb
  show B (cubN L om ob L) s = true
  unfold cubN at *
  rw [B_mkS _ hs, Bool.and_eq_true, List.all_eq_true] at *
  refine ⟨hb.1, fun l hl => ?_⟩
  have h1 := hb.2 l hl
  have h2 : om.testBit l = (m.testBit l && om.testBit l) := by
    have := congrArg (fun z => z.testBit l) h.1
    simp only [Nat.testBit_and] at this
    exact this.symm
  have h3 : ob.testBit l = (b.testBit l && om.testBit l) := by
    have := congrArg (fun z => z.testBit l) h.2
    simp only [Nat.testBit_and] at this
    exact this.symm
  cases ho : om.testBit l with
  | false => simp
  | true =>
    rw [ho] at h2 h3
    have hm : m.testBit l = true := by simpa using h2.symm
    rw [hm] at h1
    rw [h3]
    simpa using h1
theorem clsd_iff {L : Nat} {sc : Nat → Nat → Nat} {x y : Int64} : clsd L sc x y = true ↔ ∀ s, s < 2 ^ L → B x s = true → B y s = false → aftN sc s 15 4 &&& y = 0 := by
  unfold clsd
  rw [List.all_eq_true]
  constructor
  · intro h s hs hx hy
    have := h s (List.mem_range.mpr hs)
    rw [hx, hy] at this
    simpa using this
  · intro h s hs
    have hs := List.mem_range.mp hs
    cases hx : B x s with
    | false => rfl
    | true =>
      cases hy : B y s with
      | true => rfl
      | false => simp [h s hs hx hy]
theorem clsd_not {L : Nat} {sc : Nat → Nat → Nat} {x y : Int64} (h : clsd L sc x y = false) : ∃ s, s < 2 ^ L ∧ B x s = true ∧ B y s = false ∧ aftN sc s 15 4 &&& y ≠ 0 := by
  refine Classical.byContradiction fun hn => ?_
  have : clsd L sc x y = true := clsd_iff.mpr fun s hs hx hy => Classical.byContradiction fun h0 => hn ⟨s, hs, hx, hy, h0⟩
  rw [h] at this
  cases this
theorem and_sub {x y z : Int64} (h : ∀ s, s < 64 → B y s = true → B z s = true) (h0 : x &&& y ≠ 0) : x &&& z ≠ 0 := by
  intro e
  obtain ⟨k, hk, hb⟩ := B_ne0 h0
  rw [B_and, Bool.and_eq_true] at hb
  have : B (x &&& z) k = false := by rw [e, B_0]
  rw [B_and, hb.1, h k hk hb.2] at this
  cases this
/-- one that holds has none in it that does not -/
theorem lies_push {M : Mv} (hL : M.1 < 7) {W : Int64} {p q : Cu} (hq : clsd M.1 M.2.1 W (cubS M.1 q.2.1 q.2.2) = true) (hp : clsd M.1 M.2.1 W (cubS M.1 p.2.1 p.2.2) = false) (hd : ∀ s, s < 2 ^ M.1 → B W s = true → B (cubS M.1 q.2.1 q.2.2) s = false) : lies p.2.1 p.2.2 q.2.1 q.2.2 = false := by
  have h64 := p2_64 hL
  cases hl : lies p.2.1 p.2.2 q.2.1 q.2.2 with
  | false => rfl
  | true =>
    exfalso
    obtain ⟨s, hs, hx, hy, h0⟩ := clsd_not hp
    have := clsd_iff.mp hq s hs hx (hd s hs hx)
    exact and_sub (fun t ht hb => lies_sub hL hl ht hb) h0 this
theorem addC_iff {fr : List Cu} {f m b : Nat} {r : Cu} : r ∈ addC fr f m b ↔ (r ∈ fr ∧ ¬ (r.1 ≤ f ∧ lies r.2.1 r.2.2 m b = true)) ∨ r = (f, m, b) := by
  unfold addC
  rw [List.mem_append, List.mem_filter]
  constructor
  · rintro (⟨h1, h2⟩ | h)
    · refine Or.inl ⟨h1, fun z => ?_⟩
      rw [z.2] at h2
      simp [z.1] at h2
    · exact Or.inr (by simpa using h)
  · rintro (⟨h1, h2⟩ | h)
    · refine Or.inl ⟨h1, ?_⟩
      by_cases hle : r.1 ≤ f
      · have : ¬ lies r.2.1 r.2.2 m b = true := fun z => h2 ⟨hle, z⟩
        simp [this]
      · simp [hle]
    · exact Or.inr (by simp [h])
/-- what is within a frame, as one more is put above it -/
theorem wth_add {M : Mv} (hL : M.1 < 7) {fr : List Cu} {f m b g : Nat} (h0 : 0 < g) (hg : g ≤ f) {s : Nat} (hs : s < 64) : B (wth M (addC fr f m b) g) s = (B (wth M fr g) s && !B (cubS M.1 m b) s) := by
  cases hr : (B (wth M fr g) s && !B (cubS M.1 m b) s) with
  | true =>
    rw [Bool.and_eq_true] at hr
    obtain ⟨h1, h2⟩ := (wth_iff h0 hs).mp hr.1
    refine (wth_iff h0 hs).mpr ⟨h1, fun q hq hle => ?_⟩
    rcases addC_iff.mp hq with h3 | h3
    · exact h2 q h3.1 hle
    · rw [h3]
      simpa using hr.2
  | false =>
    cases hx : B (wth M (addC fr f m b) g) s with
    | false => rfl
    | true =>
      exfalso
      obtain ⟨h1, h2⟩ := (wth_iff h0 hs).mp hx
      have hnb : B (cubS M.1 m b) s = false := h2 (f, m, b) (addC_iff.mpr (Or.inr rfl)) hg
      have hw : B (wth M fr g) s = true := by
        refine (wth_iff h0 hs).mpr ⟨h1, fun q hq hle => ?_⟩
        by_cases hk : q.1 ≤ f ∧ lies q.2.1 q.2.2 m b = true
        · cases hb : B (cubS M.1 q.2.1 q.2.2) s with
          | false => rfl
          | true =>
            have := lies_sub hL hk.2 hs hb
            rw [hnb] at this
            cases this
        · exact h2 q (addC_iff.mpr (Or.inl ⟨hq, hk⟩)) hle
      rw [hw, hnb] at hr
      cases hr
theorem wth_same {M : Mv} (hL : M.1 < 7) {fr : List Cu} {f g : Nat} {q : Cu} (h0 : 0 < g) (hq : q ∈ fr) (hle : g ≤ q.1) (hg : g ≤ f) : wth M (addC fr f q.2.1 q.2.2) g = wth M fr g := by
  refine B_ext fun s hs => ?_
  rw [wth_add hL h0 hg hs]
  cases hb : B (wth M fr g) s with
  | false => rfl
  | true =>
    have := ((wth_iff h0 hs).mp hb).2 q hq hle
    rw [this]
    rfl
/-! the class's loop apart from any heap -/
def atF (a : Nat) (fr : List Cu) : List Cu := fr.filter fun q => decide (q.1 = a)
def pcF (M : Mv) (a : Nat) : Nat → List Cu → Nat → Nat → Nat → List Cu × Nat × Nat
  | 0, cur, _, ak, md => (cur, ak, md)
  | t + 1, cur, pl, ak, md => match (atF a cur)[pl]? with
    | none => (cur, ak, md)
    | some q => if hld M cur q.2.1 q.2.2 a then pcF M a t (addC cur (a + 1) q.2.1 q.2.2) pl (ak + 1) (md + 1) else pcF M a t cur (pl + 1) (ak + 1) md
def PI (M : Mv) (a : Nat) (fr cur : List Cu) : Prop := WC M cur ∧ cur.length ≤ fr.length ∧ (cur.filter fun q => decide (q.1 < a)) = (fr.filter fun q => decide (q.1 < a)) ∧ wth M cur a = wth M fr a ∧ (∀ r, r ∈ cur → r.1 = a → r ∈ fr) ∧ ∀ r, r ∈ cur → r.2.2 &&& r.2.1 = r.2.2
/-- lower ones lie in none of these -/
def HL (a : Nat) (fr : List Cu) : Prop := ∀ r, r ∈ fr → r.1 < a → ∀ q, q ∈ fr → q.1 = a → lies r.2.1 r.2.2 q.2.1 q.2.2 = false
theorem PI_add {M : Mv} (hL : M.1 < 7) {a : Nat} (ha : 0 < a) (ha2 : a < 120) {fr cur : List Cu} (hp : PI M a fr cur) (hl : HL a fr) {q : Cu} (hq : q ∈ cur) (hqa : q.1 = a) : PI M a fr (addC cur (a + 1) q.2.1 q.2.2) := by
  obtain ⟨h1, h2, h3, h4, h5, h6⟩ := hp
  refine ⟨fun r hr => ?_, ?_, ?_, ?_, fun r hr hra => ?_, fun r hr => ?_⟩
  · rcases addC_iff.mp hr with h | h
    · exact h1 r h.1
    · have := h1 q hq
      rw [h]
      exact ⟨by show 1 ≤ a + 1; omega, by show a + 1 < 127; omega, this.2.2.1, this.2.2.2⟩
  · exact Nat.le_trans (addC_len hq (by omega) (h6 q hq)) h2
  · rw [← h3]
    unfold addC
    rw [List.filter_append, List.filter_filter]
    have e1 : [(a + 1, q.2.1, q.2.2)].filter (fun r => decide (r.1 < a)) = [] := by
      have : ¬ a + 1 < a := by omega
      simp [this]
    rw [e1, List.append_nil]
    refine List.filter_congr fun r hr => ?_
    by_cases hra : r.1 < a
    · have hrf : r ∈ fr := by
        have : r ∈ cur.filter fun q => decide (q.1 < a) := List.mem_filter.mpr ⟨hr, by simp [hra]⟩
        rw [h3] at this
        exact (List.mem_filter.mp this).1
      rw [hl r hrf hra q (h5 q hq hqa) hqa]
      simp [hra]
    · simp [hra]
  · rw [wth_same hL ha hq (by omega) (by omega)]
    exact h4
  · rcases addC_iff.mp hr with h | h
    · exact h5 r h.1 hra
    · rw [h] at hra
      have hra : a + 1 = a := hra
      omega
  · rcases addC_iff.mp hr with h | h
    · exact h6 r h.1
    · rw [h]
      exact h6 q hq
theorem push_eq {M : Mv} (hL : M.1 < 7) {a : Nat} (ha : 0 < a) (ha2 : a < 120) {fr : List Cu} (hl : HL a fr) : ∀ (R : List Cu) (cur : List Cu) (pl ak md : Nat) (ps : List Cu) (t : Nat), (∀ r, r ∈ R → r.1 = a) → PI M a fr cur → atF a cur = ps ++ R.filter (fun r => decide (r ∈ cur)) → ps.length = pl → (∀ p, p ∈ ps → clsd M.1 M.2.1 (wth M fr a) (cubS M.1 p.2.1 p.2.2) = false) → R.length ≤ t → R.foldl (pushS M a) (cur, ak, md) = pcF M a t cur pl ak md := by
  intro R
  induction R with
  | nil =>
    intro cur pl ak md ps t _ _ hat hpl _ _
    rw [List.foldl_nil]
    cases t with
    | zero => rfl
    | succ t =>
      rw [pcF]
      have : (atF a cur)[pl]? = none := by
        rw [hat]
        simp [hpl]
      rw [this]
  | cons q R ih =>
    intro cur pl ak md ps t hR hp hat hpl hps ht
    have hqa := hR q List.mem_cons_self
    have hR2 : ∀ r, r ∈ R → r.1 = a := fun r hr => hR r (List.mem_cons_of_mem _ hr)
    rw [List.length_cons] at ht
    rw [List.foldl_cons]
    by_cases hqc : q ∈ cur
    · obtain ⟨t2, rfl⟩ : ∃ t2, t = t2 + 1 := ⟨t - 1, by omega⟩
      have ef : (q :: R).filter (fun r => decide (r ∈ cur)) = q :: R.filter (fun r => decide (r ∈ cur)) := by simp [hqc]
      rw [ef] at hat
      have hgt : (atF a cur)[pl]? = some q := by
        rw [hat, List.getElem?_append_right (by omega), hpl]
        simp
      have hany : cur.any (fun r => decide (r = q)) = true := by
        rw [List.any_eq_true]
        exact ⟨q, hqc, by simp⟩
      rw [pcF, hgt]
      show R.foldl (pushS M a) (pushS M a (cur, ak, md) q) = if hld M cur q.2.1 q.2.2 a then pcF M a t2 (addC cur (a + 1) q.2.1 q.2.2) pl (ak + 1) (md + 1) else pcF M a t2 cur (pl + 1) (ak + 1) md
      have es : pushS M a (cur, ak, md) q = if hld M cur q.2.1 q.2.2 a then (addC cur (a + 1) q.2.1 q.2.2, ak + 1, md + 1) else (cur, ak + 1, md) := by
        unfold pushS
        rw [if_pos hany]
      rw [es]
      have hh : hld M cur q.2.1 q.2.2 a = clsd M.1 M.2.1 (wth M fr a) (cubS M.1 q.2.1 q.2.2) := by
        unfold hld
        rw [hp.2.2.2.1]
      cases hc : hld M cur q.2.1 q.2.2 a with
      | false =>
        rw [if_neg (by decide), if_neg (by decide)]
        show R.foldl (pushS M a) (cur, ak + 1, md) = pcF M a t2 cur (pl + 1) (ak + 1) md
        refine ih cur (pl + 1) (ak + 1) md (ps ++ [q]) t2 hR2 hp (by rw [hat]; simp) (by rw [List.length_append, hpl]; rfl) (fun p hpm => ?_) (by omega)
        rcases List.mem_append.mp hpm with h | h
        · exact hps p h
        · have : p = q := by simpa using h
          rw [this, ← hh, hc]
      | true =>
        rw [if_pos rfl, if_pos rfl]
        show R.foldl (pushS M a) (addC cur (a + 1) q.2.1 q.2.2, ak + 1, md + 1) = pcF M a t2 (addC cur (a + 1) q.2.1 q.2.2) pl (ak + 1) (md + 1)
        refine ih (addC cur (a + 1) q.2.1 q.2.2) pl (ak + 1) (md + 1) ps t2 hR2 (PI_add hL ha ha2 hp hl hqc hqa) ?_ hpl hps (by omega)
        have hqf : clsd M.1 M.2.1 (wth M fr a) (cubS M.1 q.2.1 q.2.2) = true := by rw [← hh, hc]
        have hdj : ∀ s, s < 2 ^ M.1 → B (wth M fr a) s = true → B (cubS M.1 q.2.1 q.2.2) s = false := by
          intro s hs hb
          rw [← hp.2.2.2.1] at hb
          have h64 := p2_64 hL
          exact ((wth_iff ha (by omega)).mp hb).2 q hqc (by omega)
        have hla : ∀ r : Cu, r.1 = a → (decide (r.1 ≤ a + 1) && lies r.2.1 r.2.2 q.2.1 q.2.2) = lies r.2.1 r.2.2 q.2.1 q.2.2 := fun r hr => by
          have : r.1 ≤ a + 1 := by omega
          simp [this]
        have e1 : atF a (addC cur (a + 1) q.2.1 q.2.2) = (atF a cur).filter fun r => !lies r.2.1 r.2.2 q.2.1 q.2.2 := by
          unfold atF addC
          rw [List.filter_append, List.filter_filter, List.filter_filter]
          have e2 : [(a + 1, q.2.1, q.2.2)].filter (fun r => decide (r.1 = a)) = [] := by
            have : ¬ a + 1 = a := by omega
            simp
          rw [e2, List.append_nil]
          refine List.filter_congr fun r _ => ?_
          by_cases hra : r.1 = a
          · rw [hla r hra]
            simp [hra]
          · simp [hra]
        rw [e1, hat, List.filter_append, List.filter_cons, lies_self (hp.2.2.2.2.2 q hqc)]
        have e3 : ps.filter (fun r => !lies r.2.1 r.2.2 q.2.1 q.2.2) = ps := by
          refine List.filter_eq_self.mpr fun p hpm => ?_
          rw [lies_push hL hqf (hps p hpm) hdj]
          rfl
        rw [e3]
        show ps ++ (R.filter fun r => decide (r ∈ cur)).filter (fun r => !lies r.2.1 r.2.2 q.2.1 q.2.2) = _
        congr 1
        rw [List.filter_filter]
        refine List.filter_congr fun r hr => ?_
        have hra := hR2 r hr
        have hiff : r ∈ addC cur (a + 1) q.2.1 q.2.2 ↔ r ∈ cur ∧ ¬ lies r.2.1 r.2.2 q.2.1 q.2.2 = true := by
          rw [addC_iff]
          constructor
          · rintro (h | h)
            · exact ⟨h.1, fun z => h.2 ⟨by omega, z⟩⟩
            · rw [h] at hra
              have hra : a + 1 = a := hra
              omega
          · rintro ⟨h, h9⟩
            exact Or.inl ⟨h, fun z => h9 z.2⟩
        by_cases hrc : r ∈ cur
        · cases hlr : lies r.2.1 r.2.2 q.2.1 q.2.2 with
          | true =>
            have : ¬ r ∈ addC cur (a + 1) q.2.1 q.2.2 := fun z => (hiff.mp z).2 hlr
            simp [this]
          | false =>
            have : r ∈ addC cur (a + 1) q.2.1 q.2.2 := hiff.mpr ⟨hrc, by rw [hlr]; decide⟩
            simp [this, hrc]
        · have : ¬ r ∈ addC cur (a + 1) q.2.1 q.2.2 := fun z => hrc (hiff.mp z).1
          simp [this, hrc]
    · have es : pushS M a (cur, ak, md) q = (cur, ak, md) := by
        unfold pushS
        rw [if_neg]
        intro h
        rw [List.any_eq_true] at h
        obtain ⟨r, h1, h2⟩ := h
        have : r = q := by simpa using h2
        exact hqc (this ▸ h1)
      rw [es]
      refine ih cur pl ak md ps t hR2 hp ?_ hpl hps (by omega)
      rw [hat]
      simp [hqc]
