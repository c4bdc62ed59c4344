/-! WHAT HOLDS ALL ALONG: as things are told -/
theorem IV_mono {c c2 : Nat} {V : Sv} (h : IV c V) (hc : c ≤ c2) (h6 : c2 ≤ 600) : IV c2 V := by
  obtain ⟨a1, a2, a3, ⟨b1, b2, b3⟩, a5⟩ := h
  exact ⟨a1, a2, a3, ⟨b1, by omega, h6⟩, a5⟩
theorem NI_mono {g g2 : Nat} {n : Nat → Nat} (h : NI g n) (hg : g ≤ g2) : NI g2 n := ⟨Nat.le_trans h.1 hg, h.2⟩
theorem FI_0 : FI 139 fl0 := by
  refine ⟨fun l hl => ?_, ?_⟩
  · unfold fl0
    rw [if_neg (by omega)]
    decide
  · show (FP.fconst1).toNat < 139 * 8388608
    decide
theorem IV_beg {M : Mv} {md : Nat} (hw : WM M) (hm : md < 3) : IV 0 (begV M md) := by
  have ha := hw.2.2.2.2.1
  refine ⟨hw, ⟨Nat.le_refl _, by show 1 ≤ 65; omega, fun _ => by show 1 ≤ 64; omega⟩, ⟨by show 0 < 5; omega, by show 0 < M.2.2.2.1; omega, hm, by show 0 ≤ 65; omega⟩, ⟨fun q hq => by simp [begV] at hq, Nat.zero_le _, by omega⟩, ⟨fun _ _ => rfl, List.Pairwise.nil, fun q hq => by simp [begV] at hq, Nat.zero_le _, List.Pairwise.nil⟩, fun h => ?_, Or.inl FI_0, Nat.zero_le _, fun q hq => by simp [begV] at hq⟩
  have h : (0 : Nat) = 2 := h
  omega
theorem NI_beg (M : Mv) (md : Nat) : NI 0 (begV M md).2.1 := ⟨Nat.zero_le _, Nat.zero_le _, Nat.zero_le _⟩
theorem IV_aim {c : Nat} {V : Sv} (h : IV c V) {w : Nat} (hw : w < V.1.2.2.2.1) : IV c (aimV V w) := by
  obtain ⟨a1, a2, a3, ⟨b1, b2, b3⟩, a5, a6, a7, a8, a9⟩ := h
  have hi64 : hiF V.2.2.1 ≤ 64 := by
    rcases hiF_at V.2.2.1 with e | ⟨q, hq, e⟩
    · omega
    · have := (b1 q hq).2.2.1
      omega
  have h1 := hiF_1 V.2.2.1
  have n4 : (aimV V w).2.1 4 = hiF V.2.2.1 := rfl
  have n5 : (aimV V w).2.1 5 = 0 := rfl
  refine ⟨a1, ⟨by rw [n4]; exact h1, by rw [n4]; omega, fun _ => by rw [n4]; exact hi64⟩, ⟨by rw [n5]; omega, hw, a3.2.2.1, a3.2.2.2⟩, ⟨fun q hq => ?_, b2, b3⟩, ⟨fun _ _ => rfl, List.Pairwise.nil, fun q hq => by simp [aimV] at hq, Nat.zero_le _, List.Pairwise.nil⟩, fun hh => ?_, ?_, a8, a9⟩
  · obtain ⟨c1, c2, c3⟩ := b1 q hq
    exact ⟨c1, by rw [n4]; exact hiF_ge hq, c3⟩
  · rw [n5] at hh
    omega
  · rcases a7 with a7 | ⟨⟨f, ⟨q, hq, hqf⟩, y2, y3, y4, y5⟩, a7⟩
    · exact Or.inl a7
    · refine Or.inr ⟨⟨f, ⟨q, hq, hqf⟩, y2, y3, fun _ => ?_, fun hh => ?_⟩, a7⟩
      · rw [n4]
        have g1 := hiF_ge hq
        have q1 := (b1 q hq).1
        rcases hiF_at V.2.2.1 with e | ⟨r, hr, e⟩
        · omega
        · have := y2 r hr
          omega
      · rw [n5] at hh
        omega
def modV (V : Sv) (md : Nat) : Sv := (V.1, va_up V.2.1 15 md, V.2.2)
theorem IV_mode {c : Nat} {V : Sv} (h : IV c V) {md : Nat} (hm : md < 3) : IV c (modV V md) := by
  obtain ⟨a1, a2, a3, a4, a5, a6, a7, a8⟩ := h
  exact ⟨a1, a2, ⟨a3.1, a3.2.1, hm, a3.2.2.2⟩, a4, a5, a6, a7, a8⟩
def hbarV (V : Sv) (f mk b : Nat) : Sv := (V.1, V.2.1, addC V.2.2.1 f mk b, V.2.2.2)
theorem IV_bar {c : Nat} {V : Sv} (h : IV c V) (h5 : V.2.1 5 < 2) {f mk b : Nat} (hf1 : 1 ≤ f) (hf : f ≤ V.2.1 4) (hmk : mk < 2 ^ V.1.1) (hb : b &&& mk = b) (hi : cubS V.1.1 mk b &&& V.1.2.2.1 = 0) (hh : hld V.1 V.2.2.1 mk b (f - 1) = true) (hc : c + 1 ≤ 600) : IV (c + 1) (hbarV V f mk b) := by
  have hL := IV_L h
  obtain ⟨a1, a2, a3, ⟨b1, b2, b3⟩, a5, a6, a7, a8⟩ := h
  have h64 := a2.2.2 (Or.inl h5)
  have hr := rep_any V.2.2.1 f mk b
  refine ⟨a1, a2, a3, ⟨CI_add hL b1 hf1 hf (by omega) hmk hb hi hh, by show rep (addC V.2.2.1 f mk b) ≤ c + 1; omega, hc⟩, a5, fun hh => ?_, ?_, a8⟩
  · have hh : V.2.1 5 = 2 := hh
    omega
  · rcases a7 with a7 | ⟨⟨f0, ⟨q, hq, hqf⟩, y2, y3, y4, y5⟩, a7⟩
    · exact Or.inl a7
    · refine Or.inr ⟨⟨f0, ?_, fun r hr => ?_, ?_, fun hh => y4 hh, fun hh => y5 hh⟩, a7⟩
      · by_cases e : q.1 ≤ f ∧ lies q.2.1 q.2.2 mk b = true
        · have e1 : q.1 ≤ f := e.1
          have := y4 h5
          exact ⟨(f, mk, b), addC_iff.mpr (Or.inr rfl), by show f = f0; omega⟩
        · exact ⟨q, addC_iff.mpr (Or.inl ⟨hq, e⟩), hqf⟩
      · have := y4 h5
        rcases addC_mem hr with hr | rfl
        · exact y2 r hr
        · show f ≤ f0
          omega
      · refine B_ext0 fun s hs => ?_
        cases hB : B (wth V.1 (addC V.2.2.1 f mk b) f0) s with
        | false => exact hB
        | true =>
          have := wth_addle hL hs hB
          rw [y3, B_0] at this
          cases this
def clmV (V : Sv) (cl : List (Nat × Nat)) : Sv := (V.1, V.2.1, V.2.2.1, V.2.2.2.1, V.2.2.2.2.1, cl)
theorem IV_clm {c : Nat} {V : Sv} (h : IV c V) {cl : List (Nat × Nat)} (h1 : cl.length ≤ 12) (h2 : ∀ q, q ∈ cl → q.1 < 2 ^ V.1.1 ∧ q.2 &&& q.1 = q.2) : IV c (clmV V cl) := by
  obtain ⟨a1, a2, a3, a4, a5, a6, a7, a8⟩ := h
  exact ⟨a1, a2, a3, a4, a5, a6, a7, h1, h2⟩
/-! THE CLASS: a world -/
theorem MA_fr {ce d : Ce} {U : Nat → Prop} {p : Nat} {M : Mv} (hm : MA ce U p M) (h : ∀ b, U b → d b = ce b) : MA d U p M := MA_congr h (fun _ hb => hb) hm
/-- a search whose machine's cells lie in Z -/
def SZ (ce : Ce) (nx : Nat) (Z : Nat → Prop) (A : Nat → Nat) (κ : Nat × Nat × Nat) (V : Sv) : Prop := SS ce nx A κ V ∧ ∃ mp, gA ce 6 0 (A 0) = some mp ∧ MA ce Z mp V.1
theorem SZ_congr {ce d : Ce} {nx nx2 : Nat} {Z Z2 : Nat → Prop} {A : Nat → Nat} {κ : Nat × Nat × Nat} {V : Sv} (h : SZ ce nx Z A κ V) (hZ : ∀ b, Z b → b < nx2 ∧ Off A b) (hA : ∀ i, i < 13 → d (A i) = ce (A i)) (hd : ∀ b, Z b → d b = ce b) (hn : nx ≤ nx2) (hZ2 : ∀ b, Z b → Z2 b) : SZ d nx2 Z2 A κ V := by
  obtain ⟨⟨mp0, at1, h1, h2, lc, a1, a2, a3, a4, a5, a6, a7, a8⟩, mp, g1, g2⟩ := h
  have e0 : mp0 = mp := by
    have := gA_c (k := 0) (x := mp0) h1 rfl
    rw [g1] at this
    exact (Option.some.inj this).symm
  subst e0
  refine ⟨⟨mp0, at1, by rw [hA 0 (by omega)]; exact h1, h2, lc, RW_congr (hA 1 (by omega)) (hA 2 (by omega)) (hA 3 (by omega)) (hA 4 (by omega)) a1, OB_congr (hA 5 (by omega)) (hA 6 (by omega)) a2, a3, AC_congr (hA 7 (by omega)) (hA 8 (by omega)) a4, RW_congr (hA 9 (by omega)) (hA 10 (by omega)) (hA 11 (by omega)) (hA 12 (by omega)) a5, MA_congr hd hZ g2, fun i hi => by have := a7 i hi; omega, a8⟩, mp0, by unfold gA; rw [hA 0 (by omega)]; exact g1, MA_congr hd hZ2 g2⟩
/-- what is frozen: a past search -/
def PS (ce : Ce) (nx : Nat) (Z : Nat → Prop) (p : Nat) (V : Sv) : Prop := ∃ A κ, A 0 = p ∧ (∀ i, i < 13 → Z (A i)) ∧ SS ce nx A κ V ∧ ∃ mp, gA ce 6 0 p = some mp ∧ MA ce (fun b => Z b ∧ Off A b) mp V.1
theorem PS_congr {ce d : Ce} {nx nx2 : Nat} {Z Z2 : Nat → Prop} {p : Nat} {V : Sv} (h : PS ce nx Z p V) (hZ : ∀ b, Z b → b < nx) (hd : ∀ b, Z b → d b = ce b) (hn : nx ≤ nx2) (hZ2 : ∀ b, Z b → Z2 b) : PS d nx2 Z2 p V := by
  obtain ⟨A, κ, rfl, h2, h3, mp, g1, g2⟩ := h
  have hs : SZ ce nx (fun b => Z b ∧ Off A b) A κ V := ⟨h3, mp, g1, g2⟩
  obtain ⟨q1, mp2, q2, q3⟩ := SZ_congr (Z2 := fun b => Z2 b ∧ Off A b) hs (fun b hb => ⟨by have := hZ b hb.1; omega, hb.2⟩) (fun i hi => hd _ (h2 i hi)) (fun b hb => hd b hb.1) hn (fun b hb => ⟨hZ2 b hb.1, hb.2⟩)
  exact ⟨A, κ, rfl, fun i hi => hZ2 _ (h2 i hi), q1, mp2, q2, q3⟩
/-- texts and past of a world: pointers, values -/
def TP (ce : Ce) (Z : Nat → Prop) (tp : List Nat) (tx : List Mv) : Prop := tp.length = tx.length ∧ tx.length ≤ 4 ∧ ∀ (i p : Nat) (M : Mv), tp[i]? = some p → tx[i]? = some M → MA ce Z p M
def PP (ce : Ce) (nx : Nat) (Z : Nat → Prop) (pp : List Nat) (pa : List Sv) : Prop := pp.length = pa.length ∧ pa.length ≤ 20 ∧ ∀ (i p : Nat) (V : Sv), pp[i]? = some p → pa[i]? = some V → PS ce nx Z p V
theorem TP_congr {ce d : Ce} {Z Z2 : Nat → Prop} {tp : List Nat} {tx : List Mv} (h : TP ce Z tp tx) (hd : ∀ b, Z b → d b = ce b) (hZ2 : ∀ b, Z b → Z2 b) : TP d Z2 tp tx := ⟨h.1, h.2.1, fun i p M h1 h2 => MA_congr hd hZ2 (h.2.2 i p M h1 h2)⟩
theorem PP_congr {ce d : Ce} {nx nx2 : Nat} {Z Z2 : Nat → Prop} {pp : List Nat} {pa : List Sv} (h : PP ce nx Z pp pa) (hZ : ∀ b, Z b → b < nx) (hd : ∀ b, Z b → d b = ce b) (hn : nx ≤ nx2) (hZ2 : ∀ b, Z b → Z2 b) : PP d nx2 Z2 pp pa := ⟨h.1, h.2.1, fun i p V h1 h2 => PS_congr (h.2.2 i p V h1 h2) hZ hd hn hZ2⟩
/-- the world's own cells: w, its texts, its past -/
def WC3 (ce : Ce) (w t p s : Nat) (tp pp : List Nat) : Prop := ∃ T P, ce w = some (.inr (7, [.ref t, .int (nI tp.length), .ref p, .int (nI pp.length), .ref s])) ∧ ce t = some (.inl (.object "FencedStates$Machine", 4, .inr (.inr (.inr (.inr T))))) ∧ ce p = some (.inl (.object "FencedStates$Search", 20, .inr (.inr (.inr (.inr P))))) ∧ (∀ i, i < 4 → T i = tp[i]?) ∧ ∀ i, i < 20 → P i = pp[i]?
theorem WC3_congr {ce d : Ce} {w t p s : Nat} {tp pp : List Nat} (h : WC3 ce w t p s tp pp) (h1 : d w = ce w) (h2 : d t = ce t) (h3 : d p = ce p) : WC3 d w t p s tp pp := by
  obtain ⟨T, P, a1, a2, a3, a4, a5⟩ := h
  exact ⟨T, P, by rw [h1]; exact a1, by rw [h2]; exact a2, by rw [h3]; exact a3, a4, a5⟩
theorem aR_c {c : Ce} {C : String} {a n k : Nat} {f : Nat → Option Nat} (h : c a = some (.inl (.object C, n, .inr (.inr (.inr (.inr f)))))) (hk : k < n) (hn : n < 2 ^ 31) : aR C c a (nI k) = some (f k) := by
  unfold aR
  rw [h]
  show (if C = C then (if nI k < 0 ∨ n ≤ (nI k).toNatClampNeg then none else some (f (nI k).toNatClampNeg)) else none) = _
  rw [if_pos rfl, if_neg (nI_in hk hn), nI_clamp (by omega)]
theorem sR_n {c : Ce} {C : String} {ci a n k : Nat} {f : Nat → Option Nat} (h : c a = some (.inl (.object C, n, .inr (.inr (.inr (.inr f)))))) (hk : k < n) (hn : n < 2 ^ 31) : sR C ci c a (nI k) none = some (gx_up c a (.inl (.object C, n, .inr (.inr (.inr (.inr (va_up f k none))))))) := by
  unfold sR
  rw [h]
  show (if C = C then (if nI k < 0 ∨ n ≤ (nI k).toNatClampNeg then none else some (gx_up c a (.inl (.object C, n, .inr (.inr (.inr (.inr (va_up f (nI k).toNatClampNeg none)))))))) else none) = _
  rw [if_pos rfl, if_neg (nI_in hk hn), nI_clamp (by omega)]
theorem sR_s {c : Ce} {C : String} {ci a n k v : Nat} {f : Nat → Option Nat} {fs : List Value} (h : c a = some (.inl (.object C, n, .inr (.inr (.inr (.inr f)))))) (hk : k < n) (hn : n < 2 ^ 31) (hv : c v = some (.inr (ci, fs))) : sR C ci c a (nI k) (some v) = some (gx_up c a (.inl (.object C, n, .inr (.inr (.inr (.inr (va_up f k (some v)))))))) := by
  unfold sR
  rw [h]
  show (if C = C then (if nI k < 0 ∨ n ≤ (nI k).toNatClampNeg then none else (match c v with | some (.inr (cj, _)) => if cj = ci then some (gx_up c a (.inl (.object C, n, .inr (.inr (.inr (.inr (va_up f (nI k).toNatClampNeg (some v)))))))) else none | _ => none)) else none) = _
  rw [if_pos rfl, if_neg (nI_in hk hn), nI_clamp (by omega), hv]
  show (if ci = ci then _ else none) = _
  rw [if_pos rfl]
theorem alen_M {c : Ce} {a n : Nat} {f : Nat → Option Nat} (h : c a = some (.inl (.object "FencedStates$Machine", n, .inr (.inr (.inr (.inr f)))))) : alen c a = some (nI n) := by
  unfold alen
  rw [h]
  rfl
theorem alen_S {c : Ce} {a n : Nat} {f : Nat → Option Nat} (h : c a = some (.inl (.object "FencedStates$Search", n, .inr (.inr (.inr (.inr f)))))) : alen c a = some (nI n) := by
  unfold alen
  rw [h]
  rfl
theorem MA_cell {ce : Ce} {U : Nat → Prop} {p : Nat} {M : Mv} (hm : MA ce U p M) : U p ∧ ∃ fs, ce p = some (.inr (3, fs)) := by
  obtain ⟨_, aa, sa, la, Af, Sf, Df, u0, u1, u2, u3, k1, _⟩ := hm
  exact ⟨u0, _, k1⟩
theorem PS_cell {ce : Ce} {nx : Nat} {Z : Nat → Prop} {p : Nat} {V : Sv} (h : PS ce nx Z p V) : Z p ∧ ∃ fs, ce p = some (.inr (6, fs)) := by
  obtain ⟨A, κ, rfl, h2, ⟨mp, at1, h3, _⟩, _⟩ := h
  exact ⟨h2 0 (by omega), _, h3⟩
