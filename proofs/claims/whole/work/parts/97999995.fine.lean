/-! FINE ROWS: the fewest, both sides -/
theorem pop_12 : ∀ a, a < 64 → ((List.range 64).all fun b => decide (m_J6_bitCount_0f7a4 (nI (a * 64 + b)) = some (nI (pcf 13 (a * 64 + b))))) = true := by decide +kernel
theorem pop_n {s : Nat} (h : s < 4096) : m_J6_bitCount_0f7a4 (nI s) = some (nI (cnt (nI s).toInt64)) := by
  rw [pcn (by omega)]
  have h1 := List.all_eq_true.mp (pop_12 (s / 64) (by omega)) (s % 64) (List.mem_range.mpr (by omega))
  have h1 := of_decide_eq_true h1
  rw [show s / 64 * 64 + s % 64 = s by omega] at h1
  exact h1
def fineB (V : Sv) (p : Int32) : Bool := decide (p ≠ 2) && (match lay V p with
  | none => false
  | some l => decide (jdg V.1 (V.1.2.2.2.2 (V.2.1 8)) (barL V.1.1 l) = 0))
theorem sr_isFine (c : Ce) (m : Nat) {μ : MS} {V : Sv} (hr : RV μ V) {j : Nat} (hi : IV j V) (p : Int32) : ∃ ν, m_X12_isFine (wr c m μ) m p = some (if fineB V p = true then 1 else 0, wr c m ν) ∧ KJ μ ν ∧ (fineB V p = true → ∃ l, lay V p = some l ∧ Laid ν l) := by
  unfold m_X12_isFine fineB
  by_cases h2 : p = 2
  · rw [if_pos h2]
    have : decide (p ≠ 2) = false := by simp [h2]
    rw [this, Bool.false_and]
    exact ⟨μ, rfl, KJ_refl μ, fun h => by cases h⟩
  · rw [if_neg h2]
    have : decide (p ≠ 2) = true := by simp [h2]
    rw [this, Bool.true_and]
    obtain ⟨ν, y1, y2, y3⟩ := sr_isLaid c m hr hi p
    have hrν := KJ_RV y3 hr
    rw [wr_rcv, bind_s, y1, bind_s]
    cases hl : lay V p with
    | none =>
      rw [hl] at y2
      exact ⟨ν, rfl, y3, fun h => by cases h⟩
    | some l =>
      rw [hl] at y2
      have y2 : Laid ν l := y2
      show ∃ ν2, (if (1 : Int32) = 0 then _ else (rcv (wr c m ν) 9 m).bind _) = _ ∧ _
      rw [if_neg (by decide), wr_rcv, bind_s]
      show ∃ ν2, ((m_X12_barredAll (wr c m ν) m).bind _) = _ ∧ _
      rw [sr_barredAll c m hrν.1 y2, bind_s, bind_s]
      show ∃ ν2, ((m_X12_judge (wr c m ν) m _).bind _) = _ ∧ _
      rw [sr_judge c m hrν hi.1 hi.2.2.1.2.1, bind_s]
      have hj := jdg_lt V.1 (V.1.2.2.2.2 (V.2.1 8)) (barL V.1.1 l)
      by_cases h0 : jdg V.1 (V.1.2.2.2.2 (V.2.1 8)) (barL V.1.1 l) = 0
      · have hd : decide (jdg V.1 (V.1.2.2.2.2 (V.2.1 8)) (barL V.1.1 l) = 0) = true := by simp [h0]
        rw [if_pos (by rw [h0]; rfl)]
        exact ⟨ν, by rw [if_pos hd], y3, fun _ => ⟨l, rfl, y2⟩⟩
      · have hd : ¬ decide (jdg V.1 (V.1.2.2.2.2 (V.2.1 8)) (barL V.1.1 l) = 0) = true := by simp [h0]
        have hz : ¬ nI (jdg V.1 (V.1.2.2.2.2 (V.2.1 8)) (barL V.1.1 l)) = (0 : Int32) := fun z => h0 ((nI_eq (b := 0) (by omega) (by omega)).mp z)
        rw [if_neg hz]
        exact ⟨ν, by rw [if_neg hd], y3, fun h => absurd h hd⟩
theorem jdg_ini {M : Mv} {g x : Int64} (h : jdg M g x = 0) : x &&& M.2.2.1 = 0 := by
  refine Classical.byContradiction fun hn => ?_
  unfold jdg at h
  rw [if_neg hn] at h
  cases h
/-- what the class says of fineness -/
theorem c_fine {ce : Ce} {nx : Nat} {A : Nat → Nat} {κ : Nat × Nat × Nat} {V : Sv} {x j : Nat} (hx : XS ce x A) (h : SS ce nx A κ V) (hi : IV j V) {p : Int32} (h2 : p ≠ 2) : ∃ v, m_X11_judged ce x p = some v ∧ (v = 0 ↔ fineB V p = true) := by
  refine ⟨_, c_judged hx h hi p, ?_⟩
  unfold fineB
  have : decide (p ≠ 2) = true := by simp [h2]
  rw [this, Bool.true_and]
  cases hl : lay V p with
  | none =>
    show (-1 : Int32) = 0 ↔ false = true
    exact ⟨fun z => absurd z (by decide), fun z => by cases z⟩
  | some l =>
    have hj := jdg_lt V.1 (V.1.2.2.2.2 (V.2.1 8)) (barL V.1.1 l)
    show nI (jdg V.1 (V.1.2.2.2.2 (V.2.1 8)) (barL V.1.1 l)) = (0 : Int32) ↔ decide (jdg V.1 (V.1.2.2.2.2 (V.2.1 8)) (barL V.1.1 l) = 0) = true
    rw [decide_eq_true_iff]
    exact nI_eq (b := 0) (by omega) (by omega)
theorem sr_fewestOf (c : Ce) (m : Nat) {μ : MS} {V : Sv} (hr : RV μ V) {j : Nat} (hi : IV j V) (p : Int32) : ∃ v ν, m_X12_fewestOf (wr c m μ) m p = some (v, wr c m ν) ∧ RV ν V ∧ Kp μ ν ∧ (¬ fineB V p = true → v = -1) ∧ (fineB V p = true → ∃ l, lay V p = some l ∧ (l.length ≤ 12 → ∃ o, Best (goodB V.1 (V.1.2.2.2.2 (V.2.1 8)) (cuT V.1.1 l) l.length) (2 ^ l.length) o ∧ v = oI o) ∧ (12 < l.length → v = -1)) := by
  have h8 := hi.2.2.1.2.1
  obtain ⟨ν, f1, f2, f3⟩ := sr_isFine c m hr hi p
  have hrν := KJ_RV f2 hr
  have key : Ok (m_X12_fewestOf (wr c m μ) m p) (fun z => ∃ v ν, z = (v, wr c m ν) ∧ RV ν V ∧ Kp μ ν ∧ (¬ fineB V p = true → v = -1) ∧ (fineB V p = true → ∃ l, lay V p = some l ∧ (l.length ≤ 12 → ∃ o, Best (goodB V.1 (V.1.2.2.2.2 (V.2.1 8)) (cuT V.1.1 l) l.length) (2 ^ l.length) o ∧ v = oI o) ∧ (12 < l.length → v = -1))) := by
    unfold m_X12_fewestOf
    rw [wr_rcv, bind_s, f1, bind_s]
    by_cases hf : fineB V p = true
    · obtain ⟨l, l1, l2⟩ := f3 hf
      have hl5 := l2.2.1
      have e12 : nI l.length ≤ (12 : Int32) ↔ l.length ≤ 12 := nI_leI (b := 12) (by omega) (by omega)
      rw [if_pos hf]
      show Ok (if (1 : Int32) = 0 then _ else (gI (wr c m ν) 9 31 m).bind _) _
      rw [if_neg (by decide), wr_g31, bind_s, l2.1]
      by_cases h12 : l.length ≤ 12
      · rw [if_pos (e12.mpr h12)]
        refine ok_mono (sr_fewLoop c m hrν hi.1 h8 l2 h12) ?_
        rintro z ⟨o, ν2, b1, b2, b3, b4⟩
        exact ⟨oI o, ν2, b2, b3, Kp_trans (KJ_Kp f2) b4, fun h => absurd hf h, fun _ => ⟨l, l1, fun _ => ⟨o, b1, rfl⟩, fun h => by omega⟩⟩
      · rw [if_neg (fun z => h12 (e12.mp z))]
        exact ok_some ⟨-1, ν, rfl, hrν, KJ_Kp f2, fun _ => rfl, fun _ => ⟨l, l1, fun h => absurd h h12, fun _ => rfl⟩⟩
    · rw [if_neg hf]
      show Ok (if (0 : Int32) = 0 then _ else _) _
      rw [if_pos rfl]
      exact ok_some ⟨-1, ν, rfl, hrν, KJ_Kp f2, fun _ => rfl, fun h => absurd h hf⟩
  obtain ⟨_, hv, v, ν2, rfl, r⟩ := key
  exact ⟨v, ν2, hv, r⟩
theorem c_chosen {ce : Ce} {nx : Nat} {Z : Nat → Prop} {A : Nat → Nat} {κ : Nat × Nat × Nat} {V : Sv} {x j ch a b : Nat} {S0 T0 : Nat → Int64} (hx : XS ce x A) (h : SZ ce nx Z A κ V) (hLv : Liv nx Z A) (hi : IV j V) (hc : gA ce 8 10 x = some ch) (hC : CHc ce ch a b S0 T0) (hd : ch ≠ a ∧ ch ≠ b ∧ a ≠ b) (hA : ∀ i, i < 13 → A i ≠ a ∧ A i ≠ b) (hZ : ¬ Z a ∧ ¬ Z b) (p : Int32) : ∃ v d, m_X11_chosen ce x p = some (v, d) ∧ (∃ S T, CHc d ch a b S T) ∧ (∀ q, q ≠ a → q ≠ b → d q = ce q) ∧ (¬ fineB V p = true → v = -1) ∧ (fineB V p = true → ∃ l, lay V p = some l ∧ (l.length ≤ 12 → ∃ o, Best (goodB V.1 (V.1.2.2.2.2 (V.2.1 8)) (cuT V.1.1 l) l.length) (2 ^ l.length) o ∧ v = oI o) ∧ (12 < l.length → v = -1)) := by
  unfold m_X11_chosen
  by_cases h2 : p = 2
  · have hf : ¬ fineB V p = true := by
      unfold fineB
      simp [h2]
    exact ⟨-1, ce, by rw [if_pos h2], ⟨S0, T0, hC⟩, fun _ _ _ => rfl, fun _ => rfl, fun h => absurd h hf⟩
  · obtain ⟨v0, j1, j2⟩ := c_fine hx h.1 hi h2
    obtain ⟨x0, w, x1, x2⟩ := id hx
    rw [if_neg h2, x0, bind_s, j1, bind_s]
    by_cases hf : fineB V p = true
    · rw [if_pos (j2.mpr hf), hc, bind_s, bind_s]
      rcases c_lay hx h.1 hi p with ⟨h1, _⟩ | ⟨bb, lr, st, cap, l, hb, ⟨h1, hmap, _⟩, h4, h5, h6, h7, h9, h10⟩
      · unfold fineB at hf
        rw [h1] at hf
        simp at hf
      · have hj0 : jdg V.1 (V.1.2.2.2.2 (V.2.1 8)) (barL V.1.1 l) = 0 := by
          unfold fineB at hf
          rw [h1] at hf
          exact of_decide_eq_true (Bool.and_eq_true_iff.mp hf).2
        have hmap := hmap h2
        have hst : ∀ e : Ce, (∀ q, q ≠ a → q ≠ b → e q = ce q) → SS e nx A κ V ∧ RW e (A bb) (A (bb + 1)) (A (bb + 2)) (A (bb + 3)) cap lr := fun e he => by
          have hA2 : ∀ i, i < 13 → e (A i) = ce (A i) := fun i hi => he _ (hA i hi).1 (hA i hi).2
          exact ⟨(SZ_congr h hLv hA2 (fun q hq => he q (fun z => hZ.1 (z ▸ hq)) (fun z => hZ.2 (z ▸ hq))) (Nat.le_refl _) (fun _ hq => hq)).1, RW_congr (hA2 _ (by omega)) (hA2 _ (by omega)) (hA2 _ (by omega)) (hA2 _ (by omega)) h6⟩
        obtain ⟨⟨v, d⟩, g1, g2, g3, g4⟩ := c_choose hC hd hst hi h7 h9 (by rw [hmap]; exact jdg_ini hj0)
        have hlen : lr.length - st = l.length := by
          rw [← hmap, List.length_map, List.length_drop]
        rw [hmap, hlen] at g2
        have hch : rcv ce 1 ch = some () := rcv_c hC.1
        rw [h4, bind_s, bind_s, h5, bind_s, x1, bind_s, x2, bind_s, hch, bind_s, g1, bind_s]
        exact ⟨v, d, rfl, g3, g4, fun hn => absurd hf hn, fun _ => ⟨l, h1, g2.1, g2.2⟩⟩
    · have hv : ¬ v0 = 0 := fun z => hf (j2.mp z)
      exact ⟨-1, ce, by rw [if_neg hv], ⟨S0, T0, hC⟩, fun _ _ _ => rfl, fun _ => rfl, fun h => absurd h hf⟩
theorem e_chosen {ce : Ce} {nx : Nat} {Z : Nat → Prop} {A : Nat → Nat} {κ : Nat × Nat × Nat} {V : Sv} {c : Ce} {m : Nat} {μ : MS} {x j ch a b : Nat} {S0 T0 : Nat → Int64} (hx : XS ce x A) (h : SZ ce nx Z A κ V) (hLv : Liv nx Z A) (hr : RV μ V) (hi : IV j V) (hc : gA ce 8 10 x = some ch) (hC : CHc ce ch a b S0 T0) (hd : ch ≠ a ∧ ch ≠ b ∧ a ≠ b) (hA : ∀ i, i < 13 → A i ≠ a ∧ A i ≠ b) (hZ : ¬ Z a ∧ ¬ Z b) (p : Int32) : ∃ v d ν, m_X11_chosen ce x p = some (v, d) ∧ m_X12_fewestOf (wr c m μ) m p = some (v, wr c m ν) ∧ (∃ S T, CHc d ch a b S T) ∧ (∀ q, q ≠ a → q ≠ b → d q = ce q) ∧ RV ν V ∧ Kp μ ν ∧ (v = -1 ∨ ∃ s, s < 4096 ∧ v = nI s) := by
  obtain ⟨v, d, k1, k2, k3, k4, k5⟩ := c_chosen hx h hLv hi hc hC hd hA hZ p
  obtain ⟨u, ν, r1, r2, r3, r4, r5⟩ := sr_fewestOf c m hr hi p
  have huv : u = v ∧ (v = -1 ∨ ∃ s, s < 4096 ∧ v = nI s) := by
    by_cases hf : fineB V p = true
    · obtain ⟨l, l1, l2, l3⟩ := k5 hf
      obtain ⟨l', m1, m2, m3⟩ := r5 hf
      rw [l1] at m1
      obtain rfl := Option.some.inj m1
      by_cases h12 : l.length ≤ 12
      · obtain ⟨o, o1, o2⟩ := l2 h12
        obtain ⟨o', p1, p2⟩ := m2 h12
        obtain rfl := Best_one o1 p1
        refine ⟨p2.trans o2.symm, ?_⟩
        rw [o2]
        cases o with
        | none => exact Or.inl rfl
        | some s =>
          refine Or.inr ⟨s, ?_, rfl⟩
          have h2 : 2 ^ l.length ≤ 2 ^ 12 := Nat.pow_le_pow_right (by omega) h12
          have h3 := o1.1
          omega
      · have e1 := l3 (by omega)
        exact ⟨(m3 (by omega)).trans e1.symm, Or.inl e1⟩
    · exact ⟨(r4 hf).trans (k4 hf).symm, Or.inl (k4 hf)⟩
  obtain ⟨rfl, h6⟩ := huv
  exact ⟨u, d, ν, k1, r1, k2, k3, r2, r3, h6⟩
theorem e_fewest {ce : Ce} {nx : Nat} {Z : Nat → Prop} {A : Nat → Nat} {κ : Nat × Nat × Nat} {V : Sv} {c : Ce} {m : Nat} {μ : MS} {x j ch a b : Nat} {S0 T0 : Nat → Int64} (hx : XS ce x A) (h : SZ ce nx Z A κ V) (hLv : Liv nx Z A) (hr : RV μ V) (hi : IV j V) (hc : gA ce 8 10 x = some ch) (hC : CHc ce ch a b S0 T0) (hd : ch ≠ a ∧ ch ≠ b ∧ a ≠ b) (hA : ∀ i, i < 13 → A i ≠ a ∧ A i ≠ b) (hZ : ¬ Z a ∧ ¬ Z b) (p : Int32) : (∃ v d ν, m_X11_chosen ce x p = some (v, d) ∧ m_X12_chosen (wr c m μ) m p = some (v, wr c m ν) ∧ (∃ S T, CHc d ch a b S T) ∧ (∀ q, q ≠ a → q ≠ b → d q = ce q) ∧ RV ν V ∧ Kp μ ν) ∧ ∃ v d ν, m_X11_fewest ce x p = some (v, d) ∧ m_X12_fewest (wr c m μ) m p = some (v, wr c m ν) ∧ (∃ S T, CHc d ch a b S T) ∧ (∀ q, q ≠ a → q ≠ b → d q = ce q) ∧ RV ν V ∧ Kp μ ν := by
  obtain ⟨v, d, ν, k1, k2, k3, k4, k5, k6, k7⟩ := e_chosen (c := c) (m := m) hx h hLv hr hi hc hC hd hA hZ p
  refine ⟨⟨v, d, ν, k1, by unfold m_X12_chosen; rw [wr_rcv, bind_s, k2, bind_s], k3, k4, k5, k6⟩, ?_⟩
  unfold m_X11_fewest m_X12_fewest
  rw [hx.1, bind_s, k1, bind_s, wr_rcv, bind_s, k2, bind_s]
  by_cases hv : v = -1
  · rw [if_pos hv, if_pos hv]
    exact ⟨-1, d, ν, rfl, rfl, k3, k4, k5, k6⟩
  · rw [if_neg hv, if_neg hv]
    rcases k7 with h7 | ⟨s, hs, rfl⟩
    · exact absurd h7 hv
    · rw [pop_n hs, bind_s, sr_many, bind_s]
      exact ⟨_, d, ν, rfl, rfl, k3, k4, k5, k6⟩
