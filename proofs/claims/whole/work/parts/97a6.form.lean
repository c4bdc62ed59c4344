/-! FORMS: the reference reads one, and lays it down -/
theorem it_end {σ ρ : Type} {body : σ → Option (σ ⊕ ρ)} (t : Nat) {s : σ} {o : ρ} (h : body s = some (.inr o)) : it body (t + 1) s = some o := by
  show (body s).bind _ = _
  rw [h, bind_s]
  rfl
theorem FU_split {k : Nat} (hk : k ≤ 300) : ∃ t, FU = k + (t + 1) := by
  have h : k + 1 < FU := lt_FU (by omega)
  exact ⟨FU - k - 1, by omega⟩
theorem sr_form (c : Ce) (m : Nat) {μ : MS} {n j L : Nat} {nx : Bool} {f : Nat → Nat} (hB : Byt μ n f) (hA : At μ f n j) (hL : μ.2.2.2 10 = nI L) (hL6 : L ≤ 6) (hx : μ.2.2.2 11 = if nx = true then 1 else 0) (hj : j ≤ 300) : (∀ e, pF (tK f n) (tV f n) L nx 64 0 0 j = .inl e → ∃ ν, m_X12_form (wr c m μ) m = some (nI e.1, wr c m ν) ∧ KG μ ν ∧ At ν f n e.2 ∧ e.2 ≤ 300 ∧ 0 < e.1 ∧ e.1 < 7) ∧ (∀ y, pF (tK f n) (tV f n) L nx 64 0 0 j = .inr y → ∃ ν, m_X12_form (wr c m μ) m = some (0, wr c m ν) ∧ KG μ ν ∧ At ν f n y.2 ∧ y.2 ≤ 300 ∧ ∀ i, i < 4 → ν.2.1 7 i = y.1 i) := by
  have hn := hB.2.1
  have k0 : KG μ (muN (muN (muN μ 7 0) 8 0) 9 0) := KG_trans (KG_n _ _ (by omega) (by omega)) (KG_trans (KG_n _ _ (by omega) (by omega)) (KG_n _ _ (by omega) (by omega)))
  have hS : St (muN (muN (muN μ 7 0) 8 0) 9 0) f n j [] [] 0 := ⟨Byt_g hB k0, At_k hA (fun r a1 a2 => ((mn_n _ _ (by omega)).trans (mn_n _ _ (by omega))).trans (mn_n _ _ (by omega))), ((mn_n _ _ (by decide)).trans (mn_n _ _ (by decide))).trans (mn_e _ _ _), (mn_n _ _ (by decide)).trans (mn_e _ _ _), mn_e _ _ _, trivial, trivial⟩
  have hgo := sr_LB (c := c) (m := m) (nx := nx) hn hL6 64 0 0 j [] [] _ (by omega) (by omega) (by omega) hS ((k0.2.2.2 10 (by omega)).trans hL) ((k0.2.2.2 11 (by omega)).trans hx) (Nat.zero_le _) (Nat.zero_le _) (fun o ho => by cases ho) hj (fun _ => Nat.le_refl _)
  have e0 : m_X12_form (wr c m μ) m = (it (fbd m) FU ((0 : Int32), wr c m (muN (muN (muN μ 7 0) 8 0) 9 0))).bind fun (zo5 : (Int32 ⊕ Unit) × Ce) => Sum.elim (fun wzo5 => some (wzo5, zo5.2)) (fun (_ : Unit) => none) zo5.1 := by
    rw [sr_form0, wr_n16, bind_s, wr_n17, bind_s, wr_n18, bind_s]
  generalize muN (muN (muN μ 7 0) 8 0) 9 0 = μ0 at k0 hS hgo e0
  refine ⟨fun e he => ?_, fun y hy => ?_⟩
  · obtain ⟨ν, s, a1, a2, a3, a4, a5, a6, a7, a8⟩ := hgo.1 e he
    obtain ⟨t, ht⟩ := FU_split (k := e.2 - j) (by omega)
    refine ⟨ν, ?_, KG_trans k0 a1, a4, a6, a7, a8⟩
    rw [e0, ht, Run_it _ _ _ _ a2, it_end t a3, bind_s, Sum.elim_inl]
  · obtain ⟨ν, os2, vs2, d2, a1, a2, a3, a4, a5, a6, a7, a8⟩ := hgo.2.1 y hy (by omega)
    obtain ⟨hlt, hnb⟩ := pF_r (tK_300 (f := f) hn) _ _ _ _ _ hy
    have hnb2 : ¬ (tK f n y.2 = 5 ∧ (tV f n y.2 = 38 ∨ tV f n y.2 = 94 ∨ tV f n y.2 = 124)) := fun z => by
      rcases z with ⟨z1, z2 | z2 | z2⟩
      · exact hnb 2 (by omega) (by omega) ⟨z1, z2⟩
      · exact hnb 1 (by omega) (by omega) ⟨z1, z2⟩
      · exact hnb 0 (by omega) (by omega) ⟨z1, z2⟩
    obtain ⟨q1, q2, q3⟩ := fb_end c m a3 a6 a5 a7 hnb2 a4 (by omega) (Nat.zero_le _) (show 0 + 1 ≤ 39 by omega) (fun o ho => by cases ho)
    obtain ⟨ρ, b1, b2, b3⟩ := q1 rfl
    obtain ⟨t, ht⟩ := FU_split (k := y.2 - j) (by omega)
    refine ⟨ρ, ?_, KG_trans k0 (KG_trans a1 b2), b3.2.1, a8, fun i hi => ?_⟩
    · rw [e0, ht, Run_it _ _ _ _ a2, it_end t b1, bind_s, Sum.elim_inl]
    · have := b3.2.2.2.2.2.1.1 i hi
      rw [show 4 * ([] : List (Nat → Int64)).length + i = i by show 4 * 0 + i = i; omega] at this
      exact this
/-- all but tokens, piles, the forms and 'in next' is kept -/
def KI (μ ν : MS) : Prop := (∀ r, r ≠ 8 → ν.1 r = μ.1 r) ∧ (∀ r, r ≠ 7 → r ≠ 5 → ν.2.1 r = μ.2.1 r) ∧ ν.2.2.1 = μ.2.2.1 ∧ ∀ r, (r < 3 ∨ 9 < r) → r ≠ 11 → ν.2.2.2 r = μ.2.2.2 r
theorem KI_G {μ ν : MS} (h : KG μ ν) : KI μ ν := ⟨h.1, fun r h1 _ => h.2.1 r h1, h.2.2.1, fun r h1 _ => h.2.2.2 r h1⟩
theorem KI_trans {μ ν ρ : MS} (h : KI μ ν) (g : KI ν ρ) : KI μ ρ := ⟨fun r hr => (g.1 r hr).trans (h.1 r hr), fun r hr h2 => (g.2.1 r hr h2).trans (h.2.1 r hr h2), g.2.2.1.trans h.2.2.1, fun r hr h2 => (g.2.2.2 r hr h2).trans (h.2.2.2 r hr h2)⟩
theorem KI_L (μ : MS) (g : Nat → Int64) : KI μ (muL μ 5 g) := ⟨fun _ _ => rfl, fun _ _ h => up_n _ _ _ h, rfl, fun _ _ _ => rfl⟩
theorem KI_11 (μ : MS) (v : Int32) : KI μ (muN μ 11 v) := ⟨fun _ _ => rfl, fun _ _ _ => rfl, rfl, fun r _ h => mn_n _ _ h⟩
theorem Byt_i {μ ν : MS} {n : Nat} {f : Nat → Nat} (h : Byt μ n f) (k : KI μ ν) : Byt ν n f := ⟨(k.2.2.2 0 (by omega) (by decide)).trans h.1, h.2.1, fun j hj => by rw [k.1 6 (by decide)]; exact h.2.2 j hj⟩
theorem wr_z20 (c : Ce) (m : Nat) (μ : MS) (v : Int32) (hv : v = 0 ∨ v = 1) : pZ (wr c m μ) 9 20 m v = some (wr c m (muN μ 11 v)) := by
  unfold pZ
  rw [if_pos hv]
  exact wr_s20 c m μ v
theorem wr_z21 (c : Ce) (m : Nat) (μ : MS) (v : Int32) (hv : v = 0 ∨ v = 1) : pZ (wr c m μ) 9 21 m v = some (wr c m (muN μ 12 v)) := by
  unfold pZ
  rw [if_pos hv]
  exact wr_s21 c m μ v
theorem wr_w5 (c : Ce) (m : Nat) (μ : MS) {k : Nat} (hk : k < 116) (v : Int64) : sL (wr c m μ) (m + 6) (nI k) v = some (wr c m (muL μ 5 (va_up (μ.2.1 5) k v))) := by
  rw [wr_s5, if_neg (nI_in hk (by omega)), nI_clamp (by omega)]
  rfl
theorem mL_n (μ : MS) (g : Nat → Int64) {r s : Nat} (h : s ≠ r) : (muL μ r g).2.1 s = μ.2.1 s := up_n μ.2.1 r g h
theorem mI_n (μ : MS) (g : Nat → Int32) {r s : Nat} (h : s ≠ r) : (muI μ r g).1 s = μ.1 s := up_n μ.1 r g h
def nxI (nx : Bool) : Int32 := if nx = true then 1 else 0
theorem sr_formAt (c : Ce) (m : Nat) {μ : MS} {n j L kk : Nat} {nx : Bool} {f : Nat → Nat} (hB : Byt μ n f) (hA : At μ f n j) (hL : μ.2.2.2 10 = nI L) (hL6 : L ≤ 6) (hj : j ≤ 300) (hk : kk + (if nx = true then 4 else 1) ≤ 116) : (∀ e, pF (tK f n) (tV f n) L nx 64 0 0 j = .inl e → ∃ ν, m_X12_formAt (wr c m μ) m (nI kk) (nxI nx) = some (nI e.1, wr c m ν) ∧ KI μ ν ∧ ν.2.1 5 = μ.2.1 5 ∧ At ν f n e.2 ∧ e.2 ≤ 300 ∧ 0 < e.1 ∧ e.1 < 7) ∧ (∀ y, pF (tK f n) (tV f n) L nx 64 0 0 j = .inr y → ∃ ν, m_X12_formAt (wr c m μ) m (nI kk) (nxI nx) = some (0, wr c m ν) ∧ KI μ ν ∧ At ν f n y.2 ∧ y.2 ≤ 300 ∧ (∀ i, i < (if nx = true then 4 else 1) → ν.2.1 5 (kk + i) = y.1 i) ∧ ∀ q, (q < kk ∨ kk + (if nx = true then 4 else 1) ≤ q) → ν.2.1 5 q = μ.2.1 5 q) := by
  have hz : nxI nx = 0 ∨ nxI nx = 1 := by
    unfold nxI
    split
    · exact Or.inr rfl
    · exact Or.inl rfl
  have k0 := KI_11 μ (nxI nx)
  obtain ⟨f1, f2⟩ := sr_form c m (Byt_i hB k0) (At_k hA (fun r a1 a2 => mn_n _ _ (by omega))) ((mn_n _ _ (by decide)).trans hL) hL6 (nx := nx) (mn_e _ _ _) hj
  refine ⟨fun e he => ?_, fun y hy => ?_⟩
  · obtain ⟨ν, a1, a2, a3, a4, a5, a6⟩ := f1 e he
    refine ⟨ν, ?_, KI_trans k0 (KI_G a2), a2.2.1 5 (by decide), a3, a4, a5, a6⟩
    unfold m_X12_formAt
    rw [wr_z20 c m μ _ hz, bind_s, wr_rcv, bind_s, a1, bind_s, if_neg (nI_ne0 a5 (by omega))]
  · obtain ⟨ν, a1, a2, a3, a4, a5⟩ := f2 y hy
    have key : Ok (m_X12_formAt (wr c m μ) m (nI kk) (nxI nx)) (fun o => ∃ ρ, o = (0, wr c m ρ) ∧ KI μ ρ ∧ At ρ f n y.2 ∧ (∀ i, i < (if nx = true then 4 else 1) → ρ.2.1 5 (kk + i) = y.1 i) ∧ ∀ q, (q < kk ∨ kk + (if nx = true then 4 else 1) ≤ q) → ρ.2.1 5 q = μ.2.1 5 q) := by
      unfold m_X12_formAt
      rw [wr_z20 c m μ _ hz, bind_s, wr_rcv, bind_s, a1, bind_s, if_pos rfl]
      have hcnt : (if nxI nx = 0 then some (1 : Int32) else some (4 : Int32)) = some (nI (if nx = true then 4 else 1)) := by
        unfold nxI
        cases nx <;> rfl
      have hc4 : (if nx = true then 4 else 1) ≤ 4 := by split <;> omega
      generalize (if nx = true then 4 else 1) = cn at hk hcnt hc4 ⊢
      refine ok_call (P := fun o => ∃ ρ, o.2 = wr c m ρ ∧ KI ν ρ ∧ ρ.2.2.2 = ν.2.2.2 ∧ (∀ i, i < cn → ρ.2.1 5 (kk + i) = y.1 i) ∧ ∀ q, (q < kk ∨ kk + cn ≤ q) → ρ.2.1 5 q = ν.2.1 5 q) (ok_cnt 0 cn (fun i st => st.1 = nI i ∧ ∃ ρ, st.2 = wr c m ρ ∧ KI ν ρ ∧ ρ.2.1 7 = ν.2.1 7 ∧ ρ.2.2.2 = ν.2.2.2 ∧ (∀ t, t < i → ρ.2.1 5 (kk + t) = y.1 t) ∧ ∀ q, (q < kk ∨ kk + i ≤ q) → ρ.2.1 5 q = ν.2.1 5 q) (by omega) (by omega) ⟨rfl, ν, rfl, KI_G (KG_refl ν), rfl, rfl, fun _ h => by omega, fun _ _ => rfl⟩ ?_ ?_) (fun o h => ?_)
      · rintro i ⟨u, e⟩ hi ⟨hu, ρ, he, q1, q2, q3, q4, q5⟩
        have hu : u = nI i := hu
        have he : e = wr c m ρ := he
        subst hu he
        show Ok ((if nxI nx = 0 then some (1 : Int32) else some (4 : Int32)).bind fun (zj7 : Int32) => if zj7 ≤ nI i then _ else (gA (wr c m ρ) 9 5 m).bind fun zx8 => (gA (wr c m ρ) 9 14 m).bind fun zx9 => (aL (wr c m ρ) zx9 (nI i)).bind fun zx10 => (sL (wr c m ρ) zx8 (nI kk + nI i) zx10).bind fun zc11 => some (Sum.inl ((nI i + (1 : Int32)), zc11))) _
        rw [hcnt, bind_s, if_le (by omega) (by omega), if_neg (by omega), wr_g5, bind_s, wr_g14, bind_s, wr_q14 c m ρ (by omega), bind_s, q2, a5 i (by omega), nI_add, wr_w5 c m ρ (by omega), bind_s, nI_1]
        refine ok_some ⟨rfl, _, rfl, KI_trans q1 (KI_L ρ _), (mL_n ρ _ (show 7 ≠ 5 by decide)).trans q2, q3, fun t ht => ?_, fun q hq => ?_⟩
        · rw [mL_e]
          by_cases e : t = i
          · rw [e, up_e]
          · rw [up_n _ _ _ (by omega)]
            exact q4 t (by omega)
        · rw [mL_e, up_n _ _ _ (by omega)]
          exact q5 q (by omega)
      · rintro ⟨u, e⟩ ⟨hu, ρ, he, q1, q2, q3, q4, q5⟩
        have hu : u = nI cn := hu
        subst hu
        show Ok ((if nxI nx = 0 then some (1 : Int32) else some (4 : Int32)).bind fun (zj7 : Int32) => if zj7 ≤ nI cn then _ else _) _
        rw [hcnt, bind_s, if_le (by omega) (by omega), if_pos (Nat.le_refl _)]
        exact ok_some ⟨ρ, he, q1, q3, q4, q5⟩
      · obtain ⟨ρ, q0, q1, q3, q4, q5⟩ := h
        rw [q0]
        exact ok_some ⟨ρ, rfl, KI_trans k0 (KI_trans (KI_G a2) q1), At_k a3 (fun r _ _ => by rw [q3]), q4, fun q hq => (q5 q hq).trans (by rw [a2.2.1 5 (by decide)]; rfl)⟩
    obtain ⟨_, hv, ρ, rfl, q1, q2, q3, q4⟩ := key
    exact ⟨ρ, hv, q1, q2, a4, q3, q4⟩
