/-! FORMS of the reference: its piles -/
def PIL (g : Nat → Int64) : List (Nat → Int64) → Prop
  | [] => True
  | x :: vs => (∀ i, i < 4 → g (4 * vs.length + i) = x i) ∧ PIL g vs
def SGN (g : Nat → Int32) : List Nat → Prop
  | [] => True
  | o :: os => g os.length = nI o ∧ SGN g os
theorem PIL_k {g g2 : Nat → Int64} : ∀ vs, PIL g vs → (∀ k, k < 4 * vs.length → g2 k = g k) → PIL g2 vs := by
  intro vs
  induction vs with
  | nil => intro _ _; trivial
  | cons x vs ih =>
    intro h hk
    rw [List.length_cons] at hk
    exact ⟨fun i hi => (hk _ (by omega)).trans (h.1 i hi), ih h.2 (fun k h2 => hk k (by omega))⟩
theorem SGN_k {g g2 : Nat → Int32} : ∀ os, SGN g os → (∀ k, k < os.length → g2 k = g k) → SGN g2 os := by
  intro os
  induction os with
  | nil => intro _ _; trivial
  | cons o os ih =>
    intro h hk
    rw [List.length_cons] at hk
    exact ⟨(hk _ (by omega)).trans h.1, ih h.2 (fun k h2 => hk k (by omega))⟩
/-- all but tokens and piles is kept -/
def KG (μ ν : MS) : Prop := (∀ r, r ≠ 8 → ν.1 r = μ.1 r) ∧ (∀ r, r ≠ 7 → ν.2.1 r = μ.2.1 r) ∧ ν.2.2.1 = μ.2.2.1 ∧ ∀ r, (r < 3 ∨ 9 < r) → ν.2.2.2 r = μ.2.2.2 r
theorem KG_refl (μ : MS) : KG μ μ := ⟨fun _ _ => rfl, fun _ _ => rfl, rfl, fun _ _ => rfl⟩
theorem KG_trans {μ ν ρ : MS} (h : KG μ ν) (g : KG ν ρ) : KG μ ρ := ⟨fun r hr => (g.1 r hr).trans (h.1 r hr), fun r hr => (g.2.1 r hr).trans (h.2.1 r hr), g.2.2.1.trans h.2.2.1, fun r hr => (g.2.2.2 r hr).trans (h.2.2.2 r hr)⟩
theorem KG_N {μ ν : MS} (h : KN μ ν) : KG μ ν := ⟨fun _ _ => by rw [h.1], fun _ _ => by rw [h.2.1], h.2.2.1, fun r hr => h.2.2.2 r (by omega)⟩
theorem KG_n (μ : MS) {r : Nat} (v : Int32) (h1 : 3 ≤ r) (h2 : r ≤ 9) : KG μ (muN μ r v) := ⟨fun _ _ => rfl, fun _ _ => rfl, rfl, fun s hs => mn_n μ v (by omega)⟩
theorem KG_L (μ : MS) (g : Nat → Int64) : KG μ (muL μ 7 g) := ⟨fun _ _ => rfl, fun _ hr => up_n _ _ _ hr, rfl, fun _ _ => rfl⟩
theorem KG_I (μ : MS) (g : Nat → Int32) : KG μ (muI μ 8 g) := ⟨fun _ hr => up_n _ _ _ hr, fun _ _ => rfl, rfl, fun _ _ => rfl⟩
theorem Byt_g {μ ν : MS} {n : Nat} {f : Nat → Nat} (h : Byt μ n f) (k : KG μ ν) : Byt ν n f := ⟨(k.2.2.2 0 (by omega)).trans h.1, h.2.1, fun j hj => by rw [k.1 6 (by decide)]; exact h.2.2 j hj⟩
theorem At_k {μ ν : MS} {n j : Nat} {f : Nat → Nat} (h : At μ f n j) (k : ∀ r, 3 ≤ r → r ≤ 6 → ν.2.2.2 r = μ.2.2.2 r) : At ν f n j := by
  unfold At TkR at h ⊢
  rw [k 3 (by omega) (by omega), k 4 (by omega) (by omega), k 5 (by omega) (by omega), k 6 (by omega) (by omega)]
  exact h
/-- where the reference stands in a form -/
def St (μ : MS) (f : Nat → Nat) (n j : Nat) (vs : List (Nat → Int64)) (os : List Nat) (d : Nat) : Prop := Byt μ n f ∧ At μ f n j ∧ μ.2.2.2 7 = nI vs.length ∧ μ.2.2.2 8 = nI os.length ∧ μ.2.2.2 9 = nI d ∧ PIL (μ.2.1 7) vs ∧ SGN (μ.1 8) os
theorem wr_q14 (c : Ce) (m : Nat) (μ : MS) {k : Nat} (hk : k < 160) : aL (wr c m μ) (m + 8) (nI k) = some (μ.2.1 7 k) := by
  rw [wr_r14, if_neg (nI_in hk (by omega)), nI_clamp (by omega)]
theorem wr_w14 (c : Ce) (m : Nat) (μ : MS) {k : Nat} (hk : k < 160) (v : Int64) : sL (wr c m μ) (m + 8) (nI k) v = some (wr c m (muL μ 7 (va_up (μ.2.1 7) k v))) := by
  rw [wr_s14, if_neg (nI_in hk (by omega)), nI_clamp (by omega)]
  rfl
theorem wr_q15 (c : Ce) (m : Nat) (μ : MS) {k : Nat} (hk : k < 80) : aI (wr c m μ) (m + 9) (nI k) = some (μ.1 8 k) := by
  rw [wr_r15, if_neg (nI_in hk (by omega)), nI_clamp (by omega)]
theorem wr_w15 (c : Ce) (m : Nat) (μ : MS) {k : Nat} (hk : k < 80) (v : Int32) : sI (wr c m μ) (m + 9) (nI k) v = some (wr c m (muI μ 8 (va_up (μ.1 8) k v))) := by
  rw [wr_s15, if_neg (nI_in hk (by omega)), nI_clamp (by omega)]
  rfl
theorem mL_e (μ : MS) (g : Nat → Int64) (r : Nat) : (muL μ r g).2.1 r = g := up_e _ _ _
theorem mI_e (μ : MS) (g : Nat → Int32) (r : Nat) : (muI μ r g).1 r = g := up_e _ _ _
/-- a value is put on -/
def v4 (x0 x1 x2 x3 : Int64) (i : Nat) : Int64 := match i with
  | 0 => x0
  | 1 => x1
  | 2 => x2
  | _ => x3
theorem sr_push (c : Ce) (m : Nat) {μ : MS} {n j d : Nat} {f : Nat → Nat} {vs : List (Nat → Int64)} {os : List Nat} (h : St μ f n j vs os d) (hv : vs.length < 40) (x0 x1 x2 x3 : Int64) : ∃ ν, m_X12_push (wr c m μ) m x0 x1 x2 x3 = some ((), wr c m ν) ∧ KG μ ν ∧ St ν f n j (v4 x0 x1 x2 x3 :: vs) os d := by
  obtain ⟨h1, h2, h3, h4, h5, h6, h7⟩ := h
  unfold m_X12_push
  have e0 : (4 : Int32) * nI vs.length = nI (4 * vs.length) := by rw [nl_4, pk_mul]
  rw [wr_g14, bind_s, wr_g16, bind_s, h3, e0, wr_w14 c m μ (by omega), bind_s]
  have z1 : (muL μ 7 (va_up (μ.2.1 7) (4 * vs.length) x0)).2.2.2 7 = nI vs.length := h3
  rw [wr_g14, bind_s, wr_g16, bind_s, z1, e0, nI_1, wr_w14 c m _ (by omega), bind_s, mL_e]
  have z2 : ∀ ν g, ν.2.2.2 7 = nI vs.length → (muL ν 7 g).2.2.2 7 = nI vs.length := fun ν g h => h
  have z3 := z2 _ (va_up (va_up (μ.2.1 7) (4 * vs.length) x0) (4 * vs.length + 1) x1) z1
  rw [wr_g14, bind_s, wr_g16, bind_s, z3, e0, nl_2, nI_add, wr_w14 c m _ (by omega), bind_s, mL_e]
  have z4 := z2 _ (va_up (va_up (va_up (μ.2.1 7) (4 * vs.length) x0) (4 * vs.length + 1) x1) (4 * vs.length + 2) x2) z3
  rw [wr_g14, bind_s, wr_g16, bind_s, z4, e0, nl_3, nI_add, wr_w14 c m _ (by omega), bind_s, mL_e]
  have z5 := z2 _ (va_up (va_up (va_up (va_up (μ.2.1 7) (4 * vs.length) x0) (4 * vs.length + 1) x1) (4 * vs.length + 2) x2) (4 * vs.length + 3) x3) z4
  rw [wr_g16, bind_s, z5, nI_1, wr_n16, bind_s]
  refine ⟨_, rfl, KG_trans (KG_L μ _) (KG_trans (KG_L _ _) (KG_trans (KG_L _ _) (KG_trans (KG_L _ _) (KG_n _ _ (by omega) (by omega))))), ?_⟩
  refine ⟨Byt_g h1 (KG_trans (KG_L μ _) (KG_trans (KG_L _ _) (KG_trans (KG_L _ _) (KG_trans (KG_L _ _) (KG_n _ _ (by omega) (by omega)))))), At_k h2 (fun r q1 q2 => mn_n _ _ (by omega)), by rw [mn_e, List.length_cons], (mn_n _ _ (by decide)).trans h4, (mn_n _ _ (by decide)).trans h5, ?_, h7⟩
  have e7 : ∀ (ν : MS) (g : Nat → Int64) (r : Nat) (v : Int32), (muN (muL ν 7 g) r v).2.1 7 = g := fun ν g r v => mL_e ν g 7
  rw [e7]
  refine ⟨fun i hi => ?_, PIL_k vs h6 (fun k hk => ?_)⟩
  · rcases i with _ | _ | _ | _ | i
    · rw [up_n _ _ _ (by omega), up_n _ _ _ (by omega), up_n _ _ _ (by omega)]
      exact up_e _ _ _
    · rw [up_n _ _ _ (by omega), up_n _ _ _ (by omega)]
      exact up_e _ _ _
    · rw [up_n _ _ _ (by omega)]
      exact up_e _ _ _
    · exact up_e _ _ _
    · omega
  · rw [up_n _ _ _ (by omega), up_n _ _ _ (by omega), up_n _ _ _ (by omega), up_n _ _ _ (by omega)]
/-- what a sign between makes of two -/
def bop (o : Nat) (x y : Nat → Int64) (i : Nat) : Int64 := if o = 38 then x i &&& y i else if o = 94 then x i ^^^ y i else x i ||| y i
def vnot (x : Nat → Int64) (i : Nat) : Int64 := x i ^^^ (-1 : Int64)
theorem sr_not (c : Ce) (m : Nat) {μ : MS} {n j d : Nat} {f : Nat → Nat} {x : Nat → Int64} {vs : List (Nat → Int64)} {os : List Nat} (h : St μ f n j (x :: vs) os (d + 1)) (hv : vs.length < 40) : ∃ ν, m_X12_apply (wr c m μ) m (33 : Int32) = some ((), wr c m ν) ∧ KG μ ν ∧ St ν f n j (vnot x :: vs) os d := by
  obtain ⟨h1, h2, h3, h4, h5, h6, h7⟩ := h
  have key : Ok (m_X12_apply (wr c m μ) m (33 : Int32)) (fun o => ∃ ν, o = ((), wr c m ν) ∧ KG μ ν ∧ St ν f n j (vnot x :: vs) os d) := by
    unfold m_X12_apply
    rw [wr_g16, bind_s, if_pos rfl, h3, List.length_cons]
    have e0 : ((4 : Int32) * nI (vs.length + 1)) - (4 : Int32) = nI (4 * vs.length) := by rw [nl_4, pk_mul, nI_sb (by omega), show 4 * (vs.length + 1) - 4 = 4 * vs.length by omega]
    rw [e0]
    refine ok_call (P := fun o => ∃ ν, o.2 = wr c m ν ∧ KG μ ν ∧ ν.1 = μ.1 ∧ ν.2.2.2 = μ.2.2.2 ∧ (∀ i, i < 4 → ν.2.1 7 (4 * vs.length + i) = vnot x i) ∧ ∀ k, k < 4 * vs.length → ν.2.1 7 k = μ.2.1 7 k) (ok_cnt 0 4 (fun i st => st.1 = nI i ∧ ∃ ν, st.2 = wr c m ν ∧ KG μ ν ∧ ν.1 = μ.1 ∧ ν.2.2.2 = μ.2.2.2 ∧ (∀ t, t < i → ν.2.1 7 (4 * vs.length + t) = vnot x t) ∧ (∀ t, i ≤ t → t < 4 → ν.2.1 7 (4 * vs.length + t) = x t) ∧ ∀ k, k < 4 * vs.length → ν.2.1 7 k = μ.2.1 7 k) (by omega) (by omega) ⟨rfl, μ, rfl, KG_refl μ, rfl, rfl, fun _ h => by omega, fun t _ ht => h6.1 t ht, fun _ _ => rfl⟩ ?_ ?_) (fun o h => ?_)
    · rintro i ⟨u, e⟩ hi ⟨hu, ν, he, q1, q2, q3, q4, q5, q6⟩
      have hu : u = nI i := hu
      have he : e = wr c m ν := he
      subst hu he
      show Ok (if (4 : Int32) ≤ nI i then _ else (gA (wr c m ν) 9 14 m).bind fun zx28 => (gA (wr c m ν) 9 14 m).bind fun zx29 => (aL (wr c m ν) zx29 (nI (4 * vs.length) + nI i)).bind fun zx30 => (sL (wr c m ν) zx28 (nI (4 * vs.length) + nI i) (zx30 ^^^ (-1 : Int64))).bind fun zc31 => some (Sum.inl ((nI i + (1 : Int32)), zc31))) _
      rw [if_neg (show ¬ (4 : Int32) ≤ nI i from nI_ge (b := 4) hi (by omega)), wr_g14, bind_s, bind_s, nI_add, wr_q14 c m ν (by omega), bind_s, wr_w14 c m ν (by omega), bind_s, nI_1]
      refine ok_some ⟨rfl, _, rfl, KG_trans q1 (KG_L ν _), q2, q3, fun t ht => ?_, fun t h1 h2 => ?_, fun k hk => ?_⟩
      · rw [mL_e]
        by_cases e : t = i
        · rw [e, up_e, q5 i (by omega) hi]
          rfl
        · rw [up_n _ _ _ (by omega)]
          exact q4 t (by omega)
      · rw [mL_e, up_n _ _ _ (by omega)]
        exact q5 t (by omega) h2
      · rw [mL_e, up_n _ _ _ (by omega)]
        exact q6 k hk
    · rintro ⟨u, e⟩ ⟨hu, ν, he, q1, q2, q3, q4, q5, q6⟩
      have hu : u = nI 4 := hu
      subst hu
      show Ok (if (4 : Int32) ≤ nI 4 then _ else _) _
      rw [if_pos (by decide)]
      exact ok_some ⟨ν, he, q1, q2, q3, q4, q6⟩
    · obtain ⟨ν, q0, q1, q2, q3, q4, q6⟩ := h
      have h9 : ν.2.2.2 9 = nI (d + 1) := by rw [q3]; exact h5
      rw [q0, wr_g18, bind_s, h9, nI_pred, wr_n18, bind_s]
      refine ok_some ⟨_, rfl, KG_trans q1 (KG_n _ _ (by omega) (by omega)), Byt_g h1 (KG_trans q1 (KG_n _ _ (by omega) (by omega))), At_k h2 (fun r a1 a2 => (mn_n _ _ (by omega)).trans (by rw [q3])), ((mn_n _ _ (by decide)).trans (by rw [q3])).trans h3, ((mn_n _ _ (by decide)).trans (by rw [q3])).trans h4, mn_e _ _ _, ⟨q4, PIL_k vs h6.2 q6⟩, by show SGN (ν.1 8) os; rw [q2]; exact h7⟩
  obtain ⟨_, hv, ν, rfl, q⟩ := key
  exact ⟨ν, hv, q⟩
