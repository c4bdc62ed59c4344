/-! FORMS: the reference's loop, turn by turn -/
theorem tK_5 {f : Nat → Nat} {n j : Nat} (h : tK f n j = 5) : isG (tV f n j) = true := by
  unfold tK tkK at h
  unfold tV tkV
  generalize tkq f n (ps f n j) = q at h ⊢
  split at h
  · split at h
    · omega
    · rename_i hF
      split at h
      · exact absurd h (lk_45 f q _).2.1
      · rename_i hS
        split at h
        · rename_i hG
          rw [if_neg hF, if_neg hS]
          exact hG
        · omega
  · omega
theorem isG_b {v : Nat} (h : isG v = true) : v = 40 ∨ v = 41 ∨ v = 33 ∨ v = 38 ∨ v = 94 ∨ v = 124 ∨ v = 59 := by
  unfold isG at h
  simpa using h
theorem isG_r {v : Nat} (h : isG v = true) : 33 ≤ v ∧ v < 128 := by
  have := isG_b h
  omega
theorem rk_b {K V b : Nat} (hb1 : 33 ≤ b) (hb2 : b < 200) : rk K V = b ↔ (K = 5 ∧ V = b) := by
  rcases K with _ | _ | _ | _ | _ | _ | _ | _ | _ | K
  · show 0 = b ↔ (0 = 5 ∧ V = b)
    omega
  · show 2 = b ↔ (1 = 5 ∧ V = b)
    omega
  · show 204 = b ↔ (2 = 5 ∧ V = b)
    omega
  · show 205 = b ↔ (3 = 5 ∧ V = b)
    omega
  · show 1 = b ↔ (4 = 5 ∧ V = b)
    omega
  · show V = b ↔ (5 = 5 ∧ V = b)
    omega
  · show 200 = b ↔ (6 = 5 ∧ V = b)
    omega
  · show 201 = b ↔ (7 = 5 ∧ V = b)
    omega
  · show 202 = b ↔ (8 = 5 ∧ V = b)
    omega
  · show 203 = b ↔ (K + 9 = 5 ∧ V = b)
    omega
theorem rk_lt {K V : Nat} (hG : K = 5 → isG V = true) : rk K V < 256 := by
  have hG := fun z => isG_r (hG z)
  rcases K with _ | _ | _ | _ | _ | _ | _ | _ | _ | K
  · show 0 < 256
    omega
  · show 2 < 256
    omega
  · show 204 < 256
    omega
  · show 205 < 256
    omega
  · show 1 < 256
    omega
  · have := hG rfl
    show V < 256
    omega
  · show 200 < 256
    omega
  · show 201 < 256
    omega
  · show 202 < 256
    omega
  · show 203 < 256
    omega
theorem rk_k {K V : Nat} (hG : K = 5 → isG V = true) (b k : Nat) (hb : rk k 0 = b) (hk : k ≠ 5) (hk8 : k ≤ 8) : rk K V = b ↔ K = k := by
  have hG := fun z => isG_r (hG z)
  subst hb
  rcases k with _ | _ | _ | _ | _ | _ | _ | _ | _ | k
  · show rk K V = 0 ↔ K = 0
    rcases K with _ | _ | _ | _ | _ | _ | _ | _ | _ | K
    · show 0 = 0 ↔ 0 = 0
      omega
    · show 2 = 0 ↔ 1 = 0
      omega
    · show 204 = 0 ↔ 2 = 0
      omega
    · show 205 = 0 ↔ 3 = 0
      omega
    · show 1 = 0 ↔ 4 = 0
      omega
    · have := hG rfl
      show V = 0 ↔ 5 = 0
      omega
    · show 200 = 0 ↔ 6 = 0
      omega
    · show 201 = 0 ↔ 7 = 0
      omega
    · show 202 = 0 ↔ 8 = 0
      omega
    · show 203 = 0 ↔ K + 9 = 0
      omega
  · show rk K V = 2 ↔ K = 1
    rcases K with _ | _ | _ | _ | _ | _ | _ | _ | _ | K
    · show 0 = 2 ↔ 0 = 1
      omega
    · show 2 = 2 ↔ 1 = 1
      omega
    · show 204 = 2 ↔ 2 = 1
      omega
    · show 205 = 2 ↔ 3 = 1
      omega
    · show 1 = 2 ↔ 4 = 1
      omega
    · have := hG rfl
      show V = 2 ↔ 5 = 1
      omega
    · show 200 = 2 ↔ 6 = 1
      omega
    · show 201 = 2 ↔ 7 = 1
      omega
    · show 202 = 2 ↔ 8 = 1
      omega
    · show 203 = 2 ↔ K + 9 = 1
      omega
  · show rk K V = 204 ↔ K = 2
    rcases K with _ | _ | _ | _ | _ | _ | _ | _ | _ | K
    · show 0 = 204 ↔ 0 = 2
      omega
    · show 2 = 204 ↔ 1 = 2
      omega
    · show 204 = 204 ↔ 2 = 2
      omega
    · show 205 = 204 ↔ 3 = 2
      omega
    · show 1 = 204 ↔ 4 = 2
      omega
    · have := hG rfl
      show V = 204 ↔ 5 = 2
      omega
    · show 200 = 204 ↔ 6 = 2
      omega
    · show 201 = 204 ↔ 7 = 2
      omega
    · show 202 = 204 ↔ 8 = 2
      omega
    · show 203 = 204 ↔ K + 9 = 2
      omega
  · show rk K V = 205 ↔ K = 3
    rcases K with _ | _ | _ | _ | _ | _ | _ | _ | _ | K
    · show 0 = 205 ↔ 0 = 3
      omega
    · show 2 = 205 ↔ 1 = 3
      omega
    · show 204 = 205 ↔ 2 = 3
      omega
    · show 205 = 205 ↔ 3 = 3
      omega
    · show 1 = 205 ↔ 4 = 3
      omega
    · have := hG rfl
      show V = 205 ↔ 5 = 3
      omega
    · show 200 = 205 ↔ 6 = 3
      omega
    · show 201 = 205 ↔ 7 = 3
      omega
    · show 202 = 205 ↔ 8 = 3
      omega
    · show 203 = 205 ↔ K + 9 = 3
      omega
  · show rk K V = 1 ↔ K = 4
    rcases K with _ | _ | _ | _ | _ | _ | _ | _ | _ | K
    · show 0 = 1 ↔ 0 = 4
      omega
    · show 2 = 1 ↔ 1 = 4
      omega
    · show 204 = 1 ↔ 2 = 4
      omega
    · show 205 = 1 ↔ 3 = 4
      omega
    · show 1 = 1 ↔ 4 = 4
      omega
    · have := hG rfl
      show V = 1 ↔ 5 = 4
      omega
    · show 200 = 1 ↔ 6 = 4
      omega
    · show 201 = 1 ↔ 7 = 4
      omega
    · show 202 = 1 ↔ 8 = 4
      omega
    · show 203 = 1 ↔ K + 9 = 4
      omega
  · exact absurd rfl hk
  · show rk K V = 200 ↔ K = 6
    rcases K with _ | _ | _ | _ | _ | _ | _ | _ | _ | K
    · show 0 = 200 ↔ 0 = 6
      omega
    · show 2 = 200 ↔ 1 = 6
      omega
    · show 204 = 200 ↔ 2 = 6
      omega
    · show 205 = 200 ↔ 3 = 6
      omega
    · show 1 = 200 ↔ 4 = 6
      omega
    · have := hG rfl
      show V = 200 ↔ 5 = 6
      omega
    · show 200 = 200 ↔ 6 = 6
      omega
    · show 201 = 200 ↔ 7 = 6
      omega
    · show 202 = 200 ↔ 8 = 6
      omega
    · show 203 = 200 ↔ K + 9 = 6
      omega
  · show rk K V = 201 ↔ K = 7
    rcases K with _ | _ | _ | _ | _ | _ | _ | _ | _ | K
    · show 0 = 201 ↔ 0 = 7
      omega
    · show 2 = 201 ↔ 1 = 7
      omega
    · show 204 = 201 ↔ 2 = 7
      omega
    · show 205 = 201 ↔ 3 = 7
      omega
    · show 1 = 201 ↔ 4 = 7
      omega
    · have := hG rfl
      show V = 201 ↔ 5 = 7
      omega
    · show 200 = 201 ↔ 6 = 7
      omega
    · show 201 = 201 ↔ 7 = 7
      omega
    · show 202 = 201 ↔ 8 = 7
      omega
    · show 203 = 201 ↔ K + 9 = 7
      omega
  · show rk K V = 202 ↔ K = 8
    rcases K with _ | _ | _ | _ | _ | _ | _ | _ | _ | K
    · show 0 = 202 ↔ 0 = 8
      omega
    · show 2 = 202 ↔ 1 = 8
      omega
    · show 204 = 202 ↔ 2 = 8
      omega
    · show 205 = 202 ↔ 3 = 8
      omega
    · show 1 = 202 ↔ 4 = 8
      omega
    · have := hG rfl
      show V = 202 ↔ 5 = 8
      omega
    · show 200 = 202 ↔ 6 = 8
      omega
    · show 201 = 202 ↔ 7 = 8
      omega
    · show 202 = 202 ↔ 8 = 8
      omega
    · show 203 = 202 ↔ K + 9 = 8
      omega
  · omega
theorem if_tk {α : Type} {μ : MS} {f : Nat → Nat} {n j : Nat} (h : At μ f n j) (b : Nat) (v : Int32) (hv : v = nI b) (hb1 : 33 ≤ b) (hb2 : b < 200) (x y : α) : (if μ.2.2.2 5 = v then x else y) = if tK f n j = 5 ∧ tV f n j = b then x else y := by
  have hr := rk_lt (K := tK f n j) (V := tV f n j) tK_5
  rw [h.2.2.1, if_l b v hv (by omega) (by omega)]
  have e := rk_b (K := tK f n j) (V := tV f n j) hb1 hb2
  by_cases hc : tK f n j = 5 ∧ tV f n j = b
  · rw [if_pos hc, if_pos (e.mpr hc)]
  · rw [if_neg hc, if_neg (fun z => hc (e.mp z))]
theorem if_tn {α : Type} {μ : MS} {f : Nat → Nat} {n j : Nat} (h : At μ f n j) (b : Nat) (v : Int32) (hv : v = nI b) (k : Nat) (hb : rk k 0 = b) (hk : k ≠ 5) (hk8 : k ≤ 8) (hb8 : b < 256) (x y : α) : (if μ.2.2.2 5 = v then x else y) = if tK f n j = k then x else y := by
  have hr := rk_lt (K := tK f n j) (V := tV f n j) tK_5
  rw [h.2.2.1, if_l b v hv (by omega) (by omega)]
  have e := rk_k (K := tK f n j) (V := tV f n j) tK_5 b k hb hk hk8
  by_cases hc : tK f n j = k
  · rw [if_pos hc, if_pos (e.mpr hc)]
  · rw [if_neg hc, if_neg (fun z => hc (e.mp z))]
theorem St_next (c : Ce) (m : Nat) {μ : MS} {n j d : Nat} {f : Nat → Nat} {vs : List (Nat → Int64)} {os : List Nat} (h : St μ f n j vs os d) : ∃ ν, m_X12_nextToken (wr c m μ) m = some ((), wr c m ν) ∧ KG μ ν ∧ St ν f n (j + 1) vs os d := by
  obtain ⟨h1, h2, h3, h4, h5, h6, h7⟩ := h
  obtain ⟨ν, q1, q2, q3⟩ := sr_next c m h1 h2
  exact ⟨ν, q1, KG_N q2, Byt_k h1 q2, q3, (q2.2.2.2 7 (by omega)).trans h3, (q2.2.2.2 8 (by omega)).trans h4, (q2.2.2.2 9 (by omega)).trans h5, by rw [q2.2.1]; exact h6, by rw [q2.1]; exact h7⟩
theorem sr_opened (c : Ce) (m : Nat) {μ : MS} {n j d : Nat} {f : Nat → Nat} {vs : List (Nat → Int64)} {os : List Nat} (h : St μ f n j vs os d) (ho : os.length < 80) (hd : d < 10) (hK : tK f n j = 5) : ∃ ν, m_X12_opened (wr c m μ) m = some (0, wr c m ν) ∧ KG μ ν ∧ St ν f n (j + 1) vs (tV f n j :: os) (d + 1) := by
  obtain ⟨h1, h2, h3, h4, h5, h6, h7⟩ := h
  have e5 : μ.2.2.2 5 = nI (tV f n j) := by
    rw [h2.2.2.1, hK]
    rfl
  have k1 : KG μ (muN (muI (muN μ 9 (nI (d + 1))) 8 (va_up ((muN μ 9 (nI (d + 1))).1 8) os.length (nI (tV f n j)))) 8 (nI (os.length + 1))) := KG_trans (KG_n _ _ (by omega) (by omega)) (KG_trans (KG_I _ _) (KG_n _ _ (by omega) (by omega)))
  have hS : St (muN (muI (muN μ 9 (nI (d + 1))) 8 (va_up ((muN μ 9 (nI (d + 1))).1 8) os.length (nI (tV f n j)))) 8 (nI (os.length + 1))) f n j vs (tV f n j :: os) (d + 1) := by
    refine ⟨Byt_g h1 k1, At_k h2 (fun r a1 a2 => (mn_n _ _ (by omega)).trans (mn_n _ _ (by omega))), ((mn_n _ _ (by decide)).trans (mn_n _ _ (by decide))).trans h3, (mn_e _ _ _).trans (by rw [List.length_cons]), (mn_n _ _ (by decide)).trans (mn_e _ _ _), h6, ?_⟩
    show SGN (va_up μ.1 8 (va_up (μ.1 8) os.length (nI (tV f n j))) 8) _
    rw [up_e]
    exact ⟨up_e _ _ _, SGN_k os h7 (fun k hk => up_n _ _ _ (by omega))⟩
  obtain ⟨ν, q1, q2, q3⟩ := St_next c m hS
  refine ⟨ν, ?_, KG_trans k1 q2, q3⟩
  unfold m_X12_opened
  rw [wr_g18, bind_s, h5, if_l 10 (10 : Int32) rfl (by omega) (by omega), if_neg (by omega), bind_s, nI_1, wr_n18, bind_s, wr_g15, bind_s, wr_g17, bind_s, mn_n _ _ (show 8 ≠ 9 by decide), h4, wr_g12, bind_s, mn_n _ _ (show 5 ≠ 9 by decide), e5, wr_w15 c m _ (by omega), bind_s, wr_g17, bind_s]
  have e8 : (muI (muN μ 9 (nI (d + 1))) 8 (va_up ((muN μ 9 (nI (d + 1))).1 8) os.length (nI (tV f n j)))).2.2.2 8 = nI os.length := (mn_n _ _ (by decide)).trans h4
  rw [e8, nI_1, wr_n17, bind_s, wr_rcv, bind_s, q1, bind_s]
theorem sr_opened6 (c : Ce) (m : Nat) {μ : MS} {n j d : Nat} {f : Nat → Nat} {vs : List (Nat → Int64)} {os : List Nat} (h : St μ f n j vs os d) (hd : d = 10) : m_X12_opened (wr c m μ) m = some (6, wr c m μ) := by
  unfold m_X12_opened
  rw [wr_g18, bind_s, h.2.2.2.2.1, if_l 10 (10 : Int32) rfl (by omega) (by omega), if_pos hd]
theorem tV_2 {f : Nat → Nat} {n j : Nat} (hf : ∀ j, j < n → f j < 256) : (tK f n j = 2 → tV f n j < 6) ∧ (tK f n j = 3 → tV f n j < 2) := by
  unfold tK tkK tV tkV
  generalize tkq f n (ps f n j) = q
  by_cases hq : q < n
  · rw [if_pos hq]
    by_cases hF : isF (f q) = true
    · rw [if_pos hF]
      omega
    · rw [if_neg hF, if_neg hF]
      by_cases hS : isS (f q) = true
      · rw [if_pos hS, if_pos hS]
        have hs := hS
        unfold isS at hs
        simp only [Bool.and_eq_true, decide_eq_true_eq] at hs
        unfold lk lv
        generalize rn isS f n (n - q) q - q = l
        have hw := wk_not f q l 0
        by_cases e1 : l = 1
        · rw [if_pos e1]
          by_cases e2 : f q ≤ 102
          · rw [if_pos e2, if_pos e2]
            omega
          · rw [if_neg e2, if_neg e2]
            by_cases e3 : f q = 120 ∨ f q = 121
            · rw [if_pos e3]
              omega
            · rw [if_neg e3]
              omega
        · rw [if_neg e1]
          exact ⟨fun h => absurd h hw.1, fun h => absurd h hw.2.1⟩
      · rw [if_neg hS]
        split <;> omega
  · rw [if_neg hq]
    omega
theorem LSv_eq {l : Nat} (hl : l < 6) : (mkS fun s => s.testBit l) = LSv l := B_ext fun k hk => by rw [B_mkS _ hk, LS_b l hl k hk]
theorem v4_c (x : Int64) : ∀ i, i < 4 → v4 x x x x i = x := by
  intro i hi
  rcases i with _ | _ | _ | _ | i
  · rfl
  · rfl
  · rfl
  · rfl
  · omega
theorem PIL_x {g : Nat → Int64} {x y : Nat → Int64} {vs : List (Nat → Int64)} (h : PIL g (x :: vs)) (e : ∀ i, i < 4 → x i = y i) : PIL g (y :: vs) := ⟨fun i hi => (h.1 i hi).trans (e i hi), h.2⟩
theorem St_x {μ : MS} {f : Nat → Nat} {n j d : Nat} {x y : Nat → Int64} {vs : List (Nat → Int64)} {os : List Nat} (h : St μ f n j (x :: vs) os d) (e : ∀ i, i < 4 → x i = y i) : St μ f n j (y :: vs) os d := ⟨h.1, h.2.1, h.2.2.1, h.2.2.2.1, h.2.2.2.2.1, PIL_x h.2.2.2.2.2.1 e, h.2.2.2.2.2.2⟩
/-- an atom -/
theorem sr_atom (c : Ce) (m : Nat) {μ : MS} {n j d L : Nat} {nx : Bool} {f : Nat → Nat} {vs vs2 : List (Nat → Int64)} {os os2 : List Nat} {d2 : Nat} (h : St μ f n j vs os d) (hv : vs.length < 39) (ho : os.length ≤ 79) (hb : ∀ o, o ∈ os → o < 256) (hL : μ.2.2.2 10 = nI L) (hL6 : L ≤ 6) (hx : μ.2.2.2 11 = if nx = true then 1 else 0) {y : (Nat → Int64) × Nat} (hp : pAt (tK f n) (tV f n) L nx j = .inr y) (hst : Stl 4 os (y.1 :: vs) d os2 vs2 d2) : ∃ ν, m_X12_atom (wr c m μ) m = some (0, wr c m ν) ∧ KG μ ν ∧ St ν f n (j + 1) vs2 os2 d2 := by
  have tail : ∀ ν, KG μ ν → St ν f n j (y.1 :: vs) os d → ∃ ρ, ((rcv (wr c m ν) 9 m).bind fun zz3 => (m_X12_nextToken (wr c m ν) m).bind fun zq4 => (rcv zq4.2 9 m).bind fun zz5 => (m_X12_settle zq4.2 m (4 : Int32)).bind fun zq6 => some ((0 : Int32), zq6.2)) = some (0, wr c m ρ) ∧ KG μ ρ ∧ St ρ f n (j + 1) vs2 os2 d2 := fun ν k1 hS => by
    obtain ⟨ρ, a1, a2, a3⟩ := St_next c m hS
    obtain ⟨σ, b1, b2, b3⟩ := sr_settle c m (r := 4) (by omega) a3 (by rw [List.length_cons]; omega) ho hb hst
    have b1 : m_X12_settle (wr c m ρ) m (4 : Int32) = _ := b1
    refine ⟨σ, ?_, KG_trans k1 (KG_trans a2 b2), b3⟩
    rw [wr_rcv, bind_s, a1, bind_s, wr_rcv, bind_s, b1, bind_s]
  have hA := h.2.1
  have hVn := tV_2 (j := j) (fun k hk => (h.1.2.2 k hk).2)
  unfold m_X12_atom
  rw [wr_g12, bind_s, if_tn hA 204 (204 : Int32) rfl 2 rfl (by decide) (by decide) (by decide), bind_s, if_tn hA 205 (205 : Int32) rfl 3 rfl (by decide) (by decide) (by decide), bind_s, if_tn hA 1 (1 : Int32) rfl 4 rfl (by decide) (by decide) (by decide)]
  unfold pAt at hp
  by_cases k2 : tK f n j = 2
  · rw [if_pos k2] at hp
    have hV6 := hVn.1 k2
    by_cases hVL : tV f n j < L
    · rw [if_pos hVL] at hp
      have hp : y = (fun _ => LSv (tV f n j), j + 1) := by
        cases hp
        rfl
      obtain ⟨ν, a1, a2, a3⟩ := sr_push c m h (by omega) (LSv (tV f n j)) (LSv (tV f n j)) (LSv (tV f n j)) (LSv (tV f n j))
      have e6 : μ.2.2.2 6 = nI (tV f n j) := hA.2.2.2.1 (Or.inl k2)
      rw [if_pos k2, wr_g13, bind_s, e6, wr_g19, bind_s, hL, if_lt (by omega) (by omega), if_pos hVL, bind_s, sr_letterSet (by omega), bind_s, LSv_eq hV6, wr_rcv, bind_s, a1, bind_s, bind_s]
      exact tail ν a2 (St_x a3 (fun i hi => by rw [v4_c _ i hi, hp]))
    · rw [if_neg hVL] at hp
      cases hp
  · rw [if_neg k2] at hp
    rw [if_neg k2]
    by_cases k3 : tK f n j = 3
    · rw [if_pos k3] at hp
      by_cases hxn : nx = true
      · rw [if_pos hxn] at hp
        have hp : y = (fun i => if i.testBit (tV f n j) = true then -1 else 0, j + 1) := by
          cases hp
          rfl
        have hV := hVn.2 k3
        have e6 : μ.2.2.2 6 = nI (tV f n j) := hA.2.2.2.1 (Or.inr k3)
        rw [if_pos hxn] at hx
        rw [if_pos k3, wr_g20, bind_s, hx, if_neg (by decide), wr_g13, bind_s, e6, wr_rcv]
        have hv2 : tV f n j = 0 ∨ tV f n j = 1 := by omega
        rcases hv2 with hv2 | hv2
        · rw [hv2] at hp ⊢
          obtain ⟨ν, a1, a2, a3⟩ := sr_push c m h (by omega) 0 (-1) 0 (-1)
          rw [if_pos (show nI 0 = 0 from rfl), bind_s, bind_s, if_neg (show ¬ nI 0 = 1 by decide), bind_s, bind_s, a1, bind_s, bind_s]
          refine tail ν a2 (St_x a3 (fun i hi => ?_))
          rw [hp]
          rcases i with _ | _ | _ | _ | i
          · rfl
          · rfl
          · rfl
          · rfl
          · omega
        · rw [hv2] at hp ⊢
          obtain ⟨ν, a1, a2, a3⟩ := sr_push c m h (by omega) 0 0 (-1) (-1)
          rw [if_neg (show ¬ nI 1 = 0 by decide), bind_s, bind_s, if_pos (show nI 1 = 1 from rfl), bind_s, bind_s, a1, bind_s, bind_s]
          refine tail ν a2 (St_x a3 (fun i hi => ?_))
          rw [hp]
          rcases i with _ | _ | _ | _ | i
          · rfl
          · rfl
          · rfl
          · rfl
          · omega
      · rw [if_neg hxn] at hp
        cases hp
    · rw [if_neg k3] at hp
      rw [if_neg k3]
      by_cases k4 : tK f n j = 4
      · rw [if_pos k4] at hp
        by_cases hV1 : tV f n j ≤ 1
        · rw [if_pos hV1] at hp
          have hp : y = (fun _ => if tV f n j = 1 then -1 else 0, j + 1) := by
            cases hp
            rfl
          obtain ⟨w, w1, w2, w3⟩ := hA.2.2.2.2 k4
          have w4 : tV f n j = w := by omega
          rw [if_pos k4, wr_g13, bind_s, w2, show (1 : Int32) = nI 1 from rfl, if_le (by omega) (by omega), if_pos (by omega), bind_s, if_eq (by omega) (by omega), wr_rcv]
          obtain ⟨ν, a1, a2, a3⟩ := sr_push c m h (by omega) (if tV f n j = 1 then -1 else 0) (if tV f n j = 1 then -1 else 0) (if tV f n j = 1 then -1 else 0) (if tV f n j = 1 then -1 else 0)
          have e : (if w = 1 then some (-1 : Int64) else some (0 : Int64)) = some (if tV f n j = 1 then -1 else 0) := by
            rw [w4]
            split <;> rfl
          rw [e, bind_s, bind_s, a1, bind_s, bind_s]
          exact tail ν a2 (St_x a3 (fun i hi => by rw [v4_c _ i hi, hp]))
        · rw [if_neg hV1] at hp
          cases hp
      · rw [if_neg k4] at hp
        cases hp
theorem sr_atomF (c : Ce) (m : Nat) {μ : MS} {n j d L : Nat} {nx : Bool} {f : Nat → Nat} {vs : List (Nat → Int64)} {os : List Nat} (h : St μ f n j vs os d) (hL : μ.2.2.2 10 = nI L) (hL6 : L ≤ 6) (hx : μ.2.2.2 11 = if nx = true then 1 else 0) {e : Nat × Nat} (hp : pAt (tK f n) (tV f n) L nx j = .inl e) : m_X12_atom (wr c m μ) m = some (nI e.1, wr c m μ) ∧ e.2 = j ∧ 0 < e.1 ∧ e.1 < 7 := by
  have hA := h.2.1
  have hVn := tV_2 (j := j) (fun k hk => (h.1.2.2 k hk).2)
  unfold m_X12_atom
  rw [wr_g12, bind_s, if_tn hA 204 (204 : Int32) rfl 2 rfl (by decide) (by decide) (by decide), bind_s, if_tn hA 205 (205 : Int32) rfl 3 rfl (by decide) (by decide) (by decide), bind_s, if_tn hA 1 (1 : Int32) rfl 4 rfl (by decide) (by decide) (by decide)]
  unfold pAt at hp
  by_cases k2 : tK f n j = 2
  · rw [if_pos k2] at hp
    have hV6 := hVn.1 k2
    by_cases hVL : tV f n j < L
    · rw [if_pos hVL] at hp
      cases hp
    · rw [if_neg hVL] at hp
      have e6 : μ.2.2.2 6 = nI (tV f n j) := hA.2.2.2.1 (Or.inl k2)
      rw [if_pos k2, wr_g13, bind_s, e6, wr_g19, bind_s, hL, if_lt (by omega) (by omega), if_neg hVL, bind_s, Sum.elim_inl]
      cases hp
      exact ⟨rfl, rfl, Nat.le_of_ble_eq_true rfl, Nat.le_of_ble_eq_true rfl⟩
  · rw [if_neg k2] at hp
    rw [if_neg k2]
    by_cases k3 : tK f n j = 3
    · rw [if_pos k3] at hp
      by_cases hxn : nx = true
      · rw [if_pos hxn] at hp
        cases hp
      · rw [if_neg hxn] at hp hx
        rw [if_pos k3, wr_g20, bind_s, hx, if_pos rfl, bind_s, Sum.elim_inl]
        cases hp
        exact ⟨rfl, rfl, Nat.le_of_ble_eq_true rfl, Nat.le_of_ble_eq_true rfl⟩
    · rw [if_neg k3] at hp
      rw [if_neg k3]
      by_cases k4 : tK f n j = 4
      · rw [if_pos k4] at hp
        by_cases hV1 : tV f n j ≤ 1
        · rw [if_pos hV1] at hp
          cases hp
        · rw [if_neg hV1] at hp
          obtain ⟨w, w1, w2, w3⟩ := hA.2.2.2.2 k4
          rw [if_pos k4, wr_g13, bind_s, w2, show (1 : Int32) = nI 1 from rfl, if_le (by omega) (by omega), if_neg (by omega), bind_s, Sum.elim_inl]
          cases hp
          exact ⟨rfl, rfl, Nat.le_of_ble_eq_true rfl, Nat.le_of_ble_eq_true rfl⟩
      · rw [if_neg k4] at hp
        rw [if_neg k4, bind_s, Sum.elim_inl]
        cases hp
        exact ⟨rfl, rfl, Nat.le_of_ble_eq_true rfl, Nat.le_of_ble_eq_true rfl⟩
