/-! WAYS: traces and the shortest -/
def Way (μ : MS) (wl : List Nat) : Prop := μ.2.2.2 14 = nI wl.length ∧ wl.length ≤ 79 ∧ ∀ (k q : Nat), wl[k]? = some q → μ.1 13 k = nI q
def KY (μ ν : MS) : Prop := (∀ r, r ≠ 13 → ν.1 r = μ.1 r) ∧ ν.2.1 = μ.2.1 ∧ ν.2.2.1 = μ.2.2.1 ∧ ∀ r, r ≠ 14 → ν.2.2.2 r = μ.2.2.2 r
theorem KY_refl (μ : MS) : KY μ μ := ⟨fun _ _ => rfl, rfl, rfl, fun _ _ => rfl⟩
theorem KY_trans {μ ν ρ : MS} (h : KY μ ν) (g : KY ν ρ) : KY μ ρ := ⟨fun r h1 => (g.1 r h1).trans (h.1 r h1), g.2.1.trans h.2.1, g.2.2.1.trans h.2.2.1, fun r hr => (g.2.2.2 r hr).trans (h.2.2.2 r hr)⟩
theorem KY_Kp {μ ν : MS} (h : KY μ ν) : Kp μ ν := ⟨fun j _ => by rw [h.1 0 (by omega)], fun r hr => h.1 r (by omega), by rw [h.2.1], fun j _ => by rw [h.2.2.1], by rw [h.2.2.1], by rw [h.2.2.1], fun r hr => h.2.2.2 r (by omega)⟩
theorem KY_RV {μ ν : MS} {V : Sv} (h : KY μ ν) (hr : RV μ V) : RV ν V := by
  unfold RV
  rw [h.1 0 (by omega), h.2.2.1]
  exact hr
theorem wr_n28 (c : Ce) (m : Nat) (μ : MS) (v : Int32) : pV (wr c m μ) 9 28 m (.int v) = some (wr c m (muN μ 14 v)) := wr_s28 c m μ v
theorem wr_a13 (c : Ce) (m : Nat) (μ : MS) {k : Nat} (hk : k < 80) : aI (wr c m μ) (m + 14) (nI k) = some (μ.1 13 k) := by
  rw [wr_r27, if_neg (nI_in hk (by omega)), nI_clamp (by omega)]
theorem wr_u13 (c : Ce) (m : Nat) (μ : MS) {k : Nat} (hk : k < 80) (v : Int32) : sI (wr c m μ) (m + 14) (nI k) v = some (wr c m (muI μ 13 (va_up (μ.1 13) k v))) := by
  rw [wr_s27, if_neg (nI_in hk (by omega)), nI_clamp (by omega)]
  rfl
theorem way_0 (c : Ce) (m : Nat) (μ : MS) : ∃ ν, pV (wr c m μ) 9 28 m (.int 0) = some (wr c m ν) ∧ Way ν [] ∧ KY μ ν := by
  refine ⟨muN μ 14 0, wr_n28 c m μ 0, ⟨by show va_up μ.2.2.2 14 0 14 = 0; exact up_e _ _ _, by show 0 ≤ 79; omega, fun k q hq => by simp at hq⟩, fun _ _ => rfl, rfl, rfl, fun r hr => up_n _ _ _ hr⟩
/-- one more on the way -/
def wayA (μ : MS) (k : Nat) (v : Int32) : MS := muN (muI μ 13 (va_up (μ.1 13) k v)) 14 (nI (k + 1))
theorem way_add {μ : MS} {wl : List Nat} (h : Way μ wl) (hl : wl.length < 79) (a : Nat) : Way (wayA μ wl.length (nI a)) (wl ++ [a]) ∧ KY μ (wayA μ wl.length (nI a)) := by
  obtain ⟨h1, h2, h3⟩ := h
  refine ⟨⟨?_, ?_, fun k q hq => ?_⟩, fun r hr => ?_, rfl, rfl, fun r hr => up_n _ _ _ hr⟩
  · show va_up μ.2.2.2 14 (nI (wl.length + 1)) 14 = _
    rw [up_e, List.length_append]
    rfl
  · rw [List.length_append]
    show wl.length + 1 ≤ 79
    omega
  · show va_up μ.1 13 (va_up (μ.1 13) wl.length (nI a)) 13 k = _
    rw [up_e]
    by_cases e : k = wl.length
    · subst e
      rw [List.getElem?_append_right (Nat.le_refl _), Nat.sub_self] at hq
      have : a = q := by simpa using hq
      rw [this, up_e]
    · have hk : k < wl.length := by
        have := (List.getElem?_eq_some_iff.mp hq).1
        rw [List.length_append] at this
        have this : k < wl.length + 1 := this
        omega
      rw [List.getElem?_append_left hk] at hq
      rw [up_n _ _ _ e]
      exact h3 k q hq
  · exact up_n _ _ _ hr
def inpO (M : Mv) (a b : Nat) : Option Nat := (List.range 4).find? fun i => decide (M.2.1 a i = b)
def wpV (M : Mv) (wl : List Nat) (p q : Int32) : Int32 := if p = -1 then nI wl.length else if p < 0 then -2 else match wl[p.toNatClampNeg]? with
  | none => -2
  | some a => if q = 0 then nI a else if q = 1 then (match wl[p.toNatClampNeg + 1]? with | none => -1 | some b => oI (inpO M a b)) else -2
theorem fnd4_at {p : Nat → Bool} {n : Nat} (hn : n < 4) (hp : p n = true) (hl : ∀ j, j < n → p j = false) : (List.range 4).find? p = some n := by
  have : ∀ n, n < 4 → ∀ p : Nat → Bool, p n = true → (∀ j, j < n → p j = false) → (List.range 4).find? p = some n := by
    intro n hn p hp hl
    rw [List.find?_range_eq_some]
    exact ⟨hp, List.mem_range.mpr hn, fun j hj => by rw [hl j hj]; rfl⟩
  exact this n hn p hp hl
theorem fnd4_none {p : Nat → Bool} (hl : ∀ j, j < 4 → p j = false) : (List.range 4).find? p = none := by
  rw [List.find?_eq_none]
  intro x hx
  rw [hl x (List.mem_range.mp hx)]
  decide
theorem sr_ofWay (c : Ce) (m : Nat) {μ : MS} {M : Mv} (hM : Mac (μ.1 0) M) {wl : List Nat} (hw : Way μ wl) (hs : ∀ q, q ∈ wl → q < 2 ^ M.1) (p q : Int32) : m_X12_ofWay (wr c m μ) m p q = some (wpV M wl p q) := by
  have hL := hM.2.2.1
  have h26 := p2_64 hL
  have hS := hM.2.2.2.2.2.2.2.2
  obtain ⟨w1, w2, w3⟩ := hw
  unfold m_X12_ofWay wpV
  by_cases h1 : p = -1
  · rw [if_pos h1, if_pos h1, wr_g28, bind_s, w1]
  · rw [if_neg h1, if_neg h1, wr_g28, bind_s, w1]
    by_cases hp : Inr wl.length p
    · obtain ⟨k, hk, rfl⟩ := hp
      have hu : wl[k]? = some (wl[k]'hk) := List.getElem?_eq_getElem _
      generalize wl[k]'hk = a at hu
      have ha := hs a (List.mem_of_getElem? hu)
      have e7 : m_X12_isIn (nI k) (0 : Int32) (nI wl.length - 1) = some 1 := by
        rw [nl_0, nl_1, pk_sub (by omega)]
        exact isin_in (by omega) (by omega) (by omega)
      rw [e7, bind_s, if_neg (by decide), if_neg (nI_pos (by omega)), nI_clamp (by omega), hu]
      show _ = some (if q = 0 then nI a else if q = 1 then (match wl[k + 1]? with | none => -1 | some b => oI (inpO M a b)) else -2)
      by_cases q0 : q = 0
      · subst q0
        have e5 : m_X12_isIn (0 : Int32) (0 : Int32) (1 : Int32) = some 1 := rfl
        rw [e5, bind_s, if_neg (by decide), if_pos rfl, if_pos rfl, wr_g27, bind_s, wr_a13 c m μ (by omega), bind_s, w3 k a hu]
      · by_cases q1 : q = 1
        · subst q1
          have e5 : m_X12_isIn (1 : Int32) (0 : Int32) (1 : Int32) = some 1 := rfl
          rw [e5, bind_s, if_neg (by decide), if_neg q0, if_neg q0, if_pos rfl, nI_1, wr_g27]
          cases hb : wl[k + 1]? with
          | none =>
            have hkl : wl.length ≤ k + 1 := List.getElem?_eq_none_iff.mp hb
            refine ok_eq (ok_call (P := fun o => o = Sum.inr ()) (ok_loop (fun s => s = 0) _ (fun _ => 0) rfl (lt_FU (by omega)) ?_) (fun a h => by rw [h]; exact ok_some rfl))
            rintro _ rfl
            show Ok (if (4 : Int32) ≤ 0 then _ else (some (nI wl.length)).bind _) _
            rw [if_neg (by decide), bind_s, if_le (by omega) (by omega), if_pos hkl]
            exact ok_some rfl
          | some b =>
            have hk1 : k + 1 < wl.length := (List.getElem?_eq_some_iff.mp hb).1
            have hb2 := hs b (List.mem_of_getElem? hb)
            refine ok_eq (ok_call (P := fun o => Sum.elim (fun w => some w) (fun _ => some (-1 : Int32)) o = some (oI (inpO M a b))) (ok_cnt 0 4 (fun i s => s = nI i ∧ ∀ j, j < i → M.2.1 a j ≠ b) (by omega) (by omega) ⟨rfl, fun _ h => by omega⟩ ?_ ?_) (fun a h => ok_of h rfl))
            · rintro i _ hi ⟨rfl, hl⟩
              show Ok (if (4 : Int32) ≤ nI i then _ else (some (nI wl.length)).bind _) _
              have hnk : ¬ nI wl.length ≤ nI (k + 1) := fun z => by have := (nI_leI (by omega) (by omega)).mp z; omega
              rw [nl_4, if_le (by omega) (by omega), if_neg (by omega), bind_s, if_neg hnk, bind_s, wr_a13 c m μ (by omega), bind_s, wr_rcv, bind_s, w3 k a hu, sr_succOf c m μ hL hS ha hi, bind_s, bind_s, wr_a13 c m μ (by omega), bind_s, w3 (k + 1) b hb]
              have hsc := (hS a ha i hi).2
              rw [if_eq (by omega) (by omega)]
              by_cases e : M.2.1 a i = b
              · rw [if_pos e]
                refine ok_some ?_
                unfold inpO
                rw [fnd4_at hi (by simp [e]) (fun j hj => by simp [hl j hj])]
                rfl
              · rw [if_neg e]
                refine ok_some ⟨nI_1 i, fun j hj => ?_⟩
                by_cases e2 : j = i
                · rw [e2]; exact e
                · exact hl j (by omega)
            · rintro _ ⟨rfl, hl⟩
              show Ok (if (4 : Int32) ≤ nI 4 then _ else _) _
              rw [nl_4, if_pos (Int32.le_refl _)]
              refine ok_some ?_
              unfold inpO
              rw [fnd4_none fun j hj => by simp [hl j hj]]
              rfl
        · have e3 : m_X12_isIn q (0 : Int32) (1 : Int32) = some 0 := by
            refine isin_out (lo := 0) (hi := 1) (by omega) (by omega) ?_
            rintro ⟨s, _, hs, e⟩
            have : s = 0 ∨ s = 1 := by omega
            rcases this with rfl | rfl
            · exact q0 e
            · exact q1 e
          rw [e3, bind_s, if_pos rfl, if_neg q0, if_neg q1]
    · have e2 : m_X12_isIn p (0 : Int32) (nI wl.length - 1) = some 0 := by
        by_cases h0 : wl.length = 0
        · rw [h0, sr_isIn, if_neg]
          rintro ⟨a, b⟩
          exact absurd (Int32.le_trans a b) (by decide)
        · rw [nl_0, nl_1, pk_sub (by omega)]
          refine isin_out (by omega) (by omega) ?_
          rintro ⟨s, _, hs, e⟩
          exact hp ⟨s, by omega, e⟩
      rw [e2, bind_s, if_pos rfl]
      by_cases h0 : p < 0
      · rw [if_pos h0]
      · rw [if_neg h0]
        obtain ⟨k, hk, rfl⟩ := nI_of h0
        rw [nI_clamp hk, List.getElem?_eq_none]
        exact Nat.le_of_not_lt fun z => hp ⟨k, z, rfl⟩
/-! the class: a path -/
def Pth (ce : Ce) (pt : Nat) (wl : List Nat) : Prop := ∃ P, ce pt = some (.inl (.int, 128, .inl P)) ∧ ∀ (k q : Nat), wl[k]? = some q → P k = nI q
theorem cm_between2 {ce : Ce} {U : Nat → Prop} {mp : Nat} {M : Mv} (hm : MA ce U mp M) {a b : Nat} (ha : a < 2 ^ M.1) (hb : b < 2 ^ M.1) : m_X5_inputBetween ce mp (nI a) (nI b) = some (oI (inpO M a b)) := by
  have h26 := p2_64 hm.1.2.1
  refine ok_eq ?_
  unfold m_X5_inputBetween
  refine ok_call (P := fun o => Sum.elim (fun w => some w) (fun _ => some (-1 : Int32)) o = some (oI (inpO M a b))) (ok_cnt 0 4 (fun i s => s = nI i ∧ ∀ j, j < i → M.2.1 a j ≠ b) (by omega) (by omega) ⟨rfl, fun _ h => by omega⟩ ?_ ?_) (fun a h => ok_of h rfl)
  · rintro i _ hi ⟨rfl, hl⟩
    have hsc := hm.1.2.2.1 a ha i hi
    rw [nl_4, if_le (by omega) (by omega), if_neg (by omega), cm_rcv hm, bind_s, cm_next hm ha hi, bind_s, if_eq (by omega) (by omega)]
    by_cases e : M.2.1 a i = b
    · rw [if_pos e]
      refine ok_some ?_
      unfold inpO
      rw [fnd4_at hi (by simp [e]) (fun j hj => by simp [hl j hj])]
      rfl
    · rw [if_neg e]
      refine ok_some ⟨nI_1 i, fun j hj => ?_⟩
      by_cases e2 : j = i
      · rw [e2]; exact e
      · exact hl j (by omega)
  · rintro _ ⟨rfl, hl⟩
    rw [nl_4, if_pos (Int32.le_refl _)]
    refine ok_some ?_
    unfold inpO
    rw [fnd4_none fun j hj => by simp [hl j hj]]
    rfl
theorem c_pathPart {ce : Ce} {nx : Nat} {A : Nat → Nat} {κ : Nat × Nat × Nat} {V : Sv} {x pt : Nat} (hx : XS ce x A) (h : SS ce nx A κ V) (hp11 : gA ce 8 11 x = some pt) {wl : List Nat} (hP : Pth ce pt wl) (hl : wl.length ≤ 128) (hs : ∀ q, q ∈ wl → q < 2 ^ V.1.1) (p q : Int32) : m_X11_pathPart ce x (nI wl.length) p q = some (wpV V.1 wl p q) := by
  obtain ⟨_, w, x1, x2⟩ := hx
  obtain ⟨mp, g1, g2⟩ := ss_mach h
  obtain ⟨P, p1, p2⟩ := hP
  unfold m_X11_pathPart wpV
  by_cases h1 : p = -1
  · rw [if_pos h1, if_pos h1]
  · rw [if_neg h1, if_neg h1]
    by_cases h0 : p < 0
    · rw [if_pos h0, if_pos h0]
    · rw [if_neg h0, if_neg h0]
      obtain ⟨k, hk, rfl⟩ := nI_of h0
      rw [if_le (by omega) hk, nI_clamp hk]
      by_cases hkl : wl.length ≤ k
      · rw [if_pos hkl, List.getElem?_eq_none hkl]
      · have hu : wl[k]? = some (wl[k]'(by omega)) := List.getElem?_eq_getElem _
        generalize wl[k]'(by omega) = a at hu
        have ha := hs a (List.mem_of_getElem? hu)
        rw [if_neg hkl, hp11, bind_s, alen_I p1, bind_s, if_le (by omega) hk, if_neg (by omega), hu]
        show _ = some (if q = 0 then nI a else if q = 1 then (match wl[k + 1]? with | none => -1 | some b => oI (inpO V.1 a b)) else -2)
        by_cases q0 : q = 0
        · subst q0
          rw [if_neg (by decide), if_pos (by decide), if_pos rfl, if_pos rfl, bind_s, aI_c p1 (by omega) (by omega), bind_s, p2 k a hu]
        · by_cases q1 : q = 1
          · subst q1
            rw [if_neg (by decide), if_pos (by decide), if_neg q0, if_neg q0, if_pos rfl, nI_1, if_le (by omega) (by omega)]
            cases hb : wl[k + 1]? with
            | none => rw [if_pos (List.getElem?_eq_none_iff.mp hb)]
            | some b =>
              have hk1 : k + 1 < wl.length := (List.getElem?_eq_some_iff.mp hb).1
              have hb2 := hs b (List.mem_of_getElem? hb)
              rw [if_neg (by omega), bind_s, alen_I p1, bind_s, if_lt (by omega) (by omega), if_pos (by omega), x1, bind_s, x2, bind_s, g1, bind_s, bind_s, aI_c p1 (by omega) (by omega), bind_s, bind_s, aI_c p1 (by omega) (by omega), bind_s, cm_rcv g2, bind_s, p2 k a hu, p2 (k + 1) b hb, cm_between2 g2 ha hb2, bind_s]
          · by_cases qn : q < 0
            · rw [if_pos qn, if_neg q0, if_neg q1]
            · obtain ⟨kq, hkq, rfl⟩ := nI_of qn
              have hq1 : ¬ nI kq ≤ 1 := by
                rw [nl_1]
                intro z
                have := (nI_leI hkq (by omega)).mp z
                have : kq = 0 ∨ kq = 1 := by omega
                rcases this with rfl | rfl
                · exact q0 rfl
                · exact q1 rfl
              rw [if_neg qn, if_neg hq1, if_neg q0, if_neg q1]
