/-! TOKENS of the class: texts of its own, words -/
theorem st_len (ce : Ce) : m_J0_length_8abf5 ce 0 = some (nI 7) ∧ m_J0_length_8abf5 ce 1 = some (nI 4) ∧ m_J0_length_8abf5 ce 2 = some (nI 3) ∧ m_J0_length_8abf5 ce 3 = some (nI 4) ∧ m_J0_length_8abf5 ce 4 = some (nI 3) := ⟨rfl, rfl, rfl, rfl, rfl⟩
theorem st_ch0 (ce : Ce) (k : Nat) (i : Int32) : m_J0_charAt_5068e ce k i = m_J0_charAt_5068e (fun _ => none) k i := rfl
theorem st_ix0 (ce : Ce) (i : Int32) : m_J0_indexOf_0f7a4 ce 5 i = m_J0_indexOf_0f7a4 (fun _ => none) 5 i := rfl
def wcs (k : Nat) : List Nat := match k with
  | 0 => [108, 101, 116, 116, 101, 114, 115]
  | 1 => [105, 110, 105, 116]
  | 2 => [98, 97, 100]
  | 3 => [110, 101, 120, 116]
  | _ => [124, 94, 38]
theorem st_ch : ∀ k, k < 5 → ∀ i, i < (wcs k).length → m_J0_charAt_5068e (fun _ => none) k (nI i) = some (nI ((wcs k).getD i 0)) := by decide +kernel
theorem st_lt : ∀ k, k < 5 → ∀ i, i < (wcs k).length → (wcs k).getD i 0 < 128 := by decide
theorem st_ix : ∀ b, b < 256 → (m_J0_indexOf_0f7a4 (fun _ => none) 5 (i2ch (sg b &&& 255))).map (fun v => decide (v < 0)) = some (! isG b) := by decide +kernel
theorem st_ln (ce : Ce) {k : Nat} (hk : k < 5) : m_J0_length_8abf5 ce k = some (nI (wcs k).length) := by
  obtain ⟨h0, h1, h2, h3, h4⟩ := st_len ce
  rcases k with _ | _ | _ | _ | _ | k
  · exact h0
  · exact h1
  · exact h2
  · exact h3
  · exact h4
  · omega
theorem st_k {k : Nat} (hk : k < 5) : kst k = some () := by
  unfold kst
  rw [if_pos (by omega)]
/-- the class's tape -/
def Tpc (ce : Ce) (tp n : Nat) (f : Nat → Nat) : Prop := n ≤ 300 ∧ ∃ F : Nat → Int32, ce tp = some (.inl (.byte, 300, .inl F)) ∧ ∀ k, k < n → F k = sg (f k) ∧ f k < 256
theorem aB_c {ce : Ce} {a n k : Nat} {f : Nat → Int32} (h : ce a = some (.inl (.byte, n, .inl f))) (hk : k < n) (hn : n < 2 ^ 31) : aB ce a (nI k) = some (f k) := by
  unfold aB
  rw [h]
  show (if nI k < 0 ∨ n ≤ (nI k).toNatClampNeg then none else some (f (nI k).toNatClampNeg)) = _
  rw [if_neg (nI_in hk hn), nI_clamp (by omega)]
theorem Tpc_b {ce : Ce} {tp n k : Nat} {f : Nat → Nat} (h : Tpc ce tp n f) (hk : k < n) : aB ce tp (nI k) = some (sg (f k)) ∧ f k < 256 := by
  obtain ⟨h1, F, h2, h3⟩ := h
  refine ⟨?_, (h3 k hk).2⟩
  rw [aB_c h2 (by omega) (by omega), (h3 k hk).1]
theorem alen_B {c : Ce} {a n : Nat} {f : Nat → Int32} (h : c a = some (.inl (.byte, n, .inl f))) : alen c a = some (nI n) := by
  unfold alen
  rw [h]
  rfl
theorem cr_isWord {ce : Ce} {tp n q l k : Nat} {f : Nat → Nat} (h : Tpc ce tp n f) (hk : k < 4) (hl : q + l ≤ n) : m_X7_isWord ce k tp (nI q) (nI (q + l)) = some (if l = (wcs k).length ∧ ∀ i, i < (wcs k).length → f (q + i) = (wcs k).getD i 0 then 1 else 0) := by
  have hn := h.1
  have hw7 : (wcs k).length ≤ 7 := by
    rcases k with _ | _ | _ | _ | k
    · decide
    · decide
    · decide
    · decide
    · omega
  refine ok_eq ?_
  unfold m_X7_isWord
  rw [st_k (by omega), bind_s, st_ln ce (by omega), bind_s, nI_sb (by omega), show q + l - q = l by omega, if_eq (by omega) (by omega)]
  by_cases e : (wcs k).length = l
  · rw [if_pos e]
    obtain ⟨_, F, hF, _⟩ := id h
    rw [alen_B hF, bind_s, if_le (by omega) (by omega), if_pos (by omega)]
    refine ok_call (P := fun o => (o = Sum.inr () ∧ ∀ i, i < (wcs k).length → f (q + i) = (wcs k).getD i 0) ∨ (o = Sum.inl 0 ∧ ¬ ∀ i, i < (wcs k).length → f (q + i) = (wcs k).getD i 0)) (ok_loop (fun st => ∃ i, st = nI i ∧ i ≤ (wcs k).length ∧ ∀ t, t < i → f (q + t) = (wcs k).getD t 0) _ (fun st => (wcs k).length - st.toNatClampNeg) ⟨0, rfl, Nat.zero_le _, fun _ h => by omega⟩ (lt_FU (by omega)) ?_) (fun o ho => ?_)
    · rintro st ⟨i, rfl, hi, hm⟩
      show Ok ((some ()).bind fun zz7 => (some (nI (wcs k).length)).bind fun zx8 => if zx8 ≤ nI i then some (Sum.inr (Sum.inr ())) else (aB ce tp (nI q + nI i)).bind fun zx9 => (some ()).bind fun zz10 => (m_J0_charAt_5068e ce k (nI i)).bind fun zx11 => if zx9 = zx11 then some (Sum.inl (nI i + (1 : Int32))) else some (Sum.inr (Sum.inl (0 : Int32)))) _
      rw [bind_s, bind_s, if_le (by omega) (by omega)]
      by_cases hle : (wcs k).length ≤ i
      · rw [if_pos hle]
        exact ok_some (Or.inl ⟨rfl, fun t ht => hm t (by omega)⟩)
      · rw [if_neg hle, nI_add]
        obtain ⟨b1, b2⟩ := Tpc_b h (k := q + i) (by omega)
        rw [b1, bind_s, bind_s, st_ch0, st_ch k (by omega) i (by omega), bind_s]
        have hs := sg_eq _ b2 _ (st_lt k (by omega) i (by omega))
        by_cases hq : f (q + i) = (wcs k).getD i 0
        · rw [if_pos (hs.mpr hq), nI_1]
          refine ok_some ⟨⟨i + 1, rfl, by omega, fun t ht => ?_⟩, ?_⟩
          · by_cases et : t = i
            · rw [et]
              exact hq
            · exact hm t (by omega)
          · rw [nI_clamp (by omega), nI_clamp (by omega)]
            omega
        · rw [if_neg (fun z => hq (hs.mp z))]
          exact ok_some (Or.inr ⟨rfl, fun z => hq (z i (by omega))⟩)
    · rcases ho with ⟨rfl, ho⟩ | ⟨rfl, ho⟩
      · rw [Sum.elim_inr, if_pos ⟨e.symm, ho⟩]
        exact ok_some rfl
      · rw [Sum.elim_inl, if_neg (fun z => ho z.2)]
        exact ok_some rfl
  · rw [if_neg e, if_neg (fun z => e z.1.symm)]
    exact ok_some rfl
theorem ws_0 {f : Nat → Nat} {q : Nat} : (∀ i, i < (wcs 0).length → f (q + i) = (wcs 0).getD i 0) ↔ (f q = 108 ∧ f (q + 1) = 101 ∧ f (q + 2) = 116 ∧ f (q + 3) = 116 ∧ f (q + 4) = 101 ∧ f (q + 5) = 114 ∧ f (q + 6) = 115) := by
  constructor
  · intro h
    exact ⟨h 0 (by decide), h 1 (by decide), h 2 (by decide), h 3 (by decide), h 4 (by decide), h 5 (by decide), h 6 (by decide)⟩
  · rintro ⟨h0, h1, h2, h3, h4, h5, h6⟩ i hi
    rcases i with _ | _ | _ | _ | _ | _ | _ | i
    · exact h0
    · exact h1
    · exact h2
    · exact h3
    · exact h4
    · exact h5
    · exact h6
    · have hi : i + 7 < 7 := hi
      omega
theorem ws_1 {f : Nat → Nat} {q : Nat} : (∀ i, i < (wcs 1).length → f (q + i) = (wcs 1).getD i 0) ↔ (f q = 105 ∧ f (q + 1) = 110 ∧ f (q + 2) = 105 ∧ f (q + 3) = 116) := by
  constructor
  · intro h
    exact ⟨h 0 (by decide), h 1 (by decide), h 2 (by decide), h 3 (by decide)⟩
  · rintro ⟨h0, h1, h2, h3⟩ i hi
    rcases i with _ | _ | _ | _ | i
    · exact h0
    · exact h1
    · exact h2
    · exact h3
    · have hi : i + 4 < 4 := hi
      omega
theorem ws_2 {f : Nat → Nat} {q : Nat} : (∀ i, i < (wcs 2).length → f (q + i) = (wcs 2).getD i 0) ↔ (f q = 98 ∧ f (q + 1) = 97 ∧ f (q + 2) = 100) := by
  constructor
  · intro h
    exact ⟨h 0 (by decide), h 1 (by decide), h 2 (by decide)⟩
  · rintro ⟨h0, h1, h2⟩ i hi
    rcases i with _ | _ | _ | i
    · exact h0
    · exact h1
    · exact h2
    · have hi : i + 3 < 3 := hi
      omega
theorem ws_3 {f : Nat → Nat} {q : Nat} : (∀ i, i < (wcs 3).length → f (q + i) = (wcs 3).getD i 0) ↔ (f q = 110 ∧ f (q + 1) = 101 ∧ f (q + 2) = 120 ∧ f (q + 3) = 116) := by
  constructor
  · intro h
    exact ⟨h 0 (by decide), h 1 (by decide), h 2 (by decide), h 3 (by decide)⟩
  · rintro ⟨h0, h1, h2, h3⟩ i hi
    rcases i with _ | _ | _ | _ | i
    · exact h0
    · exact h1
    · exact h2
    · exact h3
    · have hi : i + 4 < 4 := hi
      omega
theorem cr_kind {ce : Ce} {tp n q l : Nat} {f : Nat → Nat} (h : Tpc ce tp n f) (hl : q + l ≤ n) : m_X7_kindOfWord ce tp (nI q) (nI (q + l)) = some (nI (wk f q l)) := by
  have i0 : (l = (wcs 0).length ∧ ∀ i, i < (wcs 0).length → f (q + i) = (wcs 0).getD i 0) ↔ (l = 7 ∧ f q = 108 ∧ f (q + 1) = 101 ∧ f (q + 2) = 116 ∧ f (q + 3) = 116 ∧ f (q + 4) = 101 ∧ f (q + 5) = 114 ∧ f (q + 6) = 115) := and_congr Iff.rfl ws_0
  have i1 : (l = (wcs 1).length ∧ ∀ i, i < (wcs 1).length → f (q + i) = (wcs 1).getD i 0) ↔ (l = 4 ∧ f q = 105 ∧ f (q + 1) = 110 ∧ f (q + 2) = 105 ∧ f (q + 3) = 116) := and_congr Iff.rfl ws_1
  have i2 : (l = (wcs 2).length ∧ ∀ i, i < (wcs 2).length → f (q + i) = (wcs 2).getD i 0) ↔ (l = 3 ∧ f q = 98 ∧ f (q + 1) = 97 ∧ f (q + 2) = 100) := and_congr Iff.rfl ws_2
  have i3 : (l = (wcs 3).length ∧ ∀ i, i < (wcs 3).length → f (q + i) = (wcs 3).getD i 0) ↔ (l = 4 ∧ f q = 110 ∧ f (q + 1) = 101 ∧ f (q + 2) = 120 ∧ f (q + 3) = 116) := and_congr Iff.rfl ws_3
  unfold m_X7_kindOfWord
  rw [cr_isWord h (k := 0) (by omega) hl, bind_s, cr_isWord h (k := 1) (by omega) hl, bind_s, cr_isWord h (k := 2) (by omega) hl, bind_s, cr_isWord h (k := 3) (by omega) hl, bind_s]
  unfold wk
  by_cases c0 : l = 7 ∧ f q = 108 ∧ f (q + 1) = 101 ∧ f (q + 2) = 116 ∧ f (q + 3) = 116 ∧ f (q + 4) = 101 ∧ f (q + 5) = 114 ∧ f (q + 6) = 115
  · rw [if_pos (i0.mpr c0), if_neg ne10, if_neg (by omega), if_neg (by omega), if_neg (by omega), if_pos (by omega)]
    rfl
  · rw [if_neg (fun z => c0 (i0.mp z)), if_pos rfl]
    by_cases c1 : l = 4 ∧ f q = 105 ∧ f (q + 1) = 110 ∧ f (q + 2) = 105 ∧ f (q + 3) = 116
    · rw [if_pos (i1.mpr c1), if_neg ne10, if_pos c1]
      rfl
    · rw [if_neg (fun z => c1 (i1.mp z)), if_pos rfl, if_neg c1]
      by_cases c2 : l = 3 ∧ f q = 98 ∧ f (q + 1) = 97 ∧ f (q + 2) = 100
      · rw [if_pos (i2.mpr c2), if_neg ne10, if_neg (by omega), if_pos c2]
        rfl
      · rw [if_neg (fun z => c2 (i2.mp z)), if_pos rfl]
        by_cases c3 : l = 4 ∧ f q = 110 ∧ f (q + 1) = 101 ∧ f (q + 2) = 120 ∧ f (q + 3) = 116
        · rw [if_pos (i3.mpr c3), if_neg ne10, if_pos c3]
          rfl
        · rw [if_neg (fun z => c3 (i3.mp z)), if_pos rfl, if_neg c3, if_neg c2, if_neg (by omega)]
          rfl
