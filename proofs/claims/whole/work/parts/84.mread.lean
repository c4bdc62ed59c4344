/-! THE REFERENCE's small reads -/
theorem nl_0 : (0 : Int32) = nI 0 := rfl
theorem nl_1 : (1 : Int32) = nI 1 := rfl
theorem nl_2 : (2 : Int32) = nI 2 := rfl
theorem nl_3 : (3 : Int32) = nI 3 := rfl
theorem nl_4 : (4 : Int32) = nI 4 := rfl
theorem nl_5 : (5 : Int32) = nI 5 := rfl
theorem nl_6 : (6 : Int32) = nI 6 := rfl
theorem nl_7 : (7 : Int32) = nI 7 := rfl
theorem nl_8 : (8 : Int32) = nI 8 := rfl
theorem nl_9 : (9 : Int32) = nI 9 := rfl
theorem nl_10 : (10 : Int32) = nI 10 := rfl
theorem nl_11 : (11 : Int32) = nI 11 := rfl
theorem nl_12 : (12 : Int32) = nI 12 := rfl
theorem nl_13 : (13 : Int32) = nI 13 := rfl
theorem nl_14 : (14 : Int32) = nI 14 := rfl
theorem nl_15 : (15 : Int32) = nI 15 := rfl
theorem nl_16 : (16 : Int32) = nI 16 := rfl
theorem nl_17 : (17 : Int32) = nI 17 := rfl
theorem nl_18 : (18 : Int32) = nI 18 := rfl
theorem nl_20 : (20 : Int32) = nI 20 := rfl
theorem nl_24 : (24 : Int32) = nI 24 := rfl
theorem nl_28 : (28 : Int32) = nI 28 := rfl
theorem nl_29 : (29 : Int32) = nI 29 := rfl
theorem nl_32 : (32 : Int32) = nI 32 := rfl
theorem nl_33 : (33 : Int32) = nI 33 := rfl
theorem nl_38 : (38 : Int32) = nI 38 := rfl
theorem nl_40 : (40 : Int32) = nI 40 := rfl
theorem nl_41 : (41 : Int32) = nI 41 := rfl
theorem nl_48 : (48 : Int32) = nI 48 := rfl
theorem nl_57 : (57 : Int32) = nI 57 := rfl
theorem nl_59 : (59 : Int32) = nI 59 := rfl
theorem nl_63 : (63 : Int32) = nI 63 := rfl
theorem nl_64 : (64 : Int32) = nI 64 := rfl
theorem nl_80 : (80 : Int32) = nI 80 := rfl
theorem nl_92 : (92 : Int32) = nI 92 := rfl
theorem nl_94 : (94 : Int32) = nI 94 := rfl
theorem nl_97 : (97 : Int32) = nI 97 := rfl
theorem nl_98 : (98 : Int32) = nI 98 := rfl
theorem nl_100 : (100 : Int32) = nI 100 := rfl
theorem nl_101 : (101 : Int32) = nI 101 := rfl
theorem nl_102 : (102 : Int32) = nI 102 := rfl
theorem nl_103 : (103 : Int32) = nI 103 := rfl
theorem nl_104 : (104 : Int32) = nI 104 := rfl
theorem nl_105 : (105 : Int32) = nI 105 := rfl
theorem nl_108 : (108 : Int32) = nI 108 := rfl
theorem nl_110 : (110 : Int32) = nI 110 := rfl
theorem nl_114 : (114 : Int32) = nI 114 := rfl
theorem nl_115 : (115 : Int32) = nI 115 := rfl
theorem nl_116 : (116 : Int32) = nI 116 := rfl
theorem nl_120 : (120 : Int32) = nI 120 := rfl
theorem nl_121 : (121 : Int32) = nI 121 := rfl
theorem nl_122 : (122 : Int32) = nI 122 := rfl
theorem nl_124 : (124 : Int32) = nI 124 := rfl
theorem nl_127 : (127 : Int32) = nI 127 := rfl
theorem nl_128 : (128 : Int32) = nI 128 := rfl
theorem nl_147 : (147 : Int32) = nI 147 := rfl
theorem nl_160 : (160 : Int32) = nI 160 := rfl
theorem nl_200 : (200 : Int32) = nI 200 := rfl
theorem nl_201 : (201 : Int32) = nI 201 := rfl
theorem nl_202 : (202 : Int32) = nI 202 := rfl
theorem nl_203 : (203 : Int32) = nI 203 := rfl
theorem nl_204 : (204 : Int32) = nI 204 := rfl
theorem nl_205 : (205 : Int32) = nI 205 := rfl
theorem nl_255 : (255 : Int32) = nI 255 := rfl
theorem nl_256 : (256 : Int32) = nI 256 := rfl
theorem nl_300 : (300 : Int32) = nI 300 := rfl
theorem nl_301 : (301 : Int32) = nI 301 := rfl
theorem nl_400 : (400 : Int32) = nI 400 := rfl
theorem nl_401 : (401 : Int32) = nI 401 := rfl
theorem nl_500 : (500 : Int32) = nI 500 := rfl
theorem nl_641 : (641 : Int32) = nI 641 := rfl
theorem nl_773 : (773 : Int32) = nI 773 := rfl
theorem nl_1000 : (1000 : Int32) = nI 1000 := rfl
theorem nl_1100 : (1100 : Int32) = nI 1100 := rfl
theorem nl_4096 : (4096 : Int32) = nI 4096 := rfl
theorem nl_5000 : (5000 : Int32) = nI 5000 := rfl
theorem nl_5104 : (5104 : Int32) = nI 5104 := rfl
theorem nl_5421 : (5421 : Int32) = nI 5421 := rfl
theorem nl_5424 : (5424 : Int32) = nI 5424 := rfl
theorem nl_9999 : (9999 : Int32) = nI 9999 := rfl
theorem nl_31139 : (31139 : Int32) = nI 31139 := rfl
theorem nl_65536 : (65536 : Int32) = nI 65536 := rfl
theorem nl_113844 : (113844 : Int32) = nI 113844 := rfl
theorem nl_8388608 : (8388608 : Int32) = nI 8388608 := rfl
theorem nl_252645135 : (252645135 : Int32) = nI 252645135 := rfl
theorem nl_858993459 : (858993459 : Int32) = nI 858993459 := rfl
theorem nl_1431655765 : (1431655765 : Int32) = nI 1431655765 := rfl
theorem nl_2143289344 : (2143289344 : Int32) = nI 2143289344 := rfl
theorem bind_s {α β : Type} (a : α) (f : α → Option β) : (some a).bind f = f a := rfl
/-- the row a at k -/
theorem wr_a0 (c : Ce) (m : Nat) (μ : MS) {k : Nat} (hk : k < 113844) : aI (wr c m μ) (m + 1) (nI k) = some (μ.1 0 k) := by
  rw [wr_r0, if_neg (nI_in hk (by omega)), nI_clamp (by omega)]
theorem sr_isIn (a b d : Int32) : m_X12_isIn a b d = some (if b ≤ a ∧ a ≤ d then 1 else 0) := by
  unfold m_X12_isIn
  by_cases h1 : a < b
  · rw [if_pos h1, if_neg (fun h => absurd h.1 (Int32.not_le.mpr h1))]
  · rw [if_neg h1]
    by_cases h2 : d < a
    · rw [if_pos h2, if_neg (fun h => absurd h.2 (Int32.not_le.mpr h2))]
    · rw [if_neg h2, if_pos ⟨Int32.not_lt.mp h1, Int32.not_lt.mp h2⟩]
theorem sh_1 : ∀ k, k < 7 → (1 : Int32) <<< (nI k &&& 31) = nI (2 ^ k) := by decide +kernel
theorem sr_states (c : Ce) (m : Nat) (μ : MS) {l : Nat} (hl : l < 7) (h : μ.1 0 3 = nI l) : m_X12_states (wr c m μ) m = some (nI (2 ^ l)) := by
  unfold m_X12_states
  rw [wr_g0, bind_s, nl_3, wr_a0 c m μ (by decide), bind_s, h, sh_1 l hl]
theorem bz_1 (p : Prop) [Decidable p] : bz (if p then 1 else 0) = some (if p then 1 else 0) := by
  unfold bz
  by_cases h : p
  · simp [h]
  · simp [h]
theorem sr_isState (c : Ce) (m : Nat) (μ : MS) {l : Nat} (hl : l < 7) (h : μ.1 0 3 = nI l) (x : Int32) : m_X12_isState (wr c m μ) m x = some (if 0 ≤ x ∧ x ≤ nI (2 ^ l) - 1 then 1 else 0) := by
  unfold m_X12_isState
  rw [wr_rcv, bind_s, sr_states c m μ hl h, bind_s, sr_isIn, bind_s, bz_1, bind_s]
theorem sr_frameOf (c : Ce) (m : Nat) (μ : MS) {k : Nat} (hk : k < 5000) : m_X12_frameOf (wr c m μ) m (nI k) = some (μ.1 0 (104 + k) >>> ((12 : Int32) &&& 31)) := by
  unfold m_X12_frameOf
  rw [wr_g0, bind_s, nl_104, nI_add, wr_a0 c m μ (by omega), bind_s]
theorem sr_maskOf (c : Ce) (m : Nat) (μ : MS) {k : Nat} (hk : k < 5000) : m_X12_maskOf (wr c m μ) m (nI k) = some ((μ.1 0 (104 + k) >>> ((6 : Int32) &&& 31)) &&& 63) := by
  unfold m_X12_maskOf
  rw [wr_g0, bind_s, nl_104, nI_add, wr_a0 c m μ (by omega), bind_s]
theorem sr_bitsOf (c : Ce) (m : Nat) (μ : MS) {k : Nat} (hk : k < 5000) : m_X12_bitsOf (wr c m μ) m (nI k) = some (μ.1 0 (104 + k) &&& 63) := by
  unfold m_X12_bitsOf
  rw [wr_g0, bind_s, nl_104, nI_add, wr_a0 c m μ (by omega), bind_s]
