/-! TOKENS: the reference takes one: words, the whole -/
def wk (f : Nat → Nat) (q l : Nat) : Nat :=
  if l = 4 ∧ f q = 105 ∧ f (q + 1) = 110 ∧ f (q + 2) = 105 ∧ f (q + 3) = 116 then 7
  else if l = 4 ∧ f q = 110 ∧ f (q + 1) = 101 ∧ f (q + 2) = 120 ∧ f (q + 3) = 116 then 9
  else if l = 3 ∧ f q = 98 ∧ f (q + 1) = 97 ∧ f (q + 2) = 100 then 8
  else if (l = 7 ∧ f (q + 4) = 101 ∧ f (q + 5) = 114 ∧ f (q + 6) = 115) ∧ 4 = 4 ∧ f q = 108 ∧ f (q + 1) = 101 ∧ f (q + 2) = 116 ∧ f (q + 3) = 116 then 6
  else 1
/-- a token's number on the reference's side -/
def rk (K V : Nat) : Nat := match K with
  | 0 => 0
  | 1 => 2
  | 2 => 204
  | 3 => 205
  | 4 => 1
  | 5 => V
  | 6 => 200
  | 7 => 201
  | 8 => 202
  | _ => 203
def lk (f : Nat → Nat) (q l : Nat) : Nat := if l = 1 then (if f q ≤ 102 then 2 else if f q = 120 ∨ f q = 121 then 3 else 1) else wk f q l
def lv (f : Nat → Nat) (q : Nat) : Nat := if f q ≤ 102 then f q - 97 else f q - 120
theorem eqI {a b : Nat} (ha : a < 256) (hb : b < 256) : (nI a = nI b) = (a = b) := propext (nI_eq (by omega) (by omega))
theorem if_l {α : Type} {a : Nat} (b : Nat) (v : Int32) (hv : v = nI b) (ha : a < 2 ^ 31) (hb : b < 2 ^ 31) (x y : α) : (if nI a = v then x else y) = if a = b then x else y := by
  subst hv
  exact if_eq ha hb x y
theorem if_gl {α : Type} {a : Nat} (b : Nat) (v : Int32) (hv : v = nI b) (ha : a < 2 ^ 31) (hb : b < 2 ^ 31) (x y : α) : (if v < nI a then x else y) = if b < a then x else y := by
  subst hv
  exact if_lt hb ha x y
theorem sr_isFour (c : Ce) (m : Nat) {μ : MS} {n q l : Nat} {f : Nat → Nat} (hB : Byt μ n f) (hq : μ.2.2.2 4 = nI q) (hl : l < 2 ^ 31) (hin : l = 4 → q + 4 ≤ n) {a1 a2 a3 a4 : Nat} (h1 : a1 < 256) (h2 : a2 < 256) (h3 : a3 < 256) (h4 : a4 < 256) : m_X12_isFour (wr c m μ) m (nI l) (nI a1) (nI a2) (nI a3) (nI a4) = some (if l = 4 ∧ f q = a1 ∧ f (q + 1) = a2 ∧ f (q + 2) = a3 ∧ f (q + 3) = a4 then 1 else 0) := by
  unfold m_X12_isFour
  have hn := hB.2.1
  rw [nl_4, if_eq hl (by omega)]
  by_cases e : l = 4
  · have hi := hin e
    have b0 : m_X12_byteAt (wr c m μ) m (nI q) = some (nI (f q)) := by rw [sr_bt c m hB (by omega), if_pos (by omega)]
    have b1 : m_X12_byteAt (wr c m μ) m (nI q + 1) = some (nI (f (q + 1))) := by rw [nI_1, sr_bt c m hB (by omega), if_pos (by omega)]
    have b2 : m_X12_byteAt (wr c m μ) m (nI q + 2) = some (nI (f (q + 2))) := by rw [nl_2, nI_add, sr_bt c m hB (by omega), if_pos (by omega)]
    have b3 : m_X12_byteAt (wr c m μ) m (nI q + 3) = some (nI (f (q + 3))) := by rw [nl_3, nI_add, sr_bt c m hB (by omega), if_pos (by omega)]
    have g0 := (hB.2.2 q (by omega)).2
    have g1 := (hB.2.2 (q + 1) (by omega)).2
    have g2 := (hB.2.2 (q + 2) (by omega)).2
    have g3 := (hB.2.2 (q + 3) (by omega)).2
    rw [if_pos e]
    simp only [wr_g11, bind_s, wr_rcv, hq, b0, b1, b2, b3, eqI g0 h1, eqI g1 h2, eqI g2 h3, eqI g3 h4]
    by_cases c1 : f q = a1
    · rw [if_pos c1]
      by_cases c2 : f (q + 1) = a2
      · rw [if_pos c2]
        by_cases c3 : f (q + 2) = a3
        · rw [if_pos c3]
          by_cases c4 : f (q + 3) = a4
          · rw [if_pos c4, if_pos ⟨e, c1, c2, c3, c4⟩]
          · rw [if_neg c4, if_neg (fun z => c4 z.2.2.2.2)]
        · rw [if_neg c3, if_neg (fun z => c3 z.2.2.2.1)]
      · rw [if_neg c2, if_neg (fun z => c2 z.2.2.1)]
    · rw [if_neg c1, if_neg (fun z => c1 z.2.1)]
  · rw [if_neg e, if_neg (fun z => e z.1)]
def wtl (zc6 : Ce) (this : Nat) (p1 zx3 : Int32) : Option (Int32 × Ce) :=
      (rcv zc6 9 this).bind fun zz8 =>
      (m_X12_isFour zc6 this p1 (105 : Int32) (110 : Int32) (105 : Int32) (116 : Int32)).bind fun zx9 =>
      if zx9 = 0 then
        (rcv zc6 9 this).bind fun zz10 =>
        (m_X12_isFour zc6 this p1 (110 : Int32) (101 : Int32) (120 : Int32) (116 : Int32)).bind fun zx11 =>
        if zx11 = 0 then
          (
            if p1 = (3 : Int32) then
              if zx3 = (98 : Int32) then
                (gI zc6 9 11 this).bind fun zx27 =>
                (rcv zc6 9 this).bind fun zz28 =>
                (m_X12_byteAt zc6 this (zx27 + (1 : Int32))).bind fun zx29 =>
                if zx29 = (97 : Int32) then
                  (gI zc6 9 11 this).bind fun zx30 =>
                  (rcv zc6 9 this).bind fun zz31 =>
                  (m_X12_byteAt zc6 this (zx30 + (2 : Int32))).bind fun zx32 =>
                  if zx32 = (100 : Int32) then
                    some (Sum.inl (202 : Int32))
                  else
                    some (Sum.inr ())
                else
                  some (Sum.inr ())
              else
                some (Sum.inr ())
            else
              some (Sum.inr ())
          ).bind fun (zj12 : Int32 ⊕ Unit) => Sum.elim (fun wzj12 => some (wzj12, zc6)) (fun vzj12 =>
            (
              if p1 = (7 : Int32) then
                (gI zc6 9 11 this).bind fun zx16 =>
                (rcv zc6 9 this).bind fun zz17 =>
                (m_X12_byteAt zc6 this (zx16 + (4 : Int32))).bind fun zx18 =>
                if zx18 = (101 : Int32) then
                  (gI zc6 9 11 this).bind fun zx19 =>
                  (rcv zc6 9 this).bind fun zz20 =>
                  (m_X12_byteAt zc6 this (zx19 + (5 : Int32))).bind fun zx21 =>
                  if zx21 = (114 : Int32) then
                    (gI zc6 9 11 this).bind fun zx22 =>
                    (rcv zc6 9 this).bind fun zz23 =>
                    (m_X12_byteAt zc6 this (zx22 + (6 : Int32))).bind fun zx24 =>
                    if zx24 = (115 : Int32) then
                      if (1 : Int32) = 0 then
                        some (Sum.inl (2 : Int32))
                      else
                        (rcv zc6 9 this).bind fun zz25 =>
                        (m_X12_isFour zc6 this (4 : Int32) (108 : Int32) (101 : Int32) (116 : Int32) (116 : Int32)).bind fun zx26 =>
                        if zx26 = 0 then
                          some (Sum.inl (2 : Int32))
                        else
                          some (Sum.inl (200 : Int32))
                    else
                      some (Sum.inr ())
                  else
                    some (Sum.inr ())
                else
                  some (Sum.inr ())
              else
                some (Sum.inr ())
            ).bind fun (zj13 : Int32 ⊕ Unit) => Sum.elim (fun wzj13 => some (wzj13, zc6)) (fun vzj13 =>
              if (0 : Int32) = 0 then
                some ((2 : Int32), zc6)
              else
                (rcv zc6 9 this).bind fun zz14 =>
                (m_X12_isFour zc6 this (4 : Int32) (108 : Int32) (101 : Int32) (116 : Int32) (116 : Int32)).bind fun zx15 =>
                if zx15 = 0 then
                  some ((2 : Int32), zc6)
                else
                  some ((200 : Int32), zc6)
            ) zj13
          ) zj12
        else
          some ((203 : Int32), zc6)
      else
        some ((201 : Int32), zc6)

theorem sr_wtl (c : Ce) (m : Nat) {μ : MS} {n q l : Nat} {f : Nat → Nat} (hB : Byt μ n f) (hq : μ.2.2.2 4 = nI q) (hl : 0 < l) (hin : q + l ≤ n) : wtl (wr c m μ) m (nI l) (nI (f q)) = some (nI (rk (wk f q l) 0), wr c m μ) := by
  have hn := hB.2.1
  have f1 : m_X12_isFour (wr c m μ) m (nI l) (105 : Int32) (110 : Int32) (105 : Int32) (116 : Int32) = _ := sr_isFour c m hB hq (by omega) (by omega) (a1 := 105) (a2 := 110) (a3 := 105) (a4 := 116) (by omega) (by omega) (by omega) (by omega)
  have f2 : m_X12_isFour (wr c m μ) m (nI l) (110 : Int32) (101 : Int32) (120 : Int32) (116 : Int32) = _ := sr_isFour c m hB hq (by omega) (by omega) (a1 := 110) (a2 := 101) (a3 := 120) (a4 := 116) (by omega) (by omega) (by omega) (by omega)
  have hb : ∀ j, j < l → m_X12_byteAt (wr c m μ) m (nI q + nI j) = some (nI (f (q + j))) := fun j hj => by rw [nI_add, sr_bt c m hB (by omega), if_pos (by omega)]
  have hg : ∀ j, j < l → f (q + j) < 256 := fun j hj => (hB.2.2 (q + j) (by omega)).2
  have g0 := hg 0 hl
  unfold wtl wk
  rw [wr_rcv, bind_s, f1, bind_s]
  by_cases w1 : l = 4 ∧ f q = 105 ∧ f (q + 1) = 110 ∧ f (q + 2) = 105 ∧ f (q + 3) = 116
  · rw [if_pos w1, if_pos w1, if_neg (by decide)]
    rfl
  · rw [if_neg w1, if_neg w1, if_pos rfl, bind_s, f2, bind_s]
    by_cases w2 : l = 4 ∧ f q = 110 ∧ f (q + 1) = 101 ∧ f (q + 2) = 120 ∧ f (q + 3) = 116
    · rw [if_pos w2, if_pos w2, if_neg (by decide)]
      rfl
    · rw [if_neg w2, if_neg w2, if_pos rfl, if_l 3 (3 : Int32) rfl (by omega) (by omega)]
      have g0 : f q < 2 ^ 31 := by
        have := hg 0 hl
        rw [Nat.add_zero] at this
        omega
      have e3 : (if l = 3 then if nI (f q) = (98 : Int32) then (gI (wr c m μ) 9 11 m).bind fun zx27 => (some ()).bind fun zz28 => (m_X12_byteAt (wr c m μ) m (zx27 + (1 : Int32))).bind fun zx29 => if zx29 = (97 : Int32) then (gI (wr c m μ) 9 11 m).bind fun zx30 => (some ()).bind fun zz31 => (m_X12_byteAt (wr c m μ) m (zx30 + (2 : Int32))).bind fun zx32 => if zx32 = (100 : Int32) then some (Sum.inl (202 : Int32)) else some (Sum.inr ()) else some (Sum.inr ()) else some (Sum.inr ()) else some (Sum.inr ())) = (some (if l = 3 ∧ f q = 98 ∧ f (q + 1) = 97 ∧ f (q + 2) = 100 then Sum.inl (202 : Int32) else Sum.inr ()) : Option (Int32 ⊕ Unit)) := by
        by_cases e : l = 3
        · have g1 := hg 1 (by omega)
          have g2 := hg 2 (by omega)
          have b1 : m_X12_byteAt (wr c m μ) m (nI q + (1 : Int32)) = some (nI (f (q + 1))) := hb 1 (by omega)
          have b2 : m_X12_byteAt (wr c m μ) m (nI q + (2 : Int32)) = some (nI (f (q + 2))) := hb 2 (by omega)
          rw [if_pos e, if_l 98 (98 : Int32) rfl g0 (by omega)]
          by_cases c0 : f q = 98
          · rw [if_pos c0, wr_g11, bind_s, bind_s, hq, b1, bind_s, if_l 97 (97 : Int32) rfl (by omega) (by omega)]
            by_cases c1 : f (q + 1) = 97
            · rw [if_pos c1, bind_s, bind_s, b2, bind_s, if_l 100 (100 : Int32) rfl (by omega) (by omega)]
              by_cases c2 : f (q + 2) = 100
              · rw [if_pos c2, if_pos ⟨e, c0, c1, c2⟩]
              · rw [if_neg c2, if_neg (fun z => c2 z.2.2.2)]
            · rw [if_neg c1, if_neg (fun z => c1 z.2.2.1)]
          · rw [if_neg c0, if_neg (fun z => c0 z.2.1)]
        · rw [if_neg e, if_neg (fun z => e z.1)]
      rw [e3, bind_s]
      by_cases w3 : l = 3 ∧ f q = 98 ∧ f (q + 1) = 97 ∧ f (q + 2) = 100
      · rw [if_pos w3, if_pos w3, Sum.elim_inl]
        rfl
      · rw [if_neg w3, if_neg w3, Sum.elim_inr, if_l 7 (7 : Int32) rfl (by omega) (by omega)]
        by_cases e : l = 7
        · have g4 := hg 4 (by omega)
          have g5 := hg 5 (by omega)
          have g6 := hg 6 (by omega)
          have b4 : m_X12_byteAt (wr c m μ) m (nI q + (4 : Int32)) = some (nI (f (q + 4))) := hb 4 (by omega)
          have b5 : m_X12_byteAt (wr c m μ) m (nI q + (5 : Int32)) = some (nI (f (q + 5))) := hb 5 (by omega)
          have b6 : m_X12_byteAt (wr c m μ) m (nI q + (6 : Int32)) = some (nI (f (q + 6))) := hb 6 (by omega)
          have f3 : m_X12_isFour (wr c m μ) m (4 : Int32) (108 : Int32) (101 : Int32) (116 : Int32) (116 : Int32) = _ := sr_isFour c m hB hq (l := 4) (by omega) (by omega) (a1 := 108) (a2 := 101) (a3 := 116) (a4 := 116) (by omega) (by omega) (by omega) (by omega)
          rw [if_pos e, wr_g11, bind_s, bind_s, hq, b4, bind_s, if_l 101 (101 : Int32) rfl (by omega) (by omega)]
          by_cases c4 : f (q + 4) = 101
          · rw [if_pos c4, bind_s, bind_s, b5, bind_s, if_l 114 (114 : Int32) rfl (by omega) (by omega)]
            by_cases c5 : f (q + 5) = 114
            · rw [if_pos c5, bind_s, bind_s, b6, bind_s, if_l 115 (115 : Int32) rfl (by omega) (by omega)]
              by_cases c6 : f (q + 6) = 115
              · rw [if_pos c6, if_neg (by decide), bind_s, f3, bind_s]
                by_cases c7 : 4 = 4 ∧ f q = 108 ∧ f (q + 1) = 101 ∧ f (q + 2) = 116 ∧ f (q + 3) = 116
                · rw [if_pos c7, if_neg (by decide), bind_s, Sum.elim_inl, if_pos ⟨⟨e, c4, c5, c6⟩, c7⟩]
                  rfl
                · rw [if_neg c7, if_pos rfl, bind_s, Sum.elim_inl, if_neg (fun z => c7 z.2)]
                  rfl
              · rw [if_neg c6, bind_s, Sum.elim_inr, if_pos rfl, if_neg (fun z => c6 z.1.2.2.2)]
                rfl
            · rw [if_neg c5, bind_s, Sum.elim_inr, if_pos rfl, if_neg (fun z => c5 z.1.2.2.1)]
              rfl
          · rw [if_neg c4, bind_s, Sum.elim_inr, if_pos rfl, if_neg (fun z => c4 z.1.2.1)]
            rfl
        · rw [if_neg e, bind_s, Sum.elim_inr, if_pos rfl, if_neg (fun z => e z.1.1)]
          rfl
theorem wk_not (f : Nat → Nat) (q l V : Nat) : wk f q l ≠ 2 ∧ wk f q l ≠ 3 ∧ wk f q l ≠ 4 ∧ wk f q l ≠ 5 ∧ wk f q l ≠ 0 ∧ rk (wk f q l) V = rk (wk f q l) 0 := by
  unfold wk
  split
  · exact ⟨by omega, by omega, by omega, by omega, by omega, rfl⟩
  · split
    · exact ⟨by omega, by omega, by omega, by omega, by omega, rfl⟩
    · split
      · exact ⟨by omega, by omega, by omega, by omega, by omega, rfl⟩
      · split
        · exact ⟨by omega, by omega, by omega, by omega, by omega, rfl⟩
        · exact ⟨by omega, by omega, by omega, by omega, by omega, rfl⟩
theorem sr_wordOf (c : Ce) (m : Nat) {μ : MS} {n q l : Nat} {f : Nat → Nat} (hB : Byt μ n f) (hq : μ.2.2.2 4 = nI q) (hl : 0 < l) (hin : q + l ≤ n) (hs : isS (f q) = true) : ∃ ν, m_X12_wordOf (wr c m μ) m (nI l) = some (nI (rk (lk f q l) (lv f q)), wr c m ν) ∧ KN μ ν ∧ ν.2.2.2 3 = μ.2.2.2 3 ∧ ν.2.2.2 4 = μ.2.2.2 4 ∧ (lk f q l = 2 ∨ lk f q l = 3 → ν.2.2.2 6 = nI (lv f q)) := by
  have hn := hB.2.1
  have g0 := (hB.2.2 q (by omega)).2
  unfold isS at hs
  simp only [Bool.and_eq_true, decide_eq_true_eq] at hs
  have b0 : m_X12_byteAt (wr c m μ) m (nI q) = some (nI (f q)) := by rw [sr_bt c m hB (by omega), if_pos (by omega)]
  have k1 : KN μ (muN μ 6 (nI (f q) - 97)) := KN_n μ _ (by omega) (by omega)
  have k2 : KN μ (muN (muN μ 6 (nI (f q) - 97)) 6 (nI (f q) - 120)) := KN_trans k1 (KN_n _ _ (by omega) (by omega))
  have p2 : (muN (muN μ 6 (nI (f q) - 97)) 6 (nI (f q) - 120)).2.2.2 4 = nI q := (mn_n _ _ (by decide)).trans ((mn_n _ _ (by decide)).trans hq)
  have a3 : (muN (muN μ 6 (nI (f q) - 97)) 6 (nI (f q) - 120)).2.2.2 3 = μ.2.2.2 3 := (mn_n _ _ (by decide)).trans (mn_n _ _ (by decide))
  have a4 : (muN (muN μ 6 (nI (f q) - 97)) 6 (nI (f q) - 120)).2.2.2 4 = μ.2.2.2 4 := (mn_n _ _ (by decide)).trans (mn_n _ _ (by decide))
  have a6 : (muN (muN μ 6 (nI (f q) - 97)) 6 (nI (f q) - 120)).2.2.2 6 = nI (f q) - 120 := mn_e _ _ _
  have ht := sr_wtl c m (Byt_k hB k2) p2 hl hin
  unfold m_X12_wordOf
  rw [wr_g11, bind_s, hq, wr_rcv, bind_s, b0, bind_s, wr_n13, bind_s, if_l 1 (1 : Int32) rfl (by omega) (by omega)]
  by_cases e1 : l = 1
  · have hlk : lk f q l = if f q ≤ 102 then 2 else if f q = 120 ∨ f q = 121 then 3 else 1 := by
      unfold lk
      rw [if_pos e1]
    rw [if_pos e1, if_gl 102 (102 : Int32) rfl (by omega) (by omega)]
    by_cases e2 : f q ≤ 102
    · rw [if_neg (by omega), bind_s, Sum.elim_inl]
      rw [if_pos e2] at hlk
      have hlv : lv f q = f q - 97 := by
        unfold lv
        rw [if_pos e2]
      refine ⟨_, by rw [hlk]; rfl, k1, mn_n _ _ (show 3 ≠ 6 by decide), (mn_n _ _ (show 4 ≠ 6 by decide)).trans hq, fun _ => ?_⟩
      rw [mn_e, hlv, show (97 : Int32) = nI 97 from rfl, nI_sb (by omega)]
    · rw [if_neg e2] at hlk
      have hlv : lv f q = f q - 120 := by
        unfold lv
        rw [if_neg e2]
      rw [if_pos (by omega), bind_s, Sum.elim_inr, wr_n13, bind_s, if_l 1 (1 : Int32) rfl (by omega) (by omega), if_pos e1, if_l 120 (120 : Int32) rfl (by omega) (by omega), if_l 121 (121 : Int32) rfl (by omega) (by omega)]
      by_cases e3 : f q = 120 ∨ f q = 121
      · rw [if_pos e3] at hlk
        have hx : (if f q = 120 then some (Sum.inl (205 : Int32)) else if f q = 121 then some (Sum.inl (205 : Int32)) else some (Sum.inr ())) = (some (Sum.inl (205 : Int32)) : Option (Int32 ⊕ Unit)) := by
          rcases e3 with e3 | e3
          · rw [if_pos e3]
          · rw [if_neg (by omega), if_pos e3]
        rw [hx, bind_s, Sum.elim_inl]
        refine ⟨_, by rw [hlk]; rfl, k2, a3, p2, fun _ => ?_⟩
        rw [a6, hlv, show (120 : Int32) = nI 120 from rfl, nI_sb (by omega)]
      · rw [if_neg e3] at hlk
        rw [if_neg (by omega), if_neg (by omega), bind_s, Sum.elim_inr]
        have hw : wk f q l = 1 := by
          unfold wk
          rw [if_neg (by omega), if_neg (by omega), if_neg (by omega), if_neg (by omega)]
        rw [hw] at ht
        exact ⟨_, ht.trans (by rw [hlk]; rfl), k2, a3, p2, fun h => by rw [hlk] at h; omega⟩
  · have hlk : lk f q l = wk f q l := by
      unfold lk
      rw [if_neg e1]
    obtain ⟨z1, z2, z3, z4, z5, z6⟩ := wk_not f q l (lv f q)
    rw [if_neg e1, bind_s, Sum.elim_inr, wr_n13, bind_s, if_l 1 (1 : Int32) rfl (by omega) (by omega), if_neg e1, bind_s, Sum.elim_inr]
    exact ⟨_, ht.trans (by rw [hlk, z6]), k2, a3, p2, fun h => by rw [hlk] at h; omega⟩
