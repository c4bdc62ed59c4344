/-! THE BEGINNING: the reference's constructor -/
def μ00 : MS := (fun _ _ => 0, fun _ _ => 0, fun _ _ => 0, fun k => match k with | 1 => -1 | 2 => -1 | _ => 0)
theorem mk_r {c : Ce} {m a k n : Nat} {l : List Value} (l2 : List Value) (e : PE) (h : c m = some (.inr (9, l))) (hk : k < l.length) (h2 : l.set k (.ref a) = l2) (ha : m ≠ a) : ∃ d, pV (gx_up c a e) 9 k m (.ref a) = some d ∧ d m = some (.inr (9, l2)) ∧ d a = some e ∧ ∀ b, b ≠ m → b ≠ a → d b = c b := by
  obtain ⟨d, p, q, r⟩ := pv_r l2 ((gu_n c e ha).trans h) hk h2
  exact ⟨d, p, q, (r a (Ne.symm ha)).trans (gu_e _ _ _), fun b h1 h2 => (r b h1).trans (gu_n _ _ h2)⟩
def rfT (ce : Ce) (this : Nat) : Option (Unit × Ce × Nat × Nat) :=
  (gA ce 9 0 this).bind fun zx71 =>
  (sI ce zx71 (3 : Int32) (3 : Int32)).bind fun zc72 =>
  (gA zc72 9 0 this).bind fun zx73 =>
  (sI zc72 zx73 (7 : Int32) (1 : Int32)).bind fun zc74 =>
  (it (fun (zs75 : Int32 × Ce) =>
    if (8 : Int32) ≤ zs75.1 then
      some (Sum.inr ((), zs75.2))
    else
      (it (fun (zs92 : Int32 × Ce) =>
        if (4 : Int32) ≤ zs92.1 then
          some (Sum.inr ((), zs92.2))
        else
          (gA zs92.2 9 0 this).bind fun zx95 =>
          (aI zs92.2 zx95 ((28 : Int32) + zs75.1)).bind fun zx96 =>
          (sI zs92.2 zx95 ((28 : Int32) + zs75.1) (zx96 ||| (zs75.1 <<< (((6 : Int32) * zs92.1) &&& 31)))).bind fun zc97 =>
          some (Sum.inl ((zs92.1 + (1 : Int32)), zc97))
      ) FU ((0 : Int32), zs75.2)).bind fun (zo93 : Unit × Ce) =>
      some (Sum.inl ((zs75.1 + (1 : Int32)), zo93.2))
  ) FU ((0 : Int32), zc74)).bind fun (zo76 : Unit × Ce) =>
  (rcv zo76.2 9 this).bind fun zz78 =>
  (m_X12_putSet zo76.2 this (0 : Int32) (1 : Int64)).bind fun zq79 =>
  (rcv zq79.2 9 this).bind fun zz80 =>
  (m_X12_anew zq79.2 this).bind fun zq81 =>
  (gA zq81.2 9 0 this).bind fun zx82 =>
  (gA zq81.2 9 1 this).bind fun zx83 =>
  (m_X12_copy zq81.2 zx82 zx83).bind fun zq84 =>
  (gA zq84.2 9 2 this).bind fun zx85 =>
  (gA zq84.2 9 3 this).bind fun zx86 =>
  (m_X12_copyFloats zq84.2 zx85 zx86).bind fun zq87 =>
  some ((), zq87.2, 0, 0)
def rf16 (m a : Nat) (c : Ce) : Option (Unit × Ce × Nat × Nat) := (nwa (12 : Int32)).bind fun zk3 => adcK 1 zk3 fun _ => (some (gx_up c a (.inl (.long, zk3, .inr (.inl (fun _ => 0)))))).bind fun zc2 => (pV zc2 9 32 m (.ref a)).bind fun zc4 => rfT zc4 m
def rf15 (m a : Nat) (c : Ce) : Option (Unit × Ce × Nat × Nat) := (nwa (5000 : Int32)).bind fun zk3 => adcK 1 zk3 fun _ => (some (gx_up c a (.inl (.int, zk3, .inl (fun _ => 0))))).bind fun zc2 => (pV zc2 9 30 m (.ref a)).bind fun zc4 => rf16 m (a + 1) zc4
def rf14 (m a : Nat) (c : Ce) : Option (Unit × Ce × Nat × Nat) := (nwa (5000 : Int32)).bind fun zk3 => adcK 1 zk3 fun _ => (some (gx_up c a (.inl (.int, zk3, .inl (fun _ => 0))))).bind fun zc2 => (pV zc2 9 29 m (.ref a)).bind fun zc4 => rf15 m (a + 1) zc4
def rf13 (m a : Nat) (c : Ce) : Option (Unit × Ce × Nat × Nat) := (nwa (80 : Int32)).bind fun zk3 => adcK 1 zk3 fun _ => (some (gx_up c a (.inl (.int, zk3, .inl (fun _ => 0))))).bind fun zc2 => (pV zc2 9 27 m (.ref a)).bind fun zc4 => rf14 m (a + 1) zc4
def rf12 (m a : Nat) (c : Ce) : Option (Unit × Ce × Nat × Nat) := (nwa (7 : Int32)).bind fun zk3 => adcK 1 zk3 fun _ => (some (gx_up c a (.inl (.float, zk3, .inr (.inr (.inl (fun _ => 0))))))).bind fun zc2 => (pV zc2 9 26 m (.ref a)).bind fun zc4 => rf13 m (a + 1) zc4
def rf11 (m a : Nat) (c : Ce) : Option (Unit × Ce × Nat × Nat) := (nwa (5421 : Int32)).bind fun zk3 => adcK 1 zk3 fun _ => (some (gx_up c a (.inl (.int, zk3, .inl (fun _ => 0))))).bind fun zc2 => (pV zc2 9 25 m (.ref a)).bind fun zc4 => rf12 m (a + 1) zc4
def rf10 (m a : Nat) (c : Ce) : Option (Unit × Ce × Nat × Nat) := (nwa (5000 : Int32)).bind fun zk3 => adcK 1 zk3 fun _ => (some (gx_up c a (.inl (.int, zk3, .inl (fun _ => 0))))).bind fun zc2 => (pV zc2 9 24 m (.ref a)).bind fun zc4 => rf11 m (a + 1) zc4
def rf9 (m a : Nat) (c : Ce) : Option (Unit × Ce × Nat × Nat) := (nwa (6 : Int32)).bind fun zk3 => adcK 1 zk3 fun _ => (some (gx_up c a (.inl (.int, zk3, .inl (fun _ => 0))))).bind fun zc2 => (pV zc2 9 23 m (.ref a)).bind fun zc4 => rf10 m (a + 1) zc4
def rf8 (m a : Nat) (c : Ce) : Option (Unit × Ce × Nat × Nat) := (nwa (80 : Int32)).bind fun zk3 => adcK 1 zk3 fun _ => (some (gx_up c a (.inl (.int, zk3, .inl (fun _ => 0))))).bind fun zc2 => (pV zc2 9 15 m (.ref a)).bind fun zc4 => rf9 m (a + 1) zc4
def rf7 (m a : Nat) (c : Ce) : Option (Unit × Ce × Nat × Nat) := (nwa (160 : Int32)).bind fun zk3 => adcK 1 zk3 fun _ => (some (gx_up c a (.inl (.long, zk3, .inr (.inl (fun _ => 0)))))).bind fun zc2 => (pV zc2 9 14 m (.ref a)).bind fun zc4 => rf8 m (a + 1) zc4
def rf6 (m a : Nat) (c : Ce) : Option (Unit × Ce × Nat × Nat) := (nwa (300 : Int32)).bind fun zk3 => adcK 1 zk3 fun _ => (some (gx_up c a (.inl (.int, zk3, .inl (fun _ => 0))))).bind fun zc2 => (pV zc2 9 6 m (.ref a)).bind fun zc4 => (pV zc4 9 8 m (.int (-1 : Int32))).bind fun zc29 => (pV zc29 9 9 m (.int (-1 : Int32))).bind fun zc30 => rf7 m (a + 1) zc30
def rf5 (m a : Nat) (c : Ce) : Option (Unit × Ce × Nat × Nat) := (nwa (116 : Int32)).bind fun zk3 => adcK 1 zk3 fun _ => (some (gx_up c a (.inl (.long, zk3, .inr (.inl (fun _ => 0)))))).bind fun zc2 => (pV zc2 9 5 m (.ref a)).bind fun zc4 => rf6 m (a + 1) zc4
def rf4 (m a : Nat) (c : Ce) : Option (Unit × Ce × Nat × Nat) := (nwa (8 : Int32)).bind fun zk3 => adcK 1 zk3 fun _ => (some (gx_up c a (.inl (.int, zk3, .inl (fun _ => 0))))).bind fun zc2 => (pV zc2 9 4 m (.ref a)).bind fun zc4 => rf5 m (a + 1) zc4
def rf3 (m a : Nat) (c : Ce) : Option (Unit × Ce × Nat × Nat) := (nwa (147 : Int32)).bind fun zk3 => adcK 1 zk3 fun _ => (some (gx_up c a (.inl (.float, zk3, .inr (.inr (.inl (fun _ => 0))))))).bind fun zc2 => (pV zc2 9 3 m (.ref a)).bind fun zc4 => rf4 m (a + 1) zc4
def rf2 (m a : Nat) (c : Ce) : Option (Unit × Ce × Nat × Nat) := (nwa (147 : Int32)).bind fun zk3 => adcK 1 zk3 fun _ => (some (gx_up c a (.inl (.float, zk3, .inr (.inr (.inl (fun _ => 0))))))).bind fun zc2 => (pV zc2 9 2 m (.ref a)).bind fun zc4 => rf3 m (a + 1) zc4
def rf1 (m a : Nat) (c : Ce) : Option (Unit × Ce × Nat × Nat) := (nwa (113844 : Int32)).bind fun zk3 => adcK 1 zk3 fun _ => (some (gx_up c a (.inl (.int, zk3, .inl (fun _ => 0))))).bind fun zc2 => (pV zc2 9 1 m (.ref a)).bind fun zc4 => rf2 m (a + 1) zc4
def rf0 (m a : Nat) (c : Ce) : Option (Unit × Ce × Nat × Nat) := (nwa (113844 : Int32)).bind fun zk3 => adcK 1 zk3 fun _ => (some (gx_up c a (.inl (.int, zk3, .inl (fun _ => 0))))).bind fun zc2 => (pV zc2 9 0 m (.ref a)).bind fun zc4 => rf1 m (a + 1) zc4
theorem x12_e (nx : Nat) (ce : Ce) (this : Nat) : m_X12_init nx ce this = rf0 this nx ce := rfl
def RfQ (d : Ce) (m : Nat) : Prop := ∃ μ, d = wr d m μ ∧ AR (μ.1 0) (μ.2.2.1 2) ([], [], V00) ∧ AR (μ.1 1) (μ.2.2.1 3) ([], [], V00) ∧ μ.2.2.2 0 = 0 ∧ μ.2.2.2 1 = -1 ∧ μ.2.2.2 2 = -1
def vl (s : Nat) : Nat → Int32
  | 0 => 0
  | j + 1 => vl s j ||| (nI s <<< (((6 : Int32) * nI j) &&& 31))
theorem vl_get : ∀ s, s < 8 → ∀ i, i < 4 → ((vl s 4 >>> (((6 : Int32) * nI i) &&& 31)) &&& 63) = nI s := by decide +kernel
def sA (a : Nat → Int32) (s : Nat) : Nat → Int32 := fun j => if 28 ≤ j ∧ j < 28 + s then vl (j - 28) 4 else a j
theorem sA_0 (a : Nat → Int32) : sA a 0 = a := by
  funext j
  unfold sA
  rw [if_neg (by omega)]
theorem sA_s (a : Nat → Int32) (s : Nat) : va_up (sA a s) (28 + s) (vl s 4) = sA a (s + 1) := by
  funext j
  by_cases e : j = 28 + s
  · subst e
    rw [up_e]
    unfold sA
    rw [if_pos (by omega), show 28 + s - 28 = s by omega]
  · rw [up_n _ _ _ e]
    unfold sA
    by_cases e2 : 28 ≤ j ∧ j < 28 + s
    · rw [if_pos e2, if_pos (by omega)]
    · rw [if_neg e2, if_neg (by omega)]
theorem su_in (c : Ce) (m : Nat) (μ : MS) (a : Nat → Int32) {s : Nat} (hs : s < 8) (h : a (28 + s) = 0) : it (fun (zs92 : Int32 × Ce) => if (4 : Int32) ≤ zs92.1 then some (Sum.inr ((), zs92.2)) else (gA zs92.2 9 0 m).bind fun zx95 => (aI zs92.2 zx95 ((28 : Int32) + nI s)).bind fun zx96 => (sI zs92.2 zx95 ((28 : Int32) + nI s) (zx96 ||| (nI s <<< (((6 : Int32) * zs92.1) &&& 31)))).bind fun zc97 => some (Sum.inl ((zs92.1 + (1 : Int32)), zc97))) FU ((0 : Int32), wr c m (mu0 μ a)) = some ((), wr c m (mu0 μ (va_up a (28 + s) (vl s 4)))) := by
  refine ok_eq (ok_cnt 0 4 (fun j z => z = (nI j, wr c m (mu0 μ (va_up a (28 + s) (vl s j))))) (by omega) (by omega) ?_ ?_ ?_)
  · have e : va_up a (28 + s) (vl s 0) = a := by
      funext j
      by_cases e : j = 28 + s
      · subst e
        rw [up_e]
        exact h.symm
      · exact up_n _ _ _ e
    rw [e]
    rfl
  · rintro j _ hj rfl
    show Ok (if (4 : Int32) ≤ nI j then _ else _) _
    rw [nl_4, if_le (by omega) (by omega), if_neg (by omega)]
    show Ok ((gA (wr c m (mu0 μ (va_up a (28 + s) (vl s j)))) 9 0 m).bind _) _
    rw [wr_g0, bind_s, show (28 : Int32) + nI s = nI (28 + s) from nI_add 28 s, wr_a0 c m _ (by omega), bind_s, wr_u0 c m _ (by omega), bind_s]
    refine ok_some ?_
    show (nI j + 1, _) = _
    rw [nI_1, ma_of, mu0_a, up_e, up_up]
    rfl
  · rintro _ rfl
    show Ok (if (4 : Int32) ≤ nI 4 then _ else _) _
    rw [nl_4, if_pos (Int32.le_refl _)]
    exact ok_some rfl
theorem su_out (c : Ce) (m : Nat) (μ : MS) (a : Nat → Int32) (h : ∀ s, s < 8 → a (28 + s) = 0) : it (fun (zs75 : Int32 × Ce) => if (8 : Int32) ≤ zs75.1 then some (Sum.inr ((), zs75.2)) else (it (fun (zs92 : Int32 × Ce) => if (4 : Int32) ≤ zs92.1 then some (Sum.inr ((), zs92.2)) else (gA zs92.2 9 0 m).bind fun zx95 => (aI zs92.2 zx95 ((28 : Int32) + zs75.1)).bind fun zx96 => (sI zs92.2 zx95 ((28 : Int32) + zs75.1) (zx96 ||| (zs75.1 <<< (((6 : Int32) * zs92.1) &&& 31)))).bind fun zc97 => some (Sum.inl ((zs92.1 + (1 : Int32)), zc97))) FU ((0 : Int32), zs75.2)).bind fun (zo93 : Unit × Ce) => some (Sum.inl ((zs75.1 + (1 : Int32)), zo93.2))) FU ((0 : Int32), wr c m (mu0 μ a)) = some ((), wr c m (mu0 μ (sA a 8))) := by
  refine ok_eq (ok_cnt 0 8 (fun j z => z = (nI j, wr c m (mu0 μ (sA a j)))) (by omega) (by omega) ?_ ?_ ?_)
  · rw [sA_0]
    rfl
  · rintro s _ hs rfl
    show Ok (if (8 : Int32) ≤ nI s then _ else _) _
    rw [if_neg (show ¬ (8 : Int32) ≤ nI s from fun z => by have := (nI_leI (a := 8) (by omega) (by omega)).mp z; omega)]
    refine ok_to (su_in c m μ (sA a s) hs ?_) ?_
    · unfold sA
      rw [if_neg (by omega)]
      exact h s hs
    · refine ok_some ?_
      show (nI s + 1, _) = _
      rw [nI_1, sA_s]
  · rintro _ rfl
    show Ok (if (8 : Int32) ≤ nI 8 then _ else _) _
    rw [if_pos (show (8 : Int32) ≤ nI 8 from Int32.le_refl _)]
    exact ok_some rfl
theorem rf_T (c : Ce) (m : Nat) : Ok (rfT (wr c m μ00) m) (fun z => z.2.2 = (0, 0) ∧ (∀ b, (b < m ∨ m + 17 < b) → z.2.1 b = c b) ∧ RfQ z.2.1 m) := by
  unfold rfT
  rw [wr_g0, bind_s, wt_3, bind_s, wr_g0, bind_s, wt_7, bind_s]
  have e1 : ma (ma μ00 3 3) 7 1 = mu0 μ00 (va_up (va_up (fun _ => 0) 3 3) 7 1) := by
    rw [show ma μ00 3 3 = mu0 μ00 (va_up (fun _ => 0) 3 3) from rfl, ma_of]
  rw [e1]
  generalize ha : va_up (va_up (fun _ => (0 : Int32)) 3 3) 7 1 = a
  have hz : ∀ j, j ≠ 3 → j ≠ 7 → a j = 0 := fun j h3 h7 => by rw [← ha, up_n _ _ _ h7, up_n _ _ _ h3]
  have h3 : a 3 = 3 := by rw [← ha, up_n _ _ _ (by decide), up_e]
  have h7 : a 7 = 1 := by rw [← ha, up_e]
  refine ok_to (su_out c m μ00 a (fun s hs => hz _ (by omega) (by omega))) ?_
  show Ok ((rcv (wr c m (mu0 μ00 (sA a 8))) 9 m).bind _) _
  have hp : m_X12_putSet (wr c m (mu0 μ00 (sA a 8))) m (0 : Int32) (1 : Int64) = _ := sr_putSet c m (mu0 μ00 (sA a 8)) (k := 0) (by omega) 1
  rw [wr_rcv, bind_s, hp, bind_s]
  rw [ma_of, ma_of]
  generalize hb : va_up (va_up (sA a 8) (18 + 2 * 0) (1 : Int64).toInt32) (19 + 2 * 0) ((1 : Int64) >>> ((32 : Int32).toInt64 &&& 63)).toInt32 = g
  have g18 : g 18 = (1 : Int64).toInt32 := by rw [← hb, up_n _ _ _ (by decide)]; exact up_e _ _ _
  have g19 : g 19 = ((1 : Int64) >>> ((32 : Int32).toInt64 &&& 63)).toInt32 := by rw [← hb]; exact up_e _ _ _
  have go : ∀ j, j ≠ 18 → j ≠ 19 → g j = sA a 8 j := fun j n8 n9 => by rw [← hb, up_n _ _ _ n9, up_n _ _ _ n8]
  have gz : ∀ j, j ≠ 3 → j ≠ 7 → (j < 18 ∨ (20 ≤ j ∧ j < 28) ∨ 36 ≤ j) → g j = 0 := fun j n3 n7 hj => by
    rw [go j (by omega) (by omega)]
    unfold sA
    rw [if_neg (by omega)]
    exact hz j n3 n7
  have g3 : g 3 = 3 := by
    rw [go 3 (by decide) (by decide)]
    exact h3
  have g7 : g 7 = 1 := by
    rw [go 7 (by decide) (by decide)]
    exact h7
  have hM : Mac ((mu0 μ00 g).1 0) plM := by
    rw [mu0_a]
    refine ⟨g3, by decide, by decide, g7, by decide, by decide, ?_, fun i hi => ?_, fun s hs i hi => ?_⟩
    · rw [lset_put g 0 1 g18 g19]
      exact (all_1 3 (by decide) (by decide)).symm
    · have hi : i < 1 := hi
      have e : i = 0 := by omega
      subst e
      unfold lset
      rw [gz _ (by decide) (by decide) (by decide), gz _ (by decide) (by decide) (by decide)]
      decide
    · have hs : s < 8 := hs
      have e : g (28 + s) = vl s 4 := by
        rw [go _ (by omega) (by omega)]
        unfold sA
        rw [if_pos (by omega), show 28 + s - 28 = s by omega]
      rw [e]
      exact ⟨vl_get s hs i hi, hs⟩
  have h15 : (mu0 μ00 g).1 0 15 = nI 0 := by
    rw [mu0_a]
    exact gz 15 (by decide) (by decide) (by decide)
  obtain ⟨ν, n1, n2, n3⟩ := sr_anew c m hM h15
  show Ok ((rcv (wr c m (mu0 μ00 g)) 9 m).bind _) _
  rw [wr_rcv, bind_s, n1, bind_s]
  show Ok ((gA (wr c m ν) 9 0 m).bind _) _
  rw [wr_g0, bind_s, wr_g1, bind_s, sr_copy01, bind_s]
  show Ok ((gA (wr c m (muI ν 1 (va_cpy (ν.1 0) (ν.1 1) 0 0 113844))) 9 2 m).bind _) _
  rw [wr_g2, bind_s, wr_g3, bind_s, sr_copyF23, bind_s]
  refine ok_some ?_
  have hA : AR (ν.1 0) (ν.2.2.1 2) ([], [], V00) := by
    refine ⟨?_, by decide, ?_, by decide, n2, 0, by decide, ?_, fun i V hV => ?_⟩
    · rw [n3.1 0 (by decide), mu0_a]
      exact gz 0 (by decide) (by decide) (by decide)
    · rw [n3.1 1 (by decide), mu0_a]
      exact gz 1 (by decide) (by decide) (by decide)
    · rw [n3.1 2 (by decide), mu0_a]
      exact gz 2 (by decide) (by decide) (by decide)
    · have hV : ([] : List Sv)[i]? = some V := hV
      rw [List.getElem?_nil] at hV
      cases hV
  refine ⟨rfl, fun b hb => wr_o _ _ _ _ hb, muH (muI ν 1 (va_cpy (ν.1 0) (ν.1 1) 0 0 113844)) 3 (va_cpy (ν.2.2.1 2) (ν.2.2.1 3) 0 0 147), (wr_wr _ _ _ _).symm, ?_, ?_, ?_, ?_, ?_⟩
  · rw [muH_1, muI_n ν _ (by omega), muH_n _ _ (by omega)]
    exact hA
  · rw [muH_1, muI_e, muH_e]
    exact AR_congr hA (fun j hj => by rw [pk_cpy_in (by omega) (by omega)]; exact congrArg (ν.1 0) (by omega)) (fun j hj => by rw [pk_cpy_in (by omega) (by omega)]; exact congrArg (ν.2.2.1 2) (by omega))
  · show ν.2.2.2 0 = 0
    rw [n3.2.2.2.2.2.2 0 (by decide)]
    rfl
  · show ν.2.2.2 1 = -1
    rw [n3.2.2.2.2.2.2 1 (by decide)]
    rfl
  · show ν.2.2.2 2 = -1
    rw [n3.2.2.2.2.2.2 2 (by decide)]
    rfl
theorem nw_6 : nwa (6 : Int32) = some 6 := by
  rw [show (6 : Int32) = nI 6 from rfl]
  exact nwa_n (by omega)
theorem nw_7 : nwa (7 : Int32) = some 7 := by
  rw [show (7 : Int32) = nI 7 from rfl]
  exact nwa_n (by omega)
theorem nw_8 : nwa (8 : Int32) = some 8 := by
  rw [show (8 : Int32) = nI 8 from rfl]
  exact nwa_n (by omega)
theorem nw_12 : nwa (12 : Int32) = some 12 := by
  rw [show (12 : Int32) = nI 12 from rfl]
  exact nwa_n (by omega)
theorem nw_80 : nwa (80 : Int32) = some 80 := by
  rw [show (80 : Int32) = nI 80 from rfl]
  exact nwa_n (by omega)
theorem nw_116 : nwa (116 : Int32) = some 116 := by
  rw [show (116 : Int32) = nI 116 from rfl]
  exact nwa_n (by omega)
theorem nw_147 : nwa (147 : Int32) = some 147 := by
  rw [show (147 : Int32) = nI 147 from rfl]
  exact nwa_n (by omega)
theorem nw_160 : nwa (160 : Int32) = some 160 := by
  rw [show (160 : Int32) = nI 160 from rfl]
  exact nwa_n (by omega)
theorem nw_300 : nwa (300 : Int32) = some 300 := by
  rw [show (300 : Int32) = nI 300 from rfl]
  exact nwa_n (by omega)
theorem nw_5000 : nwa (5000 : Int32) = some 5000 := by
  rw [show (5000 : Int32) = nI 5000 from rfl]
  exact nwa_n (by omega)
theorem nw_5421 : nwa (5421 : Int32) = some 5421 := by
  rw [show (5421 : Int32) = nI 5421 from rfl]
  exact nwa_n (by omega)
theorem nw_113844 : nwa (113844 : Int32) = some 113844 := by
  rw [show (113844 : Int32) = nI 113844 from rfl]
  exact nwa_n (by omega)
theorem rmk16 {c : Ce} {m : Nat} (h : c m = some (.inr (9, [.ref (m + 1), .ref (m + 2), .ref (m + 3), .ref (m + 4), .ref (m + 5), .ref (m + 6), .ref (m + 7), .int 0, .int (-1), .int (-1), .int 0, .int 0, .int 0, .int 0, .ref (m + 8), .ref (m + 9), .int 0, .int 0, .int 0, .int 0, .int 0, .int 0, .int 0, .ref (m + 10), .ref (m + 11), .ref (m + 12), .ref (m + 13), .ref (m + 14), .int 0, .ref (m + 15), .ref (m + 16), .int 0, .null]))) (hc : ∀ j, j < 16 → c (m + (j + 1)) = some (mCell μ00 j)) : Ok (rf16 m (m + 17) c) (fun z => z.2.2.1 = 1 ∧ z.2.2.2 = 12 ∧ (∀ b, (b < m ∨ m + 17 < b) → z.2.1 b = c b) ∧ RfQ z.2.1 m) := by
  unfold rf16
  rw [nw_12, bind_s]
  refine ok_adcK ?_
  rw [bind_s]
  obtain ⟨d, p, q, x, y⟩ := mk_r (n := 0) (k := 32) [.ref (m + 1), .ref (m + 2), .ref (m + 3), .ref (m + 4), .ref (m + 5), .ref (m + 6), .ref (m + 7), .int 0, .int (-1), .int (-1), .int 0, .int 0, .int 0, .int 0, .ref (m + 8), .ref (m + 9), .int 0, .int 0, .int 0, .int 0, .int 0, .int 0, .int 0, .ref (m + 10), .ref (m + 11), .ref (m + 12), .ref (m + 13), .ref (m + 14), .int 0, .ref (m + 15), .ref (m + 16), .int 0, .ref (m + 17)] (.inl (.long, 12, .inr (.inl (fun _ => 0)))) h (Nat.le_of_ble_eq_true rfl) rfl (show m ≠ m + 17 by omega)
  rw [p, bind_s]
  have hd : ∀ j, j < 17 → d (m + (j + 1)) = some (mCell μ00 j) := by
    intro j hj
    by_cases e : j = 16
    · subst e
      exact x
    · rw [y _ (by omega) (by omega)]
      exact hc j (by omega)
  have hw : d = wr d m μ00 := by
    funext b
    unfold wr
    by_cases e : b = m
    · rw [if_pos e, e]
      exact q
    · rw [if_neg e]
      by_cases e2 : m < b ∧ b ≤ m + 17
      · rw [if_pos e2]
        have hj := hd (b - m - 1) (by omega)
        rw [show m + (b - m - 1 + 1) = b by omega] at hj
        exact hj
      · rw [if_neg e2]
  have hT := rf_T d m
  rw [← hw] at hT
  refine ok_mono hT ?_
  rintro ⟨u, e, K, S⟩ ⟨k1, g1, g2⟩
  cases k1
  exact ⟨rfl, rfl, fun b hb => (g1 b hb).trans (y b (by omega) (by omega)), g2⟩
theorem rmk15 {c : Ce} {m : Nat} (h : c m = some (.inr (9, [.ref (m + 1), .ref (m + 2), .ref (m + 3), .ref (m + 4), .ref (m + 5), .ref (m + 6), .ref (m + 7), .int 0, .int (-1), .int (-1), .int 0, .int 0, .int 0, .int 0, .ref (m + 8), .ref (m + 9), .int 0, .int 0, .int 0, .int 0, .int 0, .int 0, .int 0, .ref (m + 10), .ref (m + 11), .ref (m + 12), .ref (m + 13), .ref (m + 14), .int 0, .ref (m + 15), .null, .int 0, .null]))) (hc : ∀ j, j < 15 → c (m + (j + 1)) = some (mCell μ00 j)) : Ok (rf15 m (m + 16) c) (fun z => z.2.2.1 = 2 ∧ z.2.2.2 = 5012 ∧ (∀ b, (b < m ∨ m + 17 < b) → z.2.1 b = c b) ∧ RfQ z.2.1 m) := by
  unfold rf15
  rw [nw_5000, bind_s]
  refine ok_adcK ?_
  rw [bind_s]
  obtain ⟨d, p, q, x, y⟩ := mk_r (n := 0) (k := 30) [.ref (m + 1), .ref (m + 2), .ref (m + 3), .ref (m + 4), .ref (m + 5), .ref (m + 6), .ref (m + 7), .int 0, .int (-1), .int (-1), .int 0, .int 0, .int 0, .int 0, .ref (m + 8), .ref (m + 9), .int 0, .int 0, .int 0, .int 0, .int 0, .int 0, .int 0, .ref (m + 10), .ref (m + 11), .ref (m + 12), .ref (m + 13), .ref (m + 14), .int 0, .ref (m + 15), .ref (m + 16), .int 0, .null] (.inl (.int, 5000, .inl (fun _ => 0))) h (Nat.le_of_ble_eq_true rfl) rfl (show m ≠ m + 16 by omega)
  rw [p, bind_s]
  have hd : ∀ j, j < 16 → d (m + (j + 1)) = some (mCell μ00 j) := by
    intro j hj
    by_cases e : j = 15
    · subst e
      exact x
    · rw [y _ (by omega) (by omega)]
      exact hc j (by omega)
  refine ok_mono (rmk16 (m := m) q hd) ?_
  rintro ⟨u, e, K, S⟩ ⟨k1, s1, g1, g2⟩
  have k1 : K = 1 := k1
  have s1 : S = 12 := s1
  subst k1 s1
  refine ⟨rfl, ?_, fun b hb => (g1 b hb).trans (y b (by omega) (by omega)), g2⟩
  show 12 + 5000 = 5012
  omega
theorem rmk14 {c : Ce} {m : Nat} (h : c m = some (.inr (9, [.ref (m + 1), .ref (m + 2), .ref (m + 3), .ref (m + 4), .ref (m + 5), .ref (m + 6), .ref (m + 7), .int 0, .int (-1), .int (-1), .int 0, .int 0, .int 0, .int 0, .ref (m + 8), .ref (m + 9), .int 0, .int 0, .int 0, .int 0, .int 0, .int 0, .int 0, .ref (m + 10), .ref (m + 11), .ref (m + 12), .ref (m + 13), .ref (m + 14), .int 0, .null, .null, .int 0, .null]))) (hc : ∀ j, j < 14 → c (m + (j + 1)) = some (mCell μ00 j)) : Ok (rf14 m (m + 15) c) (fun z => z.2.2.1 = 3 ∧ z.2.2.2 = 10012 ∧ (∀ b, (b < m ∨ m + 17 < b) → z.2.1 b = c b) ∧ RfQ z.2.1 m) := by
  unfold rf14
  rw [nw_5000, bind_s]
  refine ok_adcK ?_
  rw [bind_s]
  obtain ⟨d, p, q, x, y⟩ := mk_r (n := 0) (k := 29) [.ref (m + 1), .ref (m + 2), .ref (m + 3), .ref (m + 4), .ref (m + 5), .ref (m + 6), .ref (m + 7), .int 0, .int (-1), .int (-1), .int 0, .int 0, .int 0, .int 0, .ref (m + 8), .ref (m + 9), .int 0, .int 0, .int 0, .int 0, .int 0, .int 0, .int 0, .ref (m + 10), .ref (m + 11), .ref (m + 12), .ref (m + 13), .ref (m + 14), .int 0, .ref (m + 15), .null, .int 0, .null] (.inl (.int, 5000, .inl (fun _ => 0))) h (Nat.le_of_ble_eq_true rfl) rfl (show m ≠ m + 15 by omega)
  rw [p, bind_s]
  have hd : ∀ j, j < 15 → d (m + (j + 1)) = some (mCell μ00 j) := by
    intro j hj
    by_cases e : j = 14
    · subst e
      exact x
    · rw [y _ (by omega) (by omega)]
      exact hc j (by omega)
  refine ok_mono (rmk15 (m := m) q hd) ?_
  rintro ⟨u, e, K, S⟩ ⟨k1, s1, g1, g2⟩
  have k1 : K = 2 := k1
  have s1 : S = 5012 := s1
  subst k1 s1
  refine ⟨rfl, ?_, fun b hb => (g1 b hb).trans (y b (by omega) (by omega)), g2⟩
  show 5012 + 5000 = 10012
  omega
theorem rmk13 {c : Ce} {m : Nat} (h : c m = some (.inr (9, [.ref (m + 1), .ref (m + 2), .ref (m + 3), .ref (m + 4), .ref (m + 5), .ref (m + 6), .ref (m + 7), .int 0, .int (-1), .int (-1), .int 0, .int 0, .int 0, .int 0, .ref (m + 8), .ref (m + 9), .int 0, .int 0, .int 0, .int 0, .int 0, .int 0, .int 0, .ref (m + 10), .ref (m + 11), .ref (m + 12), .ref (m + 13), .null, .int 0, .null, .null, .int 0, .null]))) (hc : ∀ j, j < 13 → c (m + (j + 1)) = some (mCell μ00 j)) : Ok (rf13 m (m + 14) c) (fun z => z.2.2.1 = 4 ∧ z.2.2.2 = 10092 ∧ (∀ b, (b < m ∨ m + 17 < b) → z.2.1 b = c b) ∧ RfQ z.2.1 m) := by
  unfold rf13
  rw [nw_80, bind_s]
  refine ok_adcK ?_
  rw [bind_s]
  obtain ⟨d, p, q, x, y⟩ := mk_r (n := 0) (k := 27) [.ref (m + 1), .ref (m + 2), .ref (m + 3), .ref (m + 4), .ref (m + 5), .ref (m + 6), .ref (m + 7), .int 0, .int (-1), .int (-1), .int 0, .int 0, .int 0, .int 0, .ref (m + 8), .ref (m + 9), .int 0, .int 0, .int 0, .int 0, .int 0, .int 0, .int 0, .ref (m + 10), .ref (m + 11), .ref (m + 12), .ref (m + 13), .ref (m + 14), .int 0, .null, .null, .int 0, .null] (.inl (.int, 80, .inl (fun _ => 0))) h (Nat.le_of_ble_eq_true rfl) rfl (show m ≠ m + 14 by omega)
  rw [p, bind_s]
  have hd : ∀ j, j < 14 → d (m + (j + 1)) = some (mCell μ00 j) := by
    intro j hj
    by_cases e : j = 13
    · subst e
      exact x
    · rw [y _ (by omega) (by omega)]
      exact hc j (by omega)
  refine ok_mono (rmk14 (m := m) q hd) ?_
  rintro ⟨u, e, K, S⟩ ⟨k1, s1, g1, g2⟩
  have k1 : K = 3 := k1
  have s1 : S = 10012 := s1
  subst k1 s1
  refine ⟨rfl, ?_, fun b hb => (g1 b hb).trans (y b (by omega) (by omega)), g2⟩
  show 10012 + 80 = 10092
  omega
theorem rmk12 {c : Ce} {m : Nat} (h : c m = some (.inr (9, [.ref (m + 1), .ref (m + 2), .ref (m + 3), .ref (m + 4), .ref (m + 5), .ref (m + 6), .ref (m + 7), .int 0, .int (-1), .int (-1), .int 0, .int 0, .int 0, .int 0, .ref (m + 8), .ref (m + 9), .int 0, .int 0, .int 0, .int 0, .int 0, .int 0, .int 0, .ref (m + 10), .ref (m + 11), .ref (m + 12), .null, .null, .int 0, .null, .null, .int 0, .null]))) (hc : ∀ j, j < 12 → c (m + (j + 1)) = some (mCell μ00 j)) : Ok (rf12 m (m + 13) c) (fun z => z.2.2.1 = 5 ∧ z.2.2.2 = 10099 ∧ (∀ b, (b < m ∨ m + 17 < b) → z.2.1 b = c b) ∧ RfQ z.2.1 m) := by
  unfold rf12
  rw [nw_7, bind_s]
  refine ok_adcK ?_
  rw [bind_s]
  obtain ⟨d, p, q, x, y⟩ := mk_r (n := 0) (k := 26) [.ref (m + 1), .ref (m + 2), .ref (m + 3), .ref (m + 4), .ref (m + 5), .ref (m + 6), .ref (m + 7), .int 0, .int (-1), .int (-1), .int 0, .int 0, .int 0, .int 0, .ref (m + 8), .ref (m + 9), .int 0, .int 0, .int 0, .int 0, .int 0, .int 0, .int 0, .ref (m + 10), .ref (m + 11), .ref (m + 12), .ref (m + 13), .null, .int 0, .null, .null, .int 0, .null] (.inl (.float, 7, .inr (.inr (.inl (fun _ => 0))))) h (Nat.le_of_ble_eq_true rfl) rfl (show m ≠ m + 13 by omega)
  rw [p, bind_s]
  have hd : ∀ j, j < 13 → d (m + (j + 1)) = some (mCell μ00 j) := by
    intro j hj
    by_cases e : j = 12
    · subst e
      exact x
    · rw [y _ (by omega) (by omega)]
      exact hc j (by omega)
  refine ok_mono (rmk13 (m := m) q hd) ?_
  rintro ⟨u, e, K, S⟩ ⟨k1, s1, g1, g2⟩
  have k1 : K = 4 := k1
  have s1 : S = 10092 := s1
  subst k1 s1
  refine ⟨rfl, ?_, fun b hb => (g1 b hb).trans (y b (by omega) (by omega)), g2⟩
  show 10092 + 7 = 10099
  omega
theorem rmk11 {c : Ce} {m : Nat} (h : c m = some (.inr (9, [.ref (m + 1), .ref (m + 2), .ref (m + 3), .ref (m + 4), .ref (m + 5), .ref (m + 6), .ref (m + 7), .int 0, .int (-1), .int (-1), .int 0, .int 0, .int 0, .int 0, .ref (m + 8), .ref (m + 9), .int 0, .int 0, .int 0, .int 0, .int 0, .int 0, .int 0, .ref (m + 10), .ref (m + 11), .null, .null, .null, .int 0, .null, .null, .int 0, .null]))) (hc : ∀ j, j < 11 → c (m + (j + 1)) = some (mCell μ00 j)) : Ok (rf11 m (m + 12) c) (fun z => z.2.2.1 = 6 ∧ z.2.2.2 = 15520 ∧ (∀ b, (b < m ∨ m + 17 < b) → z.2.1 b = c b) ∧ RfQ z.2.1 m) := by
  unfold rf11
  rw [nw_5421, bind_s]
  refine ok_adcK ?_
  rw [bind_s]
  obtain ⟨d, p, q, x, y⟩ := mk_r (n := 0) (k := 25) [.ref (m + 1), .ref (m + 2), .ref (m + 3), .ref (m + 4), .ref (m + 5), .ref (m + 6), .ref (m + 7), .int 0, .int (-1), .int (-1), .int 0, .int 0, .int 0, .int 0, .ref (m + 8), .ref (m + 9), .int 0, .int 0, .int 0, .int 0, .int 0, .int 0, .int 0, .ref (m + 10), .ref (m + 11), .ref (m + 12), .null, .null, .int 0, .null, .null, .int 0, .null] (.inl (.int, 5421, .inl (fun _ => 0))) h (Nat.le_of_ble_eq_true rfl) rfl (show m ≠ m + 12 by omega)
  rw [p, bind_s]
  have hd : ∀ j, j < 12 → d (m + (j + 1)) = some (mCell μ00 j) := by
    intro j hj
    by_cases e : j = 11
    · subst e
      exact x
    · rw [y _ (by omega) (by omega)]
      exact hc j (by omega)
  refine ok_mono (rmk12 (m := m) q hd) ?_
  rintro ⟨u, e, K, S⟩ ⟨k1, s1, g1, g2⟩
  have k1 : K = 5 := k1
  have s1 : S = 10099 := s1
  subst k1 s1
  refine ⟨rfl, ?_, fun b hb => (g1 b hb).trans (y b (by omega) (by omega)), g2⟩
  show 10099 + 5421 = 15520
  omega
theorem rmk10 {c : Ce} {m : Nat} (h : c m = some (.inr (9, [.ref (m + 1), .ref (m + 2), .ref (m + 3), .ref (m + 4), .ref (m + 5), .ref (m + 6), .ref (m + 7), .int 0, .int (-1), .int (-1), .int 0, .int 0, .int 0, .int 0, .ref (m + 8), .ref (m + 9), .int 0, .int 0, .int 0, .int 0, .int 0, .int 0, .int 0, .ref (m + 10), .null, .null, .null, .null, .int 0, .null, .null, .int 0, .null]))) (hc : ∀ j, j < 10 → c (m + (j + 1)) = some (mCell μ00 j)) : Ok (rf10 m (m + 11) c) (fun z => z.2.2.1 = 7 ∧ z.2.2.2 = 20520 ∧ (∀ b, (b < m ∨ m + 17 < b) → z.2.1 b = c b) ∧ RfQ z.2.1 m) := by
  unfold rf10
  rw [nw_5000, bind_s]
  refine ok_adcK ?_
  rw [bind_s]
  obtain ⟨d, p, q, x, y⟩ := mk_r (n := 0) (k := 24) [.ref (m + 1), .ref (m + 2), .ref (m + 3), .ref (m + 4), .ref (m + 5), .ref (m + 6), .ref (m + 7), .int 0, .int (-1), .int (-1), .int 0, .int 0, .int 0, .int 0, .ref (m + 8), .ref (m + 9), .int 0, .int 0, .int 0, .int 0, .int 0, .int 0, .int 0, .ref (m + 10), .ref (m + 11), .null, .null, .null, .int 0, .null, .null, .int 0, .null] (.inl (.int, 5000, .inl (fun _ => 0))) h (Nat.le_of_ble_eq_true rfl) rfl (show m ≠ m + 11 by omega)
  rw [p, bind_s]
  have hd : ∀ j, j < 11 → d (m + (j + 1)) = some (mCell μ00 j) := by
    intro j hj
    by_cases e : j = 10
    · subst e
      exact x
    · rw [y _ (by omega) (by omega)]
      exact hc j (by omega)
  refine ok_mono (rmk11 (m := m) q hd) ?_
  rintro ⟨u, e, K, S⟩ ⟨k1, s1, g1, g2⟩
  have k1 : K = 6 := k1
  have s1 : S = 15520 := s1
  subst k1 s1
  refine ⟨rfl, ?_, fun b hb => (g1 b hb).trans (y b (by omega) (by omega)), g2⟩
  show 15520 + 5000 = 20520
  omega
theorem rmk9 {c : Ce} {m : Nat} (h : c m = some (.inr (9, [.ref (m + 1), .ref (m + 2), .ref (m + 3), .ref (m + 4), .ref (m + 5), .ref (m + 6), .ref (m + 7), .int 0, .int (-1), .int (-1), .int 0, .int 0, .int 0, .int 0, .ref (m + 8), .ref (m + 9), .int 0, .int 0, .int 0, .int 0, .int 0, .int 0, .int 0, .null, .null, .null, .null, .null, .int 0, .null, .null, .int 0, .null]))) (hc : ∀ j, j < 9 → c (m + (j + 1)) = some (mCell μ00 j)) : Ok (rf9 m (m + 10) c) (fun z => z.2.2.1 = 8 ∧ z.2.2.2 = 20526 ∧ (∀ b, (b < m ∨ m + 17 < b) → z.2.1 b = c b) ∧ RfQ z.2.1 m) := by
  unfold rf9
  rw [nw_6, bind_s]
  refine ok_adcK ?_
  rw [bind_s]
  obtain ⟨d, p, q, x, y⟩ := mk_r (n := 0) (k := 23) [.ref (m + 1), .ref (m + 2), .ref (m + 3), .ref (m + 4), .ref (m + 5), .ref (m + 6), .ref (m + 7), .int 0, .int (-1), .int (-1), .int 0, .int 0, .int 0, .int 0, .ref (m + 8), .ref (m + 9), .int 0, .int 0, .int 0, .int 0, .int 0, .int 0, .int 0, .ref (m + 10), .null, .null, .null, .null, .int 0, .null, .null, .int 0, .null] (.inl (.int, 6, .inl (fun _ => 0))) h (Nat.le_of_ble_eq_true rfl) rfl (show m ≠ m + 10 by omega)
  rw [p, bind_s]
  have hd : ∀ j, j < 10 → d (m + (j + 1)) = some (mCell μ00 j) := by
    intro j hj
    by_cases e : j = 9
    · subst e
      exact x
    · rw [y _ (by omega) (by omega)]
      exact hc j (by omega)
  refine ok_mono (rmk10 (m := m) q hd) ?_
  rintro ⟨u, e, K, S⟩ ⟨k1, s1, g1, g2⟩
  have k1 : K = 7 := k1
  have s1 : S = 20520 := s1
  subst k1 s1
  refine ⟨rfl, ?_, fun b hb => (g1 b hb).trans (y b (by omega) (by omega)), g2⟩
  show 20520 + 6 = 20526
  omega
theorem rmk8 {c : Ce} {m : Nat} (h : c m = some (.inr (9, [.ref (m + 1), .ref (m + 2), .ref (m + 3), .ref (m + 4), .ref (m + 5), .ref (m + 6), .ref (m + 7), .int 0, .int (-1), .int (-1), .int 0, .int 0, .int 0, .int 0, .ref (m + 8), .null, .int 0, .int 0, .int 0, .int 0, .int 0, .int 0, .int 0, .null, .null, .null, .null, .null, .int 0, .null, .null, .int 0, .null]))) (hc : ∀ j, j < 8 → c (m + (j + 1)) = some (mCell μ00 j)) : Ok (rf8 m (m + 9) c) (fun z => z.2.2.1 = 9 ∧ z.2.2.2 = 20606 ∧ (∀ b, (b < m ∨ m + 17 < b) → z.2.1 b = c b) ∧ RfQ z.2.1 m) := by
  unfold rf8
  rw [nw_80, bind_s]
  refine ok_adcK ?_
  rw [bind_s]
  obtain ⟨d, p, q, x, y⟩ := mk_r (n := 0) (k := 15) [.ref (m + 1), .ref (m + 2), .ref (m + 3), .ref (m + 4), .ref (m + 5), .ref (m + 6), .ref (m + 7), .int 0, .int (-1), .int (-1), .int 0, .int 0, .int 0, .int 0, .ref (m + 8), .ref (m + 9), .int 0, .int 0, .int 0, .int 0, .int 0, .int 0, .int 0, .null, .null, .null, .null, .null, .int 0, .null, .null, .int 0, .null] (.inl (.int, 80, .inl (fun _ => 0))) h (Nat.le_of_ble_eq_true rfl) rfl (show m ≠ m + 9 by omega)
  rw [p, bind_s]
  have hd : ∀ j, j < 9 → d (m + (j + 1)) = some (mCell μ00 j) := by
    intro j hj
    by_cases e : j = 8
    · subst e
      exact x
    · rw [y _ (by omega) (by omega)]
      exact hc j (by omega)
  refine ok_mono (rmk9 (m := m) q hd) ?_
  rintro ⟨u, e, K, S⟩ ⟨k1, s1, g1, g2⟩
  have k1 : K = 8 := k1
  have s1 : S = 20526 := s1
  subst k1 s1
  refine ⟨rfl, ?_, fun b hb => (g1 b hb).trans (y b (by omega) (by omega)), g2⟩
  show 20526 + 80 = 20606
  omega
theorem rmk7 {c : Ce} {m : Nat} (h : c m = some (.inr (9, [.ref (m + 1), .ref (m + 2), .ref (m + 3), .ref (m + 4), .ref (m + 5), .ref (m + 6), .ref (m + 7), .int 0, .int (-1), .int (-1), .int 0, .int 0, .int 0, .int 0, .null, .null, .int 0, .int 0, .int 0, .int 0, .int 0, .int 0, .int 0, .null, .null, .null, .null, .null, .int 0, .null, .null, .int 0, .null]))) (hc : ∀ j, j < 7 → c (m + (j + 1)) = some (mCell μ00 j)) : Ok (rf7 m (m + 8) c) (fun z => z.2.2.1 = 10 ∧ z.2.2.2 = 20766 ∧ (∀ b, (b < m ∨ m + 17 < b) → z.2.1 b = c b) ∧ RfQ z.2.1 m) := by
  unfold rf7
  rw [nw_160, bind_s]
  refine ok_adcK ?_
  rw [bind_s]
  obtain ⟨d, p, q, x, y⟩ := mk_r (n := 0) (k := 14) [.ref (m + 1), .ref (m + 2), .ref (m + 3), .ref (m + 4), .ref (m + 5), .ref (m + 6), .ref (m + 7), .int 0, .int (-1), .int (-1), .int 0, .int 0, .int 0, .int 0, .ref (m + 8), .null, .int 0, .int 0, .int 0, .int 0, .int 0, .int 0, .int 0, .null, .null, .null, .null, .null, .int 0, .null, .null, .int 0, .null] (.inl (.long, 160, .inr (.inl (fun _ => 0)))) h (Nat.le_of_ble_eq_true rfl) rfl (show m ≠ m + 8 by omega)
  rw [p, bind_s]
  have hd : ∀ j, j < 8 → d (m + (j + 1)) = some (mCell μ00 j) := by
    intro j hj
    by_cases e : j = 7
    · subst e
      exact x
    · rw [y _ (by omega) (by omega)]
      exact hc j (by omega)
  refine ok_mono (rmk8 (m := m) q hd) ?_
  rintro ⟨u, e, K, S⟩ ⟨k1, s1, g1, g2⟩
  have k1 : K = 9 := k1
  have s1 : S = 20606 := s1
  subst k1 s1
  refine ⟨rfl, ?_, fun b hb => (g1 b hb).trans (y b (by omega) (by omega)), g2⟩
  show 20606 + 160 = 20766
  omega
theorem rmk6 {c : Ce} {m : Nat} (h : c m = some (.inr (9, [.ref (m + 1), .ref (m + 2), .ref (m + 3), .ref (m + 4), .ref (m + 5), .ref (m + 6), .null, .int 0, .int 0, .int 0, .int 0, .int 0, .int 0, .int 0, .null, .null, .int 0, .int 0, .int 0, .int 0, .int 0, .int 0, .int 0, .null, .null, .null, .null, .null, .int 0, .null, .null, .int 0, .null]))) (hc : ∀ j, j < 6 → c (m + (j + 1)) = some (mCell μ00 j)) : Ok (rf6 m (m + 7) c) (fun z => z.2.2.1 = 11 ∧ z.2.2.2 = 21066 ∧ (∀ b, (b < m ∨ m + 17 < b) → z.2.1 b = c b) ∧ RfQ z.2.1 m) := by
  unfold rf6
  rw [nw_300, bind_s]
  refine ok_adcK ?_
  rw [bind_s]
  obtain ⟨d, p, q, x, y⟩ := mk_r (n := 0) (k := 6) [.ref (m + 1), .ref (m + 2), .ref (m + 3), .ref (m + 4), .ref (m + 5), .ref (m + 6), .ref (m + 7), .int 0, .int 0, .int 0, .int 0, .int 0, .int 0, .int 0, .null, .null, .int 0, .int 0, .int 0, .int 0, .int 0, .int 0, .int 0, .null, .null, .null, .null, .null, .int 0, .null, .null, .int 0, .null] (.inl (.int, 300, .inl (fun _ => 0))) h (Nat.le_of_ble_eq_true rfl) rfl (show m ≠ m + 7 by omega)
  rw [p, bind_s]
  have hd : ∀ j, j < 7 → d (m + (j + 1)) = some (mCell μ00 j) := by
    intro j hj
    by_cases e : j = 6
    · subst e
      exact x
    · rw [y _ (by omega) (by omega)]
      exact hc j (by omega)
  obtain ⟨d1, p1, q1, r1⟩ := pv_r (k := 8) (v := .int (-1)) [.ref (m + 1), .ref (m + 2), .ref (m + 3), .ref (m + 4), .ref (m + 5), .ref (m + 6), .ref (m + 7), .int 0, .int (-1), .int 0, .int 0, .int 0, .int 0, .int 0, .null, .null, .int 0, .int 0, .int 0, .int 0, .int 0, .int 0, .int 0, .null, .null, .null, .null, .null, .int 0, .null, .null, .int 0, .null] q (Nat.le_of_ble_eq_true rfl) rfl
  obtain ⟨d2, p2, q2, r2⟩ := pv_r (k := 9) (v := .int (-1)) [.ref (m + 1), .ref (m + 2), .ref (m + 3), .ref (m + 4), .ref (m + 5), .ref (m + 6), .ref (m + 7), .int 0, .int (-1), .int (-1), .int 0, .int 0, .int 0, .int 0, .null, .null, .int 0, .int 0, .int 0, .int 0, .int 0, .int 0, .int 0, .null, .null, .null, .null, .null, .int 0, .null, .null, .int 0, .null] q1 (Nat.le_of_ble_eq_true rfl) rfl
  rw [p1, bind_s, p2, bind_s]
  have hd2 : ∀ j, j < 7 → d2 (m + (j + 1)) = some (mCell μ00 j) := fun j hj => (r2 _ (by omega)).trans ((r1 _ (by omega)).trans (hd j hj))
  refine ok_mono (rmk7 (m := m) q2 hd2) ?_
  rintro ⟨u, e, K, S⟩ ⟨k1, s1, g1, g2⟩
  have k1 : K = 10 := k1
  have s1 : S = 20766 := s1
  subst k1 s1
  exact ⟨rfl, rfl, fun b hb => (g1 b hb).trans ((r2 b (by omega)).trans ((r1 b (by omega)).trans (y b (by omega) (by omega)))), g2⟩
theorem rmk5 {c : Ce} {m : Nat} (h : c m = some (.inr (9, [.ref (m + 1), .ref (m + 2), .ref (m + 3), .ref (m + 4), .ref (m + 5), .null, .null, .int 0, .int 0, .int 0, .int 0, .int 0, .int 0, .int 0, .null, .null, .int 0, .int 0, .int 0, .int 0, .int 0, .int 0, .int 0, .null, .null, .null, .null, .null, .int 0, .null, .null, .int 0, .null]))) (hc : ∀ j, j < 5 → c (m + (j + 1)) = some (mCell μ00 j)) : Ok (rf5 m (m + 6) c) (fun z => z.2.2.1 = 12 ∧ z.2.2.2 = 21182 ∧ (∀ b, (b < m ∨ m + 17 < b) → z.2.1 b = c b) ∧ RfQ z.2.1 m) := by
  unfold rf5
  rw [nw_116, bind_s]
  refine ok_adcK ?_
  rw [bind_s]
  obtain ⟨d, p, q, x, y⟩ := mk_r (n := 0) (k := 5) [.ref (m + 1), .ref (m + 2), .ref (m + 3), .ref (m + 4), .ref (m + 5), .ref (m + 6), .null, .int 0, .int 0, .int 0, .int 0, .int 0, .int 0, .int 0, .null, .null, .int 0, .int 0, .int 0, .int 0, .int 0, .int 0, .int 0, .null, .null, .null, .null, .null, .int 0, .null, .null, .int 0, .null] (.inl (.long, 116, .inr (.inl (fun _ => 0)))) h (Nat.le_of_ble_eq_true rfl) rfl (show m ≠ m + 6 by omega)
  rw [p, bind_s]
  have hd : ∀ j, j < 6 → d (m + (j + 1)) = some (mCell μ00 j) := by
    intro j hj
    by_cases e : j = 5
    · subst e
      exact x
    · rw [y _ (by omega) (by omega)]
      exact hc j (by omega)
  refine ok_mono (rmk6 (m := m) q hd) ?_
  rintro ⟨u, e, K, S⟩ ⟨k1, s1, g1, g2⟩
  have k1 : K = 11 := k1
  have s1 : S = 21066 := s1
  subst k1 s1
  refine ⟨rfl, ?_, fun b hb => (g1 b hb).trans (y b (by omega) (by omega)), g2⟩
  show 21066 + 116 = 21182
  omega
theorem rmk4 {c : Ce} {m : Nat} (h : c m = some (.inr (9, [.ref (m + 1), .ref (m + 2), .ref (m + 3), .ref (m + 4), .null, .null, .null, .int 0, .int 0, .int 0, .int 0, .int 0, .int 0, .int 0, .null, .null, .int 0, .int 0, .int 0, .int 0, .int 0, .int 0, .int 0, .null, .null, .null, .null, .null, .int 0, .null, .null, .int 0, .null]))) (hc : ∀ j, j < 4 → c (m + (j + 1)) = some (mCell μ00 j)) : Ok (rf4 m (m + 5) c) (fun z => z.2.2.1 = 13 ∧ z.2.2.2 = 21190 ∧ (∀ b, (b < m ∨ m + 17 < b) → z.2.1 b = c b) ∧ RfQ z.2.1 m) := by
  unfold rf4
  rw [nw_8, bind_s]
  refine ok_adcK ?_
  rw [bind_s]
  obtain ⟨d, p, q, x, y⟩ := mk_r (n := 0) (k := 4) [.ref (m + 1), .ref (m + 2), .ref (m + 3), .ref (m + 4), .ref (m + 5), .null, .null, .int 0, .int 0, .int 0, .int 0, .int 0, .int 0, .int 0, .null, .null, .int 0, .int 0, .int 0, .int 0, .int 0, .int 0, .int 0, .null, .null, .null, .null, .null, .int 0, .null, .null, .int 0, .null] (.inl (.int, 8, .inl (fun _ => 0))) h (Nat.le_of_ble_eq_true rfl) rfl (show m ≠ m + 5 by omega)
  rw [p, bind_s]
  have hd : ∀ j, j < 5 → d (m + (j + 1)) = some (mCell μ00 j) := by
    intro j hj
    by_cases e : j = 4
    · subst e
      exact x
    · rw [y _ (by omega) (by omega)]
      exact hc j (by omega)
  refine ok_mono (rmk5 (m := m) q hd) ?_
  rintro ⟨u, e, K, S⟩ ⟨k1, s1, g1, g2⟩
  have k1 : K = 12 := k1
  have s1 : S = 21182 := s1
  subst k1 s1
  refine ⟨rfl, ?_, fun b hb => (g1 b hb).trans (y b (by omega) (by omega)), g2⟩
  show 21182 + 8 = 21190
  omega
theorem rmk3 {c : Ce} {m : Nat} (h : c m = some (.inr (9, [.ref (m + 1), .ref (m + 2), .ref (m + 3), .null, .null, .null, .null, .int 0, .int 0, .int 0, .int 0, .int 0, .int 0, .int 0, .null, .null, .int 0, .int 0, .int 0, .int 0, .int 0, .int 0, .int 0, .null, .null, .null, .null, .null, .int 0, .null, .null, .int 0, .null]))) (hc : ∀ j, j < 3 → c (m + (j + 1)) = some (mCell μ00 j)) : Ok (rf3 m (m + 4) c) (fun z => z.2.2.1 = 14 ∧ z.2.2.2 = 21337 ∧ (∀ b, (b < m ∨ m + 17 < b) → z.2.1 b = c b) ∧ RfQ z.2.1 m) := by
  unfold rf3
  rw [nw_147, bind_s]
  refine ok_adcK ?_
  rw [bind_s]
  obtain ⟨d, p, q, x, y⟩ := mk_r (n := 0) (k := 3) [.ref (m + 1), .ref (m + 2), .ref (m + 3), .ref (m + 4), .null, .null, .null, .int 0, .int 0, .int 0, .int 0, .int 0, .int 0, .int 0, .null, .null, .int 0, .int 0, .int 0, .int 0, .int 0, .int 0, .int 0, .null, .null, .null, .null, .null, .int 0, .null, .null, .int 0, .null] (.inl (.float, 147, .inr (.inr (.inl (fun _ => 0))))) h (Nat.le_of_ble_eq_true rfl) rfl (show m ≠ m + 4 by omega)
  rw [p, bind_s]
  have hd : ∀ j, j < 4 → d (m + (j + 1)) = some (mCell μ00 j) := by
    intro j hj
    by_cases e : j = 3
    · subst e
      exact x
    · rw [y _ (by omega) (by omega)]
      exact hc j (by omega)
  refine ok_mono (rmk4 (m := m) q hd) ?_
  rintro ⟨u, e, K, S⟩ ⟨k1, s1, g1, g2⟩
  have k1 : K = 13 := k1
  have s1 : S = 21190 := s1
  subst k1 s1
  refine ⟨rfl, ?_, fun b hb => (g1 b hb).trans (y b (by omega) (by omega)), g2⟩
  show 21190 + 147 = 21337
  omega
theorem rmk2 {c : Ce} {m : Nat} (h : c m = some (.inr (9, [.ref (m + 1), .ref (m + 2), .null, .null, .null, .null, .null, .int 0, .int 0, .int 0, .int 0, .int 0, .int 0, .int 0, .null, .null, .int 0, .int 0, .int 0, .int 0, .int 0, .int 0, .int 0, .null, .null, .null, .null, .null, .int 0, .null, .null, .int 0, .null]))) (hc : ∀ j, j < 2 → c (m + (j + 1)) = some (mCell μ00 j)) : Ok (rf2 m (m + 3) c) (fun z => z.2.2.1 = 15 ∧ z.2.2.2 = 21484 ∧ (∀ b, (b < m ∨ m + 17 < b) → z.2.1 b = c b) ∧ RfQ z.2.1 m) := by
  unfold rf2
  rw [nw_147, bind_s]
  refine ok_adcK ?_
  rw [bind_s]
  obtain ⟨d, p, q, x, y⟩ := mk_r (n := 0) (k := 2) [.ref (m + 1), .ref (m + 2), .ref (m + 3), .null, .null, .null, .null, .int 0, .int 0, .int 0, .int 0, .int 0, .int 0, .int 0, .null, .null, .int 0, .int 0, .int 0, .int 0, .int 0, .int 0, .int 0, .null, .null, .null, .null, .null, .int 0, .null, .null, .int 0, .null] (.inl (.float, 147, .inr (.inr (.inl (fun _ => 0))))) h (Nat.le_of_ble_eq_true rfl) rfl (show m ≠ m + 3 by omega)
  rw [p, bind_s]
  have hd : ∀ j, j < 3 → d (m + (j + 1)) = some (mCell μ00 j) := by
    intro j hj
    by_cases e : j = 2
    · subst e
      exact x
    · rw [y _ (by omega) (by omega)]
      exact hc j (by omega)
  refine ok_mono (rmk3 (m := m) q hd) ?_
  rintro ⟨u, e, K, S⟩ ⟨k1, s1, g1, g2⟩
  have k1 : K = 14 := k1
  have s1 : S = 21337 := s1
  subst k1 s1
  refine ⟨rfl, ?_, fun b hb => (g1 b hb).trans (y b (by omega) (by omega)), g2⟩
  show 21337 + 147 = 21484
  omega
theorem rmk1 {c : Ce} {m : Nat} (h : c m = some (.inr (9, [.ref (m + 1), .null, .null, .null, .null, .null, .null, .int 0, .int 0, .int 0, .int 0, .int 0, .int 0, .int 0, .null, .null, .int 0, .int 0, .int 0, .int 0, .int 0, .int 0, .int 0, .null, .null, .null, .null, .null, .int 0, .null, .null, .int 0, .null]))) (hc : ∀ j, j < 1 → c (m + (j + 1)) = some (mCell μ00 j)) : Ok (rf1 m (m + 2) c) (fun z => z.2.2.1 = 16 ∧ z.2.2.2 = 135328 ∧ (∀ b, (b < m ∨ m + 17 < b) → z.2.1 b = c b) ∧ RfQ z.2.1 m) := by
  unfold rf1
  rw [nw_113844, bind_s]
  refine ok_adcK ?_
  rw [bind_s]
  obtain ⟨d, p, q, x, y⟩ := mk_r (n := 0) (k := 1) [.ref (m + 1), .ref (m + 2), .null, .null, .null, .null, .null, .int 0, .int 0, .int 0, .int 0, .int 0, .int 0, .int 0, .null, .null, .int 0, .int 0, .int 0, .int 0, .int 0, .int 0, .int 0, .null, .null, .null, .null, .null, .int 0, .null, .null, .int 0, .null] (.inl (.int, 113844, .inl (fun _ => 0))) h (Nat.le_of_ble_eq_true rfl) rfl (show m ≠ m + 2 by omega)
  rw [p, bind_s]
  have hd : ∀ j, j < 2 → d (m + (j + 1)) = some (mCell μ00 j) := by
    intro j hj
    by_cases e : j = 1
    · subst e
      exact x
    · rw [y _ (by omega) (by omega)]
      exact hc j (by omega)
  refine ok_mono (rmk2 (m := m) q hd) ?_
  rintro ⟨u, e, K, S⟩ ⟨k1, s1, g1, g2⟩
  have k1 : K = 15 := k1
  have s1 : S = 21484 := s1
  subst k1 s1
  refine ⟨rfl, ?_, fun b hb => (g1 b hb).trans (y b (by omega) (by omega)), g2⟩
  show 21484 + 113844 = 135328
  omega
theorem rmk0 {c : Ce} {m : Nat} (h : c m = some (.inr (9, [.null, .null, .null, .null, .null, .null, .null, .int 0, .int 0, .int 0, .int 0, .int 0, .int 0, .int 0, .null, .null, .int 0, .int 0, .int 0, .int 0, .int 0, .int 0, .int 0, .null, .null, .null, .null, .null, .int 0, .null, .null, .int 0, .null]))) (hc : ∀ j, j < 0 → c (m + (j + 1)) = some (mCell μ00 j)) : Ok (rf0 m (m + 1) c) (fun z => z.2.2.1 = 17 ∧ z.2.2.2 = 249172 ∧ (∀ b, (b < m ∨ m + 17 < b) → z.2.1 b = c b) ∧ RfQ z.2.1 m) := by
  unfold rf0
  rw [nw_113844, bind_s]
  refine ok_adcK ?_
  rw [bind_s]
  obtain ⟨d, p, q, x, y⟩ := mk_r (n := 0) (k := 0) [.ref (m + 1), .null, .null, .null, .null, .null, .null, .int 0, .int 0, .int 0, .int 0, .int 0, .int 0, .int 0, .null, .null, .int 0, .int 0, .int 0, .int 0, .int 0, .int 0, .int 0, .null, .null, .null, .null, .null, .int 0, .null, .null, .int 0, .null] (.inl (.int, 113844, .inl (fun _ => 0))) h (Nat.le_of_ble_eq_true rfl) rfl (show m ≠ m + 1 by omega)
  rw [p, bind_s]
  have hd : ∀ j, j < 1 → d (m + (j + 1)) = some (mCell μ00 j) := by
    intro j hj
    by_cases e : j = 0
    · subst e
      exact x
    · rw [y _ (by omega) (by omega)]
      exact hc j (by omega)
  refine ok_mono (rmk1 (m := m) q hd) ?_
  rintro ⟨u, e, K, S⟩ ⟨k1, s1, g1, g2⟩
  have k1 : K = 16 := k1
  have s1 : S = 135328 := s1
  subst k1 s1
  refine ⟨rfl, ?_, fun b hb => (g1 b hb).trans (y b (by omega) (by omega)), g2⟩
  show 135328 + 113844 = 249172
  omega
theorem ini_m {c : Ce} {m : Nat} (h : c m = some (.inr (9, df_X12))) : Ok (m_X12_init (m + 1) c m) (fun z => z.2.2.1 = 17 ∧ z.2.2.2 = 249172 ∧ (∀ b, (b < m ∨ m + 17 < b) → z.2.1 b = c b) ∧ RfQ z.2.1 m) := by
  rw [x12_e]
  exact rmk0 h (fun j hj => by omega)
