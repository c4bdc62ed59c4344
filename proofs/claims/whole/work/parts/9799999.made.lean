/-! A MACHINE IS MADE -/
theorem usr_all : ∀ L, L < 7 → usr64 (-1 : Int64) ((64 : Int32) - nI (2 ^ L)) = allS L := by decide +kernel
theorem div_4 : ∀ k, k < 256 → nI k / (4 : Int32) = nI (k / 4) := by decide +kernel
/-- who leads where, of the first k pairs -/
def ledN (sc : Nat → Nat → Nat) (k t : Nat) : Int64 := mkS fun s => (List.range k).any fun j => decide (j / 4 = s) && decide (sc (j / 4) (j % 4) = t)
theorem ledN_0 (sc : Nat → Nat → Nat) (t : Nat) : ledN sc 0 t = 0 := B_ext0 fun k hk => by
  unfold ledN
  rw [B_mkS _ hk]
  rfl
theorem ledN_s (sc : Nat → Nat → Nat) {k : Nat} (hk : k < 256) (t : Nat) : ledN sc (k + 1) t = if t = sc (k / 4) (k % 4) then ledN sc k t ||| ((1 : Int64) <<< (Int32.toInt64 (nI (k / 4)) &&& 63)) else ledN sc k t := by
  refine B_ext fun s hs => ?_
  have e : B (ledN sc (k + 1) t) s = (B (ledN sc k t) s || (decide (k / 4 = s) && decide (sc (k / 4) (k % 4) = t))) := by
    unfold ledN
    rw [B_mkS _ hs, B_mkS _ hs, List.range_succ, List.any_append]
    simp
  rw [e]
  by_cases h : t = sc (k / 4) (k % 4)
  · rw [if_pos h, B_or, B_bit (k / 4) (by omega) s hs]
    have : decide (sc (k / 4) (k % 4) = t) = true := by simp [h]
    rw [this, Bool.and_true]
    have : decide (k / 4 = s) = decide (s = k / 4) := by
      by_cases z : s = k / 4
      · simp [z]
      · have z2 : ¬ k / 4 = s := fun w => z w.symm
        simp [z, z2]
    rw [this]
  · rw [if_neg h]
    have : decide (sc (k / 4) (k % 4) = t) = false := by
      simp
      exact fun w => h w.symm
    rw [this, Bool.and_false, Bool.or_false]
theorem ledN_all {M : Mv} (hL : M.1 < 7) {t : Nat} (ht : t < 64) : ledN M.2.1 (2 ^ M.1 * 4) t = ledS M t := by
  refine B_ext fun s hs => ?_
  unfold ledN ledS
  rw [B_mkS _ hs, B_mkS _ hs]
  unfold aftN
  rw [B_mkS _ ht]
  by_cases h2 : s < 2 ^ M.1
  · rw [show decide (s < 2 ^ M.1) = true by simp [h2], Bool.true_and]
    rw [Bool.eq_iff_iff, List.any_eq_true, List.any_eq_true]
    constructor
    · rintro ⟨j, hj, hp⟩
      rw [Bool.and_eq_true, decide_eq_true_iff, decide_eq_true_iff] at hp
      refine ⟨j % 4, List.mem_range.mpr (by omega), ?_⟩
      rw [← hp.1, hp.2]
      have : ∀ i, i < 4 → Nat.testBit 15 i = true := by decide
      rw [this (j % 4) (by omega)]
      simp
    · rintro ⟨i, hi, hp⟩
      have hi := List.mem_range.mp hi
      have hp := (Bool.and_eq_true_iff.mp hp).2
      have hp : M.2.1 s i = t := by simpa using hp
      refine ⟨s * 4 + i, List.mem_range.mpr (by omega), ?_⟩
      rw [show (s * 4 + i) / 4 = s by omega, show (s * 4 + i) % 4 = i by omega, hp]
      simp
  · rw [show decide (s < 2 ^ M.1) = false by simp [h2], Bool.false_and, List.any_eq_false]
    intro j hj
    have hj := List.mem_range.mp hj
    have : ¬ j / 4 = s := by omega
    simp [this]
abbrev fsM (L : Nat) (i : Int64) (aa sa la : Nat) : List Value := [.int (nI L), .int (nI (2 ^ L)), .long (allS L), .long i, .ref aa, .ref sa, .ref la]
def mkM (L : Nat) (sc : Nat → Nat → Nat) (i0 : Int64) (na : Nat) (Af : Nat → Int64) : Mv := (L, sc, i0 &&& allS L, na, fun i => Af i &&& allS L)
theorem WM_mk {L : Nat} (h1 : 1 ≤ L) (hL : L < 7) {sc : Nat → Nat → Nat} (hs : ∀ s, s < 2 ^ L → ∀ i, i < 4 → sc s i < 2 ^ L) (i0 : Int64) {na : Nat} (n1 : 1 ≤ na) (n4 : na ≤ 4) (Af : Nat → Int64) : WM (mkM L sc i0 na Af) := by
  refine ⟨h1, hL, hs, fun k hk h => ?_, n1, n4, fun i _ k hk h => ?_⟩
  · show B (i0 &&& allS L) k = false
    rw [B_and, all_hi hL hk h, Bool.and_false]
  · show B (Af i &&& allS L) k = false
    rw [B_and, all_hi hL hk h, Bool.and_false]
theorem cm_init {ce : Ce} {nx th sa aa L na : Nat} {Sf : Nat → Int32} {Af : Nat → Int64} {sc : Nat → Nat → Nat} (h1 : 1 ≤ L) (hL : L < 7) (ht : ce th = some (.inr (3, df_X5))) (hs : ce sa = some (.inl (.int, 2 ^ L * 4, .inl Sf))) (hSf : ∀ s, s < 2 ^ L → ∀ i, i < 4 → Sf (s * 4 + i) = nI (sc s i) ∧ sc s i < 2 ^ L) (ha : ce aa = some (.inl (.long, na, .inr (.inl Af)))) (n1 : 1 ≤ na) (n4 : na ≤ 4) (d1 : th ≠ sa ∧ th ≠ aa ∧ sa ≠ aa) (d2 : th < nx ∧ sa < nx ∧ aa < nx) (i0 : Int64) : Ok (m_X5_init nx ce th (nI L) sa i0 aa) (fun z => MA z.2.1 (fun b => b = th ∨ b = aa ∨ b = sa ∨ b = nx) th (mkM L sc i0 na Af) ∧ z.2.2.1 = 1 ∧ z.2.2.2 = 2 ^ L ∧ ∀ b, b ≠ th → b ≠ aa → b ≠ nx → z.2.1 b = ce b) := by
  have h64 := p2_64 hL
  unfold m_X5_init
  have ht : ce th = some (.inr (3, [.int 0, .int 0, .long 0, .long 0, .null, .null, .null])) := ht
  rw [pV_c ht (by decide), bind_s]
  show Ok ((pV (gx_up ce th (.inr (3, [.int (nI L), .int 0, .long 0, .long 0, .null, .null, .null]))) 3 1 th _).bind _) _
  rw [pV_c (gu_e _ _ _) (by show 1 < 7; omega), bind_s, gu_gu, sh_1 L hL]
  show Ok ((gI (gx_up ce th (.inr (3, [.int (nI L), .int (nI (2 ^ L)), .long 0, .long 0, .null, .null, .null]))) 3 1 th).bind _) _
  rw [gI_c (x := nI (2 ^ L)) (gu_e _ _ _) rfl, bind_s, pV_c (gu_e _ _ _) (by show 2 < 7; omega), bind_s, gu_gu, usr_all L hL]
  show Ok ((gJ (gx_up ce th (.inr (3, [.int (nI L), .int (nI (2 ^ L)), .long (allS L), .long 0, .null, .null, .null]))) 3 2 th).bind _) _
  rw [gJ_c (x := allS L) (gu_e _ _ _) rfl, bind_s, pV_c (gu_e _ _ _) (by show 3 < 7; omega), bind_s, gu_gu]
  show Ok ((pV (gx_up ce th (.inr (3, [.int (nI L), .int (nI (2 ^ L)), .long (allS L), .long (i0 &&& allS L), .null, .null, .null]))) 3 4 th _).bind _) _
  rw [pV_c (gu_e _ _ _) (by show 4 < 7; omega), bind_s, gu_gu]
  show Ok ((pV (gx_up ce th (.inr (3, [.int (nI L), .int (nI (2 ^ L)), .long (allS L), .long (i0 &&& allS L), .ref aa, .null, .null]))) 3 5 th _).bind _) _
  rw [pV_c (gu_e _ _ _) (by show 5 < 7; omega), bind_s, gu_gu]
  show Ok ((gI (gx_up ce th (.inr (3, [.int (nI L), .int (nI (2 ^ L)), .long (allS L), .long (i0 &&& allS L), .ref aa, .ref sa, .null]))) 3 1 th).bind _) _
  rw [gI_c (x := nI (2 ^ L)) (gu_e _ _ _) rfl, bind_s, nwa_n (by omega), bind_s]
  refine ok_adcK ?_
  rw [bind_s]
  have hn : th ≠ nx := by omega
  rw [pV_c (c := gx_up _ nx _) (by rw [gu_n _ _ hn]; exact gu_e _ _ _) (by show 6 < 7; omega), bind_s]
  generalize hc : gx_up (gx_up (gx_up ce th (.inr (3, List.set [.int (nI L), .int (nI (2 ^ L)), .long (allS L), .long (i0 &&& allS L), .ref aa, .null, .null] 5 (.ref sa)))) nx (.inl (.long, 2 ^ L, .inr (.inl fun _ => 0)))) th (.inr (3, List.set (List.set [.int (nI L), .int (nI (2 ^ L)), .long (allS L), .long (i0 &&& allS L), .ref aa, .null, .null] 5 (.ref sa)) 6 (.ref nx))) = c0
  have c1 : c0 th = some (.inr (3, fsM L (i0 &&& allS L) aa sa nx)) := by
    rw [← hc]
    exact gu_e _ _ _
  have c2 : c0 nx = some (.inl (.long, 2 ^ L, .inr (.inl fun _ => 0))) := by
    rw [← hc, gu_n _ _ (Ne.symm hn)]
    exact gu_e _ _ _
  have c3 : ∀ b, b ≠ th → b ≠ nx → c0 b = ce b := fun b h1 h2 => by rw [← hc, gu_n _ _ h1, gu_n _ _ h2, gu_n _ _ h1]
  clear hc
  -- the aims are cut
  refine ok_call (P := fun o => ∃ Af2, o.2 = gx_up c0 aa (.inl (.long, na, .inr (.inl Af2))) ∧ ∀ i, i < na → Af2 i = Af i &&& allS L) (ok_cnt 0 na (fun k s => s.1 = nI k ∧ ∃ Af2, s.2 = gx_up c0 aa (.inl (.long, na, .inr (.inl Af2))) ∧ (∀ i, i < k → Af2 i = Af i &&& allS L) ∧ ∀ i, k ≤ i → Af2 i = Af i) (by omega) (by omega) ⟨rfl, Af, ?_, fun _ h => by omega, fun _ _ => rfl⟩ ?_ ?_) (fun zo hz => ?_)
  · show c0 = _
    rw [gu_self]
    rw [c3 aa (Ne.symm d1.2.1) (by omega)]
    exact ha
  · rintro k ⟨u, d⟩ hk ⟨hu, Af2, hd, p1, p2⟩
    have hu : u = nI k := hu
    have hd : d = gx_up c0 aa (.inl (.long, na, .inr (.inl Af2))) := hd
    subst hu hd
    show Ok ((alen (gx_up c0 aa (.inl (.long, na, .inr (.inl Af2)))) aa).bind _) _
    rw [alen_L (gu_e _ _ _), bind_s]
    show Ok (if nI na ≤ nI k then _ else _) _
    rw [if_le (by omega) (by omega), if_neg (by omega)]
    show Ok ((aL (gx_up c0 aa (.inl (.long, na, .inr (.inl Af2)))) aa (nI k)).bind fun zx32 => (gJ (gx_up c0 aa (.inl (.long, na, .inr (.inl Af2)))) 3 2 th).bind fun zx33 => (sL (gx_up c0 aa (.inl (.long, na, .inr (.inl Af2)))) aa (nI k) (zx32 &&& zx33)).bind _) _
    rw [aL_c (gu_e _ _ _) hk (by omega), bind_s, gJ_c (x := allS L) (by rw [gu_n _ _ d1.2.1]; exact c1) rfl, bind_s, sL_c (gu_e _ _ _) hk (by omega), bind_s, gu_gu]
    refine ok_some ⟨nI_1 k, _, rfl, fun i hi => ?_, fun i hi => ?_⟩
    · by_cases e : i = k
      · rw [e, up_e, p2 k (Nat.le_refl _)]
      · rw [up_n _ _ _ e]
        exact p1 i (by omega)
    · rw [up_n _ _ _ (by omega)]
      exact p2 i (by omega)
  · rintro ⟨u, d⟩ ⟨hu, Af2, hd, p1, p2⟩
    have hu : u = nI na := hu
    have hd : d = gx_up c0 aa (.inl (.long, na, .inr (.inl Af2))) := hd
    subst hu hd
    show Ok ((alen (gx_up c0 aa (.inl (.long, na, .inr (.inl Af2)))) aa).bind _) _
    rw [alen_L (gu_e _ _ _), bind_s]
    show Ok (if nI na ≤ nI na then _ else _) _
    rw [if_pos (Int32.le_refl _)]
    exact ok_some ⟨Af2, rfl, p1⟩
  · obtain ⟨Af2, hz1, hz2⟩ := hz
    rw [hz1]
    generalize hc4 : gx_up c0 aa (.inl (.long, na, .inr (.inl Af2))) = c4
    have f1 : c4 th = some (.inr (3, fsM L (i0 &&& allS L) aa sa nx)) := by rw [← hc4, gu_n _ _ d1.2.1]; exact c1
    have f2 : c4 nx = some (.inl (.long, 2 ^ L, .inr (.inl fun _ => 0))) := by rw [← hc4, gu_n _ _ (by omega)]; exact c2
    have f3 : c4 aa = some (.inl (.long, na, .inr (.inl Af2))) := by rw [← hc4]; exact gu_e _ _ _
    have f4 : ∀ b, b ≠ th → b ≠ aa → b ≠ nx → c4 b = ce b := fun b h1 h2 h3 => by rw [← hc4, gu_n _ _ h2]; exact c3 b h1 h3
    have f5 : c4 sa = some (.inl (.int, 2 ^ L * 4, .inl Sf)) := by rw [f4 sa (Ne.symm d1.1) d1.2.2 (by omega)]; exact hs
    clear hc4
    refine ok_call (P := fun o => ∃ Df, o.2 = gx_up c4 nx (.inl (.long, 2 ^ L, .inr (.inl Df))) ∧ ∀ t, t < 2 ^ L → Df t = ledN sc (2 ^ L * 4) t) (ok_cnt 0 (2 ^ L * 4) (fun k s => s.1 = nI k ∧ ∃ Df, s.2 = gx_up c4 nx (.inl (.long, 2 ^ L, .inr (.inl Df))) ∧ ∀ t, t < 2 ^ L → Df t = ledN sc k t) (by omega) (by omega) ⟨rfl, fun _ => 0, ?_, fun t _ => (ledN_0 sc t).symm⟩ ?_ ?_) (fun zo hz => ?_)
    · show c4 = _
      rw [gu_self f2]
    · rintro k ⟨u, d⟩ hk ⟨hu, Df, hd, p1⟩
      have hu : u = nI k := hu
      have hd : d = gx_up c4 nx (.inl (.long, 2 ^ L, .inr (.inl Df))) := hd
      subst hu hd
      generalize hG : gx_up c4 nx (.inl (.long, 2 ^ L, .inr (.inl Df))) = G
      have g1 : G th = some (.inr (3, fsM L (i0 &&& allS L) aa sa nx)) := by rw [← hG, gu_n _ _ hn]; exact f1
      have g2 : G nx = some (.inl (.long, 2 ^ L, .inr (.inl Df))) := by rw [← hG]; exact gu_e _ _ _
      have g3 : G sa = some (.inl (.int, 2 ^ L * 4, .inl Sf)) := by rw [← hG, gu_n _ _ (by omega)]; exact f5
      have hks : k / 4 < 2 ^ L := by omega
      obtain ⟨q1, q2⟩ := hSf (k / 4) hks (k % 4) (by omega)
      rw [show k / 4 * 4 + k % 4 = k by omega] at q1
      show Ok ((alen G sa).bind _) _
      rw [alen_I g3, bind_s]
      show Ok (if nI (2 ^ L * 4) ≤ nI k then _ else (aI G sa (nI k)).bind fun zx25 => if zx25 < 0 then _ else (gI G 3 1 th).bind fun zx26 => if zx26 ≤ zx25 then _ else (gA G 3 6 th).bind fun zx27 => (aL G zx27 zx25).bind fun zx28 => (nz (4 : Int32)).bind fun zz29 => (sL G zx27 zx25 (zx28 ||| ((1 : Int64) <<< (Int32.toInt64 (nI k / (4 : Int32)) &&& 63)))).bind _) _
      rw [if_le (by omega) (by omega), if_neg (by omega), aI_c g3 hk (by omega), bind_s, q1, if_neg (nI_pos (by omega)), gI_c (x := nI (2 ^ L)) g1 rfl, bind_s, if_le (by omega) (by omega), if_neg (by omega), gA_c (x := nx) g1 rfl, bind_s, aL_c g2 q2 (by omega), bind_s, show nz (4 : Int32) = some () from rfl, bind_s, sL_c g2 q2 (by omega), bind_s, ← hG, gu_gu, div_4 k (by omega), p1 _ q2]
      refine ok_some ⟨nI_1 k, _, rfl, fun t ht => ?_⟩
      rw [ledN_s sc (by omega)]
      by_cases e : t = sc (k / 4) (k % 4)
      · rw [if_pos e, e, up_e]
      · rw [if_neg e, up_n _ _ _ e]
        exact p1 t ht
    · rintro ⟨u, d⟩ ⟨hu, Df, hd, p1⟩
      have hu : u = nI (2 ^ L * 4) := hu
      have hd : d = gx_up c4 nx (.inl (.long, 2 ^ L, .inr (.inl Df))) := hd
      subst hu hd
      show Ok ((alen (gx_up c4 nx (.inl (.long, 2 ^ L, .inr (.inl Df)))) sa).bind _) _
      rw [alen_I (n := 2 ^ L * 4) (f := Sf) (by rw [gu_n _ _ (by omega)]; exact f5), bind_s]
      show Ok (if nI (2 ^ L * 4) ≤ nI (2 ^ L * 4) then _ else _) _
      rw [if_pos (Int32.le_refl _)]
      exact ok_some ⟨Df, rfl, p1⟩
    · obtain ⟨Df, hw1, hw2⟩ := hz
      have hWM := WM_mk h1 hL (fun s hs i hi => (hSf s hs i hi).2) i0 n1 n4 Af
      refine ok_some ⟨⟨hWM, aa, sa, nx, Af2, Sf, Df, Or.inl rfl, Or.inr (Or.inl rfl), Or.inr (Or.inr (Or.inl rfl)), Or.inr (Or.inr (Or.inr rfl)), ?_, ?_, hz2, ?_, fun s hs i hi => (hSf s hs i hi).1, ?_, fun t ht => ?_⟩, rfl, Nat.zero_add _, fun b b1 b2 b3 => ?_⟩
      · show zo.2 th = _
        rw [hw1, gu_n _ _ hn]
        exact f1
      · show zo.2 aa = _
        rw [hw1, gu_n _ _ (by omega)]
        exact f3
      · show zo.2 sa = _
        rw [hw1, gu_n _ _ (by omega)]
        exact f5
      · show zo.2 nx = _
        rw [hw1]
        exact gu_e _ _ _
      · rw [hw2 t ht]
        have ht : t < 2 ^ L := ht
        exact ledN_all (M := mkM L sc i0 na Af) hL (by omega)
      · show zo.2 b = _
        rw [hw1, gu_n _ _ b3]
        exact f4 b b1 b2 b3
