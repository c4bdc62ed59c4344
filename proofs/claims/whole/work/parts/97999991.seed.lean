/-! A MACHINE IS DRAWN: the class -/
def sdN (r0 : Nat) : Nat → Nat
  | 0 => r0
  | k + 1 => (sdN r0 k * 773 + 641) % 31139
theorem sdN_lt {r0 : Nat} (h : r0 < 31139) : ∀ k, sdN r0 k < 31139 := by
  intro k
  cases k with
  | zero => exact h
  | succ k => exact Nat.mod_lt _ (by omega)
def scD (r0 L s i : Nat) : Nat := sdN r0 (s * 4 + i + 1) / 7 % 2 ^ L
abbrev bitL (k : Nat) : Int64 := (1 : Int64) <<< (Int32.toInt64 (nI k) &&& 63)
def drM (r0 L : Nat) : Mv := mkM L (scD r0 L) 1 1 (fun _ => bitL (2 ^ L - 1))
theorem rnd_n {r : Nat} (h : r < 31139) : rm32 ((nI r * (773 : Int32)) + (641 : Int32)) (31139 : Int32) = nI ((r * 773 + 641) % 31139) := by
  unfold rm32
  rw [show (773 : Int32) = nI 773 from rfl, show (641 : Int32) = nI 641 from rfl, show (31139 : Int32) = nI 31139 from rfl, pk_mul, nI_add, pk_rem (by omega) (by omega) (by omega)]
theorem rnd_v {r L : Nat} (h : r < 31139) (hL : L < 7) : rm32 (nI r / (7 : Int32)) (nI (2 ^ L)) = nI (r / 7 % 2 ^ L) := by
  have h64 := p2_64 hL
  have h0 : 0 < 2 ^ L := Nat.two_pow_pos L
  unfold rm32
  rw [show (7 : Int32) = nI 7 from rfl, pk_div (by omega) (by omega) (by omega), pk_rem (by omega) h0 (by omega)]
theorem sh_4 : ∀ k, k < 7 → (4 : Int32) <<< (nI k &&& 31) = nI (2 ^ k * 4) := by decide +kernel
theorem nz_n {n : Nat} (h0 : n ≠ 0) (h : n < 2 ^ 31) : nz (nI n) = some () := by
  unfold nz
  rw [if_neg]
  intro z
  exact h0 ((nI_eq (b := 0) h (by omega)).mp z)
theorem scD_lt {r0 L s i : Nat} : scD r0 L s i < 2 ^ L := Nat.mod_lt _ (Nat.two_pow_pos L)
theorem c_bySeed (ce : Ce) (nx : Nat) {r0 L : Nat} (hr : r0 < 31139) (h1 : 1 ≤ L) (hL : L < 7) : Ok (m_X5_bySeed nx ce (nI r0) (nI L)) (fun z => z.1 = nx + 2 ∧ MA z.2.1 (fun b => nx ≤ b ∧ b < nx + z.2.2.1) (nx + 2) (drM r0 L) ∧ z.2.2.1 = 4 ∧ z.2.2.2 ≤ 340 ∧ ∀ b, b < nx → z.2.1 b = ce b) := by
  have h64 := p2_64 hL
  unfold m_X5_bySeed
  rw [sh_4 L hL, nwa_n (by omega), bind_s]
  refine ok_adcK ?_
  rw [bind_s]
  refine ok_call (P := fun o => ∃ Sf, o.2 = gx_up ce nx (.inl (.int, 2 ^ L * 4, .inl Sf)) ∧ ∀ j, j < 2 ^ L * 4 → Sf j = nI (sdN r0 (j + 1) / 7 % 2 ^ L)) (ok_cnt 0 (2 ^ L * 4) (fun k s => s.1 = (nI (sdN r0 k), nI k) ∧ ∃ Sf, s.2 = gx_up ce nx (.inl (.int, 2 ^ L * 4, .inl Sf)) ∧ ∀ j, j < k → Sf j = nI (sdN r0 (j + 1) / 7 % 2 ^ L)) (by omega) (by omega) ⟨rfl, _, rfl, fun _ h => by omega⟩ ?_ ?_) (fun zo hz => ?_)
  · rintro k ⟨u, d⟩ hk ⟨hu, Sf, hd, p1⟩
    have hu : u = (nI (sdN r0 k), nI k) := hu
    have hd : d = gx_up ce nx (.inl (.int, 2 ^ L * 4, .inl Sf)) := hd
    subst hu hd
    have hsd := sdN_lt hr k
    have hsd1 := sdN_lt hr (k + 1)
    show Ok ((alen (gx_up ce nx (.inl (.int, 2 ^ L * 4, .inl Sf))) nx).bind _) _
    rw [alen_I (gu_e _ _ _), bind_s]
    show Ok (if nI (2 ^ L * 4) ≤ nI k then _ else (nz (31139 : Int32)).bind fun _ => (nz (7 : Int32)).bind fun _ => (nz ((1 : Int32) <<< (nI L &&& 31))).bind fun _ => (sI (gx_up ce nx (.inl (.int, 2 ^ L * 4, .inl Sf))) nx (nI k) (rm32 ((rm32 ((nI (sdN r0 k) * (773 : Int32)) + (641 : Int32)) (31139 : Int32)) / (7 : Int32)) ((1 : Int32) <<< (nI L &&& 31)))).bind fun zc23 => some (Sum.inl (((rm32 ((nI (sdN r0 k) * (773 : Int32)) + (641 : Int32)) (31139 : Int32)), (nI k + (1 : Int32))), zc23))) _
    rw [if_le (by omega) (by omega), if_neg (by omega), show nz (31139 : Int32) = some () from rfl, bind_s, show nz (7 : Int32) = some () from rfl, bind_s, sh_1 L hL, nz_n (by have := Nat.two_pow_pos L; omega) (by omega), bind_s, rnd_n hsd]
    show Ok ((sI _ nx (nI k) (rm32 (nI (sdN r0 (k + 1)) / (7 : Int32)) (nI (2 ^ L)))).bind _) _
    rw [rnd_v hsd1 hL, sI_c (gu_e _ _ _) hk (by omega), bind_s, gu_gu]
    refine ok_some ⟨by show (nI (sdN r0 (k + 1)), nI k + 1) = _; rw [nI_1], _, rfl, fun j hj => ?_⟩
    by_cases e : j = k
    · rw [e, up_e]
    · rw [up_n _ _ _ e]
      exact p1 j (by omega)
  · rintro ⟨u, d⟩ ⟨hu, Sf, hd, p1⟩
    have hu : u = (nI (sdN r0 (2 ^ L * 4)), nI (2 ^ L * 4)) := hu
    have hd : d = gx_up ce nx (.inl (.int, 2 ^ L * 4, .inl Sf)) := hd
    subst hu hd
    show Ok ((alen (gx_up ce nx (.inl (.int, 2 ^ L * 4, .inl Sf))) nx).bind _) _
    rw [alen_I (gu_e _ _ _), bind_s]
    show Ok (if nI (2 ^ L * 4) ≤ nI (2 ^ L * 4) then _ else _) _
    rw [if_pos (Int32.le_refl _)]
    exact ok_some ⟨Sf, rfl, p1⟩
  · obtain ⟨Sf, hz1, hz2⟩ := hz
    rw [hz1, show nwa (1 : Int32) = some 1 from rfl, bind_s]
    refine ok_adcK ?_
    have e1 : ((1 : Int32) <<< (nI L &&& 31)) - (1 : Int32) = nI (2 ^ L - 1) := by
      rw [sh_1 L hL, nl_1, pk_sub (by have := Nat.two_pow_pos L; omega)]
    rw [bind_s, e1, show (0 : Int32) = nI 0 from rfl, sL_c (k := 0) (gu_e _ _ _) (by omega) (by omega), bind_s, gu_gu]
    refine ok_adcK ?_
    rw [bind_s]
    generalize hG : gx_up (gx_up (gx_up ce nx (.inl (.int, 2 ^ L * 4, .inl Sf))) (nx + 1) (.inl (.long, 1, .inr (.inl (va_up (fun _ => 0) 0 ((1 : Int64) <<< (Int32.toInt64 (nI (2 ^ L - 1)) &&& 63))))))) (nx + 1 + 1) (.inr (3, df_X5)) = G
    have g1 : G (nx + 2) = some (.inr (3, df_X5)) := by
      rw [← hG]
      exact gu_e _ _ _
    have g2 : G (nx + 1) = some (.inl (.long, 1, .inr (.inl (va_up (fun _ => 0) 0 ((1 : Int64) <<< (Int32.toInt64 (nI (2 ^ L - 1)) &&& 63)))))) := by
      rw [← hG, gu_n _ _ (by omega)]
      exact gu_e _ _ _
    have g3 : G nx = some (.inl (.int, 2 ^ L * 4, .inl Sf)) := by
      rw [← hG, gu_n _ _ (by omega), gu_n _ _ (by omega)]
      exact gu_e _ _ _
    have g4 : ∀ b, b < nx → G b = ce b := fun b hb => by rw [← hG, gu_n _ _ (by omega), gu_n _ _ (by omega), gu_n _ _ (by omega)]
    clear hG
    refine ok_adcB (ok_mono (cm_init (nx := nx + 3) (th := nx + 2) (sa := nx) (aa := nx + 1) (sc := scD r0 L) h1 hL g1 g3 (fun s hs i hi => ⟨hz2 (s * 4 + i) (by omega), scD_lt⟩) g2 (by omega) (by omega) ⟨by omega, by omega, by omega⟩ ⟨by omega, by omega, by omega⟩ 1) ?_)
    rintro ⟨u, d, K, S⟩ ⟨m1, m2, m3, m4⟩
    have m1 : MA d (fun b => b = nx + 2 ∨ b = nx + 1 ∨ b = nx ∨ b = nx + 3) (nx + 2) (mkM L (scD r0 L) 1 1 (va_up (fun _ => 0) 0 ((1 : Int64) <<< (Int32.toInt64 (nI (2 ^ L - 1)) &&& 63)))) := m1
    have m2 : K = 1 := m2
    have m3 : S = 2 ^ L := m3
    have m4 : ∀ b, b ≠ nx + 2 → b ≠ nx + 1 → b ≠ nx + 3 → d b = G b := m4
    subst m2 m3
    refine ok_some ⟨rfl, ?_, rfl, ?_, fun b hb => ?_⟩
    · show MA d (fun b => nx ≤ b ∧ b < nx + (0 + 1 + 1 + 1 + 1)) (nx + 2) (drM r0 L)
      have hm := MA_congr (c2 := d) (U2 := fun b => nx ≤ b ∧ b < nx + (0 + 1 + 1 + 1 + 1)) (fun _ _ => rfl) (fun b hb => by omega) m1
      obtain ⟨w1, aa, sa, la, Af, Sf2, Df, r1⟩ := hm
      obtain ⟨u1, u2, u3, u4, q1, q2, q3, q4, q5, q6, q7⟩ := r1
      refine ⟨WM_mk h1 hL (fun s _ i _ => scD_lt) 1 (by omega) (by omega) _, aa, sa, la, Af, Sf2, Df, u1, u2, u3, u4, q1, q2, fun i hi => ?_, q4, q5, q6, q7⟩
      have hi : i < 1 := hi
      have hi0 : i = 0 := by omega
      subst hi0
      rw [q3 0 (by show 0 < 1; omega)]
      rfl
    · show 0 + 2 ^ L + 7 + 1 + 2 ^ L * 4 ≤ 340
      omega
    · exact (m4 b (by omega) (by omega) (by omega)).trans (g4 b hb)
def plM : Mv := mkM 3 (fun s _ => s) 1 1 (fun _ => 0)
theorem c_plain (ce : Ce) (nx : Nat) : Ok (m_X5_plain nx ce) (fun z => z.1 = nx + 1 ∧ MA z.2.1 (fun b => nx ≤ b ∧ b < nx + z.2.2.1) (nx + 1) plM ∧ z.2.2.1 = 4 ∧ z.2.2.2 ≤ 340 ∧ ∀ b, b < nx → z.2.1 b = ce b) := by
  unfold m_X5_plain
  rw [show nwa ((4 : Int32) <<< ((3 : Int32) &&& 31)) = some 32 from by decide +kernel, bind_s]
  refine ok_adcK ?_
  rw [bind_s]
  refine ok_call (P := fun o => ∃ Sf, o.2 = gx_up ce nx (.inl (.int, 32, .inl Sf)) ∧ ∀ j, j < 32 → Sf j = nI (j / 4)) (ok_cnt 0 32 (fun k s => s.1 = nI k ∧ ∃ Sf, s.2 = gx_up ce nx (.inl (.int, 32, .inl Sf)) ∧ ∀ j, j < k → Sf j = nI (j / 4)) (by omega) (by omega) ⟨rfl, _, rfl, fun _ h => by omega⟩ ?_ ?_) (fun zo hz => ?_)
  · rintro k ⟨u, d⟩ hk ⟨hu, Sf, hd, p1⟩
    have hu : u = nI k := hu
    have hd : d = gx_up ce nx (.inl (.int, 32, .inl Sf)) := hd
    subst hu hd
    show Ok ((alen (gx_up ce nx (.inl (.int, 32, .inl Sf))) nx).bind _) _
    rw [alen_I (gu_e _ _ _), bind_s]
    show Ok (if nI 32 ≤ nI k then _ else (nz (4 : Int32)).bind fun _ => (sI (gx_up ce nx (.inl (.int, 32, .inl Sf))) nx (nI k) (nI k / (4 : Int32))).bind _) _
    rw [if_le (by omega) (by omega), if_neg (by omega), show nz (4 : Int32) = some () from rfl, bind_s, div_4 k (by omega), sI_c (gu_e _ _ _) hk (by omega), bind_s, gu_gu]
    refine ok_some ⟨nI_1 k, _, rfl, fun j hj => ?_⟩
    by_cases e : j = k
    · rw [e, up_e]
    · rw [up_n _ _ _ e]
      exact p1 j (by omega)
  · rintro ⟨u, d⟩ ⟨hu, Sf, hd, p1⟩
    have hu : u = nI 32 := hu
    have hd : d = gx_up ce nx (.inl (.int, 32, .inl Sf)) := hd
    subst hu hd
    show Ok ((alen (gx_up ce nx (.inl (.int, 32, .inl Sf))) nx).bind _) _
    rw [alen_I (gu_e _ _ _), bind_s]
    show Ok (if nI 32 ≤ nI 32 then _ else _) _
    rw [if_pos (Int32.le_refl _)]
    exact ok_some ⟨Sf, rfl, p1⟩
  · obtain ⟨Sf, hz1, hz2⟩ := hz
    rw [hz1]
    refine ok_adcK ?_
    rw [bind_s, show nwa (1 : Int32) = some 1 from rfl, bind_s]
    refine ok_adcK ?_
    rw [bind_s]
    generalize hG : gx_up (gx_up (gx_up ce nx (.inl (.int, 32, .inl Sf))) (nx + 1) (.inr (3, df_X5))) (nx + 1 + 1) (.inl (.long, 1, .inr (.inl (fun _ => 0)))) = G
    have g1 : G (nx + 1) = some (.inr (3, df_X5)) := by
      rw [← hG, gu_n _ _ (by omega)]
      exact gu_e _ _ _
    have g2 : G (nx + 2) = some (.inl (.long, 1, .inr (.inl (fun _ => 0)))) := by
      rw [← hG]
      exact gu_e _ _ _
    have g3 : G nx = some (.inl (.int, 2 ^ 3 * 4, .inl Sf)) := by
      rw [← hG, gu_n _ _ (by omega), gu_n _ _ (by omega)]
      exact gu_e _ _ _
    have g4 : ∀ b, b < nx → G b = ce b := fun b hb => by rw [← hG, gu_n _ _ (by omega), gu_n _ _ (by omega), gu_n _ _ (by omega)]
    clear hG
    refine ok_adcB (ok_mono (cm_init (nx := nx + 3) (th := nx + 1) (sa := nx) (aa := nx + 2) (L := 3) (sc := fun s _ => s) (by omega) (by omega) g1 g3 (fun s hs i hi => ⟨by rw [hz2 (s * 4 + i) (by omega), show (s * 4 + i) / 4 = s by omega], hs⟩) g2 (by omega) (by omega) ⟨by omega, by omega, by omega⟩ ⟨by omega, by omega, by omega⟩ 1) ?_)
    rintro ⟨u, d, K, S⟩ ⟨m1, m2, m3, m4⟩
    have m1 : MA d (fun b => b = nx + 1 ∨ b = nx + 2 ∨ b = nx ∨ b = nx + 3) (nx + 1) plM := m1
    have m2 : K = 1 := m2
    have m3 : S = 2 ^ 3 := m3
    have m4 : ∀ b, b ≠ nx + 1 → b ≠ nx + 2 → b ≠ nx + 3 → d b = G b := m4
    subst m2 m3
    refine ok_some ⟨rfl, ?_, rfl, ?_, fun b hb => ?_⟩
    · show MA d (fun b => nx ≤ b ∧ b < nx + (0 + 1 + 1 + 1 + 1)) (nx + 1) plM
      exact MA_congr (fun _ _ => rfl) (fun b hb => by omega) m1
    · show 0 + 2 ^ 3 + 1 + 7 + 32 ≤ 340
      omega
    · exact (m4 b (by omega) (by omega) (by omega)).trans (g4 b hb)
