/-! A SEARCH MADE LIKE ANOTHER -/
def bcap (κ : Nat × Nat × Nat) (V : Sv) : Nat × Nat × Nat := (if (srtF V.2.2.1).length ≤ κ.1 then κ.1 else (srtF V.2.2.1).length, if 4 * V.2.2.2.1.length ≤ κ.2.1 then κ.2.1 else 4 * V.2.2.2.1.length, if (clR V.2.2.2.2.2).length ≤ κ.2.2 then κ.2.2 else (clR V.2.2.2.2.2).length)
def bcost (κ : Nat × Nat × Nat) (V : Sv) : Nat := (if (srtF V.2.2.1).length ≤ κ.1 then 0 else 3 * (srtF V.2.2.1).length) + (if 4 * V.2.2.2.1.length ≤ κ.2.1 then 0 else 4 * V.2.2.2.1.length) + (if (clR V.2.2.2.2.2).length ≤ κ.2.2 then 0 else 3 * (clR V.2.2.2.2.2).length)
theorem Es_dis {ce : Ce} {nx : Nat} {A B d : Nat → Nat} {c2 : Ce} (h : Es ce nx B c2 d) (hl : ∀ i, i < 13 → A i < nx) (hd : ∀ i, i < 13 → ∀ j, j < 13 → A i ≠ B j) : ∀ i, i < 13 → ∀ j, j < 13 → A i ≠ d j := by
  intro i hi j hj
  have h1 := hl i hi
  have h2 := hd i hi j hj
  rcases h.2.2 j hj with e | e
  · rw [e]; exact h2
  · omega
theorem d4_of {A : Nat → Nat} (h : ∀ i, i < 13 → ∀ j, j < 13 → i ≠ j → A i ≠ A j) (b : Nat) (hb : b + 3 < 13) : D4 (A b) (A (b + 1)) (A (b + 2)) (A (b + 3)) := ⟨h _ (by omega) _ (by omega) (by omega), h _ (by omega) _ (by omega) (by omega), h _ (by omega) _ (by omega) (by omega), h _ (by omega) _ (by omega) (by omega), h _ (by omega) _ (by omega) (by omega), h _ (by omega) _ (by omega) (by omega)⟩
theorem row_dis {A B : Nat → Nat} (hd : ∀ i, i < 13 → ∀ j, j < 13 → A i ≠ B j) (k : Nat) (hk : k + 3 < 13) : ∀ b, (b = A k ∨ b = A (k + 1) ∨ b = A (k + 2) ∨ b = A (k + 3)) → b ≠ B k ∧ b ≠ B (k + 1) ∧ b ≠ B (k + 2) ∧ b ≠ B (k + 3) := by
  intro b hb
  rcases hb with rfl | rfl | rfl | rfl
  · exact ⟨hd _ (by omega) _ (by omega), hd _ (by omega) _ (by omega), hd _ (by omega) _ (by omega), hd _ (by omega) _ (by omega)⟩
  · exact ⟨hd _ (by omega) _ (by omega), hd _ (by omega) _ (by omega), hd _ (by omega) _ (by omega), hd _ (by omega) _ (by omega)⟩
  · exact ⟨hd _ (by omega) _ (by omega), hd _ (by omega) _ (by omega), hd _ (by omega) _ (by omega), hd _ (by omega) _ (by omega)⟩
  · exact ⟨hd _ (by omega) _ (by omega), hd _ (by omega) _ (by omega), hd _ (by omega) _ (by omega), hd _ (by omega) _ (by omega)⟩
theorem cw_become2 {ce : Ce} {nx r f g s cap : Nat} {l : List Cu} (h : RW ce r f g s cap l) (hx : r < nx ∧ f < nx ∧ g < nx ∧ s < nx) (hd : D4 r f g s) {r' f' g' s' cap' : Nat} {l' : List Cu} (h' : RW ce r' f' g' s' cap' l') (hx' : r' < nx ∧ f' < nx ∧ g' < nx ∧ s' < nx) (hr : ∀ b, (b = r' ∨ b = f' ∨ b = g' ∨ b = s') → b ≠ r ∧ b ≠ f ∧ b ≠ g ∧ b ≠ s) : Ok (m_X2_become nx ce r r') (fun z => RowG ce nx r f g s l' z.2.1 z.2.2.1 (if l'.length ≤ cap then cap else l'.length) ∧ z.2.2.1 ≤ 3 ∧ z.2.2.2 = (if l'.length ≤ cap then 0 else 3 * l'.length)) := by
  refine ok_mono (cw_become h hx hd h' hx' hr) ?_
  rintro z ⟨h1, h2⟩
  refine ⟨h1, ?_, ?_⟩
  · by_cases hh : l'.length ≤ cap
    · rw [if_pos hh] at h2; omega
    · rw [if_neg hh] at h2; omega
  · by_cases hh : l'.length ≤ cap
    · rw [if_pos hh] at h2 ⊢; exact h2.2
    · rw [if_neg hh] at h2 ⊢; exact h2.2
theorem co_become2 {ce : Ce} {nx o p cap : Nat} {lc : List Ln} (h : OB ce o p cap lc) (hx : o < nx ∧ p < nx) (hd : o ≠ p) {o' p' cap' : Nat} {lc' : List Ln} (h' : OB ce o' p' cap' lc') (hx' : o' < nx ∧ p' < nx) (hr : o' ≠ o ∧ o' ≠ p ∧ p' ≠ o ∧ p' ≠ p) (hl' : lc'.length ≤ 80) : Ok (m_X6_become nx ce o o') (fun z => OboG ce nx o p lc' z.2.1 z.2.2.1 (if 4 * lc'.length ≤ cap then cap else 4 * lc'.length) ∧ z.2.2.1 ≤ 1 ∧ z.2.2.2 = (if 4 * lc'.length ≤ cap then 0 else 4 * lc'.length)) := by
  refine ok_mono (co_become h hx hd h' hx' hr hl') ?_
  rintro z ⟨h1, h2⟩
  refine ⟨h1, ?_, ?_⟩
  · by_cases hh : 4 * lc'.length ≤ cap
    · rw [if_pos hh] at h2; omega
    · rw [if_neg hh] at h2; omega
  · by_cases hh : 4 * lc'.length ≤ cap
    · rw [if_pos hh] at h2 ⊢; exact h2.2
    · rw [if_neg hh] at h2 ⊢; exact h2.2
theorem ss_become {ce : Ce} {nx : Nat} {B : Nat → Nat} {κb : Nat × Nat × Nat} {U : Sv} (hB : SS ce nx B κb U) {A : Nat → Nat} {κ : Nat × Nat × Nat} {V : Sv} (hA : SS ce nx A κ V) (hdis : ∀ i, i < 13 → ∀ j, j < 13 → A i ≠ B j) {mp : Nat} (hmp : gA ce 6 0 (A 0) = some mp) {Z : Nat → Prop} (hm : MA ce Z mp V.1) (hZ : ∀ b, Z b → b < nx ∧ Off B b) (hob : V.2.2.2.1.length ≤ 80) : Ok (m_X8_become nx ce (B 0) (A 0)) (fun z => ∃ B2, SS z.2.1 (nx + z.2.2.1) B2 (bcap κb V) V ∧ Es ce nx B z.2.1 B2 ∧ gA z.2.1 6 0 (B 0) = some mp ∧ z.2.2.1 ≤ 7 ∧ z.2.2.2 = bcost κb V) := by
  obtain ⟨M, n, fr, ob, fl, cl⟩ := V
  obtain ⟨MB, nB, frB, obB, flB, clB⟩ := U
  have hAl := (ss_lt hA).1
  have hAd := (ss_lt hA).2
  obtain ⟨mpA, at1, hA1, hA2, lc, p1, p2, p3, p4, p5, p6, p7, p8⟩ := hA
  have hA1 : ce (A 0) = some (.inr (6, Sob A mpA n at1)) := hA1
  have emp : mpA = mp := by
    have := gA_c (k := 0) hA1 rfl
    rw [hmp] at this
    exact (Option.some.inj this).symm
  subst emp
  obtain ⟨mpB, atB, hB1, hB2, hB3⟩ := hB
  have hB1 : ce (B 0) = some (.inr (6, Sob B mpB nB atB)) := hB1
  have hA0 : ∀ e, gx_up ce (B 0) e (A 0) = some (.inr (6, Sob A mpA n at1)) := fun e => by
    rw [gu_n _ _ (hdis 0 (by omega) 0 (by omega))]
    exact hA1
  have hlen : lc.length = ob.length := p3.1.length_eq
  have hob : ob.length ≤ 80 := hob
  unfold m_X8_become
  rw [gA_c (k := 0) hA1 rfl, bind_s, pV_c hB1 (show 0 < 15 by omega), bind_s]
  rw [gI_c (k := 1) (hA0 _) rfl, bind_s, pV_c (gu_e _ _ _) (show 1 < 15 by omega), bind_s, gu_gu]
  rw [gI_c (k := 2) (hA0 _) rfl, bind_s, pV_c (gu_e _ _ _) (show 2 < 15 by omega), bind_s, gu_gu]
  rw [gI_c (k := 3) (hA0 _) rfl, bind_s, pV_c (gu_e _ _ _) (show 3 < 15 by omega), bind_s, gu_gu]
  rw [gI_c (k := 4) (hA0 _) rfl, bind_s, pV_c (gu_e _ _ _) (show 4 < 15 by omega), bind_s, gu_gu]
  rw [gI_c (k := 5) (hA0 _) rfl, bind_s, pV_c (gu_e _ _ _) (show 5 < 15 by omega), bind_s, gu_gu]
  rw [gI_c (k := 6) (hA0 _) rfl, bind_s, pV_c (gu_e _ _ _) (show 6 < 15 by omega), bind_s, gu_gu]
  rw [gI_c (k := 7) (hA0 _) rfl, bind_s, pV_c (gu_e _ _ _) (show 7 < 15 by omega), bind_s, gu_gu]
  rw [gI_c (k := 8) (hA0 _) rfl, bind_s, pV_c (gu_e _ _ _) (show 8 < 15 by omega), bind_s, gu_gu]
  rw [gI_c (k := 9) (hA0 _) rfl, bind_s, pV_c (gu_e _ _ _) (show 9 < 15 by omega), bind_s, gu_gu]
  rw [gI_c (k := 10) (hA0 _) rfl, bind_s, pV_c (gu_e _ _ _) (show 10 < 15 by omega), bind_s, gu_gu]
  generalize e1 : gx_up ce (B 0) _ = c1
  have hc1 : c1 = gx_up ce (B 0) (.inr (6, Sob B mpA n at1)) := by
    rw [← e1]
    rfl
  clear e1
  have S0 : SS c1 nx B κb (M, n, frB, obB, flB, clB) := by
    rw [hc1]
    obtain ⟨lcB, b1, b2, b3, b4, b5, b6, b7, b8⟩ := SSr_cell hB3 (.inr (6, Sob B mpA n at1))
    exact ⟨mpA, at1, gu_e _ _ _, hA2, lcB, b1, b2, b3, b4, b5, MA_congr (fun b hb => gu_n _ _ ((hZ b hb).2 0 (by omega))) hZ hm, b7, b8⟩
  have E0 : Es ce nx B c1 B := ⟨rfl, fun b _ ho => by rw [hc1, gu_n _ _ (ho 0 (by omega))], fun _ _ => Or.inl rfl⟩
  have G0 : gA c1 6 0 (B 0) = some mpA := by
    rw [hc1]
    exact gA_c (gu_e _ _ _) rfl
  have HA1 : ∀ i, i < 13 → c1 (A i) = ce (A i) := fun i hi => E0.2.1 _ (hAl i hi) (fun j hj => hdis i hi j hj)
  clear hc1 hA0
  have hlt := ss_lt S0
  have g1 : c1 (A 0) = some (.inr (6, Sob A mpA n at1)) := by rw [HA1 0 (by omega)]; exact hA1
  rw [ss_r11 S0, bind_s, gA_c (k := 11) g1 rfl, bind_s, cw_rcv (ss_row S0), bind_s]
  refine ok_adcB (ok_mono (cw_become2 (ss_row S0) ⟨hlt.1 1 (by omega), hlt.1 2 (by omega), hlt.1 3 (by omega), hlt.1 4 (by omega)⟩ (d4_of hlt.2 1 (by omega)) (RW_congr (HA1 1 (by omega)) (HA1 2 (by omega)) (HA1 3 (by omega)) (HA1 4 (by omega)) p1) ⟨hAl 1 (by omega), hAl 2 (by omega), hAl 3 (by omega), hAl 4 (by omega)⟩ (row_dis hdis 1 (by omega))) ?_)
  rintro ⟨u1, d1, K1, C1⟩ ⟨t1, w1, k1⟩
  dsimp only at w1 k1
  obtain ⟨B1, S1, E1, G1⟩ := ss_frG S0 t1
  have S1 : SS d1 (nx + K1) B1 _ (M, n, fr, obB, flB, clB) := S1
  have E1 : Es c1 nx B d1 B1 := E1
  have G1 : gA d1 6 0 (B 0) = gA c1 6 0 (B 0) := G1
  have E01 : Es ce nx B d1 B1 := Es_trans (K := 0) E0 E1
  have dis1 := Es_dis E1 hAl hdis
  have HA2 : ∀ i, i < 13 → d1 (A i) = ce (A i) := fun i hi => E01.2.1 _ (hAl i hi) (fun j hj => hdis i hi j hj)
  have B10 : B1 0 = B 0 := E1.1
  have hlt1 := ss_lt S1
  obtain ⟨lcB, o1, o2⟩ := ss_obl S1
  have g2 : d1 (A 0) = some (.inr (6, Sob A mpA n at1)) := by rw [HA2 0 (by omega)]; exact hA1
  show Ok ((gA d1 6 12 (B 0)).bind _) _
  have r12 := ss_r12 S1
  rw [B10] at r12
  rw [r12, bind_s]
  show Ok ((gA d1 6 12 (A 0)).bind _) _
  rw [gA_c (k := 12) g2 rfl, bind_s]
  show Ok ((rcv d1 4 (B1 5)).bind _) _
  rw [co_rcv o1, bind_s]
  refine ok_adcB ?_
  show Ok (m_X6_become (nx + K1) d1 (B1 5) (A 5)) _
  have hlc80 : lc.length ≤ 80 := by omega
  refine ok_mono (co_become2 o1 ⟨hlt1.1 5 (by omega), hlt1.1 6 (by omega)⟩ (hlt1.2 5 (by omega) 6 (by omega) (by omega)) (OB_congr (HA2 5 (by omega)) (HA2 6 (by omega)) p2) ⟨by have := hAl 5 (by omega); omega, by have := hAl 6 (by omega); omega⟩ ⟨dis1 5 (by omega) 5 (by omega), dis1 5 (by omega) 6 (by omega), dis1 6 (by omega) 5 (by omega), dis1 6 (by omega) 6 (by omega)⟩ hlc80) ?_
  rintro ⟨u2, d2, K2, C2⟩ ⟨t3, w2, k2⟩
  dsimp only at w2 k2
  rw [hlen] at k2
  obtain ⟨B2, S2, E2, G2⟩ := ss_obG S1 p3 t3
  have S2 : SS d2 (nx + K1 + K2) B2 _ (M, n, fr, ob, flB, clB) := S2
  have E2 : Es d1 (nx + K1) B1 d2 B2 := E2
  have G2 : gA d2 6 0 (B1 0) = gA d1 6 0 (B1 0) := G2
  have E02 : Es ce nx B d2 B2 := Es_trans E01 E2
  have dis2 := Es_dis E02 hAl hdis
  have HA3 : ∀ i, i < 13 → d2 (A i) = ce (A i) := fun i hi => E02.2.1 _ (hAl i hi) (fun j hj => hdis i hi j hj)
  have B20 : B2 0 = B 0 := E02.1
  have hlt2 := ss_lt S2
  have g3 : d2 (A 0) = some (.inr (6, Sob A mpA n at1)) := by rw [HA3 0 (by omega)]; exact hA1
  show Ok ((gA d2 6 13 (B 0)).bind _) _
  have r13 := ss_r13 S2
  rw [B20] at r13
  rw [r13, bind_s]
  show Ok ((gA d2 6 13 (A 0)).bind _) _
  rw [gA_c (k := 13) g3 rfl, bind_s]
  show Ok ((rcv d2 0 (B2 7)).bind _) _
  rw [ca_rcv (ss_act S2), bind_s]
  show Ok ((m_X0_become d2 (B2 7) (A 7)).bind _) _
  refine ok_call (ca_become (ss_act S2) (hlt2.2 7 (by omega) 8 (by omega) (by omega)) (AC_congr (HA3 7 (by omega)) (HA3 8 (by omega)) p4) ⟨dis2 7 (by omega) 7 (by omega), dis2 7 (by omega) 8 (by omega), dis2 8 (by omega) 7 (by omega), dis2 8 (by omega) 8 (by omega)⟩) ?_
  rintro ⟨u3, d3⟩ ⟨t5, t6⟩
  obtain ⟨S3, E3, G3⟩ := ss_actG S2 t5 t6
  have S3 : SS d3 (nx + K1 + K2) B2 _ (M, n, fr, ob, fl, clB) := S3
  have E3 : Es d2 (nx + K1 + K2) B2 d3 B2 := E3
  have G3 : gA d3 6 0 (B2 0) = gA d2 6 0 (B2 0) := G3
  have E03 : Es ce nx B d3 B2 := by
    have : Es d2 (nx + (K1 + K2)) B2 d3 B2 := by rw [← Nat.add_assoc]; exact E3
    exact Es_trans E02 this
  have HA4 : ∀ i, i < 13 → d3 (A i) = ce (A i) := fun i hi => E03.2.1 _ (hAl i hi) (fun j hj => hdis i hi j hj)
  have hlt3 := ss_lt S3
  have g4 : d3 (A 0) = some (.inr (6, Sob A mpA n at1)) := by rw [HA4 0 (by omega)]; exact hA1
  show Ok ((gA d3 6 14 (B 0)).bind _) _
  have r14 := ss_r14 S3
  rw [B20] at r14
  rw [r14, bind_s]
  show Ok ((gA d3 6 14 (A 0)).bind _) _
  rw [gA_c (k := 14) g4 rfl, bind_s]
  show Ok ((rcv d3 2 (B2 9)).bind _) _
  rw [cw_rcv (ss_cls S3), bind_s]
  refine ok_adcB ?_
  show Ok (m_X2_become (nx + K1 + K2) d3 (B2 9) (A 9)) _
  have lt9 : ∀ i, i < 13 → A i < nx + K1 + K2 := fun i hi => by have := hAl i hi; omega
  refine ok_mono (cw_become2 (ss_cls S3) ⟨hlt3.1 9 (by omega), hlt3.1 10 (by omega), hlt3.1 11 (by omega), hlt3.1 12 (by omega)⟩ (d4_of hlt3.2 9 (by omega)) (RW_congr (HA4 9 (by omega)) (HA4 10 (by omega)) (HA4 11 (by omega)) (HA4 12 (by omega)) p5) ⟨lt9 9 (by omega), lt9 10 (by omega), lt9 11 (by omega), lt9 12 (by omega)⟩ (row_dis dis2 9 (by omega))) ?_
  rintro ⟨u4, d4, K4, C4⟩ ⟨t7, w4, k3⟩
  dsimp only at w4 k3
  obtain ⟨B3, S4, E4, G4⟩ := ss_clG S3 t7
  have S4 : SS d4 (nx + K1 + K2 + K4) B3 _ (M, n, fr, ob, fl, cl) := S4
  have E4 : Es d3 (nx + K1 + K2) B2 d4 B3 := E4
  have G4 : gA d4 6 0 (B2 0) = gA d3 6 0 (B2 0) := G4
  have E04 : Es ce nx B d4 B3 := by
    have : Es d3 (nx + (K1 + K2)) B2 d4 B3 := by rw [← Nat.add_assoc]; exact E4
    exact Es_trans E03 this
  refine ok_some ⟨B3, ?_, E04, ?_, ?_, ?_⟩
  · have ek : nx + (0 + K4 + K2 + K1) = nx + K1 + K2 + K4 := by omega
    show SS d4 (nx + (0 + K4 + K2 + K1)) B3 (bcap κb (M, n, fr, ob, fl, cl)) (M, n, fr, ob, fl, cl)
    rw [ek]
    unfold bcap
    dsimp only at S4 ⊢
    rw [hlen] at S4
    exact S4
  · show gA d4 6 0 (B 0) = some mpA
    rw [B20] at G4 G3
    rw [B10] at G2
    rw [G4, G3, G2, G1, G0]
  · show 0 + K4 + K2 + K1 ≤ 7
    omega
  · show 0 + C4 + C2 + C1 = bcost κb (M, n, fr, ob, fl, cl)
    unfold bcost
    dsimp only
    rw [← k1, ← k2, ← k3]
    omega
