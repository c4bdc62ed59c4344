/-! A SEARCH MADE, AND MADE LIKE ANOTHER -/
theorem cpI_0 {c : Ce} {a0 a n0 n1 n : Nat} {f g : Nat → Int32} (h0 : c a0 = some (.inl (.int, n0, .inl f))) (h : c a = some (.inl (.int, n1, .inl g))) (h1 : n ≤ n0) (h2 : n ≤ n1) (hn0 : n0 < 2 ^ 31) (hn1 : n1 < 2 ^ 31) : cpI c a0 (0 : Int32) a (0 : Int32) (nI n) = some (gx_up c a (.inl (.int, n1, .inl (va_cpy f g 0 0 n)))) := cpI_c (sp := 0) (dp := 0) h0 h (by omega) (by omega) hn0 hn1
theorem cpL_0 {c : Ce} {a0 a n0 n1 n : Nat} {f g : Nat → Int64} (h0 : c a0 = some (.inl (.long, n0, .inr (.inl f)))) (h : c a = some (.inl (.long, n1, .inr (.inl g)))) (h1 : n ≤ n0) (h2 : n ≤ n1) (hn0 : n0 < 2 ^ 31) (hn1 : n1 < 2 ^ 31) : cpL c a0 (0 : Int32) a (0 : Int32) (nI n) = some (gx_up c a (.inl (.long, n1, .inr (.inl (va_cpy f g 0 0 n))))) := cpL_c (sp := 0) (dp := 0) h0 h (by omega) (by omega) hn0 hn1
theorem cpG_0 {c : Ce} {a0 a n0 n1 n : Nat} {f g : Nat → UInt32} (h0 : c a0 = some (.inl (.float, n0, .inr (.inr (.inl f))))) (h : c a = some (.inl (.float, n1, .inr (.inr (.inl g))))) (h1 : n ≤ n0) (h2 : n ≤ n1) (hn : n < 2 ^ 31) : cpG c a0 (0 : Int32) a (0 : Int32) (nI n) = some (gx_up c a (.inl (.float, n1, .inr (.inr (.inl (va_cpy f g 0 0 n)))))) := by
  unfold cpG
  rw [h0, h]
  have e0 : (0 : Int32).toNatClampNeg = 0 := rfl
  simp only [e0, nI_clamp hn, Nat.zero_add]
  rw [if_neg]
  rintro (z | z | z | z | z)
  · exact absurd z (by decide)
  · exact absurd z (by decide)
  · exact nI_pos hn z
  · omega
  · omega
theorem ini_row {ce : Ce} {nx r : Nat} (h : ce r = some (.inr (2, df_X2))) (hr : r < nx) : Ok (m_X2_init nx ce r) (fun z => z.2.2.1 = 3 ∧ z.2.2.2 = 0 ∧ RW z.2.1 r nx (nx + 1) (nx + 2) 0 [] ∧ D4 r nx (nx + 1) (nx + 2) ∧ ∀ b, b ≠ r → b < nx → z.2.1 b = ce b) := by
  have n0 : nwa (0 : Int32) = some 0 := rfl
  unfold m_X2_init
  rw [n0, bind_s]
  refine ok_adcK ?_
  rw [bind_s]
  generalize e1 : gx_up ce nx (.inl (.int, 0, .inl (fun _ => 0))) = c1
  have a1 : c1 r = some (.inr (2, df_X2)) := by rw [← e1, gu_n _ _ (by omega)]; exact h
  rw [pV_c a1 (show 0 < 4 by omega), bind_s, bind_s]
  generalize e2 : gx_up c1 r (.inr (2, df_X2.set 0 (.ref nx))) = c2
  refine ok_adcK ?_
  rw [bind_s]
  generalize e3 : gx_up c2 (nx + 1) (.inl (.int, 0, .inl (fun _ => 0))) = c3
  have a3 : c3 r = some (.inr (2, df_X2.set 0 (.ref nx))) := by rw [← e3, gu_n _ _ (by omega), ← e2, gu_e]
  rw [pV_c a3 (show 1 < 4 by omega), bind_s, bind_s]
  generalize e4 : gx_up c3 r (.inr (2, (df_X2.set 0 (.ref nx)).set 1 (.ref (nx + 1)))) = c4
  refine ok_adcK ?_
  rw [bind_s]
  generalize e5 : gx_up c4 (nx + 1 + 1) (.inl (.long, 0, .inr (.inl (fun _ => 0)))) = c5
  have a5 : c5 r = some (.inr (2, (df_X2.set 0 (.ref nx)).set 1 (.ref (nx + 1)))) := by rw [← e5, gu_n _ _ (by omega), ← e4, gu_e]
  rw [pV_c a5 (show 2 < 4 by omega), bind_s]
  generalize e6 : gx_up c5 r (.inr (2, ((df_X2.set 0 (.ref nx)).set 1 (.ref (nx + 1))).set 2 (.ref (nx + 1 + 1)))) = c6
  refine ok_some ?_
  refine ⟨rfl, rfl, ⟨fun _ => 0, fun _ => 0, fun _ => 0, ?_, ?_, ?_, ?_, Nat.le_refl _, by omega, fun q hq => absurd hq (by simp), fun i q hq => by simp at hq⟩, ?_, fun b hb hbx => ?_⟩
  · show c6 r = _
    rw [← e6, gu_e]
    rfl
  · show c6 nx = _
    rw [← e6, gu_n _ _ (by omega), ← e5, gu_n _ _ (by omega), ← e4, gu_n _ _ (by omega), ← e3, gu_n _ _ (by omega), ← e2, gu_n _ _ (by omega), ← e1, gu_e]
  · show c6 (nx + 1) = _
    rw [← e6, gu_n _ _ (by omega), ← e5, gu_n _ _ (by omega), ← e4, gu_n _ _ (by omega), ← e3, gu_e]
  · show c6 (nx + 2) = _
    rw [← e6, gu_n _ _ (by omega), ← e5, gu_e]
  · unfold D4
    omega
  · show c6 b = ce b
    rw [← e6, gu_n _ _ hb, ← e5, gu_n _ _ (by omega), ← e4, gu_n _ _ hb, ← e3, gu_n _ _ (by omega), ← e2, gu_n _ _ hb, ← e1, gu_n _ _ (by omega)]
theorem ini_ob {ce : Ce} {nx o : Nat} (h : ce o = some (.inr (4, df_X6))) (ho : o < nx) : Ok (m_X6_init nx ce o) (fun z => z.2.2.1 = 1 ∧ z.2.2.2 = 0 ∧ OB z.2.1 o nx 0 [] ∧ ∀ b, b ≠ o → b < nx → z.2.1 b = ce b) := by
  have n0 : nwa (0 : Int32) = some 0 := rfl
  unfold m_X6_init
  rw [n0, bind_s]
  refine ok_adcK ?_
  rw [bind_s]
  generalize e1 : gx_up ce nx (.inl (.int, 0, .inl (fun _ => 0))) = c1
  have a1 : c1 o = some (.inr (4, df_X6)) := by rw [← e1, gu_n _ _ (by omega)]; exact h
  rw [pV_c a1 (show 0 < 2 by omega), bind_s]
  generalize e2 : gx_up c1 o (.inr (4, df_X6.set 0 (.ref nx))) = c2
  refine ok_some ⟨rfl, rfl, ⟨fun _ => 0, ?_, ?_, Nat.le_refl _, by omega, fun q hq => absurd hq (by simp), fun i q hq => by simp at hq⟩, fun b hb hbx => ?_⟩
  · show c2 o = _
    rw [← e2, gu_e]
    rfl
  · show c2 nx = _
    rw [← e2, gu_n _ _ (by omega), ← e1, gu_e]
  · show c2 b = ce b
    rw [← e2, gu_n _ _ hb, ← e1, gu_n _ _ (by omega)]
def fl0 : Nat → UInt32 := fun k => if k = 6 then FP.fconst1 else 0
theorem ini_ac {ce : Ce} {nx a : Nat} (h : ce a = some (.inr (0, df_X0))) (ha : a < nx) : Ok (m_X0_init nx ce a) (fun z => z.2.2.1 = 1 ∧ z.2.2.2 = 6 ∧ AC z.2.1 a nx fl0 ∧ ∀ b, b ≠ a → b < nx → z.2.1 b = ce b) := by
  have n0 : nwa (6 : Int32) = some 6 := rfl
  unfold m_X0_init
  rw [n0, bind_s]
  refine ok_adcK ?_
  rw [bind_s]
  generalize e1 : gx_up ce nx (.inl (.float, 6, .inr (.inr (.inl (fun _ => 0))))) = c1
  have a1 : c1 a = some (.inr (0, df_X0)) := by rw [← e1, gu_n _ _ (by omega)]; exact h
  rw [pV_c a1 (show 0 < 2 by omega), bind_s, pV_c (gu_e _ _ _) (show 1 < 2 by omega), bind_s, gu_gu]
  generalize e2 : gx_up c1 a (.inr (0, (df_X0.set 0 (.ref nx)).set 1 (.float FP.fconst1))) = c2
  refine ok_some ⟨rfl, rfl, ⟨fun _ => 0, ?_, ?_, fun l hl => ?_⟩, fun b hb hbx => ?_⟩
  · show c2 a = _
    rw [← e2, gu_e]
    rfl
  · show c2 nx = _
    rw [← e2, gu_n _ _ (by omega), ← e1, gu_e]
  · unfold fl0
    rw [if_neg (by omega)]
  · show c2 b = ce b
    rw [← e2, gu_n _ _ hb, ← e1, gu_n _ _ (by omega)]
theorem srtN_nil : ∀ n, srtN [] n = [] := by
  intro n
  induction n with
  | zero => rfl
  | succ n ih => rw [srtN, ih]; rfl
theorem srtF_nil : srtF [] = [] := srtN_nil 128
def nums0 : Nat → Nat := fun k => if k = 4 then 1 else 0
def newA (t nx : Nat) : Nat → Nat := fun i => if i = 0 then t else nx + (i - 1)
theorem ini_ss {ce : Ce} {nx t mp : Nat} {M : Mv} (h0 : ce t = some (.inr (6, df_X8))) (ht : t < nx) (hm : MA ce (fun b => b < nx ∧ b ≠ t) mp M) : Ok (m_X8_init nx ce t mp) (fun z => z.2.2.1 = 12 ∧ z.2.2.2 = 18 ∧ SS z.2.1 (nx + 12) (newA t nx) (0, 0, 0) (M, nums0, [], [], fl0, []) ∧ gA z.2.1 6 0 t = some mp ∧ ∀ b, b ≠ t → b < nx → z.2.1 b = ce b) := by
  unfold m_X8_init
  rw [pV_c h0 (show 0 < 15 by omega), bind_s, pV_c (gu_e _ _ _) (show 4 < 15 by omega), bind_s, gu_gu, pV_c (gu_e _ _ _) (show 5 < 15 by omega), bind_s, gu_gu]
  generalize e1 : gx_up ce t (.inr (6, ((df_X8.set 0 (.ref mp)).set 4 (.int 1)).set 5 (.int 1))) = c1
  refine ok_adcK ?_
  rw [bind_s]
  generalize e2 : gx_up c1 nx (.inr (2, df_X2)) = c2
  have p2 : c2 nx = some (.inr (2, df_X2)) := by rw [← e2, gu_e]
  refine ok_adcB (ok_mono (ini_row (nx := nx + 1) p2 (by omega)) ?_)
  rintro ⟨u, d1, K1, S1⟩ ⟨k1, s1, r1, rd1, f1⟩
  have k1 : K1 = 3 := k1
  have s1 : S1 = 0 := s1
  subst k1 s1
  have f1 : ∀ b, b ≠ nx → b < nx + 1 → d1 b = c2 b := f1
  have q1 : d1 t = some (.inr (6, ((df_X8.set 0 (.ref mp)).set 4 (.int 1)).set 5 (.int 1))) := by rw [f1 t (by omega) (by omega), ← e2, gu_n _ _ (by omega), ← e1, gu_e]
  show Ok ((pV d1 6 11 t (.ref nx)).bind _) _
  rw [pV_c q1 (show 11 < 15 by omega), bind_s]
  generalize e3 : gx_up d1 t (.inr (6, (((df_X8.set 0 (.ref mp)).set 4 (.int 1)).set 5 (.int 1)).set 11 (.ref nx))) = c3
  refine ok_adcK ?_
  rw [bind_s]
  show Ok (adcB (m_X6_init (nx + 1 + 3 + 1) (gx_up c3 (nx + 1 + 3) (.inr (4, df_X6))) (nx + 1 + 3)) _) _
  generalize e4 : gx_up c3 (nx + 1 + 3) (.inr (4, df_X6)) = c4
  have p4 : c4 (nx + 1 + 3) = some (.inr (4, df_X6)) := by rw [← e4, gu_e]
  refine ok_adcB (ok_mono (ini_ob (nx := nx + 1 + 3 + 1) p4 (by omega)) ?_)
  rintro ⟨u, d2, K2, S2⟩ ⟨k2, s2, r2, f2⟩
  have k2 : K2 = 1 := k2
  have s2 : S2 = 0 := s2
  subst k2 s2
  have f2 : ∀ b, b ≠ nx + 1 + 3 → b < nx + 1 + 3 + 1 → d2 b = c4 b := f2
  have q2 : d2 t = some (.inr (6, (((df_X8.set 0 (.ref mp)).set 4 (.int 1)).set 5 (.int 1)).set 11 (.ref nx))) := by rw [f2 t (by omega) (by omega), ← e4, gu_n _ _ (by omega), ← e3, gu_e]
  show Ok ((pV d2 6 12 t (.ref (nx + 1 + 3))).bind _) _
  rw [pV_c q2 (show 12 < 15 by omega), bind_s]
  generalize e5 : gx_up d2 t (.inr (6, ((((df_X8.set 0 (.ref mp)).set 4 (.int 1)).set 5 (.int 1)).set 11 (.ref nx)).set 12 (.ref (nx + 1 + 3)))) = c5
  refine ok_adcK ?_
  rw [bind_s]
  show Ok (adcB (m_X0_init (nx + 1 + 3 + 1 + 1 + 1) (gx_up c5 (nx + 1 + 3 + 1 + 1) (.inr (0, df_X0))) (nx + 1 + 3 + 1 + 1)) _) _
  generalize e6 : gx_up c5 (nx + 1 + 3 + 1 + 1) (.inr (0, df_X0)) = c6
  have p6 : c6 (nx + 1 + 3 + 1 + 1) = some (.inr (0, df_X0)) := by rw [← e6, gu_e]
  refine ok_adcB (ok_mono (ini_ac (nx := nx + 1 + 3 + 1 + 1 + 1) p6 (by omega)) ?_)
  rintro ⟨u, d3, K3, S3⟩ ⟨k3, s3, r3, f3⟩
  have k3 : K3 = 1 := k3
  have s3 : S3 = 6 := s3
  subst k3 s3
  have f3 : ∀ b, b ≠ nx + 1 + 3 + 1 + 1 → b < nx + 1 + 3 + 1 + 1 + 1 → d3 b = c6 b := f3
  have q3 : d3 t = some (.inr (6, ((((df_X8.set 0 (.ref mp)).set 4 (.int 1)).set 5 (.int 1)).set 11 (.ref nx)).set 12 (.ref (nx + 1 + 3)))) := by rw [f3 t (by omega) (by omega), ← e6, gu_n _ _ (by omega), ← e5, gu_e]
  show Ok ((pV d3 6 13 t (.ref (nx + 1 + 3 + 1 + 1))).bind _) _
  rw [pV_c q3 (show 13 < 15 by omega), bind_s]
  generalize e7 : gx_up d3 t (.inr (6, (((((df_X8.set 0 (.ref mp)).set 4 (.int 1)).set 5 (.int 1)).set 11 (.ref nx)).set 12 (.ref (nx + 1 + 3))).set 13 (.ref (nx + 1 + 3 + 1 + 1)))) = c7
  refine ok_adcK ?_
  rw [bind_s]
  show Ok (adcB (m_X2_init (nx + 1 + 3 + 1 + 1 + 1 + 1 + 1) (gx_up c7 (nx + 1 + 3 + 1 + 1 + 1 + 1) (.inr (2, df_X2))) (nx + 1 + 3 + 1 + 1 + 1 + 1)) _) _
  generalize e8 : gx_up c7 (nx + 1 + 3 + 1 + 1 + 1 + 1) (.inr (2, df_X2)) = c8
  have p8 : c8 (nx + 1 + 3 + 1 + 1 + 1 + 1) = some (.inr (2, df_X2)) := by rw [← e8, gu_e]
  refine ok_adcB (ok_mono (ini_row (nx := nx + 1 + 3 + 1 + 1 + 1 + 1 + 1) p8 (by omega)) ?_)
  rintro ⟨u, d4, K4, S4⟩ ⟨k4, s4, r4, rd4, f4⟩
  have k4 : K4 = 3 := k4
  have s4 : S4 = 0 := s4
  subst k4 s4
  have f4 : ∀ b, b ≠ nx + 1 + 3 + 1 + 1 + 1 + 1 → b < nx + 1 + 3 + 1 + 1 + 1 + 1 + 1 → d4 b = c8 b := f4
  have q4 : d4 t = some (.inr (6, (((((df_X8.set 0 (.ref mp)).set 4 (.int 1)).set 5 (.int 1)).set 11 (.ref nx)).set 12 (.ref (nx + 1 + 3))).set 13 (.ref (nx + 1 + 3 + 1 + 1)))) := by rw [f4 t (by omega) (by omega), ← e8, gu_n _ _ (by omega), ← e7, gu_e]
  show Ok ((pV d4 6 14 t (.ref (nx + 1 + 3 + 1 + 1 + 1 + 1))).bind _) _
  rw [pV_c q4 (show 14 < 15 by omega), bind_s]
  generalize e9 : gx_up d4 t (.inr (6, ((((((df_X8.set 0 (.ref mp)).set 4 (.int 1)).set 5 (.int 1)).set 11 (.ref nx)).set 12 (.ref (nx + 1 + 3))).set 13 (.ref (nx + 1 + 3 + 1 + 1))).set 14 (.ref (nx + 1 + 3 + 1 + 1 + 1 + 1)))) = c9
  have g9 : ∀ b, b ≠ t → c9 b = d4 b := fun b hb => by rw [← e9, gu_n _ _ hb]
  have g8 : ∀ b, b ≠ t → b < nx + 8 → c9 b = d3 b := fun b hb hx => by rw [g9 b hb, f4 b (by omega) (by omega), ← e8, gu_n _ _ (by omega), ← e7, gu_n _ _ hb]
  have g6 : ∀ b, b ≠ t → b < nx + 6 → c9 b = d2 b := fun b hb hx => by rw [g8 b hb (by omega), f3 b (by omega) (by omega), ← e6, gu_n _ _ (by omega), ← e5, gu_n _ _ hb]
  have g4 : ∀ b, b ≠ t → b < nx + 4 → c9 b = d1 b := fun b hb hx => by rw [g6 b hb (by omega), f2 b (by omega) (by omega), ← e4, gu_n _ _ (by omega), ← e3, gu_n _ _ hb]
  have g0 : ∀ b, b ≠ t → b < nx → c9 b = ce b := fun b hb hx => by rw [g4 b hb (by omega), f1 b (by omega) (by omega), ← e2, gu_n _ _ (by omega), ← e1, gu_n _ _ hb]
  have gt : c9 t = some (.inr (6, Sob (newA t nx) mp nums0 1)) := by
    rw [← e9, gu_e]
    rfl
  refine ok_some ⟨rfl, rfl, ⟨mp, 1, gt, fun z => ?_, [], ?_, ?_, ⟨List.Perm.refl _, List.Pairwise.nil⟩, ?_, ?_, ?_, fun i hi => ?_, fun i hi j hj hij => ?_⟩, gA_c gt rfl, g0⟩
  · have z : nums0 5 = 2 ∨ nums0 5 = 3 := z
    have : nums0 5 = 0 := rfl
    omega
  · show RW c9 nx (nx + 1) (nx + 1 + 1) (nx + 1 + 2) 0 (srtF [])
    rw [srtF_nil]
    exact RW_congr (g4 nx (by omega) (by omega)) (g4 (nx + 1) (by omega) (by omega)) (g4 (nx + 1 + 1) (by omega) (by omega)) (g4 (nx + 1 + 2) (by omega) (by omega)) r1
  · exact OB_congr (g6 (nx + 1 + 3) (by omega) (by omega)) (g6 (nx + 1 + 3 + 1) (by omega) (by omega)) r2
  · exact AC_congr (g8 (nx + 1 + 3 + 1 + 1) (by omega) (by omega)) (g8 (nx + 1 + 3 + 1 + 1 + 1) (by omega) (by omega)) r3
  · exact RW_congr (g9 (nx + 1 + 3 + 1 + 1 + 1 + 1) (by omega)) (g9 (nx + 1 + 3 + 1 + 1 + 1 + 1 + 1) (by omega)) (g9 (nx + 1 + 3 + 1 + 1 + 1 + 1 + 1 + 1) (by omega)) (g9 (nx + 1 + 3 + 1 + 1 + 1 + 1 + 1 + 2) (by omega)) r4
  · refine MA_congr (fun b hb => g0 b hb.2 hb.1) (fun b hb => ⟨by have := hb.1; omega, fun i hi => ?_⟩) hm
    have h1 := hb.1
    have h2 := hb.2
    unfold newA
    by_cases e : i = 0
    · rw [if_pos e]; exact h2
    · rw [if_neg e]; omega
  · unfold newA
    by_cases e : i = 0
    · rw [if_pos e]; omega
    · rw [if_neg e]; omega
  · unfold newA
    by_cases e : i = 0
    · by_cases e2 : j = 0
      · omega
      · rw [if_pos e, if_neg e2]; omega
    · by_cases e2 : j = 0
      · rw [if_neg e, if_pos e2]; omega
      · rw [if_neg e, if_neg e2]; omega
/-! one row made like another -/
theorem cw_become {ce : Ce} {nx r f g s cap : Nat} {l : List Cu} (h : RW ce r f g s cap l) (hx : r < nx ∧ f < nx ∧ g < nx ∧ s < nx) (hd : D4 r f g s) {r' f' g' s' cap' : Nat} {l' : List Cu} (h' : RW ce r' f' g' s' cap' l') (hx' : r' < nx ∧ f' < nx ∧ g' < nx ∧ s' < nx) (hr : ∀ b, (b = r' ∨ b = f' ∨ b = g' ∨ b = s') → b ≠ r ∧ b ≠ f ∧ b ≠ g ∧ b ≠ s) : Ok (m_X2_become nx ce r r') (fun z => RowG ce nx r f g s l' z.2.1 z.2.2.1 (if l'.length ≤ cap then cap else l'.length) ∧ (if l'.length ≤ cap then z.2.2.1 = 0 ∧ z.2.2.2 = 0 else z.2.2.1 = 3 ∧ z.2.2.2 = 3 * l'.length)) := by
  obtain ⟨F', C', S', h1', h2', h3', h4', h5', h6', h7', h8'⟩ := h'
  have hcap : l.length ≤ cap ∧ cap < 10000 := by
    obtain ⟨F, C, S, h1, h2, h3, h4, h5, h6, h7, h8⟩ := h
    exact ⟨h5, h6⟩
  unfold m_X2_become
  rw [gI_c (k := 3) h1' rfl, bind_s, cw_rcv h, bind_s]
  refine ok_adcB ?_
  refine ok_mono (P := fun z => ∃ f2 g2 s2 cap2, RW z.2.1 r f2 g2 s2 cap2 l ∧ l'.length ≤ cap2 ∧ D4 r f2 g2 s2 ∧ cap2 = (if l'.length ≤ cap then cap else l'.length) ∧ ((f2 = f ∧ g2 = g ∧ s2 = s ∧ z.2.2.1 = 0) ∨ (f2 = nx ∧ g2 = nx + 1 ∧ s2 = nx + 2 ∧ z.2.2.1 = 3)) ∧ (if l'.length ≤ cap then z.2.2.1 = 0 ∧ z.2.2.2 = 0 else z.2.2.1 = 3 ∧ z.2.2.2 = 3 * l'.length) ∧ (∀ b, b ≠ r → b < nx → z.2.1 b = ce b)) ?_ ?_
  · have hfg : gA ce 2 0 r = some f ∧ alen ce f = some (nI cap) := by
      obtain ⟨F, C, S, h1, h2, h3, h4, h5, h6, h7, h8⟩ := h
      exact ⟨gA_c h1 rfl, alen_I h2⟩
    by_cases hlc : l'.length ≤ cap
    · unfold m_X2_makeRoom
      rw [hfg.1, bind_s, hfg.2, bind_s, if_le (by omega) (by omega), if_pos hlc]
      refine ok_some ⟨f, g, s, cap, h, hlc, hd, ?_, Or.inl ⟨rfl, rfl, rfl, rfl⟩, ?_, fun _ _ _ => rfl⟩
      · rw [if_pos hlc]
      · rw [if_pos hlc]
        exact ⟨rfl, rfl⟩
    · refine ok_mono (cw_room h hx hd (N := l'.length) (by omega) (by omega)) ?_
      rintro ⟨u, d, K, S⟩ ⟨z1, z2, z3, z4⟩
      refine ⟨nx, nx + 1, nx + 2, l'.length, z1, Nat.le_refl _, ?_, ?_, Or.inr ⟨rfl, rfl, rfl, z2⟩, ?_, z4⟩
      · unfold D4
        omega
      · rw [if_neg hlc]
      · rw [if_neg hlc]
        exact ⟨z2, z3⟩
  · rintro ⟨u, d, K, S0⟩ ⟨f2, g2, s2, cap2, hR, hlt, hd2, hc2, hcs, hco, hfr⟩
    have hcs : (f2 = f ∧ g2 = g ∧ s2 = s ∧ K = 0) ∨ (f2 = nx ∧ g2 = nx + 1 ∧ s2 = nx + 2 ∧ K = 3) := hcs
    have hfr : ∀ b, b ≠ r → b < nx → d b = ce b := hfr
    have hco : if l'.length ≤ cap then K = 0 ∧ S0 = 0 else K = 3 ∧ S0 = 3 * l'.length := hco
    have o1 := hr r' (Or.inl rfl)
    have o2 := hr f' (Or.inr (Or.inl rfl))
    have o3 := hr g' (Or.inr (Or.inr (Or.inl rfl)))
    have o4 := hr s' (Or.inr (Or.inr (Or.inr rfl)))
    have out : ∀ b, b < nx → b ≠ f → b ≠ g → b ≠ s → b ≠ f2 ∧ b ≠ g2 ∧ b ≠ s2 := by
      intro b hb j1 j2 j3
      rcases hcs with ⟨z1, z2, z3, _⟩ | ⟨z1, z2, z3, _⟩
      · rw [z1, z2, z3]
        exact ⟨j1, j2, j3⟩
      · rw [z1, z2, z3]
        exact ⟨Nat.ne_of_lt hb, Nat.ne_of_lt (Nat.lt_succ_of_lt hb), Nat.ne_of_lt (Nat.lt_of_lt_of_le hb (Nat.le_add_right _ _))⟩
    obtain ⟨F, C, S, h1, h2, h3, h4, h5, h6, h7, h8⟩ := hR
    have h1 : d r = some (.inr (2, [.ref f2, .ref g2, .ref s2, .int (nI l.length)])) := h1
    have hself := cr_self h1 h2 h3 h4
    have R1 : ∀ F C S z, cr d r f2 g2 s2 cap2 F C S z r' = some (.inr (2, [.ref f', .ref g', .ref s', .int (nI l'.length)])) := fun F C S z => by
      rw [cr_o _ _ _ _ _ _ ⟨o1.1, out r' hx'.1 o1.2.1 o1.2.2.1 o1.2.2.2⟩, hfr r' o1.1 hx'.1]
      exact h1'
    have R2 : ∀ F C S z, cr d r f2 g2 s2 cap2 F C S z f' = some (.inl (.int, cap', .inl F')) := fun F C S z => by
      rw [cr_o _ _ _ _ _ _ ⟨o2.1, out f' hx'.2.1 o2.2.1 o2.2.2.1 o2.2.2.2⟩, hfr f' o2.1 hx'.2.1]
      exact h2'
    have R3 : ∀ F C S z, cr d r f2 g2 s2 cap2 F C S z g' = some (.inl (.int, cap', .inl C')) := fun F C S z => by
      rw [cr_o _ _ _ _ _ _ ⟨o3.1, out g' hx'.2.2.1 o3.2.1 o3.2.2.1 o3.2.2.2⟩, hfr g' o3.1 hx'.2.2.1]
      exact h3'
    have R4 : ∀ F C S z, cr d r f2 g2 s2 cap2 F C S z s' = some (.inl (.long, cap', .inr (.inl S'))) := fun F C S z => by
      rw [cr_o _ _ _ _ _ _ ⟨o4.1, out s' hx'.2.2.2 o4.2.1 o4.2.2.1 o4.2.2.2⟩, hfr s' o4.1 hx'.2.2.2]
      exact h4'
    show Ok ((gA d 2 0 r').bind _) _
    rw [← hself]
    simp only [gA_c (k := 0) (R1 _ _ _ _) rfl, gA_c (k := 0) (cr_r _ _ _ _ _ _ _ _ _ _) rfl, gI_c (k := 3) (R1 _ _ _ _) rfl, bind_s]
    rw [cpI_0 (R2 _ _ _ _) (cr_f d hd2 cap2 F C S l.length) h5' hlt (by omega) (by omega), bind_s, cr_uf d hd2]
    simp only [gA_c (k := 1) (R1 _ _ _ _) rfl, gA_c (k := 1) (cr_r _ _ _ _ _ _ _ _ _ _) rfl, gI_c (k := 3) (R1 _ _ _ _) rfl, bind_s]
    rw [cpI_0 (R3 _ _ _ _) (cr_g d hd2 cap2 _ C S l.length) h5' hlt (by omega) (by omega), bind_s, cr_ug d hd2]
    simp only [gA_c (k := 2) (R1 _ _ _ _) rfl, gA_c (k := 2) (cr_r _ _ _ _ _ _ _ _ _ _) rfl, gI_c (k := 3) (R1 _ _ _ _) rfl, bind_s]
    rw [cpL_0 (R4 _ _ _ _) (cr_s d hd2 cap2 _ _ S l.length) h5' hlt (by omega) (by omega), bind_s, cr_us d hd2]
    simp only [gI_c (k := 3) (R1 _ _ _ _) rfl, bind_s]
    rw [pV_c (cr_r _ _ _ _ _ _ _ _ _ _) (show 3 < 4 by omega), bind_s]
    have es : List.set [Value.ref f2, .ref g2, .ref s2, .int (nI l.length)] 3 (.int (nI l'.length)) = [.ref f2, .ref g2, .ref s2, .int (nI l'.length)] := rfl
    rw [es, cr_ur]
    refine ok_some ⟨⟨f2, g2, s2, ⟨va_cpy F' F 0 0 l'.length, va_cpy C' C 0 0 l'.length, va_cpy S' S 0 0 l'.length, cr_r _ _ _ _ _ _ _ _ _ _, ?_, ?_, ?_, ?_, ?_, h7', ?_⟩, hd2, ?_, fun b hb1 hb2 hb3 hb4 hbx => ?_⟩, ?_⟩
    · rw [← hc2]
      exact cr_f _ hd2 _ _ _ _ _
    · rw [← hc2]
      exact cr_g _ hd2 _ _ _ _ _
    · rw [← hc2]
      exact cr_s _ hd2 _ _ _ _ _
    · rw [← hc2]
      exact hlt
    · rw [← hc2]
      exact h6
    · intro i q hq
      have hi : i < l'.length := (List.getElem?_eq_some_iff.mp hq).1
      rw [pk_cpy_in (by omega) (by omega), pk_cpy_in (by omega) (by omega), pk_cpy_in (by omega) (by omega)]
      have := h8' i q hq
      simpa using this
    · show (f2 = f ∧ g2 = g ∧ s2 = s ∧ 0 + K = 0) ∨ (f2 = nx ∧ g2 = nx + 1 ∧ s2 = nx + 2 ∧ 0 + K = 3)
      rw [Nat.zero_add]
      exact hcs
    · show cr d r f2 g2 s2 cap2 _ _ _ _ b = ce b
      have := out b hbx hb2 hb3 hb4
      rw [cr_o _ _ _ _ _ _ ⟨hb1, this⟩]
      exact hfr b hb1 hbx
    · show if l'.length ≤ cap then 0 + K = 0 ∧ 0 + S0 = 0 else 0 + K = 3 ∧ 0 + S0 = 3 * l'.length
      rw [Nat.zero_add, Nat.zero_add]
      exact hco
theorem co_become {ce : Ce} {nx o p cap : Nat} {lc : List Ln} (h : OB ce o p cap lc) (hx : o < nx ∧ p < nx) (hd : o ≠ p) {o' p' cap' : Nat} {lc' : List Ln} (h' : OB ce o' p' cap' lc') (hx' : o' < nx ∧ p' < nx) (hr : o' ≠ o ∧ o' ≠ p ∧ p' ≠ o ∧ p' ≠ p) (hl' : lc'.length ≤ 80) : Ok (m_X6_become nx ce o o') (fun z => OboG ce nx o p lc' z.2.1 z.2.2.1 (if 4 * lc'.length ≤ cap then cap else 4 * lc'.length) ∧ (if 4 * lc'.length ≤ cap then z.2.2.1 = 0 ∧ z.2.2.2 = 0 else z.2.2.1 = 1 ∧ z.2.2.2 = 4 * lc'.length)) := by
  obtain ⟨P', h1', h2', h3', h4', h5', h6'⟩ := h'
  obtain ⟨P, h1, h2, h3, h4, h5, h6⟩ := h
  have e4 : nI lc'.length * 4 = nI (4 * lc'.length) := by
    rw [nl_4, pk_mul]
    exact congrArg nI (by omega)
  unfold m_X6_become
  rw [gI_c (k := 1) h1' rfl, bind_s, rcv_c h1, bind_s]
  refine ok_adcB ?_
  refine ok_mono (P := fun z => ∃ p2 cap2 P2, z.2.1 o = some (.inr (4, [.ref p2, .int (nI lc.length)])) ∧ z.2.1 p2 = some (.inl (.int, cap2, .inl P2)) ∧ 4 * lc'.length ≤ cap2 ∧ cap2 < 1000 ∧ o ≠ p2 ∧ p2 ≠ o' ∧ p2 ≠ p' ∧ cap2 = (if 4 * lc'.length ≤ cap then cap else 4 * lc'.length) ∧ ((p2 = p ∧ z.2.2.1 = 0) ∨ (p2 = nx ∧ z.2.2.1 = 1)) ∧ (if 4 * lc'.length ≤ cap then z.2.2.1 = 0 ∧ z.2.2.2 = 0 else z.2.2.1 = 1 ∧ z.2.2.2 = 4 * lc'.length) ∧ (∀ b, b ≠ o → b < nx → z.2.1 b = ce b)) ?_ ?_
  · unfold m_X6_makeRoom
    rw [gA_c (k := 0) h1 rfl, bind_s, alen_I h2, bind_s, e4, if_le (by omega) (by omega)]
    by_cases hlc : 4 * lc'.length ≤ cap
    · rw [if_pos hlc]
      refine ok_some ⟨p, cap, P, h1, h2, hlc, h4, hd, fun e => hr.2.1 e.symm, fun e => hr.2.2.2 e.symm, ?_, Or.inl ⟨rfl, rfl⟩, ?_, fun _ _ _ => rfl⟩
      · rw [if_pos hlc]
      · rw [if_pos hlc]
        exact ⟨rfl, rfl⟩
    · rw [if_neg hlc, bind_s]
      refine ok_adcB ?_
      rw [cc_copyI h2 (by omega) (show cap < 4 * lc'.length by omega) (by omega)]
      refine ok_some ?_
      generalize e7 : gx_up ce nx (.inl (.int, 4 * lc'.length, .inl (va_cpy P (fun _ => 0) 0 0 cap))) = c1
      have a1 : c1 o = some (.inr (4, [.ref p, .int (nI lc.length)])) := by rw [← e7, gu_n _ _ (by omega)]; exact h1
      show Ok ((pV c1 4 0 o (.ref nx)).bind _) _
      rw [pV_c a1 (show 0 < 2 by omega), bind_s]
      generalize e8 : gx_up c1 o (.inr (4, List.set [.ref p, .int (nI lc.length)] 0 (.ref nx))) = c2
      refine ok_some ⟨nx, 4 * lc'.length, va_cpy P (fun _ => 0) 0 0 cap, ?_, ?_, Nat.le_refl _, by omega, by omega, by omega, by omega, ?_, Or.inr ⟨rfl, rfl⟩, ?_, fun b hb hbx => ?_⟩
      · show c2 o = _
        rw [← e8, gu_e]
        rfl
      · show c2 nx = _
        rw [← e8, gu_n _ _ (by omega), ← e7, gu_e]
      · rw [if_neg hlc]
      · rw [if_neg hlc]
        refine ⟨rfl, ?_⟩
        show 0 + 4 * lc'.length = _
        omega
      · show c2 b = ce b
        rw [← e8, gu_n _ _ hb, ← e7, gu_n _ _ (by omega)]
  · rintro ⟨u, d, K, S0⟩ ⟨p2, cap2, P2, y1, y2, y3, y4, y5, y6, y7, hc2, hcs, hco, hfr⟩
    have hcs : (p2 = p ∧ K = 0) ∨ (p2 = nx ∧ K = 1) := hcs
    have hfr : ∀ b, b ≠ o → b < nx → d b = ce b := hfr
    have hco : if 4 * lc'.length ≤ cap then K = 0 ∧ S0 = 0 else K = 1 ∧ S0 = 4 * lc'.length := hco
    have y1 : d o = some (.inr (4, [.ref p2, .int (nI lc.length)])) := y1
    have y2 : d p2 = some (.inl (.int, cap2, .inl P2)) := y2
    have q1 : d o' = some (.inr (4, [.ref p', .int (nI lc'.length)])) := by rw [hfr o' hr.1 hx'.1]; exact h1'
    have q2 : d p' = some (.inl (.int, cap', .inl P')) := by rw [hfr p' hr.2.2.1 hx'.2]; exact h2'
    show Ok ((gA d 4 0 o').bind _) _
    rw [gA_c (k := 0) q1 rfl, bind_s]
    show Ok ((gA d 4 0 o).bind _) _
    rw [gA_c (k := 0) y1 rfl, bind_s]
    show Ok ((gI d 4 1 o').bind _) _
    rw [gI_c (k := 1) q1 rfl, bind_s, e4]
    show Ok ((cpI d p' 0 p2 0 (nI (4 * lc'.length))).bind _) _
    rw [cpI_0 q2 y2 h3' y3 (by omega) (by omega), bind_s]
    generalize e9 : gx_up d p2 (.inl (.int, cap2, .inl (va_cpy P' P2 0 0 (4 * lc'.length)))) = c3
    have q3 : c3 o' = some (.inr (4, [.ref p', .int (nI lc'.length)])) := by rw [← e9, gu_n _ _ (fun e => y6 e.symm)]; exact q1
    have q4 : c3 o = some (.inr (4, [.ref p2, .int (nI lc.length)])) := by rw [← e9, gu_n _ _ y5]; exact y1
    rw [gI_c (k := 1) q3 rfl, bind_s, pV_c q4 (show 1 < 2 by omega), bind_s]
    generalize e10 : gx_up c3 o (.inr (4, List.set [.ref p2, .int (nI lc.length)] 1 (.int (nI lc'.length)))) = c4
    refine ok_some ⟨⟨p2, ⟨va_cpy P' P2 0 0 (4 * lc'.length), ?_, ?_, ?_, ?_, h5', ?_⟩, y5, ?_, fun b hb1 hb2 hbx => ?_⟩, ?_⟩
    · show c4 o = _
      rw [← e10, gu_e]
      rfl
    · show c4 p2 = _
      rw [← e10, gu_n _ _ (fun e => y5 e.symm), ← e9, gu_e, hc2]
    · rw [← hc2]; exact y3
    · rw [← hc2]; exact y4
    · intro i q hq
      have hi : i < lc'.length := (List.getElem?_eq_some_iff.mp hq).1
      rw [pk_cpy_in (by omega) (by omega), pk_cpy_in (by omega) (by omega), pk_cpy_in (by omega) (by omega), pk_cpy_in (by omega) (by omega)]
      have := h6' i q hq
      simpa using this
    · show (p2 = p ∧ 0 + K = 0) ∨ (p2 = nx ∧ 0 + K = 1)
      rw [Nat.zero_add]
      exact hcs
    · show c4 b = ce b
      rw [← e10, gu_n _ _ hb1, ← e9, gu_n _ _ (by omega)]
      exact hfr b hb1 hbx
    · show if 4 * lc'.length ≤ cap then 0 + K = 0 ∧ 0 + S0 = 0 else 0 + K = 1 ∧ 0 + S0 = 4 * lc'.length
      rw [Nat.zero_add, Nat.zero_add]
      exact hco
theorem ca_become {ce : Ce} {a v : Nat} {fl : Nat → UInt32} (h : AC ce a v fl) (hd : a ≠ v) {a' v' : Nat} {fl' : Nat → UInt32} (h' : AC ce a' v' fl') (hr : a' ≠ a ∧ a' ≠ v ∧ v' ≠ a ∧ v' ≠ v) : Ok (m_X0_become ce a a') (fun z => AC z.2 a v fl' ∧ ∀ b, b ≠ a → b ≠ v → z.2 b = ce b) := by
  obtain ⟨G, h1, h2, h3⟩ := h
  obtain ⟨G', h1', h2', h3'⟩ := h'
  unfold m_X0_become
  have e6 : alen ce v = some (nI 6) := alen_G h2
  rw [gA_c (k := 0) h1' rfl, bind_s, gA_c (k := 0) h1 rfl, bind_s, bind_s, e6, bind_s, cpG_0 h2' h2 (by omega) (by omega) (by omega), bind_s]
  generalize e1 : gx_up ce v (.inl (.float, 6, .inr (.inr (.inl (va_cpy G' G 0 0 6))))) = c1
  have q1 : c1 a' = some (.inr (0, [.ref v', .float (fl' 6)])) := by rw [← e1, gu_n _ _ hr.2.1]; exact h1'
  have q2 : c1 a = some (.inr (0, [.ref v, .float (fl 6)])) := by rw [← e1, gu_n _ _ hd]; exact h1
  rw [gF_c (k := 1) q1 rfl, bind_s, pV_c q2 (show 1 < 2 by omega), bind_s]
  generalize e2 : gx_up c1 a (.inr (0, List.set [.ref v, .float (fl 6)] 1 (.float (fl' 6)))) = c2
  refine ok_some ⟨⟨va_cpy G' G 0 0 6, ?_, ?_, fun l hl => ?_⟩, fun b hb1 hb2 => ?_⟩
  · show c2 a = _
    rw [← e2, gu_e]
    rfl
  · show c2 v = _
    rw [← e2, gu_n _ _ (fun e => hd e.symm), ← e1, gu_e]
  · rw [pk_cpy_in (by omega) (by omega)]
    have := h3' l hl
    simpa using this
  · show c2 b = ce b
    rw [← e2, gu_n _ _ hb1, ← e1, gu_n _ _ hb2]
