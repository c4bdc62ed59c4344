/-! THE BEGINNING: the class's constructors -/
theorem al_r (ce : Ce) (a : Nat) (e : PE) : ∃ d, gx_up ce a e = d ∧ d a = some e ∧ ∀ b, b ≠ a → d b = ce b := ⟨_, rfl, gu_e _ _ _, fun b hb => gu_n _ _ hb⟩
theorem newA_at (t i : Nat) : newA t (t + 1) i = t + i := by
  unfold newA
  by_cases e : i = 0
  · rw [if_pos e]
    omega
  · rw [if_neg e]
    omega
theorem nums0_b : nums0 = begN 0 := by
  funext k
  unfold nums0 begN
  by_cases e : k = 4
  · rw [if_pos e, if_pos e]
  · rw [if_neg e, if_neg e]
    by_cases f : k = 15
    · rw [if_pos f]
    · rw [if_neg f]
theorem Rdr_fr {ce d : Ce} {rd ka va pa al nl : Nat} (h : Rdr ce rd ka va pa al nl) (h1 : d rd = ce rd) (h2 : d ka = ce ka) (h3 : d va = ce va) (h4 : d pa = ce pa) (h5 : d al = ce al) (h6 : d nl = ce nl) : Rdr d rd ka va pa al nl := by
  obtain ⟨⟨c, now, flt, fp, L, ini, i0, nb, nt, inp, r1⟩, ⟨Fk, r2⟩, ⟨Fv, r3⟩, ⟨Fp, r4⟩, ⟨G0, r5⟩, ⟨H0, r6⟩⟩ := h
  exact ⟨⟨c, now, flt, fp, L, ini, i0, nb, nt, inp, h1.trans r1⟩, ⟨Fk, h2.trans r2⟩, ⟨Fv, h3.trans r3⟩, ⟨Fp, h4.trans r4⟩, ⟨G0, h5.trans r5⟩, ⟨H0, h6.trans r6⟩⟩
theorem ini_rd {ce : Ce} {nx r : Nat} (h : ce r = some (.inr (5, df_X7))) (hr : r < nx) : Ok (m_X7_init nx ce r) (fun z => z.2.2.1 = 5 ∧ z.2.2.2 = 931 ∧ Rdr z.2.1 r nx (nx + 1) (nx + 2) (nx + 3) (nx + 4) ∧ ∀ b, b ≠ r → b < nx → z.2.1 b = ce b) := by
  have n4 : nwa (4 : Int32) = some 4 := nwa_n (n := 4) (by omega)
  have n24 : nwa (24 : Int32) = some 24 := nwa_n (n := 24) (by omega)
  have n301 : nwa (301 : Int32) = some 301 := nwa_n (n := 301) (by omega)
  unfold m_X7_init
  rw [n301, bind_s]
  refine ok_adcK ?_
  rw [bind_s]
  obtain ⟨c0, e0, x0, y0⟩ := al_r ce (nx) (.inl (.int, 301, .inl (fun _ => 0)))
  rw [e0]
  obtain ⟨d0, p0, q0, r0⟩ := pv_r (k := 0) (v := .ref (nx)) [.ref (nx), .null, .null, .int 0, .int 0, .int 0, .int 0, .int 0, .int 0, .long 0, .int 0, .null, .int 0, .null, .int 0] ((y0 r (by omega)).trans h) (Nat.le_of_ble_eq_true rfl) rfl
  rw [p0, bind_s]
  have f0 : ∀ b, b ≠ r → b ≠ nx → d0 b = ce b := fun b h1 h2 => (r0 b h1).trans (y0 b h2)
  rw [bind_s]
  refine ok_adcK ?_
  rw [bind_s]
  obtain ⟨c1, e1, x1, y1⟩ := al_r d0 (nx + 1) (.inl (.int, 301, .inl (fun _ => 0)))
  rw [e1]
  obtain ⟨d1, p1, q1, r1⟩ := pv_r (k := 1) (v := .ref (nx + 1)) [.ref (nx), .ref (nx + 1), .null, .int 0, .int 0, .int 0, .int 0, .int 0, .int 0, .long 0, .int 0, .null, .int 0, .null, .int 0] ((y1 r (by omega)).trans q0) (Nat.le_of_ble_eq_true rfl) rfl
  rw [p1, bind_s]
  have f1 : ∀ b, b ≠ r → b ≠ nx + 1 → d1 b = d0 b := fun b h1 h2 => (r1 b h1).trans (y1 b h2)
  rw [bind_s]
  refine ok_adcK ?_
  rw [bind_s]
  obtain ⟨c2, e2, x2, y2⟩ := al_r d1 (nx + 1 + 1) (.inl (.int, 301, .inl (fun _ => 0)))
  rw [e2]
  obtain ⟨d2, p2, q2, r2⟩ := pv_r (k := 2) (v := .ref (nx + 1 + 1)) [.ref (nx), .ref (nx + 1), .ref (nx + 1 + 1), .int 0, .int 0, .int 0, .int 0, .int 0, .int 0, .long 0, .int 0, .null, .int 0, .null, .int 0] ((y2 r (by omega)).trans q1) (Nat.le_of_ble_eq_true rfl) rfl
  rw [p2, bind_s]
  have f2 : ∀ b, b ≠ r → b ≠ nx + 1 + 1 → d2 b = d1 b := fun b h1 h2 => (r2 b h1).trans (y2 b h2)
  rw [n4, bind_s]
  refine ok_adcK ?_
  rw [bind_s]
  obtain ⟨c3, e3, x3, y3⟩ := al_r d2 (nx + 1 + 1 + 1) (.inl (.long, 4, .inr (.inl (fun _ => 0))))
  rw [e3]
  obtain ⟨d3, p3, q3, r3⟩ := pv_r (k := 11) (v := .ref (nx + 1 + 1 + 1)) [.ref (nx), .ref (nx + 1), .ref (nx + 1 + 1), .int 0, .int 0, .int 0, .int 0, .int 0, .int 0, .long 0, .int 0, .ref (nx + 1 + 1 + 1), .int 0, .null, .int 0] ((y3 r (by omega)).trans q2) (Nat.le_of_ble_eq_true rfl) rfl
  rw [p3, bind_s]
  have f3 : ∀ b, b ≠ r → b ≠ nx + 1 + 1 + 1 → d3 b = d2 b := fun b h1 h2 => (r3 b h1).trans (y3 b h2)
  rw [n24, bind_s]
  refine ok_adcK ?_
  rw [bind_s]
  obtain ⟨c4, e4, x4, y4⟩ := al_r d3 (nx + 1 + 1 + 1 + 1) (.inl (.long, 24, .inr (.inl (fun _ => 0))))
  rw [e4]
  obtain ⟨d4, p4, q4, r4⟩ := pv_r (k := 13) (v := .ref (nx + 1 + 1 + 1 + 1)) [.ref (nx), .ref (nx + 1), .ref (nx + 1 + 1), .int 0, .int 0, .int 0, .int 0, .int 0, .int 0, .long 0, .int 0, .ref (nx + 1 + 1 + 1), .int 0, .ref (nx + 1 + 1 + 1 + 1), .int 0] ((y4 r (by omega)).trans q3) (Nat.le_of_ble_eq_true rfl) rfl
  rw [p4, bind_s]
  have f4 : ∀ b, b ≠ r → b ≠ nx + 1 + 1 + 1 + 1 → d4 b = d3 b := fun b h1 h2 => (r4 b h1).trans (y4 b h2)
  refine ok_some ⟨rfl, rfl, ⟨⟨0, 0, 0, 0, 0, 0, 0, 0, 0, 0, q4⟩, ⟨_, ((f4 _ (by omega) (by omega)).trans ((f3 _ (by omega) (by omega)).trans ((f2 _ (by omega) (by omega)).trans ((f1 _ (by omega) (by omega)).trans ((r0 _ (by omega)).trans x0)))))⟩, ⟨_, ((f4 _ (by omega) (by omega)).trans ((f3 _ (by omega) (by omega)).trans ((f2 _ (by omega) (by omega)).trans ((r1 _ (by omega)).trans x1))))⟩, ⟨_, ((f4 _ (by omega) (by omega)).trans ((f3 _ (by omega) (by omega)).trans ((r2 _ (by omega)).trans x2)))⟩, ⟨_, ((f4 _ (by omega) (by omega)).trans ((r3 _ (by omega)).trans x3))⟩, ⟨_, ((r4 _ (by omega)).trans x4)⟩⟩, fun b h1 h2 => ((f4 b h1 (by omega)).trans ((f3 b h1 (by omega)).trans ((f2 b h1 (by omega)).trans ((f1 b h1 (by omega)).trans (f0 b h1 (by omega))))))⟩
theorem ini_ch {ce : Ce} {nx r : Nat} (h : ce r = some (.inr (1, df_X1))) (hr : r < nx) : Ok (m_X1_init nx ce r) (fun z => z.2.2.1 = 2 ∧ z.2.2.2 = 24 ∧ CHc z.2.1 r nx (nx + 1) (fun _ => 0) (fun _ => 0) ∧ ∀ b, b ≠ r → b < nx → z.2.1 b = ce b) := by
  have n12 : nwa (12 : Int32) = some 12 := nwa_n (n := 12) (by omega)
  unfold m_X1_init
  rw [n12, bind_s]
  refine ok_adcK ?_
  rw [bind_s]
  obtain ⟨c0, e0, x0, y0⟩ := al_r ce (nx) (.inl (.long, 12, .inr (.inl (fun _ => 0))))
  rw [e0]
  obtain ⟨d0, p0, q0, r0⟩ := pv_r (k := 0) (v := .ref (nx)) [.ref (nx), .null] ((y0 r (by omega)).trans h) (Nat.le_of_ble_eq_true rfl) rfl
  rw [p0, bind_s]
  have f0 : ∀ b, b ≠ r → b ≠ nx → d0 b = ce b := fun b h1 h2 => (r0 b h1).trans (y0 b h2)
  rw [bind_s]
  refine ok_adcK ?_
  rw [bind_s]
  obtain ⟨c1, e1, x1, y1⟩ := al_r d0 (nx + 1) (.inl (.long, 12, .inr (.inl (fun _ => 0))))
  rw [e1]
  obtain ⟨d1, p1, q1, r1⟩ := pv_r (k := 1) (v := .ref (nx + 1)) [.ref (nx), .ref (nx + 1)] ((y1 r (by omega)).trans q0) (Nat.le_of_ble_eq_true rfl) rfl
  rw [p1, bind_s]
  have f1 : ∀ b, b ≠ r → b ≠ nx + 1 → d1 b = d0 b := fun b h1 h2 => (r1 b h1).trans (y1 b h2)
  refine ok_some ⟨rfl, rfl, ⟨q1, ((f1 _ (by omega) (by omega)).trans ((r0 _ (by omega)).trans x0)), ((r1 _ (by omega)).trans x1)⟩, fun b h1 h2 => ((f1 b h1 (by omega)).trans (f0 b h1 (by omega)))⟩
theorem ini_wd {ce : Ce} {nx r mp : Nat} {M : Mv} {Z : Nat → Prop} (h : ce r = some (.inr (7, df_X10))) (hr : r < nx) (hm : MA ce Z mp M) (hZ : ∀ b, Z b → b < nx ∧ b ≠ r) : Ok (m_X10_init nx ce r mp) (fun z => z.2.2.1 = 15 ∧ z.2.2.2 = 57 ∧ WC3 z.2.1 r nx (nx + 1) (nx + 2) [] [] ∧ SZ z.2.1 (nx + 15) Z (newA (nx + 2) (nx + 3)) (0, 0, 0) (M, nums0, [], [], fl0, []) ∧ ∀ b, b ≠ r → b < nx → z.2.1 b = ce b) := by
  have n4 : nwa (4 : Int32) = some 4 := nwa_n (n := 4) (by omega)
  have n20 : nwa (20 : Int32) = some 20 := nwa_n (n := 20) (by omega)
  unfold m_X10_init
  rw [n4, bind_s]
  refine ok_adcK ?_
  rw [bind_s]
  obtain ⟨c0, e0, x0, y0⟩ := al_r ce (nx) (.inl (.object "FencedStates$Machine", 4, .inr (.inr (.inr (.inr (fun _ => none))))))
  rw [e0]
  obtain ⟨d0, p0, q0, r0⟩ := pv_r (k := 0) (v := .ref (nx)) [.ref (nx), .int 0, .null, .int 0, .null] ((y0 r (by omega)).trans h) (Nat.le_of_ble_eq_true rfl) rfl
  rw [p0, bind_s]
  have f0 : ∀ b, b ≠ r → b ≠ nx → d0 b = ce b := fun b h1 h2 => (r0 b h1).trans (y0 b h2)
  rw [n20, bind_s]
  refine ok_adcK ?_
  rw [bind_s]
  obtain ⟨c1, e1, x1, y1⟩ := al_r d0 (nx + 1) (.inl (.object "FencedStates$Search", 20, .inr (.inr (.inr (.inr (fun _ => none))))))
  rw [e1]
  obtain ⟨d1, p1, q1, r1⟩ := pv_r (k := 2) (v := .ref (nx + 1)) [.ref (nx), .int 0, .ref (nx + 1), .int 0, .null] ((y1 r (by omega)).trans q0) (Nat.le_of_ble_eq_true rfl) rfl
  rw [p1, bind_s]
  have f1 : ∀ b, b ≠ r → b ≠ nx + 1 → d1 b = d0 b := fun b h1 h2 => (r1 b h1).trans (y1 b h2)
  refine ok_adcK ?_
  rw [bind_s]
  obtain ⟨c2, e2, x2, y2⟩ := al_r d1 (nx + 1 + 1) (.inr (6, df_X8))
  rw [e2]
  have fc : ∀ b, b ≠ r → b < nx → c2 b = ce b := fun b h1 h2 => (y2 b (by omega)).trans ((f1 b h1 (by omega)).trans (f0 b h1 (by omega)))
  have hm2 : MA c2 Z mp M := MA_fr hm (fun b hb => fc b (hZ b hb).2 (hZ b hb).1)
  refine ok_adcB (ok_mono (ini_ss (nx := nx + 1 + 1 + 1) x2 (by omega) (MA_congr (fun _ _ => rfl) (fun b hb => ⟨by have := (hZ b hb).1; omega, by have := (hZ b hb).1; omega⟩) hm2)) ?_)
  rintro ⟨u, d3, K3, S3⟩ ⟨k3, s3, r3, g3, f3⟩
  have k3 : K3 = 12 := k3
  have s3 : S3 = 18 := s3
  subst k3 s3
  have f3 : ∀ b, b ≠ nx + 1 + 1 → b < nx + 1 + 1 + 1 → d3 b = c2 b := f3
  have q3 : d3 r = some (.inr (7, [.ref (nx), .int 0, .ref (nx + 1), .int 0, .null])) := (f3 r (by omega) (by omega)).trans ((y2 r (by omega)).trans q1)
  show Ok ((pV d3 7 4 r (.ref (nx + 1 + 1))).bind _) _
  obtain ⟨d4, p4, q4, r4⟩ := pv_r (k := 4) (v := .ref (nx + 1 + 1)) [.ref (nx), .int 0, .ref (nx + 1), .int 0, .ref (nx + 1 + 1)] q3 (Nat.le_of_ble_eq_true rfl) rfl
  rw [p4, bind_s]
  have g3 : gA d3 6 0 (nx + 1 + 1) = some mp := g3
  have r3 : SS d3 (nx + 1 + 1 + 1 + 12) (newA (nx + 2) (nx + 2 + 1)) (0, 0, 0) (M, nums0, [], [], fl0, []) := r3
  have hm3 : MA d3 Z mp M := MA_fr hm2 (fun b hb => f3 b (by have := (hZ b hb).1; omega) (by have := (hZ b hb).1; omega))
  have z3 : SZ d3 (nx + 1 + 1 + 1 + 12) Z (newA (nx + 2) (nx + 2 + 1)) (0, 0, 0) (M, nums0, [], [], fl0, []) := ⟨r3, mp, g3, hm3⟩
  refine ok_some ⟨rfl, rfl, ⟨fun _ => none, fun _ => none, q4, ?_, ?_, fun _ _ => rfl, fun _ _ => rfl⟩, ?_, fun b h1 h2 => ?_⟩
  · exact (r4 _ (by omega)).trans ((f3 _ (by omega) (by omega)).trans ((y2 _ (by omega)).trans ((f1 _ (by omega) (by omega)).trans ((r0 _ (by omega)).trans x0))))
  · exact (r4 _ (by omega)).trans ((f3 _ (by omega) (by omega)).trans ((y2 _ (by omega)).trans ((r1 _ (by omega)).trans x1)))
  · refine SZ_congr z3 (fun b hb => ⟨by have := (hZ b hb).1; omega, fun i hi => ?_⟩) (fun i hi => r4 _ ?_) (fun b hb => r4 b (hZ b hb).2) (Nat.le_refl _) (fun _ hb => hb)
    · have := (hZ b hb).1
      show b ≠ newA (nx + 2) (nx + 2 + 1) i
      rw [newA_at]
      omega
    · rw [newA_at]
      omega
  · exact (r4 b h1).trans ((f3 b (by omega) (by omega)).trans (fc b h1 h2))
def V00 : Sv := begV plM 0
theorem V00_e : (plM, nums0, [], [], fl0, []) = V00 := by
  rw [nums0_b]
  rfl
def tlH (x a : Nat) (c : Ce) : Option (Unit × Ce × Nat × Nat) :=
  adcK 1 2 fun _ =>
  (some (gx_up c a (.inr (1, df_X1)))).bind fun zc34 =>
  adcB (m_X1_init (a + 1) zc34 a) fun zq35 =>
  (pV zq35.2.1 8 10 x (.ref a)).bind fun zc37 =>
  (nwa (128 : Int32)).bind fun zk40 =>
  adcK 1 zk40 fun _ =>
  (some (gx_up zc37 ((a + 1) + zq35.2.2.1) (.inl (.int, zk40, .inl (fun _ => 0))))).bind fun zc39 =>
  (pV zc39 8 11 x (.ref ((a + 1) + zq35.2.2.1))).bind fun zc41 =>
  (nwa (64 : Int32)).bind fun zk44 =>
  adcK 1 zk44 fun _ =>
  (some (gx_up zc41 (((a + 1) + zq35.2.2.1) + 1) (.inl (.long, zk44, .inr (.inl (fun _ => 0)))))).bind fun zc43 =>
  (pV zc43 8 12 x (.ref (((a + 1) + zq35.2.2.1) + 1))).bind fun zc45 =>
  some ((), zc45, 0, 0)
def tlG (x a : Nat) (c : Ce) : Option (Unit × Ce × Nat × Nat) :=
  adcK 1 4 fun _ =>
  (some (gx_up c a (.inr (2, df_X2)))).bind fun zc29 =>
  adcB (m_X2_init (a + 1) zc29 a) fun zq30 =>
  (pV zq30.2.1 8 9 x (.ref a)).bind fun zc32 =>
  tlH x ((a + 1) + zq30.2.2.1) zc32
def tlF (x a : Nat) (c : Ce) (mp : Nat) : Option (Unit × Ce × Nat × Nat) :=
  adcK 1 15 fun _ =>
  (some (gx_up c a (.inr (6, df_X8)))).bind fun zc24 =>
  adcB (m_X8_init (a + 1) zc24 a mp) fun zq25 =>
  (pV zq25.2.1 8 8 x (.ref a)).bind fun zc27 =>
  tlG x ((a + 1) + zq25.2.2.1) zc27
def tlE (x a : Nat) (c : Ce) (mp : Nat) : Option (Unit × Ce × Nat × Nat) :=
  adcK 1 5 fun _ =>
  (some (gx_up c a (.inr (7, df_X10)))).bind fun zc19 =>
  adcB (m_X10_init (a + 1) zc19 a mp) fun zq20 =>
  (pV zq20.2.1 8 7 x (.ref a)).bind fun zc22 =>
  tlF x ((a + 1) + zq20.2.2.1) zc22 mp
def tlD (x a : Nat) (c : Ce) (mp : Nat) : Option (Unit × Ce × Nat × Nat) :=
  adcK 1 5 fun _ =>
  (some (gx_up c a (.inr (7, df_X10)))).bind fun zc14 =>
  adcB (m_X10_init (a + 1) zc14 a mp) fun zq15 =>
  (pV zq15.2.1 8 6 x (.ref a)).bind fun zc17 =>
  tlE x ((a + 1) + zq15.2.2.1) zc17 mp
theorem x11_e (nx : Nat) (ce : Ce) (this : Nat) : m_X11_init nx ce this = ((nwa (300 : Int32)).bind fun zk3 =>
  adcK 1 zk3 fun _ =>
  (some (gx_up ce nx (.inl (.byte, zk3, .inl (fun _ => 0))))).bind fun zc2 =>
  (pV zc2 8 0 this (.ref nx)).bind fun zc4 =>
  (pV zc4 8 4 this (.int (-1 : Int32))).bind fun zc5 =>
  adcK 1 15 fun _ =>
  (some (gx_up zc5 (nx + 1) (.inr (5, df_X7)))).bind fun zc7 =>
  adcB (m_X7_init ((nx + 1) + 1) zc7 (nx + 1)) fun zq8 =>
  (pV zq8.2.1 8 5 this (.ref (nx + 1))).bind fun zc10 =>
  adcB (m_X5_plain (((nx + 1) + 1) + zq8.2.2.1) zc10) fun zq11 =>
  tlD this ((((nx + 1) + 1) + zq8.2.2.1) + zq11.2.2.1) zq11.2.1 zq11.1) := rfl
def QH (z : Ce) (a : Nat) : Prop := CHc z a (a + 1) (a + 2) (fun _ => 0) (fun _ => 0) ∧ z (a + 3) = some (.inl (.int, 128, .inl (fun _ => 0))) ∧ z (a + 4) = some (.inl (.long, 64, .inr (.inl (fun _ => 0))))
def QG (z : Ce) (a : Nat) : Prop := (RW z a (a + 1) (a + 2) (a + 3) 0 [] ∧ D4 a (a + 1) (a + 2) (a + 3)) ∧ QH z (a + 4)
def QF (z : Ce) (a N : Nat) (Z : Nat → Prop) (V : Sv) : Prop := SZ z N Z (newA a (a + 1)) (0, 0, 0) V ∧ QG z (a + 13)
def QE (z : Ce) (a N : Nat) (Z : Nat → Prop) (V : Sv) : Prop := (WC3 z a (a + 1) (a + 2) (a + 3) [] [] ∧ SZ z N Z (newA (a + 3) (a + 3 + 1)) (0, 0, 0) V) ∧ QF z (a + 16) N Z V
def QD (z : Ce) (a N : Nat) (Z : Nat → Prop) (V : Sv) : Prop := (WC3 z a (a + 1) (a + 2) (a + 3) [] [] ∧ SZ z N Z (newA (a + 3) (a + 3 + 1)) (0, 0, 0) V) ∧ QE z (a + 16) N Z V
theorem SZ_new {ce d : Ce} {nx nx2 x t lo : Nat} {Z : Nat → Prop} {V : Sv} (h : SZ ce nx Z (newA t (t + 1)) (0, 0, 0) V) (hZ : ∀ b, Z b → b < t ∧ b ≠ x) (hx : x < t) (hlo : t + 13 ≤ lo) (hd : ∀ b, b ≠ x → b < lo → d b = ce b) (hn : nx ≤ nx2) (hl : lo ≤ nx2) : SZ d nx2 Z (newA t (t + 1)) (0, 0, 0) V := by
  refine SZ_congr h (fun b hb => ⟨by have := hZ b hb; omega, fun i hi => ?_⟩) (fun i hi => hd _ ?_ ?_) (fun b hb => hd b (hZ b hb).2 (by have := hZ b hb; omega)) hn (fun _ hb => hb)
  · have := hZ b hb
    show b ≠ newA t (t + 1) i
    rw [newA_at]
    omega
  · rw [newA_at]
    omega
  · rw [newA_at]
    omega
theorem tH {c : Ce} {x a t r v k tr sp : Nat} (h : c x = some (.inr (8, [.ref t, .int 0, .int 0, .int 0, .int (-1), .ref r, .ref v, .ref k, .ref tr, .ref sp, .null, .null, .null]))) (hx : x < a) : Ok (tlH x a c) (fun z => z.2.2.1 = 5 ∧ z.2.2.2 = 218 ∧ z.2.1 x = some (.inr (8, fsX t 0 0 0 (-1) r v k tr sp a (a + 3) (a + 4))) ∧ QH z.2.1 a ∧ ∀ b, b ≠ x → b < a → z.2.1 b = c b) := by
  have n128 : nwa (128 : Int32) = some 128 := nwa_n (n := 128) (by omega)
  have n64 : nwa (64 : Int32) = some 64 := nwa_n (n := 64) (by omega)
  unfold tlH
  refine ok_adcK ?_
  rw [bind_s]
  obtain ⟨c0, e0, x0, y0⟩ := al_r c a (.inr (1, df_X1))
  rw [e0]
  refine ok_adcB (ok_mono (ini_ch (nx := a + 1) x0 (by omega)) ?_)
  rintro ⟨u, d1, K1, S1⟩ ⟨k1, s1, r1, f1⟩
  have k1 : K1 = 2 := k1
  have s1 : S1 = 24 := s1
  subst k1 s1
  have f1 : ∀ b, b ≠ a → b < a + 1 → d1 b = c0 b := f1
  have r1 : CHc d1 a (a + 1) (a + 2) (fun _ => 0) (fun _ => 0) := r1
  have x1 : d1 x = _ := (f1 x (by omega) (by omega)).trans ((y0 x (by omega)).trans h)
  show Ok ((pV d1 8 10 x (.ref a)).bind _) _
  obtain ⟨c2, p2, x2, y2⟩ := pv_r (k := 10) (v := .ref a) [.ref t, .int 0, .int 0, .int 0, .int (-1), .ref r, .ref v, .ref k, .ref tr, .ref sp, .ref a, .null, .null] x1 (Nat.le_of_ble_eq_true rfl) rfl
  rw [p2, bind_s, n128, bind_s]
  refine ok_adcK ?_
  rw [bind_s]
  show Ok ((pV (gx_up c2 (a + 1 + 2) (.inl (.int, 128, .inl (fun _ => 0)))) 8 11 x (.ref (a + 1 + 2))).bind _) _
  obtain ⟨c3, e3, x3, y3⟩ := al_r c2 (a + 1 + 2) (.inl (.int, 128, .inl (fun _ => 0)))
  rw [e3]
  obtain ⟨c4, p4, x4, y4⟩ := pv_r (k := 11) (v := .ref (a + 1 + 2)) [.ref t, .int 0, .int 0, .int 0, .int (-1), .ref r, .ref v, .ref k, .ref tr, .ref sp, .ref a, .ref (a + 1 + 2), .null] ((y3 x (by omega)).trans x2) (Nat.le_of_ble_eq_true rfl) rfl
  rw [p4, bind_s, n64, bind_s]
  refine ok_adcK ?_
  rw [bind_s]
  show Ok ((pV (gx_up c4 (a + 1 + 2 + 1) (.inl (.long, 64, .inr (.inl (fun _ => 0))))) 8 12 x (.ref (a + 1 + 2 + 1))).bind _) _
  obtain ⟨c5, e5, x5, y5⟩ := al_r c4 (a + 1 + 2 + 1) (.inl (.long, 64, .inr (.inl (fun _ => 0))))
  rw [e5]
  obtain ⟨c6, p6, x6, y6⟩ := pv_r (k := 12) (v := .ref (a + 1 + 2 + 1)) [.ref t, .int 0, .int 0, .int 0, .int (-1), .ref r, .ref v, .ref k, .ref tr, .ref sp, .ref a, .ref (a + 1 + 2), .ref (a + 1 + 2 + 1)] ((y5 x (by omega)).trans x4) (Nat.le_of_ble_eq_true rfl) rfl
  rw [p6, bind_s]
  have g : ∀ b, b ≠ x → b < a + 3 → c6 b = d1 b := fun b h1 h2 => (y6 b h1).trans ((y5 b (by omega)).trans ((y4 b h1).trans ((y3 b (by omega)).trans (y2 b h1))))
  exact ok_some ⟨rfl, rfl, x6, ⟨⟨(g _ (by omega) (by omega)).trans r1.1, (g _ (by omega) (by omega)).trans r1.2.1, (g _ (by omega) (by omega)).trans r1.2.2⟩, (y6 _ (by omega)).trans ((y5 _ (by omega)).trans ((y4 _ (by omega)).trans x3)), (y6 _ (by omega)).trans x5⟩, fun b h1 h2 => (g b h1 (by omega)).trans ((f1 b (by omega) (by omega)).trans (y0 b (by omega)))⟩
theorem tG {c : Ce} {x a t r v k tr : Nat} (h : c x = some (.inr (8, [.ref t, .int 0, .int 0, .int 0, .int (-1), .ref r, .ref v, .ref k, .ref tr, .null, .null, .null, .null]))) (hx : x < a) : Ok (tlG x a c) (fun z => z.2.2.1 = 9 ∧ z.2.2.2 = 222 ∧ z.2.1 x = some (.inr (8, fsX t 0 0 0 (-1) r v k tr a (a + 4) (a + 7) (a + 8))) ∧ QG z.2.1 a ∧ ∀ b, b ≠ x → b < a → z.2.1 b = c b) := by
  unfold tlG
  refine ok_adcK ?_
  rw [bind_s]
  obtain ⟨c0, e0, x0, y0⟩ := al_r c a (.inr (2, df_X2))
  rw [e0]
  refine ok_adcB (ok_mono (ini_row (nx := a + 1) x0 (by omega)) ?_)
  rintro ⟨u, d1, K1, S1⟩ ⟨k1, s1, r1, g1, f1⟩
  have k1 : K1 = 3 := k1
  have s1 : S1 = 0 := s1
  subst k1 s1
  have f1 : ∀ b, b ≠ a → b < a + 1 → d1 b = c0 b := f1
  have r1 : RW d1 a (a + 1) (a + 2) (a + 3) 0 [] := r1
  have g1 : D4 a (a + 1) (a + 2) (a + 3) := g1
  have x1 : d1 x = _ := (f1 x (by omega) (by omega)).trans ((y0 x (by omega)).trans h)
  show Ok ((pV d1 8 9 x (.ref a)).bind _) _
  obtain ⟨c2, p2, x2, y2⟩ := pv_r (k := 9) (v := .ref a) [.ref t, .int 0, .int 0, .int 0, .int (-1), .ref r, .ref v, .ref k, .ref tr, .ref a, .null, .null, .null] x1 (Nat.le_of_ble_eq_true rfl) rfl
  rw [p2, bind_s]
  show Ok (tlH x (a + 1 + 3) c2) _
  refine ok_mono (tH (a := a + 1 + 3) x2 (by omega)) ?_
  rintro ⟨u2, d3, K3, S3⟩ ⟨k3, s3, x3, q3, f3⟩
  have k3 : K3 = 5 := k3
  have s3 : S3 = 218 := s3
  subst k3 s3
  have f3 : ∀ b, b ≠ x → b < a + 4 → d3 b = c2 b := f3
  have g : ∀ b, b ≠ x → b < a + 4 → d3 b = d1 b := fun b h1 h2 => (f3 b h1 h2).trans (y2 b h1)
  exact ⟨rfl, rfl, x3, ⟨⟨RW_fr r1 (g _ (by omega) (by omega)) (g _ (by omega) (by omega)) (g _ (by omega) (by omega)) (g _ (by omega) (by omega)), g1⟩, q3⟩, fun b h1 h2 => (g b h1 (by omega)).trans ((f1 b (by omega) (by omega)).trans (y0 b (by omega)))⟩
theorem tF {c : Ce} {x a t r v k mp N : Nat} {Z : Nat → Prop} {M : Mv} (h : c x = some (.inr (8, [.ref t, .int 0, .int 0, .int 0, .int (-1), .ref r, .ref v, .ref k, .null, .null, .null, .null, .null]))) (hx : x < a) (hm : MA c Z mp M) (hZ : ∀ b, Z b → b < a ∧ b ≠ x) (hN : a + 22 ≤ N) : Ok (tlF x a c mp) (fun z => z.2.2.1 = 22 ∧ z.2.2.2 = 255 ∧ z.2.1 x = some (.inr (8, fsX t 0 0 0 (-1) r v k a (a + 13) (a + 17) (a + 20) (a + 21))) ∧ QF z.2.1 a N Z (M, nums0, [], [], fl0, []) ∧ ∀ b, b ≠ x → b < a → z.2.1 b = c b) := by
  unfold tlF
  refine ok_adcK ?_
  rw [bind_s]
  obtain ⟨c0, e0, x0, y0⟩ := al_r c a (.inr (6, df_X8))
  rw [e0]
  have m0 : MA c0 Z mp M := MA_fr hm (fun b hb => y0 b (by have := hZ b hb; omega))
  refine ok_adcB (ok_mono (ini_ss (nx := a + 1) x0 (by omega) (MA_congr (fun _ _ => rfl) (fun b hb => ⟨by have := hZ b hb; omega, by have := hZ b hb; omega⟩) m0)) ?_)
  rintro ⟨u, d1, K1, S1⟩ ⟨k1, s1, r1, g1, f1⟩
  have k1 : K1 = 12 := k1
  have s1 : S1 = 18 := s1
  subst k1 s1
  have f1 : ∀ b, b ≠ a → b < a + 1 → d1 b = c0 b := f1
  have m1 : MA d1 Z mp M := MA_fr m0 (fun b hb => f1 b (by have := hZ b hb; omega) (by have := hZ b hb; omega))
  have z1 : SZ d1 (a + 1 + 12) Z (newA a (a + 1)) (0, 0, 0) (M, nums0, [], [], fl0, []) := ⟨r1, mp, g1, m1⟩
  have x1 : d1 x = _ := (f1 x (by omega) (by omega)).trans ((y0 x (by omega)).trans h)
  show Ok ((pV d1 8 8 x (.ref a)).bind _) _
  obtain ⟨c2, p2, x2, y2⟩ := pv_r (k := 8) (v := .ref a) [.ref t, .int 0, .int 0, .int 0, .int (-1), .ref r, .ref v, .ref k, .ref a, .null, .null, .null, .null] x1 (Nat.le_of_ble_eq_true rfl) rfl
  rw [p2, bind_s]
  show Ok (tlG x (a + 1 + 12) c2) _
  refine ok_mono (tG (a := a + 1 + 12) x2 (by omega)) ?_
  rintro ⟨u2, d3, K3, S3⟩ ⟨k3, s3, x3, q3, f3⟩
  have k3 : K3 = 9 := k3
  have s3 : S3 = 222 := s3
  subst k3 s3
  have f3 : ∀ b, b ≠ x → b < a + 13 → d3 b = c2 b := f3
  have g : ∀ b, b ≠ x → b < a + 13 → d3 b = d1 b := fun b h1 h2 => (f3 b h1 h2).trans (y2 b h1)
  exact ⟨rfl, rfl, x3, ⟨SZ_new z1 hZ hx (Nat.le_refl _) g (by omega) (by omega), q3⟩, fun b h1 h2 => (g b h1 (by omega)).trans ((f1 b (by omega) (by omega)).trans (y0 b (by omega)))⟩
theorem tE {c : Ce} {x a t r v mp N : Nat} {Z : Nat → Prop} {M : Mv} (h : c x = some (.inr (8, [.ref t, .int 0, .int 0, .int 0, .int (-1), .ref r, .ref v, .null, .null, .null, .null, .null, .null]))) (hx : x < a) (hm : MA c Z mp M) (hZ : ∀ b, Z b → b < a ∧ b ≠ x) (hN : a + 38 ≤ N) : Ok (tlE x a c mp) (fun z => z.2.2.1 = 38 ∧ z.2.2.2 = 317 ∧ z.2.1 x = some (.inr (8, fsX t 0 0 0 (-1) r v a (a + 16) (a + 29) (a + 33) (a + 36) (a + 37))) ∧ QE z.2.1 a N Z (M, nums0, [], [], fl0, []) ∧ ∀ b, b ≠ x → b < a → z.2.1 b = c b) := by
  unfold tlE
  refine ok_adcK ?_
  rw [bind_s]
  obtain ⟨c0, e0, x0, y0⟩ := al_r c a (.inr (7, df_X10))
  rw [e0]
  have m0 : MA c0 Z mp M := MA_fr hm (fun b hb => y0 b (by have := hZ b hb; omega))
  refine ok_adcB (ok_mono (ini_wd (nx := a + 1) x0 (by omega) m0 (fun b hb => ⟨by have := hZ b hb; omega, by have := hZ b hb; omega⟩)) ?_)
  rintro ⟨u, d1, K1, S1⟩ ⟨k1, s1, r1, z1, f1⟩
  have k1 : K1 = 15 := k1
  have s1 : S1 = 57 := s1
  subst k1 s1
  have f1 : ∀ b, b ≠ a → b < a + 1 → d1 b = c0 b := f1
  have r1 : WC3 d1 a (a + 1) (a + 2) (a + 3) [] [] := r1
  have z1 : SZ d1 (a + 16) Z (newA (a + 3) (a + 3 + 1)) (0, 0, 0) (M, nums0, [], [], fl0, []) := z1
  have m1 : MA d1 Z mp M := MA_fr m0 (fun b hb => f1 b (by have := hZ b hb; omega) (by have := hZ b hb; omega))
  have x1 : d1 x = _ := (f1 x (by omega) (by omega)).trans ((y0 x (by omega)).trans h)
  show Ok ((pV d1 8 7 x (.ref a)).bind _) _
  obtain ⟨c2, p2, x2, y2⟩ := pv_r (k := 7) (v := .ref a) [.ref t, .int 0, .int 0, .int 0, .int (-1), .ref r, .ref v, .ref a, .null, .null, .null, .null, .null] x1 (Nat.le_of_ble_eq_true rfl) rfl
  rw [p2, bind_s]
  have m2 : MA c2 Z mp M := MA_fr m1 (fun b hb => y2 b (hZ b hb).2)
  show Ok (tlF x (a + 1 + 15) c2 mp) _
  refine ok_mono (tF (a := a + 1 + 15) (N := N) x2 (by omega) m2 (fun b hb => ⟨by have := hZ b hb; omega, (hZ b hb).2⟩) (by omega)) ?_
  rintro ⟨u2, d3, K3, S3⟩ ⟨k3, s3, x3, q3, f3⟩
  have k3 : K3 = 22 := k3
  have s3 : S3 = 255 := s3
  subst k3 s3
  have f3 : ∀ b, b ≠ x → b < a + 16 → d3 b = c2 b := f3
  have g : ∀ b, b ≠ x → b < a + 16 → d3 b = d1 b := fun b h1 h2 => (f3 b h1 h2).trans (y2 b h1)
  exact ⟨rfl, rfl, x3, ⟨⟨WC3_congr r1 (g _ (by omega) (by omega)) (g _ (by omega) (by omega)) (g _ (by omega) (by omega)), SZ_new z1 (fun b hb => ⟨by have := hZ b hb; omega, (hZ b hb).2⟩) (by omega) (Nat.le_refl _) g (by omega) (by omega)⟩, q3⟩, fun b h1 h2 => (g b h1 (by omega)).trans ((f1 b (by omega) (by omega)).trans (y0 b (by omega)))⟩
theorem tD {c : Ce} {x a t r mp N : Nat} {Z : Nat → Prop} {M : Mv} (h : c x = some (.inr (8, [.ref t, .int 0, .int 0, .int 0, .int (-1), .ref r, .null, .null, .null, .null, .null, .null, .null]))) (hx : x < a) (hm : MA c Z mp M) (hZ : ∀ b, Z b → b < a ∧ b ≠ x) (hN : a + 54 ≤ N) : Ok (tlD x a c mp) (fun z => z.2.2.1 = 54 ∧ z.2.2.2 = 379 ∧ z.2.1 x = some (.inr (8, fsX t 0 0 0 (-1) r a (a + 16) (a + 32) (a + 45) (a + 49) (a + 52) (a + 53))) ∧ QD z.2.1 a N Z (M, nums0, [], [], fl0, []) ∧ ∀ b, b ≠ x → b < a → z.2.1 b = c b) := by
  unfold tlD
  refine ok_adcK ?_
  rw [bind_s]
  obtain ⟨c0, e0, x0, y0⟩ := al_r c a (.inr (7, df_X10))
  rw [e0]
  have m0 : MA c0 Z mp M := MA_fr hm (fun b hb => y0 b (by have := hZ b hb; omega))
  refine ok_adcB (ok_mono (ini_wd (nx := a + 1) x0 (by omega) m0 (fun b hb => ⟨by have := hZ b hb; omega, by have := hZ b hb; omega⟩)) ?_)
  rintro ⟨u, d1, K1, S1⟩ ⟨k1, s1, r1, z1, f1⟩
  have k1 : K1 = 15 := k1
  have s1 : S1 = 57 := s1
  subst k1 s1
  have f1 : ∀ b, b ≠ a → b < a + 1 → d1 b = c0 b := f1
  have r1 : WC3 d1 a (a + 1) (a + 2) (a + 3) [] [] := r1
  have z1 : SZ d1 (a + 16) Z (newA (a + 3) (a + 3 + 1)) (0, 0, 0) (M, nums0, [], [], fl0, []) := z1
  have m1 : MA d1 Z mp M := MA_fr m0 (fun b hb => f1 b (by have := hZ b hb; omega) (by have := hZ b hb; omega))
  have x1 : d1 x = _ := (f1 x (by omega) (by omega)).trans ((y0 x (by omega)).trans h)
  show Ok ((pV d1 8 6 x (.ref a)).bind _) _
  obtain ⟨c2, p2, x2, y2⟩ := pv_r (k := 6) (v := .ref a) [.ref t, .int 0, .int 0, .int 0, .int (-1), .ref r, .ref a, .null, .null, .null, .null, .null, .null] x1 (Nat.le_of_ble_eq_true rfl) rfl
  rw [p2, bind_s]
  have m2 : MA c2 Z mp M := MA_fr m1 (fun b hb => y2 b (hZ b hb).2)
  show Ok (tlE x (a + 1 + 15) c2 mp) _
  refine ok_mono (tE (a := a + 1 + 15) (N := N) x2 (by omega) m2 (fun b hb => ⟨by have := hZ b hb; omega, (hZ b hb).2⟩) (by omega)) ?_
  rintro ⟨u2, d3, K3, S3⟩ ⟨k3, s3, x3, q3, f3⟩
  have k3 : K3 = 38 := k3
  have s3 : S3 = 317 := s3
  subst k3 s3
  have f3 : ∀ b, b ≠ x → b < a + 16 → d3 b = c2 b := f3
  have g : ∀ b, b ≠ x → b < a + 16 → d3 b = d1 b := fun b h1 h2 => (f3 b h1 h2).trans (y2 b h1)
  exact ⟨rfl, rfl, x3, ⟨⟨WC3_congr r1 (g _ (by omega) (by omega)) (g _ (by omega) (by omega)) (g _ (by omega) (by omega)), SZ_new z1 (fun b hb => ⟨by have := hZ b hb; omega, (hZ b hb).2⟩) (by omega) (Nat.le_refl _) g (by omega) (by omega)⟩, q3⟩, fun b h1 h2 => (g b h1 (by omega)).trans ((f1 b (by omega) (by omega)).trans (y0 b (by omega)))⟩
def XP (ce : Ce) (x : Nat) : Prop := (ce x = some (.inr (8, fsX (x + 1) 0 0 0 (-1) (x + 2) (x + 12) (x + 28) (x + 44) (x + 57) (x + 61) (x + 64) (x + 65))) ∧ ce (x + 1) = some (.inl (.byte, 300, .inl (fun _ => 0)))) ∧ Rdr ce (x + 2) (x + 3) (x + 4) (x + 5) (x + 6) (x + 7) ∧ QD ce (x + 12) (x + 66) (fun b => x + 8 ≤ b ∧ b < x + 12) V00
theorem ini_x (x : Nat) : Ok (m_X11_init (x + 1) (gx_up (fun _ => none) x (.inr (8, df_X11))) x) (fun z => z.2.2.1 = 65 ∧ z.2.2.2 ≤ 3000 ∧ XP z.2.1 x) := by
  have n300 : nwa (300 : Int32) = some 300 := nwa_n (n := 300) (by omega)
  obtain ⟨c0, e0, x0, y0⟩ := al_r (fun _ => none) x (.inr (8, df_X11))
  rw [e0, x11_e, n300, bind_s]
  refine ok_adcK ?_
  rw [bind_s]
  obtain ⟨c1, e1, x1, y1⟩ := al_r c0 (x + 1) (.inl (.byte, 300, .inl (fun _ => 0)))
  rw [e1]
  obtain ⟨c2, p2, x2, y2⟩ := pv_r (k := 0) (v := .ref (x + 1)) [.ref (x + 1), .int 0, .int 0, .int 0, .int 0, .null, .null, .null, .null, .null, .null, .null, .null] ((y1 x (by omega)).trans x0) (Nat.le_of_ble_eq_true rfl) rfl
  rw [p2, bind_s]
  obtain ⟨c3, p3, x3, y3⟩ := pv_r (k := 4) (v := .int (-1)) [.ref (x + 1), .int 0, .int 0, .int 0, .int (-1), .null, .null, .null, .null, .null, .null, .null, .null] x2 (Nat.le_of_ble_eq_true rfl) rfl
  rw [p3, bind_s]
  refine ok_adcK ?_
  rw [bind_s]
  obtain ⟨c4, e4, x4, y4⟩ := al_r c3 (x + 1 + 1) (.inr (5, df_X7))
  rw [e4]
  refine ok_adcB (ok_mono (ini_rd (nx := x + 1 + 1 + 1) x4 (by omega)) ?_)
  rintro ⟨u, d5, K5, S5⟩ ⟨k5, s5, r5, f5⟩
  have k5 : K5 = 5 := k5
  have s5 : S5 = 931 := s5
  subst k5 s5
  have f5 : ∀ b, b ≠ x + 2 → b < x + 3 → d5 b = c4 b := f5
  have x5 : d5 x = _ := (f5 x (by omega) (by omega)).trans ((y4 x (by omega)).trans x3)
  show Ok ((pV d5 8 5 x (.ref (x + 1 + 1))).bind _) _
  obtain ⟨c6, p6, x6, y6⟩ := pv_r (k := 5) (v := .ref (x + 1 + 1)) [.ref (x + 1), .int 0, .int 0, .int 0, .int (-1), .ref (x + 1 + 1), .null, .null, .null, .null, .null, .null, .null] x5 (Nat.le_of_ble_eq_true rfl) rfl
  rw [p6, bind_s]
  show Ok (adcB (m_X5_plain (x + 1 + 1 + 1 + 5) c6) _) _
  refine ok_adcB (ok_mono (c_plain c6 (x + 1 + 1 + 1 + 5)) ?_)
  rintro ⟨v7, d7, K7, S7⟩ ⟨m7, r7, k7, s7, f7⟩
  have k7 : K7 = 4 := k7
  have m7 : v7 = x + 1 + 1 + 1 + 5 + 1 := m7
  have s7 : S7 ≤ 340 := s7
  subst k7 m7
  have f7 : ∀ b, b < x + 8 → d7 b = c6 b := f7
  have r7 : MA d7 (fun b => x + 8 ≤ b ∧ b < x + 12) (x + 1 + 1 + 1 + 5 + 1) plM := r7
  have x7 : d7 x = _ := (f7 x (by omega)).trans x6
  show Ok (tlD x (x + 1 + 1 + 1 + 5 + 4) d7 (x + 1 + 1 + 1 + 5 + 1)) _
  rw [show x + 1 + 1 + 1 + 5 + 4 = x + 12 from rfl]
  refine ok_mono (tD (a := x + 12) (N := x + 66) x7 (by omega) r7 (fun b hb => ⟨hb.2, by omega⟩) (by omega)) ?_
  rintro ⟨u8, d8, K8, S8⟩ ⟨k8, s8, x8, q8, f8⟩
  have k8 : K8 = 54 := k8
  have s8 : S8 = 379 := s8
  subst k8 s8
  rw [V00_e] at q8
  have f8 : ∀ b, b ≠ x → b < x + 12 → d8 b = d7 b := f8
  have G5 : ∀ b, b ≠ x → b < x + 8 → d8 b = d5 b := fun b h1 h2 => (f8 b h1 (by omega)).trans ((f7 b (by omega)).trans (y6 b h1))
  have r5 : Rdr d5 (x + 2) (x + 3) (x + 4) (x + 5) (x + 6) (x + 7) := r5
  refine ⟨rfl, ?_, ⟨x8, ?_⟩, ?_, q8⟩
  · show 379 + S7 + 931 + 15 + 300 ≤ 3000
    omega
  · exact (G5 _ (by omega) (by omega)).trans ((f5 _ (by omega) (by omega)).trans ((y4 _ (by omega)).trans ((y3 _ (by omega)).trans ((y2 _ (by omega)).trans x1))))
  · exact Rdr_fr r5 (G5 _ (by omega) (by omega)) (G5 _ (by omega) (by omega)) (G5 _ (by omega) (by omega)) (G5 _ (by omega) (by omega)) (G5 _ (by omega) (by omega)) (G5 _ (by omega) (by omega))
