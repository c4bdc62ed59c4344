/-! THE CLASS: a search -/
def Off (A : Nat → Nat) (b : Nat) : Prop := ∀ i, i < 13 → b ≠ A i
def clR (cl : List (Nat × Nat)) : List Cu := cl.map fun q => (0, q.1, q.2)
abbrev Xv : Type := List Cu × List Ln × (Nat → UInt32) × List (Nat × Nat)
def Sob (A : Nat → Nat) (mp : Nat) (n : Nat → Nat) (at1 : Nat) : List Value := [.ref mp, .int (nI (n 8)), .int (nI (n 15)), .int (nI (n 5)), .int (nI (n 4)), .int (nI at1), .int (nI (n 10)), .int (nI (n 11)), .int (nI (n 12)), .int (nI (n 13)), .int (nI (n 14)), .ref (A 1), .ref (A 5), .ref (A 7), .ref (A 9)]
def SSr (ce : Ce) (nx : Nat) (A : Nat → Nat) (κ : Nat × Nat × Nat) (mp : Nat) (M : Mv) (X : Xv) : Prop := ∃ lc, RW ce (A 1) (A 2) (A 3) (A 4) κ.1 (srtF X.1) ∧ OB ce (A 5) (A 6) κ.2.1 lc ∧ SrtO X.2.1 lc ∧ AC ce (A 7) (A 8) X.2.2.1 ∧ RW ce (A 9) (A 10) (A 11) (A 12) κ.2.2 (clR X.2.2.2) ∧ MA ce (fun b => b < nx ∧ Off A b) mp M ∧ (∀ i, i < 13 → A i < nx) ∧ ∀ i, i < 13 → ∀ j, j < 13 → i ≠ j → A i ≠ A j
def atc (n : Nat → Nat) (at1 : Nat) : Prop := (n 5 = 2 ∨ n 5 = 3) → at1 = n 6
def SS (ce : Ce) (nx : Nat) (A : Nat → Nat) (κ : Nat × Nat × Nat) (V : Sv) : Prop := ∃ mp at1, ce (A 0) = some (.inr (6, Sob A mp V.2.1 at1)) ∧ atc V.2.1 at1 ∧ SSr ce nx A κ mp V.1 V.2.2
def Phi (κ : Nat × Nat × Nat) : Nat := 6 * κ.1 + 2 * κ.2.1 + 6 * κ.2.2
def Ev (ce : Ce) (nx : Nat) (A : Nat → Nat) (κ : Nat × Nat × Nat) (d : Ce) (K S : Nat) (A2 : Nat → Nat) (κ2 : Nat × Nat × Nat) : Prop := A2 0 = A 0 ∧ (∀ b, b < nx → Off A b → d b = ce b) ∧ (∀ i, i < 13 → A2 i = A i ∨ nx ≤ A2 i) ∧ Phi κ + K ≤ Phi κ2 ∧ Phi κ + S ≤ Phi κ2 ∧ gA d 6 0 (A 0) = gA ce 6 0 (A 0)
theorem Ev_refl (ce : Ce) (nx : Nat) (A : Nat → Nat) (κ : Nat × Nat × Nat) : Ev ce nx A κ ce 0 0 A κ := ⟨rfl, fun _ _ _ => rfl, fun _ _ => Or.inl rfl, Nat.le_refl _, Nat.le_refl _, rfl⟩
theorem Off_ev {A A2 : Nat → Nat} {nx b : Nat} (h : ∀ i, i < 13 → A2 i = A i ∨ nx ≤ A2 i) (hb : b < nx) (ho : Off A b) : Off A2 b := by
  intro i hi
  rcases h i hi with h1 | h1
  · rw [h1]; exact ho i hi
  · omega
theorem Ev_trans {ce : Ce} {nx : Nat} {A : Nat → Nat} {κ : Nat × Nat × Nat} {d : Ce} {K S : Nat} {A2 : Nat → Nat} {κ2 : Nat × Nat × Nat} {e : Ce} {K2 S2 : Nat} {A3 : Nat → Nat} {κ3 : Nat × Nat × Nat} (h : Ev ce nx A κ d K S A2 κ2) (g : Ev d (nx + K) A2 κ2 e K2 S2 A3 κ3) : Ev ce nx A κ e (K2 + K) (S2 + S) A3 κ3 := by
  obtain ⟨a1, a2, a3, a4, a5, a6⟩ := h
  obtain ⟨b1, b2, b3, b4, b5, b6⟩ := g
  refine ⟨b1.trans a1, fun b hb ho => ?_, fun i hi => ?_, by omega, by omega, by rw [← a6, ← a1]; exact b6⟩
  · rw [b2 b (by omega) (Off_ev a3 hb ho)]
    exact a2 b hb ho
  · rcases b3 i hi with h1 | h1
    · rcases a3 i hi with h2 | h2
      · exact Or.inl (h1.trans h2)
      · exact Or.inr (by omega)
    · exact Or.inr (by omega)
/-- the search's own cell is written -/
theorem SSr_cell {ce : Ce} {nx : Nat} {A : Nat → Nat} {κ : Nat × Nat × Nat} {mp : Nat} {M : Mv} {X : Xv} (h : SSr ce nx A κ mp M X) (e : PE) : SSr (gx_up ce (A 0) e) nx A κ mp M X := by
  obtain ⟨lc, h1, h2, h3, h4, h5, h6, h7, h8⟩ := h
  have hn : ∀ i, 0 < i → i < 13 → gx_up ce (A 0) e (A i) = ce (A i) := fun i h0 hi => gu_n _ _ (h8 i hi 0 (by omega) (by omega))
  refine ⟨lc, RW_congr (hn 1 (by omega) (by omega)) (hn 2 (by omega) (by omega)) (hn 3 (by omega) (by omega)) (hn 4 (by omega) (by omega)) h1, OB_congr (hn 5 (by omega) (by omega)) (hn 6 (by omega) (by omega)) h2, h3, AC_congr (hn 7 (by omega) (by omega)) (hn 8 (by omega) (by omega)) h4, RW_congr (hn 9 (by omega) (by omega)) (hn 10 (by omega) (by omega)) (hn 11 (by omega) (by omega)) (hn 12 (by omega) (by omega)) h5, MA_congr (fun b hb => gu_n _ _ (hb.2 0 (by omega))) (fun _ hb => hb) h6, h7, h8⟩
theorem Ev_cell {ce : Ce} {nx : Nat} {A : Nat → Nat} {κ : Nat × Nat × Nat} {fs fs2 : List Value} (h1 : ce (A 0) = some (.inr (6, fs))) (hf : fs2[0]? = fs[0]?) : Ev ce nx A κ (gx_up ce (A 0) (.inr (6, fs2))) 0 0 A κ := by
  refine ⟨rfl, fun b _ ho => gu_n _ _ (ho 0 (by omega)), fun _ _ => Or.inl rfl, Nat.le_refl _, Nat.le_refl _, ?_⟩
  unfold gA
  rw [gu_e, h1]
  simp only [hf]
theorem ss_rcv {ce : Ce} {nx : Nat} {A : Nat → Nat} {κ : Nat × Nat × Nat} {V : Sv} (h : SS ce nx A κ V) : rcv ce 6 (A 0) = some () := by
  obtain ⟨mp, at1, h1, _⟩ := h
  exact rcv_c h1
theorem ss_r1 {ce : Ce} {nx : Nat} {A : Nat → Nat} {κ : Nat × Nat × Nat} {V : Sv} (h : SS ce nx A κ V) : gI ce 6 1 (A 0) = some (nI (V.2.1 8)) := by
  obtain ⟨mp, at1, h1, _⟩ := h
  exact gI_c h1 rfl
theorem ss_r2 {ce : Ce} {nx : Nat} {A : Nat → Nat} {κ : Nat × Nat × Nat} {V : Sv} (h : SS ce nx A κ V) : gI ce 6 2 (A 0) = some (nI (V.2.1 15)) := by
  obtain ⟨mp, at1, h1, _⟩ := h
  exact gI_c h1 rfl
theorem ss_r3 {ce : Ce} {nx : Nat} {A : Nat → Nat} {κ : Nat × Nat × Nat} {V : Sv} (h : SS ce nx A κ V) : gI ce 6 3 (A 0) = some (nI (V.2.1 5)) := by
  obtain ⟨mp, at1, h1, _⟩ := h
  exact gI_c h1 rfl
theorem ss_r4 {ce : Ce} {nx : Nat} {A : Nat → Nat} {κ : Nat × Nat × Nat} {V : Sv} (h : SS ce nx A κ V) : gI ce 6 4 (A 0) = some (nI (V.2.1 4)) := by
  obtain ⟨mp, at1, h1, _⟩ := h
  exact gI_c h1 rfl
theorem ss_r6 {ce : Ce} {nx : Nat} {A : Nat → Nat} {κ : Nat × Nat × Nat} {V : Sv} (h : SS ce nx A κ V) : gI ce 6 6 (A 0) = some (nI (V.2.1 10)) := by
  obtain ⟨mp, at1, h1, _⟩ := h
  exact gI_c h1 rfl
theorem ss_r7 {ce : Ce} {nx : Nat} {A : Nat → Nat} {κ : Nat × Nat × Nat} {V : Sv} (h : SS ce nx A κ V) : gI ce 6 7 (A 0) = some (nI (V.2.1 11)) := by
  obtain ⟨mp, at1, h1, _⟩ := h
  exact gI_c h1 rfl
theorem ss_r8 {ce : Ce} {nx : Nat} {A : Nat → Nat} {κ : Nat × Nat × Nat} {V : Sv} (h : SS ce nx A κ V) : gI ce 6 8 (A 0) = some (nI (V.2.1 12)) := by
  obtain ⟨mp, at1, h1, _⟩ := h
  exact gI_c h1 rfl
theorem ss_r9 {ce : Ce} {nx : Nat} {A : Nat → Nat} {κ : Nat × Nat × Nat} {V : Sv} (h : SS ce nx A κ V) : gI ce 6 9 (A 0) = some (nI (V.2.1 13)) := by
  obtain ⟨mp, at1, h1, _⟩ := h
  exact gI_c h1 rfl
theorem ss_r10 {ce : Ce} {nx : Nat} {A : Nat → Nat} {κ : Nat × Nat × Nat} {V : Sv} (h : SS ce nx A κ V) : gI ce 6 10 (A 0) = some (nI (V.2.1 14)) := by
  obtain ⟨mp, at1, h1, _⟩ := h
  exact gI_c h1 rfl
theorem ss_r11 {ce : Ce} {nx : Nat} {A : Nat → Nat} {κ : Nat × Nat × Nat} {V : Sv} (h : SS ce nx A κ V) : gA ce 6 11 (A 0) = some (A 1) := by
  obtain ⟨mp, at1, h1, _⟩ := h
  exact gA_c h1 rfl
theorem ss_r12 {ce : Ce} {nx : Nat} {A : Nat → Nat} {κ : Nat × Nat × Nat} {V : Sv} (h : SS ce nx A κ V) : gA ce 6 12 (A 0) = some (A 5) := by
  obtain ⟨mp, at1, h1, _⟩ := h
  exact gA_c h1 rfl
theorem ss_r13 {ce : Ce} {nx : Nat} {A : Nat → Nat} {κ : Nat × Nat × Nat} {V : Sv} (h : SS ce nx A κ V) : gA ce 6 13 (A 0) = some (A 7) := by
  obtain ⟨mp, at1, h1, _⟩ := h
  exact gA_c h1 rfl
theorem ss_r14 {ce : Ce} {nx : Nat} {A : Nat → Nat} {κ : Nat × Nat × Nat} {V : Sv} (h : SS ce nx A κ V) : gA ce 6 14 (A 0) = some (A 9) := by
  obtain ⟨mp, at1, h1, _⟩ := h
  exact gA_c h1 rfl
theorem ss_r5 {ce : Ce} {nx : Nat} {A : Nat → Nat} {κ : Nat × Nat × Nat} {V : Sv} (h : SS ce nx A κ V) (hp : V.2.1 5 = 2 ∨ V.2.1 5 = 3) : gI ce 6 5 (A 0) = some (nI (V.2.1 6)) := by
  obtain ⟨mp, at1, h1, h2, _⟩ := h
  rw [← h2 hp]
  exact gI_c h1 rfl
theorem ss_mach {ce : Ce} {nx : Nat} {A : Nat → Nat} {κ : Nat × Nat × Nat} {V : Sv} (h : SS ce nx A κ V) : ∃ mp, gA ce 6 0 (A 0) = some mp ∧ MA ce (fun b => b < nx ∧ Off A b) mp V.1 := by
  obtain ⟨mp, at1, h1, h2, lc, a1, a2, a3, a4, a5, a6, a7, a8⟩ := h
  exact ⟨mp, gA_c h1 rfl, a6⟩
theorem ss_row {ce : Ce} {nx : Nat} {A : Nat → Nat} {κ : Nat × Nat × Nat} {V : Sv} (h : SS ce nx A κ V) : RW ce (A 1) (A 2) (A 3) (A 4) κ.1 (srtF V.2.2.1) := by
  obtain ⟨mp, at1, h1, h2, lc, a1, a2, a3, a4, a5, a6, a7, a8⟩ := h
  exact a1
theorem ss_cls {ce : Ce} {nx : Nat} {A : Nat → Nat} {κ : Nat × Nat × Nat} {V : Sv} (h : SS ce nx A κ V) : RW ce (A 9) (A 10) (A 11) (A 12) κ.2.2 (clR V.2.2.2.2.2) := by
  obtain ⟨mp, at1, h1, h2, lc, a1, a2, a3, a4, a5, a6, a7, a8⟩ := h
  exact a5
theorem ss_obl {ce : Ce} {nx : Nat} {A : Nat → Nat} {κ : Nat × Nat × Nat} {V : Sv} (h : SS ce nx A κ V) : ∃ lc, OB ce (A 5) (A 6) κ.2.1 lc ∧ SrtO V.2.2.2.1 lc := by
  obtain ⟨mp, at1, h1, h2, lc, a1, a2, a3, a4, a5, a6, a7, a8⟩ := h
  exact ⟨lc, a2, a3⟩
theorem ss_act {ce : Ce} {nx : Nat} {A : Nat → Nat} {κ : Nat × Nat × Nat} {V : Sv} (h : SS ce nx A κ V) : AC ce (A 7) (A 8) V.2.2.2.2.1 := by
  obtain ⟨mp, at1, h1, h2, lc, a1, a2, a3, a4, a5, a6, a7, a8⟩ := h
  exact a4
theorem ss_lt {ce : Ce} {nx : Nat} {A : Nat → Nat} {κ : Nat × Nat × Nat} {V : Sv} (h : SS ce nx A κ V) : (∀ i, i < 13 → A i < nx) ∧ ∀ i, i < 13 → ∀ j, j < 13 → i ≠ j → A i ≠ A j := by
  obtain ⟨mp, at1, h1, h2, lc, a1, a2, a3, a4, a5, a6, a7, a8⟩ := h
  exact ⟨a7, a8⟩
/-! numbers written -/
theorem ss_w1 {ce : Ce} {nx : Nat} {A : Nat → Nat} {κ : Nat × Nat × Nat} {M : Mv} {n : Nat → Nat} {X : Xv} (h : SS ce nx A κ (M, n, X)) (v : Nat) : Ok (pV ce 6 1 (A 0) (.int (nI v))) (fun d => SS d nx A κ (M, va_up n 8 v, X) ∧ Ev ce nx A κ d 0 0 A κ) := by
  obtain ⟨mp, at1, h1, h2, h3⟩ := h
  rw [pV_c h1 (show 1 < 15 by omega)]
  refine ok_some ⟨⟨mp, at1, ?_, fun z => h2 z, SSr_cell h3 _⟩, Ev_cell h1 rfl⟩
  rw [gu_e]
  rfl
theorem ss_w2 {ce : Ce} {nx : Nat} {A : Nat → Nat} {κ : Nat × Nat × Nat} {M : Mv} {n : Nat → Nat} {X : Xv} (h : SS ce nx A κ (M, n, X)) (v : Nat) : Ok (pV ce 6 2 (A 0) (.int (nI v))) (fun d => SS d nx A κ (M, va_up n 15 v, X) ∧ Ev ce nx A κ d 0 0 A κ) := by
  obtain ⟨mp, at1, h1, h2, h3⟩ := h
  rw [pV_c h1 (show 2 < 15 by omega)]
  refine ok_some ⟨⟨mp, at1, ?_, fun z => h2 z, SSr_cell h3 _⟩, Ev_cell h1 rfl⟩
  rw [gu_e]
  rfl
theorem ss_w3 {ce : Ce} {nx : Nat} {A : Nat → Nat} {κ : Nat × Nat × Nat} {M : Mv} {n : Nat → Nat} {X : Xv} (h : SS ce nx A κ (M, n, X)) (v : Nat) (hv : (v = 2 ∨ v = 3) → (n 5 = 2 ∨ n 5 = 3)) : Ok (pV ce 6 3 (A 0) (.int (nI v))) (fun d => SS d nx A κ (M, va_up n 5 v, X) ∧ Ev ce nx A κ d 0 0 A κ) := by
  obtain ⟨mp, at1, h1, h2, h3⟩ := h
  rw [pV_c h1 (show 3 < 15 by omega)]
  refine ok_some ⟨⟨mp, at1, ?_, fun z => h2 (hv z), SSr_cell h3 _⟩, Ev_cell h1 rfl⟩
  rw [gu_e]
  rfl
theorem ss_w4 {ce : Ce} {nx : Nat} {A : Nat → Nat} {κ : Nat × Nat × Nat} {M : Mv} {n : Nat → Nat} {X : Xv} (h : SS ce nx A κ (M, n, X)) (v : Nat) : Ok (pV ce 6 4 (A 0) (.int (nI v))) (fun d => SS d nx A κ (M, va_up n 4 v, X) ∧ Ev ce nx A κ d 0 0 A κ) := by
  obtain ⟨mp, at1, h1, h2, h3⟩ := h
  rw [pV_c h1 (show 4 < 15 by omega)]
  refine ok_some ⟨⟨mp, at1, ?_, fun z => h2 z, SSr_cell h3 _⟩, Ev_cell h1 rfl⟩
  rw [gu_e]
  rfl
theorem ss_w6 {ce : Ce} {nx : Nat} {A : Nat → Nat} {κ : Nat × Nat × Nat} {M : Mv} {n : Nat → Nat} {X : Xv} (h : SS ce nx A κ (M, n, X)) (v : Nat) : Ok (pV ce 6 6 (A 0) (.int (nI v))) (fun d => SS d nx A κ (M, va_up n 10 v, X) ∧ Ev ce nx A κ d 0 0 A κ) := by
  obtain ⟨mp, at1, h1, h2, h3⟩ := h
  rw [pV_c h1 (show 6 < 15 by omega)]
  refine ok_some ⟨⟨mp, at1, ?_, fun z => h2 z, SSr_cell h3 _⟩, Ev_cell h1 rfl⟩
  rw [gu_e]
  rfl
theorem ss_w7 {ce : Ce} {nx : Nat} {A : Nat → Nat} {κ : Nat × Nat × Nat} {M : Mv} {n : Nat → Nat} {X : Xv} (h : SS ce nx A κ (M, n, X)) (v : Nat) : Ok (pV ce 6 7 (A 0) (.int (nI v))) (fun d => SS d nx A κ (M, va_up n 11 v, X) ∧ Ev ce nx A κ d 0 0 A κ) := by
  obtain ⟨mp, at1, h1, h2, h3⟩ := h
  rw [pV_c h1 (show 7 < 15 by omega)]
  refine ok_some ⟨⟨mp, at1, ?_, fun z => h2 z, SSr_cell h3 _⟩, Ev_cell h1 rfl⟩
  rw [gu_e]
  rfl
theorem ss_w8 {ce : Ce} {nx : Nat} {A : Nat → Nat} {κ : Nat × Nat × Nat} {M : Mv} {n : Nat → Nat} {X : Xv} (h : SS ce nx A κ (M, n, X)) (v : Nat) : Ok (pV ce 6 8 (A 0) (.int (nI v))) (fun d => SS d nx A κ (M, va_up n 12 v, X) ∧ Ev ce nx A κ d 0 0 A κ) := by
  obtain ⟨mp, at1, h1, h2, h3⟩ := h
  rw [pV_c h1 (show 8 < 15 by omega)]
  refine ok_some ⟨⟨mp, at1, ?_, fun z => h2 z, SSr_cell h3 _⟩, Ev_cell h1 rfl⟩
  rw [gu_e]
  rfl
theorem ss_w9 {ce : Ce} {nx : Nat} {A : Nat → Nat} {κ : Nat × Nat × Nat} {M : Mv} {n : Nat → Nat} {X : Xv} (h : SS ce nx A κ (M, n, X)) (v : Nat) : Ok (pV ce 6 9 (A 0) (.int (nI v))) (fun d => SS d nx A κ (M, va_up n 13 v, X) ∧ Ev ce nx A κ d 0 0 A κ) := by
  obtain ⟨mp, at1, h1, h2, h3⟩ := h
  rw [pV_c h1 (show 9 < 15 by omega)]
  refine ok_some ⟨⟨mp, at1, ?_, fun z => h2 z, SSr_cell h3 _⟩, Ev_cell h1 rfl⟩
  rw [gu_e]
  rfl
theorem ss_w10 {ce : Ce} {nx : Nat} {A : Nat → Nat} {κ : Nat × Nat × Nat} {M : Mv} {n : Nat → Nat} {X : Xv} (h : SS ce nx A κ (M, n, X)) (v : Nat) : Ok (pV ce 6 10 (A 0) (.int (nI v))) (fun d => SS d nx A κ (M, va_up n 14 v, X) ∧ Ev ce nx A κ d 0 0 A κ) := by
  obtain ⟨mp, at1, h1, h2, h3⟩ := h
  rw [pV_c h1 (show 10 < 15 by omega)]
  refine ok_some ⟨⟨mp, at1, ?_, fun z => h2 z, SSr_cell h3 _⟩, Ev_cell h1 rfl⟩
  rw [gu_e]
  rfl
theorem ss_w5 {ce : Ce} {nx : Nat} {A : Nat → Nat} {κ : Nat × Nat × Nat} {M : Mv} {n : Nat → Nat} {X : Xv} (h : SS ce nx A κ (M, n, X)) (v : Nat) : Ok (pV ce 6 5 (A 0) (.int (nI v))) (fun d => SS d nx A κ (M, va_up n 6 v, X) ∧ Ev ce nx A κ d 0 0 A κ) := by
  obtain ⟨mp, at1, h1, h2, h3⟩ := h
  rw [pV_c h1 (show 5 < 15 by omega)]
  refine ok_some ⟨⟨mp, v, ?_, fun z => rfl, SSr_cell h3 _⟩, Ev_cell h1 rfl⟩
  rw [gu_e]
  rfl
theorem SS_n {ce : Ce} {nx : Nat} {A : Nat → Nat} {κ : Nat × Nat × Nat} {M : Mv} {n n2 : Nat → Nat} {X : Xv} (h : SS ce nx A κ (M, n, X)) (hn : ∀ k, k ∈ nums → n2 k = n k) : SS ce nx A κ (M, n2, X) := by
  obtain ⟨mp, at1, h1, h2, h3⟩ := h
  have e : Sob A mp n2 at1 = Sob A mp n at1 := by
    unfold Sob
    rw [hn 8 (by decide), hn 15 (by decide), hn 5 (by decide), hn 4 (by decide), hn 10 (by decide), hn 11 (by decide), hn 12 (by decide), hn 13 (by decide), hn 14 (by decide)]
  refine ⟨mp, at1, ?_, fun z => ?_, h3⟩
  · show ce (A 0) = some (.inr (6, Sob A mp n2 at1))
    rw [e]
    exact h1
  · have z : n2 5 = 2 ∨ n2 5 = 3 := z
    rw [hn 5 (by decide)] at z
    show at1 = n2 6
    rw [hn 6 (by decide)]
    exact h2 z
/-! the parts written -/
theorem ss_frames {ce : Ce} {nx : Nat} {A : Nat → Nat} {κ : Nat × Nat × Nat} {M : Mv} {n : Nat → Nat} {fr fr2 : List Cu} {Y : List Ln × (Nat → UInt32) × List (Nat × Nat)} (h : SS ce nx A κ (M, n, fr, Y)) {d : Ce} {K S : Nat} (ht : RowTo ce nx (A 1) (A 2) (A 3) (A 4) κ.1 (srtF fr2) d K S) : ∃ A2 κ2, SS d (nx + K) A2 κ2 (M, n, fr2, Y) ∧ Ev ce nx A κ d K S A2 κ2 := by
  obtain ⟨mp, at1, h1, h2, lc, a1, a2, a3, a4, a5, a6, a7, a8⟩ := h
  obtain ⟨f2, g2, s2, cap2, t1, t2, t3, t4⟩ := ht
  have b0 : ∀ i, i < 13 → i ≠ 1 → i ≠ 2 → i ≠ 3 → i ≠ 4 → d (A i) = ce (A i) := fun i hi j1 j2 j3 j4 => t4 _ (a8 i hi 1 (by omega) j1) (a8 i hi 2 (by omega) j2) (a8 i hi 3 (by omega) j3) (a8 i hi 4 (by omega) j4) (a7 i hi)
  have l0 := a7 0 (by omega)
  have l1 := a7 1 (by omega)
  have l2 := a7 2 (by omega)
  have l3 := a7 3 (by omega)
  have l4 := a7 4 (by omega)
  generalize hA2 : (fun i => if i = 2 then f2 else if i = 3 then g2 else if i = 4 then s2 else A i) = A2
  have e2 : A2 2 = f2 := by rw [← hA2]; rfl
  have e3 : A2 3 = g2 := by rw [← hA2]; rfl
  have e4 : A2 4 = s2 := by rw [← hA2]; rfl
  have eo : ∀ i, i ≠ 2 → i ≠ 3 → i ≠ 4 → A2 i = A i := fun i j1 j2 j3 => by
    rw [← hA2]
    show (if i = 2 then f2 else if i = 3 then g2 else if i = 4 then s2 else A i) = A i
    rw [if_neg j1, if_neg j2, if_neg j3]
  have hev : ∀ i, i < 13 → A2 i = A i ∨ nx ≤ A2 i := by
    intro i hi
    by_cases j2 : i = 2
    · subst j2; rw [e2]; omega
    · by_cases j3 : i = 3
      · subst j3; rw [e3]; omega
      · by_cases j4 : i = 4
        · subst j4; rw [e4]; omega
        · exact Or.inl (eo i j2 j3 j4)
  have hfr : ∀ b, b < nx → Off A b → d b = ce b := fun b hb ho => t4 b (ho 1 (by omega)) (ho 2 (by omega)) (ho 3 (by omega)) (ho 4 (by omega)) hb
  have hb : ∀ i, i < 13 → A2 i < nx + K := by
    intro i hi
    have := a7 i hi
    by_cases j2 : i = 2
    · subst j2; rw [e2]; omega
    · by_cases j3 : i = 3
      · subst j3; rw [e3]; omega
      · by_cases j4 : i = 4
        · subst j4; rw [e4]; omega
        · rw [eo i j2 j3 j4]; omega
  refine ⟨A2, (cap2, κ.2.1, κ.2.2), ⟨mp, at1, ?_, h2, lc, ?_, ?_, a3, ?_, ?_, MA_congr (fun b hb => hfr b hb.1 hb.2) (fun b hb => ⟨by omega, Off_ev hev hb.1 hb.2⟩) a6, hb, ?_⟩, ?_⟩
  · have e : Sob A2 mp n at1 = Sob A mp n at1 := by
      unfold Sob
      rw [eo 1 (by omega) (by omega) (by omega), eo 5 (by omega) (by omega) (by omega), eo 7 (by omega) (by omega) (by omega), eo 9 (by omega) (by omega) (by omega)]
    show d (A2 0) = some (.inr (6, Sob A2 mp n at1))
    rw [e, eo 0 (by omega) (by omega) (by omega), b0 0 (by omega) (by omega) (by omega) (by omega) (by omega)]
    exact h1
  · rw [eo 1 (by omega) (by omega) (by omega), e2, e3, e4]
    exact t1
  · rw [eo 5 (by omega) (by omega) (by omega), eo 6 (by omega) (by omega) (by omega)]
    exact OB_congr (b0 5 (by omega) (by omega) (by omega) (by omega) (by omega)) (b0 6 (by omega) (by omega) (by omega) (by omega) (by omega)) a2
  · rw [eo 7 (by omega) (by omega) (by omega), eo 8 (by omega) (by omega) (by omega)]
    exact AC_congr (b0 7 (by omega) (by omega) (by omega) (by omega) (by omega)) (b0 8 (by omega) (by omega) (by omega) (by omega) (by omega)) a4
  · rw [eo 9 (by omega) (by omega) (by omega), eo 10 (by omega) (by omega) (by omega), eo 11 (by omega) (by omega) (by omega), eo 12 (by omega) (by omega) (by omega)]
    exact RW_congr (b0 9 (by omega) (by omega) (by omega) (by omega) (by omega)) (b0 10 (by omega) (by omega) (by omega) (by omega) (by omega)) (b0 11 (by omega) (by omega) (by omega) (by omega) (by omega)) (b0 12 (by omega) (by omega) (by omega) (by omega) (by omega)) a5
  · have hD := t2
    unfold D4 at hD
    rcases t3 with ⟨z1, z2, z3, z4, z5, z6⟩ | ⟨z1, z2, z3, z4, z5, z6⟩
    · have : A2 = A := by
        funext i
        by_cases j2 : i = 2
        · subst j2; rw [e2, z1]
        · by_cases j3 : i = 3
          · subst j3; rw [e3, z2]
          · by_cases j4 : i = 4
            · subst j4; rw [e4, z3]
            · exact eo i j2 j3 j4
      rw [this]
      exact a8
    · have hval : ∀ i, i < 13 → (i = 2 ∧ A2 i = nx) ∨ (i = 3 ∧ A2 i = nx + 1) ∨ (i = 4 ∧ A2 i = nx + 2) ∨ (i ≠ 2 ∧ i ≠ 3 ∧ i ≠ 4 ∧ A2 i = A i ∧ A i < nx) := by
        intro i hi
        have := a7 i hi
        by_cases j2 : i = 2
        · exact Or.inl ⟨j2, by rw [j2, e2, z1]⟩
        · by_cases j3 : i = 3
          · exact Or.inr (Or.inl ⟨j3, by rw [j3, e3, z2]⟩)
          · by_cases j4 : i = 4
            · exact Or.inr (Or.inr (Or.inl ⟨j4, by rw [j4, e4, z3]⟩))
            · exact Or.inr (Or.inr (Or.inr ⟨j2, j3, j4, eo i j2 j3 j4, this⟩))
      intro i hi j hj hij
      have v1 := hval i hi
      have v2 := hval j hj
      have v3 := a8 i hi j hj hij
      omega
  · refine ⟨eo 0 (by omega) (by omega) (by omega), hfr, hev, ?_, ?_, by unfold gA; rw [b0 0 (by omega) (by omega) (by omega) (by omega) (by omega)]⟩
    · unfold Phi
      show _ ≤ 6 * cap2 + 2 * κ.2.1 + 6 * κ.2.2
      omega
    · unfold Phi
      show _ ≤ 6 * cap2 + 2 * κ.2.1 + 6 * κ.2.2
      omega
theorem ss_obs {ce : Ce} {nx : Nat} {A : Nat → Nat} {κ : Nat × Nat × Nat} {M : Mv} {n : Nat → Nat} {fr : List Cu} {ob ob2 : List Ln} {Y : (Nat → UInt32) × List (Nat × Nat)} (h : SS ce nx A κ (M, n, fr, ob, Y)) {lc2 : List Ln} (hs : SrtO ob2 lc2) {d : Ce} {K S : Nat} (ht : OboTo ce nx (A 5) (A 6) κ.2.1 lc2 d K S) : ∃ A2 κ2, SS d (nx + K) A2 κ2 (M, n, fr, ob2, Y) ∧ Ev ce nx A κ d K S A2 κ2 := by
  obtain ⟨mp, at1, h1, h2, lc, a1, a2, a3, a4, a5, a6, a7, a8⟩ := h
  obtain ⟨p2, cap2, t1, t2, t3, t4⟩ := ht
  have b0 : ∀ i, i < 13 → i ≠ 5 → i ≠ 6 → d (A i) = ce (A i) := fun i hi j1 j2 => t4 _ (a8 i hi 5 (by omega) j1) (a8 i hi 6 (by omega) j2) (a7 i hi)
  have l6 := a7 6 (by omega)
  have hev : ∀ i, i < 13 → va_up A 6 p2 i = A i ∨ nx ≤ va_up A 6 p2 i := by
    intro i hi
    by_cases j : i = 6
    · subst j; rw [up_e]; omega
    · exact Or.inl (up_n _ _ _ j)
  have hfr : ∀ b, b < nx → Off A b → d b = ce b := fun b hb ho => t4 b (ho 5 (by omega)) (ho 6 (by omega)) hb
  refine ⟨va_up A 6 p2, (κ.1, cap2, κ.2.2), ⟨mp, at1, ?_, h2, lc2, ?_, ?_, hs, ?_, ?_, MA_congr (fun b hb => hfr b hb.1 hb.2) (fun b hb => ⟨by omega, Off_ev hev hb.1 hb.2⟩) a6, fun i hi => ?_, fun i hi j hj hij => ?_⟩, ?_⟩
  · show d (A 0) = some (.inr (6, Sob A mp n at1))
    rw [b0 0 (by omega) (by omega) (by omega)]
    exact h1
  · exact RW_congr (b0 1 (by omega) (by omega) (by omega)) (b0 2 (by omega) (by omega) (by omega)) (b0 3 (by omega) (by omega) (by omega)) (b0 4 (by omega) (by omega) (by omega)) a1
  · exact t1
  · exact AC_congr (b0 7 (by omega) (by omega) (by omega)) (b0 8 (by omega) (by omega) (by omega)) a4
  · exact RW_congr (b0 9 (by omega) (by omega) (by omega)) (b0 10 (by omega) (by omega) (by omega)) (b0 11 (by omega) (by omega) (by omega)) (b0 12 (by omega) (by omega) (by omega)) a5
  · have := a7 i hi
    by_cases j : i = 6
    · subst j; rw [up_e]; omega
    · rw [up_n _ _ _ j]; omega
  · have v1 := a7 i hi
    have v2 := a7 j hj
    have v3 := a8 i hi j hj hij
    by_cases ji : i = 6
    · subst ji
      rw [up_e, up_n _ _ _ (fun e => hij e.symm)]
      omega
    · rw [up_n _ _ _ ji]
      by_cases jj : j = 6
      · subst jj
        rw [up_e]
        omega
      · rw [up_n _ _ _ jj]
        exact v3
  · refine ⟨up_n _ _ _ (by omega), hfr, hev, ?_, ?_, by unfold gA; rw [b0 0 (by omega) (by omega) (by omega)]⟩
    · unfold Phi
      show _ ≤ 6 * κ.1 + 2 * cap2 + 6 * κ.2.2
      omega
    · unfold Phi
      show _ ≤ 6 * κ.1 + 2 * cap2 + 6 * κ.2.2
      omega
theorem ss_acts {ce : Ce} {nx : Nat} {A : Nat → Nat} {κ : Nat × Nat × Nat} {M : Mv} {n : Nat → Nat} {fr : List Cu} {ob : List Ln} {fl fl2 : Nat → UInt32} {cl : List (Nat × Nat)} (h : SS ce nx A κ (M, n, fr, ob, fl, cl)) {d : Ce} (h2 : AC d (A 7) (A 8) fl2) (hf : ∀ b, b ≠ A 7 → b ≠ A 8 → d b = ce b) : SS d nx A κ (M, n, fr, ob, fl2, cl) ∧ Ev ce nx A κ d 0 0 A κ := by
  obtain ⟨mp, at1, h1, h3, lc, a1, a2, a3, a4, a5, a6, a7, a8⟩ := h
  have b0 : ∀ i, i < 13 → i ≠ 7 → i ≠ 8 → d (A i) = ce (A i) := fun i hi j1 j2 => hf _ (a8 i hi 7 (by omega) j1) (a8 i hi 8 (by omega) j2)
  refine ⟨⟨mp, at1, ?_, h3, lc, ?_, ?_, a3, h2, ?_, MA_congr (fun b hb => hf b (hb.2 7 (by omega)) (hb.2 8 (by omega))) (fun _ hb => hb) a6, a7, a8⟩, rfl, fun b hb ho => hf b (ho 7 (by omega)) (ho 8 (by omega)), fun _ _ => Or.inl rfl, Nat.le_refl _, Nat.le_refl _, by unfold gA; rw [b0 0 (by omega) (by omega) (by omega)]⟩
  · rw [b0 0 (by omega) (by omega) (by omega)]
    exact h1
  · exact RW_congr (b0 1 (by omega) (by omega) (by omega)) (b0 2 (by omega) (by omega) (by omega)) (b0 3 (by omega) (by omega) (by omega)) (b0 4 (by omega) (by omega) (by omega)) a1
  · exact OB_congr (b0 5 (by omega) (by omega) (by omega)) (b0 6 (by omega) (by omega) (by omega)) a2
  · exact RW_congr (b0 9 (by omega) (by omega) (by omega)) (b0 10 (by omega) (by omega) (by omega)) (b0 11 (by omega) (by omega) (by omega)) (b0 12 (by omega) (by omega) (by omega)) a5
