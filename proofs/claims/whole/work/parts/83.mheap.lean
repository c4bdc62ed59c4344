/-! THE REFERENCE'S OBJECT: at m, its arrays at m + 1 .. m + 17, as the constructor makes them -/
/-- what it holds: int arrays, long arrays, float arrays (by their places among the arrays), numbers (by theirs among the numbers) -/
abbrev MS : Type := (Nat → Nat → Int32) × (Nat → Nat → Int64) × (Nat → Nat → UInt32) × (Nat → Int32)
def mObj (m : Nat) (μ : MS) : PE := .inr (9, [.ref (m + 1), .ref (m + 2), .ref (m + 3), .ref (m + 4), .ref (m + 5), .ref (m + 6), .ref (m + 7), .int (μ.2.2.2 0), .int (μ.2.2.2 1), .int (μ.2.2.2 2), .int (μ.2.2.2 3), .int (μ.2.2.2 4), .int (μ.2.2.2 5), .int (μ.2.2.2 6), .ref (m + 8), .ref (m + 9), .int (μ.2.2.2 7), .int (μ.2.2.2 8), .int (μ.2.2.2 9), .int (μ.2.2.2 10), .int (μ.2.2.2 11), .int (μ.2.2.2 12), .int (μ.2.2.2 13), .ref (m + 10), .ref (m + 11), .ref (m + 12), .ref (m + 13), .ref (m + 14), .int (μ.2.2.2 14), .ref (m + 15), .ref (m + 16), .int (μ.2.2.2 15), .ref (m + 17)])
def mCell (μ : MS) (j : Nat) : PE := match j with
  | 0 => .inl (.int, 113844, .inl (μ.1 0))
  | 1 => .inl (.int, 113844, .inl (μ.1 1))
  | 2 => .inl (.float, 147, .inr (.inr (.inl (μ.2.2.1 2))))
  | 3 => .inl (.float, 147, .inr (.inr (.inl (μ.2.2.1 3))))
  | 4 => .inl (.int, 8, .inl (μ.1 4))
  | 5 => .inl (.long, 116, .inr (.inl (μ.2.1 5)))
  | 6 => .inl (.int, 300, .inl (μ.1 6))
  | 7 => .inl (.long, 160, .inr (.inl (μ.2.1 7)))
  | 8 => .inl (.int, 80, .inl (μ.1 8))
  | 9 => .inl (.int, 6, .inl (μ.1 9))
  | 10 => .inl (.int, 5000, .inl (μ.1 10))
  | 11 => .inl (.int, 5421, .inl (μ.1 11))
  | 12 => .inl (.float, 7, .inr (.inr (.inl (μ.2.2.1 12))))
  | 13 => .inl (.int, 80, .inl (μ.1 13))
  | 14 => .inl (.int, 5000, .inl (μ.1 14))
  | 15 => .inl (.int, 5000, .inl (μ.1 15))
  | _ => .inl (.long, 12, .inr (.inl (μ.2.1 16)))
def wr (c : Ce) (m : Nat) (μ : MS) : Ce := fun b => if b = m then some (mObj m μ) else if m < b ∧ b ≤ m + 17 then some (mCell μ (b - m - 1)) else c b
theorem wr_m (c : Ce) (m : Nat) (μ : MS) : wr c m μ m = some (mObj m μ) := if_pos rfl
theorem wr_a (c : Ce) (m : Nat) (μ : MS) (j : Nat) (hj : j < 17) : wr c m μ (m + (j + 1)) = some (mCell μ j) := by
  unfold wr
  rw [if_neg (by omega), if_pos (by omega), show m + (j + 1) - m - 1 = j by omega]
theorem wr_o (c : Ce) (m : Nat) (μ : MS) (b : Nat) (h : b < m ∨ m + 17 < b) : wr c m μ b = c b := by
  unfold wr
  rw [if_neg (by omega), if_neg (by omega)]
theorem wr_rcv (c : Ce) (m : Nat) (μ : MS) : rcv (wr c m μ) 9 m = some () := by
  unfold rcv
  rw [wr_m]
  rfl
theorem wr_up (c : Ce) (m : Nat) (μ ν : MS) (j : Nat) (hj : j < 17) (e : PE) (he : mCell ν j = e) (ho : mObj m ν = mObj m μ) (hr : ∀ i, i < 17 → i ≠ j → mCell ν i = mCell μ i) : gx_up (wr c m μ) (m + (j + 1)) e = wr c m ν := by
  funext b
  unfold gx_up
  by_cases hb : b = m + (j + 1)
  · subst hb
    rw [if_pos rfl, wr_a c m ν j hj, he]
  · rw [if_neg hb]
    unfold wr
    by_cases h1 : b = m
    · rw [if_pos h1, if_pos h1, ho]
    · rw [if_neg h1, if_neg h1]
      by_cases h2 : m < b ∧ b ≤ m + 17
      · rw [if_pos h2, if_pos h2, hr _ (by omega) (by omega)]
      · rw [if_neg h2, if_neg h2]
theorem wr_upm (c : Ce) (m : Nat) (μ ν : MS) (e : PE) (he : mObj m ν = e) (hr : ∀ i, mCell ν i = mCell μ i) : gx_up (wr c m μ) m e = wr c m ν := by
  funext b
  unfold gx_up
  by_cases hb : b = m
  · subst hb
    rw [if_pos rfl, wr_m, he]
  · rw [if_neg hb]
    unfold wr
    rw [if_neg hb, if_neg hb]
    by_cases h2 : m < b ∧ b ≤ m + 17
    · rw [if_pos h2, if_pos h2, hr]
    · rw [if_neg h2, if_neg h2]
theorem wr_g0 (c : Ce) (m : Nat) (μ : MS) : gA (wr c m μ) 9 0 m = some (m + 1) := by unfold gA; rw [wr_m]; rfl
theorem wr_r0 (c : Ce) (m : Nat) (μ : MS) (i : Int32) : aI (wr c m μ) (m + 1) i = if i < 0 ∨ 113844 ≤ i.toNatClampNeg then none else some (μ.1 0 i.toNatClampNeg) := by unfold aI; rw [wr_a c m μ 0 (by decide)]; rfl
theorem wr_s0 (c : Ce) (m : Nat) (μ : MS) (i v : Int32) : sI (wr c m μ) (m + 1) i v = if i < 0 ∨ 113844 ≤ i.toNatClampNeg then none else some (wr c m (va_up μ.1 0 (va_up (μ.1 0) i.toNatClampNeg v), μ.2)) := by
  unfold sI
  rw [wr_a c m μ 0 (by decide)]
  show (if i < 0 ∨ 113844 ≤ i.toNatClampNeg then none else some (gx_up _ _ _)) = _
  rw [wr_up c m μ (va_up μ.1 0 (va_up (μ.1 0) i.toNatClampNeg v), μ.2) 0 (by decide) _ (by simp [mCell, va_up]) rfl (fun j hlt hj => by unfold mCell; split <;> first | (simp_all [va_up]; done) | (exfalso; simp_all; omega))]
theorem wr_g1 (c : Ce) (m : Nat) (μ : MS) : gA (wr c m μ) 9 1 m = some (m + 2) := by unfold gA; rw [wr_m]; rfl
theorem wr_r1 (c : Ce) (m : Nat) (μ : MS) (i : Int32) : aI (wr c m μ) (m + 2) i = if i < 0 ∨ 113844 ≤ i.toNatClampNeg then none else some (μ.1 1 i.toNatClampNeg) := by unfold aI; rw [wr_a c m μ 1 (by decide)]; rfl
theorem wr_s1 (c : Ce) (m : Nat) (μ : MS) (i v : Int32) : sI (wr c m μ) (m + 2) i v = if i < 0 ∨ 113844 ≤ i.toNatClampNeg then none else some (wr c m (va_up μ.1 1 (va_up (μ.1 1) i.toNatClampNeg v), μ.2)) := by
  unfold sI
  rw [wr_a c m μ 1 (by decide)]
  show (if i < 0 ∨ 113844 ≤ i.toNatClampNeg then none else some (gx_up _ _ _)) = _
  rw [wr_up c m μ (va_up μ.1 1 (va_up (μ.1 1) i.toNatClampNeg v), μ.2) 1 (by decide) _ (by simp [mCell, va_up]) rfl (fun j hlt hj => by unfold mCell; split <;> first | (simp_all [va_up]; done) | (exfalso; simp_all; omega))]
theorem wr_g2 (c : Ce) (m : Nat) (μ : MS) : gA (wr c m μ) 9 2 m = some (m + 3) := by unfold gA; rw [wr_m]; rfl
theorem wr_r2 (c : Ce) (m : Nat) (μ : MS) (i : Int32) : aG (wr c m μ) (m + 3) i = if i < 0 ∨ 147 ≤ i.toNatClampNeg then none else some (μ.2.2.1 2 i.toNatClampNeg) := by unfold aG; rw [wr_a c m μ 2 (by decide)]; rfl
theorem wr_s2 (c : Ce) (m : Nat) (μ : MS) (i : Int32) (v : UInt32) : sG (wr c m μ) (m + 3) i v = if i < 0 ∨ 147 ≤ i.toNatClampNeg then none else some (wr c m (μ.1, μ.2.1, va_up μ.2.2.1 2 (va_up (μ.2.2.1 2) i.toNatClampNeg v), μ.2.2.2)) := by
  unfold sG
  rw [wr_a c m μ 2 (by decide)]
  show (if i < 0 ∨ 147 ≤ i.toNatClampNeg then none else some (gx_up _ _ _)) = _
  rw [wr_up c m μ (μ.1, μ.2.1, va_up μ.2.2.1 2 (va_up (μ.2.2.1 2) i.toNatClampNeg v), μ.2.2.2) 2 (by decide) _ (by simp [mCell, va_up]) rfl (fun j hlt hj => by unfold mCell; split <;> first | (simp_all [va_up]; done) | (exfalso; simp_all; omega))]
theorem wr_g3 (c : Ce) (m : Nat) (μ : MS) : gA (wr c m μ) 9 3 m = some (m + 4) := by unfold gA; rw [wr_m]; rfl
theorem wr_r3 (c : Ce) (m : Nat) (μ : MS) (i : Int32) : aG (wr c m μ) (m + 4) i = if i < 0 ∨ 147 ≤ i.toNatClampNeg then none else some (μ.2.2.1 3 i.toNatClampNeg) := by unfold aG; rw [wr_a c m μ 3 (by decide)]; rfl
theorem wr_s3 (c : Ce) (m : Nat) (μ : MS) (i : Int32) (v : UInt32) : sG (wr c m μ) (m + 4) i v = if i < 0 ∨ 147 ≤ i.toNatClampNeg then none else some (wr c m (μ.1, μ.2.1, va_up μ.2.2.1 3 (va_up (μ.2.2.1 3) i.toNatClampNeg v), μ.2.2.2)) := by
  unfold sG
  rw [wr_a c m μ 3 (by decide)]
  show (if i < 0 ∨ 147 ≤ i.toNatClampNeg then none else some (gx_up _ _ _)) = _
  rw [wr_up c m μ (μ.1, μ.2.1, va_up μ.2.2.1 3 (va_up (μ.2.2.1 3) i.toNatClampNeg v), μ.2.2.2) 3 (by decide) _ (by simp [mCell, va_up]) rfl (fun j hlt hj => by unfold mCell; split <;> first | (simp_all [va_up]; done) | (exfalso; simp_all; omega))]
theorem wr_g4 (c : Ce) (m : Nat) (μ : MS) : gA (wr c m μ) 9 4 m = some (m + 5) := by unfold gA; rw [wr_m]; rfl
theorem wr_r4 (c : Ce) (m : Nat) (μ : MS) (i : Int32) : aI (wr c m μ) (m + 5) i = if i < 0 ∨ 8 ≤ i.toNatClampNeg then none else some (μ.1 4 i.toNatClampNeg) := by unfold aI; rw [wr_a c m μ 4 (by decide)]; rfl
theorem wr_s4 (c : Ce) (m : Nat) (μ : MS) (i v : Int32) : sI (wr c m μ) (m + 5) i v = if i < 0 ∨ 8 ≤ i.toNatClampNeg then none else some (wr c m (va_up μ.1 4 (va_up (μ.1 4) i.toNatClampNeg v), μ.2)) := by
  unfold sI
  rw [wr_a c m μ 4 (by decide)]
  show (if i < 0 ∨ 8 ≤ i.toNatClampNeg then none else some (gx_up _ _ _)) = _
  rw [wr_up c m μ (va_up μ.1 4 (va_up (μ.1 4) i.toNatClampNeg v), μ.2) 4 (by decide) _ (by simp [mCell, va_up]) rfl (fun j hlt hj => by unfold mCell; split <;> first | (simp_all [va_up]; done) | (exfalso; simp_all; omega))]
theorem wr_g5 (c : Ce) (m : Nat) (μ : MS) : gA (wr c m μ) 9 5 m = some (m + 6) := by unfold gA; rw [wr_m]; rfl
theorem wr_r5 (c : Ce) (m : Nat) (μ : MS) (i : Int32) : aL (wr c m μ) (m + 6) i = if i < 0 ∨ 116 ≤ i.toNatClampNeg then none else some (μ.2.1 5 i.toNatClampNeg) := by unfold aL; rw [wr_a c m μ 5 (by decide)]; rfl
theorem wr_s5 (c : Ce) (m : Nat) (μ : MS) (i : Int32) (v : Int64) : sL (wr c m μ) (m + 6) i v = if i < 0 ∨ 116 ≤ i.toNatClampNeg then none else some (wr c m (μ.1, va_up μ.2.1 5 (va_up (μ.2.1 5) i.toNatClampNeg v), μ.2.2)) := by
  unfold sL
  rw [wr_a c m μ 5 (by decide)]
  show (if i < 0 ∨ 116 ≤ i.toNatClampNeg then none else some (gx_up _ _ _)) = _
  rw [wr_up c m μ (μ.1, va_up μ.2.1 5 (va_up (μ.2.1 5) i.toNatClampNeg v), μ.2.2) 5 (by decide) _ (by simp [mCell, va_up]) rfl (fun j hlt hj => by unfold mCell; split <;> first | (simp_all [va_up]; done) | (exfalso; simp_all; omega))]
theorem wr_g6 (c : Ce) (m : Nat) (μ : MS) : gA (wr c m μ) 9 6 m = some (m + 7) := by unfold gA; rw [wr_m]; rfl
theorem wr_r6 (c : Ce) (m : Nat) (μ : MS) (i : Int32) : aI (wr c m μ) (m + 7) i = if i < 0 ∨ 300 ≤ i.toNatClampNeg then none else some (μ.1 6 i.toNatClampNeg) := by unfold aI; rw [wr_a c m μ 6 (by decide)]; rfl
theorem wr_s6 (c : Ce) (m : Nat) (μ : MS) (i v : Int32) : sI (wr c m μ) (m + 7) i v = if i < 0 ∨ 300 ≤ i.toNatClampNeg then none else some (wr c m (va_up μ.1 6 (va_up (μ.1 6) i.toNatClampNeg v), μ.2)) := by
  unfold sI
  rw [wr_a c m μ 6 (by decide)]
  show (if i < 0 ∨ 300 ≤ i.toNatClampNeg then none else some (gx_up _ _ _)) = _
  rw [wr_up c m μ (va_up μ.1 6 (va_up (μ.1 6) i.toNatClampNeg v), μ.2) 6 (by decide) _ (by simp [mCell, va_up]) rfl (fun j hlt hj => by unfold mCell; split <;> first | (simp_all [va_up]; done) | (exfalso; simp_all; omega))]
theorem wr_g7 (c : Ce) (m : Nat) (μ : MS) : gI (wr c m μ) 9 7 m = some (μ.2.2.2 0) := by unfold gI; rw [wr_m]; rfl
theorem wr_s7 (c : Ce) (m : Nat) (μ : MS) (v : Int32) : pV (wr c m μ) 9 7 m (.int v) = some (wr c m (μ.1, μ.2.1, μ.2.2.1, va_up μ.2.2.2 0 v)) := by
  unfold pV
  rw [wr_m]
  show some (gx_up _ _ _) = _
  rw [wr_upm c m μ (μ.1, μ.2.1, μ.2.2.1, va_up μ.2.2.2 0 v) _ (by simp [mObj, va_up]) (fun _ => rfl)]
theorem wr_g8 (c : Ce) (m : Nat) (μ : MS) : gI (wr c m μ) 9 8 m = some (μ.2.2.2 1) := by unfold gI; rw [wr_m]; rfl
theorem wr_s8 (c : Ce) (m : Nat) (μ : MS) (v : Int32) : pV (wr c m μ) 9 8 m (.int v) = some (wr c m (μ.1, μ.2.1, μ.2.2.1, va_up μ.2.2.2 1 v)) := by
  unfold pV
  rw [wr_m]
  show some (gx_up _ _ _) = _
  rw [wr_upm c m μ (μ.1, μ.2.1, μ.2.2.1, va_up μ.2.2.2 1 v) _ (by simp [mObj, va_up]) (fun _ => rfl)]
theorem wr_g9 (c : Ce) (m : Nat) (μ : MS) : gI (wr c m μ) 9 9 m = some (μ.2.2.2 2) := by unfold gI; rw [wr_m]; rfl
theorem wr_s9 (c : Ce) (m : Nat) (μ : MS) (v : Int32) : pV (wr c m μ) 9 9 m (.int v) = some (wr c m (μ.1, μ.2.1, μ.2.2.1, va_up μ.2.2.2 2 v)) := by
  unfold pV
  rw [wr_m]
  show some (gx_up _ _ _) = _
  rw [wr_upm c m μ (μ.1, μ.2.1, μ.2.2.1, va_up μ.2.2.2 2 v) _ (by simp [mObj, va_up]) (fun _ => rfl)]
theorem wr_g10 (c : Ce) (m : Nat) (μ : MS) : gI (wr c m μ) 9 10 m = some (μ.2.2.2 3) := by unfold gI; rw [wr_m]; rfl
theorem wr_s10 (c : Ce) (m : Nat) (μ : MS) (v : Int32) : pV (wr c m μ) 9 10 m (.int v) = some (wr c m (μ.1, μ.2.1, μ.2.2.1, va_up μ.2.2.2 3 v)) := by
  unfold pV
  rw [wr_m]
  show some (gx_up _ _ _) = _
  rw [wr_upm c m μ (μ.1, μ.2.1, μ.2.2.1, va_up μ.2.2.2 3 v) _ (by simp [mObj, va_up]) (fun _ => rfl)]
theorem wr_g11 (c : Ce) (m : Nat) (μ : MS) : gI (wr c m μ) 9 11 m = some (μ.2.2.2 4) := by unfold gI; rw [wr_m]; rfl
theorem wr_s11 (c : Ce) (m : Nat) (μ : MS) (v : Int32) : pV (wr c m μ) 9 11 m (.int v) = some (wr c m (μ.1, μ.2.1, μ.2.2.1, va_up μ.2.2.2 4 v)) := by
  unfold pV
  rw [wr_m]
  show some (gx_up _ _ _) = _
  rw [wr_upm c m μ (μ.1, μ.2.1, μ.2.2.1, va_up μ.2.2.2 4 v) _ (by simp [mObj, va_up]) (fun _ => rfl)]
theorem wr_g12 (c : Ce) (m : Nat) (μ : MS) : gI (wr c m μ) 9 12 m = some (μ.2.2.2 5) := by unfold gI; rw [wr_m]; rfl
theorem wr_s12 (c : Ce) (m : Nat) (μ : MS) (v : Int32) : pV (wr c m μ) 9 12 m (.int v) = some (wr c m (μ.1, μ.2.1, μ.2.2.1, va_up μ.2.2.2 5 v)) := by
  unfold pV
  rw [wr_m]
  show some (gx_up _ _ _) = _
  rw [wr_upm c m μ (μ.1, μ.2.1, μ.2.2.1, va_up μ.2.2.2 5 v) _ (by simp [mObj, va_up]) (fun _ => rfl)]
theorem wr_g13 (c : Ce) (m : Nat) (μ : MS) : gI (wr c m μ) 9 13 m = some (μ.2.2.2 6) := by unfold gI; rw [wr_m]; rfl
theorem wr_s13 (c : Ce) (m : Nat) (μ : MS) (v : Int32) : pV (wr c m μ) 9 13 m (.int v) = some (wr c m (μ.1, μ.2.1, μ.2.2.1, va_up μ.2.2.2 6 v)) := by
  unfold pV
  rw [wr_m]
  show some (gx_up _ _ _) = _
  rw [wr_upm c m μ (μ.1, μ.2.1, μ.2.2.1, va_up μ.2.2.2 6 v) _ (by simp [mObj, va_up]) (fun _ => rfl)]
theorem wr_g14 (c : Ce) (m : Nat) (μ : MS) : gA (wr c m μ) 9 14 m = some (m + 8) := by unfold gA; rw [wr_m]; rfl
theorem wr_r14 (c : Ce) (m : Nat) (μ : MS) (i : Int32) : aL (wr c m μ) (m + 8) i = if i < 0 ∨ 160 ≤ i.toNatClampNeg then none else some (μ.2.1 7 i.toNatClampNeg) := by unfold aL; rw [wr_a c m μ 7 (by decide)]; rfl
theorem wr_s14 (c : Ce) (m : Nat) (μ : MS) (i : Int32) (v : Int64) : sL (wr c m μ) (m + 8) i v = if i < 0 ∨ 160 ≤ i.toNatClampNeg then none else some (wr c m (μ.1, va_up μ.2.1 7 (va_up (μ.2.1 7) i.toNatClampNeg v), μ.2.2)) := by
  unfold sL
  rw [wr_a c m μ 7 (by decide)]
  show (if i < 0 ∨ 160 ≤ i.toNatClampNeg then none else some (gx_up _ _ _)) = _
  rw [wr_up c m μ (μ.1, va_up μ.2.1 7 (va_up (μ.2.1 7) i.toNatClampNeg v), μ.2.2) 7 (by decide) _ (by simp [mCell, va_up]) rfl (fun j hlt hj => by unfold mCell; split <;> first | (simp_all [va_up]; done) | (exfalso; simp_all; omega))]
theorem wr_g15 (c : Ce) (m : Nat) (μ : MS) : gA (wr c m μ) 9 15 m = some (m + 9) := by unfold gA; rw [wr_m]; rfl
theorem wr_r15 (c : Ce) (m : Nat) (μ : MS) (i : Int32) : aI (wr c m μ) (m + 9) i = if i < 0 ∨ 80 ≤ i.toNatClampNeg then none else some (μ.1 8 i.toNatClampNeg) := by unfold aI; rw [wr_a c m μ 8 (by decide)]; rfl
theorem wr_s15 (c : Ce) (m : Nat) (μ : MS) (i v : Int32) : sI (wr c m μ) (m + 9) i v = if i < 0 ∨ 80 ≤ i.toNatClampNeg then none else some (wr c m (va_up μ.1 8 (va_up (μ.1 8) i.toNatClampNeg v), μ.2)) := by
  unfold sI
  rw [wr_a c m μ 8 (by decide)]
  show (if i < 0 ∨ 80 ≤ i.toNatClampNeg then none else some (gx_up _ _ _)) = _
  rw [wr_up c m μ (va_up μ.1 8 (va_up (μ.1 8) i.toNatClampNeg v), μ.2) 8 (by decide) _ (by simp [mCell, va_up]) rfl (fun j hlt hj => by unfold mCell; split <;> first | (simp_all [va_up]; done) | (exfalso; simp_all; omega))]
theorem wr_g16 (c : Ce) (m : Nat) (μ : MS) : gI (wr c m μ) 9 16 m = some (μ.2.2.2 7) := by unfold gI; rw [wr_m]; rfl
theorem wr_s16 (c : Ce) (m : Nat) (μ : MS) (v : Int32) : pV (wr c m μ) 9 16 m (.int v) = some (wr c m (μ.1, μ.2.1, μ.2.2.1, va_up μ.2.2.2 7 v)) := by
  unfold pV
  rw [wr_m]
  show some (gx_up _ _ _) = _
  rw [wr_upm c m μ (μ.1, μ.2.1, μ.2.2.1, va_up μ.2.2.2 7 v) _ (by simp [mObj, va_up]) (fun _ => rfl)]
theorem wr_g17 (c : Ce) (m : Nat) (μ : MS) : gI (wr c m μ) 9 17 m = some (μ.2.2.2 8) := by unfold gI; rw [wr_m]; rfl
theorem wr_s17 (c : Ce) (m : Nat) (μ : MS) (v : Int32) : pV (wr c m μ) 9 17 m (.int v) = some (wr c m (μ.1, μ.2.1, μ.2.2.1, va_up μ.2.2.2 8 v)) := by
  unfold pV
  rw [wr_m]
  show some (gx_up _ _ _) = _
  rw [wr_upm c m μ (μ.1, μ.2.1, μ.2.2.1, va_up μ.2.2.2 8 v) _ (by simp [mObj, va_up]) (fun _ => rfl)]
theorem wr_g18 (c : Ce) (m : Nat) (μ : MS) : gI (wr c m μ) 9 18 m = some (μ.2.2.2 9) := by unfold gI; rw [wr_m]; rfl
theorem wr_s18 (c : Ce) (m : Nat) (μ : MS) (v : Int32) : pV (wr c m μ) 9 18 m (.int v) = some (wr c m (μ.1, μ.2.1, μ.2.2.1, va_up μ.2.2.2 9 v)) := by
  unfold pV
  rw [wr_m]
  show some (gx_up _ _ _) = _
  rw [wr_upm c m μ (μ.1, μ.2.1, μ.2.2.1, va_up μ.2.2.2 9 v) _ (by simp [mObj, va_up]) (fun _ => rfl)]
theorem wr_g19 (c : Ce) (m : Nat) (μ : MS) : gI (wr c m μ) 9 19 m = some (μ.2.2.2 10) := by unfold gI; rw [wr_m]; rfl
theorem wr_s19 (c : Ce) (m : Nat) (μ : MS) (v : Int32) : pV (wr c m μ) 9 19 m (.int v) = some (wr c m (μ.1, μ.2.1, μ.2.2.1, va_up μ.2.2.2 10 v)) := by
  unfold pV
  rw [wr_m]
  show some (gx_up _ _ _) = _
  rw [wr_upm c m μ (μ.1, μ.2.1, μ.2.2.1, va_up μ.2.2.2 10 v) _ (by simp [mObj, va_up]) (fun _ => rfl)]
theorem wr_g20 (c : Ce) (m : Nat) (μ : MS) : gI (wr c m μ) 9 20 m = some (μ.2.2.2 11) := by unfold gI; rw [wr_m]; rfl
theorem wr_s20 (c : Ce) (m : Nat) (μ : MS) (v : Int32) : pV (wr c m μ) 9 20 m (.int v) = some (wr c m (μ.1, μ.2.1, μ.2.2.1, va_up μ.2.2.2 11 v)) := by
  unfold pV
  rw [wr_m]
  show some (gx_up _ _ _) = _
  rw [wr_upm c m μ (μ.1, μ.2.1, μ.2.2.1, va_up μ.2.2.2 11 v) _ (by simp [mObj, va_up]) (fun _ => rfl)]
theorem wr_g21 (c : Ce) (m : Nat) (μ : MS) : gI (wr c m μ) 9 21 m = some (μ.2.2.2 12) := by unfold gI; rw [wr_m]; rfl
theorem wr_s21 (c : Ce) (m : Nat) (μ : MS) (v : Int32) : pV (wr c m μ) 9 21 m (.int v) = some (wr c m (μ.1, μ.2.1, μ.2.2.1, va_up μ.2.2.2 12 v)) := by
  unfold pV
  rw [wr_m]
  show some (gx_up _ _ _) = _
  rw [wr_upm c m μ (μ.1, μ.2.1, μ.2.2.1, va_up μ.2.2.2 12 v) _ (by simp [mObj, va_up]) (fun _ => rfl)]
theorem wr_g22 (c : Ce) (m : Nat) (μ : MS) : gI (wr c m μ) 9 22 m = some (μ.2.2.2 13) := by unfold gI; rw [wr_m]; rfl
theorem wr_s22 (c : Ce) (m : Nat) (μ : MS) (v : Int32) : pV (wr c m μ) 9 22 m (.int v) = some (wr c m (μ.1, μ.2.1, μ.2.2.1, va_up μ.2.2.2 13 v)) := by
  unfold pV
  rw [wr_m]
  show some (gx_up _ _ _) = _
  rw [wr_upm c m μ (μ.1, μ.2.1, μ.2.2.1, va_up μ.2.2.2 13 v) _ (by simp [mObj, va_up]) (fun _ => rfl)]
theorem wr_g23 (c : Ce) (m : Nat) (μ : MS) : gA (wr c m μ) 9 23 m = some (m + 10) := by unfold gA; rw [wr_m]; rfl
theorem wr_r23 (c : Ce) (m : Nat) (μ : MS) (i : Int32) : aI (wr c m μ) (m + 10) i = if i < 0 ∨ 6 ≤ i.toNatClampNeg then none else some (μ.1 9 i.toNatClampNeg) := by unfold aI; rw [wr_a c m μ 9 (by decide)]; rfl
theorem wr_s23 (c : Ce) (m : Nat) (μ : MS) (i v : Int32) : sI (wr c m μ) (m + 10) i v = if i < 0 ∨ 6 ≤ i.toNatClampNeg then none else some (wr c m (va_up μ.1 9 (va_up (μ.1 9) i.toNatClampNeg v), μ.2)) := by
  unfold sI
  rw [wr_a c m μ 9 (by decide)]
  show (if i < 0 ∨ 6 ≤ i.toNatClampNeg then none else some (gx_up _ _ _)) = _
  rw [wr_up c m μ (va_up μ.1 9 (va_up (μ.1 9) i.toNatClampNeg v), μ.2) 9 (by decide) _ (by simp [mCell, va_up]) rfl (fun j hlt hj => by unfold mCell; split <;> first | (simp_all [va_up]; done) | (exfalso; simp_all; omega))]
theorem wr_g24 (c : Ce) (m : Nat) (μ : MS) : gA (wr c m μ) 9 24 m = some (m + 11) := by unfold gA; rw [wr_m]; rfl
theorem wr_r24 (c : Ce) (m : Nat) (μ : MS) (i : Int32) : aI (wr c m μ) (m + 11) i = if i < 0 ∨ 5000 ≤ i.toNatClampNeg then none else some (μ.1 10 i.toNatClampNeg) := by unfold aI; rw [wr_a c m μ 10 (by decide)]; rfl
theorem wr_s24 (c : Ce) (m : Nat) (μ : MS) (i v : Int32) : sI (wr c m μ) (m + 11) i v = if i < 0 ∨ 5000 ≤ i.toNatClampNeg then none else some (wr c m (va_up μ.1 10 (va_up (μ.1 10) i.toNatClampNeg v), μ.2)) := by
  unfold sI
  rw [wr_a c m μ 10 (by decide)]
  show (if i < 0 ∨ 5000 ≤ i.toNatClampNeg then none else some (gx_up _ _ _)) = _
  rw [wr_up c m μ (va_up μ.1 10 (va_up (μ.1 10) i.toNatClampNeg v), μ.2) 10 (by decide) _ (by simp [mCell, va_up]) rfl (fun j hlt hj => by unfold mCell; split <;> first | (simp_all [va_up]; done) | (exfalso; simp_all; omega))]
theorem wr_g25 (c : Ce) (m : Nat) (μ : MS) : gA (wr c m μ) 9 25 m = some (m + 12) := by unfold gA; rw [wr_m]; rfl
theorem wr_r25 (c : Ce) (m : Nat) (μ : MS) (i : Int32) : aI (wr c m μ) (m + 12) i = if i < 0 ∨ 5421 ≤ i.toNatClampNeg then none else some (μ.1 11 i.toNatClampNeg) := by unfold aI; rw [wr_a c m μ 11 (by decide)]; rfl
theorem wr_s25 (c : Ce) (m : Nat) (μ : MS) (i v : Int32) : sI (wr c m μ) (m + 12) i v = if i < 0 ∨ 5421 ≤ i.toNatClampNeg then none else some (wr c m (va_up μ.1 11 (va_up (μ.1 11) i.toNatClampNeg v), μ.2)) := by
  unfold sI
  rw [wr_a c m μ 11 (by decide)]
  show (if i < 0 ∨ 5421 ≤ i.toNatClampNeg then none else some (gx_up _ _ _)) = _
  rw [wr_up c m μ (va_up μ.1 11 (va_up (μ.1 11) i.toNatClampNeg v), μ.2) 11 (by decide) _ (by simp [mCell, va_up]) rfl (fun j hlt hj => by unfold mCell; split <;> first | (simp_all [va_up]; done) | (exfalso; simp_all; omega))]
theorem wr_g26 (c : Ce) (m : Nat) (μ : MS) : gA (wr c m μ) 9 26 m = some (m + 13) := by unfold gA; rw [wr_m]; rfl
theorem wr_r26 (c : Ce) (m : Nat) (μ : MS) (i : Int32) : aG (wr c m μ) (m + 13) i = if i < 0 ∨ 7 ≤ i.toNatClampNeg then none else some (μ.2.2.1 12 i.toNatClampNeg) := by unfold aG; rw [wr_a c m μ 12 (by decide)]; rfl
theorem wr_s26 (c : Ce) (m : Nat) (μ : MS) (i : Int32) (v : UInt32) : sG (wr c m μ) (m + 13) i v = if i < 0 ∨ 7 ≤ i.toNatClampNeg then none else some (wr c m (μ.1, μ.2.1, va_up μ.2.2.1 12 (va_up (μ.2.2.1 12) i.toNatClampNeg v), μ.2.2.2)) := by
  unfold sG
  rw [wr_a c m μ 12 (by decide)]
  show (if i < 0 ∨ 7 ≤ i.toNatClampNeg then none else some (gx_up _ _ _)) = _
  rw [wr_up c m μ (μ.1, μ.2.1, va_up μ.2.2.1 12 (va_up (μ.2.2.1 12) i.toNatClampNeg v), μ.2.2.2) 12 (by decide) _ (by simp [mCell, va_up]) rfl (fun j hlt hj => by unfold mCell; split <;> first | (simp_all [va_up]; done) | (exfalso; simp_all; omega))]
theorem wr_g27 (c : Ce) (m : Nat) (μ : MS) : gA (wr c m μ) 9 27 m = some (m + 14) := by unfold gA; rw [wr_m]; rfl
theorem wr_r27 (c : Ce) (m : Nat) (μ : MS) (i : Int32) : aI (wr c m μ) (m + 14) i = if i < 0 ∨ 80 ≤ i.toNatClampNeg then none else some (μ.1 13 i.toNatClampNeg) := by unfold aI; rw [wr_a c m μ 13 (by decide)]; rfl
theorem wr_s27 (c : Ce) (m : Nat) (μ : MS) (i v : Int32) : sI (wr c m μ) (m + 14) i v = if i < 0 ∨ 80 ≤ i.toNatClampNeg then none else some (wr c m (va_up μ.1 13 (va_up (μ.1 13) i.toNatClampNeg v), μ.2)) := by
  unfold sI
  rw [wr_a c m μ 13 (by decide)]
  show (if i < 0 ∨ 80 ≤ i.toNatClampNeg then none else some (gx_up _ _ _)) = _
  rw [wr_up c m μ (va_up μ.1 13 (va_up (μ.1 13) i.toNatClampNeg v), μ.2) 13 (by decide) _ (by simp [mCell, va_up]) rfl (fun j hlt hj => by unfold mCell; split <;> first | (simp_all [va_up]; done) | (exfalso; simp_all; omega))]
theorem wr_g28 (c : Ce) (m : Nat) (μ : MS) : gI (wr c m μ) 9 28 m = some (μ.2.2.2 14) := by unfold gI; rw [wr_m]; rfl
theorem wr_s28 (c : Ce) (m : Nat) (μ : MS) (v : Int32) : pV (wr c m μ) 9 28 m (.int v) = some (wr c m (μ.1, μ.2.1, μ.2.2.1, va_up μ.2.2.2 14 v)) := by
  unfold pV
  rw [wr_m]
  show some (gx_up _ _ _) = _
  rw [wr_upm c m μ (μ.1, μ.2.1, μ.2.2.1, va_up μ.2.2.2 14 v) _ (by simp [mObj, va_up]) (fun _ => rfl)]
theorem wr_g29 (c : Ce) (m : Nat) (μ : MS) : gA (wr c m μ) 9 29 m = some (m + 15) := by unfold gA; rw [wr_m]; rfl
theorem wr_r29 (c : Ce) (m : Nat) (μ : MS) (i : Int32) : aI (wr c m μ) (m + 15) i = if i < 0 ∨ 5000 ≤ i.toNatClampNeg then none else some (μ.1 14 i.toNatClampNeg) := by unfold aI; rw [wr_a c m μ 14 (by decide)]; rfl
theorem wr_s29 (c : Ce) (m : Nat) (μ : MS) (i v : Int32) : sI (wr c m μ) (m + 15) i v = if i < 0 ∨ 5000 ≤ i.toNatClampNeg then none else some (wr c m (va_up μ.1 14 (va_up (μ.1 14) i.toNatClampNeg v), μ.2)) := by
  unfold sI
  rw [wr_a c m μ 14 (by decide)]
  show (if i < 0 ∨ 5000 ≤ i.toNatClampNeg then none else some (gx_up _ _ _)) = _
  rw [wr_up c m μ (va_up μ.1 14 (va_up (μ.1 14) i.toNatClampNeg v), μ.2) 14 (by decide) _ (by simp [mCell, va_up]) rfl (fun j hlt hj => by unfold mCell; split <;> first | (simp_all [va_up]; done) | (exfalso; simp_all; omega))]
theorem wr_g30 (c : Ce) (m : Nat) (μ : MS) : gA (wr c m μ) 9 30 m = some (m + 16) := by unfold gA; rw [wr_m]; rfl
theorem wr_r30 (c : Ce) (m : Nat) (μ : MS) (i : Int32) : aI (wr c m μ) (m + 16) i = if i < 0 ∨ 5000 ≤ i.toNatClampNeg then none else some (μ.1 15 i.toNatClampNeg) := by unfold aI; rw [wr_a c m μ 15 (by decide)]; rfl
theorem wr_s30 (c : Ce) (m : Nat) (μ : MS) (i v : Int32) : sI (wr c m μ) (m + 16) i v = if i < 0 ∨ 5000 ≤ i.toNatClampNeg then none else some (wr c m (va_up μ.1 15 (va_up (μ.1 15) i.toNatClampNeg v), μ.2)) := by
  unfold sI
  rw [wr_a c m μ 15 (by decide)]
  show (if i < 0 ∨ 5000 ≤ i.toNatClampNeg then none else some (gx_up _ _ _)) = _
  rw [wr_up c m μ (va_up μ.1 15 (va_up (μ.1 15) i.toNatClampNeg v), μ.2) 15 (by decide) _ (by simp [mCell, va_up]) rfl (fun j hlt hj => by unfold mCell; split <;> first | (simp_all [va_up]; done) | (exfalso; simp_all; omega))]
theorem wr_g31 (c : Ce) (m : Nat) (μ : MS) : gI (wr c m μ) 9 31 m = some (μ.2.2.2 15) := by unfold gI; rw [wr_m]; rfl
theorem wr_s31 (c : Ce) (m : Nat) (μ : MS) (v : Int32) : pV (wr c m μ) 9 31 m (.int v) = some (wr c m (μ.1, μ.2.1, μ.2.2.1, va_up μ.2.2.2 15 v)) := by
  unfold pV
  rw [wr_m]
  show some (gx_up _ _ _) = _
  rw [wr_upm c m μ (μ.1, μ.2.1, μ.2.2.1, va_up μ.2.2.2 15 v) _ (by simp [mObj, va_up]) (fun _ => rfl)]
theorem wr_g32 (c : Ce) (m : Nat) (μ : MS) : gA (wr c m μ) 9 32 m = some (m + 17) := by unfold gA; rw [wr_m]; rfl
theorem wr_r32 (c : Ce) (m : Nat) (μ : MS) (i : Int32) : aL (wr c m μ) (m + 17) i = if i < 0 ∨ 12 ≤ i.toNatClampNeg then none else some (μ.2.1 16 i.toNatClampNeg) := by unfold aL; rw [wr_a c m μ 16 (by decide)]; rfl
theorem wr_s32 (c : Ce) (m : Nat) (μ : MS) (i : Int32) (v : Int64) : sL (wr c m μ) (m + 17) i v = if i < 0 ∨ 12 ≤ i.toNatClampNeg then none else some (wr c m (μ.1, va_up μ.2.1 16 (va_up (μ.2.1 16) i.toNatClampNeg v), μ.2.2)) := by
  unfold sL
  rw [wr_a c m μ 16 (by decide)]
  show (if i < 0 ∨ 12 ≤ i.toNatClampNeg then none else some (gx_up _ _ _)) = _
  rw [wr_up c m μ (μ.1, va_up μ.2.1 16 (va_up (μ.2.1 16) i.toNatClampNeg v), μ.2.2) 16 (by decide) _ (by simp [mCell, va_up]) rfl (fun j hlt hj => by unfold mCell; split <;> first | (simp_all [va_up]; done) | (exfalso; simp_all; omega))]
