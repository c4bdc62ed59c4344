/-! THE BEGINNING: the whole stands; the room -/
def ownL : List Nat := [10, 11, 12, 13, 14, 15, 16, 17, 0, 0, 0, 0, 18, 19, 20, 1, 1, 1, 1, 1, 1, 1, 1, 1, 1, 1, 1, 1, 21, 22, 23, 2, 2, 2, 2, 2, 2, 2, 2, 2, 2, 2, 2, 2, 3, 3, 3, 3, 3, 3, 3, 3, 3, 3, 3, 3, 3, 28, 4, 4, 4, 24, 25, 26, 27, 29, 5, 5, 5, 5, 5, 5, 5, 5, 5, 5, 5, 5, 5, 5, 5, 5, 5, 5]
def fxL : List Nat := [0, 1, 2, 3, 4, 5, 6, 7, 12, 13, 14, 28, 29, 30, 61, 62, 63, 64, 57, 65]
def own0 (x : Nat) : Nat → Nat := fun b => ownL.getD (b - x) 30
def fx0 (x : Nat) : Nat → Nat := fun k => x + fxL.getD k 0
theorem own_at (x k : Nat) : own0 x (x + k) = ownL.getD k 30 := by
  show ownL.getD (x + k - x) 30 = _
  rw [Nat.add_sub_cancel_left]
theorem ow_f : ∀ k, k < 20 → ownL.getD (fxL.getD k 0) 30 = 10 + k ∧ fxL.getD k 0 < 84 := by decide +kernel
theorem ow_m : ∀ i, i < 18 → ownL.getD (66 + i) 30 = 5 := by decide +kernel
theorem ow_z : ∀ i, i < 4 → ownL.getD (8 + i) 30 = 0 := by decide +kernel
theorem ow_A : ∀ i, i < 13 → ownL.getD (15 + i) 30 = 1 := by decide +kernel
theorem ow_B : ∀ i, i < 13 → ownL.getD (31 + i) 30 = 2 := by decide +kernel
theorem ow_T : ∀ i, i < 13 → ownL.getD (44 + i) 30 = 3 := by decide +kernel
theorem ow_at (x k i t : Nat) (h : ownL.getD (k + i) 30 = t) : own0 x (newA (x + k) (x + k + 1) i) = t := by
  rw [newA_at, Nat.add_assoc, own_at]
  exact h
theorem SZ_beg {ce d : Ce} {x k : Nat} {V : Sv} (h : SZ ce (x + 66) (fun b => x + 8 ≤ b ∧ b < x + 12) (newA (x + k) (x + k + 1)) (0, 0, 0) V) (h1 : 12 ≤ k) (h2 : k + 13 ≤ 66) (hd : ∀ b, b < x + 66 → d b = ce b) : SZ d (x + 84) (Zo (own0 x) (x + 84)) (newA (x + k) (x + k + 1)) (0, 0, 0) V := by
  refine SZ_congr h (fun b hb => ⟨by omega, fun i hi => ?_⟩) (fun i hi => hd _ ?_) (fun b hb => hd b (by omega)) (by omega) (fun b hb => ⟨by omega, ?_⟩)
  · show b ≠ newA (x + k) (x + k + 1) i
    rw [newA_at]
    omega
  · rw [newA_at]
    omega
  · have e := ow_z (b - x - 8) (by omega)
    rw [← own_at x, show x + (8 + (b - x - 8)) = b by omega] at e
    exact e
theorem WRL_beg {ce d : Ce} {x k w k1 : Nat} (h : WC3 ce (x + w) (x + w + 1) (x + w + 2) (x + k) [] [] ∧ SZ ce (x + 66) (fun b => x + 8 ≤ b ∧ b < x + 12) (newA (x + k) (x + k + 1)) (0, 0, 0) V00) (h1 : 12 ≤ k) (h2 : k + 13 ≤ 66) (hw : w + 2 < 66) (hd : ∀ b, b < x + 66 → d b = ce b) (ho : ∀ i, i < 13 → ownL.getD (k + i) 30 = k1) : WRL d (x + 84) (own0 x) (x + w) (x + w + 1) (x + w + 2) (newA (x + k) (x + k + 1)) (0, 0, 0) ([], [], V00) k1 := by
  refine ⟨fun i hi => ow_at x k i k1 (ho i hi), [], [], ?_, SZ_beg h.2 h1 h2 hd, ⟨rfl, Nat.zero_le _, fun i p M hp => ?_⟩, ⟨rfl, Nat.zero_le _, fun i p M hp => ?_⟩⟩
  · have e : newA (x + k) (x + k + 1) 0 = x + k := rfl
    rw [e]
    exact WC3_congr h.1 (hd _ (by omega)) (hd _ (by omega)) (hd _ (by omega))
  · rw [List.getElem?_nil] at hp
    cases hp
  · rw [List.getElem?_nil] at hp
    cases hp
theorem GI_start {ce d : Ce} {x : Nat} (hX : XP ce x) (hd : ∀ b, b < x + 66 → d b = ce b) (hR : RfQ d (x + 66)) {S : Nat} (hS : S ≤ 400000) : GI (x + 84) d (x + 66) (fx0 x) 0 84 S := by
  obtain ⟨⟨x1, x2⟩, x3, ⟨x4, x5⟩, x6, x7, ⟨x8, x9⟩, x10, x11, x12⟩ := hX
  obtain ⟨μ, m1, m2, m3, m4, m5, m6⟩ := hR
  have x5 : SZ ce (x + 66) (fun b => x + 8 ≤ b ∧ b < x + 12) (newA (x + 15) (x + 15 + 1)) (0, 0, 0) V00 := x5
  have x7 : SZ ce (x + 66) (fun b => x + 8 ≤ b ∧ b < x + 12) (newA (x + 44) (x + 44 + 1)) (0, 0, 0) V00 := x7
  have x8 : RW ce (x + 57) (x + 58) (x + 59) (x + 60) 0 [] := x8
  have x9 : D4 (x + 57) (x + 58) (x + 59) (x + 60) := x9
  have x10 : CHc ce (x + 61) (x + 62) (x + 63) (fun _ => 0) (fun _ => 0) := x10
  have x11 : ce (x + 64) = some (.inl (.int, 128, .inl (fun _ => 0))) := x11
  have x12 : ce (x + 65) = some (.inl (.long, 64, .inr (.inl (fun _ => 0)))) := x12
  have hW : WM V00.1 := by
    obtain ⟨_, mp, _, hm⟩ := x5
    exact hm.1
  have hIV : IV 0 V00 := IV_beg (M := plM) (md := 0) hW (by decide)
  have hA : WRL d (x + 84) (own0 x) (x + 12) (x + 12 + 1) (x + 12 + 2) (newA (x + 15) (x + 15 + 1)) (0, 0, 0) ([], [], V00) 1 := WRL_beg ⟨x4, x5⟩ (by decide) (by decide) (by decide) hd ow_A
  have hB : WRL d (x + 84) (own0 x) (x + 28) (x + 28 + 1) (x + 28 + 2) (newA (x + 31) (x + 31 + 1)) (0, 0, 0) ([], [], V00) 2 := WRL_beg x6 (by decide) (by decide) (by decide) hd ow_B
  refine ⟨own0 x, newA (x + 15) (x + 15 + 1), newA (x + 31) (x + 31 + 1), newA (x + 44) (x + 44 + 1), (0, 0, 0), (0, 0, 0), (0, 0, 0), (x + 58, x + 59, x + 60, 0), ([], [], V00), ([], [], V00), (0, fun _ => 0, 0, 0, -1), μ, 0, ⟨⟨fun k hk => ?_, fun i hi => ?_, by omega⟩, ⟨?_, ?_⟩, ⟨?_, ⟨fun _ => 0, fun _ => 0, ?_⟩, ⟨⟨fun _ => 0, ?_⟩, fun _ => 0, ?_⟩⟩, hA, hB, ⟨fun i hi => ow_at x 44 i 3 (ow_T i hi), V00, SZ_beg x7 (by decide) (by decide) hd⟩, ⟨⟨?_, ?_, ?_⟩, ⟨?_, ?_, ?_⟩, x9, [], ?_⟩, m1⟩, ⟨m2, m3, fun p M hM => ?_, ⟨m4, Nat.zero_le _, fun k hk => absurd hk (Nat.not_lt_zero _)⟩, Or.inl ⟨rfl, m5, m6⟩, [], rfl⟩, ⟨Nat.le_refl _, Nat.zero_le _, fun V hV => ?_⟩, ⟨by omega, by omega⟩⟩
  · show own0 x (x + fxL.getD k 0) = 10 + k ∧ x + fxL.getD k 0 < x + 84
    rw [own_at]
    have := ow_f k hk
    exact ⟨this.1, by omega⟩
  · rw [Nat.add_assoc, own_at]
    exact ow_m i hi
  · exact (hd x (by omega)).trans x1
  · exact (hd (x + 1) (by omega)).trans x2
  · show Rdr d (x + 2) (x + 3) (x + 4) (x + 5) (x + 6) (x + 7)
    exact Rdr_fr x3 (hd _ (by omega)) (hd _ (by omega)) (hd _ (by omega)) (hd _ (by omega)) (hd _ (by omega)) (hd _ (by omega))
  · exact ⟨(hd (x + 61) (by omega)).trans x10.1, (hd (x + 62) (by omega)).trans x10.2.1, (hd (x + 63) (by omega)).trans x10.2.2⟩
  · exact (hd (x + 64) (by omega)).trans x11
  · exact (hd (x + 65) (by omega)).trans x12
  · exact own_at x 58
  · exact own_at x 59
  · exact own_at x 60
  · show x + 58 < x + 84
    omega
  · show x + 59 < x + 84
    omega
  · show x + 60 < x + 84
    omega
  · show RW d (x + 57) (x + 58) (x + 59) (x + 60) 0 []
    exact RW_fr x8 (hd _ (by omega)) (hd _ (by omega)) (hd _ (by omega)) (hd _ (by omega))
  · have hM : ([] : List Mv)[p]? = some M := hM
    rw [List.getElem?_nil] at hM
    cases hM
  · have e : V = V00 := by
      rcases hV with e | e | e | e
      · exact e
      · cases e
      · exact e
      · cases e
    rw [e]
    exact ⟨hIV, NI_beg plM 0⟩
theorem Phi_le {ce : Ce} {nx : Nat} {A : Nat → Nat} {κ : Nat × Nat × Nat} {V : Sv} (h : SS ce nx A κ V) : Phi κ ≤ 122000 := by
  obtain ⟨mp, at1, _, _, lc, ⟨_, _, _, _, _, _, _, _, c1, _⟩, ⟨_, _, _, _, c2, _⟩, _, _, ⟨_, _, _, _, _, _, _, _, c3, _⟩, _⟩ := h
  unfold Phi
  omega
theorem GI_room {nx : Nat} {ce : Ce} {m : Nat} {fx : Nat → Nat} {q K S : Nat} (h : GI nx ce m fx q K S) : K ≤ 600000 ∧ S ≤ 7302249 := by
  obtain ⟨own, A, B, T, κ, κb, κt, sp, W, Wb, z, μ, c, h1, h2, h3, h4⟩ := h
  have p1 := Phi_le (CP_SZ h1).1
  obtain ⟨_, _, _, _, ⟨_, _, _, _, sb, _⟩, ⟨_, U, st⟩, ⟨_, _, _, l, ⟨_, _, _, _, _, _, _, _, c3, _⟩⟩, _⟩ := h1
  have p2 := Phi_le sb.1
  have p3 := Phi_le st.1
  have p4 := bud_le h3.1 h3.2.1
  have p5 := h3.2.1
  obtain ⟨k1, k2⟩ := h4
  constructor <;> omega
