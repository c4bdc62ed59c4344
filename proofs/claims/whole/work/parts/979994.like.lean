/-! SETS OF LIKE MANY, one after another -/
def pcf : Nat → Nat → Nat
  | 0, _ => 0
  | k + 1, s => s % 2 + pcf k (s / 2)
def nxt (s : Nat) : Nat := (s + (s &&& (8192 - s))) ||| (((s + (s &&& (8192 - s))) ^^^ s) / (4 * (s &&& (8192 - s))))
def nxtB (s : Nat) : Bool := decide (s = 0) || (decide (s < nxt s) && decide (nxt s < 8192) && decide (pcf 13 (nxt s) = pcf 13 s) && ((List.range (nxt s - s - 1)).all fun d => !decide (pcf 13 (s + 1 + d) = pcf 13 s)))
theorem nxtB_all : ∀ a, a < 64 → ((List.range 64).all fun b => nxtB (a * 64 + b)) = true := by decide +kernel
theorem nxt_ok {s : Nat} (hs : s < 4096) (h0 : s ≠ 0) : s < nxt s ∧ nxt s < 8192 ∧ pcf 13 (nxt s) = pcf 13 s ∧ ∀ t, s < t → t < nxt s → pcf 13 t ≠ pcf 13 s := by
  have h := nxtB_all (s / 64) (by omega)
  rw [List.all_eq_true] at h
  have h := h (s % 64) (List.mem_range.mpr (by omega))
  have e : s / 64 * 64 + s % 64 = s := by omega
  rw [e] at h
  unfold nxtB at h
  simp only [h0, decide_false, Bool.false_or, Bool.and_eq_true, decide_eq_true_eq] at h
  obtain ⟨⟨⟨h1, h2⟩, h3⟩, h4⟩ := h
  refine ⟨h1, h2, h3, fun t ht1 ht2 => ?_⟩
  rw [List.all_eq_true] at h4
  have := h4 (t - s - 1) (List.mem_range.mpr (by omega))
  have e2 : s + 1 + (t - s - 1) = t := by omega
  rw [e2] at this
  simpa using this
theorem nxtJ_all : ∀ a, a < 64 → ((List.range 64).all fun b => decide (a * 64 + b = 0) || decide (m_X1_nextOfLikeMany (nI (a * 64 + b)) = some (nI (nxt (a * 64 + b))))) = true := by decide +kernel
theorem nxtJ {s : Nat} (hs : s < 4096) (h0 : s ≠ 0) : m_X1_nextOfLikeMany (nI s) = some (nI (nxt s)) := by
  have h := nxtJ_all (s / 64) (by omega)
  rw [List.all_eq_true] at h
  have h := h (s % 64) (List.mem_range.mpr (by omega))
  have e : s / 64 * 64 + s % 64 = s := by omega
  rw [e] at h
  simpa [h0] using h
theorem fst_all : ∀ k, k < 13 → ((List.range (2 ^ k - 1)).all fun s => !decide (pcf 13 s = k)) = true := by decide +kernel
theorem pos_all : ∀ a, a < 64 → ((List.range 64).all fun b => decide (a * 64 + b = 0) || !decide (pcf 13 (a * 64 + b) = 0)) = true := by decide +kernel
