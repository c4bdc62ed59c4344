/-! NUMBERS COMPARED, as Nat -/
theorem if_le {α : Type} {a b : Nat} (ha : a < 2 ^ 31) (hb : b < 2 ^ 31) (x y : α) : (if nI a ≤ nI b then x else y) = if a ≤ b then x else y := by
  by_cases h : a ≤ b
  · rw [if_pos ((nI_leI ha hb).mpr h), if_pos h]
  · rw [if_neg (fun q => h ((nI_leI ha hb).mp q)), if_neg h]
theorem if_lt {α : Type} {a b : Nat} (ha : a < 2 ^ 31) (hb : b < 2 ^ 31) (x y : α) : (if nI a < nI b then x else y) = if a < b then x else y := by
  by_cases h : a < b
  · rw [if_pos ((nI_ltI ha hb).mpr h), if_pos h]
  · rw [if_neg (fun q => h ((nI_ltI ha hb).mp q)), if_neg h]
theorem if_eq {α : Type} {a b : Nat} (ha : a < 2 ^ 31) (hb : b < 2 ^ 31) (x y : α) : (if nI a = nI b then x else y) = if a = b then x else y := by
  by_cases h : a = b
  · rw [if_pos (by rw [h]), if_pos h]
  · rw [if_neg (fun q => h ((nI_eq ha hb).mp q)), if_neg h]
theorem if_b {α : Type} (b : Bool) (x y : α) : (if (if b = true then (1 : Int32) else 0) = 0 then x else y) = if b = true then y else x := by
  cases b <;> rfl
theorem if_p {α : Type} (p : Prop) [Decidable p] (x y : α) : (if (if p then (1 : Int32) else 0) = 0 then x else y) = if p then y else x := by
  by_cases h : p <;> simp [h]
theorem nI_m1 {a : Nat} (h : a < 2 ^ 31) : ¬ nI a = -1 := fun e => by
  have h2 : (0 : Int32) ≤ nI a := nI_pos' h
  rw [e] at h2
  exact absurd h2 (by decide)
/-! THE REFERENCE's row a, written -/
def mu0 (μ : MS) (a : Nat → Int32) : MS := (va_up μ.1 0 a, μ.2)
theorem mu0_a (μ : MS) (a : Nat → Int32) : (mu0 μ a).1 0 = a := by
  show va_up μ.1 0 a 0 = a
  unfold va_up
  rw [if_pos rfl]
theorem mu0_r (μ : MS) (a : Nat → Int32) {r : Nat} (h : r ≠ 0) : (mu0 μ a).1 r = μ.1 r := if_neg h
theorem mu0_2 (μ : MS) (a : Nat → Int32) : (mu0 μ a).2 = μ.2 := rfl
theorem mu0_mu0 (μ : MS) (a b : Nat → Int32) : mu0 (mu0 μ a) b = mu0 μ b := by
  unfold mu0
  congr 1
  funext r
  unfold va_up
  by_cases h : r = 0
  · rw [if_pos h, if_pos h]
  · rw [if_neg h, if_neg h]
    exact if_neg h
theorem mu0_self (μ : MS) : mu0 μ (μ.1 0) = μ := by
  unfold mu0
  have e : va_up μ.1 0 (μ.1 0) = μ.1 := by
    funext r
    unfold va_up
    by_cases h : r = 0
    · rw [if_pos h, h]
    · rw [if_neg h]
  rw [e]
theorem ma_of (μ : MS) (a : Nat → Int32) (k : Nat) (v : Int32) : ma (mu0 μ a) k v = mu0 μ (va_up a k v) := by
  unfold ma
  rw [mu0_a]
  exact mu0_mu0 μ a _
theorem up_at {α : Type} (f : Nat → α) (k : Nat) (v : α) (j : Nat) : va_up f k v j = if j = k then v else f j := rfl
theorem up_e {α : Type} (f : Nat → α) (k : Nat) (v : α) : va_up f k v k = v := if_pos rfl
theorem up_n {α : Type} (f : Nat → α) (k : Nat) (v : α) {j : Nat} (h : j ≠ k) : va_up f k v j = f j := if_neg h
theorem rd_0 (c : Ce) (m : Nat) (μ : MS) : aI (wr c m μ) (m + 1) (0 : Int32) = some (μ.1 0 0) := wr_a0 c m μ (by decide)
theorem wt_0 (c : Ce) (m : Nat) (μ : MS) (v : Int32) : sI (wr c m μ) (m + 1) (0 : Int32) v = some (wr c m (ma μ 0 v)) := wr_u0 c m μ (by decide) v
theorem rd_1 (c : Ce) (m : Nat) (μ : MS) : aI (wr c m μ) (m + 1) (1 : Int32) = some (μ.1 0 1) := wr_a0 c m μ (by decide)
theorem wt_1 (c : Ce) (m : Nat) (μ : MS) (v : Int32) : sI (wr c m μ) (m + 1) (1 : Int32) v = some (wr c m (ma μ 1 v)) := wr_u0 c m μ (by decide) v
theorem rd_2 (c : Ce) (m : Nat) (μ : MS) : aI (wr c m μ) (m + 1) (2 : Int32) = some (μ.1 0 2) := wr_a0 c m μ (by decide)
theorem wt_2 (c : Ce) (m : Nat) (μ : MS) (v : Int32) : sI (wr c m μ) (m + 1) (2 : Int32) v = some (wr c m (ma μ 2 v)) := wr_u0 c m μ (by decide) v
theorem rd_3 (c : Ce) (m : Nat) (μ : MS) : aI (wr c m μ) (m + 1) (3 : Int32) = some (μ.1 0 3) := wr_a0 c m μ (by decide)
theorem wt_3 (c : Ce) (m : Nat) (μ : MS) (v : Int32) : sI (wr c m μ) (m + 1) (3 : Int32) v = some (wr c m (ma μ 3 v)) := wr_u0 c m μ (by decide) v
theorem rd_4 (c : Ce) (m : Nat) (μ : MS) : aI (wr c m μ) (m + 1) (4 : Int32) = some (μ.1 0 4) := wr_a0 c m μ (by decide)
theorem wt_4 (c : Ce) (m : Nat) (μ : MS) (v : Int32) : sI (wr c m μ) (m + 1) (4 : Int32) v = some (wr c m (ma μ 4 v)) := wr_u0 c m μ (by decide) v
theorem rd_5 (c : Ce) (m : Nat) (μ : MS) : aI (wr c m μ) (m + 1) (5 : Int32) = some (μ.1 0 5) := wr_a0 c m μ (by decide)
theorem wt_5 (c : Ce) (m : Nat) (μ : MS) (v : Int32) : sI (wr c m μ) (m + 1) (5 : Int32) v = some (wr c m (ma μ 5 v)) := wr_u0 c m μ (by decide) v
theorem rd_6 (c : Ce) (m : Nat) (μ : MS) : aI (wr c m μ) (m + 1) (6 : Int32) = some (μ.1 0 6) := wr_a0 c m μ (by decide)
theorem wt_6 (c : Ce) (m : Nat) (μ : MS) (v : Int32) : sI (wr c m μ) (m + 1) (6 : Int32) v = some (wr c m (ma μ 6 v)) := wr_u0 c m μ (by decide) v
theorem rd_7 (c : Ce) (m : Nat) (μ : MS) : aI (wr c m μ) (m + 1) (7 : Int32) = some (μ.1 0 7) := wr_a0 c m μ (by decide)
theorem wt_7 (c : Ce) (m : Nat) (μ : MS) (v : Int32) : sI (wr c m μ) (m + 1) (7 : Int32) v = some (wr c m (ma μ 7 v)) := wr_u0 c m μ (by decide) v
theorem rd_8 (c : Ce) (m : Nat) (μ : MS) : aI (wr c m μ) (m + 1) (8 : Int32) = some (μ.1 0 8) := wr_a0 c m μ (by decide)
theorem wt_8 (c : Ce) (m : Nat) (μ : MS) (v : Int32) : sI (wr c m μ) (m + 1) (8 : Int32) v = some (wr c m (ma μ 8 v)) := wr_u0 c m μ (by decide) v
theorem rd_9 (c : Ce) (m : Nat) (μ : MS) : aI (wr c m μ) (m + 1) (9 : Int32) = some (μ.1 0 9) := wr_a0 c m μ (by decide)
theorem wt_9 (c : Ce) (m : Nat) (μ : MS) (v : Int32) : sI (wr c m μ) (m + 1) (9 : Int32) v = some (wr c m (ma μ 9 v)) := wr_u0 c m μ (by decide) v
theorem rd_10 (c : Ce) (m : Nat) (μ : MS) : aI (wr c m μ) (m + 1) (10 : Int32) = some (μ.1 0 10) := wr_a0 c m μ (by decide)
theorem wt_10 (c : Ce) (m : Nat) (μ : MS) (v : Int32) : sI (wr c m μ) (m + 1) (10 : Int32) v = some (wr c m (ma μ 10 v)) := wr_u0 c m μ (by decide) v
theorem rd_11 (c : Ce) (m : Nat) (μ : MS) : aI (wr c m μ) (m + 1) (11 : Int32) = some (μ.1 0 11) := wr_a0 c m μ (by decide)
theorem wt_11 (c : Ce) (m : Nat) (μ : MS) (v : Int32) : sI (wr c m μ) (m + 1) (11 : Int32) v = some (wr c m (ma μ 11 v)) := wr_u0 c m μ (by decide) v
theorem rd_12 (c : Ce) (m : Nat) (μ : MS) : aI (wr c m μ) (m + 1) (12 : Int32) = some (μ.1 0 12) := wr_a0 c m μ (by decide)
theorem wt_12 (c : Ce) (m : Nat) (μ : MS) (v : Int32) : sI (wr c m μ) (m + 1) (12 : Int32) v = some (wr c m (ma μ 12 v)) := wr_u0 c m μ (by decide) v
theorem rd_13 (c : Ce) (m : Nat) (μ : MS) : aI (wr c m μ) (m + 1) (13 : Int32) = some (μ.1 0 13) := wr_a0 c m μ (by decide)
theorem wt_13 (c : Ce) (m : Nat) (μ : MS) (v : Int32) : sI (wr c m μ) (m + 1) (13 : Int32) v = some (wr c m (ma μ 13 v)) := wr_u0 c m μ (by decide) v
theorem rd_14 (c : Ce) (m : Nat) (μ : MS) : aI (wr c m μ) (m + 1) (14 : Int32) = some (μ.1 0 14) := wr_a0 c m μ (by decide)
theorem wt_14 (c : Ce) (m : Nat) (μ : MS) (v : Int32) : sI (wr c m μ) (m + 1) (14 : Int32) v = some (wr c m (ma μ 14 v)) := wr_u0 c m μ (by decide) v
theorem rd_15 (c : Ce) (m : Nat) (μ : MS) : aI (wr c m μ) (m + 1) (15 : Int32) = some (μ.1 0 15) := wr_a0 c m μ (by decide)
theorem wt_15 (c : Ce) (m : Nat) (μ : MS) (v : Int32) : sI (wr c m μ) (m + 1) (15 : Int32) v = some (wr c m (ma μ 15 v)) := wr_u0 c m μ (by decide) v
theorem rd_16 (c : Ce) (m : Nat) (μ : MS) : aI (wr c m μ) (m + 1) (16 : Int32) = some (μ.1 0 16) := wr_a0 c m μ (by decide)
theorem wt_16 (c : Ce) (m : Nat) (μ : MS) (v : Int32) : sI (wr c m μ) (m + 1) (16 : Int32) v = some (wr c m (ma μ 16 v)) := wr_u0 c m μ (by decide) v
theorem rd_17 (c : Ce) (m : Nat) (μ : MS) : aI (wr c m μ) (m + 1) (17 : Int32) = some (μ.1 0 17) := wr_a0 c m μ (by decide)
theorem wt_17 (c : Ce) (m : Nat) (μ : MS) (v : Int32) : sI (wr c m μ) (m + 1) (17 : Int32) v = some (wr c m (ma μ 17 v)) := wr_u0 c m μ (by decide) v
/-! WHAT A SEARCH IS, apart from any heap -/
/-- a cube: frame, mask, bits -/
abbrev Cu : Type := Nat × Nat × Nat
/-- an obligation: state, level, number, which it leads to -/
abbrev Ln : Type := Nat × Nat × Nat × Nat
/-- a machine: letters, successors, init, how many aims, the aims -/
abbrev Mv : Type := Nat × (Nat → Nat → Nat) × Int64 × Nat × (Nat → Int64)
/-- machine; numbers (by their places in the reference's row); cubes and obligations as they came; activities (6: bump); claims -/
abbrev Sv : Type := Mv × (Nat → Nat) × List Cu × List Ln × (Nat → UInt32) × List (Nat × Nat)
def Mac (g : Nat → Int32) (M : Mv) : Prop := g 3 = nI M.1 ∧ 1 ≤ M.1 ∧ M.1 < 7 ∧ g 7 = nI M.2.2.2.1 ∧ 1 ≤ M.2.2.2.1 ∧ M.2.2.2.1 ≤ 4 ∧ lset g 0 = M.2.2.1 ∧ (∀ i, i < M.2.2.2.1 → lset g (1 + i) = M.2.2.2.2 i) ∧ Suc g M.1 M.2.1
abbrev nums : List Nat := [4, 5, 6, 8, 10, 11, 12, 13, 14, 15]
def Num (g : Nat → Int32) (n : Nat → Nat) : Prop := ∀ k, k ∈ nums → g k = nI (n k)
def Lin (g : Nat → Int32) (ob : List Ln) : Prop := g 9 = nI ob.length ∧ ob.length ≤ 80 ∧ ∀ (k : Nat) (q : Ln), ob[k]? = some q → g (5104 + 4 * k) = nI q.1 ∧ g (5105 + 4 * k) = nI q.2.1 ∧ g (5106 + 4 * k) = nI q.2.2.1 ∧ g (5107 + 4 * k) = nI q.2.2.2
def Clm (g : Nat → Int32) (cl : List (Nat × Nat)) : Prop := g 16 = nI cl.length ∧ cl.length ≤ 12 ∧ ∀ (k : Nat) (q : Nat × Nat), cl[k]? = some q → g (92 + k) = nI (q.1 * 64 + q.2) ∧ q.1 < 64 ∧ q.2 < 64
def RR (g : Nat → Int32) (h : Nat → UInt32) (V : Sv) : Prop := Mac g V.1 ∧ Num g V.2.1 ∧ Cub g V.2.2.1 ∧ Lin g V.2.2.2.1 ∧ (∀ k, k < 7 → h k = V.2.2.2.2.1 k) ∧ Clm g V.2.2.2.2.2
theorem lset_congr {g g2 : Nat → Int32} (k : Nat) (h : ∀ j, 18 ≤ j → j < 20 + 2 * k → g2 j = g j) : lset g2 k = lset g k := by
  unfold lset
  rw [h _ (by omega) (by omega), h _ (by omega) (by omega)]
theorem Mac_congr {g g2 : Nat → Int32} {M : Mv} (h3 : g2 3 = g 3) (h7 : g2 7 = g 7) (h : ∀ j, 18 ≤ j → j < 92 → g2 j = g j) (hm : Mac g M) : Mac g2 M := by
  obtain ⟨a1, a2, a3, a4, a5, a6, a7, a8, a9⟩ := hm
  refine ⟨h3.trans a1, a2, a3, h7.trans a4, a5, a6, ?_, fun i hi => ?_, fun s hs i hi => ?_⟩
  · rw [lset_congr 0 fun j h1 h2 => h j h1 (by omega)]; exact a7
  · rw [lset_congr (1 + i) fun j h1 h2 => h j h1 (by omega)]; exact a8 i hi
  · have := p2_64 a3
    rw [h _ (by omega) (by omega)]
    exact a9 s hs i hi
theorem Num_congr {g g2 : Nat → Int32} {n : Nat → Nat} (h : ∀ k, k ∈ nums → g2 k = g k) (hn : Num g n) : Num g2 n := fun k hk => (h k hk).trans (hn k hk)
theorem Cub_congr {g g2 : Nat → Int32} {fr : List Cu} (h17 : g2 17 = g 17) (h : ∀ j, 104 ≤ j → j < 5104 → g2 j = g j) (hc : Cub g fr) : Cub g2 fr := by
  obtain ⟨a1, a2, a3⟩ := hc
  refine ⟨h17.trans a1, a2, fun k q hq => ?_⟩
  have hk : k < fr.length := (List.getElem?_eq_some_iff.mp hq).1
  rw [h _ (by omega) (by omega)]
  exact a3 k q hq
theorem Lin_congr {g g2 : Nat → Int32} {ob : List Ln} (h9 : g2 9 = g 9) (h : ∀ j, 5104 ≤ j → j < 5424 → g2 j = g j) (hc : Lin g ob) : Lin g2 ob := by
  obtain ⟨a1, a2, a3⟩ := hc
  refine ⟨h9.trans a1, a2, fun k q hq => ?_⟩
  have hk : k < ob.length := (List.getElem?_eq_some_iff.mp hq).1
  rw [h _ (by omega) (by omega), h _ (by omega) (by omega), h _ (by omega) (by omega), h _ (by omega) (by omega)]
  exact a3 k q hq
theorem Clm_congr {g g2 : Nat → Int32} {cl : List (Nat × Nat)} (h16 : g2 16 = g 16) (h : ∀ j, 92 ≤ j → j < 104 → g2 j = g j) (hc : Clm g cl) : Clm g2 cl := by
  obtain ⟨a1, a2, a3⟩ := hc
  refine ⟨h16.trans a1, a2, fun k q hq => ?_⟩
  have hk : k < cl.length := (List.getElem?_eq_some_iff.mp hq).1
  rw [h _ (by omega) (by omega)]
  exact a3 k q hq
theorem nums_r {k : Nat} (h : k ∈ nums) : 4 ≤ k ∧ k ≤ 15 ∧ k ≠ 7 ∧ k ≠ 9 := by
  simp only [nums, List.mem_cons, List.not_mem_nil, or_false] at h
  omega
theorem RR_congr {g g2 : Nat → Int32} {h h2 : Nat → UInt32} {V : Sv} (hg : ∀ j, 3 ≤ j → j < 5424 → g2 j = g j) (hh : ∀ k, k < 7 → h2 k = h k) (hr : RR g h V) : RR g2 h2 V := by
  obtain ⟨a1, a2, a3, a4, a5, a6⟩ := hr
  refine ⟨Mac_congr (hg _ (by omega) (by omega)) (hg _ (by omega) (by omega)) (fun j _ _ => hg j (by omega) (by omega)) a1, Num_congr (fun k hk => ?_) a2, Cub_congr (hg _ (by omega) (by omega)) (fun j _ _ => hg j (by omega) (by omega)) a3, Lin_congr (hg _ (by omega) (by omega)) (fun j _ _ => hg j (by omega) (by omega)) a4, fun k hk => (hh k hk).trans (a5 k hk), Clm_congr (hg _ (by omega) (by omega)) (fun j _ _ => hg j (by omega) (by omega)) a6⟩
  have := nums_r hk
  exact hg k (by omega) (by omega)
/-- a number is written -/
theorem RR_num {g : Nat → Int32} {h : Nat → UInt32} {M : Mv} {n : Nat → Nat} {X : List Cu × List Ln × (Nat → UInt32) × List (Nat × Nat)} (hr : RR g h (M, n, X)) {k : Nat} (hk : k ∈ nums) (v : Nat) : RR (va_up g k (nI v)) h (M, va_up n k v, X) := by
  obtain ⟨a1, a2, a3, a4, a5, a6⟩ := hr
  have hb := nums_r hk
  refine ⟨Mac_congr (up_n _ _ _ (by omega)) (up_n _ _ _ (by omega)) (fun j _ _ => up_n _ _ _ (by omega)) a1, fun j hj => ?_, Cub_congr (up_n _ _ _ (by omega)) (fun j _ _ => up_n _ _ _ (by omega)) a3, Lin_congr (up_n _ _ _ (by omega)) (fun j _ _ => up_n _ _ _ (by omega)) a4, a5, Clm_congr (up_n _ _ _ (by omega)) (fun j _ _ => up_n _ _ _ (by omega)) a6⟩
  show va_up g k (nI v) j = nI (va_up n k v j)
  by_cases he : j = k
  · rw [he, up_e, up_e]
  · rw [up_n _ _ _ he, up_n _ _ _ he]
    exact a2 j hj
