/-! CLAUSES: as a function of tokens; the reference's frame -/
abbrev TS : Type := Nat × Bool × Int64 × Nat × (Nat → Int64) × Int32 × (Nat → Int64)
abbrev CR : Type := (Nat × Nat) ⊕ (TS × Nat)
def nfP (nf x : Nat → Int64) (l : Nat) : Nat → Int64 := fun q => if 4 * l ≤ q ∧ q < 4 * l + 4 then x (q - 4 * l) else nf q
def pB (K V : Nat → Nat) (fi : Bool) (τ : TS) (j : Nat) : CR :=
  if K j = 6 then (if fi = true then (if K (j + 1) = 4 then (if 1 ≤ V (j + 1) ∧ V (j + 1) ≤ 6 then .inr ((V (j + 1), τ.2), j + 2) else .inl (2, j + 1)) else .inl (1, j + 1)) else .inl (1, j))
  else if K j = 7 then (if τ.2.1 = true then .inl (4, j) else (match pF K V τ.1 false 64 0 0 (j + 1) with | .inl e => .inl e | .inr y => .inr ((τ.1, true, y.1 0, τ.2.2.2), y.2)))
  else if K j = 8 then (if τ.2.2.2.1 = 4 then .inl (4, j) else (match pF K V τ.1 false 64 0 0 (j + 1) with | .inl e => .inl e | .inr y => .inr ((τ.1, τ.2.1, τ.2.2.1, τ.2.2.2.1 + 1, va_up τ.2.2.2.2.1 τ.2.2.2.1 (y.1 0), τ.2.2.2.2.2), y.2)))
  else if K j = 9 then (if K (j + 1) = 2 then (if V (j + 1) < τ.1 then (if ((τ.2.2.2.2.2.1 >>> (nI (V (j + 1)) &&& 31)) &&& (1 : Int32)) = (1 : Int32) then .inl (4, j + 1) else (match pF K V τ.1 true 64 0 0 (j + 2) with | .inl e => .inl e | .inr y => .inr ((τ.1, τ.2.1, τ.2.2.1, τ.2.2.2.1, τ.2.2.2.2.1, (τ.2.2.2.2.2.1 ||| ((1 : Int32) <<< (nI (V (j + 1)) &&& 31))), nfP τ.2.2.2.2.2.2 y.1 (V (j + 1))), y.2))) else .inl (3, j + 1)) else .inl (1, j + 1))
  else .inl (1, j)
def pC (K V : Nat → Nat) (fi : Bool) (τ : TS) (j : Nat) : CR := match pB K V fi τ j with
  | .inl e => .inl e
  | .inr y => if K y.2 = 5 ∧ V y.2 = 59 then .inr (y.1, y.2 + 1) else .inl (1, y.2)
/-- what a text keeps of the reference -/
def KR (T : Nat) (μ ν : MS) : Prop := (∀ r, r ≠ 4 → r ≠ 8 → ν.1 r = μ.1 r) ∧ (∀ q, q ≠ 2 * T → q ≠ 2 * T + 1 → ν.1 4 q = μ.1 4 q) ∧ (∀ r, r ≠ 5 → r ≠ 7 → ν.2.1 r = μ.2.1 r) ∧ (∀ q, (q < 29 * T ∨ 29 * T + 29 ≤ q) → ν.2.1 5 q = μ.2.1 5 q) ∧ ν.2.2.1 = μ.2.2.1 ∧ ∀ r, (r < 3 ∨ 13 < r) → ν.2.2.2 r = μ.2.2.2 r
theorem KR_refl (T : Nat) (μ : MS) : KR T μ μ := ⟨fun _ _ _ => rfl, fun _ _ _ => rfl, fun _ _ _ => rfl, fun _ _ => rfl, rfl, fun _ _ => rfl⟩
theorem KR_trans {T : Nat} {μ ν ρ : MS} (h : KR T μ ν) (g : KR T ν ρ) : KR T μ ρ := ⟨fun r a b => (g.1 r a b).trans (h.1 r a b), fun r a b => (g.2.1 r a b).trans (h.2.1 r a b), fun r a b => (g.2.2.1 r a b).trans (h.2.2.1 r a b), fun r a => (g.2.2.2.1 r a).trans (h.2.2.2.1 r a), g.2.2.2.2.1.trans h.2.2.2.2.1, fun r a => (g.2.2.2.2.2 r a).trans (h.2.2.2.2.2 r a)⟩
theorem KR_G {T : Nat} {μ ν : MS} (h : KG μ ν) : KR T μ ν := ⟨fun r _ a => h.1 r a, fun q _ _ => by rw [h.1 4 (by decide)], fun r _ a => h.2.1 r a, fun q _ => by rw [h.2.1 5 (by decide)], h.2.2.1, fun r a => h.2.2.2 r (by omega)⟩
theorem KR_I {T : Nat} {μ ν : MS} (h : KI μ ν) (h5 : ∀ q, (q < 29 * T ∨ 29 * T + 29 ≤ q) → ν.2.1 5 q = μ.2.1 5 q) : KR T μ ν := ⟨fun r _ a => h.1 r a, fun q _ _ => by rw [h.1 4 (by decide)], fun r a b => h.2.1 r b a, h5, h.2.2.1, fun r a => h.2.2.2 r (by omega) (by omega)⟩
theorem KR_n (T : Nat) (μ : MS) {r : Nat} (v : Int32) (h1 : 3 ≤ r) (h2 : r ≤ 13) : KR T μ (muN μ r v) := ⟨fun _ _ _ => rfl, fun _ _ _ => rfl, fun _ _ _ => rfl, fun _ _ => rfl, rfl, fun s hs => mn_n μ v (by omega)⟩
theorem KR_4 (T : Nat) (μ : MS) {k : Nat} (v : Int32) (h : k = 2 * T ∨ k = 2 * T + 1) : KR T μ (muI μ 4 (va_up (μ.1 4) k v)) := ⟨fun r a _ => mI_n _ _ a, fun q a b => by rw [mI_e]; exact up_n _ _ _ (by omega), fun _ _ _ => rfl, fun _ _ => rfl, rfl, fun _ _ => rfl⟩
theorem KR_5 (T : Nat) (μ : MS) {k : Nat} (v : Int64) (h : 29 * T ≤ k ∧ k < 29 * T + 29) : KR T μ (muL μ 5 (va_up (μ.2.1 5) k v)) := ⟨fun _ _ _ => rfl, fun _ _ _ => rfl, fun r a _ => mL_n _ _ a, fun q a => by rw [mL_e]; exact up_n _ _ _ (by omega), rfl, fun _ _ => rfl⟩
theorem Byt_r {T : Nat} {μ ν : MS} {n : Nat} {f : Nat → Nat} (h : Byt μ n f) (k : KR T μ ν) : Byt ν n f := ⟨(k.2.2.2.2.2 0 (by omega)).trans h.1, h.2.1, fun j hj => by rw [k.1 6 (by decide) (by decide)]; exact h.2.2 j hj⟩
theorem wr_w4 (c : Ce) (m : Nat) (μ : MS) {k : Nat} (hk : k < 8) (v : Int32) : sI (wr c m μ) (m + 5) (nI k) v = some (wr c m (muI μ 4 (va_up (μ.1 4) k v))) := by
  rw [wr_s4, if_neg (nI_in hk (by omega)), nI_clamp (by omega)]
  rfl
/-- what the reference holds of the text that it reads -/
def TU (μ : MS) (T : Nat) (τ : TS) : Prop := (1 ≤ τ.1 ∧ τ.1 ≤ 6 ∧ μ.2.2.2 10 = nI τ.1 ∧ μ.1 4 (2 * T) = nI τ.1) ∧ μ.2.2.2 12 = (if τ.2.1 = true then 1 else 0) ∧ μ.2.1 5 (29 * T) = τ.2.2.1 ∧ (τ.2.2.2.1 ≤ 4 ∧ μ.1 4 (2 * T + 1) = nI τ.2.2.2.1 ∧ ∀ i, (i < τ.2.2.2.1 ∨ i = 0) → μ.2.1 5 (29 * T + 1 + i) = τ.2.2.2.2.1 i) ∧ μ.2.2.2 13 = τ.2.2.2.2.2.1 ∧ ∀ q, q < 24 → μ.2.1 5 (29 * T + 5 + q) = τ.2.2.2.2.2.2 q
theorem TU_k {μ ν : MS} {T : Nat} {τ : TS} (h : TU μ T τ) (h4 : ν.1 4 = μ.1 4) (h5 : ν.2.1 5 = μ.2.1 5) (hN : ∀ r, (r = 10 ∨ r = 12 ∨ r = 13) → ν.2.2.2 r = μ.2.2.2 r) : TU ν T τ := by
  unfold TU at h ⊢
  rw [h4, h5, hN 10 (by omega), hN 12 (by omega), hN 13 (by omega)]
  exact h
theorem TU_G {μ ν : MS} {T : Nat} {τ : TS} (h : TU μ T τ) (g : KG μ ν) : TU ν T τ := TU_k h (g.1 4 (by decide)) (g.2.1 5 (by decide)) (fun r hr => g.2.2.2 r (by omega))
def clM (ce : Ce) (m : Nat) (p1 p2 zx1 : Int32) : Option ((Int32 ⊕ Int32) × Ce) :=
    
    if zx1 = (200 : Int32) then
      (rcv ce 9 m).bind fun zz6 =>
      (m_X12_lettersClause ce m p1 p2).bind fun zq7 =>
      some ((Sum.inr zq7.1, zq7.2))
    else
    if zx1 = (201 : Int32) then
      (gI ce 9 21 m).bind fun zx8 =>
      if zx8 = 0 then
        (pZ ce 9 21 m (1 : Int32)).bind fun zc9 =>
        (rcv zc9 9 m).bind fun zz10 =>
        (m_X12_nextToken zc9 m).bind fun zq11 =>
        (m_X12_formsOf p1).bind fun zx12 =>
        (rcv zq11.2 9 m).bind fun zz13 =>
        (m_X12_formAt zq11.2 m zx12 (0 : Int32)).bind fun zq14 =>
        some ((Sum.inr zq14.1, zq14.2))
      else
        some ((Sum.inl (4 : Int32), ce))
    else
    if zx1 = (202 : Int32) then
      (gA ce 9 4 m).bind fun zx15 =>
      (aI ce zx15 (((2 : Int32) * p1) + (1 : Int32))).bind fun zx16 =>
      if zx16 = (4 : Int32) then
        some ((Sum.inl (4 : Int32), ce))
      else
        (rcv ce 9 m).bind fun zz17 =>
        (m_X12_nextToken ce m).bind fun zq18 =>
        (m_X12_formsOf p1).bind fun zx19 =>
        (gA zq18.2 9 4 m).bind fun zx20 =>
        (aI zq18.2 zx20 (((2 : Int32) * p1) + (1 : Int32))).bind fun zx21 =>
        (rcv zq18.2 9 m).bind fun zz22 =>
        (m_X12_formAt zq18.2 m ((zx19 + (1 : Int32)) + zx21) (0 : Int32)).bind fun zq23 =>
        (gA zq23.2 9 4 m).bind fun zx24 =>
        (aI zq23.2 zx24 (((2 : Int32) * p1) + (1 : Int32))).bind fun zx25 =>
        (sI zq23.2 zx24 (((2 : Int32) * p1) + (1 : Int32)) (zx25 + (1 : Int32))).bind fun zc26 =>
        some ((Sum.inr zq23.1, zc26))
    else
    if zx1 = (203 : Int32) then
      (rcv ce 9 m).bind fun zz27 =>
      (m_X12_nextClause ce m p1).bind fun zq28 =>
      some ((Sum.inr zq28.1, zq28.2))
    else
    some ((Sum.inr (1 : Int32), ce))
def clT (m : Nat) (zj2 : (Int32 ⊕ Int32) × Ce) : Option (Int32 × Ce) := Sum.elim (fun wzj2 => some (wzj2, zj2.2)) (fun vzj2 =>
    if vzj2 = 0 then
      (gI zj2.2 9 12 m).bind fun zx3 =>
      if zx3 = (59 : Int32) then
        (rcv zj2.2 9 m).bind fun zz4 =>
        (m_X12_nextToken zj2.2 m).bind fun zq5 =>
        some ((0 : Int32), zq5.2)
      else
        some ((1 : Int32), zj2.2)
    else
      some (vzj2, zj2.2)
  ) zj2.1
theorem sr_clause0 (ce : Ce) (m : Nat) (p1 p2 : Int32) : m_X12_clause ce m p1 p2 = (gI ce 9 12 m).bind fun zx1 => (clM ce m p1 p2 zx1).bind fun zj2 => clT m zj2 := rfl
theorem and1I (x : Int32) : x &&& 1 = 0 ∨ x &&& 1 = 1 := by
  have h : (x &&& 1).toBitVec = 0#32 ∨ (x &&& 1).toBitVec = 1#32 := by
    show x.toBitVec &&& 1#32 = 0#32 ∨ x.toBitVec &&& 1#32 = 1#32
    rw [BitVec.and_one_eq_setWidth_ofBool_getLsbD]
    cases x.toBitVec.getLsbD 0
    · exact Or.inl (by decide)
    · exact Or.inr (by decide)
  rcases h with h | h
  · exact Or.inl (Int32.toBitVec_inj.mp h)
  · exact Or.inr (Int32.toBitVec_inj.mp h)
/-- a number told: what both hold of it -/
theorem num_in {ν : MS} {f : Nat → Nat} {n j : Nat} (h : At ν f n j) (hK : tK f n j = 4) : ∃ w, w ≤ 99999 ∧ ν.2.2.2 6 = nI w ∧ tV f n j = min 1000 w := h.2.2.2.2 hK
