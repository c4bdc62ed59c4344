/-- the words that a call may hand on -/
def lw_gd : List Cond := lw_tbl.filter goodWord
theorem lw_in {i : Nat} {w : Cond} (h : lw_tbl[i]? = some w) (hg : goodWord w = true) : w ∈ lw_gd := List.mem_filter.mpr ⟨List.mem_of_getElem? h, hg⟩
/-! THE POOL: what the law's run has made, by address; a method's contract over it; a walk's judgement Jd, a row an instruction -/
abbrev PE : Type := (FieldType × vp_A) ⊕ (Nat × List Value)
abbrev Ce : Type := Nat → Option PE
/-- what all walks share: numbers and slots, the array kinds, the first address that is the law's own, the address of LETTER_SETS, those of the texts and of their bytes -/
abbrev GX : Type := va_G × (FieldType → ClassId) × Nat × Nat × (Nat → Nat) × (Nat → Nat) × Option Nat
def gx_up (c : Ce) (a : Nat) (e : PE) : Ce := fun b => if b = a then some e else c b
def gx_E (cy : FieldType → ClassId) (e : PE) : va_E := match e with
  | .inl a => .inl (cy a.1, a.2)
  | .inr o => .inr o
def gx_A (X : GX) : Nat → Prop := fun q => X.2.2.1 ≤ q
def gx_at (X : GX) (a : Nat) (e : PE) (H : Heap) : Prop := va_at X.1 vwCl (a, gx_E X.2.1 e) H
def gx_R (X : GX) (nx : Nat) (c : Ce) (H : Heap) : Prop := H.size = nx ∧ X.2.2.1 ≤ nx ∧ ∀ (a : Nat) (e : PE), c a = some e → X.2.2.1 ≤ a ∧ gx_at X a e H
abbrev tyM : FieldType := .object "FencedStates$Machine"
abbrev tyS : FieldType := .object "FencedStates$Search"
def gx_tyl (cy : FieldType → ClassId) : List (ClassId × FieldType) := [(cy .int, .int), (cy .long, .long), (cy .float, .float), (cy .byte, .byte), (cy tyM, tyM), (cy tyS, tyS)]
/-- LETTER_SETS -/
def LSv (k : Nat) : Int64 := match k with
  | 0 => -6148914691236517206
  | 1 => -3689348814741910324
  | 2 => -1085102592571150096
  | 3 => -71777214294589696
  | 4 => -281470681808896
  | _ => -4294967296
def stI (k : Nat) : Nat := match k with
  | 0 => 150
  | 1 => 155
  | 2 => 156
  | 3 => 158
  | 4 => 182
  | _ => 135
def stT (k : Nat) : String := match k with
  | 0 => "letters"
  | 1 => "init"
  | 2 => "bad"
  | 3 => "next"
  | 4 => "|^&"
  | _ => "()!&^|;"
def stL : List Nat := [7, 4, 3, 4, 3, 7]
def stB : List (List Int32) := [[108, 101, 116, 116, 101, 114, 115], [105, 110, 105, 116], [98, 97, 100], [110, 101, 120, 116], [124, 94, 38], [40, 41, 33, 38, 94, 124, 59]]
def gx_S (X : GX) (U : State) : Prop := vk_S 6 stL stB X.2.2.2.2.1 X.2.2.2.2.2.1 (gx_A X) U U.heap ∧ (∀ k, k < 6 → vk_R "FencedStates$Reader" (stI k) (stT k) (X.2.2.2.2.1 k) U) ∧ va_Z "java/lang/String" "COMPACT_STRINGS" "Z" (.int 1) (gx_A X) U U.heap ∧ va_Z "jdk/internal/util/Preconditions" "SIOOBE_FORMATTER" "Ljava/util/function/BiFunction;" (va_rf X.2.2.2.2.2.2) (gx_A X) U U.heap
def gx_N (U : State) : Prop := va_AO "FencedStates$Machine" U ∧ va_AO "FencedStates$Search" U ∧ va_Nw (.fieldLinkNest "FencedStates$Reader" 64 "FencedStates" "LETTER_SETS" "[J" "FencedStates") U ∧ va_Nw (.fieldLinkNest "FencedStates$Cubes" 24 "FencedStates" "LETTER_SETS" "[J" "FencedStates") U ∧ va_Nw (.castable "[J" "java/lang/Cloneable") U ∧ va_Nw (.castable "[I" "java/lang/Cloneable") U
def gx_K (X : GX) (U : State) : Prop := va_K X.1 vwCl (gx_tyl X.2.1) U ∧ X.2.2.1 ≤ U.heap.size ∧ va_Z "FencedStates" "LETTER_SETS" "[J" (.ref X.2.2.2.1) (gx_A X) U U.heap ∧ va_T .long X.2.2.2.1 6 (fun k => .long (LSv k)) (gx_A X) U U.heap ∧ gx_S X U ∧ gx_N U
theorem gx_at.lt {X : GX} {a : Nat} {e : PE} {H : Heap} (h : gx_at X a e H) : a < H.size := va_at.lt h
theorem gx_R.set {X : GX} {nx a : Nat} {c : Ce} {e0 e : PE} {H H1 : Heap} (h : gx_R X nx c H) (h0 : c a = some e0) (he : gx_at X a e H1) (z : H1.size = H.size) (oq : ∀ q : Nat, q ≠ a → H1[q]? = H[q]?) : gx_R X nx (gx_up c a e) H1 := by
  refine ⟨z.trans h.1, h.2.1, fun b f hb => ?_⟩
  unfold gx_up at hb
  by_cases hba : b = a
  · subst hba
    rw [if_pos rfl] at hb
    cases hb
    exact ⟨(h.2.2 _ _ h0).1, he⟩
  · rw [if_neg hba] at hb
    exact ⟨(h.2.2 _ _ hb).1, va_at.kept (h.2.2 _ _ hb).2 (oq b hba)⟩
theorem gx_R.push {X : GX} {nx : Nat} {c : Ce} {e : PE} {H H1 : Heap} (h : gx_R X nx c H) (he : gx_at X nx e H1) (z : H1.size = nx + 1) (oq : ∀ q : Nat, q < nx → H1[q]? = H[q]?) : gx_R X (nx + 1) (gx_up c nx e) H1 := by
  refine ⟨z, Nat.le_succ_of_le h.2.1, fun b f hb => ?_⟩
  unfold gx_up at hb
  by_cases hba : b = nx
  · subst hba
    rw [if_pos rfl] at hb
    cases hb
    exact ⟨h.2.1, he⟩
  · rw [if_neg hba] at hb
    obtain ⟨g1, g2⟩ := h.2.2 _ _ hb
    exact ⟨g1, va_at.kept g2 (oq b (by rw [← h.1]; exact gx_at.lt g2))⟩
/-! reads and writes of the pool, as they can fail -/
def gI (c : Ce) (ci k a : Nat) : Option Int32 := match c a with
  | some (.inr (cj, fs)) => if cj = ci then (match fs[k]? with | some (.int x) => some x | _ => none) else none
  | _ => none
def gJ (c : Ce) (ci k a : Nat) : Option Int64 := match c a with
  | some (.inr (cj, fs)) => if cj = ci then (match fs[k]? with | some (.long x) => some x | _ => none) else none
  | _ => none
def gF (c : Ce) (ci k a : Nat) : Option UInt32 := match c a with
  | some (.inr (cj, fs)) => if cj = ci then (match fs[k]? with | some (.float x) => some x | _ => none) else none
  | _ => none
def gA (c : Ce) (ci k a : Nat) : Option Nat := match c a with
  | some (.inr (cj, fs)) => if cj = ci then (match fs[k]? with | some (.ref x) => some x | _ => none) else none
  | _ => none
def pV (c : Ce) (ci k a : Nat) (v : Value) : Option Ce := match c a with
  | some (.inr (cj, fs)) => if cj = ci ∧ k < fs.length then some (gx_up c a (.inr (ci, fs.set k v))) else none
  | _ => none
def aI (c : Ce) (a : Nat) (i : Int32) : Option Int32 := match c a with
  | some (.inl (.int, n, .inl f)) => if i < 0 ∨ n ≤ i.toNatClampNeg then none else some (f i.toNatClampNeg)
  | _ => none
def aB (c : Ce) (a : Nat) (i : Int32) : Option Int32 := match c a with
  | some (.inl (.byte, n, .inl f)) => if i < 0 ∨ n ≤ i.toNatClampNeg then none else some (f i.toNatClampNeg)
  | _ => none
def aL (c : Ce) (a : Nat) (i : Int32) : Option Int64 := match c a with
  | some (.inl (.long, n, .inr (.inl f))) => if i < 0 ∨ n ≤ i.toNatClampNeg then none else some (f i.toNatClampNeg)
  | _ => none
def aG (c : Ce) (a : Nat) (i : Int32) : Option UInt32 := match c a with
  | some (.inl (.float, n, .inr (.inr (.inl f)))) => if i < 0 ∨ n ≤ i.toNatClampNeg then none else some (f i.toNatClampNeg)
  | _ => none
def aR (C : String) (c : Ce) (a : Nat) (i : Int32) : Option (Option Nat) := match c a with
  | some (.inl (.object D, n, .inr (.inr (.inr (.inr f))))) => if D = C then (if i < 0 ∨ n ≤ i.toNatClampNeg then none else some (f i.toNatClampNeg)) else none
  | _ => none
def sI (c : Ce) (a : Nat) (i : Int32) (x : Int32) : Option Ce := match c a with
  | some (.inl (.int, n, .inl f)) => if i < 0 ∨ n ≤ i.toNatClampNeg then none else some (gx_up c a (.inl (.int, n, .inl (va_up f i.toNatClampNeg x))))
  | _ => none
def sB (c : Ce) (a : Nat) (i : Int32) (x : Int32) : Option Ce := match c a with
  | some (.inl (.byte, n, .inl f)) => if i < 0 ∨ n ≤ i.toNatClampNeg then none else some (gx_up c a (.inl (.byte, n, .inl (va_up f i.toNatClampNeg (vp_nar .byte x)))))
  | _ => none
def sL (c : Ce) (a : Nat) (i : Int32) (x : Int64) : Option Ce := match c a with
  | some (.inl (.long, n, .inr (.inl f))) => if i < 0 ∨ n ≤ i.toNatClampNeg then none else some (gx_up c a (.inl (.long, n, .inr (.inl (va_up f i.toNatClampNeg x)))))
  | _ => none
def sG (c : Ce) (a : Nat) (i : Int32) (x : UInt32) : Option Ce := match c a with
  | some (.inl (.float, n, .inr (.inr (.inl f)))) => if i < 0 ∨ n ≤ i.toNatClampNeg then none else some (gx_up c a (.inl (.float, n, .inr (.inr (.inl (va_up f i.toNatClampNeg x))))))
  | _ => none
def sR (C : String) (ci : Nat) (c : Ce) (a : Nat) (i : Int32) (x : Option Nat) : Option Ce := match c a with
  | some (.inl (.object D, n, .inr (.inr (.inr (.inr f))))) => if D = C then (if i < 0 ∨ n ≤ i.toNatClampNeg then none else (match x with
    | none => some (gx_up c a (.inl (.object C, n, .inr (.inr (.inr (.inr (va_up f i.toNatClampNeg none)))))))
    | some v => (match c v with
      | some (.inr (cj, _)) => if cj = ci then some (gx_up c a (.inl (.object C, n, .inr (.inr (.inr (.inr (va_up f i.toNatClampNeg (some v)))))))) else none
      | _ => none))) else none
  | _ => none
def alen (c : Ce) (a : Nat) : Option Int32 := match c a with
  | some (.inl (.int, n, .inl _)) => some (Int32.ofNat n)
  | some (.inl (.byte, n, .inl _)) => some (Int32.ofNat n)
  | some (.inl (.long, n, .inr (.inl _))) => some (Int32.ofNat n)
  | some (.inl (.float, n, .inr (.inr (.inl _)))) => some (Int32.ofNat n)
  | some (.inl (.object D, n, .inr (.inr (.inr (.inr _))))) => if D = "FencedStates$Machine" ∨ D = "FencedStates$Search" then some (Int32.ofNat n) else none
  | _ => none
def aLS (i : Int32) : Option Int64 := if i < 0 ∨ 6 ≤ i.toNatClampNeg then none else some (LSv i.toNatClampNeg)
def rm32 (x y : Int32) : Int32 := x - x / y * y
def nz (y : Int32) : Option Unit := if y = 0 then none else some ()
/-- a number's float bits, where it is no NaN -/
def fq (x : UInt32) : Option UInt32 := if isNaN32 x then none else some x
def dq (x : UInt64) : Option UInt64 := if isNaN64 x then none else some x
/-- walks' helps over what can fail -/
theorem ob {α β : Type} {x : Option α} {f : α → Option β} {b : β} (h : x.bind f = some b) : ∃ a, x = some a ∧ f a = some b := Option.bind_eq_some_iff.mp h
theorem ifT {α : Type} {c : Prop} [Decidable c] {a b r : α} (hc : c) (h : (if c then a else b) = r) : a = r := by rwa [if_pos hc] at h
theorem ifF {α : Type} {c : Prop} [Decidable c] {a b r : α} (hc : ¬ c) (h : (if c then a else b) = r) : b = r := by rwa [if_neg hc] at h
