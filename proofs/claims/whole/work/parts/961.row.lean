/-! THE CLASS: a row of cubes -/
def RWc (F C : Nat → Int32) (S : Nat → Int64) (l : List Cu) : Prop := ∀ (i : Nat) (q : Cu), l[i]? = some q → F i = nI q.1 ∧ C i = nI (q.2.1 * 64 + q.2.2) ∧ S i = cubS 6 q.2.1 q.2.2
def RB (l : List Cu) : Prop := ∀ q, q ∈ l → q.1 < 128 ∧ q.2.1 < 64 ∧ q.2.2 < 64
def RW (ce : Ce) (r f g s cap : Nat) (l : List Cu) : Prop := ∃ F C S, ce r = some (.inr (2, [.ref f, .ref g, .ref s, .int (nI l.length)])) ∧ ce f = some (.inl (.int, cap, .inl F)) ∧ ce g = some (.inl (.int, cap, .inl C)) ∧ ce s = some (.inl (.long, cap, .inr (.inl S))) ∧ l.length ≤ cap ∧ cap < 10000 ∧ RB l ∧ RWc F C S l
theorem RW_congr {ce c2 : Ce} {r f g s cap : Nat} {l : List Cu} (h1 : c2 r = ce r) (h2 : c2 f = ce f) (h3 : c2 g = ce g) (h4 : c2 s = ce s) (h : RW ce r f g s cap l) : RW c2 r f g s cap l := by
  obtain ⟨F, C, S, a1, a2, a3, a4, a5⟩ := h
  exact ⟨F, C, S, h1.trans a1, h2.trans a2, h3.trans a3, h4.trans a4, a5⟩
/-- where those of a frame and above begin -/
def stR (l : List Cu) (f : Nat) : Nat := l.findIdx fun q => decide (f ≤ q.1)
theorem stR_le (l : List Cu) (f : Nat) : stR l f ≤ l.length := List.findIdx_le_length
theorem cw_size {ce : Ce} {r f g s cap : Nat} {l : List Cu} (h : RW ce r f g s cap l) : gI ce 2 3 r = some (nI l.length) := by
  obtain ⟨F, C, S, h1, _⟩ := h
  exact gI_c h1 rfl
theorem cw_rcv {ce : Ce} {r f g s cap : Nat} {l : List Cu} (h : RW ce r f g s cap l) : rcv ce 2 r = some () := by
  obtain ⟨F, C, S, h1, _⟩ := h
  exact rcv_c h1
theorem cw_startOf {ce : Ce} {r f g s cap : Nat} {l : List Cu} (h : RW ce r f g s cap l) {fr : Nat} (hf : fr < 2 ^ 31) : m_X2_startOf ce r (nI fr) = some (nI (stR l fr)) := by
  obtain ⟨F, C, S, h1, h2, h3, h4, h5, h6, h7, h8⟩ := h
  refine ok_eq ?_
  unfold m_X2_startOf
  refine ok_call (P := fun o => o = nI (stR l fr)) (ok_cnt 0 l.length (fun j s => s = nI j ∧ ∀ i (hi : i < l.length), i < j → l[i].1 < fr) (by omega) (by omega) ⟨rfl, fun _ _ h => by omega⟩ ?_ ?_) (fun a h => ok_some h)
  · rintro j _ hj ⟨rfl, hl⟩
    have hat : l[j]? = some l[j] := List.getElem?_eq_getElem hj
    have hb := h7 l[j] (List.getElem_mem hj)
    rw [gI_c (k := 3) h1 rfl, bind_s, if_le (by omega) (by omega), if_neg (by omega), gA_c (k := 0) h1 rfl, bind_s, aI_c h2 (by omega) (by omega), bind_s, (h8 j _ hat).1, if_le (by omega) (by omega)]
    by_cases hq : fr ≤ l[j].1
    · rw [if_pos hq]
      refine ok_some ?_
      show nI j = nI (stR l fr)
      have e : stR l fr = j := by
        unfold stR
        rw [List.findIdx_eq hj]
        refine ⟨by simp [hq], fun i hi => ?_⟩
        have := hl i (by omega) hi
        simp
        omega
      rw [e]
    · rw [if_neg hq]
      refine ok_some ⟨nI_1 j, fun i hi hij => ?_⟩
      by_cases e : i = j
      · subst e; omega
      · exact hl i hi (by omega)
  · rintro _ ⟨rfl, hl⟩
    rw [gI_c (k := 3) h1 rfl, bind_s, if_le (by omega) (by omega), if_pos (Nat.le_refl _)]
    refine ok_some ?_
    show nI l.length = nI (stR l fr)
    have e : stR l fr = l.length := by
      unfold stR
      rw [List.findIdx_eq_length]
      intro q hq
      obtain ⟨i, hi, rfl⟩ := List.getElem_of_mem hq
      have := hl i hi hi
      simp
      omega
    rw [e]
theorem cw_countOf {ce : Ce} {r f g s cap : Nat} {l : List Cu} (h : RW ce r f g s cap l) {fr : Nat} (hf : fr + 1 < 2 ^ 31) (hle : stR l fr ≤ stR l (fr + 1)) : m_X2_countOf ce r (nI fr) = some (nI (stR l (fr + 1) - stR l fr)) := by
  unfold m_X2_countOf
  rw [cw_rcv h, bind_s, nI_1, cw_startOf h hf, bind_s, bind_s, cw_startOf h (by omega), bind_s, pk_sub hle]
theorem cw_cubeAt {ce : Ce} {r f g s cap : Nat} {l : List Cu} (h : RW ce r f g s cap l) {i : Nat} {q : Cu} (hq : l[i]? = some q) : m_X2_cubeAt ce r (nI i) = some (nI (q.2.1 * 64 + q.2.2)) := by
  obtain ⟨F, C, S, h1, h2, h3, h4, h5, h6, h7, h8⟩ := h
  have hi : i < l.length := (List.getElem?_eq_some_iff.mp hq).1
  unfold m_X2_cubeAt
  rw [if_neg (nI_pos (by omega)), gI_c (k := 3) h1 rfl, bind_s, if_le (by omega) (by omega), if_neg (by omega), gA_c (k := 1) h1 rfl, bind_s, aI_c h3 (by omega) (by omega), bind_s, (h8 i q hq).2.1]
theorem cw_statesAt {ce : Ce} {r f g s cap : Nat} {l : List Cu} (h : RW ce r f g s cap l) {i : Nat} {q : Cu} (hq : l[i]? = some q) : m_X2_statesAt ce r (nI i) = some (cubS 6 q.2.1 q.2.2) := by
  obtain ⟨F, C, S, h1, h2, h3, h4, h5, h6, h7, h8⟩ := h
  have hi : i < l.length := (List.getElem?_eq_some_iff.mp hq).1
  unfold m_X2_statesAt
  rw [if_neg (nI_pos (by omega)), gI_c (k := 3) h1 rfl, bind_s, if_le (by omega) (by omega), if_neg (by omega), gA_c (k := 2) h1 rfl, bind_s, aL_c h4 (by omega) (by omega), bind_s, (h8 i q hq).2.2]
theorem cw_isOf {ce : Ce} {r f g s cap : Nat} {l : List Cu} (h : RW ce r f g s cap l) {i fr : Nat} (hi31 : i < 2 ^ 31) (hf : fr < 2 ^ 31) : m_X2_isOf ce r (nI i) (nI fr) = some (if (l[i]?).any (fun q => decide (q.1 = fr)) then 1 else 0) := by
  obtain ⟨F, C, S, h1, h2, h3, h4, h5, h6, h7, h8⟩ := h
  unfold m_X2_isOf
  rw [if_neg (nI_pos (by omega)), gI_c (k := 3) h1 rfl, bind_s, if_le (by omega) (by omega)]
  by_cases hi : l.length ≤ i
  · rw [if_pos hi, List.getElem?_eq_none hi]
    rfl
  · have hat : l[i]? = some l[i] := List.getElem?_eq_getElem (by omega)
    have hb := h7 l[i] (List.getElem_mem (by omega))
    rw [if_neg hi, gA_c (k := 0) h1 rfl, bind_s, aI_c h2 (by omega) (by omega), bind_s, (h8 i _ hat).1, if_eq (by omega) hf, hat]
    by_cases hq : l[i].1 = fr
    · simp [hq]
    · simp [hq]
theorem cw_highestFrame {ce : Ce} {r f g s cap : Nat} {l : List Cu} (h : RW ce r f g s cap l) : m_X2_highestFrame ce r = some (nI ((l.getLast?.map Prod.fst).getD 0)) := by
  obtain ⟨F, C, S, h1, h2, h3, h4, h5, h6, h7, h8⟩ := h
  unfold m_X2_highestFrame
  rw [gI_c (k := 3) h1 rfl, bind_s]
  by_cases h0 : l.length = 0
  · have : l = [] := List.length_eq_zero_iff.mp h0
    subst this
    rfl
  · rw [if_neg (nI_nle (by omega) (by omega)), gA_c (k := 0) h1 rfl, bind_s, bind_s]
    have e : nI l.length - 1 = nI (l.length - 1) := by rw [nl_1, pk_sub (by omega)]
    have hat : l[l.length - 1]? = some l[l.length - 1] := List.getElem?_eq_getElem (by omega)
    rw [e, aI_c h2 (by omega) (by omega), bind_s, (h8 _ _ hat).1, List.getLast?_eq_getElem?, hat]
    rfl
/-- all states of some cubes -/
def uniS (l : List Cu) : Int64 := mkS fun s => l.any fun q => B (cubS 6 q.2.1 q.2.2) s
theorem cw_unionFrom {ce : Ce} {r f g s cap : Nat} {l : List Cu} (h : RW ce r f g s cap l) {p : Nat} (hp : p < 2 ^ 31) : m_X2_unionFrom ce r (nI p) = some (uniS (l.drop p)) := by
  obtain ⟨F, C, S, h1, h2, h3, h4, h5, h6, h7, h8⟩ := h
  refine ok_eq ?_
  unfold m_X2_unionFrom
  rw [if_neg (nI_pos hp), bind_s]
  have fin : ∀ (P : Int64 → Prop) (z : Int32) (hz : z = nI p), (l.length ≤ p → P 0) → True := fun _ _ _ _ => trivial
  by_cases hpl : p ≤ l.length
  · refine ok_call (P := fun o => o = uniS (l.drop p)) (ok_cnt p l.length (fun j s => p ≤ j ∧ s = (uniS ((l.take j).drop p), nI j)) (by omega) hpl ⟨Nat.le_refl _, ?_⟩ ?_ ?_) (fun a h => ok_some h)
    · have e : uniS ((l.take p).drop p) = 0 := by
        refine B_ext0 fun k hk => ?_
        unfold uniS
        rw [B_mkS _ hk, List.drop_eq_nil_of_le (by rw [List.length_take]; omega)]
        rfl
      rw [e]
    · rintro j _ hj ⟨hpj, rfl⟩
      have hat : l[j]? = some l[j] := List.getElem?_eq_getElem hj
      have htk : l.take (j + 1) = l.take j ++ [l[j]] := (List.take_append_getElem hj).symm
      rw [gI_c (k := 3) h1 rfl, bind_s, if_le (by omega) (by omega), if_neg (by omega), gA_c (k := 2) h1 rfl, bind_s, aL_c h4 (by omega) (by omega), bind_s]
      refine ok_some ⟨by omega, ?_⟩
      show (_, nI j + 1) = (uniS ((l.take (j + 1)).drop p), nI (j + 1))
      rw [nI_1, (h8 j _ hat).2.2, htk, List.drop_append_of_le_length (by rw [List.length_take]; omega)]
      congr 1
      refine B_ext fun k hk => ?_
      unfold uniS
      rw [B_or, B_mkS _ hk, B_mkS _ hk, List.any_append]
      simp
    · rintro _ ⟨hpj, rfl⟩
      rw [gI_c (k := 3) h1 rfl, bind_s, if_le (by omega) (by omega), if_pos (Nat.le_refl _), List.take_length]
      exact ok_some rfl
  · refine ok_call (P := fun o => o = uniS (l.drop p)) (ok_cnt 0 0 (fun _ s => s = (0, nI p)) (by omega) (by omega) rfl (fun j s hj _ => by omega) ?_) (fun a h => ok_some h)
    rintro _ rfl
    rw [gI_c (k := 3) h1 rfl, bind_s, if_le (by omega) (by omega), if_pos (by omega), List.drop_eq_nil_of_le (by omega)]
    refine ok_some ?_
    show (0 : Int64) = uniS []
    refine (B_ext0 fun k hk => ?_).symm
    unfold uniS
    rw [B_mkS _ hk]
    rfl
/-! the row in one form -/
def cr (c : Ce) (r f g s cap : Nat) (F C : Nat → Int32) (S : Nat → Int64) (z : Nat) : Ce := fun b => if b = r then some (.inr (2, [.ref f, .ref g, .ref s, .int (nI z)])) else if b = f then some (.inl (.int, cap, .inl F)) else if b = g then some (.inl (.int, cap, .inl C)) else if b = s then some (.inl (.long, cap, .inr (.inl S))) else c b
def D4 (r f g s : Nat) : Prop := r ≠ f ∧ r ≠ g ∧ r ≠ s ∧ f ≠ g ∧ f ≠ s ∧ g ≠ s
theorem cr_r (c : Ce) (r f g s cap : Nat) (F C : Nat → Int32) (S : Nat → Int64) (z : Nat) : cr c r f g s cap F C S z r = some (.inr (2, [.ref f, .ref g, .ref s, .int (nI z)])) := if_pos rfl
theorem cr_f (c : Ce) {r f g s : Nat} (hd : D4 r f g s) (cap : Nat) (F C : Nat → Int32) (S : Nat → Int64) (z : Nat) : cr c r f g s cap F C S z f = some (.inl (.int, cap, .inl F)) := by
  unfold D4 at hd
  unfold cr
  rw [if_neg (by omega), if_pos rfl]
theorem cr_g (c : Ce) {r f g s : Nat} (hd : D4 r f g s) (cap : Nat) (F C : Nat → Int32) (S : Nat → Int64) (z : Nat) : cr c r f g s cap F C S z g = some (.inl (.int, cap, .inl C)) := by
  unfold D4 at hd
  unfold cr
  rw [if_neg (by omega), if_neg (by omega), if_pos rfl]
theorem cr_s (c : Ce) {r f g s : Nat} (hd : D4 r f g s) (cap : Nat) (F C : Nat → Int32) (S : Nat → Int64) (z : Nat) : cr c r f g s cap F C S z s = some (.inl (.long, cap, .inr (.inl S))) := by
  unfold D4 at hd
  unfold cr
  rw [if_neg (by omega), if_neg (by omega), if_neg (by omega), if_pos rfl]
theorem cr_o (c : Ce) {r f g s : Nat} (cap : Nat) (F C : Nat → Int32) (S : Nat → Int64) (z : Nat) {b : Nat} (h : b ≠ r ∧ b ≠ f ∧ b ≠ g ∧ b ≠ s) : cr c r f g s cap F C S z b = c b := by
  unfold cr
  rw [if_neg h.1, if_neg h.2.1, if_neg h.2.2.1, if_neg h.2.2.2]
theorem cr_self {ce : Ce} {r f g s cap : Nat} {F C : Nat → Int32} {S : Nat → Int64} {z : Nat} (h1 : ce r = some (.inr (2, [.ref f, .ref g, .ref s, .int (nI z)]))) (h2 : ce f = some (.inl (.int, cap, .inl F))) (h3 : ce g = some (.inl (.int, cap, .inl C))) (h4 : ce s = some (.inl (.long, cap, .inr (.inl S)))) : cr ce r f g s cap F C S z = ce := by
  funext b
  unfold cr
  by_cases b1 : b = r
  · rw [if_pos b1, b1, h1]
  · rw [if_neg b1]
    by_cases b2 : b = f
    · rw [if_pos b2, b2, h2]
    · rw [if_neg b2]
      by_cases b3 : b = g
      · rw [if_pos b3, b3, h3]
      · rw [if_neg b3]
        by_cases b4 : b = s
        · rw [if_pos b4, b4, h4]
        · rw [if_neg b4]
theorem cr_ur (c : Ce) {r f g s : Nat} (cap : Nat) (F C : Nat → Int32) (S : Nat → Int64) (z z2 : Nat) : gx_up (cr c r f g s cap F C S z) r (.inr (2, [.ref f, .ref g, .ref s, .int (nI z2)])) = cr c r f g s cap F C S z2 := by
  funext b
  unfold gx_up cr
  by_cases b1 : b = r
  · rw [if_pos b1, if_pos b1]
  · rw [if_neg b1, if_neg b1, if_neg b1]
theorem cr_uf (c : Ce) {r f g s : Nat} (hd : D4 r f g s) (cap : Nat) (F F2 C : Nat → Int32) (S : Nat → Int64) (z : Nat) : gx_up (cr c r f g s cap F C S z) f (.inl (.int, cap, .inl F2)) = cr c r f g s cap F2 C S z := by
  unfold D4 at hd
  funext b
  unfold gx_up cr
  by_cases b2 : b = f
  · rw [if_pos b2, if_neg (by omega), if_pos b2]
  · rw [if_neg b2, if_neg b2, if_neg b2]
theorem cr_ug (c : Ce) {r f g s : Nat} (hd : D4 r f g s) (cap : Nat) (F C C2 : Nat → Int32) (S : Nat → Int64) (z : Nat) : gx_up (cr c r f g s cap F C S z) g (.inl (.int, cap, .inl C2)) = cr c r f g s cap F C2 S z := by
  unfold D4 at hd
  funext b
  unfold gx_up cr
  by_cases b2 : b = g
  · rw [if_pos b2, if_neg (by omega), if_neg (by omega), if_pos b2]
  · rw [if_neg b2, if_neg b2, if_neg b2]
theorem cr_us (c : Ce) {r f g s : Nat} (hd : D4 r f g s) (cap : Nat) (F C : Nat → Int32) (S S2 : Nat → Int64) (z : Nat) : gx_up (cr c r f g s cap F C S z) s (.inl (.long, cap, .inr (.inl S2))) = cr c r f g s cap F C S2 z := by
  unfold D4 at hd
  funext b
  unfold gx_up cr
  by_cases b2 : b = s
  · rw [if_pos b2, if_neg (by omega), if_neg (by omega), if_neg (by omega), if_pos b2]
  · rw [if_neg b2, if_neg b2, if_neg b2]
