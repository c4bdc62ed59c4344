/-! THE CLASS: activities -/
def AC (ce : Ce) (a v : Nat) (fl : Nat → UInt32) : Prop := ∃ G, ce a = some (.inr (0, [.ref v, .float (fl 6)])) ∧ ce v = some (.inl (.float, 6, .inr (.inr (.inl G)))) ∧ ∀ l, l < 6 → G l = fl l
theorem AC_congr {ce c2 : Ce} {a v : Nat} {fl : Nat → UInt32} (h1 : c2 a = ce a) (h2 : c2 v = ce v) (h : AC ce a v fl) : AC c2 a v fl := by
  obtain ⟨G, a1, a2, a3⟩ := h
  exact ⟨G, h1.trans a1, h2.trans a2, a3⟩
theorem ca_rcv {ce : Ce} {a v : Nat} {fl : Nat → UInt32} (h : AC ce a v fl) : rcv ce 0 a = some () := by
  obtain ⟨G, h1, _⟩ := h
  exact rcv_c h1
theorem ca_valueOf {ce : Ce} {a v : Nat} {fl : Nat → UInt32} (h : AC ce a v fl) {l : Nat} (hl : l < 6) : m_X0_valueOf ce a (nI l) = some (fl l) := by
  obtain ⟨G, h1, h2, h3⟩ := h
  unfold m_X0_valueOf
  rw [if_neg (nI_pos (by omega)), gA_c (k := 0) h1 rfl, bind_s, alen_G h2, bind_s, if_le (by omega) (by omega), if_neg (by omega), bind_s, aG_c h2 hl (by omega), bind_s, h3 l hl]
/-- one letter comes before another, as the class asks it -/
def rkB (mode : Nat) (x y : UInt32) (lt : Bool) : Bool := if mode = 1 then lt else if Op.cmpValue (FP.fcmp x y) .l = 0 then lt else if mode = 0 then !decide (0 ≤ Op.cmpValue (FP.fcmp x y) .g) else !decide (Op.cmpValue (FP.fcmp x y) .l ≤ 0)
def RK (mode : Nat) (fl : Nat → UInt32) (L : Nat) (kk : Nat → Nat) : Prop := ∀ o l, o < L → l < L → rkB mode (fl o) (fl l) (decide (o < l)) = bef kk o l
theorem ca_rankOf {ce : Ce} {a v : Nat} {fl : Nat → UInt32} (h : AC ce a v fl) {L mode l : Nat} (hL : L < 7) (hm : mode < 2 ^ 31) (hl : l < L) {kk : Nat → Nat} (hK : RK mode fl L kk) : m_X0_rankOf ce a (nI l) (nI mode) (nI L) = some (nI ((List.range L).countP fun o => bef kk o l)) := by
  refine ok_eq ?_
  unfold m_X0_rankOf
  rw [ca_rcv h, bind_s, ca_valueOf h (by omega), bind_s]
  obtain ⟨G, h1, h2, h3⟩ := h
  refine ok_call (P := fun w => w = nI ((List.range L).countP fun o => bef kk o l)) (ok_cnt 0 L (fun j s => s = (nI ((List.range j).countP fun o => bef kk o l), nI j)) (by omega) (by omega) rfl ?_ ?_) (fun a h => ok_some h)
  · rintro j _ hj rfl
    rw [if_le (by omega) (by omega), if_neg (by omega), gA_c (k := 0) h1 rfl, bind_s, alen_G h2, bind_s, if_le (by omega) (by omega), if_neg (by omega), bind_s, aG_c h2 (by omega) (by omega), bind_s, h3 j (by omega), if_le (by omega) (by omega), List.range_succ, List.countP_append]
    have e1 : (if l ≤ j then some (0 : Int32) else some 1) = some (if decide (j < l) then 1 else 0) := by
      by_cases hlj : l ≤ j
      · have : ¬ j < l := by omega
        simp [hlj, this]
      · have : j < l := by omega
        simp [hlj, this]
    rw [e1, bind_s]
    have e2 : (if nI mode = (1 : Int32) then some (if decide (j < l) = true then (1 : Int32) else 0) else if Op.cmpValue (FP.fcmp (fl j) (fl l)) .l = 0 then some (if decide (j < l) = true then 1 else 0) else if nI mode = 0 then (if 0 ≤ Op.cmpValue (FP.fcmp (fl j) (fl l)) .g then some 0 else some 1) else (if Op.cmpValue (FP.fcmp (fl j) (fl l)) .l ≤ 0 then some 0 else some 1)) = some (if bef kk j l then 1 else 0) := by
      rw [← hK j l hj hl]
      unfold rkB
      rw [if_q nl_1 hm (by omega), if_z hm]
      by_cases m1 : mode = 1
      · rw [if_pos m1, if_pos m1]
      · rw [if_neg m1, if_neg m1]
        by_cases m2 : Op.cmpValue (FP.fcmp (fl j) (fl l)) .l = 0
        · rw [if_pos m2, if_pos m2]
        · rw [if_neg m2, if_neg m2]
          by_cases m3 : mode = 0
          · rw [if_pos m3, if_pos m3]
            by_cases m4 : (0 : Int32) ≤ Op.cmpValue (FP.fcmp (fl j) (fl l)) .g
            · rw [if_pos m4]; simp [m4]
            · rw [if_neg m4]; simp [m4]
          · rw [if_neg m3, if_neg m3]
            by_cases m4 : Op.cmpValue (FP.fcmp (fl j) (fl l)) .l ≤ (0 : Int32)
            · rw [if_pos m4]; simp [m4]
            · rw [if_neg m4]; simp [m4]
    rw [e2, bind_s, if_b]
    cases hb : bef kk j l with
    | true =>
      rw [if_pos rfl]
      refine ok_some ?_
      show (_ + 1, nI j + 1) = (_, nI (j + 1))
      rw [nI_1, nI_1]
      simp [hb]
    | false =>
      rw [if_neg (by decide)]
      refine ok_some ?_
      show (_ + 0, nI j + 1) = (_, nI (j + 1))
      rw [nI_1, nl_0, nI_add]
      simp [hb]
  · rintro _ rfl
    rw [if_le (by omega) (by omega), if_pos (Nat.le_refl _)]
    exact ok_some rfl
theorem ca_letterAt {ce : Ce} {a v : Nat} {fl : Nat → UInt32} (h : AC ce a v fl) {L mode : Nat} (hL : L < 7) (hm : mode < 2 ^ 31) {kk : Nat → Nat} (hK : RK mode fl L kk) {i x : Nat} (hx : (ordL kk L)[i]? = some x) : m_X0_letterAt ce a (nI i) (nI mode) (nI L) = some (nI x) := by
  have hxl : x < L := ordL_lt kk (List.mem_of_getElem? hx)
  have hil : i < L := by
    have := (List.getElem?_eq_some_iff.mp hx).1
    rw [ordL_len] at this
    exact this
  have hrx := ordL_rank kk hx
  refine ok_eq ?_
  unfold m_X0_letterAt
  have hal : ∃ G, ce a = some (.inr (0, [.ref v, .float (fl 6)])) ∧ ce v = some (.inl (.float, 6, .inr (.inr (.inl G)))) := by
    obtain ⟨G, h1, h2, h3⟩ := h
    exact ⟨G, h1, h2⟩
  obtain ⟨G, h1, h2⟩ := hal
  refine ok_call (P := fun o => Sum.elim (fun w => some w) (fun _ => some (-1 : Int32)) o = some (nI x)) (ok_cnt 0 x (fun j s => s = nI j) (by omega) (by omega) rfl ?_ ?_) (fun a h => ok_of h rfl)
  · rintro j _ hj rfl
    have hle : (List.range L).countP (fun o => bef kk o j) ≤ L := by
      have := List.countP_le_length (p := fun o => bef kk o j) (l := List.range L)
      rw [List.length_range] at this
      exact this
    rw [if_le (by omega) (by omega), if_neg (by omega), gA_c (k := 0) h1 rfl, bind_s, alen_G h2, bind_s, if_le (by omega) (by omega), if_neg (by omega), ca_rcv h, bind_s, ca_rankOf h hL hm (by omega) hK, bind_s, if_eq (by omega) (by omega)]
    rw [if_neg]
    · exact ok_some (nI_1 j)
    · intro e
      have := ordL_of_rank kk (show j < L by omega)
      rw [e, hx] at this
      have : x = j := by simpa using this
      omega
  · rintro _ rfl
    rw [if_le (by omega) (by omega), if_neg (by omega), gA_c (k := 0) h1 rfl, bind_s, alen_G h2, bind_s, if_le (by omega) (by omega), if_neg (by omega), ca_rcv h, bind_s, ca_rankOf h hL hm hxl hK, bind_s, hrx, if_pos rfl]
    exact ok_some rfl
theorem ca_letterNo {ce : Ce} {a v : Nat} {fl : Nat → UInt32} (h : AC ce a v fl) {L mode : Nat} (hL : L < 7) (hm : mode < 2 ^ 31) {kk : Nat → Nat} (hK : RK mode fl L kk) {i : Int32} (hi : ∀ k, k < L → i ≠ nI k) : m_X0_letterAt ce a i (nI mode) (nI L) = some (-1) := by
  refine ok_eq ?_
  unfold m_X0_letterAt
  have hal : ∃ G, ce a = some (.inr (0, [.ref v, .float (fl 6)])) ∧ ce v = some (.inl (.float, 6, .inr (.inr (.inl G)))) := by
    obtain ⟨G, h1, h2, h3⟩ := h
    exact ⟨G, h1, h2⟩
  obtain ⟨G, h1, h2⟩ := hal
  refine ok_call (P := fun o => Sum.elim (fun w => some w) (fun _ => some (-1 : Int32)) o = some (-1)) (ok_cnt 0 L (fun j s => s = nI j) (by omega) (by omega) rfl ?_ ?_) (fun a h => ok_of h rfl)
  · rintro j _ hj rfl
    have hlt : (List.range L).countP (fun o => bef kk o j) < L := by
      have := ordL_of_rank kk hj
      have := (List.getElem?_eq_some_iff.mp this).1
      rw [ordL_len] at this
      exact this
    rw [if_le (by omega) (by omega), if_neg (by omega), gA_c (k := 0) h1 rfl, bind_s, alen_G h2, bind_s, if_le (by omega) (by omega), if_neg (by omega), ca_rcv h, bind_s, ca_rankOf h hL hm hj hK, bind_s, if_neg (fun e => hi _ hlt e.symm)]
    exact ok_some (nI_1 j)
  · rintro _ rfl
    rw [if_le (by omega) (by omega), if_pos (Nat.le_refl _)]
    exact ok_some rfl
/-! in one form -/
def cv (c : Ce) (a v : Nat) (G : Nat → UInt32) (x : UInt32) : Ce := fun b => if b = a then some (.inr (0, [.ref v, .float x])) else if b = v then some (.inl (.float, 6, .inr (.inr (.inl G)))) else c b
theorem cv_a (c : Ce) (a v : Nat) (G : Nat → UInt32) (x : UInt32) : cv c a v G x a = some (.inr (0, [.ref v, .float x])) := if_pos rfl
theorem cv_v (c : Ce) {a v : Nat} (hd : a ≠ v) (G : Nat → UInt32) (x : UInt32) : cv c a v G x v = some (.inl (.float, 6, .inr (.inr (.inl G)))) := by
  unfold cv
  rw [if_neg (fun e => hd e.symm), if_pos rfl]
theorem cv_x (c : Ce) {a v : Nat} (G : Nat → UInt32) (x : UInt32) {b : Nat} (h1 : b ≠ a) (h2 : b ≠ v) : cv c a v G x b = c b := by
  unfold cv
  rw [if_neg h1, if_neg h2]
theorem cv_self {ce : Ce} {a v : Nat} {G : Nat → UInt32} {x : UInt32} (h1 : ce a = some (.inr (0, [.ref v, .float x]))) (h2 : ce v = some (.inl (.float, 6, .inr (.inr (.inl G))))) : cv ce a v G x = ce := by
  funext b
  unfold cv
  by_cases b1 : b = a
  · rw [if_pos b1, b1, h1]
  · rw [if_neg b1]
    by_cases b2 : b = v
    · rw [if_pos b2, b2, h2]
    · rw [if_neg b2]
theorem cv_ua (c : Ce) {a v : Nat} (G : Nat → UInt32) (x y : UInt32) : gx_up (cv c a v G x) a (.inr (0, [.ref v, .float y])) = cv c a v G y := by
  funext b
  unfold gx_up cv
  by_cases b1 : b = a
  · rw [if_pos b1, if_pos b1]
  · rw [if_neg b1, if_neg b1, if_neg b1]
theorem cv_uv (c : Ce) {a v : Nat} (hd : a ≠ v) (G G2 : Nat → UInt32) (x : UInt32) : gx_up (cv c a v G x) v (.inl (.float, 6, .inr (.inr (.inl G2)))) = cv c a v G2 x := by
  funext b
  unfold gx_up cv
  by_cases b2 : b = v
  · rw [if_pos b2, if_neg (by omega), if_pos b2]
  · rw [if_neg b2, if_neg b2, if_neg b2]
theorem ca_lower (c : Ce) {a v : Nat} (hd : a ≠ v) (G : Nat → UInt32) (x : UInt32) (hN : ∀ l, l < 6 → isNaN32 (FP.fmul (G l) (981668463 : UInt32)) = false) (hN6 : isNaN32 (FP.fmul x (981668463 : UInt32)) = false) : m_X0_lower (cv c a v G x) a = some ((), cv c a v (bmp3 G 6) (FP.fmul x (981668463 : UInt32))) := by
  refine ok_eq ?_
  unfold m_X0_lower
  refine ok_call (P := fun o => o = ((), cv c a v (bmp3 G 6) x)) (ok_cnt 0 6 (fun j s => s = (nI j, cv c a v (bmp3 G j) x)) (by omega) (by omega) ?_ ?_ ?_) ?_
  · have e : bmp3 G 0 = G := by
      funext l
      exact if_neg (by omega)
    rw [e]
    rfl
  · rintro j _ hj rfl
    have ej : bmp3 G j j = G j := if_neg (by omega)
    simp only [gA_c (k := 0) (cv_a _ _ _ _ _) rfl, bind_s]
    rw [alen_G (cv_v c hd _ _), bind_s, if_le (by omega) (by omega), if_neg (by omega), aG_c (cv_v c hd _ _) hj (by omega), bind_s, ej, fq_ok (hN j hj), bind_s, sG_c (cv_v c hd _ _) hj (by omega), bind_s, cv_uv c hd]
    refine ok_some ?_
    show (nI j + 1, _) = (nI (j + 1), _)
    rw [nI_1]
    have e2 : va_up (bmp3 G j) j (FP.fmul (G j) 981668463) = bmp3 G (j + 1) := by
      funext l
      by_cases h : l = j
      · subst h
        rw [up_e]
        unfold bmp3
        rw [if_pos (by omega)]
      · rw [up_n _ _ _ h]
        unfold bmp3
        by_cases h2 : l < j
        · rw [if_pos h2, if_pos (by omega)]
        · rw [if_neg h2, if_neg (by omega)]
    rw [e2]
  · rintro _ rfl
    simp only [gA_c (k := 0) (cv_a _ _ _ _ _) rfl, bind_s]
    rw [alen_G (cv_v c hd _ _), bind_s, if_le (by omega) (by omega), if_pos (by omega)]
    exact ok_some rfl
  · rintro _ rfl
    simp only [gF_c (k := 1) (cv_a _ _ _ _ _) rfl, bind_s]
    rw [fq_ok hN6, bind_s, pV_c (cv_a _ _ _ _ _) (show 1 < 2 by omega), bind_s]
    have es : List.set [Value.ref v, .float x] 1 (.float (FP.fmul x 981668463)) = [.ref v, .float (FP.fmul x 981668463)] := rfl
    rw [es, cv_ua]
    exact ok_some rfl
/-- none of them is above 1000 -/
def NG (L : Nat) (fl : Nat → UInt32) : Prop := ∀ l, l < L → grt (fl l) = false
theorem raise_any {L mask : Nat} (hL : L < 7) (hm : mask < 2 ^ L) {fl : Nat → UInt32} (hn : NG L fl) : (List.range 6).any (fun l => mask.testBit l && grt (FP.fadd (fl l) (fl 6))) = bmpG L mask fl := by
  have e : ∀ l, l < L → bmp2 L mask fl l = if mask.testBit l = true then FP.fadd (fl l) (fl 6) else fl l := by
    intro l hl
    unfold bmp2 bmp1
    rw [up_n _ _ _ (by omega)]
    by_cases hb : mask.testBit l = true
    · rw [if_pos ⟨hl, hb⟩, if_pos hb]
    · rw [if_neg (fun z => hb z.2), if_neg hb]
  unfold bmpG
  cases h1 : (List.range L).any (fun l => grt (bmp2 L mask fl l)) with
  | true =>
    rw [List.any_eq_true] at h1 ⊢
    obtain ⟨l, hl, hg⟩ := h1
    have hl := List.mem_range.mp hl
    rw [e l hl] at hg
    by_cases hb : mask.testBit l = true
    · rw [if_pos hb] at hg
      exact ⟨l, List.mem_range.mpr (by omega), by rw [hb, hg]; rfl⟩
    · rw [if_neg hb, hn l hl] at hg
      cases hg
  | false =>
    rw [List.any_eq_false] at h1 ⊢
    intro l hl
    by_cases hlL : l < L
    · have := h1 l (List.mem_range.mpr hlL)
      rw [e l hlL] at this
      cases hb : mask.testBit l with
      | true =>
        rw [hb, if_pos rfl] at this
        simpa using this
      | false => simp
    · rw [tb_lt hm (by omega)]
      simp
theorem ca_raise {ce : Ce} {a v : Nat} {fl : Nat → UInt32} (h : AC ce a v fl) (hd : a ≠ v) {L mask : Nat} (hL : L < 7) (hm : mask < 2 ^ L) (hB : BOk L mask fl) (hn : NG L fl) : Ok (m_X0_raise ce a (nI mask)) (fun z => AC z.2 a v (bumpF L mask fl) ∧ ∀ b, b ≠ a → b ≠ v → z.2 b = ce b) := by
  obtain ⟨G, h1, h2, h3⟩ := h
  obtain ⟨hB1, hB2, hB3⟩ := hB
  have h64 := p2_64 hL
  have hself := cv_self h1 h2
  rw [← hself]
  generalize hG1 : (fun (j : Nat) => (fun (l : Nat) => if l < j ∧ mask.testBit l = true then FP.fadd (G l) (fl 6) else G l)) = R
  have hR : ∀ j l, R j l = if l < j ∧ mask.testBit l = true then FP.fadd (G l) (fl 6) else G l := fun j l => by rw [← hG1]
  unfold m_X0_raise
  refine ok_call (P := fun o => o = (if (List.range 6).any (fun l => mask.testBit l && grt (FP.fadd (fl l) (fl 6))) then (1 : Int32) else 0, cv ce a v (R 6) (fl 6))) (ok_cnt 0 6 (fun j s => s = ((if (List.range j).any (fun l => mask.testBit l && grt (FP.fadd (fl l) (fl 6))) then (1 : Int32) else 0, nI j), cv ce a v (R j) (fl 6))) (by omega) (by omega) ?_ ?_ ?_) ?_
  · have e : R 0 = G := by
      funext l
      rw [hR]
      exact if_neg (by omega)
    rw [e]
    rfl
  · rintro j _ hj rfl
    have hRj : R j j = fl j := by rw [hR, if_neg (by omega), h3 j hj]
    simp only [gA_c (k := 0) (cv_a _ _ _ _ _) rfl, gF_c (k := 1) (cv_a _ _ _ _ _) rfl, bind_s]
    rw [alen_G (cv_v ce hd _ _), bind_s, if_le (by omega) (by omega), if_neg (by omega)]
    show Ok (if ((nI mask >>> (nI j &&& 31)) &&& (1 : Int32)) = 0 then _ else _) _
    rw [ibit0 (by omega) (by omega), List.range_succ, List.any_append]
    cases hb : mask.testBit j with
    | false =>
      rw [if_neg (by decide)]
      refine ok_some ?_
      show ((_, nI j + 1), _) = ((_, nI (j + 1)), _)
      rw [nI_1]
      have e : R (j + 1) = R j := by
        funext l
        rw [hR, hR]
        by_cases h9 : l < j ∧ mask.testBit l = true
        · rw [if_pos h9, if_pos ⟨by omega, h9.2⟩]
        · rw [if_neg h9]
          refine if_neg fun z => h9 ⟨?_, z.2⟩
          have : l ≠ j := fun e => by rw [e, hb] at z; exact absurd z.2 (by decide)
          omega
      rw [e]
      simp [hb]
    | true =>
      have hjL : j < L := Nat.lt_of_not_le fun hle => by rw [tb_lt hm hle] at hb; cases hb
      rw [if_pos rfl, aG_c (cv_v ce hd _ _) hj (by omega), bind_s, hRj, fq_ok (hB1 j hjL), bind_s, sG_c (cv_v ce hd _ _) hj (by omega), bind_s, cv_uv ce hd]
      have e : va_up (R j) j (FP.fadd (fl j) (fl 6)) = R (j + 1) := by
        funext l
        by_cases h : l = j
        · subst h
          rw [up_e, hR, if_pos ⟨by omega, hb⟩, h3 l hj]
        · rw [up_n _ _ _ h, hR, hR]
          by_cases h9 : l < j ∧ mask.testBit l = true
          · rw [if_pos h9, if_pos ⟨by omega, h9.2⟩]
          · rw [if_neg h9, if_neg (fun z => h9 ⟨by omega, z.2⟩)]
      have e2 : R (j + 1) j = FP.fadd (fl j) (fl 6) := by rw [← e, up_e]
      rw [e]
      simp only [gA_c (k := 0) (cv_a _ _ _ _ _) rfl, bind_s]
      rw [aG_c (cv_v ce hd _ _) hj (by omega), bind_s, e2]
      cases ha : (List.range j).any (fun l => mask.testBit l && grt (FP.fadd (fl l) (fl 6))) with
      | true =>
        refine ok_to (a := Sum.inr (nI j)) (if_neg (by decide)) (ok_some ?_)
        show (((1 : Int32), nI j + 1), _) = ((_, nI (j + 1)), _)
        rw [nI_1]
        rfl
      | false =>
        refine ok_bind ?_
        rw [if_pos (show (if false = true then (1 : Int32) else 0) = 0 from rfl)]
        by_cases hq : Op.cmpValue (FP.fcmp (FP.fadd (fl j) (fl 6)) (1148846080 : UInt32)) .l ≤ 0
        · rw [if_pos hq]
          refine ok_some (ok_some ?_)
          show (((0 : Int32), nI j + 1), _) = ((_, nI (j + 1)), _)
          rw [nI_1]
          simp [grt, hq]
        · rw [if_neg hq]
          refine ok_some (ok_some ?_)
          show (((1 : Int32), nI j + 1), _) = ((_, nI (j + 1)), _)
          rw [nI_1]
          simp [grt, hq, hb]
  · rintro _ rfl
    simp only [gA_c (k := 0) (cv_a _ _ _ _ _) rfl, bind_s]
    rw [alen_G (cv_v ce hd _ _), bind_s, if_le (by omega) (by omega), if_pos (by omega)]
    exact ok_some rfl
  · rintro _ rfl
    rw [raise_any hL hm hn]
    have hR6 : ∀ l, l < 6 → R 6 l = bmp2 L mask fl l := by
      intro l hl
      rw [hR]
      unfold bmp2 bmp1
      rw [up_n _ _ _ (by omega), h3 l hl]
      by_cases hb : mask.testBit l = true
      · have hlL : l < L := Nat.lt_of_not_le fun hle => by rw [tb_lt hm hle] at hb; cases hb
        rw [if_pos ⟨hl, hb⟩, if_pos ⟨hlL, hb⟩]
      · rw [if_neg (fun z => hb z.2), if_neg (fun z => hb z.2)]
    have hb6 : bmp2 L mask fl 6 = FP.fmul (fl 6) 1069547520 := up_e _ _ _
    simp only [gF_c (k := 1) (cv_a _ _ _ _ _) rfl, bind_s]
    rw [fq_ok hB2, bind_s, pV_c (cv_a _ _ _ _ _) (show 1 < 2 by omega), bind_s]
    have es : List.set [Value.ref v, .float (fl 6)] 1 (.float (FP.fmul (fl 6) 1069547520)) = [.ref v, .float (FP.fmul (fl 6) 1069547520)] := rfl
    rw [es, cv_ua, if_b]
    unfold bumpF
    cases bmpG L mask fl with
    | false =>
      rw [if_neg (by decide), if_neg (by decide)]
      refine ok_some ⟨⟨R 6, ?_, cv_v _ hd _ _, hR6⟩, fun b h8 h9 => ?_⟩
      · rw [hb6]
        exact cv_a _ _ _ _ _
      · show cv ce a v _ _ b = cv ce a v _ _ b
        rw [cv_x _ _ _ h8 h9, cv_x _ _ _ h8 h9]
    | true =>
      rw [if_pos rfl, if_pos rfl, rcv_c (cv_a _ _ _ _ _), bind_s, ca_lower ce hd _ _ (fun l hl => by rw [hR6 l hl]; exact hB3 l (by omega)) (by rw [← hb6]; exact hB3 6 (by omega)), bind_s]
      refine ok_some ⟨⟨bmp3 (R 6) 6, ?_, cv_v _ hd _ _, fun l hl => ?_⟩, fun b h8 h9 => ?_⟩
      · have : bmp3 (bmp2 L mask fl) 7 6 = FP.fmul (FP.fmul (fl 6) 1069547520) 981668463 := by
          unfold bmp3
          rw [if_pos (by omega), hb6]
        rw [this]
        exact cv_a _ _ _ _ _
      · unfold bmp3
        rw [if_pos hl, if_pos (by omega), hR6 l hl]
      · show cv ce a v _ _ b = cv ce a v _ _ b
        rw [cv_x _ _ _ h8 h9, cv_x _ _ _ h8 h9]
