/-! THE CLASS: obligations -/
def OBc (P : Nat → Int32) (lc : List Ln) : Prop := ∀ (i : Nat) (q : Ln), lc[i]? = some q → P (4 * i) = nI q.1 ∧ P (4 * i + 1) = nI q.2.1 ∧ P (4 * i + 2) = nI q.2.2.1 ∧ P (4 * i + 3) = nI q.2.2.2
def OB (ce : Ce) (o p cap : Nat) (lc : List Ln) : Prop := ∃ P, ce o = some (.inr (4, [.ref p, .int (nI lc.length)])) ∧ ce p = some (.inl (.int, cap, .inl P)) ∧ 4 * lc.length ≤ cap ∧ cap < 1000 ∧ LB lc ∧ OBc P lc
theorem OB_congr {ce c2 : Ce} {o p cap : Nat} {lc : List Ln} (h1 : c2 o = ce o) (h2 : c2 p = ce p) (h : OB ce o p cap lc) : OB c2 o p cap lc := by
  obtain ⟨P, a1, a2, a3⟩ := h
  exact ⟨P, h1.trans a1, h2.trans a2, a3⟩
theorem co_size {ce : Ce} {o p cap : Nat} {lc : List Ln} (h : OB ce o p cap lc) : gI ce 4 1 o = some (nI lc.length) := by
  obtain ⟨P, h1, _⟩ := h
  exact gI_c h1 rfl
theorem co_rcv {ce : Ce} {o p cap : Nat} {lc : List Ln} (h : OB ce o p cap lc) : rcv ce 4 o = some () := by
  obtain ⟨P, h1, _⟩ := h
  exact rcv_c h1
theorem co_part {ce : Ce} {o p cap : Nat} {lc : List Ln} (h : OB ce o p cap lc) {i w : Nat} (hi : i < lc.length) (hw : w < 4) : ∃ P, ce p = some (.inl (.int, cap, .inl P)) ∧ OBc P lc ∧ m_X6_part ce o (nI i) (nI w) = some (P (4 * i + w)) := by
  obtain ⟨P, h1, h2, h3, h4, h5, h6⟩ := h
  refine ⟨P, h2, h6, ?_⟩
  have e : nI i * 4 + nI w = nI (4 * i + w) := by
    rw [nl_4, pk_mul, nI_add, Nat.mul_comm]
  unfold m_X6_part
  rw [e, if_neg (nI_pos (by omega)), gA_c (k := 0) h1 rfl, bind_s, alen_I h2, bind_s, if_le (by omega) (by omega), if_neg (by omega), bind_s, aI_c h2 (by omega) (by omega), bind_s]
theorem co_p0 {ce : Ce} {o p cap : Nat} {lc : List Ln} (h : OB ce o p cap lc) {i : Nat} {q : Ln} (hq : lc[i]? = some q) : m_X6_part ce o (nI i) (0 : Int32) = some (nI q.1) := by
  obtain ⟨P, _, h2, h3⟩ := co_part h (List.getElem?_eq_some_iff.mp hq).1 (w := 0) (by omega)
  rw [Nat.add_zero, (h2 i q hq).1] at h3
  exact h3
theorem co_p1 {ce : Ce} {o p cap : Nat} {lc : List Ln} (h : OB ce o p cap lc) {i : Nat} {q : Ln} (hq : lc[i]? = some q) : m_X6_part ce o (nI i) (1 : Int32) = some (nI q.2.1) := by
  obtain ⟨P, _, h2, h3⟩ := co_part h (List.getElem?_eq_some_iff.mp hq).1 (w := 1) (by omega)
  rw [(h2 i q hq).2.1] at h3
  exact h3
theorem co_p2 {ce : Ce} {o p cap : Nat} {lc : List Ln} (h : OB ce o p cap lc) {i : Nat} {q : Ln} (hq : lc[i]? = some q) : m_X6_part ce o (nI i) (2 : Int32) = some (nI q.2.2.1) := by
  obtain ⟨P, _, h2, h3⟩ := co_part h (List.getElem?_eq_some_iff.mp hq).1 (w := 2) (by omega)
  rw [(h2 i q hq).2.2.1] at h3
  exact h3
theorem co_p3 {ce : Ce} {o p cap : Nat} {lc : List Ln} (h : OB ce o p cap lc) {i : Nat} {q : Ln} (hq : lc[i]? = some q) : m_X6_part ce o (nI i) (3 : Int32) = some (nI q.2.2.2) := by
  obtain ⟨P, _, h2, h3⟩ := co_part h (List.getElem?_eq_some_iff.mp hq).1 (w := 3) (by omega)
  rw [(h2 i q hq).2.2.2] at h3
  exact h3
/-! in one form -/
def cq (c : Ce) (o p cap : Nat) (P : Nat → Int32) (z : Nat) : Ce := fun b => if b = o then some (.inr (4, [.ref p, .int (nI z)])) else if b = p then some (.inl (.int, cap, .inl P)) else c b
theorem cq_o (c : Ce) (o p cap : Nat) (P : Nat → Int32) (z : Nat) : cq c o p cap P z o = some (.inr (4, [.ref p, .int (nI z)])) := if_pos rfl
theorem cq_p (c : Ce) {o p : Nat} (hd : o ≠ p) (cap : Nat) (P : Nat → Int32) (z : Nat) : cq c o p cap P z p = some (.inl (.int, cap, .inl P)) := by
  unfold cq
  rw [if_neg (fun e => hd e.symm), if_pos rfl]
theorem cq_x (c : Ce) {o p : Nat} (cap : Nat) (P : Nat → Int32) (z : Nat) {b : Nat} (h1 : b ≠ o) (h2 : b ≠ p) : cq c o p cap P z b = c b := by
  unfold cq
  rw [if_neg h1, if_neg h2]
theorem cq_self {ce : Ce} {o p cap : Nat} {P : Nat → Int32} {z : Nat} (h1 : ce o = some (.inr (4, [.ref p, .int (nI z)]))) (h2 : ce p = some (.inl (.int, cap, .inl P))) : cq ce o p cap P z = ce := by
  funext b
  unfold cq
  by_cases b1 : b = o
  · rw [if_pos b1, b1, h1]
  · rw [if_neg b1]
    by_cases b2 : b = p
    · rw [if_pos b2, b2, h2]
    · rw [if_neg b2]
theorem cq_uo (c : Ce) {o p : Nat} (cap : Nat) (P : Nat → Int32) (z z2 : Nat) : gx_up (cq c o p cap P z) o (.inr (4, [.ref p, .int (nI z2)])) = cq c o p cap P z2 := by
  funext b
  unfold gx_up cq
  by_cases b1 : b = o
  · rw [if_pos b1, if_pos b1]
  · rw [if_neg b1, if_neg b1, if_neg b1]
theorem cq_up (c : Ce) {o p : Nat} (hd : o ≠ p) (cap : Nat) (P P2 : Nat → Int32) (z : Nat) : gx_up (cq c o p cap P z) p (.inl (.int, cap, .inl P2)) = cq c o p cap P2 z := by
  funext b
  unfold gx_up cq
  by_cases b2 : b = p
  · rw [if_pos b2, if_neg (by omega), if_pos b2]
  · rw [if_neg b2, if_neg b2, if_neg b2]
theorem insO_idx (x : Ln) : ∀ l, insO x l = l.insertIdx (insOA x l) x := by
  intro l
  induction l with
  | nil => rfl
  | cons q l ih =>
    rw [insO, insOA]
    split
    · rw [ih, List.insertIdx_succ_cons]
    · rfl
theorem insO_len (x : Ln) (l : List Ln) : (insO x l).length = l.length + 1 := by
  rw [insO_idx, List.length_insertIdx, if_pos (insOA_le x l)]
theorem co_comesFirst {ce : Ce} {o p cap : Nat} {lc : List Ln} (h : OB ce o p cap lc) {i : Nat} {q : Ln} (hq : lc[i]? = some q) {st lv : Nat} (hst : st < 2 ^ 31) (hlv : lv < 2 ^ 31) : m_X6_comesFirst ce o (nI i) (nI st) (nI lv) = some (if q.2.1 < lv ∨ q.2.1 = lv ∧ q.1 ≤ st then 1 else 0) := by
  have hB : LB lc := by obtain ⟨P, _, _, _, _, h5, _⟩ := h; exact h5
  obtain ⟨q1, q2, q3, q4⟩ := hB q (List.mem_of_getElem? hq)
  unfold m_X6_comesFirst
  rw [co_rcv h]
  simp only [bind_s]
  rw [co_p1 h hq, bind_s, co_p0 h hq, bind_s, if_lt (by omega) (by omega), if_eq (by omega) (by omega), if_lt (by omega) (by omega)]
  by_cases h1 : q.2.1 < lv
  · rw [if_pos h1, if_pos (Or.inl h1)]
  · rw [if_neg h1]
    by_cases h2 : q.2.1 = lv
    · rw [if_pos h2]
      by_cases h3 : st < q.1
      · rw [if_pos h3, if_neg (by omega)]
      · rw [if_neg h3, if_pos (by omega)]
    · rw [if_neg h2, if_neg (by omega)]
def OboTo (ce : Ce) (nx o p cap : Nat) (lc : List Ln) (d : Ce) (K S : Nat) : Prop := ∃ p2 cap2, OB d o p2 cap2 lc ∧ o ≠ p2 ∧ ((p2 = p ∧ cap2 = cap ∧ K = 0 ∧ S = 0) ∨ (p2 = nx ∧ K = 1 ∧ S = cap2 ∧ cap + 29 ≤ cap2 ∧ cap2 + 2 * cap ≤ 2 * cap2 ∧ cap2 < 1000)) ∧ ∀ b, b ≠ o → b ≠ p → b < nx → d b = ce b
theorem OBc_ins {P : Nat → Int32} {lc : List Ln} (h : OBc P lc) {k : Nat} (hk : k ≤ lc.length) (x : Ln) : OBc (va_up (va_up (va_up (va_up (va_cpy P P (4 * k) (4 * k + 4) (4 * (lc.length - k))) (4 * k) (nI x.1)) (4 * k + 1) (nI x.2.1)) (4 * k + 2) (nI x.2.2.1)) (4 * k + 3) (nI x.2.2.2)) (lc.insertIdx k x) := by
  intro i q hq
  have hil : i ≤ lc.length := by
    have := (List.getElem?_eq_some_iff.mp hq).1
    rw [List.length_insertIdx, if_pos hk] at this
    omega
  rw [List.getElem?_insertIdx] at hq
  by_cases h1 : i < k
  · rw [if_pos h1] at hq
    rw [up_n _ _ _ (by omega), up_n _ _ _ (by omega), up_n _ _ _ (by omega), up_n _ _ _ (by omega), pk_cpy_out (by omega)]
    rw [up_n _ _ _ (by omega), up_n _ _ _ (by omega), up_n _ _ _ (by omega), up_n _ _ _ (by omega), pk_cpy_out (by omega)]
    rw [up_n _ _ _ (by omega), up_n _ _ _ (by omega), up_n _ _ _ (by omega), up_n _ _ _ (by omega), pk_cpy_out (by omega)]
    rw [up_n _ _ _ (by omega), up_n _ _ _ (by omega), up_n _ _ _ (by omega), up_n _ _ _ (by omega), pk_cpy_out (by omega)]
    exact h i q hq
  · rw [if_neg h1] at hq
    by_cases h2 : i = k
    · rw [if_pos h2, if_pos hil] at hq
      have : x = q := by simpa using hq
      subst this
      subst h2
      refine ⟨?_, ?_, ?_, ?_⟩
      · rw [up_n _ _ _ (by omega), up_n _ _ _ (by omega), up_n _ _ _ (by omega), up_e]
      · rw [up_n _ _ _ (by omega), up_n _ _ _ (by omega), up_e]
      · rw [up_n _ _ _ (by omega), up_e]
      · rw [up_e]
    · rw [if_neg h2] at hq
      have h9 := h (i - 1) q hq
      rw [up_n _ _ _ (by omega), up_n _ _ _ (by omega), up_n _ _ _ (by omega), up_n _ _ _ (by omega), pk_cpy_in (by omega) (by omega)]
      rw [up_n _ _ _ (by omega), up_n _ _ _ (by omega), up_n _ _ _ (by omega), up_n _ _ _ (by omega), pk_cpy_in (by omega) (by omega)]
      rw [up_n _ _ _ (by omega), up_n _ _ _ (by omega), up_n _ _ _ (by omega), up_n _ _ _ (by omega), pk_cpy_in (by omega) (by omega)]
      rw [up_n _ _ _ (by omega), up_n _ _ _ (by omega), up_n _ _ _ (by omega), up_n _ _ _ (by omega), pk_cpy_in (by omega) (by omega)]
      rw [show 4 * k + (4 * i - (4 * k + 4)) = 4 * (i - 1) by omega, show 4 * k + (4 * i + 1 - (4 * k + 4)) = 4 * (i - 1) + 1 by omega, show 4 * k + (4 * i + 2 - (4 * k + 4)) = 4 * (i - 1) + 2 by omega, show 4 * k + (4 * i + 3 - (4 * k + 4)) = 4 * (i - 1) + 3 by omega]
      exact h9
theorem co_add {ce : Ce} {nx o p cap : Nat} {lc : List Ln} (h : OB ce o p cap lc) (hx : o < nx ∧ p < nx) (hd : o ≠ p) (hl : lc.length < 90) (x : Ln) (hxb : x.1 < 64 ∧ x.2.1 < 128 ∧ x.2.2.1 < 2 ^ 31 ∧ x.2.2.2 < 2 ^ 31) : Ok (m_X6_add nx ce o (nI x.1) (nI x.2.1) (nI x.2.2.1) (nI x.2.2.2)) (fun z => OboTo ce nx o p cap (insO x lc) z.2.1 z.2.2.1 z.2.2.2) := by
  have hk := insOA_le x lc
  unfold m_X6_add
  refine ok_call (P := fun w => w = nI (insOA x lc)) (ok_cnt 0 (insOA x lc) (fun j s => s = nI j) (by omega) (by omega) rfl ?_ ?_) ?_
  · rintro j _ hj rfl
    have hat : lc[j]? = some lc[j] := List.getElem?_eq_getElem (by omega)
    have hc := insOA_at x lc j _ hat hj
    rw [co_size h, bind_s, if_le (by omega) (by omega), if_neg (by omega), co_rcv h, bind_s, co_comesFirst h hat (by omega) (by omega), bind_s, if_pos hc]
    exact ok_iteF (by decide) (ok_some (nI_1 j))
  · rintro _ rfl
    rw [co_size h, bind_s, if_le (by omega) (by omega)]
    by_cases he : lc.length ≤ insOA x lc
    · rw [if_pos he]
      exact ok_some rfl
    · have hat : lc[insOA x lc]? = some lc[insOA x lc] := List.getElem?_eq_getElem (by omega)
      have hc := insOA_stop x lc _ hat
      rw [if_neg he, co_rcv h, bind_s, co_comesFirst h hat (by omega) (by omega), bind_s, if_neg hc]
      exact ok_iteT rfl (ok_some rfl)
  · rintro _ rfl
    have hins : insO x lc = lc.insertIdx (insOA x lc) x := insO_idx x lc
    rw [hins]
    generalize insOA x lc = k at hk
    obtain ⟨P, h1, h2, h3, h4, h5, h6⟩ := h
    have e4 : (nI lc.length + 1) * 4 = nI (4 * lc.length + 4) := by
      rw [nI_1, nl_4, pk_mul]
      congr 1
      omega
    rw [gI_c (k := 1) h1 rfl, bind_s, gA_c (k := 0) h1 rfl, bind_s, alen_I h2, bind_s, e4, if_le (by omega) (by omega)]
    refine ok_adcB (ok_mono (P := fun z => ∃ p2 cap2 P2, z.2.1 o = some (.inr (4, [.ref p2, .int (nI lc.length)])) ∧ z.2.1 p2 = some (.inl (.int, cap2, .inl P2)) ∧ OBc P2 lc ∧ 4 * lc.length + 4 ≤ cap2 ∧ cap2 < 1000 ∧ o ≠ p2 ∧ ((p2 = p ∧ cap2 = cap ∧ z.2.2.1 = 0 ∧ z.2.2.2 = 0) ∨ (p2 = nx ∧ z.2.2.1 = 1 ∧ z.2.2.2 = cap2 ∧ cap + 29 ≤ cap2 ∧ cap2 + 2 * cap ≤ 2 * cap2 ∧ cap2 < 1000)) ∧ ∀ b, b ≠ o → b ≠ p → b < nx → z.2.1 b = ce b) ?_ ?_)
    · by_cases hlc : 4 * lc.length + 4 ≤ cap
      · rw [if_pos hlc]
        exact ok_some ⟨p, cap, P, h1, h2, h6, hlc, h4, hd, Or.inl ⟨rfl, rfl, rfl, rfl⟩, fun _ _ _ _ => rfl⟩
      · rw [if_neg hlc, bind_s, rcv_c h1, bind_s]
        have e5 : nI lc.length * 2 + 8 = nI (2 * lc.length + 8) := by
          rw [nl_2, nl_8, pk_mul, nI_add]
          congr 1
          omega
        have e6 : nI (2 * lc.length + 8) * 4 = nI (8 * lc.length + 32) := by
          rw [nl_4, pk_mul]
          congr 1
          omega
        rw [e5]
        refine ok_adcB ?_
        unfold m_X6_makeRoom
        rw [gA_c (k := 0) h1 rfl, bind_s, alen_I h2, bind_s, e6, if_le (by omega) (by omega), if_neg (by omega), bind_s]
        refine ok_adcB ?_
        rw [cc_copyI h2 (by omega) (show cap < 8 * lc.length + 32 by omega) (by omega)]
        refine ok_some ?_
        generalize e7 : gx_up ce nx (.inl (.int, 8 * lc.length + 32, .inl (va_cpy P (fun _ => 0) 0 0 cap))) = c1
        have a1 : c1 o = some (.inr (4, [.ref p, .int (nI lc.length)])) := by rw [← e7, gu_n _ _ (by omega)]; exact h1
        show Ok ((pV c1 4 0 o (.ref nx)).bind _) _
        rw [pV_c a1 (show 0 < 2 by omega), bind_s]
        generalize e8 : gx_up c1 o (.inr (4, List.set [.ref p, .int (nI lc.length)] 0 (.ref nx))) = c2
        refine ok_some (ok_some ⟨nx, 8 * lc.length + 32, va_cpy P (fun _ => 0) 0 0 cap, ?_, ?_, fun i q hq => ?_, by omega, by omega, by omega, Or.inr ⟨rfl, rfl, ?_, by omega, by omega, by omega⟩, fun b hb1 hb2 hbx => ?_⟩)
        · show c2 o = _
          rw [← e8, gu_e]
          rfl
        · show c2 nx = _
          rw [← e8, gu_n _ _ (by omega), ← e7, gu_e]
        · have hi : i < lc.length := (List.getElem?_eq_some_iff.mp hq).1
          rw [pk_cpy_in (by omega) (by omega), pk_cpy_in (by omega) (by omega), pk_cpy_in (by omega) (by omega), pk_cpy_in (by omega) (by omega)]
          have := h6 i q hq
          simpa using this
        · show 0 + (0 + (8 * lc.length + 32)) = 8 * lc.length + 32
          omega
        · show c2 b = ce b
          rw [← e8, gu_n _ _ hb1, ← e7, gu_n _ _ (by omega)]
    · rintro ⟨u, d, K, S0⟩ ⟨p2, cap2, P2, g1, g2, g3, g4, g5, g6, g7, g8⟩
      have g1 : d o = some (.inr (4, [.ref p2, .int (nI lc.length)])) := g1
      have g7 : (p2 = p ∧ cap2 = cap ∧ K = 0 ∧ S0 = 0) ∨ (p2 = nx ∧ K = 1 ∧ S0 = cap2 ∧ cap + 29 ≤ cap2 ∧ cap2 + 2 * cap ≤ 2 * cap2 ∧ cap2 < 1000) := g7
      have g8 : ∀ b, b ≠ o → b ≠ p → b < nx → d b = ce b := g8
      have hself := cq_self g1 g2
      have ek : nI k * 4 = nI (4 * k) := by rw [nl_4, pk_mul, Nat.mul_comm]
      have ek4 : nI (4 * k) + 4 = nI (4 * k + 4) := by rw [nl_4, nI_add]
      have en : (nI lc.length - nI k) * 4 = nI (4 * (lc.length - k)) := by rw [pk_sub hk, nl_4, pk_mul, Nat.mul_comm]
      have ek0 : nI (4 * k) + 0 = nI (4 * k) := by rw [nl_0, nI_add, Nat.add_zero]
      have ek1 : nI (4 * k) + 1 = nI (4 * k + 1) := nI_1 _
      have ek2 : nI (4 * k) + 2 = nI (4 * k + 2) := by rw [nl_2, nI_add]
      have ek3 : nI (4 * k) + 3 = nI (4 * k + 3) := by rw [nl_3, nI_add]
      show Ok ((gA d 4 0 o).bind _) _
      rw [← hself]
      simp only [gA_c (k := 0) (cq_o _ _ _ _ _ _) rfl, gI_c (k := 1) (cq_o _ _ _ _ _ _) rfl, bind_s, ek, ek4, en, ek0, ek1, ek2, ek3]
      rw [cpI_c (cq_p d g6 cap2 P2 lc.length) (cq_p d g6 cap2 P2 lc.length) (by omega) (by omega) (by omega) (by omega), bind_s, cq_up d g6]
      simp only [gA_c (k := 0) (cq_o _ _ _ _ _ _) rfl, bind_s]
      rw [sI_c (cq_p d g6 cap2 _ lc.length) (by omega) (by omega), bind_s, cq_up d g6]
      simp only [gA_c (k := 0) (cq_o _ _ _ _ _ _) rfl, bind_s]
      rw [sI_c (cq_p d g6 cap2 _ lc.length) (by omega) (by omega), bind_s, cq_up d g6]
      simp only [gA_c (k := 0) (cq_o _ _ _ _ _ _) rfl, bind_s]
      rw [sI_c (cq_p d g6 cap2 _ lc.length) (by omega) (by omega), bind_s, cq_up d g6]
      simp only [gA_c (k := 0) (cq_o _ _ _ _ _ _) rfl, bind_s]
      rw [sI_c (cq_p d g6 cap2 _ lc.length) (by omega) (by omega), bind_s, cq_up d g6]
      simp only [gI_c (k := 1) (cq_o _ _ _ _ _ _) rfl, bind_s, nI_1]
      rw [pV_c (cq_o _ _ _ _ _ _) (show 1 < 2 by omega), bind_s]
      have es : List.set [Value.ref p2, .int (nI lc.length)] 1 (.int (nI (lc.length + 1))) = [.ref p2, .int (nI (lc.length + 1))] := rfl
      rw [es, cq_uo]
      have hli : (lc.insertIdx k x).length = lc.length + 1 := by rw [List.length_insertIdx, if_pos hk]
      refine ok_some ⟨p2, cap2, ⟨_, ?_, cq_p _ g6 _ _ _, by omega, g5, fun q hq => ?_, OBc_ins g3 hk x⟩, g6, ?_, fun b hb1 hb2 hbx => ?_⟩
      · rw [hli]
        exact cq_o _ _ _ _ _ _
      · rcases (List.mem_insertIdx hk).mp hq with h9 | h9
        · rw [h9]; exact hxb
        · exact h5 q h9
      · show (_ ∧ _ ∧ 0 + K = 0 ∧ 0 + S0 = 0) ∨ (_ ∧ 0 + K = 1 ∧ 0 + S0 = cap2 ∧ _ ∧ _ ∧ _)
        omega
      · show cq d o p2 cap2 _ _ b = ce b
        rw [cq_x _ _ _ _ hb1 (by omega)]
        exact g8 b hb1 hb2 hbx
theorem co_dropFirst {ce : Ce} {o p cap : Nat} {q : Ln} {t : List Ln} (h : OB ce o p cap (q :: t)) (hd : o ≠ p) : Ok (m_X6_dropFirst ce o) (fun z => OB z.2 o p cap t ∧ ∀ b, b ≠ o → b ≠ p → z.2 b = ce b) := by
  obtain ⟨P, h1, h2, h3, h4, h5, h6⟩ := h
  rw [List.length_cons] at h1 h3
  unfold m_X6_dropFirst
  have hself := cq_self h1 h2
  have e1 : nI (t.length + 1) - 1 = nI t.length := nI_pred _
  have e2 : nI t.length * 4 = nI (4 * t.length) := by rw [nl_4, pk_mul, Nat.mul_comm]
  have hc : cpI (cq ce o p cap P (t.length + 1)) p (4 : Int32) p (0 : Int32) (nI (4 * t.length)) = some (gx_up (cq ce o p cap P (t.length + 1)) p (.inl (.int, cap, .inl (va_cpy P P 4 0 (4 * t.length))))) := cpI_c (sp := 4) (dp := 0) (cq_p ce hd cap P (t.length + 1)) (cq_p ce hd cap P (t.length + 1)) (by omega) (by omega) (by omega) (by omega)
  rw [← hself]
  simp only [gA_c (k := 0) (cq_o _ _ _ _ _ _) rfl, gI_c (k := 1) (cq_o _ _ _ _ _ _) rfl, bind_s, e1, e2]
  rw [if_neg (nI_nle (by omega) (by omega)), hc, bind_s, cq_up ce hd]
  simp only [gI_c (k := 1) (cq_o _ _ _ _ _ _) rfl, bind_s, e1]
  rw [pV_c (cq_o _ _ _ _ _ _) (show 1 < 2 by omega), bind_s]
  have es : List.set [Value.ref p, .int (nI (t.length + 1))] 1 (.int (nI t.length)) = [.ref p, .int (nI t.length)] := rfl
  rw [es, cq_uo]
  refine ok_some ⟨⟨_, cq_o _ _ _ _ _ _, cq_p _ hd _ _ _, by omega, h4, fun x hx => h5 x (List.mem_cons_of_mem _ hx), fun i x hi => ?_⟩, fun b hb1 hb2 => ?_⟩
  · have hil : i < t.length := (List.getElem?_eq_some_iff.mp hi).1
    have h9 := h6 (i + 1) x (by simpa using hi)
    rw [pk_cpy_in (by omega) (by omega), pk_cpy_in (by omega) (by omega), pk_cpy_in (by omega) (by omega), pk_cpy_in (by omega) (by omega)]
    rw [show 4 + (4 * i - 0) = 4 * (i + 1) by omega, show 4 + (4 * i + 1 - 0) = 4 * (i + 1) + 1 by omega, show 4 + (4 * i + 2 - 0) = 4 * (i + 1) + 2 by omega, show 4 + (4 * i + 3 - 0) = 4 * (i + 1) + 3 by omega]
    exact h9
  · show cq ce o p cap _ _ b = cq ce o p cap P _ b
    rw [cq_x _ _ _ _ hb1 hb2, cq_x _ _ _ _ hb1 hb2]
