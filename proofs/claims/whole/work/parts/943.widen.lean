/-! THE REFERENCE's order of letters -/
def muI (μ : MS) (r : Nat) (a : Nat → Int32) : MS := (va_up μ.1 r a, μ.2)
theorem muI_e (μ : MS) (r : Nat) (a : Nat → Int32) : (muI μ r a).1 r = a := if_pos rfl
theorem muI_n (μ : MS) {r s : Nat} (a : Nat → Int32) (h : s ≠ r) : (muI μ r a).1 s = μ.1 s := if_neg h
theorem muI_2 (μ : MS) (r : Nat) (a : Nat → Int32) : (muI μ r a).2 = μ.2 := rfl
theorem up_up {α : Type} (f : Nat → α) (k : Nat) (v w : α) : va_up (va_up f k v) k w = va_up f k w := by
  funext j
  unfold va_up
  by_cases h : j = k
  · rw [if_pos h, if_pos h]
  · rw [if_neg h, if_neg h, if_neg h]
theorem up_self {α : Type} (f : Nat → α) (k : Nat) : va_up f k (f k) = f := by
  funext j
  unfold va_up
  by_cases h : j = k
  · rw [if_pos h, h]
  · rw [if_neg h]
theorem muI_muI (μ : MS) (r : Nat) (a b : Nat → Int32) : muI (muI μ r a) r b = muI μ r b := by
  unfold muI
  rw [up_up]
theorem if_z {α : Type} {a : Nat} (ha : a < 2 ^ 31) (x y : α) : (if nI a = 0 then x else y) = if a = 0 then x else y := if_eq ha (show 0 < 2 ^ 31 by omega) x y
theorem if_q {α : Type} {a k : Nat} {b : Int32} (hb : b = nI k) (ha : a < 2 ^ 31) (hk : k < 2 ^ 31) (x y : α) : (if nI a = b then x else y) = if a = k then x else y := by
  rw [hb]
  exact if_eq ha hk x y
theorem wr_f2 (c : Ce) (m : Nat) (μ : MS) {k : Nat} (hk : k < 147) : aG (wr c m μ) (m + 3) (nI k) = some (μ.2.2.1 2 k) := by
  rw [wr_r2, if_neg (nI_in hk (by omega)), nI_clamp (by omega)]
theorem wr_o9 (c : Ce) (m : Nat) (μ : MS) {k : Nat} (hk : k < 6) : aI (wr c m μ) (m + 10) (nI k) = some (μ.1 9 k) := by
  rw [wr_r23, if_neg (nI_in hk (by omega)), nI_clamp (by omega)]
theorem wr_u9 (c : Ce) (m : Nat) (μ : MS) {k : Nat} (hk : k < 6) (v : Int32) : sI (wr c m μ) (m + 10) (nI k) v = some (wr c m (muI μ 9 (va_up (μ.1 9) k v))) := by
  rw [wr_s23, if_neg (nI_in hk (by omega)), nI_clamp (by omega)]
  rfl
/-- one letter is ahead of another by activities -/
def ahdB (mode : Nat) (x y : UInt32) : Bool := if mode = 0 then !decide (0 ≤ Op.cmpValue (FP.fcmp x y) .g) else if mode = 2 then !decide (Op.cmpValue (FP.fcmp x y) .l ≤ 0) else false
/-- keys that say as much -/
def KO (mode : Nat) (fl : Nat → UInt32) (L : Nat) (kk : Nat → Nat) : Prop := ∀ l o, l < L → o < L → ahdB mode (fl l) (fl o) = decide (kk l < kk o)
theorem sr_isAhead (c : Ce) (m : Nat) (μ : MS) {mode : Nat} (hm : mode < 2 ^ 31) (h15 : μ.1 0 15 = nI mode) {l o : Nat} (hl : l < 6) (ho : o < 6) : m_X12_isAhead (wr c m μ) m (nI l) (nI o) = some (if ahdB mode (μ.2.2.1 2 l) (μ.2.2.1 2 o) then 1 else 0) := by
  unfold m_X12_isAhead ahdB
  simp only [wr_g0, wr_rcv, bind_s, mu0_a, ma_of, rd_0, wt_0, rd_1, wt_1, rd_2, wt_2, rd_3, wt_3, rd_4, wt_4, rd_5, wt_5, rd_6, wt_6, rd_7, wt_7, rd_8, wt_8, rd_9, wt_9, rd_10, wt_10, rd_11, wt_11, rd_12, wt_12, rd_13, wt_13, rd_14, wt_14, rd_15, wt_15, rd_16, wt_16, rd_17, wt_17, wr_g2, wr_g23, wr_g24, wr_g25, wr_g26, wr_g27]
  rw [h15, wr_f2 c m μ (by omega), wr_f2 c m μ (by omega)]
  simp only [bind_s]
  rw [if_z hm, if_q nl_2 hm (by omega)]
  by_cases h0 : mode = 0
  · rw [if_pos h0, if_pos h0]
    by_cases h1 : (0 : Int32) ≤ Op.cmpValue (FP.fcmp (μ.2.2.1 2 l) (μ.2.2.1 2 o)) .g
    · rw [if_pos h1]
      simp [h1]
    · rw [if_neg h1]
      simp [h1]
  · rw [if_neg h0, if_neg h0]
    by_cases h2 : mode = 2
    · rw [if_pos h2, if_pos h2]
      by_cases h1 : Op.cmpValue (FP.fcmp (μ.2.2.1 2 l) (μ.2.2.1 2 o)) .l ≤ (0 : Int32)
      · rw [if_pos h1]
        simp [h1]
      · rw [if_neg h1]
        simp [h1]
    · rw [if_neg h2, if_neg h2]
      rfl
/-- a row between lo and hi moved up by one -/
def shu (a : Nat → Int32) (lo hi : Nat) : Nat → Int32 := fun i => if lo < i ∧ i ≤ hi then a (i - 1) else a i
theorem shu_o {a : Nat → Int32} {lo hi i : Nat} (h : i ≤ lo ∨ hi < i) : shu a lo hi i = a i := if_neg (by omega)
theorem shu_i {a : Nat → Int32} {lo hi i : Nat} (h : lo < i) (h2 : i ≤ hi) : shu a lo hi i = a (i - 1) := if_pos ⟨h, h2⟩
theorem shu_0 (a : Nat → Int32) (k : Nat) : shu a k k = a := by
  funext i
  exact shu_o (by omega)
theorem shu_s {a : Nat → Int32} {k hi : Nat} (h : k < hi) : va_up (shu a (k + 1) hi) (k + 1) (a k) = shu a k hi := by
  funext i
  by_cases he : i = k + 1
  · subst he
    rw [up_e, shu_i (by omega) (by omega)]
    rfl
  · rw [up_n _ _ _ he]
    by_cases h2 : k + 1 < i ∧ i ≤ hi
    · rw [shu_i h2.1 h2.2, shu_i (by omega) (by omega)]
    · rw [shu_o (by omega), shu_o (by omega)]
theorem sr_layOrder (c : Ce) (m : Nat) (μ : MS) {L mode : Nat} (hL : L < 7) (h3 : μ.1 0 3 = nI L) (hm : mode < 2 ^ 31) (h15 : μ.1 0 15 = nI mode) {kk : Nat → Nat} (hK : KO mode (μ.2.2.1 2) L kk) : Ok (m_X12_layOrder (wr c m μ) m) (fun q => ∃ od, q = ((), wr c m (muI μ 9 od)) ∧ ∀ i x, (ordL kk L)[i]? = some x → od i = nI x) := by
  unfold m_X12_layOrder
  refine ok_call (P := fun o => ∃ od, o = ((), wr c m (muI μ 9 od)) ∧ ∀ i x, (ordL kk L)[i]? = some x → od i = nI x) (ok_cnt 0 L (fun l s => ∃ od, s = (nI l, wr c m (muI μ 9 od)) ∧ ∀ i x, (ordL kk l)[i]? = some x → od i = nI x) (by omega) (by omega) ⟨μ.1 9, ?_, fun i x h => ?_⟩ ?_ ?_) ?_
  · have e : muI μ 9 (μ.1 9) = μ := by
      unfold muI
      rw [up_self]
    rw [e]
    rfl
  · simp [ordL] at h
  · rintro l _ hl ⟨od, rfl, hod⟩
    have hlen := ordL_len kk l
    have hp := insAt_le kk l (ordL kk l)
    rw [hlen] at hp
    have hge := insAt_ge kk l (ordL kk l) (ordL_sort kk l)
    generalize hpp : insAt kk l (ordL kk l) = p at hp hge
    have hah : ∀ (od2 : Nat → Int32) (k x : Nat), (ordL kk l)[k]? = some x → m_X12_isAhead (wr c m (muI μ 9 od2)) m (nI l) (nI x) = some (if p ≤ k then 1 else 0) := by
      intro od2 k x hx
      have hxl : x < l := ordL_lt kk (List.mem_of_getElem? hx)
      rw [sr_isAhead c m (muI μ 9 od2) hm (by rw [muI_n _ _ (by decide)]; exact h15) (by omega) (by omega), muI_2, hK l x hl (by omega)]
      have := hge k x hx
      by_cases hq : p ≤ k
      · rw [if_pos hq]
        simp [this.mpr hq]
      · have : ¬ kk l < kk x := fun z => hq (this.mp z)
        rw [if_neg hq]
        simp [this]
    simp only [wr_g0, wr_rcv, bind_s, mu0_a, ma_of, rd_0, wt_0, rd_1, wt_1, rd_2, wt_2, rd_3, wt_3, rd_4, wt_4, rd_5, wt_5, rd_6, wt_6, rd_7, wt_7, rd_8, wt_8, rd_9, wt_9, rd_10, wt_10, rd_11, wt_11, rd_12, wt_12, rd_13, wt_13, rd_14, wt_14, rd_15, wt_15, rd_16, wt_16, rd_17, wt_17, wr_g2, wr_g23, wr_g24, wr_g25, wr_g26, wr_g27]
    rw [muI_n _ _ (by decide), h3, if_le (by omega) (by omega), if_neg (by omega)]
    refine ok_call (P := fun o => o = (nI p, wr c m (muI μ 9 (shu od p l)))) (ok_cnt 0 (l - p) (fun t s => s = (nI (l - t), wr c m (muI μ 9 (shu od (l - t) l)))) (by omega) (by omega) (by rw [Nat.sub_zero, shu_0]) ?_ ?_) ?_
    · rintro t _ ht rfl
      obtain ⟨k, hk⟩ : ∃ k, l - t = k + 1 := ⟨l - t - 1, by omega⟩
      have hkl : k < (ordL kk l).length := by omega
      have hx : (ordL kk l)[k]? = some (ordL kk l)[k] := List.getElem?_eq_getElem hkl
      rw [hk]
      refine ok_iteF (nI_nle (by omega) (by omega)) ?_
      simp only [wr_g0, wr_rcv, bind_s, mu0_a, ma_of, rd_0, wt_0, rd_1, wt_1, rd_2, wt_2, rd_3, wt_3, rd_4, wt_4, rd_5, wt_5, rd_6, wt_6, rd_7, wt_7, rd_8, wt_8, rd_9, wt_9, rd_10, wt_10, rd_11, wt_11, rd_12, wt_12, rd_13, wt_13, rd_14, wt_14, rd_15, wt_15, rd_16, wt_16, rd_17, wt_17, wr_g2, wr_g23, wr_g24, wr_g25, wr_g26, wr_g27]
      have hpk : p ≤ k := by omega
      rw [nI_pred k, wr_o9 c m _ (by omega), bind_s, muI_e, shu_o (by omega), hod _ _ hx, hah _ k _ hx, bind_s, if_pos hpk]
      refine ok_iteF (show ¬ (1 : Int32) = 0 by decide) ?_
      rw [bind_s, wr_u9 c m _ (by omega), bind_s]
      refine ok_some ?_
      show (nI (k + 1) + (-1), _) = (_, _)
      rw [pk_m1, muI_muI, muI_e, show l - (t + 1) = k by omega, ← hod _ _ hx, shu_s (by omega)]
    · rintro _ rfl
      have e : l - (l - p) = p := by omega
      rw [e]
      by_cases h0 : p = 0
      · subst h0
        exact ok_iteT (show (nI 0 : Int32) ≤ 0 by decide) (ok_some rfl)
      · obtain ⟨k, rfl⟩ : ∃ k, p = k + 1 := ⟨p - 1, by omega⟩
        have hkl : k < (ordL kk l).length := by omega
        have hx : (ordL kk l)[k]? = some (ordL kk l)[k] := List.getElem?_eq_getElem hkl
        refine ok_iteF (nI_nle (by omega) (by omega)) ?_
        simp only [wr_g0, wr_rcv, bind_s, mu0_a, ma_of, rd_0, wt_0, rd_1, wt_1, rd_2, wt_2, rd_3, wt_3, rd_4, wt_4, rd_5, wt_5, rd_6, wt_6, rd_7, wt_7, rd_8, wt_8, rd_9, wt_9, rd_10, wt_10, rd_11, wt_11, rd_12, wt_12, rd_13, wt_13, rd_14, wt_14, rd_15, wt_15, rd_16, wt_16, rd_17, wt_17, wr_g2, wr_g23, wr_g24, wr_g25, wr_g26, wr_g27]
        have hpk : ¬ k + 1 ≤ k := by omega
        rw [nI_pred k, wr_o9 c m _ (by omega), bind_s, muI_e, shu_o (by omega), hod _ _ hx, hah _ k _ hx, bind_s, if_neg hpk]
        exact ok_iteT rfl (ok_some rfl)
    · rintro _ rfl
      simp only [wr_g0, wr_rcv, bind_s, mu0_a, ma_of, rd_0, wt_0, rd_1, wt_1, rd_2, wt_2, rd_3, wt_3, rd_4, wt_4, rd_5, wt_5, rd_6, wt_6, rd_7, wt_7, rd_8, wt_8, rd_9, wt_9, rd_10, wt_10, rd_11, wt_11, rd_12, wt_12, rd_13, wt_13, rd_14, wt_14, rd_15, wt_15, rd_16, wt_16, rd_17, wt_17, wr_g2, wr_g23, wr_g24, wr_g25, wr_g26, wr_g27]
      rw [wr_u9 c m _ (by omega), bind_s]
      refine ok_some ⟨va_up (shu od p l) p (nI l), ?_, fun i x hx => ?_⟩
      · show (nI l + 1, _) = (nI (l + 1), _)
        rw [nI_1, muI_muI, muI_e]
      · rw [ordL, insP_at, hpp] at hx
        by_cases h1 : i < p
        · rw [if_pos h1] at hx
          rw [up_n _ _ _ (by omega), shu_o (by omega)]
          exact hod i x hx
        · rw [if_neg h1] at hx
          by_cases h2 : i = p
          · rw [if_pos h2] at hx
            rw [h2, up_e]
            have : l = x := by simpa using hx
            rw [this]
          · rw [if_neg h2] at hx
            have hil : i - 1 < l := by
              have := (List.getElem?_eq_some_iff.mp hx).1
              omega
            rw [up_n _ _ _ h2, shu_i (by omega) (by omega)]
            exact hod _ x hx
  · rintro _ ⟨od, rfl, hod⟩
    simp only [wr_g0, wr_rcv, bind_s, mu0_a, ma_of, rd_0, wt_0, rd_1, wt_1, rd_2, wt_2, rd_3, wt_3, rd_4, wt_4, rd_5, wt_5, rd_6, wt_6, rd_7, wt_7, rd_8, wt_8, rd_9, wt_9, rd_10, wt_10, rd_11, wt_11, rd_12, wt_12, rd_13, wt_13, rd_14, wt_14, rd_15, wt_15, rd_16, wt_16, rd_17, wt_17, wr_g2, wr_g23, wr_g24, wr_g25, wr_g26, wr_g27]
    rw [muI_n _ _ (by decide), h3, if_le (by omega) (by omega), if_pos (Nat.le_refl _)]
    exact ok_some ⟨od, rfl, hod⟩
  · rintro _ ⟨od, rfl, hod⟩
    exact ok_some ⟨od, rfl, hod⟩
/-! widen -/
def offN (m l : Nat) : Nat := m &&& (63 - 2 ^ l)
theorem off_1 : ∀ m, m < 64 → ∀ l, l < 6 → nI m &&& (((1 : Int32) <<< (nI l &&& 31)) ^^^ (-1)) = nI (offN m l) := by decide +kernel
theorem offN_le (m l : Nat) : offN m l ≤ m := Nat.and_le_left
/-- one letter is dropped, if it can be: the mask then, and how often it was asked -/
def widS (M : Mv) (fr : List Cu) (st lv : Nat) (s : Nat × Nat) (l : Nat) : Nat × Nat := if cubS M.1 (offN s.1 l) (st &&& offN s.1 l) &&& M.2.2.1 = 0 then (if hld M fr (offN s.1 l) (st &&& offN s.1 l) lv then offN s.1 l else s.1, s.2 + 1) else s
def widV (M : Mv) (fr : List Cu) (kk : Nat → Nat) (st lv asked : Nat) : Nat × Nat := (ordL kk M.1).foldl (widS M fr st lv) (2 ^ M.1 - 1, asked)
theorem widS_le (M : Mv) (fr : List Cu) (st lv : Nat) (s : Nat × Nat) (l : Nat) : (widS M fr st lv s l).1 ≤ s.1 := by
  unfold widS
  have := offN_le s.1 l
  split
  · split <;> simp_all
  · exact Nat.le_refl _
theorem widF_le (M : Mv) (fr : List Cu) (st lv : Nat) : ∀ (l : List Nat) (s : Nat × Nat), (l.foldl (widS M fr st lv) s).1 ≤ s.1 := by
  intro l
  induction l with
  | nil => intro s; exact Nat.le_refl _
  | cons o l ih =>
    intro s
    exact Nat.le_trans (ih _) (widS_le M fr st lv s o)
theorem rr_widen (c : Ce) (m : Nat) (μ : MS) {M : Mv} {n : Nat → Nat} {fr : List Cu} {X : List Ln × (Nat → UInt32) × List (Nat × Nat)} (hr : RR (μ.1 0) (μ.2.2.1 2) (M, n, fr, X)) (h15 : n 15 < 2 ^ 31) {kk : Nat → Nat} (hK : KO (n 15) (μ.2.2.1 2) M.1 kk) {st lv : Nat} (hst : st < 64) (hlv : lv + 1 < 2 ^ 31) : Ok (m_X12_widen (wr c m μ) m (nI st) (nI (lv + 1))) (fun q => ∃ od, q = (nI (widV M fr kk st lv (n 12)).1, wr c m (mu0 (muI μ 9 od) (va_up (μ.1 0) 12 (nI (widV M fr kk st lv (n 12)).2))))) := by
  have hL : M.1 < 7 := hr.1.2.2.1
  have h3g : μ.1 0 3 = nI M.1 := hr.1.1
  have h64 := p2_64 hL
  unfold m_X12_widen
  simp only [wr_rcv, bind_s]
  rw [sr_states c m μ hL hr.1.1, bind_s]
  refine ok_call (sr_layOrder c m μ hL hr.1.1 h15 (hr.2.1 15 (by decide)) hK) ?_
  rintro _ ⟨od, rfl, hod⟩
  have hlen := ordL_len kk M.1
  have e0 : nI (2 ^ M.1) - 1 = nI (2 ^ M.1 - 1) := by rw [nl_1, pk_sub (Nat.one_le_two_pow)]
  have e1 : muI μ 9 od = mu0 (muI μ 9 od) (va_up (μ.1 0) 12 (nI (n 12))) := by
    have : nI (n 12) = μ.1 0 12 := (hr.2.1 12 (by decide)).symm
    rw [this, up_self]
    have e2 := mu0_self (muI μ 9 od)
    rw [muI_n _ _ (by decide)] at e2
    exact e2.symm
  refine ok_call (P := fun o => o = (nI (widV M fr kk st lv (n 12)).1, wr c m (mu0 (muI μ 9 od) (va_up (μ.1 0) 12 (nI (widV M fr kk st lv (n 12)).2))))) (ok_cnt 0 M.1 (fun k s => s = ((nI (((ordL kk M.1).take k).foldl (widS M fr st lv) (2 ^ M.1 - 1, n 12)).1, nI k), wr c m (mu0 (muI μ 9 od) (va_up (μ.1 0) 12 (nI (((ordL kk M.1).take k).foldl (widS M fr st lv) (2 ^ M.1 - 1, n 12)).2))))) (by omega) (by omega) ?_ ?_ ?_) ?_
  · rw [e0]
    exact congrArg (fun z => ((nI (2 ^ M.1 - 1), (0 : Int32)), wr c m z)) e1
  · rintro k _ hk rfl
    have hx : (ordL kk M.1)[k]? = some (ordL kk M.1)[k] := List.getElem?_eq_getElem (by omega)
    have hxl : (ordL kk M.1)[k] < M.1 := ordL_lt kk (List.mem_of_getElem? hx)
    have htk : (ordL kk M.1).take (k + 1) = (ordL kk M.1).take k ++ [(ordL kk M.1)[k]] := (List.take_append_getElem (by omega)).symm
    have hms := widF_le M fr st lv ((ordL kk M.1).take k) (2 ^ M.1 - 1, n 12)
    rw [htk, List.foldl_append]
    generalize (ordL kk M.1)[k] = x at hx hxl
    generalize ((ordL kk M.1).take k).foldl (widS M fr st lv) (2 ^ M.1 - 1, n 12) = s at hms
    have hs : s.1 < 64 := by have : s.1 ≤ 2 ^ M.1 - 1 := hms; omega
    have hlt : offN s.1 x < 64 := by have := offN_le s.1 x; omega
    have hst2 : st &&& offN s.1 x < 64 := Nat.and_lt_two_pow (n := 6) _ hlt
    have hr2 : RR (va_up (μ.1 0) 12 (nI s.2)) (μ.2.2.1 2) (M, va_up n 12 s.2, fr, X) := RR_num hr (by decide) s.2
    have hM2 : Mac ((mu0 (muI μ 9 od) (va_up (μ.1 0) 12 (nI s.2))).1 0) M := by rw [mu0_a]; exact hr2.1
    simp only [wr_g0, wr_rcv, bind_s, mu0_a, ma_of, rd_0, wt_0, rd_1, wt_1, rd_2, wt_2, rd_3, wt_3, rd_4, wt_4, rd_5, wt_5, rd_6, wt_6, rd_7, wt_7, rd_8, wt_8, rd_9, wt_9, rd_10, wt_10, rd_11, wt_11, rd_12, wt_12, rd_13, wt_13, rd_14, wt_14, rd_15, wt_15, rd_16, wt_16, rd_17, wt_17, wr_g2, wr_g23, wr_g24, wr_g25, wr_g26, wr_g27]
    rw [up_n _ _ _ (by decide), h3g, if_le (by omega) (by omega), if_neg (by omega), wr_o9 c m _ (by omega), bind_s, mu0_r _ _ (by decide), muI_e, hod _ _ hx, off_1 _ hs _ (by omega), nI_and, sr_cubeSet c m _ hL hM2.1 (by omega) (by omega), bind_s, sr_starts, bind_s]
    have e2 : lset ((mu0 (muI μ 9 od) (va_up (μ.1 0) 12 (nI s.2))).1 0) 0 = M.2.2.1 := hM2.2.2.2.2.2.2.1
    have e3 : nI (lv + 1) - 1 = nI lv := nI_pred lv
    rw [e2, e3, List.foldl_cons, List.foldl_nil]
    unfold widS
    by_cases h0 : cubS M.1 (offN s.1 x) (st &&& offN s.1 x) &&& M.2.2.1 = 0
    · rw [if_pos (lcmp_0.mpr h0), if_pos h0, rr_isAsked c m (muI μ 9 od) hr2 (by omega) (by omega) (by omega), bind_s, if_b, up_e, up_up]
      cases hld M fr (offN s.1 x) (st &&& offN s.1 x) lv with
      | true =>
        refine ok_some ?_
        show ((_, nI k + 1), _) = ((_, nI (k + 1)), _)
        rw [nI_1]
        rfl
      | false =>
        refine ok_some ?_
        show ((_, nI k + 1), _) = ((_, nI (k + 1)), _)
        rw [nI_1]
        rfl
    · rw [if_neg (fun q => h0 (lcmp_0.mp q)), if_neg h0]
      refine ok_some ?_
      show ((_, nI k + 1), _) = ((_, nI (k + 1)), _)
      rw [nI_1]
  · rintro _ rfl
    have ht : (ordL kk M.1).take M.1 = ordL kk M.1 := List.take_of_length_le (by omega)
    rw [ht]
    simp only [wr_g0, wr_rcv, bind_s, mu0_a, ma_of, rd_0, wt_0, rd_1, wt_1, rd_2, wt_2, rd_3, wt_3, rd_4, wt_4, rd_5, wt_5, rd_6, wt_6, rd_7, wt_7, rd_8, wt_8, rd_9, wt_9, rd_10, wt_10, rd_11, wt_11, rd_12, wt_12, rd_13, wt_13, rd_14, wt_14, rd_15, wt_15, rd_16, wt_16, rd_17, wt_17, wr_g2, wr_g23, wr_g24, wr_g25, wr_g26, wr_g27]
    rw [up_n _ _ _ (by decide), h3g, if_le (by omega) (by omega), if_pos (Nat.le_refl _)]
    exact ok_some rfl
  · rintro _ rfl
    exact ok_some ⟨od, rfl⟩
