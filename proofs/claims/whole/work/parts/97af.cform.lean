/-! FORMS of the class -/
section
variable {ce : Ce} {rd ka va pa cnt n LL : Nat} {ini : Int32} {i0 : Int64} {nb : Int32} {al : Nat} {nt : Int32} {nl : Nat} {inp : Int32} {f : Nat → Nat}
/-- the reader's cell anew, all else as it lies -/
def hR (ce : Ce) (rd ka va pa cnt LL : Nat) (ini : Int32) (i0 : Int64) (nb : Int32) (al : Nat) (nt : Int32) (nl : Nat) (inp : Int32) (now flt fp : Int32) : Ce := gx_up ce rd (.inr (5, rdX ka va pa (nI (cnt + 1)) now flt fp (nI LL) ini i0 nb al nt nl inp))
/-- all tokens lie there -/
def CHy (ce : Ce) (rd ka va pa cnt n : Nat) (f : Nat → Nat) : Prop := Dis rd ka va pa ∧ TkA ce ka va pa f n (cnt + 1) ∧ cnt ≤ 300 ∧ tK f n cnt = 0 ∧ (∀ i, i < cnt → tK f n i ≠ 0) ∧ n ≤ 300 ∧ ∀ j, j < n → f j < 256
theorem hR_e (now flt fp : Int32) : hR ce rd ka va pa cnt LL ini i0 nb al nt nl inp now flt fp rd = some (.inr (5, rdX ka va pa (nI (cnt + 1)) now flt fp (nI LL) ini i0 nb al nt nl inp)) := gu_e _ _ _
theorem hR_n (now flt fp : Int32) {b : Nat} (h : b ≠ rd) : hR ce rd ka va pa cnt LL ini i0 nb al nt nl inp now flt fp b = ce b := gu_n _ _ h
theorem hR_now (now flt fp v : Int32) : pV (hR ce rd ka va pa cnt LL ini i0 nb al nt nl inp now flt fp) 5 4 rd (.int v) = some (hR ce rd ka va pa cnt LL ini i0 nb al nt nl inp v flt fp) := by
  rw [pV_c (hR_e now flt fp) (Nat.le_of_ble_eq_true rfl)]
  exact congrArg some (gu_gu _ _ _ _)
theorem hR_flt (now flt fp v : Int32) : pV (hR ce rd ka va pa cnt LL ini i0 nb al nt nl inp now flt fp) 5 5 rd (.int v) = some (hR ce rd ka va pa cnt LL ini i0 nb al nt nl inp now v fp) := by
  rw [pV_c (hR_e now flt fp) (Nat.le_of_ble_eq_true rfl)]
  exact congrArg some (gu_gu _ _ _ _)
theorem hR_fp (now flt fp v : Int32) : pV (hR ce rd ka va pa cnt LL ini i0 nb al nt nl inp now flt fp) 5 6 rd (.int v) = some (hR ce rd ka va pa cnt LL ini i0 nb al nt nl inp now flt v) := by
  rw [pV_c (hR_e now flt fp) (Nat.le_of_ble_eq_true rfl)]
  exact congrArg some (gu_gu _ _ _ _)
theorem hR_k (h : CHy ce rd ka va pa cnt n f) (now flt fp : Int32) {j : Nat} (hj : j ≤ cnt) : aI (hR ce rd ka va pa cnt LL ini i0 nb al nt nl inp now flt fp) ka (nI j) = some (nI (tK f n j)) := by
  obtain ⟨⟨d1, _⟩, ⟨Fk, Fv, Fp, a1, a2, a3, a4⟩, hc, _⟩ := h
  rw [aI_c ((hR_n now flt fp (Ne.symm d1)).trans a1) (by omega) (by omega), (a4 j (by omega)).1]
theorem hR_v (h : CHy ce rd ka va pa cnt n f) (now flt fp : Int32) {j : Nat} (hj : j ≤ cnt) : ∃ v, aI (hR ce rd ka va pa cnt LL ini i0 nb al nt nl inp now flt fp) va (nI j) = some v ∧ (tK f n j = 2 ∨ tK f n j = 3 ∨ tK f n j = 4 ∨ tK f n j = 5 → v = nI (tV f n j)) := by
  obtain ⟨⟨d1, d2, _⟩, ⟨Fk, Fv, Fp, a1, a2, a3, a4⟩, hc, _⟩ := h
  exact ⟨Fv j, aI_c ((hR_n now flt fp (Ne.symm d2)).trans a2) (by omega) (by omega), (a4 j (by omega)).2.2⟩
theorem hR_p (h : CHy ce rd ka va pa cnt n f) (now flt fp : Int32) {j : Nat} (hj : j ≤ cnt) : aI (hR ce rd ka va pa cnt LL ini i0 nb al nt nl inp now flt fp) pa (nI j) = some (nI (tP f n j)) := by
  obtain ⟨⟨d1, d2, d3, _⟩, ⟨Fk, Fv, Fp, a1, a2, a3, a4⟩, hc, _⟩ := h
  rw [aI_c ((hR_n now flt fp (Ne.symm d3)).trans a3) (by omega) (by omega), (a4 j (by omega)).2.1]
theorem CHy_lt (h : CHy ce rd ka va pa cnt n f) {j : Nat} (hj : j ≤ cnt) (hK : tK f n j ≠ 0) : j < cnt := by
  have h0 := h.2.2.2.1
  refine Nat.lt_of_le_of_ne hj (fun e => hK ?_)
  rw [e]
  exact h0
theorem tV_lt {f : Nat → Nat} {n j : Nat} (hf : ∀ j, j < n → f j < 256) (h : tK f n j = 2 ∨ tK f n j = 3 ∨ tK f n j = 4 ∨ tK f n j = 5) : tV f n j ≤ 1000 := by
  obtain ⟨h2, h3⟩ := tV_2 (j := j) hf
  rcases h with h | h | h | h
  · have := h2 h
    omega
  · have := h3 h
    omega
  · unfold tK tkK at h
    unfold tV tkV
    generalize tkq f n (ps f n j) = q at h ⊢
    split
    · omega
    · rename_i hF
      split at h
      · split at h
        · exact absurd h (lk_45 f q _).1
        · split at h <;> omega
      · omega
  · have := isG_r (tK_5 h)
    omega
theorem cf_goOn (h : CHy ce rd ka va pa cnt n f) (flt fp : Int32) {j : Nat} (hj : j < cnt) : m_X7_goOn (hR ce rd ka va pa cnt LL ini i0 nb al nt nl inp (nI j) flt fp) rd = some ((), hR ce rd ka va pa cnt LL ini i0 nb al nt nl inp (nI (j + 1)) flt fp) := by
  have hc := h.2.2.1
  unfold m_X7_goOn
  rw [gI_c (k := 4) (x := nI j) (hR_e _ _ _) rfl, bind_s, gI_c (k := 3) (x := nI (cnt + 1)) (hR_e _ _ _) rfl, bind_s, nI_1, if_le (by omega) (by omega), if_neg (by omega), bind_s, hR_now, bind_s, nI_1]
theorem cf_fail (h : CHy ce rd ka va pa cnt n f) (fp : Int32) {j : Nat} (hj : j ≤ cnt) (e : Int32) : m_X7_fail (hR ce rd ka va pa cnt LL ini i0 nb al nt nl inp (nI j) 0 fp) rd e = some ((), hR ce rd ka va pa cnt LL ini i0 nb al nt nl inp (nI cnt) e (nI (tP f n j))) := by
  have hc := h.2.2.1
  unfold m_X7_fail
  rw [gI_c (k := 5) (x := 0) (hR_e _ _ _) rfl, bind_s, if_pos rfl, hR_flt, bind_s, gA_c (k := 2) (x := pa) (hR_e _ _ _) rfl, bind_s, gI_c (k := 4) (x := nI j) (hR_e _ _ _) rfl, bind_s, hR_p h _ _ _ hj, bind_s, hR_fp, bind_s, bind_s, gI_c (k := 3) (x := nI (cnt + 1)) (hR_e _ _ _) rfl, bind_s, if_neg (nI_nle (by omega) (by omega)), bind_s, nI_pred, hR_now, bind_s]
theorem cf_fail2 (h : CHy ce rd ka va pa cnt n f) (now flt fp : Int32) (hf : flt ≠ 0) (e : Int32) : m_X7_fail (hR ce rd ka va pa cnt LL ini i0 nb al nt nl inp now flt fp) rd e = some ((), hR ce rd ka va pa cnt LL ini i0 nb al nt nl inp (nI cnt) flt fp) := by
  have hc := h.2.2.1
  unfold m_X7_fail
  rw [gI_c (k := 5) (x := flt) (hR_e _ _ _) rfl, bind_s, if_neg hf, bind_s, gI_c (k := 3) (x := nI (cnt + 1)) (hR_e _ _ _) rfl, bind_s, if_neg (nI_nle (by omega) (by omega)), bind_s, nI_pred, hR_now, bind_s]
theorem cf_isSign (h : CHy ce rd ka va pa cnt n f) (flt fp : Int32) {j : Nat} (hj : j ≤ cnt) (b : Nat) (hb : b < 256) (v : Int32) (hv : v = nI b) : m_X7_isSign (hR ce rd ka va pa cnt LL ini i0 nb al nt nl inp (nI j) flt fp) rd v = some (if tK f n j = 5 ∧ tV f n j = b then 1 else 0) := by
  have hc := h.2.2.1
  have hK9 : tK f n j < 256 := by
    unfold tK tkK
    generalize tkq f n (ps f n j) = q
    split
    · split
      · omega
      · split
        · unfold lk
          split
          · split
            · omega
            · split <;> omega
          · unfold wk
            split
            · omega
            · split
              · omega
              · split
                · omega
                · split <;> omega
        · split <;> omega
    · omega
  obtain ⟨w, w1, w2⟩ := hR_v (LL := LL) (ini := ini) (i0 := i0) (nb := nb) (al := al) (nt := nt) (nl := nl) (inp := inp) h (nI j) flt fp hj
  unfold m_X7_isSign
  rw [gA_c (k := 0) (x := ka) (hR_e _ _ _) rfl, bind_s, gI_c (k := 4) (x := nI j) (hR_e _ _ _) rfl, bind_s, hR_k h _ _ _ hj, bind_s, if_l 5 (5 : Int32) rfl (by omega) (by omega), gA_c (k := 1) (x := va) (hR_e _ _ _) rfl, bind_s, bind_s, w1, bind_s]
  by_cases k5 : tK f n j = 5
  · have := isG_r (tK_5 k5)
    rw [if_pos k5, w2 (by omega), if_l b v hv (by omega) (by omega)]
    by_cases e : tV f n j = b
    · rw [if_pos e, if_pos ⟨k5, e⟩]
    · rw [if_neg e, if_neg (fun z => e z.2)]
  · rw [if_neg k5, if_neg (fun z => k5 z.1)]
/-- a reading of the class, and what it should be -/
def RC (ce : Ce) (rd ka va pa cnt LL : Nat) (ini : Int32) (i0 : Int64) (nb : Int32) (al : Nat) (nt : Int32) (nl : Nat) (inp : Int32) (f : Nat → Nat) (n i : Nat) (fp : Int32) (run : Option (Int64 × Ce)) (res : PR) : Prop := match res with
  | .inl e => (e.2 ≤ cnt ∧ 0 < e.1 ∧ e.1 < 7) ∧ ∃ v, run = some (v, hR ce rd ka va pa cnt LL ini i0 nb al nt nl inp (nI cnt) (nI e.1) (nI (tP f n e.2)))
  | .inr y => y.2 ≤ cnt ∧ run = some (y.1 i, hR ce rd ka va pa cnt LL ini i0 nb al nt nl inp (nI y.2) 0 fp)
def Inp (nx : Bool) (i : Nat) (inp : Int32) : Prop := (nx = true ∧ i < 4 ∧ inp = nI i) ∨ (nx = false ∧ i = 0 ∧ inp = -1)
theorem inp_v : ∀ i, i < 4 → ∀ v, v < 2 → -(Int32.toInt64 ((nI i >>> (nI v &&& 31)) &&& (1 : Int32))) = (if i.testBit v = true then (-1 : Int64) else 0) := by decide +kernel
theorem num_v : ∀ v, v ≤ 1 → -(Int32.toInt64 (nI v)) = (if v = 1 then (-1 : Int64) else 0) := by decide +kernel
theorem cf_plain (h : CHy ce rd ka va pa cnt n f) (hL : LL ≤ 6) {nx : Bool} {i : Nat} (hi : Inp nx i inp) (fp : Int32) {j : Nat} (hj : j ≤ cnt) : RC ce rd ka va pa cnt LL ini i0 nb al nt nl inp f n i fp (m_X7_readPlain (hR ce rd ka va pa cnt LL ini i0 nb al nt nl inp (nI j) 0 fp) rd) (pAt (tK f n) (tV f n) LL nx j) := by
  have hc := h.2.2.1
  obtain ⟨w, w1, w2⟩ := hR_v (LL := LL) (ini := ini) (i0 := i0) (nb := nb) (al := al) (nt := nt) (nl := nl) (inp := inp) h (nI j) 0 fp hj
  have hK9 : tK f n j < 2 ^ 31 := by
    have := hR_k (LL := LL) (ini := ini) (i0 := i0) (nb := nb) (al := al) (nt := nt) (nl := nl) (inp := inp) h (nI j) 0 fp hj
    refine Nat.lt_of_le_of_lt ?_ (show 9 < 2 ^ 31 by decide)
    unfold tK tkK
    generalize tkq f n (ps f n j) = q
    split
    · split
      · omega
      · split
        · unfold lk
          split
          · split
            · omega
            · split <;> omega
          · unfold wk
            split
            · omega
            · split
              · omega
              · split
                · omega
                · split <;> omega
        · split <;> omega
    · omega
  unfold m_X7_readPlain
  rw [gA_c (k := 0) (x := ka) (hR_e _ _ _) rfl, bind_s, gI_c (k := 4) (x := nI j) (hR_e _ _ _) rfl, bind_s, hR_k h _ _ _ hj, bind_s, gA_c (k := 1) (x := va) (hR_e _ _ _) rfl, bind_s, bind_s, w1, bind_s, if_l 2 (2 : Int32) rfl hK9 (by omega)]
  unfold pAt
  obtain ⟨v2, v3⟩ := tV_2 (j := j) h.2.2.2.2.2.2
  by_cases k2 : tK f n j = 2
  · have hw := w2 (by omega)
    have hV := v2 k2
    rw [if_pos k2, if_pos k2, gI_c (k := 7) (x := nI LL) (hR_e _ _ _) rfl, bind_s, hw, if_le (by omega) (by omega), show (6 : Int32) = nI 6 from rfl, if_le (by omega) (by omega), if_neg (show ¬ 6 ≤ tV f n j by omega), rcv_c (hR_e _ _ _), bind_s]
    have hlt := CHy_lt h hj (by omega)
    rw [cf_goOn h _ _ hlt, bind_s, cc_aLS hV, bind_s]
    by_cases vL : tV f n j < LL
    · rw [if_neg (by omega), if_pos vL, bind_s, Sum.elim_inl]
      exact ⟨hlt, rfl⟩
    · rw [if_pos (by omega), if_neg vL, bind_s, Sum.elim_inr, k2, if_neg (by decide), bind_s, Sum.elim_inr, if_neg (by decide), bind_s, Sum.elim_inr, show m_X7_faultOf (nI 2) = some 3 from rfl, bind_s, rcv_c (hR_e _ _ _), bind_s, cf_fail h _ hj, bind_s]
      exact ⟨⟨hj, Nat.le_of_ble_eq_true rfl, Nat.le_of_ble_eq_true rfl⟩, 0, rfl⟩
  · rw [if_neg k2, if_neg k2, bind_s, Sum.elim_inr, if_l 3 (3 : Int32) rfl hK9 (by omega)]
    by_cases k3 : tK f n j = 3
    · have hw := w2 (by omega)
      have hV := v3 k3
      have hlt := CHy_lt h hj (by omega)
      rw [if_pos k3, if_pos k3, gI_c (k := 14) (x := inp) (hR_e _ _ _) rfl, bind_s]
      rcases hi with ⟨g1, g2, g3⟩ | ⟨g1, g2, g3⟩
      · rw [if_pos g1, if_neg (by rw [g3]; exact nI_m1 (by omega)), rcv_c (hR_e _ _ _), bind_s, cf_goOn h _ _ hlt, bind_s, gI_c (k := 14) (x := inp) (hR_e _ _ _) rfl, bind_s, bind_s, Sum.elim_inl, hw, g3, inp_v i g2 _ hV]
        exact ⟨hlt, rfl⟩
      · rw [if_neg (show ¬ nx = true by rw [g1]; decide), if_pos g3, bind_s, Sum.elim_inr, k3, if_neg (by decide), bind_s, Sum.elim_inr, show m_X7_faultOf (nI 3) = some 5 from rfl, bind_s, rcv_c (hR_e _ _ _), bind_s, cf_fail h _ hj, bind_s]
        exact ⟨⟨hj, Nat.le_of_ble_eq_true rfl, Nat.le_of_ble_eq_true rfl⟩, 0, rfl⟩
    · rw [if_neg k3, if_neg k3, bind_s, Sum.elim_inr, if_l 4 (4 : Int32) rfl hK9 (by omega)]
      by_cases k4 : tK f n j = 4
      · have hw := w2 (by omega)
        have hV := tV_lt h.2.2.2.2.2.2 (j := j) (by omega)
        have hlt := CHy_lt h hj (by omega)
        rw [if_pos k4, if_pos k4, hw, show (1 : Int32) = nI 1 from rfl, if_lt (by omega) (by omega), rcv_c (hR_e _ _ _), bind_s, cf_goOn h _ _ hlt, bind_s]
        by_cases v1 : tV f n j ≤ 1
        · rw [if_neg (by omega), if_pos v1, bind_s, Sum.elim_inl, num_v _ v1]
          exact ⟨hlt, rfl⟩
        · rw [if_pos (by omega), if_neg v1, bind_s, Sum.elim_inr, k4, show m_X7_faultOf (nI 4) = some 2 from rfl, bind_s, rcv_c (hR_e _ _ _), bind_s, cf_fail h _ hj, bind_s]
          exact ⟨⟨hj, Nat.le_of_ble_eq_true rfl, Nat.le_of_ble_eq_true rfl⟩, 0, rfl⟩
      · rw [if_neg k4, if_neg k4, bind_s, Sum.elim_inr]
        have hfo : m_X7_faultOf (nI (tK f n j)) = some 1 := by
          unfold m_X7_faultOf
          rw [if_l 2 (2 : Int32) rfl hK9 (by omega), if_neg k2, if_l 3 (3 : Int32) rfl hK9 (by omega), if_neg k3, if_l 4 (4 : Int32) rfl hK9 (by omega), if_neg k4]
        rw [hfo, bind_s, rcv_c (hR_e _ _ _), bind_s, cf_fail h _ hj, bind_s]
        exact ⟨⟨hj, Nat.le_of_ble_eq_true rfl, Nat.le_of_ble_eq_true rfl⟩, 0, rfl⟩
end
