/-! CUBES in the reference's row a: at 104 + k, frame · 4096 + mask · 64 + bits -/
def Cub (a : Nat → Int32) (fr : List (Nat × Nat × Nat)) : Prop := a 17 = nI fr.length ∧ fr.length ≤ 5000 ∧ ∀ k q, fr[k]? = some q → a (104 + k) = nI (q.1 * 4096 + q.2.1 * 64 + q.2.2) ∧ q.1 < 128 ∧ q.2.1 < 64 ∧ q.2.2 < 64
theorem s12 : (((12 : Int32) &&& 31).toBitVec.smod 32).toNat = 12 := by decide
theorem s6 : (((6 : Int32) &&& 31).toBitVec.smod 32).toNat = 6 := by decide
theorem cb_f {f m b : Nat} (hf : f < 128) (hm : m < 64) (hb : b < 64) : nI (f * 4096 + m * 64 + b) >>> ((12 : Int32) &&& 31) = nI f := by
  rw [pk_shrN (by omega) _ 12 s12]
  congr 1
  omega
theorem cb_m {f m b : Nat} (hf : f < 128) (hm : m < 64) (hb : b < 64) : (nI (f * 4096 + m * 64 + b) >>> ((6 : Int32) &&& 31)) &&& 63 = nI m := by
  rw [pk_shrN (by omega) _ 6 s6, pk_andN (by omega) 6 (by decide)]
  congr 1
  omega
theorem cb_b {f m b : Nat} (hf : f < 128) (hm : m < 64) (hb : b < 64) : nI (f * 4096 + m * 64 + b) &&& 63 = nI b := by
  rw [pk_andN (by omega) 6 (by decide)]
  congr 1
  omega
theorem sc_frameOf (c : Ce) (m : Nat) (μ : MS) {fr : List (Nat × Nat × Nat)} (hC : Cub (μ.1 0) fr) {k : Nat} {q : Nat × Nat × Nat} (hq : fr[k]? = some q) : m_X12_frameOf (wr c m μ) m (nI k) = some (nI q.1) := by
  obtain ⟨h1, h2, h3, h4⟩ := hC.2.2 k q hq
  have hk : k < fr.length := (List.getElem?_eq_some_iff.mp hq).1
  rw [sr_frameOf c m μ (by have := hC.2.1; omega), h1, cb_f h2 h3 h4]
theorem sc_maskOf (c : Ce) (m : Nat) (μ : MS) {fr : List (Nat × Nat × Nat)} (hC : Cub (μ.1 0) fr) {k : Nat} {q : Nat × Nat × Nat} (hq : fr[k]? = some q) : m_X12_maskOf (wr c m μ) m (nI k) = some (nI q.2.1) := by
  obtain ⟨h1, h2, h3, h4⟩ := hC.2.2 k q hq
  have hk : k < fr.length := (List.getElem?_eq_some_iff.mp hq).1
  rw [sr_maskOf c m μ (by have := hC.2.1; omega), h1, cb_m h2 h3 h4]
theorem sc_bitsOf (c : Ce) (m : Nat) (μ : MS) {fr : List (Nat × Nat × Nat)} (hC : Cub (μ.1 0) fr) {k : Nat} {q : Nat × Nat × Nat} (hq : fr[k]? = some q) : m_X12_bitsOf (wr c m μ) m (nI k) = some (nI q.2.2) := by
  obtain ⟨h1, h2, h3, h4⟩ := hC.2.2 k q hq
  have hk : k < fr.length := (List.getElem?_eq_some_iff.mp hq).1
  rw [sr_bitsOf c m μ (by have := hC.2.1; omega), h1, cb_b h2 h3 h4]
theorem sc_setOfCube (c : Ce) (m : Nat) (μ : MS) {L : Nat} (hL : L < 7) (h : μ.1 0 3 = nI L) {fr : List (Nat × Nat × Nat)} (hC : Cub (μ.1 0) fr) {k : Nat} {q : Nat × Nat × Nat} (hq : fr[k]? = some q) : m_X12_setOfCube (wr c m μ) m (nI k) = some (cubS L q.2.1 q.2.2) := by
  obtain ⟨h1, h2, h3, h4⟩ := hC.2.2 k q hq
  unfold m_X12_setOfCube
  rw [wr_rcv, bind_s, sc_maskOf c m μ hC hq, bind_s, bind_s, sc_bitsOf c m μ hC hq, bind_s, bind_s, sr_cubeSet c m μ hL h (by omega) (by omega), bind_s]
/-- what is within a frame, out of the cubes up to the j-th -/
def opnN (L : Nat) (fr : List (Nat × Nat × Nat)) (f j : Nat) : Int64 := mkS fun s => decide (s < 2 ^ L) && (fr.take j).all fun q => decide (q.1 < f) || !B (cubS L q.2.1 q.2.2) s
def opnS (L : Nat) (ini : Int64) (fr : List (Nat × Nat × Nat)) (f : Nat) : Int64 := if f = 0 then ini else opnN L fr f fr.length
theorem opnN_s (L : Nat) (fr : List (Nat × Nat × Nat)) (f j : Nat) {q : Nat × Nat × Nat} (hq : fr[j]? = some q) {k : Nat} (hk : k < 64) : B (opnN L fr f (j + 1)) k = (B (opnN L fr f j) k && (decide (q.1 < f) || !B (cubS L q.2.1 q.2.2) k)) := by
  unfold opnN
  rw [B_mkS _ hk, B_mkS _ hk, List.take_add_one, hq, List.all_append]
  simp [Bool.and_assoc]
theorem sc_openAt (c : Ce) (m : Nat) (μ : MS) {L : Nat} (hL : L < 7) (h : μ.1 0 3 = nI L) {fr : List (Nat × Nat × Nat)} (hC : Cub (μ.1 0) fr) {f : Nat} (hf : f < 2 ^ 31) : m_X12_openAt (wr c m μ) m (nI f) = some (opnS L (lset (μ.1 0) 0) fr f) := by
  unfold opnS
  by_cases h0 : f = 0
  · subst h0
    unfold m_X12_openAt
    rw [if_pos nI_0, if_pos rfl, wr_rcv, bind_s, sr_starts, bind_s]
  · rw [if_neg h0]
    refine ok_eq ?_
    unfold m_X12_openAt
    have hlen := hC.2.1
    refine ok_iteF (nI_ne0 (by omega) hf) ?_
    rw [wr_rcv, bind_s, sr_all c m μ hL h, bind_s]
    refine ok_call (P := fun o => o = opnN L fr f fr.length) (ok_cnt 0 fr.length (fun j q => q = (opnN L fr f j, nI j)) (by omega) (by omega) ?_ ?_ ?_) (fun a h => ok_some h)
    · have e : opnN L fr f 0 = allS L := by
        refine B_ext fun k hk => ?_
        unfold opnN
        rw [B_mkS _ hk, B_mkS _ hk]
        simp
      rw [e]
      rfl
    · rintro j _ hj rfl
      obtain ⟨q, hq⟩ : ∃ q, fr[j]? = some q := ⟨fr[j], List.getElem?_eq_getElem hj⟩
      obtain ⟨h1, h2, h3, h4⟩ := hC.2.2 j q hq
      rw [wr_g0, bind_s, nl_17, wr_a0 c m μ (by decide), bind_s, hC.1]
      refine ok_iteF (fun h => ?_) ?_
      · have := n_ge (a := fr.length) (b := j) (by omega) (by omega) h
        omega
      · rw [bind_s]
        show Ok ((m_X12_frameOf (wr c m μ) m (nI j)).bind _) _
        rw [sc_frameOf c m μ hC hq, bind_s]
        by_cases hlt : q.1 < f
        · refine ok_iteT (nI_lt hlt hf) (ok_some ?_)
          show (_, nI j + 1) = (opnN L fr f (j + 1), nI (j + 1))
          rw [nI_1]
          congr 1
          refine B_ext fun k hk => ?_
          rw [opnN_s L fr f j hq hk]
          simp [hlt]
        · refine ok_iteF (nI_nlt (by omega) (by omega)) ?_
          show Ok ((m_X12_setOfCube (wr c m μ) m (nI j)).bind _) _
          rw [sc_setOfCube c m μ hL h hC hq, bind_s]
          refine ok_some ?_
          show (_, nI j + 1) = (opnN L fr f (j + 1), nI (j + 1))
          rw [nI_1]
          congr 1
          refine B_ext fun k hk => ?_
          rw [opnN_s L fr f j hq hk, B_and, B_inv _ hk]
          simp [hlt]
    · rintro _ rfl
      rw [wr_g0, bind_s, nl_17, wr_a0 c m μ (by decide), bind_s, hC.1]
      exact ok_iteT (Int32.le_refl _) (ok_some rfl)
