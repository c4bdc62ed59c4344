/-! THE REFERENCE: what holds, cubes put in and out -/
theorem nI_bv (n : Nat) : (nI n).toBitVec = BitVec.ofNat 32 n := rfl
theorem nI_or (a b : Nat) : nI a ||| nI b = nI (a ||| b) := by
  apply Int32.toBitVec_inj.mp; rw [Int32.toBitVec_or, nI_bv, nI_bv, nI_bv]; apply BitVec.eq_of_getLsbD_eq; intro i hi; simp [BitVec.getLsbD_ofNat, Nat.testBit_or, hi]
theorem nI_and (a b : Nat) : nI a &&& nI b = nI (a &&& b) := by
  apply Int32.toBitVec_inj.mp; rw [Int32.toBitVec_and, nI_bv, nI_bv, nI_bv]; apply BitVec.eq_of_getLsbD_eq; intro i hi; simp [BitVec.getLsbD_ofNat, Nat.testBit_and, hi]
theorem or_add (a b i : Nat) (h : b < 2 ^ i) : a * 2 ^ i ||| b = a * 2 ^ i + b := by
  rw [← Nat.shiftLeft_eq, Nat.shiftLeft_add_eq_or_of_lt h]
theorem cb_mk {f m b : Nat} (hf : f < 128) (hm : m < 64) (hb : b < 64) : ((nI f <<< ((12 : Int32) &&& 31)) ||| (nI m <<< ((6 : Int32) &&& 31))) ||| nI b = nI (f * 4096 + m * 64 + b) := by
  rw [pk_shlN _ 12 s12 (by omega), pk_shlN _ 6 s6 (by omega), nI_or, nI_or]
  congr 1
  rw [Nat.or_assoc, or_add m b 6 (by omega), or_add f (m * 2 ^ 6 + b) 12 (by omega)]
  omega
/-- what is within a frame; whether a cube holds there -/
abbrev wth (M : Mv) (fr : List Cu) (f : Nat) : Int64 := opnS M.1 M.2.2.1 fr f
def hld (M : Mv) (fr : List Cu) (mask bits f : Nat) : Bool := clsd M.1 M.2.1 (wth M fr f) (cubS M.1 mask bits)
theorem sr_opn (c : Ce) (m : Nat) (μ : MS) {M : Mv} {fr : List Cu} (hM : Mac (μ.1 0) M) (hC : Cub (μ.1 0) fr) {f : Nat} (hf : f < 2 ^ 31) : m_X12_openAt (wr c m μ) m (nI f) = some (wth M fr f) := by
  rw [sc_openAt c m μ hM.2.2.1 hM.1 hC hf, hM.2.2.2.2.2.2.1]
theorem sr_doesHold (c : Ce) (m : Nat) (μ : MS) {M : Mv} {fr : List Cu} (hM : Mac (μ.1 0) M) (hC : Cub (μ.1 0) fr) {mask bits f : Nat} (hm : mask < 2 ^ 31) (hb : bits < 2 ^ 31) (hf : f < 2 ^ 31) : m_X12_doesHold (wr c m μ) m (nI mask) (nI bits) (nI f) = some (if hld M fr mask bits f then 1 else 0) := by
  unfold m_X12_doesHold
  simp only [wr_rcv, bind_s]
  rw [sr_opn c m μ hM hC hf, bind_s, sr_cubeSet c m μ hM.2.2.1 hM.1 hm hb, bind_s, sr_isClosed c m μ hM.2.2.1 hM.1 hM.2.2.2.2.2.2.2.2, bind_s, bz_1, bind_s]
  rfl
theorem rr_isAsked (c : Ce) (m : Nat) (μ : MS) {a : Nat → Int32} {h : Nat → UInt32} {M : Mv} {n : Nat → Nat} {fr : List Cu} {X : List Ln × (Nat → UInt32) × List (Nat × Nat)} (hr : RR a h (M, n, fr, X)) {mask bits f : Nat} (hm : mask < 2 ^ 31) (hb : bits < 2 ^ 31) (hf : f < 2 ^ 31) : m_X12_isAsked (wr c m (mu0 μ a)) m (nI mask) (nI bits) (nI f) = some (if hld M fr mask bits f then 1 else 0, wr c m (mu0 μ (va_up a 12 (nI (n 12 + 1))))) := by
  have hr2 := RR_num hr (k := 12) (by decide) (n 12 + 1)
  have e : a 12 + 1 = nI (n 12 + 1) := by rw [hr.2.1 12 (by decide)]; exact nI_1 _
  unfold m_X12_isAsked
  simp only [wr_g0, wr_rcv, bind_s, mu0_a, ma_of, rd_0, wt_0, rd_1, wt_1, rd_2, wt_2, rd_3, wt_3, rd_4, wt_4, rd_5, wt_5, rd_6, wt_6, rd_7, wt_7, rd_8, wt_8, rd_9, wt_9, rd_10, wt_10, rd_11, wt_11, rd_12, wt_12, rd_13, wt_13, rd_14, wt_14, rd_15, wt_15, rd_16, wt_16, rd_17, wt_17]
  rw [e, sr_doesHold c m _ (M := M) (fr := fr) (by rw [mu0_a]; exact hr2.1) (by rw [mu0_a]; exact hr2.2.2.1) hm hb hf, bind_s, bz_1, bind_s]
/-- a row from lo on, up to hi, moved down by one -/
def shf (a : Nat → Int32) (d lo hi : Nat) : Nat → Int32 := fun j => if lo ≤ j ∧ j < hi then a (j + d) else a j
theorem shf_o {a : Nat → Int32} {d lo hi j : Nat} (h : j < lo ∨ hi ≤ j) : shf a d lo hi j = a j := if_neg (by omega)
theorem shf_i {a : Nat → Int32} {d lo hi j : Nat} (h : lo ≤ j) (h2 : j < hi) : shf a d lo hi j = a (j + d) := if_pos ⟨h, h2⟩
theorem shf_0 (a : Nat → Int32) (d lo : Nat) : shf a d lo lo = a := by
  funext j
  exact shf_o (by omega)
theorem shf_s {a : Nat → Int32} {d lo hi : Nat} (h : lo ≤ hi) (hd : 0 < d) : va_up (shf a d lo hi) hi (shf a d lo hi (hi + d)) = shf a d lo (hi + 1) := by
  funext j
  by_cases he : j = hi
  · subst he
    rw [up_e, shf_o (by omega), shf_i h (by omega)]
  · rw [up_n _ _ _ he]
    by_cases h2 : lo ≤ j ∧ j < hi
    · rw [shf_i h2.1 h2.2, shf_i h2.1 (by omega)]
    · rw [shf_o (by omega), shf_o (by omega)]
theorem sr_outCube (c : Ce) (m : Nat) (μ : MS) {a : Nat → Int32} {fr : List Cu} (hC : Cub a fr) {k : Nat} (hk : k < fr.length) : Ok (m_X12_outCube (wr c m (mu0 μ a)) m (nI k)) (fun q => ∃ b, q = ((), wr c m (mu0 μ b)) ∧ Cub b (fr.eraseIdx k) ∧ ∀ j, (j < 104 ∧ j ≠ 17 ∨ 5104 ≤ j) → b j = a j) := by
  obtain ⟨h1, h2, h3⟩ := hC
  unfold m_X12_outCube
  refine ok_call (P := fun o => o = ((), wr c m (mu0 μ (shf a 1 (104 + k) (104 + (fr.length - 1)))))) (ok_cnt k (fr.length - 1) (fun i s => k ≤ i ∧ s = (nI i, wr c m (mu0 μ (shf a 1 (104 + k) (104 + i))))) (by omega) (by omega) ⟨Nat.le_refl _, by rw [shf_0]⟩ ?_ ?_) ?_
  · rintro i _ hi ⟨hki, rfl⟩
    simp only [wr_g0, wr_rcv, bind_s, mu0_a, ma_of, rd_0, wt_0, rd_1, wt_1, rd_2, wt_2, rd_3, wt_3, rd_4, wt_4, rd_5, wt_5, rd_6, wt_6, rd_7, wt_7, rd_8, wt_8, rd_9, wt_9, rd_10, wt_10, rd_11, wt_11, rd_12, wt_12, rd_13, wt_13, rd_14, wt_14, rd_15, wt_15, rd_16, wt_16, rd_17, wt_17]
    rw [shf_o (by omega), h1, nl_1, pk_sub (by omega), if_le (by omega) (by omega), if_neg (by omega), nl_104, nI_add, nI_add, nI_add, wr_a0 c m _ (by omega), bind_s, wr_u0 c m _ (by omega), bind_s]
    refine ok_some ⟨by omega, ?_⟩
    rw [ma_of, mu0_a, shf_s (by omega) (by omega)]
    rfl
  · rintro _ ⟨hki, rfl⟩
    simp only [wr_g0, wr_rcv, bind_s, mu0_a, ma_of, rd_0, wt_0, rd_1, wt_1, rd_2, wt_2, rd_3, wt_3, rd_4, wt_4, rd_5, wt_5, rd_6, wt_6, rd_7, wt_7, rd_8, wt_8, rd_9, wt_9, rd_10, wt_10, rd_11, wt_11, rd_12, wt_12, rd_13, wt_13, rd_14, wt_14, rd_15, wt_15, rd_16, wt_16, rd_17, wt_17]
    rw [shf_o (by omega), h1, nl_1, pk_sub (by omega), if_le (by omega) (by omega), if_pos (by omega)]
    exact ok_some rfl
  · rintro _ rfl
    simp only [wr_g0, wr_rcv, bind_s, mu0_a, ma_of, rd_0, wt_0, rd_1, wt_1, rd_2, wt_2, rd_3, wt_3, rd_4, wt_4, rd_5, wt_5, rd_6, wt_6, rd_7, wt_7, rd_8, wt_8, rd_9, wt_9, rd_10, wt_10, rd_11, wt_11, rd_12, wt_12, rd_13, wt_13, rd_14, wt_14, rd_15, wt_15, rd_16, wt_16, rd_17, wt_17]
    refine ok_some ⟨_, rfl, ⟨?_, ?_, fun j q hq => ?_⟩, fun j hj => ?_⟩
    · rw [up_e, shf_o (by omega), h1, List.length_eraseIdx_of_lt hk, nl_1, pk_sub (by omega)]
    · rw [List.length_eraseIdx_of_lt hk]; omega
    · rw [List.getElem?_eraseIdx] at hq
      rw [up_n _ _ _ (by omega)]
      by_cases hj : j < k
      · rw [if_pos hj] at hq
        rw [shf_o (by omega)]
        exact h3 j q hq
      · rw [if_neg hj] at hq
        have hl : j + 1 < fr.length := (List.getElem?_eq_some_iff.mp hq).1
        rw [shf_i (by omega) (by omega)]
        exact h3 (j + 1) q hq
    · rw [up_n _ _ _ (by omega), shf_o (by omega)]
/-- one cube lies in another -/
def lies (m b om ob : Nat) : Bool := decide (m &&& om = om) && decide (b &&& om = ob)
theorem li_1 : ∀ m, m < 64 → ∀ o, o < 64 → (decide (nI o &&& (nI m ^^^ (-1)) = 0) = decide (m &&& o = o)) := by decide +kernel
theorem sr_liesIn {m b om ob : Nat} (hm : m < 64) (hb : b < 64) (hom : om < 64) (hob : ob < 64) : m_X12_liesIn (nI m) (nI b) (nI om) (nI ob) = some (if lies m b om ob then 1 else 0) := by
  unfold m_X12_liesIn lies
  have e := li_1 m hm om hom
  have e2 : b &&& om < 64 := Nat.and_lt_two_pow (n := 6) _ hom
  rw [nI_and, if_eq (by omega) (by omega)]
  by_cases h1 : m &&& om = om
  · rw [if_pos (by simpa [h1] using e)]
    by_cases h2 : b &&& om = ob
    · simp [h1, h2]
    · simp [h1, h2]
  · rw [if_neg (by simpa [h1] using e)]
    simp [h1]
/-- a cube is put in as the last of a frame -/
def addC (fr : List Cu) (f mask bits : Nat) : List Cu := (fr.filter fun q => !(decide (q.1 ≤ f) && lies q.2.1 q.2.2 mask bits)) ++ [(f, mask, bits)]
theorem sr_addCube (c : Ce) (m : Nat) (μ : MS) {a : Nat → Int32} {fr : List Cu} (hC : Cub a fr) (hl : fr.length < 5000) {f mask bits : Nat} (hf : f < 128) (hm : mask < 64) (hb : bits < 64) : Ok (m_X12_addCube (wr c m (mu0 μ a)) m (nI mask) (nI bits) (nI f)) (fun q => ∃ b, q = ((), wr c m (mu0 μ b)) ∧ Cub b (addC fr f mask bits) ∧ ∀ j, (j < 104 ∧ j ≠ 17 ∨ 5104 ≤ j) → b j = a j) := by
  unfold m_X12_addCube
  generalize hp : (fun (q : Cu) => !(decide (q.1 ≤ f) && lies q.2.1 q.2.2 mask bits)) = p
  refine ok_call (P := fun o => ∃ b, o = ((), wr c m (mu0 μ b)) ∧ Cub b (fr.filter p) ∧ ∀ j, (j < 104 ∧ j ≠ 17 ∨ 5104 ≤ j) → b j = a j) (ok_cnt 0 fr.length (fun j s => ∃ b, s = (nI ((fr.take j).filter p).length, wr c m (mu0 μ b)) ∧ Cub b ((fr.take j).filter p ++ fr.drop j) ∧ ∀ j, (j < 104 ∧ j ≠ 17 ∨ 5104 ≤ j) → b j = a j) (by omega) (by omega) ⟨a, rfl, by simpa using hC, fun _ _ => rfl⟩ ?_ ?_) ?_
  · rintro j _ hj ⟨b, rfl, hB, hE⟩
    have hsl : ((fr.take j).filter p).length ≤ j := Nat.le_trans (List.length_filter_le _ _) (by rw [List.length_take]; omega)
    have hlen : ((fr.take j).filter p ++ fr.drop j).length = ((fr.take j).filter p).length + (fr.length - j) := by rw [List.length_append, List.length_drop]
    have hat : ((fr.take j).filter p ++ fr.drop j)[((fr.take j).filter p).length]? = some fr[j] := by
      rw [List.getElem?_append_right (Nat.le_refl _), Nat.sub_self, List.getElem?_drop]
      exact List.getElem?_eq_getElem hj
    have htk : fr.take (j + 1) = fr.take j ++ [fr[j]] := (List.take_append_getElem hj).symm
    have hdr : fr.drop j = fr[j] :: fr.drop (j + 1) := List.drop_eq_getElem_cons hj
    obtain ⟨q1, q2, q3, q4⟩ := hB.2.2 _ _ hat
    have hB1 : b 17 = nI (((fr.take j).filter p).length + (fr.length - j)) := by rw [← hlen]; exact hB.1
    simp only [wr_g0, wr_rcv, bind_s, mu0_a, ma_of, rd_0, wt_0, rd_1, wt_1, rd_2, wt_2, rd_3, wt_3, rd_4, wt_4, rd_5, wt_5, rd_6, wt_6, rd_7, wt_7, rd_8, wt_8, rd_9, wt_9, rd_10, wt_10, rd_11, wt_11, rd_12, wt_12, rd_13, wt_13, rd_14, wt_14, rd_15, wt_15, rd_16, wt_16, rd_17, wt_17]
    rw [hB1, if_le (by omega) (by omega), if_neg (by omega), sc_frameOf c m (mu0 μ b) (by rw [mu0_a]; exact hB) hat, bind_s, if_lt (by omega) (by omega)]
    have keep : p fr[j] = true → ∃ d, ((nI ((fr.take j).filter p).length + 1, wr c m (mu0 μ b)) : Int32 × Ce) = (nI ((fr.take (j + 1)).filter p).length, wr c m (mu0 μ d)) ∧ Cub d ((fr.take (j + 1)).filter p ++ fr.drop (j + 1)) ∧ ∀ j, (j < 104 ∧ j ≠ 17 ∨ 5104 ≤ j) → d j = a j := by
      intro hk
      refine ⟨b, ?_, ?_, hE⟩
      · rw [htk, List.filter_append, List.length_append, nI_1]
        simp [hk]
      · rw [htk, List.filter_append, List.filter_cons, hk, if_pos rfl, List.filter_nil, List.append_assoc, List.singleton_append, ← hdr]
        exact hB
    by_cases hfl : f < fr[j].1
    · rw [if_pos hfl]
      have hnf : ¬ fr[j].1 ≤ f := by omega
      exact ok_some (keep (by rw [← hp]; simp [hnf]))
    · rw [if_neg hfl, sc_maskOf c m (mu0 μ b) (by rw [mu0_a]; exact hB) hat, bind_s, sc_bitsOf c m (mu0 μ b) (by rw [mu0_a]; exact hB) hat, bind_s, sr_liesIn q3 q4 hm hb, bind_s, if_b]
      cases hlb : lies fr[j].2.1 fr[j].2.2 mask bits with
      | false =>
        rw [if_neg (by decide)]
        exact ok_some (keep (by rw [← hp]; simp [hlb]))
      | true =>
        rw [if_pos rfl]
        have hk : p fr[j] = false := by
          rw [← hp]
          have : fr[j].1 ≤ f := by omega
          simp [hlb, this]
        refine ok_call (sr_outCube c m μ hB (by rw [hlen]; omega)) ?_
        rintro _ ⟨b2, rfl, hB2, hE2⟩
        refine ok_some ⟨b2, ?_, ?_, fun i hi => (hE2 i hi).trans (hE i hi)⟩
        · rw [htk, List.filter_append]
          simp [hk]
        · rw [List.eraseIdx_append_of_length_le (Nat.le_refl _), Nat.sub_self, hdr, List.eraseIdx_cons_zero] at hB2
          rw [htk, List.filter_append]
          simpa [hk] using hB2
  · rintro _ ⟨b, rfl, hB, hE⟩
    rw [List.take_length, List.drop_length, List.append_nil] at hB
    rw [List.take_length]
    have := List.length_filter_le p fr
    simp only [wr_g0, wr_rcv, bind_s, mu0_a, ma_of, rd_0, wt_0, rd_1, wt_1, rd_2, wt_2, rd_3, wt_3, rd_4, wt_4, rd_5, wt_5, rd_6, wt_6, rd_7, wt_7, rd_8, wt_8, rd_9, wt_9, rd_10, wt_10, rd_11, wt_11, rd_12, wt_12, rd_13, wt_13, rd_14, wt_14, rd_15, wt_15, rd_16, wt_16, rd_17, wt_17]
    rw [hB.1, if_le (by omega) (by omega), if_pos (Nat.le_refl _)]
    exact ok_some ⟨b, rfl, hB, hE⟩
  · rintro _ ⟨b, rfl, hB, hE⟩
    have hle := List.length_filter_le p fr
    obtain ⟨h1, h2, h3⟩ := hB
    simp only [wr_g0, wr_rcv, bind_s, mu0_a, ma_of, rd_0, wt_0, rd_1, wt_1, rd_2, wt_2, rd_3, wt_3, rd_4, wt_4, rd_5, wt_5, rd_6, wt_6, rd_7, wt_7, rd_8, wt_8, rd_9, wt_9, rd_10, wt_10, rd_11, wt_11, rd_12, wt_12, rd_13, wt_13, rd_14, wt_14, rd_15, wt_15, rd_16, wt_16, rd_17, wt_17]
    rw [h1, nl_104, nI_add, cb_mk hf hm hb, wr_u0 c m _ (by omega), bind_s, ma_of]
    simp only [wr_g0, wr_rcv, bind_s, mu0_a, ma_of, rd_0, wt_0, rd_1, wt_1, rd_2, wt_2, rd_3, wt_3, rd_4, wt_4, rd_5, wt_5, rd_6, wt_6, rd_7, wt_7, rd_8, wt_8, rd_9, wt_9, rd_10, wt_10, rd_11, wt_11, rd_12, wt_12, rd_13, wt_13, rd_14, wt_14, rd_15, wt_15, rd_16, wt_16, rd_17, wt_17]
    refine ok_some ⟨_, rfl, ⟨?_, ?_, fun j q hq => ?_⟩, fun j hj => ?_⟩
    · rw [up_e, up_n _ _ _ (by omega), h1, nI_1]
      unfold addC
      rw [hp, List.length_append]
      rfl
    · unfold addC
      rw [hp, List.length_append]
      show _ + 1 ≤ 5000
      omega
    · unfold addC at hq
      rw [hp] at hq
      rw [up_n _ _ _ (by omega)]
      by_cases hj : j < (fr.filter p).length
      · rw [List.getElem?_append_left hj] at hq
        rw [up_n _ _ _ (by omega)]
        exact h3 j q hq
      · have hlt := (List.getElem?_eq_some_iff.mp hq).1
        rw [List.length_append] at hlt
        have hj2 : j = (fr.filter p).length := by
          have : [(f, mask, bits)].length = 1 := rfl
          omega
        subst hj2
        rw [List.getElem?_append_right (Nat.le_refl _), Nat.sub_self] at hq
        have : q = (f, mask, bits) := by simpa using hq.symm
        subst this
        rw [up_e]
        exact ⟨rfl, hf, hm, hb⟩
    · rw [up_n _ _ _ (by omega), up_n _ _ _ (by omega)]
      exact hE j hj
/-- how many cubes a frame has -/
def manyF (fr : List Cu) (f : Nat) : Nat := fr.countP fun q => decide (q.1 = f)
theorem sr_manyOf (c : Ce) (m : Nat) (μ : MS) {fr : List Cu} (hC : Cub (μ.1 0) fr) {f : Nat} (hf : f < 2 ^ 31) : m_X12_manyOf (wr c m μ) m (nI f) = some (nI (manyF fr f)) := by
  refine ok_eq ?_
  unfold m_X12_manyOf
  have hlen := hC.2.1
  refine ok_call (P := fun o => o = nI (manyF fr f)) (ok_cnt 0 fr.length (fun j s => s = (nI ((fr.take j).countP fun q => decide (q.1 = f)), nI j)) (by omega) (by omega) rfl ?_ ?_) (fun a h => ok_some h)
  · rintro j _ hj rfl
    have hat : fr[j]? = some fr[j] := List.getElem?_eq_getElem hj
    obtain ⟨h1, h2, h3, h4⟩ := hC.2.2 j _ hat
    have htk : fr.take (j + 1) = fr.take j ++ [fr[j]] := (List.take_append_getElem hj).symm
    simp only [wr_g0, wr_rcv, bind_s, mu0_a, ma_of, rd_0, wt_0, rd_1, wt_1, rd_2, wt_2, rd_3, wt_3, rd_4, wt_4, rd_5, wt_5, rd_6, wt_6, rd_7, wt_7, rd_8, wt_8, rd_9, wt_9, rd_10, wt_10, rd_11, wt_11, rd_12, wt_12, rd_13, wt_13, rd_14, wt_14, rd_15, wt_15, rd_16, wt_16, rd_17, wt_17]
    rw [hC.1, if_le (by omega) (by omega), if_neg (by omega), sc_frameOf c m μ hC hat, bind_s, if_eq (by omega) hf, htk, List.countP_append]
    by_cases hq : fr[j].1 = f
    · rw [if_pos hq]
      refine ok_some ?_
      show (_, nI j + 1) = (_, nI (j + 1))
      rw [nI_1, nI_1]
      simp [hq]
    · rw [if_neg hq]
      refine ok_some ?_
      show (_ + (0 : Int32), nI j + 1) = (_, nI (j + 1))
      rw [nI_1, nl_0, nI_add]
      simp [hq]
  · rintro _ rfl
    simp only [wr_g0, wr_rcv, bind_s, mu0_a, ma_of, rd_0, wt_0, rd_1, wt_1, rd_2, wt_2, rd_3, wt_3, rd_4, wt_4, rd_5, wt_5, rd_6, wt_6, rd_7, wt_7, rd_8, wt_8, rd_9, wt_9, rd_10, wt_10, rd_11, wt_11, rd_12, wt_12, rd_13, wt_13, rd_14, wt_14, rd_15, wt_15, rd_16, wt_16, rd_17, wt_17]
    rw [hC.1, if_le (by omega) (by omega), if_pos (Nat.le_refl _), List.take_length]
    exact ok_some rfl
/-- the i-th cube of a frame -/
def nthF (fr : List Cu) (f i : Nat) : Option Cu := (fr.filter fun q => decide (q.1 = f))[i]?
