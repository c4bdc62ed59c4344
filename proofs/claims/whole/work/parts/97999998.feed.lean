/-! FEED: bytes on both tapes -/
def sg (b : Nat) : Int32 := if b < 128 then nI b else nI b - nI 256
def byA (p : Int32) (sh : Nat) : Nat := p.toBitVec.toNat / 2 ^ sh % 256
theorem byA_lt (p : Int32) (sh : Nat) : byA p sh < 256 := Nat.mod_lt _ (by omega)
theorem sg_all : ∀ b, b < 256 → Int8.toInt32 (Int8.ofNat b) = sg b := by decide +kernel
theorem us_all : ∀ k, k < 32 → (((nI k).toUInt32 &&& Int32.toUInt32 31).toBitVec % 32).toNat = k := by decide +kernel
theorem by_m (p : Int32) {sh : Nat} (h : sh ≤ 24) : (p >>> (nI sh &&& 31)) &&& 255 = nI (byA p sh) := by
  rw [pk_and _ 8 (by decide)]
  refine congrArg nI (Nat.eq_of_testBit_eq fun i => ?_)
  unfold byA
  rw [show (256 : Nat) = 2 ^ 8 from rfl, Nat.testBit_mod_two_pow, Nat.testBit_mod_two_pow, Nat.testBit_div_two_pow, Int32.toBitVec_shiftRight]
  by_cases hi : i < 8
  · have e : (p.toBitVec.sshiftRight ((nI sh &&& 31).toBitVec.smod 32).toNat).toNat.testBit i = p.toBitVec.toNat.testBit (i + sh) := by
      rw [sm_l sh (by omega)]
      show (p.toBitVec.sshiftRight sh).getLsbD i = p.toBitVec.getLsbD (i + sh)
      rw [BitVec.getLsbD_sshiftRight]
      simp [show ¬ 32 ≤ i by omega, show sh + i < 32 by omega, Nat.add_comm]
    exact congrArg (fun z => decide (i < 8) && z) e
  · simp [hi]
theorem by_c (p : Int32) {sh : Nat} (h : sh ≤ 24) : Int8.toInt32 (Int32.toInt8 (usr32 p (nI sh))) = sg (byA p sh) := by
  have e1 : (usr32 p (nI sh)).toBitVec.toNat = p.toBitVec.toNat / 2 ^ sh := pk_ushr p (nI sh) sh (us_all sh (by omega))
  have e2 : Int32.toInt8 (usr32 p (nI sh)) = Int8.ofNat (byA p sh) := by
    refine Int8.toBitVec_inj.mp ?_
    refine BitVec.eq_of_toNat_eq ?_
    rw [Int32.toBitVec_toInt8, BitVec.signExtend_eq_setWidth_of_le _ (by omega), BitVec.toNat_setWidth, e1]
    show _ = (BitVec.ofNat 8 (byA p sh)).toNat
    rw [BitVec.toNat_ofNat]
    unfold byA
    rw [show (2 : Nat) ^ 8 = 256 from rfl, Nat.mod_mod]
  rw [e2, sg_all _ (byA_lt p sh)]
def Tap (F a : Nat → Int32) (n : Nat) : Prop := ∀ k, k < n → ∃ b, b < 256 ∧ F k = sg b ∧ a k = nI b
def eS (i : Nat) : Int32 := (24 : Int32) - nI (8 * i)
theorem eS_in : ∀ i, i < 4 → eS i = nI (24 - 8 * i) ∧ eS i + (-8 : Int32) = eS (i + 1) ∧ ¬ eS i < 0 := by decide +kernel
theorem eS_4 : eS 4 < 0 := by decide
theorem sB_c {c : Ce} {a n k : Nat} {f : Nat → Int32} {v : Int32} (h : c a = some (.inl (.byte, n, .inl f))) (hk : k < n) (hn : n < 2 ^ 31) : sB c a (nI k) v = some (gx_up c a (.inl (.byte, n, .inl (va_up f k (vp_nar .byte v))))) := by
  unfold sB
  rw [h]
  show (if nI k < 0 ∨ n ≤ (nI k).toNatClampNeg then none else _) = _
  rw [if_neg (nI_in hk hn), nI_clamp (by omega)]
theorem wr_u6 (c : Ce) (m : Nat) (μ : MS) {k : Nat} (hk : k < 300) (v : Int32) : sI (wr c m μ) (m + 7) (nI k) v = some (wr c m (muI μ 6 (va_up (μ.1 6) k v))) := by
  rw [wr_s6, if_neg (nI_in hk (by omega)), nI_clamp (by omega)]
  rfl
theorem wr_n7 (c : Ce) (m : Nat) (μ : MS) (v : Int32) : pV (wr c m μ) 9 7 m (.int v) = some (wr c m (muN μ 0 v)) := wr_s7 c m μ v
theorem nar_sg : ∀ b, b < 256 → vp_nar .byte (sg b) = sg b := by decide +kernel
/-- four bytes more: the class -/
theorem c_four {ce : Ce} {x tape rd w k tr sp ch pt fr n : Nat} {any lf lp : Int32} {F : Nat → Int32} (hx : ce x = some (.inr (8, fsX tape (nI n) any lf lp rd w k tr sp ch pt fr))) (ht : ce tape = some (.inl (.byte, 300, .inl F))) (hd : x ≠ tape) (hn : n + 4 ≤ 300) (p : Int32) : ∃ d F2, m_X11_putBytes ce x p = some ((), d) ∧ d x = some (.inr (8, fsX tape (nI (n + 4)) any lf lp rd w k tr sp ch pt fr)) ∧ d tape = some (.inl (.byte, 300, .inl F2)) ∧ (∀ b, b ≠ x → b ≠ tape → d b = ce b) ∧ (∀ j, j < n → F2 j = F j) ∧ ∀ i, i < 4 → F2 (n + i) = sg (byA p (24 - 8 * i)) := by
  have key : Ok (m_X11_putBytes ce x p) (fun o => ∃ d F2, o = ((), d) ∧ d x = some (.inr (8, fsX tape (nI (n + 4)) any lf lp rd w k tr sp ch pt fr)) ∧ d tape = some (.inl (.byte, 300, .inl F2)) ∧ (∀ b, b ≠ x → b ≠ tape → d b = ce b) ∧ (∀ j, j < n → F2 j = F j) ∧ ∀ i, i < 4 → F2 (n + i) = sg (byA p (24 - 8 * i))) := by
    unfold m_X11_putBytes
    refine ok_call (P := fun o => ∃ F2, o.2 x = some (.inr (8, fsX tape (nI (n + 4)) any lf lp rd w k tr sp ch pt fr)) ∧ o.2 tape = some (.inl (.byte, 300, .inl F2)) ∧ (∀ b, b ≠ x → b ≠ tape → o.2 b = ce b) ∧ (∀ j, j < n → F2 j = F j) ∧ ∀ i, i < 4 → F2 (n + i) = sg (byA p (24 - 8 * i))) (ok_cnt 0 4 (fun i st => st.1 = eS i ∧ ∃ F2, st.2 x = some (.inr (8, fsX tape (nI (n + i)) any lf lp rd w k tr sp ch pt fr)) ∧ st.2 tape = some (.inl (.byte, 300, .inl F2)) ∧ (∀ b, b ≠ x → b ≠ tape → st.2 b = ce b) ∧ (∀ j, j < n → F2 j = F j) ∧ ∀ j, j < i → F2 (n + j) = sg (byA p (24 - 8 * j))) (by omega) (by omega) ⟨rfl, F, hx, ht, fun _ _ _ => rfl, fun _ _ => rfl, fun _ h => by omega⟩ ?_ ?_) (fun o h => ?_)
    · rintro i ⟨u, d⟩ hi ⟨hu, F2, q1, q2, q3, q4, q5⟩
      have hu : u = eS i := hu
      subst hu
      have q1 : d x = some (.inr (8, fsX tape (nI (n + i)) any lf lp rd w k tr sp ch pt fr)) := q1
      have q2 : d tape = some (.inl (.byte, 300, .inl F2)) := q2
      have q3 : ∀ b, b ≠ x → b ≠ tape → d b = ce b := q3
      obtain ⟨e1, e2, e3⟩ := eS_in i hi
      have hbl := byA_lt p (24 - 8 * i)
      have h300 : ¬ (300 : Int32) ≤ nI (n + i) := fun z => by
        have := (nI_leI (a := 300) (by omega) (by omega)).mp z
        omega
      have hv : Int8.toInt32 (Int32.toInt8 (usr32 p (eS i))) = sg (byA p (24 - 8 * i)) := by
        rw [e1]
        exact by_c p (by omega)
      show Ok (if eS i < 0 then _ else (gI d 8 1 x).bind fun zx4 => if (300 : Int32) ≤ zx4 then _ else (gA d 8 0 x).bind fun zx5 => (gI d 8 1 x).bind fun zx6 => (sB d zx5 zx6 (Int8.toInt32 (Int32.toInt8 (usr32 p (eS i))))).bind fun zc7 => (gI zc7 8 1 x).bind fun zx8 => (pV zc7 8 1 x (.int (zx8 + (1 : Int32)))).bind fun zc9 => some (Sum.inl ((eS i + (-8 : Int32)), zc9))) _
      rw [if_neg e3, gI_c (k := 1) (x := nI (n + i)) q1 rfl, bind_s, if_neg h300, gA_c (k := 0) (x := tape) q1 rfl, bind_s, bind_s, hv, sB_c q2 (by omega) (by omega), bind_s, nar_sg _ hbl]
      have r1 : gx_up d tape (.inl (.byte, 300, .inl (va_up F2 (n + i) (sg (byA p (24 - 8 * i)))))) x = some (.inr (8, fsX tape (nI (n + i)) any lf lp rd w k tr sp ch pt fr)) := by
        rw [gu_n _ _ hd]
        exact q1
      rw [gI_c (k := 1) (x := nI (n + i)) r1 rfl, bind_s, pV_c r1 (show 1 < 13 by omega), bind_s, nI_1, e2]
      refine ok_some ⟨rfl, va_up F2 (n + i) (sg (byA p (24 - 8 * i))), gu_e _ _ _, ?_, fun b b1 b2 => ?_, fun j hj => ?_, fun j hj => ?_⟩
      · show gx_up _ x _ tape = _
        rw [gu_n _ _ (Ne.symm hd)]
        exact gu_e _ _ _
      · show gx_up _ x _ b = _
        rw [gu_n _ _ b1, gu_n _ _ b2]
        exact q3 b b1 b2
      · rw [up_n _ _ _ (by omega)]
        exact q4 j hj
      · by_cases e : j = i
        · rw [e, up_e]
        · rw [up_n _ _ _ (by omega)]
          exact q5 j (by omega)
    · rintro ⟨u, d⟩ ⟨hu, F2, q⟩
      have hu : u = eS 4 := hu
      subst hu
      show Ok (if eS 4 < 0 then _ else _) _
      rw [if_pos eS_4]
      exact ok_some ⟨F2, q⟩
    · obtain ⟨F2, q⟩ := h
      exact ok_some ⟨_, F2, rfl, q⟩
  obtain ⟨_, hv, d, F2, rfl, q⟩ := key
  exact ⟨d, F2, hv, q⟩
