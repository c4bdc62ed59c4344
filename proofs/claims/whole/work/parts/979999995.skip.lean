/-! TOKENS: the reference passes blanks -/
theorem skp_mid {f : Nat → Nat} {n : Nat} : ∀ t k j, k ≤ j → j < skp f n t k → j < n ∧ blk (f j) = true := by
  intro t
  induction t with
  | zero =>
    intro k j h1 h2
    rw [skp] at h2
    omega
  | succ t ih =>
    intro k j h1 h2
    rw [skp] at h2
    by_cases hb : k < n ∧ blk (f k) = true
    · rw [if_pos hb] at h2
      by_cases e : j = k
      · rw [e]
        exact hb
      · exact ih (k + 1) j (by omega) h2
    · rw [if_neg hb] at h2
      omega
def skB (m : Nat) (d : Ce) : Option ((Unit × Ce) ⊕ (Unit × Ce)) :=
    (gI d 9 10 m).bind fun zx50 =>
    (rcv d 9 m).bind fun zz51 =>
    (m_X12_byteAt d m zx50).bind fun zx52 =>
    (
      if zx52 = (32 : Int32) then
        some (Sum.inr ())
      else
        (gI d 9 10 m).bind fun zx56 =>
        (rcv d 9 m).bind fun zz57 =>
        (m_X12_byteAt d m zx56).bind fun zx58 =>
        if zx58 = (10 : Int32) then
          some (Sum.inr ())
        else
          some (Sum.inl (Sum.inr ((), d)))
    ).bind fun (zj53 : ((Unit × Ce) ⊕ (Unit × Ce)) ⊕ Unit) => Sum.elim (fun wzj53 => some wzj53) (fun vzj53 =>
      (gI d 9 10 m).bind fun zx54 =>
      (pV d 9 10 m (.int (zx54 + (1 : Int32)))).bind fun zc55 =>
      some (Sum.inl ((), zc55))
    ) zj53
theorem sr_skip (c : Ce) (m : Nat) {μ : MS} {n k : Nat} {f : Nat → Nat} (hz : μ.2.2.2 0 = nI n) (hn : n ≤ 300) (hk : μ.2.2.2 3 = nI k) (hkn : k ≤ n) (hf : ∀ j, j < n → μ.1 6 j = nI (f j) ∧ f j < 256) : Ok (it (fun (zs1 : Unit × Ce) =>
    (gI zs1.2 9 10 m).bind fun zx50 =>
    (rcv zs1.2 9 m).bind fun zz51 =>
    (m_X12_byteAt zs1.2 m zx50).bind fun zx52 =>
    (
      if zx52 = (32 : Int32) then
        some (Sum.inr ())
      else
        (gI zs1.2 9 10 m).bind fun zx56 =>
        (rcv zs1.2 9 m).bind fun zz57 =>
        (m_X12_byteAt zs1.2 m zx56).bind fun zx58 =>
        if zx58 = (10 : Int32) then
          some (Sum.inr ())
        else
          some (Sum.inl (Sum.inr ((), zs1.2)))
    ).bind fun (zj53 : ((Unit × Ce) ⊕ (Unit × Ce)) ⊕ Unit) => Sum.elim (fun wzj53 => some wzj53) (fun vzj53 =>
      (gI zs1.2 9 10 m).bind fun zx54 =>
      (pV zs1.2 9 10 m (.int (zx54 + (1 : Int32)))).bind fun zc55 =>
      some (Sum.inl ((), zc55))
    ) zj53
  ) FU ((), wr c m μ)) (fun o => o = ((), wr c m (muN μ 3 (nI (skp f n (n - k) k))))) := by
  obtain ⟨s1, s2⟩ := skp_in (f := f) (n := n) (n - k) k hkn
  have s3 := skp_end (f := f) (n - k) k (Nat.le_refl _) hkn
  have s4 := skp_mid (f := f) (n := n) (n - k) k
  generalize skp f n (n - k) k = e at s1 s2 s3 s4
  have h0 : muN μ 3 (nI k) = μ := by
    unfold muN
    rw [← hk]
    have : va_up μ.2.2.2 3 (μ.2.2.2 3) = μ.2.2.2 := by
      funext j
      by_cases e : j = 3
      · rw [e, up_e]
      · rw [up_n _ _ _ e]
    rw [this]
  have hat : ∀ v, (muN μ 3 v).2.2.2 3 = v := fun v => by
    show va_up μ.2.2.2 3 v 3 = v
    exact up_e _ _ _
  have hsz : ∀ v, (muN μ 3 v).2.2.2 0 = nI n := fun v => (up_n μ.2.2.2 3 v (show 0 ≠ 3 by decide)).trans hz
  have hby : ∀ j, j ≤ n → m_X12_byteAt (wr c m (muN μ 3 (nI j))) m (nI j) = some (if j < n then nI (f j) else -1) := fun j hj => by
    rw [sr_byteAt c m (hsz _) hn (by omega)]
    by_cases h : j < n
    · rw [if_pos h, if_pos h]
      exact congrArg some (hf j h).1
    · rw [if_neg h, if_neg h]
  refine ok_cnt 0 (e - k) (fun i s => s.2 = wr c m (muN μ 3 (nI (k + i)))) (by omega) (by omega) (by show wr c m μ = wr c m (muN μ 3 (nI k)); rw [h0]) ?_ ?_
  · rintro i ⟨u, d⟩ hi hd
    have hd : d = wr c m (muN μ 3 (nI (k + i))) := hd
    subst hd
    obtain ⟨b1, b2⟩ := s4 (k + i) (by omega) (by omega)
    obtain ⟨c1, c2⟩ := nI_32 (hf (k + i) b1).2
    show Ok (skB m (wr c m (muN μ 3 (nI (k + i))))) _
    unfold skB
    rw [wr_g10, bind_s, hat, wr_rcv, bind_s, hby _ (by omega), bind_s, if_pos b1]
    by_cases h32 : f (k + i) = 32
    · rw [if_pos (c1.mpr h32), bind_s]
      rw [Sum.elim_inr, bind_s, nI_1, wr_s10, bind_s]
      refine ok_some ?_
      show wr c m _ = wr c m (muN μ 3 (nI (k + (i + 1))))
      refine congrArg (wr c m) ?_
      show (μ.1, μ.2.1, μ.2.2.1, va_up (va_up μ.2.2.2 3 (nI (k + i))) 3 (nI (k + i + 1))) = (μ.1, μ.2.1, μ.2.2.1, va_up μ.2.2.2 3 (nI (k + (i + 1))))
      have : va_up (va_up μ.2.2.2 3 (nI (k + i))) 3 (nI (k + i + 1)) = va_up μ.2.2.2 3 (nI (k + (i + 1))) := by
        funext j
        by_cases e : j = 3
        · rw [e, up_e, up_e]
          rfl
        · rw [up_n _ _ _ e, up_n _ _ _ e, up_n _ _ _ e]
      rw [this]
    · have h10 : f (k + i) = 10 := by
        unfold blk at b2
        simp [h32] at b2
        exact b2
      rw [if_neg (fun z => h32 (c1.mp z)), bind_s, bind_s, hby _ (by omega), bind_s, if_pos b1, if_pos (c2.mpr h10), bind_s]
      rw [Sum.elim_inr, bind_s, nI_1, wr_s10, bind_s]
      refine ok_some ?_
      show wr c m _ = wr c m (muN μ 3 (nI (k + (i + 1))))
      refine congrArg (wr c m) ?_
      show (μ.1, μ.2.1, μ.2.2.1, va_up (va_up μ.2.2.2 3 (nI (k + i))) 3 (nI (k + i + 1))) = (μ.1, μ.2.1, μ.2.2.1, va_up μ.2.2.2 3 (nI (k + (i + 1))))
      have : va_up (va_up μ.2.2.2 3 (nI (k + i))) 3 (nI (k + i + 1)) = va_up μ.2.2.2 3 (nI (k + (i + 1))) := by
        funext j
        by_cases e : j = 3
        · rw [e, up_e, up_e]
          rfl
        · rw [up_n _ _ _ e, up_n _ _ _ e, up_n _ _ _ e]
      rw [this]
  · rintro ⟨u, d⟩ hd
    have hd : d = wr c m (muN μ 3 (nI (k + (e - k)))) := hd
    rw [show k + (e - k) = e by omega] at hd
    subst hd
    have hv : ∀ v : Int32, (if e < n then nI (f e) else -1) = v → (v = 32 ∨ v = 10) → False := fun v h1 h2 => by
      by_cases h : e < n
      · rw [if_pos h] at h1
        obtain ⟨c1, c2⟩ := nI_32 (hf e h).2
        refine s3 ⟨h, ?_⟩
        unfold blk
        rcases h2 with h2 | h2
        · simp [c1.mp (h1.trans h2)]
        · simp [c2.mp (h1.trans h2)]
      · rw [if_neg h] at h1
        subst h1
        rcases h2 with h2 | h2
        · exact absurd h2 (by decide)
        · exact absurd h2 (by decide)
    show Ok (skB m (wr c m (muN μ 3 (nI e)))) _
    unfold skB
    rw [wr_g10, bind_s, hat, wr_rcv, bind_s, hby _ s2, bind_s, if_neg (fun z => hv _ z (Or.inl rfl)), bind_s, bind_s, hby _ s2, bind_s, if_neg (fun z => hv _ z (Or.inr rfl)), bind_s, Sum.elim_inl]
    exact ok_some rfl
