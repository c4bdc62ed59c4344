/-! TOKENS of the class: taken one by one -/
def rdX (ka va pa : Nat) (cnt now flt fp L ini : Int32) (i0 : Int64) (nb : Int32) (al : Nat) (nt : Int32) (nl : Nat) (inp : Int32) : List Value := [.ref ka, .ref va, .ref pa, .int cnt, .int now, .int flt, .int fp, .int L, .int ini, .long i0, .int nb, .ref al, .int nt, .ref nl, .int inp]
def Dis (rd ka va pa : Nat) : Prop := rd ≠ ka ∧ rd ≠ va ∧ rd ≠ pa ∧ ka ≠ va ∧ ka ≠ pa ∧ va ≠ pa
def Fra (rd ka va pa : Nat) (ce d : Ce) : Prop := ∀ b, b ≠ rd → b ≠ ka → b ≠ va → b ≠ pa → d b = ce b
theorem Fra_refl (rd ka va pa : Nat) (ce : Ce) : Fra rd ka va pa ce ce := fun _ _ _ _ _ => rfl
theorem Fra_trans {rd ka va pa : Nat} {ce d e : Ce} (h : Fra rd ka va pa ce d) (g : Fra rd ka va pa d e) : Fra rd ka va pa ce e := fun b h1 h2 h3 h4 => (g b h1 h2 h3 h4).trans (h b h1 h2 h3 h4)
/-- j tokens lie there -/
def TkA (ce : Ce) (ka va pa : Nat) (f : Nat → Nat) (n j : Nat) : Prop := ∃ Fk Fv Fp : Nat → Int32, ce ka = some (.inl (.int, 301, .inl Fk)) ∧ ce va = some (.inl (.int, 301, .inl Fv)) ∧ ce pa = some (.inl (.int, 301, .inl Fp)) ∧ ∀ i, i < j → Fk i = nI (tK f n i) ∧ Fp i = nI (tP f n i) ∧ (tK f n i = 2 ∨ tK f n i = 3 ∨ tK f n i = 4 ∨ tK f n i = 5 → Fv i = nI (tV f n i))
theorem cr_add {ce : Ce} {rd ka va pa j n : Nat} {now flt fp L ini : Int32} {i0 : Int64} {nb : Int32} {al : Nat} {nt : Int32} {nl : Nat} {inp : Int32} {f : Nat → Nat} (hD : Dis rd ka va pa) (hc : ce rd = some (.inr (5, rdX ka va pa (nI j) now flt fp L ini i0 nb al nt nl inp))) (hA : TkA ce ka va pa f n j) (hj : j < 301) {k v p : Int32} (hk : k = nI (tK f n j)) (hp : p = nI (tP f n j)) (hv : tK f n j = 2 ∨ tK f n j = 3 ∨ tK f n j = 4 ∨ tK f n j = 5 → v = nI (tV f n j)) : ∃ d, m_X7_addToken ce rd k v p = some ((), d) ∧ d rd = some (.inr (5, rdX ka va pa (nI (j + 1)) now flt fp L ini i0 nb al nt nl inp)) ∧ TkA d ka va pa f n (j + 1) ∧ Fra rd ka va pa ce d := by
  obtain ⟨d1, d2, d3, d4, d5, d6⟩ := hD
  obtain ⟨Fk, Fv, Fp, a1, a2, a3, a4⟩ := hA
  unfold m_X7_addToken
  rw [gI_c (k := 3) (x := nI j) hc rfl, bind_s, gA_c (k := 0) (x := ka) hc rfl, bind_s, alen_I a1, bind_s, if_le (by omega) (by omega), if_neg (by omega), bind_s, bind_s, sI_c a1 hj (by omega), bind_s]
  have c1 : gx_up ce ka (.inl (.int, 301, .inl (va_up Fk j k))) rd = some (.inr (5, rdX ka va pa (nI j) now flt fp L ini i0 nb al nt nl inp)) := by rw [gu_n _ _ d1]; exact hc
  have b1 : gx_up ce ka (.inl (.int, 301, .inl (va_up Fk j k))) va = some (.inl (.int, 301, .inl Fv)) := by rw [gu_n _ _ (Ne.symm d4)]; exact a2
  have e1 : gx_up ce ka (.inl (.int, 301, .inl (va_up Fk j k))) pa = some (.inl (.int, 301, .inl Fp)) := by rw [gu_n _ _ (Ne.symm d5)]; exact a3
  have k1 : gx_up ce ka (.inl (.int, 301, .inl (va_up Fk j k))) ka = some (.inl (.int, 301, .inl (va_up Fk j k))) := gu_e _ _ _
  have f1 : ∀ b, b ≠ ka → gx_up ce ka (.inl (.int, 301, .inl (va_up Fk j k))) b = ce b := fun b hb => gu_n _ _ hb
  generalize gx_up ce ka (.inl (.int, 301, .inl (va_up Fk j k))) = ce1 at c1 b1 e1 k1 f1 ⊢
  rw [gA_c (k := 1) (x := va) c1 rfl, bind_s, gI_c (k := 3) (x := nI j) c1 rfl, bind_s, sI_c b1 hj (by omega), bind_s]
  have c2 : gx_up ce1 va (.inl (.int, 301, .inl (va_up Fv j v))) rd = some (.inr (5, rdX ka va pa (nI j) now flt fp L ini i0 nb al nt nl inp)) := by rw [gu_n _ _ d2]; exact c1
  have e2 : gx_up ce1 va (.inl (.int, 301, .inl (va_up Fv j v))) pa = some (.inl (.int, 301, .inl Fp)) := by rw [gu_n _ _ (Ne.symm d6)]; exact e1
  have k2 : gx_up ce1 va (.inl (.int, 301, .inl (va_up Fv j v))) ka = some (.inl (.int, 301, .inl (va_up Fk j k))) := by rw [gu_n _ _ d4]; exact k1
  have v2 : gx_up ce1 va (.inl (.int, 301, .inl (va_up Fv j v))) va = some (.inl (.int, 301, .inl (va_up Fv j v))) := gu_e _ _ _
  have f2 : ∀ b, b ≠ ka → b ≠ va → gx_up ce1 va (.inl (.int, 301, .inl (va_up Fv j v))) b = ce b := fun b h1 h2 => (gu_n _ _ h2).trans (f1 b h1)
  generalize gx_up ce1 va (.inl (.int, 301, .inl (va_up Fv j v))) = ce2 at c2 e2 k2 v2 f2 ⊢
  rw [gA_c (k := 2) (x := pa) c2 rfl, bind_s, gI_c (k := 3) (x := nI j) c2 rfl, bind_s, sI_c e2 hj (by omega), bind_s]
  have c3 : gx_up ce2 pa (.inl (.int, 301, .inl (va_up Fp j p))) rd = some (.inr (5, rdX ka va pa (nI j) now flt fp L ini i0 nb al nt nl inp)) := by rw [gu_n _ _ d3]; exact c2
  have k3 : gx_up ce2 pa (.inl (.int, 301, .inl (va_up Fp j p))) ka = some (.inl (.int, 301, .inl (va_up Fk j k))) := by rw [gu_n _ _ d5]; exact k2
  have v3 : gx_up ce2 pa (.inl (.int, 301, .inl (va_up Fp j p))) va = some (.inl (.int, 301, .inl (va_up Fv j v))) := by rw [gu_n _ _ d6]; exact v2
  have p3 : gx_up ce2 pa (.inl (.int, 301, .inl (va_up Fp j p))) pa = some (.inl (.int, 301, .inl (va_up Fp j p))) := gu_e _ _ _
  have f3 : ∀ b, b ≠ ka → b ≠ va → b ≠ pa → gx_up ce2 pa (.inl (.int, 301, .inl (va_up Fp j p))) b = ce b := fun b h1 h2 h3 => (gu_n _ _ h3).trans (f2 b h1 h2)
  generalize gx_up ce2 pa (.inl (.int, 301, .inl (va_up Fp j p))) = ce3 at c3 k3 v3 p3 f3 ⊢
  rw [gI_c (k := 3) (x := nI j) c3 rfl, bind_s, nI_1, pV_c c3 (Nat.le_of_ble_eq_true rfl), bind_s]
  refine ⟨_, rfl, gu_e _ _ _, ⟨_, _, _, (gu_n _ _ (Ne.symm d1)).trans k3, (gu_n _ _ (Ne.symm d2)).trans v3, (gu_n _ _ (Ne.symm d3)).trans p3, fun i hi => ?_⟩, fun b h1 h2 h3 h4 => (gu_n _ _ h1).trans (f3 b h2 h3 h4)⟩
  by_cases e : i = j
  · subst e
    rw [up_e, up_e, up_e]
    exact ⟨hk, hp, hv⟩
  · rw [up_n _ _ _ e, up_n _ _ _ e, up_n _ _ _ e]
    exact a4 i (by omega)
theorem cr_min {a b : Nat} (ha : a < 2 ^ 31) (hb : b < 2 ^ 31) : m_J9_min_7cf53 (nI a) (nI b) = some (nI (min a b)) := by
  by_cases h : b < a
  · rw [cc_min2 ha hb h, show min a b = b by omega]
  · unfold m_J9_min_7cf53
    rw [if_lt hb ha, if_neg h, show min a b = a by omega]
theorem sg_lt {b : Nat} (h : b < 128) : sg b = nI b := by
  unfold sg
  rw [if_pos h]
theorem tkq_b {f : Nat → Nat} {n a : Nat} (h : a < n) (hb : blk (f a) = true) : tkq f n a = tkq f n (a + 1) := by
  unfold tkq
  obtain ⟨t, ht⟩ : ∃ t, n - a = t + 1 := ⟨n - a - 1, by omega⟩
  rw [ht, skp, if_pos ⟨h, hb⟩, show n - (a + 1) = t by omega]
theorem tkq_n {f : Nat → Nat} {n a : Nat} (h : ¬ (a < n ∧ blk (f a) = true)) : tkq f n a = a := by
  unfold tkq
  cases n - a with
  | zero => rfl
  | succ t => rw [skp, if_neg h]
theorem cr_number {ce : Ce} {rd ka va pa tp j n a : Nat} {now flt fp L ini : Int32} {i0 : Int64} {nb : Int32} {al : Nat} {nt : Int32} {nl : Nat} {inp : Int32} {f : Nat → Nat} (hD : Dis rd ka va pa) (hc : ce rd = some (.inr (5, rdX ka va pa (nI j) now flt fp L ini i0 nb al nt nl inp))) (hA : TkA ce ka va pa f n j) (hj : j < 301) (hT : Tpc ce tp n f) (ha : a < n) (hq : tkq f n (ps f n j) = a) (hF : isF (f a) = true) : ∃ d, m_X7_takeNumber ce rd tp (nI a) (nI n) = some (nI (ps f n (j + 1)), d) ∧ d rd = some (.inr (5, rdX ka va pa (nI (j + 1)) now flt fp L ini i0 nb al nt nl inp)) ∧ TkA d ka va pa f n (j + 1) ∧ Fra rd ka va pa ce d := by
  have hn := hT.1
  obtain ⟨s1, s2⟩ := rn_in (p := isF) (f := f) (n := n) (n - a) a (by omega)
  have s3 := rn_end (p := isF) (f := f) (n - a) a (Nat.le_refl _) (by omega)
  have s4 := rn_mid (p := isF) (f := f) (n := n) (n - a) a
  have eE : ps f n (j + 1) = rn isF f n (n - a) a := by
    rw [ps, hq]
    unfold tkE
    rw [if_pos ha, if_pos hF]
  have eK : tK f n j = 4 := by
    unfold tK tkK
    rw [hq, if_pos ha, if_pos hF]
  have eV : tV f n j = min 1000 (vR f a (rn isF f n (n - a) a - a)) := by
    unfold tV tkV
    rw [hq, if_pos hF]
  rw [eE]
  generalize rn isF f n (n - a) a = e at s1 s2 s3 s4 eV
  obtain ⟨d, g1, g2⟩ := cr_add hD hc hA hj (k := 4) (v := nI (min 1000 (vR f a (e - a)))) (p := nI a) (by rw [eK]; rfl) (by unfold tP; rw [hq]) (fun _ => by rw [eV])
  have key : Ok (m_X7_takeNumber ce rd tp (nI a) (nI n)) (fun o => o = (nI e, d)) := by
    unfold m_X7_takeNumber
    refine ok_call (P := fun o => o = (nI (min 1000 (vR f a (e - a))), nI e)) (ok_cnt 0 (e - a) (fun i st => st = (nI (min 1000 (vR f a i)), nI (a + i))) (by omega) (by omega) rfl ?_ ?_) (fun o ho => ?_)
    · rintro i st hi rfl
      obtain ⟨b1, b2⟩ := s4 (a + i) (by omega) (by omega)
      obtain ⟨t1, t2⟩ := Tpc_b hT b1
      have hd2 := b2
      unfold isF at hd2
      simp only [Bool.and_eq_true, decide_eq_true_eq] at hd2
      have hv := vR_le (f := f) (q := a) i (fun j hj => (s4 (a + j) (by omega) (by omega)).2)
      show Ok (if nI n ≤ nI (a + i) then _ else (aB ce tp (nI (a + i))).bind fun zx6 => (m_X7_isDigit zx6).bind fun zx7 => if zx7 = 0 then _ else (aB ce tp (nI (a + i))).bind fun zx8 => (m_J9_min_7cf53 (1000 : Int32) (((nI (min 1000 (vR f a i)) * (10 : Int32)) + zx8) - (48 : Int32))).bind fun zx9 => some (Sum.inl (zx9, (nI (a + i) + (1 : Int32))))) _
      rw [if_le (by omega) (by omega), if_neg (by omega), t1, bind_s, tk_digit _ t2, bind_s, if_pos b2, if_neg ne10, bind_s, sg_lt (by omega), show (10 : Int32) = nI 10 from rfl, show (48 : Int32) = nI 48 from rfl, show (1000 : Int32) = nI 1000 from rfl, pk_mul, nI_add, nI_sb (by omega), cr_min (by omega) (by omega), bind_s, nI_1]
      refine ok_some ?_
      show (_, _) = (_, _)
      have ev : min 1000 (min 1000 (vR f a i) * 10 + f (a + i) - 48) = min 1000 (vR f a (i + 1)) := by
        rw [vR]
        by_cases h9 : vR f a i ≤ 9999
        · rw [if_pos h9]
          omega
        · rw [if_neg h9]
          omega
      rw [ev]
      rfl
    · rintro st rfl
      rw [show a + (e - a) = e by omega]
      show Ok (if nI n ≤ nI e then some (Sum.inr (nI (min 1000 (vR f a (e - a))), nI e)) else (aB ce tp (nI e)).bind fun zx6 => (m_X7_isDigit zx6).bind fun zx7 => if zx7 = 0 then some (Sum.inr (nI (min 1000 (vR f a (e - a))), nI e)) else _) _
      rw [if_le (by omega) (by omega)]
      by_cases hne : n ≤ e
      · rw [if_pos hne]
        exact ok_some rfl
      · obtain ⟨t1, t2⟩ := Tpc_b hT (k := e) (by omega)
        rw [if_neg hne, t1, bind_s, tk_digit _ t2, bind_s, if_neg (fun z => s3 ⟨by omega, z⟩), if_pos rfl]
        exact ok_some rfl
    · subst ho
      rw [rcv_c hc, bind_s, g1, bind_s]
      exact ok_some rfl
  exact ⟨d, ok_eq key, g2⟩
theorem cr_word {ce : Ce} {rd ka va pa tp j n a : Nat} {now flt fp L ini : Int32} {i0 : Int64} {nb : Int32} {al : Nat} {nt : Int32} {nl : Nat} {inp : Int32} {f : Nat → Nat} (hD : Dis rd ka va pa) (hc : ce rd = some (.inr (5, rdX ka va pa (nI j) now flt fp L ini i0 nb al nt nl inp))) (hA : TkA ce ka va pa f n j) (hj : j < 301) (hT : Tpc ce tp n f) (ha : a < n) (hq : tkq f n (ps f n j) = a) (hF : ¬ isF (f a) = true) (hS : isS (f a) = true) : ∃ d, m_X7_takeWord ce rd tp (nI a) (nI n) = some (nI (ps f n (j + 1)), d) ∧ d rd = some (.inr (5, rdX ka va pa (nI (j + 1)) now flt fp L ini i0 nb al nt nl inp)) ∧ TkA d ka va pa f n (j + 1) ∧ Fra rd ka va pa ce d := by
  have hn := hT.1
  obtain ⟨s1, s2⟩ := rn_in (p := isS) (f := f) (n := n) (n - a) a (by omega)
  have s3 := rn_end (p := isS) (f := f) (n - a) a (Nat.le_refl _) (by omega)
  have s4 := rn_mid (p := isS) (f := f) (n := n) (n - a) a
  have s5 := rn_pos (p := isS) (f := f) ha hS
  have eE : ps f n (j + 1) = rn isS f n (n - a) a := by
    rw [ps, hq]
    unfold tkE
    rw [if_pos ha, if_neg hF, if_pos hS]
  have eK : tK f n j = lk f a (rn isS f n (n - a) a - a) := by
    unfold tK tkK
    rw [hq, if_pos ha, if_neg hF, if_pos hS]
  have eV : tV f n j = lv f a := by
    unfold tV tkV
    rw [hq, if_neg hF, if_pos hS]
  have eP : tP f n j = a := by
    unfold tP
    exact hq
  rw [eE]
  generalize rn isS f n (n - a) a = e at s1 s2 s3 s4 s5 eK
  have hs2 := hS
  unfold isS at hs2
  simp only [Bool.and_eq_true, decide_eq_true_eq] at hs2
  have key : Ok (it (fun (zs1 : Int32) => if nI n ≤ zs1 then some (Sum.inr zs1) else (aB ce tp zs1).bind fun zx15 => (m_X7_isSmall zx15).bind fun zx16 => if zx16 = 0 then some (Sum.inr zs1) else some (Sum.inl (zs1 + (1 : Int32)))) FU (nI a)) (fun o => o = nI e) := by
    refine ok_cnt 0 (e - a) (fun i st => st = nI (a + i)) (by omega) (by omega) rfl ?_ ?_
    · rintro i st hi rfl
      obtain ⟨b1, b2⟩ := s4 (a + i) (by omega) (by omega)
      obtain ⟨t1, t2⟩ := Tpc_b hT b1
      show Ok (if nI n ≤ nI (a + i) then _ else (aB ce tp (nI (a + i))).bind fun zx15 => (m_X7_isSmall zx15).bind fun zx16 => if zx16 = 0 then some (Sum.inr (nI (a + i))) else some (Sum.inl (nI (a + i) + (1 : Int32)))) _
      rw [if_le (by omega) (by omega), if_neg (by omega), t1, bind_s, tk_small _ t2, bind_s, if_pos b2, if_neg ne10, nI_1]
      exact ok_some rfl
    · rintro st rfl
      rw [show a + (e - a) = e by omega]
      show Ok (if nI n ≤ nI e then some (Sum.inr (nI e)) else (aB ce tp (nI e)).bind fun zx15 => (m_X7_isSmall zx15).bind fun zx16 => if zx16 = 0 then some (Sum.inr (nI e)) else _) _
      rw [if_le (by omega) (by omega)]
      by_cases hne : n ≤ e
      · rw [if_pos hne]
        exact ok_some rfl
      · obtain ⟨t1, t2⟩ := Tpc_b hT (k := e) (by omega)
        rw [if_neg hne, t1, bind_s, tk_small _ t2, bind_s, if_neg (fun z => s3 ⟨by omega, z⟩), if_pos rfl]
        exact ok_some rfl
  have key := ok_eq key
  obtain ⟨t1, t2⟩ := Tpc_b hT ha
  unfold m_X7_takeWord
  rw [key, bind_s, t1, bind_s, sg_lt (by omega), nI_sb (by omega), show (1 : Int32) = nI 1 from rfl, if_le (by omega) (by omega)]
  unfold lk at eK
  by_cases l1 : e - a ≤ 1
  · rw [if_pos (show e - a = 1 by omega)] at eK
    rw [if_pos l1, show (103 : Int32) = nI 103 from rfl, if_le (by omega) (by omega)]
    by_cases f2 : f a ≤ 102
    · rw [if_pos f2] at eK
      obtain ⟨d, g1, g2⟩ := cr_add hD hc hA hj (k := 2) (v := nI (f a) - 97) (p := nI a) (by rw [eK]; rfl) (by rw [eP]) (fun _ => by rw [eV, show (97 : Int32) = nI 97 from rfl, nI_sb (by omega)]; unfold lv; rw [if_pos f2])
      rw [if_neg (by omega), rcv_c hc, bind_s, g1, bind_s]
      exact ⟨d, rfl, g2⟩
    · rw [if_neg f2] at eK
      rw [if_pos (by omega), show (120 : Int32) = nI 120 from rfl, show (121 : Int32) = nI 121 from rfl, if_eq (by omega) (by omega), if_eq (by omega) (by omega)]
      by_cases f3 : f a = 120 ∨ f a = 121
      · rw [if_pos f3] at eK
        obtain ⟨d, g1, g2⟩ := cr_add hD hc hA hj (k := 3) (v := nI (f a) - nI 120) (p := nI a) (by rw [eK]; rfl) (by rw [eP]) (fun _ => by rw [eV, nI_sb (by omega)]; unfold lv; rw [if_neg f2])
        have hx : ∀ (α : Type) (x : α) (y : α), (if f a = 120 then x else if f a = 121 then x else y) = x := fun α x y => by
          rcases f3 with f3 | f3
          · rw [if_pos f3]
          · rw [if_neg (by omega), if_pos f3]
        rw [hx, bind_s, Sum.elim_inr, rcv_c hc, bind_s, g1, bind_s]
        exact ⟨d, rfl, g2⟩
      · rw [if_neg f3] at eK
        obtain ⟨d, g1, g2⟩ := cr_add hD hc hA hj (k := nI 1) (v := nI (f a) - nI 120) (p := nI a) (by rw [eK]) (by rw [eP]) (fun h => by omega)
        rw [if_neg (by omega), if_neg (by omega), rcv_c hc, bind_s, g1, bind_s, bind_s, Sum.elim_inl]
        exact ⟨d, rfl, g2⟩
  · rw [if_neg (show ¬ e - a = 1 by omega)] at eK
    have hw := wk_not f a (e - a) 0
    have hkd := cr_kind hT (q := a) (l := e - a) (by omega)
    rw [show a + (e - a) = e by omega] at hkd
    obtain ⟨d, g1, g2⟩ := cr_add hD hc hA hj (k := nI (wk f a (e - a))) (v := 0) (p := nI a) (by rw [eK]) (by rw [eP]) (fun h => by omega)
    rw [if_neg l1, hkd, bind_s, rcv_c hc, bind_s, g1, bind_s]
    exact ⟨d, rfl, g2⟩
