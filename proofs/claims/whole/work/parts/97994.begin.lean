/-! A MACHINE COMES; an aim is told -/
def begN (md : Nat) : Nat → Nat := fun k => if k = 4 then 1 else if k = 15 then md else 0
def begV (M : Mv) (md : Nat) : Sv := (M, begN md, [], [], fl0, [])
theorem fl_0 : FP.fconst0 = 0 := rfl
theorem sr_anew (c : Ce) (m : Nat) {μ : MS} {M : Mv} {md : Nat} (hM : Mac (μ.1 0) M) (h15 : μ.1 0 15 = nI md) : ∃ ν, m_X12_anew (wr c m μ) m = some ((), wr c m ν) ∧ RV ν (begV M md) ∧ Kp μ ν := by
  have lp : ∀ μ : MS, it (fun (zs25 : Int32 × Ce) => if (6 : Int32) ≤ zs25.1 then some (Sum.inr ((), zs25.2)) else (gA zs25.2 9 2 m).bind fun zx30 => (sG zs25.2 zx30 zs25.1 FP.fconst0).bind fun zc31 => some (Sum.inl ((zs25.1 + (1 : Int32)), zc31))) FU ((0 : Int32), wr c m μ) = some ((), wr c m (muH μ 2 (fun j => if j < 6 then 0 else μ.2.2.1 2 j))) := by
    intro μ
    refine ok_eq (ok_cnt 0 6 (fun k z => z = (nI k, wr c m (muH μ 2 (fun j => if j < k then 0 else μ.2.2.1 2 j)))) (by omega) (by omega) ?_ ?_ ?_)
    · have : (fun j => if j < 0 then 0 else μ.2.2.1 2 j) = μ.2.2.1 2 := by
        funext j
        rw [if_neg (by omega)]
      rw [this, muH_s]
      rfl
    · rintro k _ hk rfl
      show Ok (if (6 : Int32) ≤ nI k then _ else _) _
      rw [nl_6, if_le (by omega) (by omega), if_neg (by omega)]
      simp only [wr_g2, bind_s]
      rw [wr_h2 c m _ (by omega), bind_s]
      refine ok_some ?_
      show (nI k + 1, _) = _
      have e : va_up (fun j => if j < k then 0 else μ.2.2.1 2 j) k FP.fconst0 = fun j => if j < k + 1 then 0 else μ.2.2.1 2 j := by
        funext j
        by_cases e : j = k
        · subst e
          rw [up_e, if_pos (by omega), fl_0]
        · rw [up_n _ _ _ e]
          by_cases h : j < k
          · rw [if_pos h, if_pos (by omega)]
          · rw [if_neg h, if_neg (by omega)]
      rw [nI_1, muH_e, muH_H, e]
    · rintro _ rfl
      show Ok (if (6 : Int32) ≤ nI 6 then _ else _) _
      rw [nl_6, if_pos (Int32.le_refl _)]
      exact ok_some rfl
  unfold m_X12_anew
  rw [wr_g0, bind_s, wt_4, bind_s, wr_g0, bind_s, wt_5, bind_s, wr_g0, bind_s, wt_6, bind_s, wr_g0, bind_s, wt_8, bind_s, wr_g0, bind_s, wt_10, bind_s, wr_g0, bind_s, wt_11, bind_s, wr_g0, bind_s, wt_12, bind_s, wr_g0, bind_s, wt_13, bind_s, wr_g0, bind_s, wt_14, bind_s, wr_g0, bind_s, wt_16, bind_s, wr_g0, bind_s, wt_17, bind_s, wr_g0, bind_s, wt_9, bind_s]
  have em : ma μ 4 1 = mu0 μ (va_up (μ.1 0) 4 1) := rfl
  rw [em, ma_of, ma_of, ma_of, ma_of, ma_of, ma_of, ma_of, ma_of, ma_of, ma_of, ma_of]
  generalize ha : va_up (va_up (va_up (va_up (va_up (va_up (va_up (va_up (va_up (va_up (va_up (va_up (μ.1 0) 4 1) 5 0) 6 0) 8 0) 10 0) 11 0) 12 0) 13 0) 14 0) 16 0) 17 0) 9 0 = a
  rw [lp, bind_s, wr_g2, bind_s]
  have w6 := wr_h2 c m (muH (mu0 μ a) 2 (fun j => if j < 6 then 0 else (mu0 μ a).2.2.1 2 j)) (k := 6) (by omega) FP.fconst1
  rw [← nl_6] at w6
  rw [w6, bind_s]
  rw [muH_e, muH_H]
  have ra : ∀ j, j ≠ 4 → j ≠ 5 → j ≠ 6 → j ≠ 8 → j ≠ 10 → j ≠ 11 → j ≠ 12 → j ≠ 13 → j ≠ 14 → j ≠ 16 → j ≠ 17 → j ≠ 9 → a j = μ.1 0 j := by
    intro j h4 h5 h6 h8 h10 h11 h12 h13 h14 h16 h17 h9
    rw [← ha, up_n _ _ _ h9, up_n _ _ _ h17, up_n _ _ _ h16, up_n _ _ _ h14, up_n _ _ _ h13, up_n _ _ _ h12, up_n _ _ _ h11, up_n _ _ _ h10, up_n _ _ _ h8, up_n _ _ _ h6, up_n _ _ _ h5, up_n _ _ _ h4]
  refine ⟨_, rfl, ?_, fun j hj => ?_, fun r hr => ?_, rfl, fun j hj => ?_, rfl, rfl, fun _ _ => rfl⟩
  · show RR ((mu0 μ a).1 0) (va_up (mu0 μ a).2.2.1 2 _ 2) (begV M md)
    rw [mu0_a, up_e]
    refine ⟨Mac_congr (ra 3 (by omega) (by omega) (by omega) (by omega) (by omega) (by omega) (by omega) (by omega) (by omega) (by omega) (by omega) (by omega)) (ra 7 (by omega) (by omega) (by omega) (by omega) (by omega) (by omega) (by omega) (by omega) (by omega) (by omega) (by omega) (by omega)) (fun j h1 h2 => ra j (by omega) (by omega) (by omega) (by omega) (by omega) (by omega) (by omega) (by omega) (by omega) (by omega) (by omega) (by omega)) hM, ?_, ⟨?_, Nat.zero_le _, fun k q hq => by simp [begV] at hq⟩, ⟨?_, Nat.zero_le _, fun k q hq => by simp [begV] at hq⟩, fun k hk => ?_, ⟨?_, Nat.zero_le _, fun k q hq => by simp [begV] at hq⟩⟩
    · refine nums_c ?_ ?_ ?_ ?_ ?_ ?_ ?_ ?_ ?_ ?_
      · rw [← ha]; rfl
      · rw [← ha]; rfl
      · rw [← ha]; rfl
      · rw [← ha]; rfl
      · rw [← ha]; rfl
      · rw [← ha]; rfl
      · rw [← ha]; rfl
      · rw [← ha]; rfl
      · rw [← ha]; rfl
      · rw [ra 15 (by omega) (by omega) (by omega) (by omega) (by omega) (by omega) (by omega) (by omega) (by omega) (by omega) (by omega) (by omega)]
        exact h15
    · rw [← ha]; rfl
    · rw [← ha]; rfl
    · show va_up (fun j => if j < 6 then 0 else _) 6 FP.fconst1 k = fl0 k
      unfold fl0
      by_cases e : k = 6
      · rw [e, up_e, if_pos rfl]
      · rw [up_n _ _ _ e, if_neg e, if_pos (by omega)]
    · rw [← ha]; rfl
  · show (mu0 μ a).1 0 j = _
    rw [mu0_a]
    exact ra j (by omega) (by omega) (by omega) (by omega) (by omega) (by omega) (by omega) (by omega) (by omega) (by omega) (by omega) (by omega)
  · exact mu0_r μ a (by omega)
  · rw [muH_e, up_n _ _ _ (by omega), if_neg (by omega)]
    rfl
/-! the highest frame -/
def hiF (fr : List Cu) : Nat := fr.foldl (fun t q => if q.1 ≤ t then t else q.1) 1
theorem hiF_snoc (fr : List Cu) (q : Cu) : hiF (fr ++ [q]) = if q.1 ≤ hiF fr then hiF fr else q.1 := by
  unfold hiF
  rw [List.foldl_append]
  rfl
theorem hiF_le : ∀ (fr : List Cu) (t : Nat), t ≤ fr.foldl (fun t q => if q.1 ≤ t then t else q.1) t ∧ (∀ q, q ∈ fr → q.1 ≤ fr.foldl (fun t q => if q.1 ≤ t then t else q.1) t) ∧ (fr.foldl (fun t q => if q.1 ≤ t then t else q.1) t = t ∨ ∃ q, q ∈ fr ∧ q.1 = fr.foldl (fun t q => if q.1 ≤ t then t else q.1) t) := by
  intro fr
  induction fr with
  | nil => intro t; exact ⟨Nat.le_refl _, fun q hq => by simp at hq, Or.inl rfl⟩
  | cons x fr ih =>
    intro t
    rw [List.foldl_cons]
    obtain ⟨h1, h2, h3⟩ := ih (if x.1 ≤ t then t else x.1)
    by_cases e : x.1 ≤ t
    · rw [if_pos e] at h1 h2 h3 ⊢
      refine ⟨h1, fun q hq => ?_, ?_⟩
      · rcases List.mem_cons.mp hq with rfl | hq
        · omega
        · exact h2 q hq
      · rcases h3 with h3 | ⟨q, h4, h5⟩
        · exact Or.inl h3
        · exact Or.inr ⟨q, List.mem_cons_of_mem _ h4, h5⟩
    · rw [if_neg e] at h1 h2 h3 ⊢
      refine ⟨by omega, fun q hq => ?_, ?_⟩
      · rcases List.mem_cons.mp hq with rfl | hq
        · exact h1
        · exact h2 q hq
      · rcases h3 with h3 | ⟨q, h4, h5⟩
        · exact Or.inr ⟨x, List.mem_cons_self, h3.symm⟩
        · exact Or.inr ⟨q, List.mem_cons_of_mem _ h4, h5⟩
theorem hiF_1 (fr : List Cu) : 1 ≤ hiF fr := (hiF_le fr 1).1
theorem hiF_ge {fr : List Cu} {q : Cu} (h : q ∈ fr) : q.1 ≤ hiF fr := (hiF_le fr 1).2.1 q h
theorem hiF_at (fr : List Cu) : hiF fr = 1 ∨ ∃ q, q ∈ fr ∧ q.1 = hiF fr := (hiF_le fr 1).2.2
theorem sr_highest (c : Ce) (m : Nat) {μ : MS} {fr : List Cu} (hC : Cub (μ.1 0) fr) : m_X12_highest (wr c m μ) m = some (nI (hiF fr)) := by
  have h5 := hC.2.1
  refine ok_eq ?_
  unfold m_X12_highest
  refine ok_call (P := fun o => o = nI (hiF fr)) (ok_cnt 0 fr.length (fun j s => s = (nI (hiF (fr.take j)), nI j) ∧ hiF (fr.take j) < 128) (by omega) (by omega) ⟨by rw [List.take_zero]; rfl, by rw [List.take_zero]; show 1 < 128; omega⟩ ?_ ?_) (fun a h => by rw [h]; exact ok_some rfl)
  · rintro j _ hj ⟨rfl, hl⟩
    have hat : fr[j]? = some fr[j] := List.getElem?_eq_getElem hj
    generalize fr[j] = u at hat
    have hb := (hC.2.2 j _ hat).2.1
    simp only [wr_g0, wr_rcv, bind_s, mu0_a, ma_of, rd_0, wt_0, rd_1, wt_1, rd_2, wt_2, rd_3, wt_3, rd_4, wt_4, rd_5, wt_5, rd_6, wt_6, rd_7, wt_7, rd_8, wt_8, rd_9, wt_9, rd_10, wt_10, rd_11, wt_11, rd_12, wt_12, rd_13, wt_13, rd_14, wt_14, rd_15, wt_15, rd_16, wt_16, rd_17, wt_17]
    rw [hC.1, if_le (by omega) (by omega), if_neg (by omega), sc_frameOf c m μ hC hat, bind_s, if_le (by omega) (by omega), bind_s, take_s hat, hiF_snoc]
    by_cases e : u.1 ≤ hiF (fr.take j)
    · rw [if_pos e, if_pos e]
      exact ok_some ⟨by rw [nI_1], hl⟩
    · rw [if_neg e, if_neg e]
      exact ok_some ⟨by rw [nI_1], hb⟩
  · rintro _ ⟨rfl, hl⟩
    simp only [wr_g0, wr_rcv, bind_s, mu0_a, ma_of, rd_0, wt_0, rd_1, wt_1, rd_2, wt_2, rd_3, wt_3, rd_4, wt_4, rd_5, wt_5, rd_6, wt_6, rd_7, wt_7, rd_8, wt_8, rd_9, wt_9, rd_10, wt_10, rd_11, wt_11, rd_12, wt_12, rd_13, wt_13, rd_14, wt_14, rd_15, wt_15, rd_16, wt_16, rd_17, wt_17]
    rw [hC.1, if_pos (Int32.le_refl _), List.take_length]
    exact ok_some rfl
def aimV (V : Sv) (w : Nat) : Sv := (V.1, va_up (va_up (va_up V.2.1 8 w) 5 0) 4 (hiF V.2.2.1), V.2.2.1, [], V.2.2.2.2)
theorem sr_aimAt (c : Ce) (m : Nat) {μ : MS} {V : Sv} (hr : RV μ V) (w : Nat) : ∃ ν, m_X12_aimAt (wr c m μ) m (nI w) = some ((), wr c m ν) ∧ RV ν (aimV V w) ∧ Kp μ ν := by
  obtain ⟨M, n, fr, ob, Y⟩ := V
  obtain ⟨a1, a2, a3, a4, a5, a6⟩ := hr
  unfold m_X12_aimAt
  have em : ma μ 8 (nI w) = mu0 μ (va_up (μ.1 0) 8 (nI w)) := rfl
  rw [wr_g0, bind_s, wt_8, bind_s, wr_g0, bind_s, wt_9, bind_s, wr_g0, bind_s, wt_5, bind_s, wr_g0, bind_s, wr_rcv, bind_s, em, ma_of, ma_of]
  generalize ha : va_up (va_up (va_up (μ.1 0) 8 (nI w)) 9 0) 5 0 = a
  have ra : ∀ j, j ≠ 8 → j ≠ 9 → j ≠ 5 → a j = μ.1 0 j := by
    intro j h8 h9 h5
    rw [← ha, up_n _ _ _ h5, up_n _ _ _ h9, up_n _ _ _ h8]
  have hC : Cub ((mu0 μ a).1 0) fr := by
    rw [mu0_a]
    exact Cub_congr (ra 17 (by omega) (by omega) (by omega)) (fun j _ _ => ra j (by omega) (by omega) (by omega)) a3
  rw [sr_highest c m hC, bind_s, wt_4, bind_s, ma_of]
  have rb : ∀ j, j ≠ 8 → j ≠ 9 → j ≠ 5 → j ≠ 4 → va_up a 4 (nI (hiF fr)) j = μ.1 0 j := fun j h8 h9 h5 h4 => by rw [up_n _ _ _ h4]; exact ra j h8 h9 h5
  refine ⟨_, rfl, ?_, Kp_mu0 μ fun j hj => rb j (by omega) (by omega) (by omega) (by omega)⟩
  show RR ((mu0 μ (va_up a 4 (nI (hiF fr)))).1 0) (μ.2.2.1 2) (M, va_up (va_up (va_up n 8 w) 5 0) 4 (hiF fr), fr, [], Y)
  rw [mu0_a]
  refine ⟨Mac_congr (rb 3 (by omega) (by omega) (by omega) (by omega)) (rb 7 (by omega) (by omega) (by omega) (by omega)) (fun j _ _ => rb j (by omega) (by omega) (by omega) (by omega)) a1, ?_, Cub_congr (rb 17 (by omega) (by omega) (by omega) (by omega)) (fun j _ _ => rb j (by omega) (by omega) (by omega) (by omega)) a3, ⟨?_, Nat.zero_le _, fun k q hq => by simp at hq⟩, a5, Clm_congr (rb 16 (by omega) (by omega) (by omega) (by omega)) (fun j _ _ => rb j (by omega) (by omega) (by omega) (by omega)) a6⟩
  · intro k hk
    have hk2 := nums_r hk
    show va_up a 4 (nI (hiF fr)) k = nI (va_up (va_up (va_up n 8 w) 5 0) 4 (hiF fr) k)
    by_cases e4 : k = 4
    · rw [e4, up_e, up_e]
    · rw [up_n _ _ _ e4, up_n _ _ _ e4, ← ha]
      by_cases e5 : k = 5
      · rw [e5, up_e, up_e]
        rfl
      · rw [up_n _ _ _ e5, up_n _ _ _ e5, up_n _ _ _ (by omega)]
        by_cases e8 : k = 8
        · rw [e8, up_e, up_e]
        · rw [up_n _ _ _ e8, up_n _ _ _ e8]
          exact a2 k hk
  · rw [up_n _ _ _ (by omega), ← ha]
    rfl
/-! the class -/
theorem cw_zero {ce : Ce} {r f g s cap : Nat} {l : List Cu} (h : RW ce r f g s cap l) (hd : D4 r f g s) : Ok (pV ce 2 3 r (.int 0)) (fun d => RW d r f g s cap [] ∧ ∀ b, b ≠ r → d b = ce b) := by
  obtain ⟨F, C, S, h1, h2, h3, h4, h5, h6, h7, h8⟩ := h
  rw [pV_c h1 (show 3 < 4 by omega)]
  refine ok_some ⟨⟨F, C, S, ?_, ?_, ?_, ?_, Nat.zero_le _, h6, fun q hq => by simp at hq, fun i q hq => by simp at hq⟩, fun b hb => gu_n _ _ hb⟩
  · rw [gu_e]
    rfl
  · rw [gu_n _ _ (fun e => hd.1 e.symm)]; exact h2
  · rw [gu_n _ _ (fun e => hd.2.1 e.symm)]; exact h3
  · rw [gu_n _ _ (fun e => hd.2.2.1 e.symm)]; exact h4
theorem co_zero {ce : Ce} {o p cap : Nat} {lc : List Ln} (h : OB ce o p cap lc) (hd : o ≠ p) : Ok (pV ce 4 1 o (.int 0)) (fun d => OB d o p cap [] ∧ ∀ b, b ≠ o → d b = ce b) := by
  obtain ⟨P, h1, h2, h3, h4, h5, h6⟩ := h
  rw [pV_c h1 (show 1 < 2 by omega)]
  refine ok_some ⟨⟨P, ?_, ?_, Nat.zero_le _, h4, fun q hq => by simp at hq, fun i q hq => by simp at hq⟩, fun b hb => gu_n _ _ hb⟩
  · rw [gu_e]
    rfl
  · rw [gu_n _ _ (fun e => hd e.symm)]; exact h2
theorem ca_clear {ce : Ce} {a v : Nat} {fl : Nat → UInt32} (h : AC ce a v fl) (hd : a ≠ v) : Ok (m_X0_clear ce a) (fun z => AC z.2 a v fl0 ∧ ∀ b, b ≠ a → b ≠ v → z.2 b = ce b) := by
  obtain ⟨G, h1, h2, h3⟩ := h
  have hself := cv_self h1 h2
  unfold m_X0_clear m_J7_fill_e525d
  rw [gA_c (k := 0) h1 rfl, bind_s, alen_G h2, bind_s]
  rw [← hself]
  have lp : it (fun (zs2 : Int32 × Ce) => if nI 6 ≤ zs2.1 then some (Sum.inr ((), zs2.2)) else (sG zs2.2 v zs2.1 FP.fconst0).bind fun zc5 => some (Sum.inl ((zs2.1 + (1 : Int32)), zc5))) FU ((0 : Int32), cv ce a v G (fl 6)) = some ((), cv ce a v (fun j => if j < 6 then 0 else G j) (fl 6)) := by
    refine ok_eq (ok_cnt 0 6 (fun k z => z = (nI k, cv ce a v (fun j => if j < k then 0 else G j) (fl 6))) (by omega) (by omega) ?_ ?_ ?_)
    · have : (fun j => if j < 0 then 0 else G j) = G := by
        funext j
        rw [if_neg (by omega)]
      rw [this]
      rfl
    · rintro k _ hk rfl
      show Ok (if nI 6 ≤ nI k then _ else (sG (cv ce a v (fun j => if j < k then 0 else G j) (fl 6)) v (nI k) FP.fconst0).bind _) _
      rw [if_le (by omega) (by omega), if_neg (by omega), sG_c (cv_v ce hd _ _) hk (by omega), bind_s, cv_uv ce hd]
      refine ok_some ?_
      show (nI k + 1, _) = _
      have e : va_up (fun j => if j < k then 0 else G j) k FP.fconst0 = fun j => if j < k + 1 then 0 else G j := by
        funext j
        by_cases e : j = k
        · subst e
          rw [up_e, if_pos (by omega), fl_0]
        · rw [up_n _ _ _ e]
          by_cases h : j < k
          · rw [if_pos h, if_pos (by omega)]
          · rw [if_neg h, if_neg (by omega)]
      rw [nI_1, e]
    · rintro _ rfl
      show Ok (if nI 6 ≤ nI 6 then _ else _) _
      rw [if_pos (Int32.le_refl _)]
      exact ok_some rfl
  rw [lp, bind_s, bind_s]
  show Ok ((pV (cv ce a v (fun j => if j < 6 then 0 else G j) (fl 6)) 0 1 a (.float FP.fconst1)).bind _) _
  rw [pV_c (cv_a _ _ _ _ _) (show 1 < 2 by omega), bind_s]
  have es : List.set [Value.ref v, .float (fl 6)] 1 (.float FP.fconst1) = [.ref v, .float FP.fconst1] := rfl
  rw [es, cv_ua]
  refine ok_some ⟨⟨_, cv_a _ _ _ _ _, cv_v _ hd _ _, fun l hl => ?_⟩, fun b h1 h2 => by show cv ce a v _ _ b = cv ce a v G (fl 6) b; rw [cv_x _ _ _ h1 h2, cv_x _ _ _ h1 h2]⟩
  rw [if_pos hl]
  unfold fl0
  rw [if_neg (by omega)]
theorem ss_begin {ce : Ce} {nx : Nat} {A : Nat → Nat} {κ : Nat × Nat × Nat} {V : Sv} (h : SS ce nx A κ V) {mp : Nat} {M : Mv} {Z : Nat → Prop} (hm : MA ce Z mp M) (hZ : ∀ b, Z b → b < nx ∧ Off A b) : Ok (m_X8_begin ce (A 0) mp) (fun z => ∃ A2, SS z.2 nx A2 κ (begV M (V.2.1 15)) ∧ Es ce nx A z.2 A2 ∧ gA z.2 6 0 (A 0) = some mp) := by
  obtain ⟨M0, n, fr, ob, fl, cl⟩ := V
  obtain ⟨mp0, at0, h1, h2, h3⟩ := h
  have h1 : ce (A 0) = some (.inr (6, Sob A mp0 n at0)) := h1
  unfold m_X8_begin
  rw [pV_c h1 (show 0 < 15 by omega), bind_s]
  rw [pV_c (gu_e _ _ _) (show 1 < 15 by omega), bind_s, gu_gu, pV_c (gu_e _ _ _) (show 3 < 15 by omega), bind_s, gu_gu, pV_c (gu_e _ _ _) (show 4 < 15 by omega), bind_s, gu_gu, pV_c (gu_e _ _ _) (show 5 < 15 by omega), bind_s, gu_gu, pV_c (gu_e _ _ _) (show 6 < 15 by omega), bind_s, gu_gu, pV_c (gu_e _ _ _) (show 7 < 15 by omega), bind_s, gu_gu, pV_c (gu_e _ _ _) (show 8 < 15 by omega), bind_s, gu_gu, pV_c (gu_e _ _ _) (show 9 < 15 by omega), bind_s, gu_gu, pV_c (gu_e _ _ _) (show 10 < 15 by omega), bind_s, gu_gu]
  generalize e1 : gx_up ce (A 0) _ = c1
  have hc1 : c1 = gx_up ce (A 0) (.inr (6, Sob A mp (begN (n 15)) 1)) := by
    rw [← e1]
    rfl
  clear e1
  have S0 : SS c1 nx A κ (M, begN (n 15), fr, ob, fl, cl) := by
    rw [hc1]
    obtain ⟨lcB, b1, b2, b3, b4, b5, b6, b7, b8⟩ := SSr_cell h3 (.inr (6, Sob A mp (begN (n 15)) 1))
    refine ⟨mp, 1, gu_e _ _ _, fun z => ?_, lcB, b1, b2, b3, b4, b5, MA_congr (fun b hb => gu_n _ _ ((hZ b hb).2 0 (by omega))) hZ hm, b7, b8⟩
    have z : begN (n 15) 5 = 2 ∨ begN (n 15) 5 = 3 := z
    have : begN (n 15) 5 = 0 := rfl
    omega
  have E0 : Es ce nx A c1 A := ⟨rfl, fun b _ ho => by rw [hc1, gu_n _ _ (ho 0 (by omega))], fun _ _ => Or.inl rfl⟩
  have G0 : gA c1 6 0 (A 0) = some mp := by
    rw [hc1]
    exact gA_c (gu_e _ _ _) rfl
  clear hc1
  have hlt := ss_lt S0
  rw [ss_r11 S0, bind_s]
  refine ok_call (cw_zero (ss_row S0) (d4_of hlt.2 1 (by omega))) ?_
  rintro d1 ⟨t1, t2⟩
  have R1 : RowG c1 nx (A 1) (A 2) (A 3) (A 4) (srtF []) d1 0 κ.1 := ⟨A 2, A 3, A 4, by rw [srtF_nil]; exact t1, d4_of hlt.2 1 (by omega), Or.inl ⟨rfl, rfl, rfl, rfl⟩, fun b h1 _ _ _ _ => t2 b h1⟩
  obtain ⟨A1, S1, E1, G1⟩ := ss_frG S0 R1
  have A10 : A1 0 = A 0 := E1.1
  have S1 : SS d1 nx A1 κ (M, begN (n 15), [], ob, fl, cl) := S1
  have hlt1 := ss_lt S1
  have r12 := ss_r12 S1
  rw [A10] at r12
  rw [r12, bind_s]
  obtain ⟨lc1, o1, o2⟩ := ss_obl S1
  refine ok_call (co_zero o1 (hlt1.2 5 (by omega) 6 (by omega) (by omega))) ?_
  rintro d2 ⟨t3, t4⟩
  obtain ⟨A2, S2, E2, G2⟩ := ss_obG S1 (ob2 := []) (lc2 := []) ⟨List.Perm.refl _, List.Pairwise.nil⟩ (K := 0) ⟨A1 6, t3, hlt1.2 5 (by omega) 6 (by omega) (by omega), Or.inl ⟨rfl, rfl⟩, fun b h1 _ _ => t4 b h1⟩
  have S2 : SS d2 nx A2 κ (M, begN (n 15), [], [], fl, cl) := S2
  have E02 : Es ce nx A d2 A2 := Es_trans (K := 0) E0 (Es_trans (K := 0) E1 E2)
  have A20 : A2 0 = A 0 := E02.1
  have hlt2 := ss_lt S2
  have r13 := ss_r13 S2
  rw [A20] at r13
  rw [r13, bind_s, ca_rcv (ss_act S2), bind_s]
  refine ok_call (ca_clear (ss_act S2) (hlt2.2 7 (by omega) 8 (by omega) (by omega))) ?_
  rintro ⟨u3, d3⟩ ⟨t5, t6⟩
  obtain ⟨S3, E3, G3⟩ := ss_actG S2 t5 t6
  have S3 : SS d3 nx A2 κ (M, begN (n 15), [], [], fl0, cl) := S3
  have E3 : Es d2 nx A2 d3 A2 := E3
  have G3 : gA d3 6 0 (A2 0) = gA d2 6 0 (A2 0) := G3
  have hlt3 := ss_lt S3
  show Ok ((gA d3 6 14 (A 0)).bind _) _
  have r14 := ss_r14 S3
  rw [A20] at r14
  rw [r14, bind_s]
  show Ok ((pV d3 2 3 (A2 9) (.int 0)).bind _) _
  refine ok_call (cw_zero (ss_cls S3) (d4_of hlt3.2 9 (by omega))) ?_
  rintro d4 ⟨t7, t8⟩
  obtain ⟨A4, S4, E4, G4⟩ := ss_clG (cl2 := []) S3 (K := 0) (cap2 := κ.2.2) ⟨A2 10, A2 11, A2 12, t7, d4_of hlt3.2 9 (by omega), Or.inl ⟨rfl, rfl, rfl, rfl⟩, fun b h1 _ _ _ _ => t8 b h1⟩
  refine ok_some ⟨A4, S4, Es_trans (K := 0) E02 (Es_trans (K := 0) E3 E4), ?_⟩
  show gA d4 6 0 (A 0) = some mp
  rw [A20] at G4 G3
  rw [A10] at G2
  rw [G4, G3, G2, G1, G0]
theorem last_hi {fr : List Cu} (hC : ∀ q, q ∈ fr → q.1 < 127) : (if 1 < (((srtF fr).getLast?.map Prod.fst).getD 0) then (((srtF fr).getLast?.map Prod.fst).getD 0) else 1) = hiF fr := by
  have hp := srtF_perm (fr := fr) (fun q hq => by have := hC q hq; omega)
  have hs : (srtF fr).Pairwise (fun a b => a.1 ≤ b.1) := srtN_sort fr 128
  have h1 := hiF_1 fr
  cases hl : (srtF fr).getLast? with
  | none =>
    have he : srtF fr = [] := List.getLast?_eq_none_iff.mp hl
    have hf : fr = [] := by
      have := hp.length_eq
      rw [he] at this
      exact List.length_eq_zero_iff.mp this.symm
    rw [hf]
    rfl
  | some u =>
    obtain ⟨l', hl'⟩ := List.getLast?_eq_some_iff.mp hl
    have hu : u ∈ fr := hp.mem_iff.mp (by rw [hl']; simp)
    have hmax : ∀ q, q ∈ fr → q.1 ≤ u.1 := by
      intro q hq
      have hq2 : q ∈ srtF fr := hp.mem_iff.mpr hq
      rw [hl'] at hq2 hs
      rcases List.mem_append.mp hq2 with h | h
      · exact (List.pairwise_append.mp hs).2.2 q h u (by simp)
      · have : q = u := by simpa using h
        rw [this]
        exact Nat.le_refl _
    have hge := hiF_ge hu
    show (if 1 < u.1 then u.1 else 1) = hiF fr
    rcases hiF_at fr with e | ⟨q, hq, e⟩
    · rw [if_neg (by omega), e]
    · have := hmax q hq
      by_cases h : 1 < u.1
      · rw [if_pos h]; omega
      · rw [if_neg h]; omega
theorem ss_tellAim {ce : Ce} {nx : Nat} {A : Nat → Nat} {κ : Nat × Nat × Nat} {V : Sv} (h : SS ce nx A κ V) (hC : ∀ q, q ∈ V.2.2.1 → q.1 < 127) (w : Nat) : Ok (m_X8_tellAim ce (A 0) (nI w)) (fun z => ∃ A2, SS z.2 nx A2 κ (aimV V w) ∧ Es ce nx A z.2 A2 ∧ gA z.2 6 0 (A 0) = gA ce 6 0 (A 0)) := by
  obtain ⟨M, n, fr, ob, fl, cl⟩ := V
  have hC : ∀ q, q ∈ fr → q.1 < 127 := hC
  unfold m_X8_tellAim
  refine ok_call (ss_w1 h w) ?_
  rintro d1 ⟨S1, E1⟩
  obtain ⟨E1, G1⟩ := Ev_Es E1
  have hlt1 := ss_lt S1
  obtain ⟨lc1, o1, o2⟩ := ss_obl S1
  rw [ss_r12 S1, bind_s]
  refine ok_call (co_zero o1 (hlt1.2 5 (by omega) 6 (by omega) (by omega))) ?_
  rintro d2 ⟨t3, t4⟩
  obtain ⟨A2, S2, E2, G2⟩ := ss_obG S1 (ob2 := []) (lc2 := []) ⟨List.Perm.refl _, List.Pairwise.nil⟩ (K := 0) ⟨A 6, t3, hlt1.2 5 (by omega) 6 (by omega) (by omega), Or.inl ⟨rfl, rfl⟩, fun b h1 _ _ => t4 b h1⟩
  have S2 : SS d2 nx A2 κ (M, va_up n 8 w, fr, [], fl, cl) := S2
  have A20 : A2 0 = A 0 := E2.1
  have w3 := ss_w3 S2 0 (by omega)
  rw [A20, nI_0] at w3
  refine ok_call w3 ?_
  rintro d3 ⟨S3, E3⟩
  obtain ⟨E3, G3⟩ := Ev_Es E3
  have r11 := ss_r11 S3
  rw [A20] at r11
  rw [r11, bind_s, cw_rcv (ss_row S3), bind_s, cw_highestFrame (ss_row S3), bind_s]
  have em : m_J9_max_7cf53 (1 : Int32) (nI ((((srtF fr).getLast?.map Prod.fst)).getD 0)) = some (nI (hiF fr)) := by
    have hb : ((srtF fr).getLast?.map Prod.fst).getD 0 < 2 ^ 31 := by
      cases hl : (srtF fr).getLast? with
      | none => show 0 < 2 ^ 31; omega
      | some u =>
        have hu : u ∈ srtF fr := List.mem_of_getLast? hl
        have := hC u ((srtN_mem fr u 128).mp hu).1
        show u.1 < 2 ^ 31
        omega
    unfold m_J9_max_7cf53
    rw [← last_hi hC, nl_1, if_lt (by omega) hb]
    split <;> rfl
  show Ok ((m_J9_max_7cf53 (1 : Int32) (nI ((((srtF fr).getLast?.map Prod.fst)).getD 0))).bind _) _
  rw [em, bind_s]
  have w4 := ss_w4 S3 (hiF fr)
  rw [A20] at w4
  refine ok_call w4 ?_
  rintro d4 ⟨S4, E4⟩
  obtain ⟨E4, G4⟩ := Ev_Es E4
  refine ok_some ⟨A2, S4, Es_trans (K := 0) E1 (Es_trans (K := 0) E2 (Es_trans (K := 0) E3 E4)), ?_⟩
  rw [A20] at G4 G3
  show gA d4 6 0 (A 0) = _
  rw [G4, G3, G2, G1]
