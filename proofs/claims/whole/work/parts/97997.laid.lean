/-! CUBES THAT ARE JUDGED -/
def Laid (μ : MS) (l : List (Nat × Nat)) : Prop := μ.2.2.2 15 = nI l.length ∧ l.length ≤ 5000 ∧ ∀ (k : Nat) (q : Nat × Nat), l[k]? = some q → μ.1 14 k = nI q.1 ∧ μ.1 15 k = nI q.2 ∧ q.1 < 64 ∧ q.2 < 64
def KJ (μ ν : MS) : Prop := (∀ r, r ≠ 14 → r ≠ 15 → ν.1 r = μ.1 r) ∧ ν.2.1 = μ.2.1 ∧ ν.2.2.1 = μ.2.2.1 ∧ ∀ r, r ≠ 15 → ν.2.2.2 r = μ.2.2.2 r
theorem KJ_refl (μ : MS) : KJ μ μ := ⟨fun _ _ _ => rfl, rfl, rfl, fun _ _ => rfl⟩
theorem KJ_trans {μ ν ρ : MS} (h : KJ μ ν) (g : KJ ν ρ) : KJ μ ρ := ⟨fun r h1 h2 => (g.1 r h1 h2).trans (h.1 r h1 h2), g.2.1.trans h.2.1, g.2.2.1.trans h.2.2.1, fun r hr => (g.2.2.2 r hr).trans (h.2.2.2 r hr)⟩
theorem KJ_Kp {μ ν : MS} (h : KJ μ ν) : Kp μ ν := by
  refine ⟨fun j _ => by rw [h.1 0 (by omega) (by omega)], fun r hr => h.1 r (by omega) (by omega), by rw [h.2.1], fun j _ => by rw [h.2.2.1], by rw [h.2.2.1], by rw [h.2.2.1], fun r hr => h.2.2.2 r (by omega)⟩
theorem KJ_RV {μ ν : MS} {V : Sv} (h : KJ μ ν) (hr : RV μ V) : RV ν V := by
  unfold RV
  rw [h.1 0 (by omega) (by omega), h.2.2.1]
  exact hr
def muN (μ : MS) (r : Nat) (v : Int32) : MS := (μ.1, μ.2.1, μ.2.2.1, va_up μ.2.2.2 r v)
theorem wr_n31 (c : Ce) (m : Nat) (μ : MS) (v : Int32) : pV (wr c m μ) 9 31 m (.int v) = some (wr c m (muN μ 15 v)) := wr_s31 c m μ v
theorem wr_a14 (c : Ce) (m : Nat) (μ : MS) {k : Nat} (hk : k < 5000) : aI (wr c m μ) (m + 15) (nI k) = some (μ.1 14 k) := by
  rw [wr_r29, if_neg (nI_in hk (by omega)), nI_clamp (by omega)]
theorem wr_u14 (c : Ce) (m : Nat) (μ : MS) {k : Nat} (hk : k < 5000) (v : Int32) : sI (wr c m μ) (m + 15) (nI k) v = some (wr c m (muI μ 14 (va_up (μ.1 14) k v))) := by
  rw [wr_s29, if_neg (nI_in hk (by omega)), nI_clamp (by omega)]
  rfl
theorem wr_a15 (c : Ce) (m : Nat) (μ : MS) {k : Nat} (hk : k < 5000) : aI (wr c m μ) (m + 16) (nI k) = some (μ.1 15 k) := by
  rw [wr_r30, if_neg (nI_in hk (by omega)), nI_clamp (by omega)]
theorem wr_u15 (c : Ce) (m : Nat) (μ : MS) {k : Nat} (hk : k < 5000) (v : Int32) : sI (wr c m μ) (m + 16) (nI k) v = some (wr c m (muI μ 15 (va_up (μ.1 15) k v))) := by
  rw [wr_s30, if_neg (nI_in hk (by omega)), nI_clamp (by omega)]
  rfl
theorem laid_0 (c : Ce) (m : Nat) (μ : MS) : ∃ ν, pV (wr c m μ) 9 31 m (.int 0) = some (wr c m ν) ∧ Laid ν [] ∧ KJ μ ν := by
  refine ⟨muN μ 15 0, wr_n31 c m μ 0, ⟨by show va_up μ.2.2.2 15 0 15 = 0; exact up_e _ _ _, Nat.zero_le _, fun k q hq => by simp at hq⟩, fun _ _ _ => rfl, rfl, rfl, fun r hr => up_n _ _ _ hr⟩
theorem sr_addJudged (c : Ce) (m : Nat) {μ : MS} {l : List (Nat × Nat)} (hl : Laid μ l) (hlen : l.length < 5000) {q : Nat × Nat} (h1 : q.1 < 64) (h2 : q.2 < 64) : ∃ ν, m_X12_addJudged (wr c m μ) m (nI q.1) (nI q.2) = some ((), wr c m ν) ∧ Laid ν (l ++ [q]) ∧ KJ μ ν := by
  obtain ⟨a1, a2, a3⟩ := hl
  unfold m_X12_addJudged
  have e1 : (muI μ 14 (va_up (μ.1 14) l.length (nI q.1))).2.2.2 15 = nI l.length := a1
  have e2 : (muI (muI μ 14 (va_up (μ.1 14) l.length (nI q.1))) 15 (va_up (μ.1 15) l.length (nI q.2))).2.2.2 15 = nI l.length := a1
  have e3 : (muI μ 14 (va_up (μ.1 14) l.length (nI q.1))).1 15 = μ.1 15 := muI_n μ _ (by omega)
  rw [wr_g29, bind_s, wr_g31, bind_s, a1, wr_u14 c m μ hlen, bind_s, wr_g30, bind_s, wr_g31, bind_s, e1, wr_u15 c m _ hlen, bind_s, e3, wr_g31, bind_s, e2, nI_1, wr_n31, bind_s]
  refine ⟨_, rfl, ⟨?_, ?_, fun k r hr => ?_⟩, fun r h14 h15 => ?_, rfl, rfl, fun r hr => up_n _ _ _ hr⟩
  · show va_up μ.2.2.2 15 (nI (l.length + 1)) 15 = _
    rw [up_e, List.length_append]
    rfl
  · rw [List.length_append]
    show l.length + 1 ≤ 5000
    omega
  · show va_up (va_up μ.1 14 (va_up (μ.1 14) l.length (nI q.1))) 15 (va_up (μ.1 15) l.length (nI q.2)) 14 k = _ ∧ va_up (va_up μ.1 14 (va_up (μ.1 14) l.length (nI q.1))) 15 (va_up (μ.1 15) l.length (nI q.2)) 15 k = _ ∧ _
    rw [up_n _ 15 _ (show 14 ≠ 15 by omega), up_e, up_e]
    by_cases e : k = l.length
    · subst e
      rw [List.getElem?_append_right (Nat.le_refl _), Nat.sub_self] at hr
      have : q = r := by simpa using hr
      subst this
      rw [up_e, up_e]
      exact ⟨rfl, rfl, h1, h2⟩
    · have hk : k < l.length := by
        have := (List.getElem?_eq_some_iff.mp hr).1
        rw [List.length_append] at this
        have this : k < l.length + 1 := this
        omega
      rw [List.getElem?_append_left hk] at hr
      rw [up_n _ _ _ e, up_n _ _ _ e]
      exact a3 k r hr
  · show va_up (va_up μ.1 14 _) 15 _ r = _
    rw [up_n _ _ _ h15, up_n _ _ _ h14]
theorem Clm_get {g : Nat → Int32} {cl : List (Nat × Nat)} (h : Clm g cl) {k : Nat} {q : Nat × Nat} (hq : cl[k]? = some q) : q.1 < 64 ∧ q.2 < 64 := (h.2.2 k q hq).2
theorem sr_layClaims (c : Ce) (m : Nat) {μ : MS} {cl : List (Nat × Nat)} (hC : Clm (μ.1 0) cl) : ∃ ν, m_X12_layClaims (wr c m μ) m = some ((), wr c m ν) ∧ Laid ν cl ∧ KJ μ ν := by
  have h12 := hC.2.1
  obtain ⟨ν0, z1, z2, z3⟩ := laid_0 c m μ
  have key : Ok (m_X12_layClaims (wr c m μ) m) (fun z => ∃ ν, z = ((), wr c m ν) ∧ Laid ν cl ∧ KJ μ ν) := by
    unfold m_X12_layClaims
    rw [z1, bind_s]
    refine ok_call (P := fun o => ∃ ν, o = ((), wr c m ν) ∧ Laid ν cl ∧ KJ μ ν) (ok_cnt 0 cl.length (fun j s => ∃ ν, s = (nI j, wr c m ν) ∧ Laid ν (cl.take j) ∧ KJ μ ν) (by omega) (by omega) ⟨ν0, rfl, by rw [List.take_zero]; exact z2, z3⟩ ?_ ?_) (fun a h => by obtain ⟨ν, rfl, h⟩ := h; exact ok_some ⟨ν, rfl, h⟩)
    · rintro j _ hj ⟨ν, rfl, y1, y2⟩
      have hat : cl[j]? = some cl[j] := List.getElem?_eq_getElem hj
      generalize cl[j] = u at hat
      have hu := Clm_get hC hat
      have hCν : Clm (ν.1 0) cl := by rw [y2.1 0 (by omega) (by omega)]; exact hC
      have o1 := sr_ofClaim c m hCν hat 0
      have o2 := sr_ofClaim c m hCν hat 1
      rw [if_pos rfl] at o1
      rw [if_neg (by decide)] at o2
      obtain ⟨ν2, w1, w2, w3⟩ := sr_addJudged c m y1 (by rw [List.length_take]; omega) hu.1 hu.2
      show Ok ((gA (wr c m ν) 9 0 m).bind _) _
      simp only [wr_g0, bind_s, rd_16, hCν.1, wr_rcv, o1, o2, w1]
      rw [if_le (by omega) (by omega), if_neg (by omega)]
      refine ok_some ⟨ν2, by rw [nI_1], ?_, KJ_trans y2 w3⟩
      rw [take_s hat]
      exact w2
    · rintro _ ⟨ν, rfl, y1, y2⟩
      have hCν : Clm (ν.1 0) cl := by rw [y2.1 0 (by omega) (by omega)]; exact hC
      show Ok ((gA (wr c m ν) 9 0 m).bind _) _
      simp only [wr_g0, bind_s, rd_16, hCν.1]
      rw [if_pos (Int32.le_refl _)]
      rw [List.take_length] at y1
      exact ok_some ⟨ν, rfl, y1, y2⟩
  obtain ⟨z, hz, ν, rfl, h⟩ := key
  exact ⟨ν, hz, h⟩
/-! the fence -/
theorem fr_take_at (fr : List Cu) (f : Nat) {k : Nat} {u : Cu} (h : fr[k]? = some u) : (atF f (fr.take (k + 1))).map Prod.snd = (atF f (fr.take k)).map Prod.snd ++ if u.1 = f then [u.2] else [] := by
  rw [take_s h]
  unfold atF
  rw [List.filter_append, List.map_append]
  by_cases e : u.1 = f <;> simp [e]
def fncL (V : Sv) : List (Nat × Nat) := if V.2.1 5 = 3 then ((srtF V.2.2.1).drop (stR (srtF V.2.2.1) (V.2.1 6 + 1))).map Prod.snd else []
theorem srtN_top {fr : List Cu} {t : Nat} (h : ∀ q, q ∈ fr → q.1 ≤ t) : ∀ n, t + 1 ≤ n → srtN fr n = srtN fr (t + 1) := by
  intro n
  induction n with
  | zero => intro hn; omega
  | succ n ih =>
    intro hn
    by_cases e : n = t
    · rw [e]
    · rw [srtN, ih (by omega)]
      have : (fr.filter fun q => decide (q.1 = n)) = [] := by
        refine List.filter_eq_nil_iff.mpr fun q hq => ?_
        have := h q hq
        simp
        omega
      rw [this, List.append_nil]
theorem srtN_le {fr : List Cu} {a : Nat} : ∀ n, a ≤ n → (srtN fr a).length ≤ (srtN fr n).length := by
  intro n
  induction n with
  | zero => intro h; rw [Nat.le_zero.mp h]; exact Nat.le_refl _
  | succ n ih =>
    intro h
    by_cases e : a = n + 1
    · rw [e]; exact Nat.le_refl _
    · rw [srtN, List.length_append]
      have := ih (by omega)
      omega
theorem sr_layFence (c : Ce) (m : Nat) {μ : MS} {V : Sv} (hr : RV μ V) {j : Nat} (hi : IV j V) : ∃ ν, m_X12_layFence (wr c m μ) m = some ((), wr c m ν) ∧ Laid ν (fncL V) ∧ KJ μ ν := by
  obtain ⟨M, n, fr, ob, fl, cl⟩ := V
  have h4 : n 4 ≤ 65 := IV_top hi
  have h6 : n 6 ≤ 65 := hi.2.2.1.2.2.2
  have h5 : n 5 < 5 := hi.2.2.1.1
  have hCI : CI M (n 4) fr := hi.2.2.2.1.1
  have hC : Cub (μ.1 0) fr := hr.2.2.1
  have h5000 := hC.2.1
  have hN : Num (μ.1 0) n := hr.2.1
  obtain ⟨ν0, z1, z2, z3⟩ := laid_0 c m μ
  have lenN : ∀ f, (srtN fr f).length ≤ fr.length := fun f => by
    rw [(srtN_perm fr f).length_eq]
    exact List.length_filter_le _ _
  have key : Ok (m_X12_layFence (wr c m μ) m) (fun z => ∃ ν, z = ((), wr c m ν) ∧ Laid ν (fncL (M, n, fr, ob, fl, cl)) ∧ KJ μ ν) := by
    unfold m_X12_layFence
    have r0 : ∀ ν, KJ μ ν → ν.1 0 = μ.1 0 := fun ν h => h.1 0 (by omega) (by omega)
    rw [z1, bind_s, wr_g0, bind_s, rd_6, bind_s, r0 ν0 z3, hN 6 (by decide), nI_1]
    by_cases e3 : n 5 = 3
    · have ef : fncL (M, n, fr, ob, fl, cl) = ((srtF fr).drop (stR (srtF fr) (n 6 + 1))).map Prod.snd := by
        unfold fncL
        rw [if_pos e3]
      rw [ef]
      have p5 : ∀ ν, KJ μ ν → ν.1 0 5 = 3 := fun ν h => by rw [r0 ν h, hN 5 (by decide), e3]; rfl
      have p4 : ∀ ν, KJ μ ν → ν.1 0 4 = nI (n 4) := fun ν h => by rw [r0 ν h, hN 4 (by decide)]
      have pC : ∀ ν, KJ μ ν → Cub (ν.1 0) fr := fun ν h => by rw [r0 ν h]; exact hC
      have stt : stR (srtF fr) (n 6 + 1) = (srtN fr (n 6 + 1)).length := stR_srt fr (by omega)
      -- what is laid up to a frame
      refine ok_call (P := fun o => ∃ ν, o = ((), wr c m ν) ∧ Laid ν (((srtF fr).drop (stR (srtF fr) (n 6 + 1))).map Prod.snd) ∧ KJ μ ν) (ok_cnt (n 6 + 1) (max (n 6 + 1) (n 4 + 1)) (fun f s => n 6 + 1 ≤ f ∧ ∃ ν, s = (nI f, wr c m ν) ∧ Laid ν (((srtN fr f).drop (srtN fr (n 6 + 1)).length).map Prod.snd) ∧ KJ μ ν) (by omega) (by omega) ⟨Nat.le_refl _, ν0, rfl, by rw [List.drop_length]; exact z2, z3⟩ ?_ ?_) (fun a h => by obtain ⟨ν, rfl, h⟩ := h; exact ok_some ⟨ν, rfl, h⟩)
      · rintro f _ hf ⟨hf1, ν, rfl, y1, y2⟩
        have hlt : ¬ nI (n 4) < nI f := fun z => by have := (nI_ltI (by omega) (by omega)).mp z; omega
        show Ok ((gA (wr c m ν) 9 0 m).bind _) _
        rw [wr_g0, bind_s]
        show Ok ((aI (wr c m ν) (m + 1) 4).bind _) _
        rw [rd_4, bind_s, p4 ν y2]
        show Ok (if nI (n 4) < nI f then _ else (some (m + 1)).bind _) _
        rw [if_neg hlt, bind_s]
        show Ok ((aI (wr c m ν) (m + 1) 5).bind _) _
        rw [rd_5, bind_s, p5 ν y2, if_pos rfl]
        refine ok_call (P := fun o => ∃ ν, o = ((), wr c m ν) ∧ Laid ν (((srtN fr f).drop (srtN fr (n 6 + 1)).length).map Prod.snd ++ (atF f fr).map Prod.snd) ∧ KJ μ ν) (ok_cnt 0 fr.length (fun k s => ∃ ν, s = (nI k, wr c m ν) ∧ Laid ν (((srtN fr f).drop (srtN fr (n 6 + 1)).length).map Prod.snd ++ (atF f (fr.take k)).map Prod.snd) ∧ KJ μ ν) (by omega) (by omega) ⟨ν, rfl, by rw [List.take_zero]; show Laid ν (_ ++ []); rw [List.append_nil]; exact y1, y2⟩ ?_ ?_) ?_
        · rintro k _ hk ⟨ν2, rfl, x1, x2⟩
          have hat : fr[k]? = some fr[k] := List.getElem?_eq_getElem hk
          generalize fr[k] = u at hat
          have hu := (hC.2.2 k u hat).2
          have hCν := pC ν2 x2
          show Ok ((gA (wr c m ν2) 9 0 m).bind _) _
          simp only [wr_g0, bind_s, rd_17, hCν.1, wr_rcv, sc_frameOf c m ν2 hCν hat, sc_maskOf c m ν2 hCν hat, sc_bitsOf c m ν2 hCν hat]
          rw [if_le (by omega) (by omega), if_neg (by omega), if_eq (by omega) (by omega), fr_take_at fr f hat]
          by_cases e : u.1 = f
          · rw [if_pos e, if_pos e]
            have hll : (((srtN fr f).drop (srtN fr (n 6 + 1)).length).map Prod.snd ++ (atF f (fr.take k)).map Prod.snd).length < 5000 := by
              rw [List.length_append, List.length_map, List.length_map, List.length_drop]
              have l1 : (atF f (fr.take k)).length ≤ k := Nat.le_trans (List.length_filter_le _ _) (by rw [List.length_take]; omega)
              have l2 : (srtN fr f).length + (atF f (fr.take k)).length < fr.length + 1 := by
                have a1 : (srtN fr (f + 1)).length = (srtN fr f).length + (atF f fr).length := by rw [srtN, List.length_append]; rfl
                have a2 := lenN (f + 1)
                have a3 : (atF f (fr.take k)).length ≤ (atF f fr).length := by
                  unfold atF
                  exact (List.Sublist.filter _ (List.take_sublist _ _)).length_le
                omega
              have l4 : (atF f (fr.take (k + 1))).length = (atF f (fr.take k)).length + 1 := by
                rw [take_s hat]
                unfold atF
                rw [List.filter_append, List.length_append]
                simp [e]
              have l3 : (srtN fr f).length + (atF f (fr.take (k + 1))).length ≤ fr.length := by
                have a1 : (srtN fr (f + 1)).length = (srtN fr f).length + (atF f fr).length := by rw [srtN, List.length_append]; rfl
                have a2 := lenN (f + 1)
                have a3 : (atF f (fr.take (k + 1))).length ≤ (atF f fr).length := by
                  unfold atF
                  exact (List.Sublist.filter _ (List.take_sublist _ _)).length_le
                omega
              omega
            obtain ⟨ν3, w1, w2, w3⟩ := sr_addJudged c m x1 hll (q := u.2) hu.2.1 hu.2.2
            rw [w1, bind_s]
            refine ok_some ⟨ν3, by rw [nI_1], ?_, KJ_trans x2 w3⟩
            rw [← List.append_assoc]
            exact w2
          · rw [if_neg e, if_neg e, List.append_nil]
            exact ok_some ⟨ν2, by rw [nI_1], x1, x2⟩
        · rintro _ ⟨ν2, rfl, x1, x2⟩
          have hCν := pC ν2 x2
          show Ok ((gA (wr c m ν2) 9 0 m).bind _) _
          simp only [wr_g0, bind_s, rd_17, hCν.1]
          rw [if_pos (Int32.le_refl _)]
          rw [List.take_length] at x1
          exact ok_some ⟨ν2, rfl, x1, x2⟩
        · rintro o ⟨ν2, rfl, x1, x2⟩
          refine ok_some ⟨by omega, ν2, by rw [nI_1], ?_, x2⟩
          have hle := srtN_le (fr := fr) (a := n 6 + 1) f hf1
          have es : srtN fr (f + 1) = srtN fr f ++ atF f fr := rfl
          rw [es, List.drop_append_of_le_length hle, List.map_append]
          exact x1
      · rintro _ ⟨hf1, ν, rfl, y1, y2⟩
        have hlt : nI (n 4) < nI (max (n 6 + 1) (n 4 + 1)) := nI_lt (by omega) (by omega)
        show Ok ((gA (wr c m ν) 9 0 m).bind _) _
        rw [wr_g0, bind_s]
        show Ok ((aI (wr c m ν) (m + 1) 4).bind _) _
        rw [rd_4, bind_s, p4 ν y2]
        show Ok (if nI (n 4) < nI (max (n 6 + 1) (n 4 + 1)) then _ else _) _
        rw [if_pos hlt]
        refine ok_some ⟨ν, rfl, ?_, y2⟩
        have ht := srtN_top (fr := fr) (t := n 4) (fun q hq => (hCI q hq).2.1)
        have et : srtN fr (max (n 6 + 1) (n 4 + 1)) = srtF fr := by
          show _ = srtN fr 128
          rw [ht _ (by omega), ht 128 (by omega)]
        rw [et, ← stt] at y1
        exact y1
    · have ef : fncL (M, n, fr, ob, fl, cl) = [] := by
        unfold fncL
        rw [if_neg e3]
      rw [ef]
      refine ok_call (P := fun o => ∃ ν, o = ((), wr c m ν) ∧ Laid ν [] ∧ KJ μ ν) (ok_loop (fun s => s = (nI (n 6 + 1), wr c m ν0)) _ (fun _ => 0) rfl (lt_FU (by omega)) ?_) (fun a h => by obtain ⟨ν, rfl, h⟩ := h; exact ok_some ⟨ν, rfl, h⟩)
      rintro _ rfl
      show Ok ((gA (wr c m ν0) 9 0 m).bind _) _
      simp only [wr_g0, bind_s, rd_4, rd_5, r0 ν0 z3, hN 4 (by decide), hN 5 (by decide)]
      have hne : ¬ nI (n 5) = 3 := fun z => e3 ((nI_eq (by omega) (by omega)).mp (z.trans nl_3))
      rw [if_neg hne]
      by_cases hz : nI (n 4) < nI (n 6 + 1)
      · rw [if_pos hz]
        exact ok_some ⟨ν0, rfl, z2, z3⟩
      · rw [if_neg hz]
        exact ok_some ⟨ν0, rfl, z2, z3⟩
  obtain ⟨z, hz, ν, rfl, h⟩ := key
  exact ⟨ν, hz, h⟩
/-! judgements -/
def barL (L : Nat) (l : List (Nat × Nat)) : Int64 := mkS fun s => l.any fun q => B (cubS L q.1 q.2) s
theorem sr_barredBy (c : Ce) (m : Nat) {μ : MS} {M : Mv} (hM : Mac (μ.1 0) M) {l : List (Nat × Nat)} (hl : Laid μ l) {k : Nat} {q : Nat × Nat} (hq : l[k]? = some q) : m_X12_barredBy (wr c m μ) m (nI k) = some (cubS M.1 q.1 q.2) := by
  have hk : k < l.length := (List.getElem?_eq_some_iff.mp hq).1
  have h5 := hl.2.1
  obtain ⟨a1, a2, a3, a4⟩ := hl.2.2 k q hq
  unfold m_X12_barredBy
  rw [wr_g29, bind_s, wr_a14 c m μ (by omega), bind_s, wr_g30, bind_s, wr_a15 c m μ (by omega), bind_s, wr_rcv, bind_s, a1, a2, sr_cubeSet c m μ hM.2.2.1 hM.1 (by omega) (by omega), bind_s]
theorem sr_barredAll (c : Ce) (m : Nat) {μ : MS} {M : Mv} (hM : Mac (μ.1 0) M) {l : List (Nat × Nat)} (hl : Laid μ l) : m_X12_barredAll (wr c m μ) m = some (barL M.1 l) := by
  have h5 := hl.2.1
  refine ok_eq ?_
  unfold m_X12_barredAll
  refine ok_call (P := fun o => o = barL M.1 l) (ok_cnt 0 l.length (fun j s => s = (barL M.1 (l.take j), nI j)) (by omega) (by omega) ?_ ?_ ?_) (fun a h => by rw [h]; exact ok_some rfl)
  · rw [List.take_zero]
    have : barL M.1 [] = 0 := by
      refine B_ext0 fun k hk => ?_
      unfold barL
      rw [B_mkS _ hk]
      rfl
    rw [this]
    rfl
  · rintro j _ hj rfl
    have hat : l[j]? = some l[j] := List.getElem?_eq_getElem hj
    generalize l[j] = u at hat
    show Ok ((gI (wr c m μ) 9 31 m).bind _) _
    simp only [wr_g31, bind_s, hl.1, wr_rcv, sr_barredBy c m hM hl hat]
    rw [if_le (by omega) (by omega), if_neg (by omega)]
    refine ok_some ?_
    show (barL M.1 (l.take j) ||| cubS M.1 u.1 u.2, nI j + 1) = _
    rw [nI_1]
    congr 1
    refine B_ext fun k hk => ?_
    unfold barL
    rw [B_or, B_mkS _ hk, B_mkS _ hk, take_s hat, List.any_append]
    simp
  · rintro _ rfl
    show Ok ((gI (wr c m μ) 9 31 m).bind _) _
    simp only [wr_g31, bind_s, hl.1]
    rw [if_pos (Int32.le_refl _), List.take_length]
    exact ok_some rfl
theorem bef_iff {M : Mv} (hw : WM M) (x : Int64) {s : Nat} (hs : s < 64) : B (befS M x) s = (decide (s < 2 ^ M.1) && decide (aftN M.2.1 s 15 4 &&& x ≠ 0)) := by
  have h64 := p2_64 hw.2.1
  unfold befS befN
  rw [B_mkS _ hs]
  by_cases hs2 : s < 2 ^ M.1
  · simp only [hs2, decide_true, Bool.true_and]
    by_cases h0 : aftN M.2.1 s 15 4 &&& x = 0
    · have e1 : decide (aftN M.2.1 s 15 4 &&& x ≠ 0) = false := by simp [h0]
      rw [e1, List.any_eq_false]
      intro t ht
      have ht := List.mem_range.mp ht
      have := congrArg (fun z => B z t) h0
      have this : B (aftN M.2.1 s 15 4 &&& x) t = B 0 t := this
      rw [B_and, B_0] at this
      simp only [Bool.and_eq_true, not_and]
      intro h1 h2
      rw [h1, h2] at this
      cases this
    · have e1 : decide (aftN M.2.1 s 15 4 &&& x ≠ 0) = true := by simp [h0]
      rw [e1, List.any_eq_true]
      obtain ⟨t, ht, hb⟩ := B_ne0 h0
      rw [B_and, Bool.and_eq_true] at hb
      refine ⟨t, List.mem_range.mpr ?_, by rw [hb.1, hb.2]; rfl⟩
      have hb1 := hb.1
      unfold aftN at hb1
      rw [B_mkS _ ht, List.any_eq_true] at hb1
      obtain ⟨i, hi, hi2⟩ := hb1
      rw [Bool.and_eq_true] at hi2
      have hi3 : M.2.1 s i = t := by simpa using hi2.2
      rw [← hi3]
      exact hw.2.2.1 s hs2 i (List.mem_range.mp hi)
  · simp [hs2]
def jdg (M : Mv) (g x : Int64) : Nat := if x &&& M.2.2.1 = 0 then (if befS M x &&& (x ^^^ (-1)) = 0 then (if g &&& (x ^^^ (-1)) = 0 then 0 else 3) else 2) else 1
theorem sr_leadIn (c : Ce) (m : Nat) {μ : MS} {M : Mv} (hM : Mac (μ.1 0) M) (hw : WM M) (x : Int64) : m_X12_leadIn (wr c m μ) m x = some (lowI (befS M x &&& (x ^^^ (-1)))) := by
  have hL := hM.2.2.1
  have h26 := p2_64 hL
  have hS := hM.2.2.2.2.2.2.2.2
  have hb : ∀ s, s < 2 ^ M.1 → B (befS M x &&& (x ^^^ (-1))) s = (decide (aftN M.2.1 s 15 4 &&& x ≠ 0) && !B x s) := by
    intro s hs
    rw [B_and, B_inv _ (by omega), bef_iff hw x (by omega)]
    simp [hs]
  refine ok_eq ?_
  unfold m_X12_leadIn
  refine ok_call (P := fun o => Sum.elim (fun w => some w) (fun _ => some (-1 : Int32)) o = some (lowI (befS M x &&& (x ^^^ (-1))))) (ok_cnt 0 (2 ^ M.1) (fun n s => s = nI n ∧ ∀ j, j < n → B (befS M x &&& (x ^^^ (-1))) j = false) (by omega) (Nat.zero_le _) ⟨rfl, fun _ h => by omega⟩ ?_ ?_) (fun a h => ok_of h rfl)
  · rintro n _ hn ⟨rfl, hl⟩
    simp only [wr_rcv, bind_s, sr_states c m μ hL hM.1]
    rw [if_le (by omega) (by omega), if_neg (by omega), mh_has _ (by omega), bind_s, if_b]
    have hbn := hb n hn
    by_cases h1 : B x n = true
    · rw [if_pos h1]
      refine ok_some ⟨nI_1 n, fun j hj => ?_⟩
      by_cases e : j = n
      · rw [e, hbn, h1]; simp
      · exact hl j (by omega)
    · rw [if_neg h1, sr_after c m μ hL hS hn, bind_s]
      have h1' : B x n = false := by simpa using h1
      by_cases h0 : aftN M.2.1 n 15 4 &&& x = 0
      · rw [if_pos (lcmp_0.mpr h0)]
        refine ok_some ⟨nI_1 n, fun j hj => ?_⟩
        by_cases e : j = n
        · rw [e, hbn, h0]; simp
        · exact hl j (by omega)
      · rw [if_neg (fun z => h0 (lcmp_0.mp z))]
        refine ok_some ?_
        show some (nI n) = _
        rw [lowI_some (lowS_at (by omega) (by rw [hbn, h1']; simp [h0]) hl)]
  · rintro _ ⟨rfl, hl⟩
    simp only [wr_rcv, bind_s, sr_states c m μ hL hM.1]
    rw [if_pos (Int32.le_refl _)]
    refine ok_some ?_
    show some (-1 : Int32) = _
    rw [lowI_none (lowS_none fun j hj => ?_)]
    by_cases h : j < 2 ^ M.1
    · exact hl j h
    · rw [B_and, bef_hi M x hj (by omega)]
      rfl
theorem low_m1 (x : Int64) : (lowI x = -1) = (x = 0) := by
  refine propext ⟨fun h => ?_, fun h => ?_⟩
  · by_cases h0 : x = 0
    · exact h0
    · obtain ⟨k, h1, _, h3, _⟩ := bitsL_low h0
      rw [lowI_some h3] at h
      exact absurd h (nI_m1 (by omega))
  · rw [h, low_bits, bitsL_z]
    rfl
theorem sr_judge (c : Ce) (m : Nat) {μ : MS} {V : Sv} (hr : RV μ V) (hw : WM V.1) (h8 : V.2.1 8 < V.1.2.2.2.1) (x : Int64) : m_X12_judge (wr c m μ) m x = some (nI (jdg V.1 (V.1.2.2.2.2 (V.2.1 8)) x)) := by
  unfold m_X12_judge jdg
  simp only [wr_rcv, bind_s, sr_sta c m hr, sr_leadIn c m hr.1 hw, sr_aim c m hr h8, lcmp_0, low_m1]
  by_cases h1 : x &&& V.1.2.2.1 = 0
  · rw [if_pos h1, if_pos h1]
    by_cases h2 : befS V.1 x &&& (x ^^^ (-1)) = 0
    · rw [if_pos h2, if_pos h2]
      by_cases h3 : V.1.2.2.2.2 (V.2.1 8) &&& (x ^^^ (-1)) = 0
      · rw [if_pos h3, if_pos h3]; rfl
      · rw [if_neg h3, if_neg h3]; rfl
    · rw [if_neg h2, if_neg h2]; rfl
  · rw [if_neg h1, if_neg h1]; rfl
theorem ss_judge {ce : Ce} {nx : Nat} {A : Nat → Nat} {κ : Nat × Nat × Nat} {V : Sv} (h : SS ce nx A κ V) (h8 : V.2.1 8 < V.1.2.2.2.1) (x : Int64) : m_X8_judgementOf ce (A 0) x = some (nI (jdg V.1 (V.1.2.2.2.2 (V.2.1 8)) x)) := by
  obtain ⟨mp, g1, g2⟩ := ss_mach h
  unfold m_X8_judgementOf jdg
  simp only [g1, bind_s, (cm_states g2).2.2.2, cm_rcv g2, cc_before g2, ss_rcv h, ss_aims h h8, lcmp_0, Int64.and_comm V.1.2.2.1 x]
  by_cases h1 : x &&& V.1.2.2.1 = 0
  · rw [if_pos h1, if_pos h1]
    by_cases h2 : befS V.1 x &&& (x ^^^ (-1)) = 0
    · rw [if_pos h2, if_pos h2]
      by_cases h3 : V.1.2.2.2.2 (V.2.1 8) &&& (x ^^^ (-1)) = 0
      · rw [if_pos h3, if_pos h3]; rfl
      · rw [if_neg h3, if_neg h3]; rfl
    · rw [if_neg h2, if_neg h2]; rfl
  · rw [if_neg h1, if_neg h1]; rfl
/-- sets that have the same of the machine's states -/
def Agr (L : Nat) (x y : Int64) : Prop := ∀ s, s < 2 ^ L → B x s = B y s
theorem agr_and {M : Mv} (hL : M.1 < 7) {x y g : Int64} (h : Agr M.1 x y) (hg : ∀ k, k < 64 → 2 ^ M.1 ≤ k → B g k = false) : g &&& x = g &&& y ∧ g &&& (x ^^^ (-1)) = g &&& (y ^^^ (-1)) := by
  refine ⟨B_ext fun k hk => ?_, B_ext fun k hk => ?_⟩
  · rw [B_and, B_and]
    by_cases e : k < 2 ^ M.1
    · rw [h k e]
    · rw [hg k hk (by omega)]; rfl
  · rw [B_and, B_and, B_inv _ hk, B_inv _ hk]
    by_cases e : k < 2 ^ M.1
    · rw [h k e]
    · rw [hg k hk (by omega)]; rfl
theorem agr_bef {M : Mv} {x y : Int64} (h : Agr M.1 x y) : befS M x = befS M y := by
  refine B_ext fun k hk => ?_
  unfold befS befN
  rw [B_mkS _ hk, B_mkS _ hk]
  congr 1
  refine any_congr fun t ht => ?_
  rw [h t (List.mem_range.mp ht)]
theorem agr_all {M : Mv} (hw : WM M) {x y g : Int64} (h : Agr M.1 x y) (hg : ∀ k, k < 64 → 2 ^ M.1 ≤ k → B g k = false) : M.2.2.1 &&& x = M.2.2.1 &&& y ∧ befS M x &&& (x ^^^ (-1)) = befS M y &&& (y ^^^ (-1)) ∧ g &&& (x ^^^ (-1)) = g &&& (y ^^^ (-1)) := by
  refine ⟨(agr_and hw.2.1 h hw.2.2.2.1).1, ?_, (agr_and hw.2.1 h hg).2⟩
  rw [agr_bef h]
  exact (agr_and hw.2.1 h (fun k hk h2 => bef_hi M y hk h2)).2
theorem jdg_agr {M : Mv} (hw : WM M) {x y g : Int64} (h : Agr M.1 x y) (hg : ∀ k, k < 64 → 2 ^ M.1 ≤ k → B g k = false) : jdg M g x = jdg M g y := by
  obtain ⟨h1, h2, h3⟩ := agr_all hw h hg
  unfold jdg
  rw [Int64.and_comm x, Int64.and_comm y, h1, h2, h3]
theorem agr_bar {L : Nat} (hL : L < 7) {l : List Cu} (h : ∀ q, q ∈ l → q.2.1 < 2 ^ L) : Agr L (uniS l) (barL L (l.map Prod.snd)) := by
  have h26 := p2_64 hL
  intro s hs
  unfold uniS barL
  rw [B_mkS _ (show s < 64 by omega), B_mkS _ (show s < 64 by omega), List.any_map]
  induction l with
  | nil => rfl
  | cons q l ih =>
    rw [List.any_cons, List.any_cons, ih (fun r hr => h r (List.mem_cons_of_mem _ hr))]
    congr 1
    exact cub_6 hL (h q List.mem_cons_self) hs
