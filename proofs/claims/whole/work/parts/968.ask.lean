/-! THE CLASS: what a search asks -/
def WC (M : Mv) (fr : List Cu) : Prop := ∀ q, q ∈ fr → 1 ≤ q.1 ∧ q.1 < 127 ∧ q.2.1 < 2 ^ M.1 ∧ q.2.2 < 64
theorem drop_mem {fr : List Cu} (hC : ∀ q, q ∈ fr → q.1 < 127) {f : Nat} (hf : f ≤ 128) (q : Cu) : q ∈ (srtF fr).drop (stR (srtF fr) f) ↔ q ∈ fr ∧ f ≤ q.1 := by
  obtain ⟨Y, h1, h2⟩ := srtN_cut fr f 128 hf
  rw [stR_srt fr hf]
  have e : (srtF fr).drop (srtN fr f).length = Y := by
    show (srtN fr 128).drop _ = Y
    rw [h1, List.drop_left]
  rw [e]
  constructor
  · intro hq
    refine ⟨?_, h2 q hq⟩
    have : q ∈ srtN fr 128 := by rw [h1]; exact List.mem_append.mpr (Or.inr hq)
    exact ((srtN_mem fr q 128).mp this).1
  · rintro ⟨hq, hle⟩
    have : q ∈ srtN fr 128 := (srtN_mem fr q 128).mpr ⟨hq, by have := hC q hq; omega⟩
    rw [h1] at this
    rcases List.mem_append.mp this with h3 | h3
    · have := ((srtN_mem fr q f).mp h3).2
      omega
    · exact h3
theorem wth_eq {M : Mv} (hL : M.1 < 7) {fr : List Cu} (hC : WC M fr) {f : Nat} (h0 : 0 < f) (hf : f ≤ 128) : allS M.1 &&& (uniS ((srtF fr).drop (stR (srtF fr) f)) ^^^ (-1)) = wth M fr f := by
  have h64 := p2_64 hL
  refine B_ext fun s hs => ?_
  unfold wth opnS
  rw [if_neg (by omega)]
  unfold opnN
  rw [B_and, B_inv _ hs, B_mkS _ hs, B_mkS _ hs, List.take_length]
  unfold uniS
  rw [B_mkS _ hs]
  by_cases hsl : s < 2 ^ M.1
  · simp only [hsl, decide_true, Bool.true_and]
    cases ha : (fr.all fun q => decide (q.1 < f) || !B (cubS M.1 q.2.1 q.2.2) s) with
    | true =>
      rw [List.all_eq_true] at ha
      rw [Bool.not_eq_true']
      rw [List.any_eq_false]
      intro q hq
      have hq := (drop_mem (fun q hq => (hC q hq).2.1) hf q).mp hq
      have := ha q hq.1
      have hnf : ¬ q.1 < f := by omega
      simp only [hnf, decide_false, Bool.false_or] at this
      rw [cub_6 hL (hC q hq.1).2.2.1 hsl]
      simpa using this
    | false =>
      rw [List.all_eq_false] at ha
      obtain ⟨q, hq, hz⟩ := ha
      rw [Bool.not_eq_false']
      rw [List.any_eq_true]
      have hle : f ≤ q.1 := by
        refine Nat.le_of_not_lt fun hlt => hz ?_
        simp [hlt]
      refine ⟨q, (drop_mem (fun q hq => (hC q hq).2.1) hf q).mpr ⟨hq, hle⟩, ?_⟩
      rw [cub_6 hL (hC q hq).2.2.1 hsl]
      have hnf : ¬ q.1 < f := by omega
      simpa [hnf] using hz
  · simp [hsl]
theorem ss_within {ce : Ce} {nx : Nat} {A : Nat → Nat} {κ : Nat × Nat × Nat} {M : Mv} {n : Nat → Nat} {fr : List Cu} {Y : List Ln × (Nat → UInt32) × List (Nat × Nat)} (h : SS ce nx A κ (M, n, fr, Y)) (hC : WC M fr) {f : Nat} (hf : f ≤ 128) : m_X8_statesWithin ce (A 0) (nI f) = some (wth M fr f) := by
  obtain ⟨mp, hm1, hm2⟩ := ss_mach h
  have hL : M.1 < 7 := hm2.1.2.1
  obtain ⟨_, aa, sa, la, Af, Sf, Df, u1, u2, u3, u4, c1, c2⟩ := hm2
  unfold m_X8_statesWithin
  by_cases h0 : f = 0
  · subst h0
    rw [if_neg (show ¬ (0 : Int32) < nI 0 by decide), hm1, bind_s, gJ_c (k := 3) c1 rfl, bind_s]
    rfl
  · have hp : (0 : Int32) < nI f := nI_lt (show 0 < f by omega) (by omega)
    have hle := stR_le (srtF fr) f
    have hrow := ss_row h
    dsimp only at hrow
    have hlen : (srtF fr).length < 10000 := by
      obtain ⟨F, C, S, _, _, _, _, h5, h6, _⟩ := hrow
      exact Nat.lt_of_le_of_lt h5 h6
    rw [if_pos hp, hm1, bind_s, gJ_c (k := 2) c1 rfl, bind_s, ss_r11 h, bind_s, bind_s, cw_rcv hrow, bind_s, cw_startOf hrow (by omega), bind_s, bind_s, cw_unionFrom hrow (by omega), bind_s]
    exact congrArg some (wth_eq hL hC (by omega) hf)
theorem ss_keeps {ce : Ce} {nx : Nat} {A : Nat → Nat} {κ : Nat × Nat × Nat} {V : Sv} (h : SS ce nx A κ V) {m b : Nat} (hm : m < 2 ^ V.1.1) (hb : b < 64) (x : Int64) : m_X8_keepsOut ce (A 0) (nI (m * 64 + b)) x = some (if clsd V.1.1 V.1.2.1 x (cubS V.1.1 m b) then 1 else 0) := by
  obtain ⟨mp, hm1, hm2⟩ := ss_mach h
  have h64 := p2_64 hm2.1.2.1
  have hk := kpo_iff hm2.1 (b := b) hm x
  have hrc : rcv ce 3 mp = some () := by
    obtain ⟨_, aa, sa, la, Af, Sf, Df, u1, u2, u3, u4, c1, c2⟩ := hm2
    exact rcv_c c1
  unfold m_X8_keepsOut
  rw [cc_statesOf _ (by omega) hb, bind_s, hm1, bind_s, hrc, bind_s, cc_before hm2, bind_s]
  cases hc : clsd V.1.1 V.1.2.1 x (cubS V.1.1 m b) with
  | true =>
    rw [if_pos (lcmp_0.mpr (hk.mpr hc))]
    rfl
  | false =>
    rw [if_neg (fun z => by have := hk.mp (lcmp_0.mp z); rw [hc] at this; cases this)]
    rfl
theorem init_6 {M : Mv} (hw : WM M) {m b : Nat} (hm : m < 2 ^ M.1) : (cubS 6 m b &&& M.2.2.1 = 0) ↔ (cubS M.1 m b &&& M.2.2.1 = 0) := by
  have h64 := p2_64 hw.2.1
  have e : cubS 6 m b &&& M.2.2.1 = cubS M.1 m b &&& M.2.2.1 := by
    refine B_ext fun s hs => ?_
    rw [B_and, B_and]
    by_cases hsl : s < 2 ^ M.1
    · rw [cub_6 hw.2.1 hm hsl]
    · rw [hw.2.2.2.1 s hs (by omega)]
      simp
  rw [e]
theorem ss_hasInit {ce : Ce} {nx : Nat} {A : Nat → Nat} {κ : Nat × Nat × Nat} {V : Sv} (h : SS ce nx A κ V) {m b : Nat} (hm : m < 2 ^ V.1.1) (hb : b < 64) : m_X8_hasInit ce (A 0) (nI (m * 64 + b)) = some (if cubS V.1.1 m b &&& V.1.2.2.1 = 0 then 0 else 1) := by
  obtain ⟨mp, hm1, hm2⟩ := ss_mach h
  have h64 := p2_64 hm2.1.2.1
  have hk := init_6 hm2.1 (b := b) hm
  obtain ⟨_, aa, sa, la, Af, Sf, Df, u1, u2, u3, u4, c1, c2⟩ := hm2
  unfold m_X8_hasInit
  rw [cc_statesOf _ (by omega) hb, bind_s, hm1, bind_s, gJ_c (k := 3) c1 rfl, bind_s]
  by_cases hc : cubS V.1.1 m b &&& V.1.2.2.1 = 0
  · rw [if_pos (lcmp_0.mpr (hk.mpr hc)), if_pos hc]
  · rw [if_neg (fun z => hc (hk.mp (lcmp_0.mp z))), if_neg hc]
theorem cm_leadTo {ce : Ce} {U : Nat → Prop} {p : Nat} {M : Mv} (hm : MA ce U p M) {t : Nat} (ht : t < 2 ^ M.1) : m_X5_leadingTo ce p (nI t) = some (ledS M t) := by
  have h26 := p2_64 hm.1.2.1
  obtain ⟨_, aa, sa, la, Af, Sf, Df, u0, u1, u2, u3, k1, k2, k3, k4, k5, k6, k7⟩ := hm
  unfold m_X5_leadingTo
  rw [if_neg (nI_pos (by omega)), gA_c (k := 6) (x := la) k1 rfl, bind_s, alen_L k6, bind_s, if_le (by omega) (by omega), if_neg (by omega), bind_s, aL_c k6 ht (by omega), bind_s, k7 t ht]
theorem ss_ahead {ce : Ce} {nx : Nat} {A : Nat → Nat} {κ : Nat × Nat × Nat} {M : Mv} {n : Nat → Nat} {fr : List Cu} {Y : List Ln × (Nat → UInt32) × List (Nat × Nat)} (h : SS ce nx A κ (M, n, fr, Y)) (hC : WC M fr) {st f : Nat} (hst : st < 2 ^ M.1) (hf : f ≤ 128) : m_X8_lowestAhead ce (A 0) (nI st) (nI f) = some (lowI (ahdS M st (wth M fr f))) := by
  obtain ⟨mp, hm1, hm2⟩ := ss_mach h
  have hL : M.1 < 7 := hm2.1.2.1
  have h64 := p2_64 hL
  have hrc : rcv ce 3 mp = some () := by
    obtain ⟨_, aa, sa, la, Af, Sf, Df, u1, u2, u3, u4, c1, c2⟩ := hm2
    exact rcv_c c1
  unfold m_X8_lowestAhead
  rw [ss_rcv h, bind_s, ss_within h hC hf, bind_s, hm1, bind_s, hrc, bind_s, cm_leadTo hm2 hst, bind_s, cc_lowest, bind_s]
  have e : (wth M fr f &&& ledS M st) &&& (((1 : Int64) <<< ((nI st).toInt64 &&& 63)) ^^^ (-1)) = ahdS M st (wth M fr f) := by
    refine B_ext fun s hs => ?_
    rw [B_and, B_and, B_inv _ hs, B_bit st (by omega) s hs]
    unfold ledS ahdS
    rw [B_mkS _ hs, B_mkS _ hs]
    cases decide (s < 2 ^ M.1) <;> cases B (wth M fr f) s <;> cases B (aftN M.2.1 s 15 4) st <;> by_cases h9 : s = st <;> simp [h9]
  exact congrArg (fun z => some (lowI z)) e
theorem ss_aims {ce : Ce} {nx : Nat} {A : Nat → Nat} {κ : Nat × Nat × Nat} {V : Sv} (h : SS ce nx A κ V) (h8 : V.2.1 8 < V.1.2.2.2.1) : m_X8_aimStates ce (A 0) = some (V.1.2.2.2.2 (V.2.1 8)) := by
  obtain ⟨mp, hm1, ⟨_, _, _, _, _, w6, _⟩, aa, sa, la, Af, Sf, Df, u1, u2, u3, u4, c1, c2, c3, c4⟩ := ss_mach h
  unfold m_X8_aimStates m_X5_hasAim
  rw [hm1, bind_s, ss_r1 h, bind_s, rcv_c c1, bind_s, if_neg (nI_pos (by omega)), gA_c (k := 4) c1 rfl, bind_s, alen_L c2, bind_s, if_le (by omega) (by omega), if_neg (by omega), bind_s]
  show (if (1 : Int32) = 0 then _ else _) = _
  rw [if_neg (by decide), bind_s, gA_c (k := 4) c1 rfl]
  simp only [bind_s]
  rw [aL_c c2 h8 (by omega), bind_s, c3 _ h8]
/-! widen -/
theorem ss_letters {ce : Ce} {nx : Nat} {A : Nat → Nat} {κ : Nat × Nat × Nat} {V : Sv} (h : SS ce nx A κ V) : ∃ mp, gA ce 6 0 (A 0) = some mp ∧ gI ce 3 0 mp = some (nI V.1.1) ∧ gI ce 3 1 mp = some (nI (2 ^ V.1.1)) ∧ gJ ce 3 3 mp = some V.1.2.2.1 := by
  obtain ⟨mp, hm1, _, aa, sa, la, Af, Sf, Df, u1, u2, u3, u4, c1, c2⟩ := ss_mach h
  exact ⟨mp, hm1, gI_c c1 rfl, gI_c c1 rfl, gJ_c c1 rfl⟩
def wcn (b : Bool) (n : Nat → Nat) (ak : Nat) : Nat → Nat := if b then va_up n 12 ak else n
theorem wcn_o (b : Bool) (n : Nat → Nat) (ak : Nat) {k : Nat} (hk : k ≠ 12) : wcn b n ak k = n k := by
  unfold wcn
  cases b with
  | true => exact up_n _ _ _ hk
  | false => rfl
theorem ss_widen {ce : Ce} {nx : Nat} {A : Nat → Nat} {κ : Nat × Nat × Nat} {M : Mv} {n : Nat → Nat} {fr : List Cu} {ob : List Ln} {fl : Nat → UInt32} {cl : List (Nat × Nat)} (h : SS ce nx A κ (M, n, fr, ob, fl, cl)) (hC : WC M fr) (h15 : n 15 < 2 ^ 31) {kk : Nat → Nat} (hK : RK (n 15) fl M.1 kk) {st lv : Nat} (hst : st < 2 ^ M.1) (hlv : lv ≤ 128) (cn : Bool) : Ok (m_X8_widen ce (A 0) (nI st) (nI (lv + 1)) (if cn then 1 else 0)) (fun z => z.1 = nI ((widV M fr kk st lv (n 12)).1 * 64 + (st &&& (widV M fr kk st lv (n 12)).1)) ∧ SS z.2 nx A κ (M, wcn cn n (widV M fr kk st lv (n 12)).2, fr, ob, fl, cl) ∧ Ev ce nx A κ z.2 0 0 A κ) := by
  obtain ⟨mp, hm1, hm2, hm3, hm4⟩ := ss_letters h
  have hL : M.1 < 7 := by
    obtain ⟨_, _, w⟩ := ss_mach h
    exact w.1.2.1
  have h64 := p2_64 hL
  have hlen := ordL_len kk M.1
  have e0 : nI (2 ^ M.1) - 1 = nI (2 ^ M.1 - 1) := by rw [nl_1, pk_sub (Nat.one_le_two_pow)]
  have e1 : nI (lv + 1) - 1 = nI lv := nI_pred lv
  have est : st &&& (2 ^ M.1 - 1) = st := by rw [Nat.and_two_pow_sub_one_eq_mod, Nat.mod_eq_of_lt hst]
  have hn12 : wcn cn n (n 12) = n := by
    unfold wcn
    cases cn with
    | true => exact up_self n 12
    | false => rfl
  unfold m_X8_widen
  rw [hm1, bind_s]
  rw [show gI ce 3 1 mp = some (nI (2 ^ M.1)) from hm3, bind_s, e0, cc_cubeOf, bind_s, ss_rcv h, bind_s, e1, ss_within h hC hlv, bind_s]
  refine ok_call (P := fun o => ∃ d, o = (nI ((widV M fr kk st lv (n 12)).1 * 64 + (st &&& (widV M fr kk st lv (n 12)).1)), d) ∧ SS d nx A κ (M, wcn cn n (widV M fr kk st lv (n 12)).2, fr, ob, fl, cl) ∧ Ev ce nx A κ d 0 0 A κ) (ok_cnt 0 M.1 (fun k s => ∃ d, s = ((nI ((((ordL kk M.1).take k).foldl (widS M fr st lv) (2 ^ M.1 - 1, n 12)).1 * 64 + (st &&& (((ordL kk M.1).take k).foldl (widS M fr st lv) (2 ^ M.1 - 1, n 12)).1)), nI k), d) ∧ SS d nx A κ (M, wcn cn n (((ordL kk M.1).take k).foldl (widS M fr st lv) (2 ^ M.1 - 1, n 12)).2, fr, ob, fl, cl) ∧ Ev ce nx A κ d 0 0 A κ) (by omega) (by omega) ⟨ce, ?_, ?_, Ev_refl _ _ _ _⟩ ?_ ?_) ?_
  · show ((nI ((2 ^ M.1 - 1) * 64 + st), (0 : Int32)), ce) = ((nI ((2 ^ M.1 - 1) * 64 + (st &&& (2 ^ M.1 - 1))), nI 0), ce)
    rw [est]
    rfl
  · show SS ce nx A κ (M, wcn cn n (n 12), fr, ob, fl, cl)
    rw [hn12]
    exact h
  · rintro k _ hk ⟨d, rfl, hS, hE⟩
    have hx : (ordL kk M.1)[k]? = some (ordL kk M.1)[k] := List.getElem?_eq_getElem (by omega)
    have hxl : (ordL kk M.1)[k] < M.1 := ordL_lt kk (List.mem_of_getElem? hx)
    have htk : (ordL kk M.1).take (k + 1) = (ordL kk M.1).take k ++ [(ordL kk M.1)[k]] := (List.take_append_getElem (by omega)).symm
    have hms := widF_le M fr st lv ((ordL kk M.1).take k) (2 ^ M.1 - 1, n 12)
    rw [htk, List.foldl_append, List.foldl_cons, List.foldl_nil]
    generalize (ordL kk M.1)[k] = x at hx hxl
    generalize ((ordL kk M.1).take k).foldl (widS M fr st lv) (2 ^ M.1 - 1, n 12) = s at hms hS
    have hs : s.1 < 2 ^ M.1 := by have : s.1 ≤ 2 ^ M.1 - 1 := hms; have := Nat.two_pow_pos M.1; omega
    have hlt : offN s.1 x < 2 ^ M.1 := by have := offN_le s.1 x; omega
    have hst2 : st &&& s.1 < 64 := Nat.and_lt_two_pow (n := 6) _ (by omega)
    have hof : offN (st &&& s.1) x = st &&& offN s.1 x := by unfold offN; exact Nat.and_assoc _ _ _
    have hst3 : st &&& offN s.1 x < 64 := Nat.and_lt_two_pow (n := 6) _ (by omega)
    obtain ⟨mp2, g1, g2, g3, g4⟩ := ss_letters hS
    have hact := ss_act hS
    have em : wcn cn n s.2 15 = n 15 := wcn_o _ _ _ (by omega)
    have r2 := ss_r2 hS
    have r2 : gI d 6 2 (A 0) = some (nI (n 15)) := by rw [r2]; exact congrArg (fun z => some (nI z)) em
    show Ok ((gA d 6 0 (A 0)).bind _) _
    simp only [g1, bind_s]
    rw [show gI d 3 0 mp2 = some (nI M.1) from g2, bind_s, if_le (by omega) (by omega), if_neg (by omega), ss_r13 hS, bind_s, r2, bind_s, bind_s, ca_rcv hact, bind_s, ca_letterAt hact hL h15 hK hx, bind_s, cc_without (by omega) hst2 (by omega), bind_s, hof, ss_rcv hS, bind_s, ss_hasInit hS hlt hst3, bind_s]
    unfold widS
    show Ok (if (if cubS M.1 (offN s.1 x) (st &&& offN s.1 x) &&& M.2.2.1 = 0 then (0 : Int32) else 1) = 0 then _ else _) _
    by_cases h0 : cubS M.1 (offN s.1 x) (st &&& offN s.1 x) &&& M.2.2.1 = 0
    · rw [if_pos h0, if_pos rfl, if_pos h0]
      have hcnt : Ok (if (if cn = true then (1 : Int32) else 0) = 0 then some ((), d) else (gI d 6 8 (A 0)).bind fun zx23 => (pV d 6 8 (A 0) (.int (zx23 + 1))).bind fun zc24 => some ((), zc24)) (fun z => SS z.2 nx A κ (M, wcn cn n (s.2 + 1), fr, ob, fl, cl) ∧ Ev d nx A κ z.2 0 0 A κ) := by
        cases cn with
        | false => exact ok_iteT rfl (ok_some ⟨hS, Ev_refl _ _ _ _⟩)
        | true =>
          refine ok_iteF (by decide) ?_
          have r8 : gI d 6 8 (A 0) = some (nI s.2) := by
            rw [ss_r8 hS]
            rfl
          rw [r8, bind_s, nI_1]
          refine ok_call (ss_w8 hS (s.2 + 1)) ?_
          rintro d2 ⟨q1, q2⟩
          refine ok_some ⟨?_, q2⟩
          have e9 : va_up (wcn true n s.2) 12 (s.2 + 1) = wcn true n (s.2 + 1) := up_up n 12 s.2 (s.2 + 1)
          rw [e9] at q1
          exact q1
      refine ok_call hcnt ?_
      rintro ⟨u, d2⟩ ⟨q1, q2⟩
      have q1 : SS d2 nx A κ (M, wcn cn n (s.2 + 1), fr, ob, fl, cl) := q1
      have q2 : Ev d nx A κ d2 0 0 A κ := q2
      show Ok ((rcv d2 6 (A 0)).bind _) _
      rw [ss_rcv q1, bind_s, ss_keeps q1 hlt hst3, bind_s]
      show Ok (if (if hld M fr (offN s.1 x) (st &&& offN s.1 x) lv then (1 : Int32) else 0) = 0 then _ else _) _
      rw [if_b]
      cases hld M fr (offN s.1 x) (st &&& offN s.1 x) lv with
      | true =>
        refine ok_some ⟨d2, ?_, q1, Ev_trans hE q2⟩
        show ((_, nI k + 1), _) = ((_, nI (k + 1)), _)
        rw [nI_1]
        rfl
      | false =>
        refine ok_some ⟨d2, ?_, q1, Ev_trans hE q2⟩
        show ((_, nI k + 1), _) = ((_, nI (k + 1)), _)
        rw [nI_1]
        rfl
    · rw [if_neg h0, if_neg (by decide), if_neg h0]
      refine ok_some ⟨d, ?_, hS, hE⟩
      show ((_, nI k + 1), _) = ((_, nI (k + 1)), _)
      rw [nI_1]
  · rintro _ ⟨d, rfl, hS, hE⟩
    have ht : (ordL kk M.1).take M.1 = ordL kk M.1 := List.take_of_length_le (by omega)
    rw [ht] at hS ⊢
    obtain ⟨mp2, g1, g2, g3, g4⟩ := ss_letters hS
    show Ok ((gA d 6 0 (A 0)).bind _) _
    rw [g1, bind_s, show gI d 3 0 mp2 = some (nI M.1) from g2, bind_s, if_le (by omega) (by omega), if_pos (Nat.le_refl _)]
    exact ok_some ⟨d, rfl, hS, hE⟩
  · rintro _ ⟨d, rfl, hS, hE⟩
    exact ok_some ⟨rfl, hS, hE⟩
