/-! THE REFERENCE: one obligation -/
theorem KO_congr {mode L : Nat} {f g : Nat → UInt32} {kk : Nat → Nat} (h : ∀ l, l < L → g l = f l) (hk : KO mode f L kk) : KO mode g L kk := by
  intro l o hl ho
  rw [h l hl, h o ho]
  exact hk l o hl ho
theorem bmp2_congr {L mask : Nat} {f g : Nat → UInt32} (h : ∀ l, l < 7 → g l = f l) : ∀ l, l < 7 → bmp2 L mask g l = bmp2 L mask f l := by
  intro l hl
  unfold bmp2 bmp1
  by_cases h6 : l = 6
  · rw [h6, up_e, up_e, h 6 (by omega)]
  · rw [up_n _ _ _ h6, up_n _ _ _ h6, h l hl, h 6 (by omega)]
theorem any_congr {l : List Nat} {p q : Nat → Bool} (h : ∀ x, x ∈ l → p x = q x) : l.any p = l.any q := by
  induction l with
  | nil => rfl
  | cons x l ih => rw [List.any_cons, List.any_cons, h x List.mem_cons_self, ih fun y hy => h y (List.mem_cons_of_mem _ hy)]
theorem bmpG_congr {L mask : Nat} (hL : L < 7) {f g : Nat → UInt32} (h : ∀ l, l < 7 → g l = f l) : bmpG L mask g = bmpG L mask f := by
  unfold bmpG
  refine any_congr fun l hl => ?_
  rw [bmp2_congr h l (by have := List.mem_range.mp hl; omega)]
theorem bumpF_congr {L mask : Nat} (hL : L < 7) {f g : Nat → UInt32} (h : ∀ l, l < 7 → g l = f l) : ∀ l, l < 7 → bumpF L mask g l = bumpF L mask f l := by
  intro l hl
  unfold bumpF
  rw [bmpG_congr hL h]
  cases bmpG L mask f with
  | true =>
    show bmp3 _ 7 l = bmp3 _ 7 l
    unfold bmp3
    rw [if_pos hl, if_pos hl, bmp2_congr h l hl]
  | false => exact bmp2_congr h l hl
theorem bumpF_out {L mask : Nat} (hL : L < 7) (f : Nat → UInt32) {j : Nat} (hj : 7 ≤ j) : bumpF L mask f j = f j := by
  have e : bmp2 L mask f j = f j := by
    unfold bmp2 bmp1
    rw [up_n _ _ _ (by omega), if_neg (by omega)]
  unfold bumpF
  cases bmpG L mask f with
  | true =>
    show bmp3 _ 7 j = _
    unfold bmp3
    rw [if_neg (by omega), e]
  | false => exact e
theorem BOk_congr {L mask : Nat} (hL : L < 7) {f g : Nat → UInt32} (h : ∀ l, l < 7 → g l = f l) (hb : BOk L mask f) : BOk L mask g := by
  refine ⟨fun l hl => ?_, ?_, fun l hl => ?_⟩
  · rw [h l (by omega), h 6 (by omega)]; exact hb.1 l hl
  · rw [h 6 (by omega)]; exact hb.2.1
  · rw [bmp2_congr h l hl]; exact hb.2.2 l hl
theorem upF_le (M : Mv) (fr : List Cu) (mask bits : Nat) : ∀ t up ak, up ≤ (upF M fr mask bits t up ak).1 ∧ (upF M fr mask bits t up ak).1 ≤ up + t := by
  intro t
  induction t with
  | zero => intro up ak; exact ⟨Nat.le_refl _, Nat.le_refl _⟩
  | succ t ih =>
    intro up ak
    rw [upF]
    split
    · have := ih (up + 1) (ak + 1)
      omega
    · show up ≤ up ∧ up ≤ up + (t + 1)
      omega
theorem rr_addCube (c : Ce) (m : Nat) (μ : MS) {a : Nat → Int32} {h : Nat → UInt32} {M : Mv} {n : Nat → Nat} {fr : List Cu} {X : List Ln × (Nat → UInt32) × List (Nat × Nat)} (hr : RR a h (M, n, fr, X)) (hl : fr.length < 5000) {f mask bits : Nat} (hf : f < 128) (hm : mask < 64) (hb : bits < 64) : Ok (m_X12_addCube (wr c m (mu0 μ a)) m (nI mask) (nI bits) (nI f)) (fun q => ∃ b, q = ((), wr c m (mu0 μ b)) ∧ RR b h (M, n, addC fr f mask bits, X) ∧ OutA a b) := by
  refine ok_mono (sr_addCube c m μ hr.2.2.1 hl hf hm hb) ?_
  rintro _ ⟨b, rfl, hB, hE⟩
  obtain ⟨b1, b2, b3, b4, b5, b6⟩ := hr
  refine ⟨b, rfl, ⟨Mac_congr (hE _ (by omega)) (hE _ (by omega)) (fun j _ _ => hE j (by omega)) b1, Num_congr (fun j hj => ?_) b2, hB, Lin_congr (hE _ (by omega)) (fun j _ _ => hE j (by omega)) b4, b5, Clm_congr (hE _ (by omega)) (fun j _ _ => hE j (by omega)) b6⟩, fun j hj => hE j (by omega)⟩
  have := nums_r hj
  exact hE j (by omega)
/-- what a step of the reference asks of numbers -/
def Wr (V : Sv) : Prop := V.2.1 4 < 100 ∧ V.2.1 6 < 100 ∧ V.2.1 8 < V.1.2.2.2.1 ∧ V.2.1 15 < 3 ∧ V.2.1 5 < 5 ∧ V.2.2.1.length < 4000 ∧ V.2.2.2.1.length ≤ 72 ∧ LB V.2.2.2.1 ∧ (∀ q, q ∈ V.2.2.2.1 → q.2.1 ≤ V.2.1 4 ∧ (q.2.1 = 0 → B V.1.2.2.1 q.1 = true) ∧ q.1 < 2 ^ V.1.1) ∧ KO (V.2.1 15) V.2.2.2.2.1 V.1.1 (kkf (V.2.1 15) V.2.2.2.2.1) ∧ (∀ mask, mask < 64 → BOk V.1.1 mask V.2.2.2.2.1) ∧ ∀ q, q ∈ V.2.2.1 → q.2.2 &&& q.2.1 = q.2.2
theorem rr_barState (c : Ce) (m : Nat) (μ : MS) {V : Sv} (hr : RV μ V) (hw : Wr V) {k : Nat} {q : Ln} (hq : V.2.2.2.1[k]? = some q) (hlv : 0 < q.2.1) : Ok (m_X12_barState (wr c m μ) m (nI k)) (fun r => ∃ ν, r = ((), wr c m ν) ∧ RV ν (barV V k q) ∧ Kp μ ν) := by
  obtain ⟨M, n, fr, ob, fl, cl⟩ := V
  obtain ⟨w1, w2, w3, w4, w5, w6, w7, w8, w9, w10, w11, w12⟩ := hw
  have w1 : n 4 < 100 := w1
  have w4 : n 15 < 3 := w4
  have w6 : fr.length < 4000 := w6
  have w8 : LB ob := w8
  have hq : ob[k]? = some q := hq
  have hkl : k < ob.length := (List.getElem?_eq_some_iff.mp hq).1
  have w9 : q.2.1 ≤ n 4 := (w9 q (List.mem_of_getElem? hq)).1
  have w10 : KO (n 15) fl M.1 (kkf (n 15) fl) := w10
  have w11 : ∀ mask, mask < 64 → BOk M.1 mask fl := w11
  have hL : M.1 < 7 := hr.1.2.2.1
  have hfl : ∀ l, l < 7 → μ.2.2.1 2 l = fl l := hr.2.2.2.2.1
  obtain ⟨q1, q2, q3, q4⟩ := w8 q (List.mem_of_getElem? hq)
  unfold m_X12_barState barV
  simp only [wr_rcv, bind_s]
  rw [rl_0 c m μ hr.2.2.2.1 hq, bind_s, rl_1 c m μ hr.2.2.2.1 hq, bind_s]
  show Ok _ (fun r => ∃ ν, r = ((), wr c m ν) ∧ RV ν (M, va_up (va_up n 12 (barU (M, n, fr, ob, fl, cl) q).2) 13 (n 13 + 1), addC fr (barU (M, n, fr, ob, fl, cl) q).1 (barW (M, n, fr, ob, fl, cl) q).1 (q.1 &&& (barW (M, n, fr, ob, fl, cl) q).1), ob.eraseIdx k, bumpF M.1 (barW (M, n, fr, ob, fl, cl) q).1 fl, cl) ∧ Kp μ ν)
  have hbU : barU (M, n, fr, ob, fl, cl) q = upF M fr (barW (M, n, fr, ob, fl, cl) q).1 (q.1 &&& (barW (M, n, fr, ob, fl, cl) q).1) (n 4 - q.2.1) q.2.1 (barW (M, n, fr, ob, fl, cl) q).2 := rfl
  have hbW : barW (M, n, fr, ob, fl, cl) q = widV M fr (kkf (n 15) fl) q.1 (q.2.1 - 1) (n 12) := rfl
  rw [hbU]
  have hwd := rr_widen c m μ hr (show n 15 < 2 ^ 31 by omega) (KO_congr (fun l hl => hfl l (by omega)) w10) q1 (lv := q.2.1 - 1) (by omega)
  rw [show q.2.1 - 1 + 1 = q.2.1 by omega, ← hbW] at hwd
  have hw64 : (barW (M, n, fr, ob, fl, cl) q).1 < 64 := by
    have h1 : (barW (M, n, fr, ob, fl, cl) q).1 ≤ 2 ^ M.1 - 1 := widF_le M fr q.1 (q.2.1 - 1) (ordL (kkf (n 15) fl) M.1) (2 ^ M.1 - 1, n 12)
    have := p2_64 hL
    omega
  generalize barW (M, n, fr, ob, fl, cl) q = w at hwd hw64
  refine ok_call hwd ?_
  rintro _ ⟨od, rfl⟩
  have hb64 : q.1 &&& w.1 < 64 := Nat.and_lt_two_pow (n := 6) _ hw64
  rw [nI_and]
  have hr1 : RR (va_up (μ.1 0) 12 (nI w.2)) (μ.2.2.1 2) (M, va_up n 12 w.2, fr, ob, fl, cl) := RR_num hr (by decide) w.2
  have hup := upF_le M fr w.1 (q.1 &&& w.1) (n 4 - q.2.1) q.2.1 w.2
  refine ok_call (P := fun o => o = (nI (upF M fr w.1 (q.1 &&& w.1) (n 4 - q.2.1) q.2.1 w.2).1, wr c m (mu0 (muI μ 9 od) (va_up (μ.1 0) 12 (nI (upF M fr w.1 (q.1 &&& w.1) (n 4 - q.2.1) q.2.1 w.2).2))))) (ok_cnt 0 (n 4 - q.2.1) (fun j s => s = (nI (q.2.1 + j), wr c m (mu0 (muI μ 9 od) (va_up (μ.1 0) 12 (nI (w.2 + j))))) ∧ upF M fr w.1 (q.1 &&& w.1) (n 4 - q.2.1) q.2.1 w.2 = upF M fr w.1 (q.1 &&& w.1) (n 4 - q.2.1 - j) (q.2.1 + j) (w.2 + j)) (by omega) (by omega) ⟨rfl, rfl⟩ ?_ ?_) ?_
  · rintro j _ hj ⟨rfl, he⟩
    have hr2 : RR (va_up (μ.1 0) 12 (nI (w.2 + j))) (μ.2.2.1 2) (M, va_up n 12 (w.2 + j), fr, ob, fl, cl) := RR_num hr (by decide) _
    have e4 : (va_up (μ.1 0) 12 (nI (w.2 + j))) 4 = nI (n 4) := by rw [up_n _ _ _ (by decide)]; exact hr.2.1 4 (by decide)
    simp only [wr_g0, wr_rcv, bind_s, mu0_a, ma_of, rd_0, wt_0, rd_1, wt_1, rd_2, wt_2, rd_3, wt_3, rd_4, wt_4, rd_5, wt_5, rd_6, wt_6, rd_7, wt_7, rd_8, wt_8, rd_9, wt_9, rd_10, wt_10, rd_11, wt_11, rd_12, wt_12, rd_13, wt_13, rd_14, wt_14, rd_15, wt_15, rd_16, wt_16, rd_17, wt_17]
    rw [e4, if_le (by omega) (by omega), if_neg (by omega), rr_isAsked c m (muI μ 9 od) hr2 (by omega) (by omega) (by omega), bind_s, if_b, up_e, up_up]
    obtain ⟨t, ht⟩ : ∃ t, n 4 - q.2.1 - j = t + 1 := ⟨n 4 - q.2.1 - j - 1, by omega⟩
    rw [ht, upF] at he
    cases hh : hld M fr w.1 (q.1 &&& w.1) (q.2.1 + j) with
    | true =>
      rw [hh, if_pos rfl] at he
      rw [if_pos rfl]
      refine ok_some ⟨?_, ?_⟩
      · show (nI (q.2.1 + j) + 1, _) = (nI (q.2.1 + (j + 1)), wr c m (mu0 (muI μ 9 od) (va_up (μ.1 0) 12 (nI (w.2 + (j + 1))))))
        rw [nI_1]
        rfl
      · rw [show n 4 - q.2.1 - (j + 1) = t by omega]
        exact he
    | false =>
      rw [hh, if_neg (by decide)] at he
      rw [if_neg (by decide)]
      refine ok_some ?_
      show (nI (q.2.1 + j), _) = (_, _)
      rw [he]
  · rintro _ ⟨rfl, he⟩
    have e4 : (va_up (μ.1 0) 12 (nI (w.2 + (n 4 - q.2.1)))) 4 = nI (n 4) := by rw [up_n _ _ _ (by decide)]; exact hr.2.1 4 (by decide)
    simp only [wr_g0, wr_rcv, bind_s, mu0_a, ma_of, rd_0, wt_0, rd_1, wt_1, rd_2, wt_2, rd_3, wt_3, rd_4, wt_4, rd_5, wt_5, rd_6, wt_6, rd_7, wt_7, rd_8, wt_8, rd_9, wt_9, rd_10, wt_10, rd_11, wt_11, rd_12, wt_12, rd_13, wt_13, rd_14, wt_14, rd_15, wt_15, rd_16, wt_16, rd_17, wt_17]
    rw [e4, if_le (by omega) (by omega), if_pos (by omega)]
    refine ok_some ?_
    show (nI (q.2.1 + (n 4 - q.2.1)), _) = (_, _)
    rw [he, Nat.sub_self, upF]
  · rintro _ rfl
    generalize upF M fr w.1 (q.1 &&& w.1) (n 4 - q.2.1) q.2.1 w.2 = u at hup
    have hr2 : RR (va_up (μ.1 0) 12 (nI u.2)) (μ.2.2.1 2) (M, va_up n 12 u.2, fr, ob, fl, cl) := RR_num hr (by decide) _
    simp only [wr_rcv, bind_s]
    refine ok_call (rr_addCube c m (muI μ 9 od) hr2 (by omega) (f := u.1) (by omega) hw64 hb64) ?_
    rintro _ ⟨b, rfl, hR, hO⟩
    have e13 : b 13 + 1 = nI (n 13 + 1) := by
      rw [hR.2.1 13 (by decide)]
      exact nI_1 _
    simp only [wr_g0, wr_rcv, bind_s, mu0_a, ma_of, rd_0, wt_0, rd_1, wt_1, rd_2, wt_2, rd_3, wt_3, rd_4, wt_4, rd_5, wt_5, rd_6, wt_6, rd_7, wt_7, rd_8, wt_8, rd_9, wt_9, rd_10, wt_10, rd_11, wt_11, rd_12, wt_12, rd_13, wt_13, rd_14, wt_14, rd_15, wt_15, rd_16, wt_16, rd_17, wt_17]
    rw [e13]
    have hR2 : RR (va_up b 13 (nI (n 13 + 1))) (μ.2.2.1 2) (M, va_up (va_up n 12 u.2) 13 (n 13 + 1), addC fr u.1 w.1 (q.1 &&& w.1), ob, fl, cl) := RR_num hR (by decide) _
    have hg2 : ∀ l, l < 7 → (mu0 (muI μ 9 od) (va_up b 13 (nI (n 13 + 1)))).2.2.1 2 l = fl l := hfl
    rw [sr_bump c m (mu0 (muI μ 9 od) (va_up b 13 (nI (n 13 + 1)))) hL (by rw [mu0_a]; exact hR2.1.1) hw64 (BOk_congr hL hg2 (w11 w.1 hw64)), bind_s]
    simp only [wr_rcv, bind_s]
    have eg : (mu0 (muI μ 9 od) (va_up b 13 (nI (n 13 + 1)))).2.2.1 2 = μ.2.2.1 2 := rfl
    rw [eg]
    have ec : muG (mu0 (muI μ 9 od) (va_up b 13 (nI (n 13 + 1)))) (bumpF M.1 w.1 (μ.2.2.1 2)) = mu0 (muG (muI μ 9 od) (bumpF M.1 w.1 (μ.2.2.1 2))) (va_up b 13 (nI (n 13 + 1))) := rfl
    rw [ec]
    have hR3 : RR (va_up b 13 (nI (n 13 + 1))) (bumpF M.1 w.1 (μ.2.2.1 2)) (M, va_up (va_up n 12 u.2) 13 (n 13 + 1), addC fr u.1 w.1 (q.1 &&& w.1), ob, bumpF M.1 w.1 fl, cl) := ⟨hR2.1, hR2.2.1, hR2.2.2.1, hR2.2.2.2.1, bumpF_congr hL hfl, hR2.2.2.2.2.2⟩
    refine ok_call (rr_outLine c m (muG (muI μ 9 od) (bumpF M.1 w.1 (μ.2.2.1 2))) hR3 hkl) ?_
    rintro _ ⟨b2, rfl, hR4, hO4⟩
    refine ok_some ⟨_, rfl, ?_, ?_⟩
    · show RR ((mu0 _ b2).1 0) ((muG (muI μ 9 od) (bumpF M.1 w.1 (μ.2.2.1 2))).2.2.1 2) _
      rw [mu0_a, muG_e]
      exact hR4
    · refine Kp_trans (Kp_muI μ (r := 9) (by omega) od) (Kp_trans (Kp_muG (muI μ 9 od) (fun j hj => bumpF_out hL _ hj)) (Kp_mu0 _ ?_))
      show OutA ((muI μ 9 od).1 0) b2
      rw [muI_n _ _ (by decide)]
      exact OutA_trans (OutA_up _ (by omega) (by omega) _) (OutA_trans hO (OutA_trans (OutA_up _ (by omega) (by omega) _) hO4))
theorem lowI_some {x : Int64} {k : Nat} (h : lowS x = some k) : lowI x = nI k := by
  unfold lowI
  rw [h]
theorem lowI_none {x : Int64} (h : lowS x = none) : lowI x = -1 := by
  unfold lowI
  rw [h]
theorem lowS_lt {x : Int64} {k : Nat} (h : lowS x = some k) : k < 64 ∧ B x k = true := by
  unfold lowS at h
  exact ⟨List.mem_range.mp (List.mem_of_find?_eq_some h), List.find?_some h⟩
theorem rr_obligeOne (c : Ce) (m : Nat) (μ : MS) {V : Sv} (hr : RV μ V) (hw : Wr V) : Ok (m_X12_obligeOne (wr c m μ) m) (fun r => ∃ ν, r = ((), wr c m ν) ∧ RV ν (oblV V) ∧ Kp μ ν) := by
  obtain ⟨M, n, fr, ob, fl, cl⟩ := V
  have hL : M.1 < 7 := hr.1.2.2.1
  have hO : Lin (μ.1 0) ob := hr.2.2.2.1
  have w8 : LB ob := hw.2.2.2.2.2.2.2.1
  have w7 : ob.length ≤ 72 := hw.2.2.2.2.2.2.1
  have em : ∀ (k : Nat) (v : Int32), ma μ k v = mu0 μ (va_up (μ.1 0) k v) := fun _ _ => rfl
  have hnx := sr_nextLine c m μ hO w8 (o := none) (p := fun _ => true) (fun _ => rfl)
  have e0 : oI none = (-1 : Int32) := rfl
  rw [e0] at hnx
  unfold m_X12_obligeOne oblV
  simp only [wr_rcv, bind_s]
  rw [hnx, bind_s]
  show Ok _ (fun r => ∃ ν, r = ((), wr c m ν) ∧ RV ν (match bst (fun _ => true) ob ob.length with | none => (M, va_up n 5 0, fr, ob, fl, cl) | some k => match ob[k]? with | none => (M, n, fr, ob, fl, cl) | some q => if B M.2.2.1 q.1 then (M, va_up n 5 4, fr, ob, fl, cl) else if B (wth M fr q.2.1) q.1 then meetV (M, n, fr, ob, fl, cl) k q else (M, n, fr, ob.eraseIdx k, fl, cl)) ∧ Kp μ ν)
  cases hb : bst (fun _ => true) ob ob.length with
  | none =>
    rw [if_pos e0]
    simp only [em, wr_g0, wr_rcv, bind_s, mu0_a, ma_of, rd_0, wt_0, rd_1, wt_1, rd_2, wt_2, rd_3, wt_3, rd_4, wt_4, rd_5, wt_5, rd_6, wt_6, rd_7, wt_7, rd_8, wt_8, rd_9, wt_9, rd_10, wt_10, rd_11, wt_11, rd_12, wt_12, rd_13, wt_13, rd_14, wt_14, rd_15, wt_15, rd_16, wt_16, rd_17, wt_17]
    refine ok_some ⟨_, rfl, ?_, Kp_mu0 μ (OutA_up _ (by omega) (by omega) _)⟩
    show RR ((mu0 μ _).1 0) _ _
    rw [mu0_a]
    exact RR_a hr (k := 5) (by decide) nl_0
  | some k =>
    have hk := (bst_lt _ ob _ k hb).2
    have hq : ob[k]? = some ob[k] := List.getElem?_eq_getElem hk
    generalize ob[k] = q at hq
    obtain ⟨q1, q2, q3, q4⟩ := w8 q (List.mem_of_getElem? hq)
    obtain ⟨z1, z2, z3⟩ := hw.2.2.2.2.2.2.2.2.1 q (List.mem_of_getElem? hq)
    have z2 : q.2.1 = 0 → B M.2.2.1 q.1 = true := z2
    have e1 : oI (some k) = nI k := rfl
    have hst : lset (μ.1 0) 0 = M.2.2.1 := hr.1.2.2.2.2.2.2.1
    rw [e1, if_neg (nI_m1 (by omega)), rl_0 c m μ hO hq, bind_s, rl_1 c m μ hO hq, bind_s, sr_starts, bind_s, hst, mh_has _ q1, bind_s, if_b]
    simp only [hq]
    show Ok _ (fun r => ∃ ν, r = ((), wr c m ν) ∧ RV ν (if B M.2.2.1 q.1 then (M, va_up n 5 4, fr, ob, fl, cl) else if B (wth M fr q.2.1) q.1 then meetV (M, n, fr, ob, fl, cl) k q else (M, n, fr, ob.eraseIdx k, fl, cl)) ∧ Kp μ ν)
    cases hi : B M.2.2.1 q.1 with
    | true =>
      rw [if_pos rfl, if_pos rfl]
      simp only [em, wr_g0, wr_rcv, bind_s, mu0_a, ma_of, rd_0, wt_0, rd_1, wt_1, rd_2, wt_2, rd_3, wt_3, rd_4, wt_4, rd_5, wt_5, rd_6, wt_6, rd_7, wt_7, rd_8, wt_8, rd_9, wt_9, rd_10, wt_10, rd_11, wt_11, rd_12, wt_12, rd_13, wt_13, rd_14, wt_14, rd_15, wt_15, rd_16, wt_16, rd_17, wt_17]
      refine ok_some ⟨_, rfl, ?_, Kp_mu0 μ (OutA_up _ (by omega) (by omega) _)⟩
      show RR ((mu0 μ _).1 0) _ _
      rw [mu0_a]
      exact RR_a hr (k := 5) (by decide) nl_4
    | false =>
      have hlv : 0 < q.2.1 := Nat.pos_of_ne_zero fun e => by rw [z2 e] at hi; cases hi
      rw [if_neg (by decide), if_neg (by decide), sr_opn c m μ (M := M) (fr := fr) hr.1 hr.2.2.1 (by omega), bind_s, mh_has _ q1, bind_s, if_b]
      cases hwi : B (wth M fr q.2.1) q.1 with
      | false =>
        rw [if_neg (by decide), if_neg (by decide)]
        have h1 := rr_outLine c m μ hr hk
        rw [mu0_self] at h1
        refine ok_call h1 ?_
        rintro _ ⟨b, rfl, hR, hOb⟩
        refine ok_some ⟨_, rfl, ?_, Kp_mu0 μ hOb⟩
        show RR ((mu0 μ b).1 0) _ _
        rw [mu0_a]
        exact hR
      | true =>
        rw [if_pos rfl, if_pos rfl]
        have e12 : μ.1 0 12 + 1 = nI (n 12 + 1) := by rw [hr.2.1 12 (by decide)]; exact nI_1 _
        simp only [em, wr_g0, wr_rcv, bind_s, mu0_a, ma_of, rd_0, wt_0, rd_1, wt_1, rd_2, wt_2, rd_3, wt_3, rd_4, wt_4, rd_5, wt_5, rd_6, wt_6, rd_7, wt_7, rd_8, wt_8, rd_9, wt_9, rd_10, wt_10, rd_11, wt_11, rd_12, wt_12, rd_13, wt_13, rd_14, wt_14, rd_15, wt_15, rd_16, wt_16, rd_17, wt_17]
        rw [e12]
        have hr2 : RR (va_up (μ.1 0) 12 (nI (n 12 + 1))) (μ.2.2.1 2) (M, va_up n 12 (n 12 + 1), fr, ob, fl, cl) := RR_num hr (by decide) _
        have hr3 : RV (mu0 μ (va_up (μ.1 0) 12 (nI (n 12 + 1)))) (M, va_up n 12 (n 12 + 1), fr, ob, fl, cl) := by
          show RR ((mu0 μ _).1 0) (μ.2.2.1 2) _
          rw [mu0_a]
          exact hr2
        have elv : nI q.2.1 - 1 = nI (q.2.1 - 1) := by rw [nl_1, pk_sub (by omega)]
        rw [elv, sr_opn c m _ (M := M) (fr := fr) hr3.1 hr3.2.2.1 (by omega), bind_s, sr_aheadOf c m _ (M := M) hr3.1 q1, bind_s]
        show Ok _ (fun r => ∃ ν, r = ((), wr c m ν) ∧ RV ν (match lowS (ahdS M q.1 (wth M fr (q.2.1 - 1))) with | some s => (M, va_up (va_up n 12 (n 12 + 1)) 10 (n 10 + 1), fr, ob ++ [(s, q.2.1 - 1, n 10 + 1, q.2.2.1)], fl, cl) | none => barV (M, va_up n 12 (n 12 + 1), fr, ob, fl, cl) k q) ∧ Kp μ ν)
        cases hah : lowS (ahdS M q.1 (wth M fr (q.2.1 - 1))) with
        | none =>
          rw [lowI_none hah, if_pos rfl]
          have hw2 : Wr (M, va_up n 12 (n 12 + 1), fr, ob, fl, cl) := hw
          refine ok_call (rr_barState c m _ hr3 hw2 hq hlv) ?_
          rintro _ ⟨ν, rfl, hR, hK⟩
          exact ok_some ⟨ν, rfl, hR, Kp_trans (Kp_mu0 μ (OutA_up _ (by omega) (by omega) _)) hK⟩
        | some s =>
          have hs := (lowS_lt hah).1
          rw [lowI_some hah, if_neg (nI_m1 (by omega)), rl_2 c m _ hr3.2.2.2.1 hq, bind_s]
          refine ok_call (rr_oblige c m μ hr2 (show ob.length < 80 by omega) s (q.2.1 - 1) q.2.2.1) ?_
          rintro _ ⟨b, rfl, hR, hOb⟩
          refine ok_some ⟨_, rfl, ?_, Kp_mu0 μ (OutA_trans (OutA_up _ (by omega) (by omega) _) hOb)⟩
          show RR ((mu0 μ b).1 0) _ _
          rw [mu0_a]
          exact hR
