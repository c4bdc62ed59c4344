/-! A STEP, apart from any heap -/
def kkf (mode : Nat) (fl : Nat → UInt32) (l : Nat) : Nat := if mode = 0 then (fl l).toNat else if mode = 2 then 2 ^ 32 - (fl l).toNat else 0
/-- the states of a set, from the lowest on -/
def bitsL (x : Int64) : List Nat := (List.range 64).filter (B x)
def addO (lv : Nat) (l : List Nat) (s : List Ln × Nat) : List Ln × Nat := l.foldl (fun s x => (s.1 ++ [(x, lv, s.2 + 1, 0)], s.2 + 1)) s
def badV (M : Mv) (n : Nat → Nat) (fr : List Cu) : Int64 := M.2.2.2.2 (n 8) &&& wth M fr (n 4)
def seekV (V : Sv) : Sv := if badV V.1 V.2.1 V.2.2.1 = 0 then (V.1, va_up (va_up (va_up V.2.1 4 (V.2.1 4 + 1)) 5 2) 6 1, V.2.2) else (V.1, va_up (va_up V.2.1 10 (addO (V.2.1 4) ((bitsL (badV V.1 V.2.1 V.2.2.1)).take 8) (V.2.2.2.1, V.2.1 10)).2) 5 1, V.2.2.1, (addO (V.2.1 4) ((bitsL (badV V.1 V.2.1 V.2.2.1)).take 8) (V.2.2.2.1, V.2.1 10)).1, V.2.2.2.2)
/-- how high a cube comes, and how often it was asked -/
def upF (M : Mv) (fr : List Cu) (mask bits : Nat) : Nat → Nat → Nat → Nat × Nat
  | 0, up, ak => (up, ak)
  | t + 1, up, ak => if hld M fr mask bits up then upF M fr mask bits t (up + 1) (ak + 1) else (up, ak + 1)
def barW (V : Sv) (q : Ln) : Nat × Nat := widV V.1 V.2.2.1 (kkf (V.2.1 15) V.2.2.2.2.1) q.1 (q.2.1 - 1) (V.2.1 12)
def barU (V : Sv) (q : Ln) : Nat × Nat := upF V.1 V.2.2.1 (barW V q).1 (q.1 &&& (barW V q).1) (V.2.1 4 - q.2.1) q.2.1 (barW V q).2
def barV (V : Sv) (k : Nat) (q : Ln) : Sv := (V.1, va_up (va_up V.2.1 12 (barU V q).2) 13 (V.2.1 13 + 1), addC V.2.2.1 (barU V q).1 (barW V q).1 (q.1 &&& (barW V q).1), V.2.2.2.1.eraseIdx k, bumpF V.1.1 (barW V q).1 V.2.2.2.2.1, V.2.2.2.2.2)
/-- the first obligation, at k, is met -/
def meetV (V : Sv) (k : Nat) (q : Ln) : Sv := match lowS (ahdS V.1 q.1 (wth V.1 V.2.2.1 (q.2.1 - 1))) with
  | some s => (V.1, va_up (va_up V.2.1 12 (V.2.1 12 + 1)) 10 (V.2.1 10 + 1), V.2.2.1, V.2.2.2.1 ++ [(s, q.2.1 - 1, V.2.1 10 + 1, q.2.2.1)], V.2.2.2.2)
  | none => barV (V.1, va_up V.2.1 12 (V.2.1 12 + 1), V.2.2) k q
def oblV (V : Sv) : Sv := match bst (fun _ => true) V.2.2.2.1 V.2.2.2.1.length with
  | none => (V.1, va_up V.2.1 5 0, V.2.2)
  | some k => match V.2.2.2.1[k]? with
    | none => V
    | some q => if B V.1.2.2.1 q.1 then (V.1, va_up V.2.1 5 4, V.2.2) else if B (wth V.1 V.2.2.1 q.2.1) q.1 then meetV V k q else (V.1, V.2.1, V.2.2.1, V.2.2.2.1.eraseIdx k, V.2.2.2.2)
def pushS (M : Mv) (at0 : Nat) (s : List Cu × Nat × Nat) (q : Cu) : List Cu × Nat × Nat := if s.1.any (fun r => decide (r = q)) then (if hld M s.1 q.2.1 q.2.2 at0 then (addC s.1 (at0 + 1) q.2.1 q.2.2, s.2.1 + 1, s.2.2 + 1) else (s.1, s.2.1 + 1, s.2.2)) else s
def pushR (V : Sv) : List Cu × Nat × Nat := (V.2.2.1.filter fun q => decide (q.1 = V.2.1 6)).foldl (pushS V.1 (V.2.1 6)) (V.2.2.1, V.2.1 12, V.2.1 14)
def pushV (V : Sv) : Sv := if manyF (pushR V).1 (V.2.1 6) = 0 then (V.1, va_up (va_up (va_up V.2.1 12 (pushR V).2.1) 14 (pushR V).2.2) 5 3, (pushR V).1, V.2.2.2) else if V.2.1 6 + 1 = V.2.1 4 then (V.1, va_up (va_up (va_up (va_up V.2.1 12 (pushR V).2.1) 14 (pushR V).2.2) 6 (V.2.1 6 + 1)) 5 0, (pushR V).1, V.2.2.2) else (V.1, va_up (va_up (va_up V.2.1 12 (pushR V).2.1) 14 (pushR V).2.2) 6 (V.2.1 6 + 1), (pushR V).1, V.2.2.2)
def gonV (V : Sv) : Sv := (V.1, va_up V.2.1 11 (V.2.1 11 + 1), V.2.2)
def stepV (V : Sv) : Sv := if V.2.1 5 = 0 then seekV (gonV V) else if V.2.1 5 = 1 then oblV (gonV V) else pushV (gonV V)
def stepsV : Nat → Sv → Nat × Sv
  | 0, V => (0, V)
  | t + 1, V => if V.2.1 5 < 3 then ((stepsV t (stepV V)).1 + 1, (stepsV t (stepV V)).2) else (0, V)
/-! what a step of the reference leaves as it was -/
def Kp (μ ν : MS) : Prop := (∀ j, (j < 3 ∨ 5424 ≤ j) → ν.1 0 j = μ.1 0 j) ∧ (∀ r, (r = 1 ∨ r = 4 ∨ r = 6 ∨ r = 11) → ν.1 r = μ.1 r) ∧ ν.2.1 5 = μ.2.1 5 ∧ (∀ j, 7 ≤ j → ν.2.2.1 2 j = μ.2.2.1 2 j) ∧ ν.2.2.1 3 = μ.2.2.1 3 ∧ ν.2.2.1 12 = μ.2.2.1 12 ∧ ∀ r, r < 3 → ν.2.2.2 r = μ.2.2.2 r
theorem Kp_refl (μ : MS) : Kp μ μ := ⟨fun _ _ => rfl, fun _ _ => rfl, rfl, fun _ _ => rfl, rfl, rfl, fun _ _ => rfl⟩
theorem Kp_trans {μ ν ρ : MS} (h : Kp μ ν) (g : Kp ν ρ) : Kp μ ρ := by
  obtain ⟨a1, a2, a3, a4, a5, a6, a7⟩ := h
  obtain ⟨b1, b2, b3, b4, b5, b6, b7⟩ := g
  exact ⟨fun j hj => (b1 j hj).trans (a1 j hj), fun r hr => (b2 r hr).trans (a2 r hr), b3.trans a3, fun j hj => (b4 j hj).trans (a4 j hj), b5.trans a5, b6.trans a6, fun r hr => (b7 r hr).trans (a7 r hr)⟩
theorem Kp_mu0 (μ : MS) {b : Nat → Int32} (h : OutA (μ.1 0) b) : Kp μ (mu0 μ b) := ⟨fun j hj => by rw [mu0_a]; exact h j hj, fun r hr => mu0_r μ b (by omega), rfl, fun _ _ => rfl, rfl, rfl, fun _ _ => rfl⟩
theorem Kp_muI (μ : MS) {r : Nat} (hr : r = 8 ∨ r = 9 ∨ r = 10 ∨ r = 13 ∨ r = 14 ∨ r = 15) (b : Nat → Int32) : Kp μ (muI μ r b) := ⟨fun j _ => by rw [muI_n μ b (by omega)], fun s hs => muI_n μ b (by omega), rfl, fun _ _ => rfl, rfl, rfl, fun _ _ => rfl⟩
theorem Kp_muG (μ : MS) {g : Nat → UInt32} (h : ∀ j, 7 ≤ j → g j = μ.2.2.1 2 j) : Kp μ (muG μ g) := ⟨fun _ _ => rfl, fun _ _ => rfl, rfl, fun j hj => by rw [muG_e]; exact h j hj, muG_n μ g (by decide), muG_n μ g (by decide), fun _ _ => rfl⟩
abbrev RV (μ : MS) (V : Sv) : Prop := RR (μ.1 0) (μ.2.2.1 2) V
theorem RR_n {g : Nat → Int32} {h : Nat → UInt32} {M : Mv} {n n2 : Nat → Nat} {X : List Cu × List Ln × (Nat → UInt32) × List (Nat × Nat)} (hr : RR g h (M, n, X)) (hn : ∀ k, k ∈ nums → n2 k = n k) : RR g h (M, n2, X) := ⟨hr.1, fun k hk => by rw [hr.2.1 k hk]; exact congrArg nI (hn k hk).symm, hr.2.2⟩
theorem nums_c {P : Nat → Prop} (h4 : P 4) (h5 : P 5) (h6 : P 6) (h8 : P 8) (h10 : P 10) (h11 : P 11) (h12 : P 12) (h13 : P 13) (h14 : P 14) (h15 : P 15) : ∀ k, k ∈ nums → P k := by
  intro k hk
  simp only [nums, List.mem_cons, List.not_mem_nil, or_false] at hk
  rcases hk with rfl | rfl | rfl | rfl | rfl | rfl | rfl | rfl | rfl | rfl <;> assumption
/-- several numbers written -/
theorem RR_a {g : Nat → Int32} {h : Nat → UInt32} {M : Mv} {n : Nat → Nat} {X : List Cu × List Ln × (Nat → UInt32) × List (Nat × Nat)} (hr : RR g h (M, n, X)) {k : Nat} (hk : k ∈ nums) {x : Int32} {v : Nat} (hx : x = nI v) : RR (va_up g k x) h (M, va_up n k v, X) := by
  rw [hx]
  exact RR_num hr hk v
/-! seek -/
theorem bitsL_0 {x : Int64} (h : bitsL x = []) : x = 0 := by
  refine B_ext0 fun k hk => ?_
  unfold bitsL at h
  rw [List.filter_eq_nil_iff] at h
  have := h k (List.mem_range.mpr hk)
  simpa using this
theorem bitsL_z : bitsL 0 = [] := by
  unfold bitsL
  rw [List.filter_eq_nil_iff]
  intro k _
  rw [B_0]
  decide
theorem filter_low {p : Nat → Bool} {N k : Nat} (hk : k < N) (hp : p k = true) (hl : ∀ j, j < k → p j = false) : (List.range N).filter p = k :: (List.range N).filter fun j => p j && decide (j ≠ k) := by
  have hr : List.range N = List.range k ++ k :: (List.range N).drop (k + 1) := by
    have h1 := List.take_append_drop k (List.range N)
    rw [List.drop_eq_getElem_cons (by simpa using hk)] at h1
    rw [List.take_range, Nat.min_eq_left (by omega)] at h1
    simpa using h1.symm
  have hd : ∀ j, j ∈ (List.range N).drop (k + 1) → j ≠ k := by
    intro j hj
    obtain ⟨i, hi⟩ := List.getElem?_of_mem hj
    rw [List.getElem?_drop] at hi
    obtain ⟨h1, h2⟩ := List.getElem?_eq_some_iff.mp hi
    rw [List.getElem_range] at h2
    omega
  rw [hr, List.filter_append, List.filter_append, List.filter_cons, List.filter_cons, hp]
  have e1 : (List.range k).filter p = [] := by
    rw [List.filter_eq_nil_iff]
    intro j hj
    rw [hl j (List.mem_range.mp hj)]
    decide
  have e2 : ((List.range k).filter fun j => p j && decide (j ≠ k)) = [] := by
    rw [List.filter_eq_nil_iff]
    intro j hj
    rw [hl j (List.mem_range.mp hj)]
    simp
  rw [e1, e2]
  have e3 : (((List.range N).drop (k + 1)).filter fun j => p j && decide (j ≠ k)) = ((List.range N).drop (k + 1)).filter p := by
    refine List.filter_congr fun j hj => ?_
    simp [hd j hj]
  rw [e3]
  simp
theorem bitsL_low {x : Int64} (h : x ≠ 0) : ∃ k, k < 64 ∧ B x k = true ∧ lowS x = some k ∧ bitsL x = k :: bitsL (x &&& (x - 1)) := by
  obtain ⟨k, hk, hb, hl⟩ := B_low h
  refine ⟨k, hk, hb, lowS_at hk hb hl, ?_⟩
  unfold bitsL
  rw [filter_low hk hb hl]
  congr 1
  refine List.filter_congr fun j hj => ?_
  exact (B_pred hk hb hl (List.mem_range.mp hj)).symm
theorem bitsL_lt {x : Int64} {k : Nat} (h : k ∈ bitsL x) : k < 64 ∧ B x k = true := by
  unfold bitsL at h
  rw [List.mem_filter, List.mem_range] at h
  exact h
theorem addO_len (lv : Nat) : ∀ (l : List Nat) (s : List Ln × Nat), (addO lv l s).1.length = s.1.length + l.length ∧ (addO lv l s).2 = s.2 + l.length := by
  intro l
  induction l with
  | nil => intro s; exact ⟨rfl, rfl⟩
  | cons x l ih =>
    intro s
    have := ih (s.1 ++ [(x, lv, s.2 + 1, 0)], s.2 + 1)
    have e : addO lv (x :: l) s = addO lv l (s.1 ++ [(x, lv, s.2 + 1, 0)], s.2 + 1) := rfl
    rw [e, this.1, this.2]
    simp
    omega
theorem addO_snoc (lv : Nat) (l : List Nat) (x : Nat) (s : List Ln × Nat) : addO lv (l ++ [x]) s = ((addO lv l s).1 ++ [(x, lv, (addO lv l s).2 + 1, 0)], (addO lv l s).2 + 1) := by
  unfold addO
  rw [List.foldl_append]
  rfl
theorem rr_seek (c : Ce) (m : Nat) (μ : MS) {V : Sv} (hr : RV μ V) (h8 : V.2.1 8 < V.1.2.2.2.1) (h4 : V.2.1 4 < 2 ^ 30) (hob : V.2.2.2.1.length ≤ 72) : Ok (m_X12_seek (wr c m μ) m) (fun q => ∃ ν, q = ((), wr c m ν) ∧ RV ν (seekV V) ∧ Kp μ ν) := by
  obtain ⟨M, n, fr, ob, fl, cl⟩ := V
  have h8 : n 8 < M.2.2.2.1 := h8
  have h4 : n 4 < 2 ^ 30 := h4
  have hob : ob.length ≤ 72 := hob
  have hna : M.2.2.2.1 ≤ 4 := hr.1.2.2.2.2.2.1
  have ham : lset (μ.1 0) (1 + n 8) = M.2.2.2.2 (n 8) := hr.1.2.2.2.2.2.2.2.1 (n 8) h8
  have e4 : μ.1 0 4 = nI (n 4) := hr.2.1 4 (by decide)
  unfold m_X12_seek
  simp only [wr_g0, wr_rcv, bind_s, mu0_a, ma_of, rd_0, wt_0, rd_1, wt_1, rd_2, wt_2, rd_3, wt_3, rd_4, wt_4, rd_5, wt_5, rd_6, wt_6, rd_7, wt_7, rd_8, wt_8, rd_9, wt_9, rd_10, wt_10, rd_11, wt_11, rd_12, wt_12, rd_13, wt_13, rd_14, wt_14, rd_15, wt_15, rd_16, wt_16, rd_17, wt_17]
  rw [sr_aims c m μ (show n 8 < 4 by omega) (hr.2.1 8 (by decide)), bind_s, e4, sr_opn c m μ (M := M) (fr := fr) hr.1 hr.2.2.1 (by omega), bind_s, ham]
  unfold seekV
  show Ok _ (fun q => ∃ ν, q = ((), wr c m ν) ∧ RV ν (if badV M n fr = 0 then (M, va_up (va_up (va_up n 4 (n 4 + 1)) 5 2) 6 1, fr, ob, fl, cl) else (M, va_up (va_up n 10 (addO (n 4) ((bitsL (badV M n fr)).take 8) (ob, n 10)).2) 5 1, fr, (addO (n 4) ((bitsL (badV M n fr)).take 8) (ob, n 10)).1, fl, cl)) ∧ Kp μ ν)
  have hbd : badV M n fr = M.2.2.2.2 (n 8) &&& wth M fr (n 4) := rfl
  rw [hbd]
  generalize M.2.2.2.2 (n 8) &&& wth M fr (n 4) = bd
  by_cases h0 : bd = 0
  · rw [if_pos (lcmp_0.mpr h0), if_pos h0]
    have em : ∀ (k : Nat) (v : Int32), ma μ k v = mu0 μ (va_up (μ.1 0) k v) := fun _ _ => rfl
    simp only [em, wr_g0, wr_rcv, bind_s, mu0_a, ma_of, rd_0, wt_0, rd_1, wt_1, rd_2, wt_2, rd_3, wt_3, rd_4, wt_4, rd_5, wt_5, rd_6, wt_6, rd_7, wt_7, rd_8, wt_8, rd_9, wt_9, rd_10, wt_10, rd_11, wt_11, rd_12, wt_12, rd_13, wt_13, rd_14, wt_14, rd_15, wt_15, rd_16, wt_16, rd_17, wt_17]
    refine ok_some ⟨_, rfl, ?_, Kp_mu0 μ (OutA_trans (OutA_up _ (by omega) (by omega) _) (OutA_trans (OutA_up _ (by omega) (by omega) _) (OutA_up _ (by omega) (by omega) _)))⟩
    show RR ((mu0 μ _).1 0) ((mu0 μ _).2.2.1 2) _
    rw [mu0_a]
    exact RR_a (RR_a (RR_a hr (k := 4) (by decide) (nI_1 _)) (k := 5) (by decide) nl_2) (k := 6) (by decide) nl_1
  · rw [if_neg (fun z => h0 (lcmp_0.mp z)), if_neg h0]
    have hlen : ((bitsL bd).take 8).length ≤ 8 := by rw [List.length_take]; omega
    generalize hl8 : (bitsL bd).take 8 = l8 at hlen
    refine ok_call (P := fun o => ∃ b, o = ((), wr c m (mu0 μ b)) ∧ RR b (μ.2.2.1 2) (M, va_up n 10 (addO (n 4) l8 (ob, n 10)).2, fr, (addO (n 4) l8 (ob, n 10)).1, fl, cl) ∧ OutA (μ.1 0) b) (ok_cnt 0 l8.length (fun j s => ∃ b x, s = ((x, nI j), wr c m (mu0 μ b)) ∧ bitsL x = (bitsL bd).drop j ∧ RR b (μ.2.2.1 2) (M, va_up n 10 (addO (n 4) (l8.take j) (ob, n 10)).2, fr, (addO (n 4) (l8.take j) (ob, n 10)).1, fl, cl) ∧ OutA (μ.1 0) b) (by omega) (by omega) ⟨μ.1 0, bd, by rw [mu0_self]; rfl, rfl, ?_, OutA_refl _⟩ ?_ ?_) ?_
    · refine RR_n hr (nums_c ?_ ?_ ?_ ?_ ?_ ?_ ?_ ?_ ?_ ?_) <;> rfl
    · rintro j _ hj ⟨b, x, rfl, hx, hR, hO⟩
      have hlb : l8.length ≤ (bitsL bd).length := by rw [← hl8, List.length_take]; omega
      have hjb : j < (bitsL bd).length := by omega
      have hx0 : x ≠ 0 := by
        intro e
        rw [e, bitsL_z, List.drop_eq_getElem_cons hjb] at hx
        cases hx
      obtain ⟨k, hk, hb, hlo, hbl⟩ := bitsL_low hx0
      have hkj : l8[j]? = some k := by
        rw [hbl, List.drop_eq_getElem_cons hjb] at hx
        have h1 : k = (bitsL bd)[j] := (List.cons.inj hx).1
        have h2 : j < 8 := by omega
        rw [← hl8, List.getElem?_take, if_pos h2, List.getElem?_eq_getElem hjb, h1]
      have htk : l8.take (j + 1) = l8.take j ++ [k] := by
        rw [List.take_add_one, hkj]
        rfl
      have hR4 : b 4 = nI (n 4) := hR.2.1 4 (by decide)
      have hol := (addO_len (n 4) (l8.take j) (ob, n 10)).1
      rw [List.length_take] at hol
      have hol : (addO (n 4) (l8.take j) (ob, n 10)).1.length = ob.length + min j l8.length := hol
      rw [nl_8, if_le (by omega) (by omega), if_neg (by omega), if_neg (fun z => hx0 (lcmp_0.mp z)), sr_lowest, bind_s]
      simp only [wr_g0, wr_rcv, bind_s, mu0_a, ma_of, rd_0, wt_0, rd_1, wt_1, rd_2, wt_2, rd_3, wt_3, rd_4, wt_4, rd_5, wt_5, rd_6, wt_6, rd_7, wt_7, rd_8, wt_8, rd_9, wt_9, rd_10, wt_10, rd_11, wt_11, rd_12, wt_12, rd_13, wt_13, rd_14, wt_14, rd_15, wt_15, rd_16, wt_16, rd_17, wt_17]
      have hlI : lowI x = nI k := by
        unfold lowI
        rw [hlo]
      rw [hlI, hR4]
      refine ok_call (rr_oblige c m μ hR (by omega) k (n 4) 0) ?_
      rintro _ ⟨b2, rfl, hR2, hO2⟩
      refine ok_some ⟨b2, x &&& (x - 1), ?_, ?_, ?_, OutA_trans hO hO2⟩
      · show ((_, nI j + 1), _) = ((_, nI (j + 1)), _)
        rw [nI_1]
      · have : bitsL (x &&& (x - 1)) = (bitsL x).drop 1 := by rw [hbl]; rfl
        rw [this, hx, List.drop_drop]
      · rw [htk, addO_snoc]
        rw [up_e, up_up] at hR2
        exact hR2
    · rintro _ ⟨b, x, rfl, hx, hR, hO⟩
      rw [List.take_length] at hR
      rw [nl_8, if_le (by omega) (by omega)]
      by_cases h8l : 8 ≤ l8.length
      · rw [if_pos h8l]
        exact ok_some ⟨b, rfl, hR, hO⟩
      · rw [if_neg h8l]
        have : x = 0 := by
          apply bitsL_0
          rw [hx]
          rw [← hl8, List.length_take] at h8l ⊢
          exact List.drop_eq_nil_of_le (by omega)
        rw [if_pos (lcmp_0.mpr this)]
        exact ok_some ⟨b, rfl, hR, hO⟩
    · rintro _ ⟨b, rfl, hR, hO⟩
      simp only [wr_g0, wr_rcv, bind_s, mu0_a, ma_of, rd_0, wt_0, rd_1, wt_1, rd_2, wt_2, rd_3, wt_3, rd_4, wt_4, rd_5, wt_5, rd_6, wt_6, rd_7, wt_7, rd_8, wt_8, rd_9, wt_9, rd_10, wt_10, rd_11, wt_11, rd_12, wt_12, rd_13, wt_13, rd_14, wt_14, rd_15, wt_15, rd_16, wt_16, rd_17, wt_17]
      refine ok_some ⟨_, rfl, ?_, Kp_mu0 μ (OutA_trans hO (OutA_up _ (by omega) (by omega) _))⟩
      show RR ((mu0 μ _).1 0) ((mu0 μ _).2.2.1 2) _
      rw [mu0_a]
      exact RR_a hR (k := 5) (by decide) nl_1
