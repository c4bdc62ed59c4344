/-! TRIALS: what would come -/
theorem meetV_M (V : Sv) (k : Nat) (q : Ln) : (meetV V k q).1 = V.1 := by
  unfold meetV
  repeat' split
  all_goals rfl
theorem stepV_M (V : Sv) : (stepV V).1 = V.1 := by
  unfold stepV
  split
  · unfold seekV
    split <;> rfl
  · split
    · unfold oblV
      split
      · rfl
      · split
        · rfl
        · split
          · rfl
          · split
            · exact meetV_M _ _ _
            · rfl
    · unfold pushV
      split
      · rfl
      · split <;> rfl
theorem stepsV_M : ∀ (k : Nat) (V : Sv), (stepsV k V).2.1 = V.1 := by
  intro k
  induction k with
  | zero => intro V; rfl
  | succ k ih =>
    intro V
    rw [stepsV]
    by_cases h : V.2.1 5 < 3
    · rw [if_pos h]
      exact (ih (stepV V)).trans (stepV_M V)
    · rw [if_neg h]
theorem IV_fr {c : Nat} {V : Sv} (h : IV c V) : ∀ q, q ∈ V.2.2.1 → q.1 < 127 := fun q hq => by
  have := h.2.2.2.1.1 q hq
  have h4 := h.2.1.2.1
  obtain ⟨a1, a2, _⟩ := this
  omega
theorem IV_obl {c : Nat} {V : Sv} (h : IV c V) : V.2.2.2.1.length ≤ 73 := by
  have := OI_len h.2.2.2.2.1
  have := h.2.1.2.1
  omega
theorem bcost_le {c : Nat} {V : Sv} (h : IV c V) (κ : Nat × Nat × Nat) : bcost κ V ≤ 3 * c + 2515 := by
  have h1 := IV_len h
  have h2 := IV_obl h
  have h3 : (srtF V.2.2.1).length = V.2.2.1.length := srtF_len fun q hq => by have := IV_fr h q hq; omega
  have h4 : (clR V.2.2.2.2.2).length ≤ 12 := by
    rw [clR_len]
    exact h.2.2.2.2.2.2.2.1
  unfold bcost
  rw [h3]
  split <;> split <;> split <;> omega
theorem Phi_bcap (κ : Nat × Nat × Nat) (V : Sv) : Phi κ ≤ Phi (bcap κ V) := by
  unfold Phi bcap
  dsimp only
  split <;> split <;> split <;> omega
def Tri (ce : Ce) (nx : Nat) (Z : Nat → Prop) (A T : Nat → Nat) (x w : Nat) : Prop := (rcv ce 8 x = some () ∧ gA ce 8 6 x = some w ∧ gA ce 7 4 w = some (A 0) ∧ gA ce 8 8 x = some (T 0)) ∧ ((∀ i, i < 13 → ∀ j, j < 13 → A i ≠ T j) ∧ (x < nx ∧ Off T x) ∧ w < nx ∧ Off T w) ∧ Liv nx Z T ∧ Liv nx Z A
theorem Tri_es {ce d : Ce} {nx : Nat} {Z : Nat → Prop} {A T T2 : Nat → Nat} {x w : Nat} {κ : Nat × Nat × Nat} {V : Sv} (h : Tri ce nx Z A T x w) (hA : SZ ce nx Z A κ V) (he : Es ce nx T d T2) (K : Nat) : Tri d (nx + K) Z A T2 x w ∧ SZ d (nx + K) Z A κ V := by
  obtain ⟨⟨a1, a2, a3, a4⟩, ⟨b1, ⟨b2, b3⟩, b4, b5⟩, c1, c2⟩ := h
  have hl := (ss_lt hA.1).1
  have f1 := he.2.1 x b2 b3
  have f2 := he.2.1 w b4 b5
  refine ⟨⟨⟨(rcv_fr f1).trans a1, (gA_fr f1).trans a2, (gA_fr f2).trans a3, by rw [he.1]; exact (gA_fr f1).trans a4⟩, ⟨Es_dis he hl b1, ⟨by omega, Off_ev he.2.2 b2 b3⟩, by omega, Off_ev he.2.2 b4 b5⟩, fun b hb => ?_, fun b hb => ?_⟩, ?_⟩
  · have := c1 b hb
    exact ⟨by omega, Off_ev he.2.2 this.1 this.2⟩
  · have := c2 b hb
    exact ⟨by omega, this.2⟩
  · refine SZ_congr hA (fun b hb => ?_) (fun i hi => ?_) (fun b hb => ?_) (by omega) (fun _ hb => hb)
    · have := c2 b hb
      exact ⟨by omega, this.2⟩
    · exact he.2.1 _ (hl i hi) fun j hj => b1 i hi j hj
    · have := c1 b hb
      exact he.2.1 b this.1 this.2
/-- a live search goes on -/
theorem sz_goOn {ce : Ce} {nx : Nat} {Z : Nat → Prop} {T : Nat → Nat} {κ : Nat × Nat × Nat} {U : Sv} (h : SZ ce nx Z T κ U) (hL : Liv nx Z T) {c g k : Nat} (hi : IV c U) (hn : NI g U.2.1) (hg : g + k ≤ 1000000) (hk : k < 1000000) : Ok (m_X8_goOn nx ce (T 0) (nI k)) (fun z => z.1 = nI (stepsV k U).1 ∧ ∃ T2 κ2, SZ z.2.1 (nx + z.2.2.1) Z T2 κ2 (stepsV k U).2 ∧ Es ce nx T z.2.1 T2 ∧ Phi κ + z.2.2.1 ≤ Phi κ2 ∧ Phi κ + z.2.2.2 ≤ Phi κ2) := by
  obtain ⟨h1, mp, g1, g2⟩ := h
  refine ok_mono (ss_goOn (along_IV hg) h1 ⟨hi, hn⟩ hk) ?_
  rintro ⟨v, d, K, S⟩ ⟨e1, T2, κ2, e2, e3⟩
  obtain ⟨e4, e5⟩ := Ev_Es e3
  have e2 : SS d (nx + K) T2 κ2 (stepsV k U).2 := e2
  have e4 : Es ce nx T d T2 := e4
  have e5 : gA d 6 0 (T 0) = gA ce 6 0 (T 0) := e5
  refine ⟨e1, T2, κ2, ⟨e2, mp, ?_, ?_⟩, e4, e3.2.2.2.1, e3.2.2.2.2.1⟩
  · show gA d 6 0 (T2 0) = some mp
    rw [e4.1, e5]
    exact g1
  · rw [stepsV_M]
    exact MA_fr g2 fun b hb => e4.2.1 b (hL b hb).1 (hL b hb).2
def TrR (ce : Ce) (nx : Nat) (Z : Nat → Prop) (T : Nat → Nat) (κt : Nat × Nat × Nat) (c0 n : Nat) (d : Ce) (K S : Nat) : Prop := ∃ T2 κ2 U2, SZ d (nx + K) Z T2 κ2 U2 ∧ Es ce nx T d T2 ∧ Phi κt + K ≤ Phi κ2 + 7 * n ∧ Phi κt + S ≤ Phi κ2 + n * (3 * c0 + 2515)
theorem TrR_0 {ce : Ce} {nx : Nat} {Z : Nat → Prop} {T : Nat → Nat} {κt : Nat × Nat × Nat} {U : Sv} (h : SZ ce nx Z T κt U) (c0 n : Nat) : TrR ce nx Z T κt c0 n ce 0 0 := ⟨T, κt, U, h, Es_refl _ _ _, by omega, by omega⟩
def fortV (V : Sv) (p : Int32) : Int32 := if p < 1 then -1 else if p ≤ 500 then nI ((stepsV p.toNatClampNeg V).2.2.1 5) else -1
theorem c_foretold {ce : Ce} {nx : Nat} {Z : Nat → Prop} {A T : Nat → Nat} {x w : Nat} {κ κt : Nat × Nat × Nat} {V U : Sv} (hT : Tri ce nx Z A T x w) (hA : SZ ce nx Z A κ V) (hB : SZ ce nx Z T κt U) {c0 g : Nat} (hi : IV c0 V) (hn : NI g V.2.1) (hg : g ≤ 990000) (p : Int32) : Ok (m_X11_foretold nx ce x p) (fun z => z.1 = fortV V p ∧ TrR ce nx Z T κt c0 1 z.2.1 z.2.2.1 z.2.2.2) := by
  unfold m_X11_foretold fortV
  by_cases h1 : p < 1
  · rw [if_pos h1, if_pos h1]
    exact ok_some ⟨rfl, TrR_0 hB c0 1⟩
  · rw [if_neg h1, if_neg h1]
    by_cases h5 : p ≤ 500
    · rw [if_pos h5, if_pos h5]
      obtain ⟨k, hk, rfl⟩ : ∃ k, k ≤ 500 ∧ p = nI k := by
        have h0 : ¬ p < 0 := fun z => h1 (Int32.lt_trans z (by decide))
        obtain ⟨k, hk, rfl⟩ := nI_of h0
        exact ⟨k, (nI_leI (b := 500) hk (by omega)).mp h5, rfl⟩
      rw [nI_clamp (by omega), hT.1.2.2.2, bind_s, hT.1.2.1, bind_s, hT.1.2.2.1, bind_s, ss_rcv hB.1, bind_s]
      refine ok_adcB (ok_mono (sz_become hB hT.2.2.1 hA hT.2.1.1 (by have := IV_obl hi; omega)) ?_)
      rintro ⟨u, d, K, S⟩ ⟨T2, s1, s2, s3, s4⟩
      have s1 : SZ d (nx + K) Z T2 (bcap κt V) V := s1
      have s2 : Es ce nx T d T2 := s2
      have s3 : K ≤ 7 := s3
      have s4 : S = bcost κt V := s4
      obtain ⟨t1, t2⟩ := Tri_es hT hA s2 K
      show Ok ((gA d 8 8 x).bind _) _
      rw [t1.1.2.2.2, bind_s, ss_rcv s1.1, bind_s]
      refine ok_adcB (ok_mono (sz_goOn s1 t1.2.2.1 hi hn (k := k) (by omega) (by omega)) ?_)
      rintro ⟨v, e, K2, S2⟩ ⟨r1, T3, κ3, r2, r3, r4, r5⟩
      have r2 : SZ e (nx + K + K2) Z T3 κ3 (stepsV k V).2 := r2
      have r3 : Es d (nx + K) T2 e T3 := r3
      have r4 : Phi (bcap κt V) + K2 ≤ Phi κ3 := r4
      have r5 : Phi (bcap κt V) + S2 ≤ Phi κ3 := r5
      obtain ⟨q1, q2⟩ := Tri_es t1 t2 r3 K2
      show Ok ((gA e 8 8 x).bind _) _
      rw [q1.1.2.2.2, bind_s, ss_r3 r2.1, bind_s]
      have hb := bcost_le hi κt
      have hp := Phi_bcap κt V
      refine ok_some ⟨rfl, T3, κ3, (stepsV k V).2, ?_, Es_trans s2 r3, ?_, ?_⟩
      · exact (show nx + K + K2 = nx + (0 + K2 + K) by omega) ▸ r2
      · show Phi κt + (0 + K2 + K) ≤ Phi κ3 + 7 * 1
        omega
      · show Phi κt + (0 + S2 + S) ≤ Phi κ3 + 1 * (3 * c0 + 2515)
        omega
    · rw [if_neg h5, if_neg h5]
      exact ok_some ⟨rfl, TrR_0 hB c0 1⟩
def tilO (V : Sv) : Option Nat := if (stepsV 400 V).2.2.1 5 < 3 then none else some (stepsV 400 V).1
/-- till over, of what the trial holds -/
theorem c_over {ce : Ce} {nx : Nat} {Z : Nat → Prop} {T : Nat → Nat} {κ : Nat × Nat × Nat} {V : Sv} (h : SZ ce nx Z T κ V) (h5 : V.2.1 5 < 5) : m_X8_isOver ce (T 0) = some (if V.2.1 5 < 3 then 0 else 1) := ss_isOver h.1 h5
theorem c_till {ce : Ce} {nx : Nat} {Z : Nat → Prop} {A T : Nat → Nat} {x w : Nat} {κ κt : Nat × Nat × Nat} {V U : Sv} (hT : Tri ce nx Z A T x w) (hA : SZ ce nx Z A κ V) (hB : SZ ce nx Z T κt U) {c0 g : Nat} (hi : IV c0 V) (hn : NI g V.2.1) (hg : g ≤ 990000) : Ok (m_X11_till nx ce x) (fun z => z.1 = oI (tilO V) ∧ TrR ce nx Z T κt c0 1 z.2.1 z.2.2.1 z.2.2.2) := by
  unfold m_X11_till
  rw [hT.1.2.2.2, bind_s, hT.1.2.1, bind_s, hT.1.2.2.1, bind_s, ss_rcv hB.1, bind_s]
  refine ok_adcB (ok_mono (sz_become hB hT.2.2.1 hA hT.2.1.1 (by have := IV_obl hi; omega)) ?_)
  rintro ⟨u, d, K, S⟩ ⟨T2, s1, s2, s3, s4⟩
  have s1 : SZ d (nx + K) Z T2 (bcap κt V) V := s1
  have s2 : Es ce nx T d T2 := s2
  have s3 : K ≤ 7 := s3
  have s4 : S = bcost κt V := s4
  obtain ⟨t1, t2⟩ := Tri_es hT hA s2 K
  show Ok ((gA d 8 8 x).bind _) _
  rw [t1.1.2.2.2, bind_s, ss_rcv s1.1, bind_s]
  refine ok_adcB (ok_mono (sz_goOn s1 t1.2.2.1 hi hn (k := 400) (by omega) (by omega)) ?_)
  rintro ⟨v, e, K2, S2⟩ ⟨r1, T3, κ3, r2, r3, r4, r5⟩
  have r1 : v = nI (stepsV 400 V).1 := r1
  have r2 : SZ e (nx + K + K2) Z T3 κ3 (stepsV 400 V).2 := r2
  have r3 : Es d (nx + K) T2 e T3 := r3
  have r4 : Phi (bcap κt V) + K2 ≤ Phi κ3 := r4
  have r5 : Phi (bcap κt V) + S2 ≤ Phi κ3 := r5
  obtain ⟨q1, q2⟩ := Tri_es t1 t2 r3 K2
  have hi2 := (steps_IV 400 g V hi hn).1
  show Ok ((gA e 8 8 x).bind _) _
  rw [q1.1.2.2.2, bind_s, ss_rcv r2.1, bind_s, c_over r2 hi2.2.2.1.1, bind_s]
  have hb := bcost_le hi κt
  have hp := Phi_bcap κt V
  have fin : ∀ z : Int32, z = oI (tilO V) → z = oI (tilO V) ∧ TrR ce nx Z T κt c0 1 e (0 + K2 + K) (0 + S2 + S) := fun z hz => by
    refine ⟨hz, T3, κ3, _, (show nx + K + K2 = nx + (0 + K2 + K) by omega) ▸ r2, Es_trans s2 r3, ?_, ?_⟩
    · show Phi κt + (0 + K2 + K) ≤ Phi κ3 + 7 * 1
      omega
    · show Phi κt + (0 + S2 + S) ≤ Phi κ3 + 1 * (3 * c0 + 2515)
      omega
  by_cases h3 : (stepsV 400 V).2.2.1 5 < 3
  · rw [if_pos h3, if_pos rfl]
    refine ok_some (fin _ ?_)
    unfold tilO
    rw [if_pos h3]
    rfl
  · rw [if_neg h3, if_neg (by decide)]
    refine ok_some (fin _ ?_)
    unfold tilO
    rw [if_neg h3]
    exact r1
