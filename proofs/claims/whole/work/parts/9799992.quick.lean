/-! TRIALS: which is quickest -/
def qk (t : Nat → Option Nat) : Nat → Option (Nat × Nat)
  | 0 => none
  | i + 1 => match t i with
    | none => qk t i
    | some v => match qk t i with
      | none => some (i, v)
      | some b => if v < b.2 then some (i, v) else some b
def qkI (o : Option (Nat × Nat)) : Int32 := match o with
  | none => -1
  | some b => nI b.1
theorem qk_lt {t : Nat → Option Nat} (ht : ∀ i v, t i = some v → v ≤ 400) : ∀ (i : Nat) (b : Nat × Nat), qk t i = some b → b.1 < i ∧ b.2 ≤ 400 := by
  intro i
  induction i with
  | zero => intro b h; cases h
  | succ i ih =>
    intro b h
    unfold qk at h
    cases h1 : t i with
    | none =>
      rw [h1] at h
      have := ih b h
      exact ⟨by omega, this.2⟩
    | some v =>
      rw [h1] at h
      have hv := ht i v h1
      cases h2 : qk t i with
      | none =>
        rw [h2] at h
        have h : some (i, v) = some b := h
        obtain rfl := Option.some.inj h
        exact ⟨Nat.lt_succ_self i, hv⟩
      | some b0 =>
        rw [h2] at h
        have h : (if v < b0.2 then some (i, v) else some b0) = some b := h
        have h3 := ih b0 h2
        by_cases h4 : v < b0.2
        · rw [if_pos h4] at h
          obtain rfl := Option.some.inj h
          exact ⟨Nat.lt_succ_self i, hv⟩
        · rw [if_neg h4] at h
          obtain rfl := Option.some.inj h
          exact ⟨by omega, h3.2⟩
theorem qk_n {t : Nat → Option Nat} {i : Nat} (h : t i = none) : qk t (i + 1) = qk t i := by
  rw [qk, h]
theorem qk_s {t : Nat → Option Nat} {i v : Nat} (h : t i = some v) : qk t (i + 1) = match qk t i with | none => some (i, v) | some b => if v < b.2 then some (i, v) else some b := by
  rw [qk, h]
/-- as the class keeps it -/
def qkC (o : Option (Nat × Nat)) : Int32 × Int32 := match o with
  | none => (-1, 401)
  | some b => (nI b.1, nI b.2)
theorem sz_tellAim {ce : Ce} {nx : Nat} {Z : Nat → Prop} {T : Nat → Nat} {κ : Nat × Nat × Nat} {U : Sv} (h : SZ ce nx Z T κ U) (hL : Liv nx Z T) (hC : ∀ q, q ∈ U.2.2.1 → q.1 < 127) (w : Nat) : Ok (m_X8_tellAim ce (T 0) (nI w)) (fun z => ∃ T2, SZ z.2 nx Z T2 κ (aimV U w) ∧ Es ce nx T z.2 T2) := by
  obtain ⟨h1, mp, g1, g2⟩ := h
  refine ok_mono (ss_tellAim h1 hC w) ?_
  rintro ⟨u, d⟩ ⟨T2, e1, e2, e3⟩
  have e2 : Es ce nx T d T2 := e2
  refine ⟨T2, ⟨e1, mp, ?_, MA_fr g2 fun b hb => e2.2.1 b (hL b hb).1 (hL b hb).2⟩, e2⟩
  show gA d 6 0 (T2 0) = some mp
  rw [e2.1]
  exact e3.trans g1
theorem sz_begin {ce : Ce} {nx : Nat} {Z : Nat → Prop} {T : Nat → Nat} {κ : Nat × Nat × Nat} {U : Sv} (h : SZ ce nx Z T κ U) (hL : Liv nx Z T) {mp : Nat} {M : Mv} (hm : MA ce Z mp M) : Ok (m_X8_begin ce (T 0) mp) (fun z => ∃ T2, SZ z.2 nx Z T2 κ (begV M (U.2.1 15)) ∧ Es ce nx T z.2 T2) := by
  refine ok_mono (ss_begin h.1 hm hL) ?_
  rintro ⟨u, d⟩ ⟨T2, e1, e2, e3⟩
  have e2 : Es ce nx T d T2 := e2
  refine ⟨T2, ⟨e1, mp, ?_, MA_fr hm fun b hb => e2.2.1 b (hL b hb).1 (hL b hb).2⟩, e2⟩
  show gA d 6 0 (T2 0) = some mp
  rw [e2.1]
  exact e3
theorem sz_mode {ce : Ce} {nx : Nat} {Z : Nat → Prop} {T : Nat → Nat} {κ : Nat × Nat × Nat} {U : Sv} (h : SZ ce nx Z T κ U) (hL : Liv nx Z T) (md : Nat) : Ok (pV ce 6 2 (T 0) (.int (nI md))) (fun d => SZ d nx Z T κ (modV U md) ∧ Es ce nx T d T) := by
  obtain ⟨h1, mp, g1, g2⟩ := h
  refine ok_mono (ss_w2 h1 md) ?_
  rintro d ⟨e1, e2⟩
  obtain ⟨e3, e4⟩ := Ev_Es e2
  exact ⟨⟨e1, mp, e4.trans g1, MA_fr g2 fun b hb => e3.2.1 b (hL b hb).1 (hL b hb).2⟩, e3⟩
theorem tilO_le {c g : Nat} {V : Sv} (hi : IV c V) (hn : NI g V.2.1) {v : Nat} (h : tilO V = some v) : v ≤ 400 := by
  unfold tilO at h
  split at h
  · cases h
  · obtain rfl := Option.some.inj h
    exact (steps_IV 400 g V hi hn).2.2
theorem NI_aim {g : Nat} {V : Sv} (h : NI g V.2.1) (w : Nat) : NI g (aimV V w).2.1 := h
def TrI (ce : Ce) (nx : Nat) (Z : Nat → Prop) (A T : Nat → Nat) (x w : Nat) (κ κt : Nat × Nat × Nat) (V : Sv) (c0 n : Nat) (nx2 : Nat) (d : Ce) (K S : Nat) : Prop := nx2 = nx + K ∧ ∃ T2 κ2 U2, Tri d nx2 Z A T2 x w ∧ SZ d nx2 Z A κ V ∧ SZ d nx2 Z T2 κ2 U2 ∧ Es ce nx T d T2 ∧ Phi κt + K ≤ Phi κ2 + 7 * n ∧ Phi κt + S ≤ Phi κ2 + n * (3 * c0 + 2515)
/-- the last part of one trial: it goes on, and one looks -/
theorem c_tail {ce : Ce} {nx : Nat} {Z : Nat → Prop} {A T : Nat → Nat} {x w : Nat} {κ κt : Nat × Nat × Nat} {V U : Sv} (hT : Tri ce nx Z A T x w) (hA : SZ ce nx Z A κ V) (hB : SZ ce nx Z T κt U) {c0 g i : Nat} (hi : IV c0 U) (hn : NI g U.2.1) (hg : g ≤ 990000) {t : Nat → Option Nat} (ht : ∀ i v, t i = some v → v ≤ 400) (hti : t i = tilO U) (hi4 : i < 1000) : Ok (adcB (m_X8_goOn nx ce (T 0) (400 : Int32)) fun zq36 =>
      (gA zq36.2.1 8 8 x).bind fun zx38 =>
      (rcv zq36.2.1 6 zx38).bind fun _ =>
      (m_X8_isOver zq36.2.1 zx38).bind fun zx40 =>
      if zx40 = 0 then
        some (Sum.inl (β := Int32) ((qkC (qk t i)).1, (qkC (qk t i)).2, (nI i + (1 : Int32))), zq36.2.1, 0, 0)
      else
        if (qkC (qk t i)).2 ≤ zq36.1 then
          some (Sum.inl ((qkC (qk t i)).1, (qkC (qk t i)).2, (nI i + (1 : Int32))), zq36.2.1, 0, 0)
        else
          some (Sum.inl (nI i, zq36.1, (nI i + (1 : Int32))), zq36.2.1, 0, 0)) (fun r => r.1 = Sum.inl ((qkC (qk t (i + 1))).1, (qkC (qk t (i + 1))).2, nI (i + 1)) ∧ ∃ T2 κ2, Tri r.2.1 (nx + r.2.2.1) Z A T2 x w ∧ SZ r.2.1 (nx + r.2.2.1) Z A κ V ∧ SZ r.2.1 (nx + r.2.2.1) Z T2 κ2 (stepsV 400 U).2 ∧ Es ce nx T r.2.1 T2 ∧ Phi κt + r.2.2.1 ≤ Phi κ2 ∧ Phi κt + r.2.2.2 ≤ Phi κ2) := by
  refine ok_adcB (ok_mono (sz_goOn hB hT.2.2.1 hi hn (k := 400) (by omega) (by omega)) ?_)
  rintro ⟨v, e, K2, S2⟩ ⟨r1, T3, κ3, r2, r3, r4, r5⟩
  have r1 : v = nI (stepsV 400 U).1 := r1
  have r2 : SZ e (nx + K2) Z T3 κ3 (stepsV 400 U).2 := r2
  have r3 : Es ce nx T e T3 := r3
  have r4 : Phi κt + K2 ≤ Phi κ3 := r4
  have r5 : Phi κt + S2 ≤ Phi κ3 := r5
  obtain ⟨q1, q2⟩ := Tri_es hT hA r3 K2
  have hs := steps_IV 400 g U hi hn
  show Ok ((gA e 8 8 x).bind _) _
  rw [q1.1.2.2.2, bind_s, ss_rcv r2.1, bind_s, c_over r2 hs.1.2.2.1.1, bind_s]
  have fin : ∀ z : (Int32 × Int32 × Int32) ⊕ Int32, z = Sum.inl ((qkC (qk t (i + 1))).1, (qkC (qk t (i + 1))).2, nI (i + 1)) → z = Sum.inl ((qkC (qk t (i + 1))).1, (qkC (qk t (i + 1))).2, nI (i + 1)) ∧ ∃ T2 κ2, Tri e (nx + (0 + K2)) Z A T2 x w ∧ SZ e (nx + (0 + K2)) Z A κ V ∧ SZ e (nx + (0 + K2)) Z T2 κ2 (stepsV 400 U).2 ∧ Es ce nx T e T2 ∧ Phi κt + (0 + K2) ≤ Phi κ2 ∧ Phi κt + (0 + S2) ≤ Phi κ2 := fun z hz => by
    rw [Nat.zero_add, Nat.zero_add]
    exact ⟨hz, T3, κ3, q1, q2, r2, r3, r4, r5⟩
  by_cases h3 : (stepsV 400 U).2.2.1 5 < 3
  · rw [if_pos h3, if_pos rfl]
    refine ok_some (fin _ ?_)
    have : t i = none := by
      rw [hti]
      unfold tilO
      rw [if_pos h3]
    rw [qk_n this, nI_1]
  · rw [if_neg h3, if_neg (by decide)]
    have hv : t i = some (stepsV 400 U).1 := by
      rw [hti]
      unfold tilO
      rw [if_neg h3]
    have hle := hs.2.2
    have hq := qk_s hv
    subst r1
    cases hb : qk t i with
    | none =>
      rw [hb] at hq
      have hq : qk t (i + 1) = some (i, (stepsV 400 U).1) := hq
      have hn4 : ¬ (qkC none).2 ≤ nI (stepsV 400 U).1 := fun z => by
        have := (nI_leI (a := 401) (by omega) (by omega)).mp z
        omega
      show Ok (if (qkC none).2 ≤ nI (stepsV 400 U).1 then _ else _) _
      rw [if_neg hn4]
      refine ok_some (fin _ ?_)
      rw [hq, nI_1]
      rfl
    | some b =>
      rw [hb] at hq
      have hq : qk t (i + 1) = if (stepsV 400 U).1 < b.2 then some (i, (stepsV 400 U).1) else some b := hq
      obtain ⟨b1, b2⟩ := qk_lt ht i b hb
      show Ok (if nI b.2 ≤ nI (stepsV 400 U).1 then _ else _) _
      rw [if_le (by omega) (by omega)]
      by_cases h4 : (stepsV 400 U).1 < b.2
      · rw [if_neg (by omega)]
        rw [if_pos h4] at hq
        refine ok_some (fin _ ?_)
        rw [hq, nI_1]
        rfl
      · rw [if_pos (by omega)]
        rw [if_neg h4] at hq
        refine ok_some (fin _ ?_)
        rw [hq, nI_1]
theorem c_quickest {ce : Ce} {nx : Nat} {Z : Nat → Prop} {A T : Nat → Nat} {x w : Nat} {κ κt : Nat × Nat × Nat} {V U : Sv} (hT : Tri ce nx Z A T x w) (hA : SZ ce nx Z A κ V) (hB : SZ ce nx Z T κt U) {c0 g : Nat} (hi : IV c0 V) (hn : NI g V.2.1) (hg : g ≤ 990000) : Ok (m_X11_quickest nx ce x) (fun z => z.1 = qkI (qk (fun i => if i < V.1.2.2.2.1 then tilO (aimV V i) else none) V.1.2.2.2.1) ∧ TrR ce nx Z T κt c0 4 z.2.1 z.2.2.1 z.2.2.2) := by
  have hN : V.1.2.2.2.1 ≤ 4 := hi.1.2.2.2.2.2.1
  generalize ht : (fun i => if i < V.1.2.2.2.1 then tilO (aimV V i) else none) = t
  have ht4 : ∀ i v, t i = some v → v ≤ 400 := by
    intro i v h
    rw [← ht] at h
    have h : (if i < V.1.2.2.2.1 then tilO (aimV V i) else none) = some v := h
    by_cases h2 : i < V.1.2.2.2.1
    · rw [if_pos h2] at h
      exact tilO_le (IV_aim hi h2) (NI_aim hn i) h
    · rw [if_neg h2] at h
      cases h
  unfold m_X11_quickest
  refine ok_adcB (ok_mono (ok_cntA (Q := fun o d K S => o = qkI (qk t V.1.2.2.2.1) ∧ ∃ nx2, TrI ce nx Z A T x w κ κt V c0 V.1.2.2.2.1 nx2 d K S) 0 V.1.2.2.2.1 (fun i nx2 d s K S => s = ((qkC (qk t i)).1, (qkC (qk t i)).2, nI i) ∧ TrI ce nx Z A T x w κ κt V c0 i nx2 d K S) (by omega) (by omega) ⟨rfl, rfl, T, κt, U, hT, hA, hB, Es_refl _ _ _, by omega, by omega⟩ ?_ ?_) ?_)
  · rintro i nx2 d _ K S hiN ⟨rfl, rfl, T2, κ2, U2, p1, p2, p3, p4, p5, p6⟩
    obtain ⟨mp, g1, g2⟩ := id p2.2
    obtain ⟨aa, Af, m1, m2, _⟩ := cm_aims g2
    have hti : t i = tilO (aimV V i) := by
      rw [← ht]
      exact if_pos hiN
    show Ok ((gA d 8 6 x).bind _) _
    rw [p1.1.2.1, bind_s, p1.1.2.2.1, bind_s, g1, bind_s, m1, bind_s, m2, bind_s]
    show Ok (if nI V.1.2.2.2.1 ≤ nI i then _ else _) _
    rw [if_le (by omega) (by omega), if_neg (by omega), p1.1.2.2.2, bind_s, bind_s, p1.1.2.2.1, bind_s, ss_rcv p3.1, bind_s]
    refine ok_adcB (ok_mono (sz_become p3 p1.2.2.1 p2 p1.2.1.1 (by have := IV_obl hi; omega)) ?_)
    rintro ⟨u, e, K1, S1⟩ ⟨T3, s1, s2, s3, s4⟩
    have s1 : SZ e (nx + K + K1) Z T3 (bcap κ2 V) V := s1
    have s2 : Es d (nx + K) T2 e T3 := s2
    have s3 : K1 ≤ 7 := s3
    have s4 : S1 = bcost κ2 V := s4
    obtain ⟨t1, t2⟩ := Tri_es p1 p2 s2 K1
    show Ok ((gA e 8 8 x).bind _) _
    rw [t1.1.2.2.2, bind_s, ss_rcv s1.1, bind_s]
    refine ok_call (sz_tellAim s1 t1.2.2.1 (IV_fr hi) i) ?_
    rintro ⟨u2, e2⟩ ⟨T4, y1, y2⟩
    have y1 : SZ e2 (nx + K + K1) Z T4 (bcap κ2 V) (aimV V i) := y1
    have y2 : Es e (nx + K + K1) T3 e2 T4 := y2
    obtain ⟨z1, z2⟩ := Tri_es t1 t2 y2 0
    have z1 : Tri e2 (nx + K + K1) Z A T4 x w := z1
    have z2 : SZ e2 (nx + K + K1) Z A κ V := z2
    show Ok ((gA e2 8 8 x).bind _) _
    rw [z1.1.2.2.2, bind_s, ss_rcv y1.1, bind_s]
    refine ok_mono (c_tail z1 z2 y1 (IV_aim hi hiN) (NI_aim hn i) hg ht4 hti (by omega)) ?_
    rintro ⟨o, e3, K3, S3⟩ ⟨w1, T5, κ5, w2, w3, w4, w5, w6, w7⟩
    have w1 : o = Sum.inl ((qkC (qk t (i + 1))).1, (qkC (qk t (i + 1))).2, nI (i + 1)) := w1
    subst w1
    have hb := bcost_le hi κ2
    have hp := Phi_bcap κ2 V
    have w6 : Phi (bcap κ2 V) + K3 ≤ Phi κ5 := w6
    have w7 : Phi (bcap κ2 V) + S3 ≤ Phi κ5 := w7
    have hnx : nx + K + K1 + K3 = nx + K + (K3 + K1) := by omega
    refine ⟨rfl, by show nx + K + (K3 + K1) = nx + (K + (K3 + K1)); omega, T5, κ5, _, hnx ▸ w2, hnx ▸ w3, hnx ▸ w4, ?_, ?_, ?_⟩
    · have e1 := Es_trans s2 (Es_trans (K := 0) y2 w5)
      exact Es_trans p4 e1
    · show Phi κt + (K + (K3 + K1)) ≤ Phi κ5 + 7 * (i + 1)
      omega
    · show Phi κt + (S + (S3 + S1)) ≤ Phi κ5 + (i + 1) * (3 * c0 + 2515)
      rw [Nat.add_mul, Nat.one_mul]
      omega
  · rintro nx2 d _ K S ⟨rfl, rfl, T2, κ2, U2, p1, p2, p3, p4, p5, p6⟩
    obtain ⟨mp, g1, g2⟩ := id p2.2
    obtain ⟨aa, Af, m1, m2, _⟩ := cm_aims g2
    show Ok ((gA d 8 6 x).bind _) _
    rw [p1.1.2.1, bind_s, p1.1.2.2.1, bind_s, g1, bind_s, m1, bind_s, m2, bind_s]
    show Ok (if nI V.1.2.2.2.1 ≤ nI V.1.2.2.2.1 then _ else _) _
    rw [if_pos (Int32.le_refl _)]
    refine ok_some ⟨?_, nx + K, rfl, T2, κ2, U2, p1, p2, p3, p4, p5, p6⟩
    show (qkC (qk t V.1.2.2.2.1)).1 = qkI (qk t V.1.2.2.2.1)
    cases qk t V.1.2.2.2.1 with
    | none => rfl
    | some b => rfl
  · rintro ⟨o, d, K, S⟩ ⟨h1, nx2, h2, T2, κ2, U2, p1, p2, p3, p4, p5, p6⟩
    have h2 : nx2 = nx + K := h2
    subst h2
    have p5 : Phi κt + K ≤ Phi κ2 + 7 * V.1.2.2.2.1 := p5
    have p6 : Phi κt + S ≤ Phi κ2 + V.1.2.2.2.1 * (3 * c0 + 2515) := p6
    have p3 : SZ d (nx + K) Z T2 κ2 U2 := p3
    refine ok_some ⟨h1, T2, κ2, U2, ?_, p4, ?_, ?_⟩
    · show SZ d (nx + (0 + K)) Z T2 κ2 U2
      rw [Nat.zero_add]
      exact p3
    · show Phi κt + (0 + K) ≤ Phi κ2 + 7 * 4
      omega
    · show Phi κt + (0 + S) ≤ Phi κ2 + 4 * (3 * c0 + 2515)
      have := Nat.mul_le_mul_right (3 * c0 + 2515) hN
      omega
theorem bm_eq (M : Mv) (m0 a md : Nat) : modV (aimV (begV M m0) a) md = modV (aimV (begV M 0) a) md := by
  have : va_up (va_up (va_up (va_up (begN m0) 8 a) 5 0) 4 (hiF [])) 15 md = va_up (va_up (va_up (va_up (begN 0) 8 a) 5 0) 4 (hiF [])) 15 md := by
    funext k
    by_cases e : k = 15
    · rw [e, up_e, up_e]
    · rw [up_n _ _ _ e, up_n _ _ _ e]
      by_cases e4 : k = 4
      · rw [e4, up_e, up_e]
      · rw [up_n _ _ _ e4, up_n _ _ _ e4]
        by_cases e5 : k = 5
        · rw [e5, up_e, up_e]
        · rw [up_n _ _ _ e5, up_n _ _ _ e5]
          by_cases e8 : k = 8
          · rw [e8, up_e, up_e]
          · rw [up_n _ _ _ e8, up_n _ _ _ e8]
            unfold begN
            rw [if_neg e4, if_neg e, if_neg e4, if_neg e]
  exact congrArg (fun f => ((M, f, [], [], fl0, []) : Sv)) this
def bmV (V : Sv) (md : Nat) : Sv := modV (aimV (begV V.1 0) (V.2.1 8)) md
theorem IV_bm {c : Nat} {V : Sv} (h : IV c V) {md : Nat} (hm : md < 3) : IV 0 (bmV V md) ∧ NI 0 (bmV V md).2.1 := ⟨IV_mode (IV_aim (IV_beg h.1 (by omega)) h.2.2.1.2.1) hm, NI_beg V.1 0⟩
theorem c_bestMode {ce : Ce} {nx : Nat} {Z : Nat → Prop} {A T : Nat → Nat} {x w : Nat} {κ κt : Nat × Nat × Nat} {V U : Sv} (hT : Tri ce nx Z A T x w) (hA : SZ ce nx Z A κ V) (hB : SZ ce nx Z T κt U) {c0 : Nat} (hi : IV c0 V) : Ok (m_X11_bestMode nx ce x) (fun z => z.1 = qkI (qk (fun i => if i < 3 then tilO (bmV V i) else none) 3) ∧ TrR ce nx Z T κt c0 4 z.2.1 z.2.2.1 z.2.2.2) := by
  have h8 := hi.2.2.1.2.1
  generalize ht : (fun i => if i < 3 then tilO (bmV V i) else none) = t
  have ht4 : ∀ i v, t i = some v → v ≤ 400 := by
    intro i v h
    rw [← ht] at h
    have h : (if i < 3 then tilO (bmV V i) else none) = some v := h
    by_cases h2 : i < 3
    · rw [if_pos h2] at h
      exact tilO_le (IV_bm hi h2).1 (IV_bm hi h2).2 h
    · rw [if_neg h2] at h
      cases h
  unfold m_X11_bestMode
  refine ok_adcB (ok_mono (ok_cntA (Q := fun o d K S => o = qkI (qk t 3) ∧ ∃ nx2, TrI ce nx Z A T x w κ κt V c0 3 nx2 d K S) 0 3 (fun i nx2 d s K S => s = ((qkC (qk t i)).1, (qkC (qk t i)).2, nI i) ∧ TrI ce nx Z A T x w κ κt V c0 i nx2 d K S) (by omega) (by omega) ⟨rfl, rfl, T, κt, U, hT, hA, hB, Es_refl _ _ _, by omega, by omega⟩ ?_ ?_) ?_)
  · rintro i nx2 d _ K S hiN ⟨rfl, rfl, T2, κ2, U2, p1, p2, p3, p4, p5, p6⟩
    obtain ⟨mp, g1, g2⟩ := id p2.2
    have hti : t i = tilO (bmV V i) := by
      rw [← ht]
      exact if_pos hiN
    show Ok (if (3 : Int32) ≤ nI i then _ else _) _
    rw [nl_3, if_le (by omega) (by omega), if_neg (by omega), p1.1.2.2.2, bind_s, p1.1.2.1, bind_s, p1.1.2.2.1, bind_s, g1, bind_s, ss_rcv p3.1, bind_s]
    refine ok_call (sz_begin p3 p1.2.2.1 g2) ?_
    rintro ⟨u, e⟩ ⟨T3, s1, s2⟩
    have s1 : SZ e (nx + K) Z T3 κ2 (begV V.1 (U2.2.1 15)) := s1
    have s2 : Es d (nx + K) T2 e T3 := s2
    obtain ⟨t1, t2⟩ := Tri_es p1 p2 s2 0
    have t1 : Tri e (nx + K) Z A T3 x w := t1
    have t2 : SZ e (nx + K) Z A κ V := t2
    show Ok ((gA e 8 8 x).bind _) _
    rw [t1.1.2.2.2, bind_s, t1.1.2.1, bind_s, t1.1.2.2.1, bind_s, ss_r1 t2.1, bind_s, ss_rcv s1.1, bind_s]
    refine ok_call (sz_tellAim s1 t1.2.2.1 (fun q hq => by cases hq) (V.2.1 8)) ?_
    rintro ⟨u2, e2⟩ ⟨T4, y1, y2⟩
    have y1 : SZ e2 (nx + K) Z T4 κ2 (aimV (begV V.1 (U2.2.1 15)) (V.2.1 8)) := y1
    have y2 : Es e (nx + K) T3 e2 T4 := y2
    obtain ⟨z1, z2⟩ := Tri_es t1 t2 y2 0
    have z1 : Tri e2 (nx + K) Z A T4 x w := z1
    have z2 : SZ e2 (nx + K) Z A κ V := z2
    show Ok ((gA e2 8 8 x).bind _) _
    rw [z1.1.2.2.2, bind_s]
    refine ok_call (sz_mode y1 z1.2.2.1 i) ?_
    rintro e4 ⟨x1, x2⟩
    rw [bm_eq] at x1
    have x1 : SZ e4 (nx + K) Z T4 κ2 (bmV V i) := x1
    obtain ⟨v1, v2⟩ := Tri_es z1 z2 x2 0
    have v1 : Tri e4 (nx + K) Z A T4 x w := v1
    have v2 : SZ e4 (nx + K) Z A κ V := v2
    rw [v1.1.2.2.2, bind_s, ss_rcv x1.1, bind_s]
    refine ok_mono (c_tail v1 v2 x1 (IV_bm hi hiN).1 (IV_bm hi hiN).2 (by omega) ht4 hti (by omega)) ?_
    rintro ⟨o, e3, K3, S3⟩ ⟨w1, T5, κ5, w2, w3, w4, w5, w6, w7⟩
    have w1 : o = Sum.inl ((qkC (qk t (i + 1))).1, (qkC (qk t (i + 1))).2, nI (i + 1)) := w1
    subst w1
    have w6 : Phi κ2 + K3 ≤ Phi κ5 := w6
    have w7 : Phi κ2 + S3 ≤ Phi κ5 := w7
    refine ⟨rfl, by show nx + K + K3 = nx + (K + K3); omega, T5, κ5, _, w2, w3, w4, ?_, ?_, ?_⟩
    · exact Es_trans p4 (Es_trans (K := 0) s2 (Es_trans (K := 0) y2 (Es_trans (K := 0) x2 w5)))
    · show Phi κt + (K + K3) ≤ Phi κ5 + 7 * (i + 1)
      omega
    · show Phi κt + (S + S3) ≤ Phi κ5 + (i + 1) * (3 * c0 + 2515)
      rw [Nat.add_mul, Nat.one_mul]
      omega
  · rintro nx2 d _ K S ⟨rfl, rfl, T2, κ2, U2, p1, p2, p3, p4, p5, p6⟩
    show Ok (if (3 : Int32) ≤ nI 3 then _ else _) _
    rw [nl_3, if_pos (Int32.le_refl _)]
    refine ok_some ⟨?_, nx + K, rfl, T2, κ2, U2, p1, p2, p3, p4, p5, p6⟩
    show (qkC (qk t 3)).1 = qkI (qk t 3)
    cases qk t 3 with
    | none => rfl
    | some b => rfl
  · rintro ⟨o, d, K, S⟩ ⟨h1, nx2, h2, T2, κ2, U2, p1, p2, p3, p4, p5, p6⟩
    have h2 : nx2 = nx + K := h2
    subst h2
    have p5 : Phi κt + K ≤ Phi κ2 + 7 * 3 := p5
    have p6 : Phi κt + S ≤ Phi κ2 + 3 * (3 * c0 + 2515) := p6
    have p3 : SZ d (nx + K) Z T2 κ2 U2 := p3
    refine ok_some ⟨h1, T2, κ2, U2, ?_, p4, ?_, ?_⟩
    · show SZ d (nx + (0 + K)) Z T2 κ2 U2
      rw [Nat.zero_add]
      exact p3
    · show Phi κt + (0 + K) ≤ Phi κ2 + 7 * 4
      omega
    · show Phi κt + (0 + S) ≤ Phi κ2 + 4 * (3 * c0 + 2515)
      omega
