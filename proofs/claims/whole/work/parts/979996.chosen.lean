/-! THE FEWEST: both sides -/
theorem pcf_le {n s : Nat} (hn : n ≤ 12) (hs : s < 2 ^ n) : pcf 13 s ≤ n := by
  rw [pcf_cnt]
  have : cntN (fun j => s.testBit j) 13 = cntN (fun j => s.testBit j) n := by
    refine cntN_cut 13 (by omega) fun k h1 _ => ?_
    exact Nat.testBit_lt_two_pow (Nat.lt_of_lt_of_le hs (Nat.pow_le_pow_right (by omega) h1))
  rw [this]
  exact cntN_le _ _
theorem or_and0 {x y z : Int64} : (x ||| y) &&& z = 0 ↔ x &&& z = 0 ∧ y &&& z = 0 := by
  have bb : ∀ p q r : Bool, (((p || q) && r) = false) → (p && r) = false ∧ (q && r) = false := by decide
  have b2 : ∀ p q r : Bool, (p && r) = false → (q && r) = false → ((p || q) && r) = false := by decide
  constructor
  · intro h
    have key : ∀ k, (B x k && B z k) = false ∧ (B y k && B z k) = false := by
      intro k
      have := congrArg (fun w => B w k) h
      have this : B ((x ||| y) &&& z) k = B 0 k := this
      rw [B_and, B_or, B_0] at this
      exact bb _ _ _ this
    exact ⟨B_ext0 fun k hk => by rw [B_and]; exact (key k).1, B_ext0 fun k hk => by rw [B_and]; exact (key k).2⟩
  · rintro ⟨h1, h2⟩
    refine B_ext0 fun k hk => ?_
    have a1 := congrArg (fun w => B w k) h1
    have a1 : B (x &&& z) k = B 0 k := a1
    have a2 := congrArg (fun w => B w k) h2
    have a2 : B (y &&& z) k = B 0 k := a2
    rw [B_and, B_0] at a1 a2
    rw [B_and, B_or]
    exact b2 _ _ _ a1 a2
theorem jdg_0 {M : Mv} {g x : Int64} (hi : x &&& M.2.2.1 = 0) : jdg M g x = 0 ↔ g &&& (x ^^^ (-1)) = 0 ∧ befS M x &&& (x ^^^ (-1)) = 0 := by
  unfold jdg
  rw [if_pos hi]
  by_cases h2 : befS M x &&& (x ^^^ (-1)) = 0
  · rw [if_pos h2]
    by_cases h3 : g &&& (x ^^^ (-1)) = 0
    · rw [if_pos h3]; exact ⟨fun _ => ⟨h3, h2⟩, fun _ => rfl⟩
    · rw [if_neg h3]; exact ⟨fun h => by omega, fun h => absurd h.1 h3⟩
  · rw [if_neg h2]
    exact ⟨fun h => by omega, fun h => absurd h.2 h2⟩
def cuT (L : Nat) (l : List (Nat × Nat)) (i : Nat) : Int64 := match l[i]? with
  | none => 0
  | some q => cubS L q.1 q.2
theorem orS_congr {S T : Nat → Int64} {set : Nat} : ∀ n, (∀ i, i < n → S i = T i) → orS S set n = orS T set n := by
  intro n
  induction n with
  | zero => intro _; rfl
  | succ n ih =>
    intro h
    rw [orS, orS, ih (fun i hi => h i (by omega)), h n (by omega)]
/-- some of the cubes keep INIT out if all do -/
theorem ini_sub {L : Nat} {l : List (Nat × Nat)} {ini : Int64} (h : barL L l &&& ini = 0) (set : Nat) : orS (cuT L l) set l.length &&& ini = 0 := by
  refine B_ext0 fun k hk => ?_
  have a := congrArg (fun w => B w k) h
  have a : B (barL L l &&& ini) k = B 0 k := a
  rw [B_and, B_0] at a
  rw [B_and]
  cases hb : B (orS (cuT L l) set l.length) k with
  | false => rfl
  | true =>
    rw [B_orS, List.any_eq_true] at hb
    obtain ⟨i, hi, hi2⟩ := hb
    rw [Bool.and_eq_true] at hi2
    have hil := List.mem_range.mp hi
    have : B (barL L l) k = true := by
      unfold barL
      rw [B_mkS _ hk, List.any_eq_true]
      refine ⟨l[i], List.getElem_mem hil, ?_⟩
      have h3 := hi2.2
      unfold cuT at h3
      rw [List.getElem?_eq_getElem hil] at h3
      exact h3
    rw [this] at a
    simpa using a
theorem c_choose {ce : Ce} {nx : Nat} {A : Nat → Nat} {κ : Nat × Nat × Nat} {V : Sv} {j ch a b r f g s cap : Nat} {lr : List Cu} {S0 T0 : Nat → Int64} (hC : CHc ce ch a b S0 T0) (hd : ch ≠ a ∧ ch ≠ b ∧ a ≠ b) (hst : ∀ c : Ce, (∀ q, q ≠ a → q ≠ b → c q = ce q) → SS c nx A κ V ∧ RW c r f g s cap lr) (hi : IV j V) {st : Nat} (hs : st ≤ lr.length) (hm : ∀ q, q ∈ lr → q.2.1 < 2 ^ V.1.1) (hini : barL V.1.1 ((lr.drop st).map Prod.snd) &&& V.1.2.2.1 = 0) : Ok (m_X1_choose ce ch (some r) (nI st) (A 0)) (fun z => ((lr.length - st ≤ 12 → ∃ o, Best (goodB V.1 (V.1.2.2.2.2 (V.2.1 8)) (cuT V.1.1 ((lr.drop st).map Prod.snd)) (lr.length - st)) (2 ^ (lr.length - st)) o ∧ z.1 = oI o) ∧ (12 < lr.length - st → z.1 = -1)) ∧ (∃ S T, CHc z.2 ch a b S T) ∧ ∀ q, q ≠ a → q ≠ b → z.2 q = ce q) := by
  have hL := IV_L hi
  have h8 := hi.2.2.1.2.1
  obtain ⟨hS0, hR0⟩ := hst ce (fun _ _ _ => rfl)
  have hcap : lr.length < 10000 := by
    obtain ⟨F, C, S, q1, q2, q3, q4, q5, q6, q7, q8⟩ := hR0
    omega
  unfold m_X1_choose
  show Ok ((gI ce 2 3 r).bind _) _
  rw [cw_size hR0, bind_s, pk_sub hs, nl_12, if_le (by omega) (by omega), bind_s, pk_sub hs]
  generalize hn : lr.length - st = n
  by_cases h12 : n ≤ 12
  · rw [if_pos h12]
    have hlen : ((lr.drop st).map Prod.snd).length = n := by rw [List.length_map, List.length_drop, hn]
    generalize hl : (lr.drop st).map Prod.snd = l at hlen hini
    have hget : ∀ i, i < n → ∃ u, lr[st + i]? = some u ∧ l[i]? = some u.2 ∧ u.2.1 < 2 ^ V.1.1 := by
      intro i hi
      obtain ⟨u, h1⟩ : ∃ u, lr[st + i]? = some u := ⟨_, List.getElem?_eq_getElem (by omega)⟩
      refine ⟨u, h1, ?_, hm _ (List.mem_of_getElem? h1)⟩
      rw [← hl, List.getElem?_map, List.getElem?_drop, h1]
      rfl
    -- the sets and what leads into them
    refine ok_call (P := fun o => ∃ S T, CHc o.2 ch a b S T ∧ (∀ i, i < n → S i = cuT 6 l i ∧ T i = befS V.1 (cuT 6 l i)) ∧ ∀ q, q ≠ a → q ≠ b → o.2 q = ce q) (ok_cnt 0 n (fun k z => ∃ c S T, z = (nI k, c) ∧ CHc c ch a b S T ∧ (∀ i, i < k → S i = cuT 6 l i ∧ T i = befS V.1 (cuT 6 l i)) ∧ ∀ q, q ≠ a → q ≠ b → c q = ce q) (by omega) (Nat.zero_le _) ⟨ce, S0, T0, rfl, hC, fun i h => by omega, fun _ _ _ => rfl⟩ ?_ ?_) ?_
    · rintro k _ hk ⟨c, S, T, rfl, ⟨y1, y2, y3⟩, y4, y5⟩
      obtain ⟨u, u1, u2, u3⟩ := hget k hk
      obtain ⟨hSc, hRc⟩ := hst c y5
      have hcu : cuT 6 l k = cubS 6 u.2.1 u.2.2 := by unfold cuT; rw [u2]
      show Ok (if nI n ≤ nI k then _ else (gA c 1 0 ch).bind _) _
      rw [if_le (by omega) (by omega), if_neg (by omega), gA_c (k := 0) y1 rfl, bind_s]
      show Ok ((rcv c 2 r).bind _) _
      rw [cw_rcv hRc, bind_s]
      show Ok ((m_X2_statesAt c r (nI st + nI k)).bind _) _
      rw [nI_add, cw_statesAt hRc u1, bind_s]
      show Ok ((sL c a (nI k) (cubS 6 u.2.1 u.2.2)).bind _) _
      rw [sL_c y2 (by omega) (by omega), bind_s]
      generalize e1 : gx_up c a (.inl (.long, 12, .inr (.inl (va_up S k (cubS 6 u.2.1 u.2.2))))) = c1
      have f1 : ∀ q, q ≠ a → c1 q = c q := fun q hq => by rw [← e1, gu_n _ _ hq]
      have z1 : c1 ch = some (.inr (1, [.ref a, .ref b])) := by rw [f1 ch hd.1]; exact y1
      have z2 : c1 a = some (.inl (.long, 12, .inr (.inl (va_up S k (cubS 6 u.2.1 u.2.2))))) := by rw [← e1, gu_e]
      have z3 : c1 b = some (.inl (.long, 12, .inr (.inl T))) := by rw [f1 b (fun e => hd.2.2 e.symm)]; exact y3
      obtain ⟨hS1, _⟩ := hst c1 (fun q h1 h2 => by rw [f1 q h1]; exact y5 q h1 h2)
      obtain ⟨mp, g1, g2⟩ := ss_mach hS1
      rw [gA_c (k := 1) z1 rfl, bind_s, g1, bind_s, gA_c (k := 0) z1 rfl, bind_s]
      show Ok ((aL c1 a (nI k)).bind _) _
      rw [aL_c z2 (by omega) (by omega), bind_s, up_e, cm_rcv g2, bind_s, cc_before g2, bind_s]
      show Ok ((sL c1 b (nI k) _).bind _) _
      rw [sL_c z3 (by omega) (by omega), bind_s]
      refine ok_some ⟨_, va_up S k (cubS 6 u.2.1 u.2.2), va_up T k (befS V.1 (cubS 6 u.2.1 u.2.2)), by rw [nI_1], ⟨?_, ?_, ?_⟩, fun i hik => ?_, fun q h1 h2 => ?_⟩
      · rw [gu_n _ _ hd.2.1]; exact z1
      · rw [gu_n _ _ hd.2.2]; exact z2
      · rw [gu_e]
      · by_cases e : i = k
        · subst e
          rw [up_e, up_e, hcu]
          exact ⟨rfl, rfl⟩
        · rw [up_n _ _ _ e, up_n _ _ _ e]
          exact y4 i (by omega)
      · rw [gu_n _ _ h2, f1 q h1]; exact y5 q h1 h2
    · rintro _ ⟨c, S, T, rfl, y1, y4, y5⟩
      show Ok (if nI n ≤ nI n then _ else _) _
      rw [if_pos (Int32.le_refl _)]
      exact ok_some ⟨S, T, y1, y4, y5⟩
    · rintro ⟨u0, c⟩ ⟨S, T, y1, y4, y5⟩
      have y1 : CHc c ch a b S T := y1
      have y5 : ∀ q, q ≠ a → q ≠ b → c q = ce q := y5
      obtain ⟨hSc, _⟩ := hst c y5
      have h2n : 2 ^ n ≤ 4096 := Nat.pow_le_pow_right (n := 2) (i := n) (j := 12) (by omega) h12
      have hgood : ∀ set, set < 2 ^ n → m_X1_suffices c ch (nI set) (nI n) (V.1.2.2.2.2 (V.2.1 8)) = some (if goodB V.1 (V.1.2.2.2.2 (V.2.1 8)) (cuT V.1.1 l) n set = true then 1 else 0) := by
        intro set hset
        rw [c_suffices y1 (by omega) h12]
        have e1 : orS S set n = orS (cuT 6 l) set n := orS_congr n fun i hi => (y4 i hi).1
        have e2 : orS T set n = befS V.1 (orS (cuT 6 l) set n) := by
          rw [Add_orS (bef_Add V.1)]
          exact orS_congr n fun i hi => (y4 i hi).2
        have ha : Agr V.1.1 (orS (cuT 6 l) set n) (orS (cuT V.1.1 l) set n) := by
          refine agr_orS fun i hi => ?_
          obtain ⟨u, u1, u2, u3⟩ := hget i hi
          intro t ht
          unfold cuT
          rw [u2]
          exact cub_6 hL u3 ht
        obtain ⟨a1, a2, a3⟩ := agr_all hi.1 ha (WM_aim hi)
        have hini2 := ini_sub hini set
        rw [hlen] at hini2
        rw [e1, e2]
        have key : ((V.1.2.2.2.2 (V.2.1 8) ||| befS V.1 (orS (cuT 6 l) set n)) &&& (orS (cuT 6 l) set n ^^^ (-1)) = 0) ↔ goodB V.1 (V.1.2.2.2.2 (V.2.1 8)) (cuT V.1.1 l) n set = true := by
          rw [or_and0, a2, a3, ← jdg_0 hini2]
          unfold goodB
          exact (decide_eq_true_iff).symm
        by_cases hk : goodB V.1 (V.1.2.2.2.2 (V.2.1 8)) (cuT V.1.1 l) n set = true
        · rw [if_pos (key.mpr hk), if_pos hk]
        · rw [if_neg (fun z => hk (key.mp z)), if_neg hk]
      generalize goodB V.1 (V.1.2.2.2.2 (V.2.1 8)) (cuT V.1.1 l) n = good at hgood
      refine ok_call (P := fun o => (o = Sum.inr () ∧ Best good (2 ^ n) none) ∨ ∃ b, o = Sum.inl (nI b) ∧ Best good (2 ^ n) (some b)) (ok_cnt 0 (n + 1) (fun k z => z = nI k ∧ ∀ s, s < 2 ^ n → pcf 13 s < k → good s = false) (by omega) (Nat.zero_le _) ⟨rfl, fun s _ h => by omega⟩ ?_ ?_) ?_
      · rintro k _ hk ⟨rfl, w1⟩
        show Ok (if nI n < nI k then _ else (rcv c 6 (A 0)).bind _) _
        rw [if_lt (by omega) (by omega), if_neg (by omega), ss_rcv hSc, bind_s]
        show Ok ((m_X8_aimStates c (A 0)).bind _) _
        rw [ss_aims hSc h8, bind_s]
        show Ok ((rcv c 1 ch).bind _) _
        rw [rcv_c y1.1, bind_s]
        show Ok ((m_X1_firstOf c ch (nI k) (nI n) _).bind _) _
        refine ok_call (c_firstOf (rcv_c y1.1) h12 hgood (k := k) (by omega)) ?_
        rintro v (⟨rfl, hv⟩ | ⟨bb, rfl, v1, v2, v3, v4⟩)
        · rw [if_pos rfl]
          refine ok_some ⟨nI_1 k, fun t ht hp => ?_⟩
          by_cases e : pcf 13 t = k
          · exact hv t ht e
          · exact w1 t ht (by omega)
        · rw [if_neg (nI_m1 (by omega))]
          refine ok_some (Or.inr ⟨bb, rfl, v1, v2, fun t ht hg => ?_⟩)
          by_cases e : pcf 13 t < k
          · rw [w1 t ht e] at hg; cases hg
          · by_cases e2 : pcf 13 t = k
            · refine Or.inr ⟨by omega, ?_⟩
              exact Nat.le_of_not_lt fun z => by rw [v4 t z e2] at hg; cases hg
            · exact Or.inl (by omega)
      · rintro _ ⟨rfl, w1⟩
        show Ok (if nI n < nI (n + 1) then _ else _) _
        rw [if_pos (nI_lt (by omega) (by omega))]
        exact ok_some (Or.inl ⟨rfl, fun t ht => w1 t ht (by have := pcf_le h12 ht; omega)⟩)
      · rintro o (⟨rfl, hb⟩ | ⟨bb, rfl, hb⟩)
        · exact ok_some ⟨⟨fun _ => ⟨none, hb, rfl⟩, fun h => by omega⟩, ⟨S, T, y1⟩, y5⟩
        · exact ok_some ⟨⟨fun _ => ⟨some bb, hb, rfl⟩, fun h => by omega⟩, ⟨S, T, y1⟩, y5⟩
  · rw [if_neg h12]
    exact ok_some ⟨⟨fun h => absurd h h12, fun _ => rfl⟩, ⟨S0, T0, hC⟩, fun _ _ _ => rfl⟩
/-! the reference -/
def muL (μ : MS) (r : Nat) (g : Nat → Int64) : MS := (μ.1, va_up μ.2.1 r g, μ.2.2)
theorem wr_e16 (c : Ce) (m : Nat) (μ : MS) {k : Nat} (hk : k < 12) : aL (wr c m μ) (m + 17) (nI k) = some (μ.2.1 16 k) := by
  rw [wr_r32, if_neg (nI_in hk (by omega)), nI_clamp (by omega)]
theorem wr_w16 (c : Ce) (m : Nat) (μ : MS) {k : Nat} (hk : k < 12) (v : Int64) : sL (wr c m μ) (m + 17) (nI k) v = some (wr c m (muL μ 16 (va_up (μ.2.1 16) k v))) := by
  rw [wr_s32, if_neg (nI_in hk (by omega)), nI_clamp (by omega)]
  rfl
theorem sr_fewLoop (c : Ce) (m : Nat) {μ : MS} {V : Sv} (hr : RV μ V) (hw : WM V.1) (h8 : V.2.1 8 < V.1.2.2.2.1) {l : List (Nat × Nat)} (hl : Laid μ l) (h12 : l.length ≤ 12) : Ok ((it (fun (zs4 : Int32 × Ce) => (gI zs4.2 9 31 m).bind fun zx22 => if zx22 ≤ zs4.1 then some (Sum.inr ((), zs4.2)) else (gA zs4.2 9 32 m).bind fun zx23 => (rcv zs4.2 9 m).bind fun zz24 => (m_X12_barredBy zs4.2 m zs4.1).bind fun zx25 => (sL zs4.2 zx23 zs4.1 zx25).bind fun zc26 => some (Sum.inl ((zs4.1 + (1 : Int32)), zc26))) FU ((0 : Int32), wr c m μ)).bind fun (zo5 : Unit × Ce) => (it (fun (zs7 : Int32 × Int32) => (gI zo5.2 9 31 m).bind fun zx10 => if ((1 : Int32) <<< (zx10 &&& 31)) ≤ zs7.2 then some (Sum.inr zs7.1) else (if zs7.1 = (-1 : Int32) then some (Sum.inr zs7.2) else (m_X12_many (Int32.toInt64 zs7.2)).bind fun zx20 => (m_X12_many (Int32.toInt64 zs7.1)).bind fun zx21 => if zx20 < zx21 then some (Sum.inr zs7.2) else some (Sum.inl (Sum.inl (zs7.1, (zs7.2 + (1 : Int32)))))).bind fun (zj11 : ((Int32 × Int32) ⊕ Int32) ⊕ Int32) => Sum.elim (fun wzj11 => some wzj11) (fun vzj11 => (it (fun (zs12 : Int64 × Int32) => (gI zo5.2 9 31 m).bind fun zx17 => if zx17 ≤ zs12.2 then some (Sum.inr zs12.1) else if ((vzj11 >>> (zs12.2 &&& 31)) &&& (1 : Int32)) = (1 : Int32) then (gA zo5.2 9 32 m).bind fun zx18 => (aL zo5.2 zx18 zs12.2).bind fun zx19 => some (Sum.inl ((zs12.1 ||| zx19), (zs12.2 + (1 : Int32)))) else some (Sum.inl (zs12.1, (zs12.2 + (1 : Int32))))) FU ((0 : Int64), (0 : Int32))).bind fun (zo13 : Int64) => (rcv zo5.2 9 m).bind fun zz15 => (m_X12_judge zo5.2 m zo13).bind fun zx16 => if zx16 = 0 then some (Sum.inl (vzj11, (vzj11 + (1 : Int32)))) else some (Sum.inl (zs7.1, (vzj11 + (1 : Int32))))) zj11) FU ((-1 : Int32), (0 : Int32))).bind fun (zo8 : Int32) => some (zo8, zo5.2)) (fun z => ∃ o ν, Best (goodB V.1 (V.1.2.2.2.2 (V.2.1 8)) (cuT V.1.1 l) l.length) (2 ^ l.length) o ∧ z = (oI o, wr c m ν) ∧ RV ν V ∧ Kp μ ν) := by
  refine ok_call (P := fun o => ∃ e, o = ((), wr c m (muL μ 16 e)) ∧ ∀ i, i < l.length → e i = cuT V.1.1 l i) (ok_cnt 0 l.length (fun k z => ∃ e, z = (nI k, wr c m (muL μ 16 e)) ∧ ∀ i, i < k → e i = cuT V.1.1 l i) (by omega) (Nat.zero_le _) ⟨μ.2.1 16, by unfold muL; rw [up_self]; rfl, fun i h => by omega⟩ ?_ ?_) ?_
  · rintro k _ hk ⟨e, rfl, y1⟩
    have hat : l[k]? = some l[k] := List.getElem?_eq_getElem hk
    generalize l[k] = u at hat
    have hle : Laid (muL μ 16 e) l := hl
    have hMe : Mac ((muL μ 16 e).1 0) V.1 := hr.1
    show Ok ((gI (wr c m (muL μ 16 e)) 9 31 m).bind _) _
    simp only [wr_g31, bind_s, hle.1, wr_g32, wr_rcv, sr_barredBy c m hMe hle hat, wr_w16 c m (muL μ 16 e) (show k < 12 by omega)]
    rw [if_le (by omega) (by omega), if_neg (by omega)]
    have ee : muL (muL μ 16 e) 16 (va_up ((muL μ 16 e).2.1 16) k (cubS V.1.1 u.1 u.2)) = muL μ 16 (va_up e k (cubS V.1.1 u.1 u.2)) := by
      show (μ.1, va_up (va_up μ.2.1 16 e) 16 (va_up (va_up μ.2.1 16 e 16) k (cubS V.1.1 u.1 u.2)), μ.2.2) = _
      rw [up_up, up_e]
      rfl
    rw [ee]
    refine ok_some ⟨_, by rw [nI_1], fun i hik => ?_⟩
    by_cases e2 : i = k
    · subst e2
      rw [up_e]
      unfold cuT
      rw [hat]
    · rw [up_n _ _ _ e2]
      exact y1 i (by omega)
  · rintro _ ⟨e, rfl, y1⟩
    have hle : Laid (muL μ 16 e) l := hl
    show Ok ((gI (wr c m (muL μ 16 e)) 9 31 m).bind _) _
    simp only [wr_g31, bind_s, hle.1]
    rw [if_pos (Int32.le_refl _)]
    exact ok_some ⟨e, rfl, y1⟩
  · rintro _ ⟨e, rfl, y1⟩
    generalize hν : muL μ 16 e = ν
    have hle : Laid ν l := by rw [← hν]; exact hl
    have hrν : RV ν V := by rw [← hν]; exact hr
    have hev : ν.2.1 16 = e := by rw [← hν]; show va_up μ.2.1 16 e 16 = e; exact up_e _ _ _
    have hkp : Kp μ ν := by
      rw [← hν]
      exact ⟨fun _ _ => rfl, fun _ _ => rfl, rfl, fun _ _ => rfl, rfl, rfl, fun _ _ => rfl⟩
    have h2n : 2 ^ l.length ≤ 4096 := Nat.pow_le_pow_right (n := 2) (i := l.length) (j := 12) (by omega) h12
    have hsh : (1 : Int32) <<< (nI l.length &&& 31) = nI (2 ^ l.length) := by
      have : ∀ k, k < 13 → (1 : Int32) <<< (nI k &&& 31) = nI (2 ^ k) := by decide
      exact this _ (by omega)
    have inner : ∀ set, set < 4096 → it (fun (zs12 : Int64 × Int32) => (some (nI l.length)).bind fun zx17 => if zx17 ≤ zs12.2 then some (Sum.inr zs12.1) else if ((nI set >>> (zs12.2 &&& 31)) &&& (1 : Int32)) = (1 : Int32) then (gA (wr c m ν) 9 32 m).bind fun zx18 => (aL (wr c m ν) zx18 zs12.2).bind fun zx19 => some (Sum.inl ((zs12.1 ||| zx19), (zs12.2 + (1 : Int32)))) else some (Sum.inl (zs12.1, (zs12.2 + (1 : Int32))))) FU ((0 : Int64), (0 : Int32)) = some (orS (cuT V.1.1 l) set l.length) := by
      intro set hset
      refine ok_eq (ok_cnt 0 l.length (fun k z => z = (orS (cuT V.1.1 l) set k, nI k)) (by omega) (Nat.zero_le _) rfl ?_ ?_)
      · rintro k _ hk rfl
        show Ok ((some (nI l.length)).bind _) _
        simp only [bind_s, wr_g32, wr_e16 c m ν (show k < 12 by omega), hev, y1 k hk]
        rw [if_le (by omega) (by omega), if_neg (by omega), ibit (by omega) (by omega), orS]
        by_cases hb : set.testBit k = true
        · rw [if_pos hb, if_pos rfl, if_pos hb]
          exact ok_some (by rw [nI_1])
        · rw [if_neg hb, if_neg (by decide), if_neg hb]
          exact ok_some (by rw [nI_1])
      · rintro _ rfl
        show Ok ((some (nI l.length)).bind _) _
        rw [bind_s, if_pos (Int32.le_refl _)]
        exact ok_some rfl
    generalize hgd : goodB V.1 (V.1.2.2.2.2 (V.2.1 8)) (cuT V.1.1 l) l.length = good
    have hgood : ∀ set, set < 4096 → m_X12_judge (wr c m ν) m (orS (cuT V.1.1 l) set l.length) = some (nI (jdg V.1 (V.1.2.2.2.2 (V.2.1 8)) (orS (cuT V.1.1 l) set l.length))) := fun set _ => sr_judge c m hrν hw h8 _
    have gd : ∀ set, good set = decide (jdg V.1 (V.1.2.2.2.2 (V.2.1 8)) (orS (cuT V.1.1 l) set l.length) = 0) := fun set => by rw [← hgd]; rfl
    refine ok_call (P := fun o => ∃ b, Best good (2 ^ l.length) b ∧ o = oI b) (ok_cnt 0 (2 ^ l.length) (fun k z => ∃ b, z = (oI b, nI k) ∧ Best good k b) (by omega) (Nat.zero_le _) ⟨none, rfl, fun t ht => by omega⟩ ?_ ?_) ?_
    · rintro k _ hk ⟨b, rfl, hb⟩
      have hj := jdg_lt V.1 (V.1.2.2.2.2 (V.2.1 8)) (orS (cuT V.1.1 l) k l.length)
      -- one more set looked at
      have test : ∀ (ob : Option Nat) (hob : Best good k ob) (hlt : ∀ bb, ob = some bb → pcf 13 k < pcf 13 bb), Ok ((it (fun (zs12 : Int64 × Int32) => (some (nI l.length)).bind fun zx17 => if zx17 ≤ zs12.2 then some (Sum.inr zs12.1) else if ((nI k >>> (zs12.2 &&& 31)) &&& (1 : Int32)) = (1 : Int32) then (gA (wr c m ν) 9 32 m).bind fun zx18 => (aL (wr c m ν) zx18 zs12.2).bind fun zx19 => some (Sum.inl ((zs12.1 ||| zx19), (zs12.2 + (1 : Int32)))) else some (Sum.inl (zs12.1, (zs12.2 + (1 : Int32))))) FU ((0 : Int64), (0 : Int32))).bind fun (zo13 : Int64) => (rcv (wr c m ν) 9 m).bind fun zz15 => (m_X12_judge (wr c m ν) m zo13).bind fun zx16 => if zx16 = 0 then some (Sum.inl (nI k, (nI k + (1 : Int32)))) else some (Sum.inl (oI ob, (nI k + (1 : Int32)))) : Option ((Int32 × Int32) ⊕ Int32)) (fun r => ∃ b, r = Sum.inl (oI b, nI (k + 1)) ∧ Best good (k + 1) b) := by
        intro ob hob hlt
        rw [inner k (by omega), bind_s, wr_rcv, bind_s, hgood k (by omega), bind_s, if_z (by omega), nI_1]
        by_cases hz : jdg V.1 (V.1.2.2.2.2 (V.2.1 8)) (orS (cuT V.1.1 l) k l.length) = 0
        · rw [if_pos hz]
          refine ok_some ⟨some k, rfl, by omega, by rw [gd k]; simp [hz], fun t ht hg => ?_⟩
          by_cases e : t = k
          · subst e; exact Or.inr ⟨rfl, Nat.le_refl _⟩
          · cases hob2 : ob with
            | none =>
              rw [hob2] at hob
              rw [hob t (by omega)] at hg
              cases hg
            | some bb =>
              rw [hob2] at hob
              have h1 := hob.2.2 t (by omega) hg
              have h2 := hlt bb hob2
              exact Or.inl (by omega)
        · rw [if_neg hz]
          have hgk : good k = false := by rw [gd k]; simp [hz]
          refine ok_some ⟨ob, rfl, ?_⟩
          cases ob with
          | none =>
            intro t ht
            by_cases e : t = k
            · rw [e]; exact hgk
            · exact hob t (by omega)
          | some bb =>
            refine ⟨by have := hob.1; omega, hob.2.1, fun t ht hg => ?_⟩
            by_cases e : t = k
            · rw [e, hgk] at hg; cases hg
            · exact hob.2.2 t (by omega) hg
      show Ok ((gI (wr c m ν) 9 31 m).bind _) _
      rw [wr_g31, bind_s, hle.1, hsh]
      show Ok (if nI (2 ^ l.length) ≤ nI k then _ else Option.bind (if oI b = -1 then _ else _) _) _
      rw [if_le (by omega) (by omega), if_neg (by omega)]
      cases b with
      | none =>
        rw [if_pos (show oI none = -1 from rfl), bind_s]
        refine ok_mono (test none hb (fun bb h => by cases h)) ?_
        rintro r ⟨b2, rfl, h2⟩
        exact ⟨b2, rfl, h2⟩
      | some bb =>
        have hbk : bb < k := hb.1
        have hob : oI (some bb) = nI bb := rfl
        have p1 : pcf 13 k ≤ 12 := Nat.le_trans (pcf_le h12 hk) h12
        have p2 : pcf 13 bb ≤ 12 := Nat.le_trans (pcf_le h12 (by omega)) h12
        rw [if_neg (show ¬ oI (some bb) = -1 from nI_m1 (by omega))]
        show Ok (((m_X12_many (nI k).toInt64).bind fun zx20 => (m_X12_many (nI bb).toInt64).bind fun zx21 => _).bind _) _
        rw [sr_many, bind_s, sr_many, bind_s, pcn (by omega), pcn (by omega), if_lt (by omega) (by omega)]
        by_cases hlt : pcf 13 k < pcf 13 bb
        · rw [if_pos hlt, bind_s]
          refine ok_mono (test (some bb) hb (fun b2 h => by cases h; exact hlt)) ?_
          rintro r ⟨b2, rfl, h2⟩
          exact ⟨b2, rfl, h2⟩
        · rw [if_neg hlt, bind_s]
          refine ok_some ⟨some bb, ?_, by omega, hb.2.1, fun t ht hg => ?_⟩
          · show (oI (some bb), nI k + 1) = _
            rw [nI_1]
          · by_cases e : t = k
            · subst e
              by_cases e2 : pcf 13 bb = pcf 13 t
              · exact Or.inr ⟨e2, by omega⟩
              · exact Or.inl (by omega)
            · exact hb.2.2 t (by omega) hg
    · rintro _ ⟨b, rfl, hb⟩
      show Ok ((gI (wr c m ν) 9 31 m).bind _) _
      rw [wr_g31, bind_s, hle.1, hsh]
      show Ok (if nI (2 ^ l.length) ≤ nI (2 ^ l.length) then _ else _) _
      rw [if_pos (Int32.le_refl _)]
      exact ok_some ⟨b, hb, rfl⟩
    · rintro _ ⟨b, hb, rfl⟩
      exact ok_some ⟨b, ν, hb, rfl, hrν, hkp⟩
