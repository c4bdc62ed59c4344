/-! THE CLASS: a world remembers, takes back, is made like another -/
theorem gu_self {c : Ce} {a : Nat} {e : PE} (h : c a = some e) : gx_up c a e = c := by
  funext b
  by_cases hb : b = a
  · rw [hb, gu_e, h]
  · rw [gu_n _ _ hb]
def oarr (C : String) (N : Nat) (F : Nat → Option Nat) : PE := .inl (.object C, N, .inr (.inr (.inr (.inr F))))
theorem alS {c : Ce} {b : Nat} {f : Nat → Option Nat} (h : c b = some (oarr "FencedStates$Search" 20 f)) : alen c b = some (nI 20) := alen_S h
theorem lp_obj {ce : Ce} {C : String} {ci N kf w w' a a' : Nat} {fs fs' : List Value} {F F' : Nat → Option Nat} (hN : N < 1000) (hal : ∀ (c : Ce) (b : Nat) (f : Nat → Option Nat), c b = some (oarr C N f) → alen c b = some (nI N)) (h1 : ce w = some (.inr (7, fs))) (h2 : fs[kf]? = some (.ref a)) (h1' : ce w' = some (.inr (7, fs'))) (h2' : fs'[kf]? = some (.ref a')) (h3 : ce a = some (oarr C N F)) (h3' : ce a' = some (oarr C N F')) (d1 : w ≠ a) (d2 : w' ≠ a) (d3 : a' ≠ a) (hv : ∀ i, i < N → ∀ v, F' i = some v → v ≠ a ∧ ∃ fs, ce v = some (.inr (ci, fs))) : it (fun (zs1 : Int32 × Ce) => (gA zs1.2 7 kf w).bind fun zx28 => (alen zs1.2 zx28).bind fun zx29 => if zx29 ≤ zs1.1 then some (Sum.inr ((), zs1.2)) else (gA zs1.2 7 kf w').bind fun zx30 => (alen zs1.2 zx30).bind fun zx31 => if zx31 ≤ zs1.1 then some (Sum.inr ((), zs1.2)) else (gA zs1.2 7 kf w).bind fun zx32 => (gA zs1.2 7 kf w').bind fun zx33 => (aR C zs1.2 zx33 zs1.1).bind fun zx34 => (sR C ci zs1.2 zx32 zs1.1 zx34).bind fun zc35 => some (Sum.inl ((zs1.1 + (1 : Int32)), zc35))) FU ((0 : Int32), ce) = some ((), gx_up ce a (oarr C N (fun i => if i < N then F' i else F i))) := by
  refine ok_eq (ok_cnt 0 N (fun k z => z = (nI k, gx_up ce a (oarr C N (fun i => if i < k then F' i else F i)))) (by omega) (by omega) ?_ ?_ ?_)
  · have : (fun i => if i < 0 then F' i else F i) = F := by
      funext i
      rw [if_neg (by omega)]
    rw [this, gu_self h3]
    rfl
  · rintro k _ hk rfl
    generalize hG : (fun i => if i < k then F' i else F i) = G
    have q1 : gx_up ce a (oarr C N G) w = some (.inr (7, fs)) := by rw [gu_n _ _ d1]; exact h1
    have q1' : gx_up ce a (oarr C N G) w' = some (.inr (7, fs')) := by rw [gu_n _ _ d2]; exact h1'
    have q3 : gx_up ce a (oarr C N G) a = some (oarr C N G) := gu_e _ _ _
    have q3' : gx_up ce a (oarr C N G) a' = some (oarr C N F') := by rw [gu_n _ _ d3]; exact h3'
    have es : sR C ci (gx_up ce a (oarr C N G)) a (nI k) (F' k) = some (gx_up ce a (oarr C N (va_up G k (F' k)))) := by
      cases hf : F' k with
      | none =>
        rw [sR_n q3 hk (by omega), gu_gu]
        rfl
      | some v =>
        obtain ⟨v1, fsv, v2⟩ := hv k hk v hf
        rw [sR_s q3 hk (by omega) (show gx_up ce a (oarr C N G) v = some (.inr (ci, fsv)) by rw [gu_n _ _ v1]; exact v2), gu_gu]
        rfl
    have hnk : ¬ nI N ≤ nI k := fun z => by have := (nI_leI (by omega) (by omega)).mp z; omega
    simp only [gA_c q1 h2, gA_c q1' h2', bind_s, hal _ _ _ q3, hal _ _ _ q3', aR_c q3' hk (show N < 2 ^ 31 by omega), es, if_neg hnk]
    refine ok_some ?_
    show (nI k + 1, _) = _
    have e : va_up G k (F' k) = fun i => if i < k + 1 then F' i else F i := by
      funext i
      by_cases e : i = k
      · subst e
        rw [up_e, if_pos (by omega)]
      · rw [up_n _ _ _ e, ← hG]
        by_cases h : i < k
        · show (if i < k then F' i else F i) = _
          rw [if_pos h, if_pos (by omega)]
        · show (if i < k then F' i else F i) = _
          rw [if_neg h, if_neg (by omega)]
    rw [nI_1, e]
  · rintro _ rfl
    generalize hG : (fun i => if i < N then F' i else F i) = G
    have q1 : gx_up ce a (oarr C N G) w = some (.inr (7, fs)) := by rw [gu_n _ _ d1]; exact h1
    show Ok ((gA (gx_up ce a (oarr C N G)) 7 kf w).bind _) _
    rw [gA_c q1 h2, bind_s]
    show Ok ((alen (gx_up ce a (oarr C N G)) a).bind _) _
    rw [hal _ _ _ (gu_e _ _ _), bind_s]
    show Ok (if nI N ≤ nI N then _ else _) _
    rw [if_pos (Int32.le_refl _)]
    exact ok_some rfl
/-- a search, live, whose cells no frozen one is -/
def Liv (nx : Nat) (Z : Nat → Prop) (A : Nat → Nat) : Prop := ∀ b, Z b → b < nx ∧ Off A b
theorem SZ_of {ce : Ce} {nx : Nat} {Z : Nat → Prop} {A : Nat → Nat} {κ : Nat × Nat × Nat} {V : Sv} (h : SS ce nx A κ V) {mp : Nat} (h1 : gA ce 6 0 (A 0) = some mp) (h2 : MA ce Z mp V.1) : SZ ce nx Z A κ V := ⟨h, mp, h1, h2⟩
/-- one live search is made like another, or like a frozen one -/
theorem sz_become {ce : Ce} {nx : Nat} {Z : Nat → Prop} {B : Nat → Nat} {κb : Nat × Nat × Nat} {U : Sv} (hB : SZ ce nx Z B κb U) (hL : Liv nx Z B) {A : Nat → Nat} {κ : Nat × Nat × Nat} {V : Sv} (hA : SZ ce nx Z A κ V) (hdis : ∀ i, i < 13 → ∀ j, j < 13 → A i ≠ B j) (hob : V.2.2.2.1.length ≤ 80) : Ok (m_X8_become nx ce (B 0) (A 0)) (fun z => ∃ B2, SZ z.2.1 (nx + z.2.2.1) Z B2 (bcap κb V) V ∧ Es ce nx B z.2.1 B2 ∧ z.2.2.1 ≤ 7 ∧ z.2.2.2 = bcost κb V) := by
  obtain ⟨hA1, mp, g1, g2⟩ := hA
  refine ok_mono (ss_become hB.1 hA1 hdis g1 g2 hL hob) ?_
  rintro ⟨u, d, K, S⟩ ⟨B2, s1, s2, s3, s4, s5⟩
  have s2 : Es ce nx B d B2 := s2
  have s3 : gA d 6 0 (B 0) = some mp := s3
  refine ⟨B2, SZ_of s1 (mp := mp) ?_ (MA_fr g2 fun b hb => s2.2.1 b (hL b hb).1 (hL b hb).2), s2, s4, s5⟩
  show gA d 6 0 (B2 0) = some mp
  rw [s2.1]
  exact s3
theorem cx_remember {ce : Ce} {nx : Nat} {Z : Nat → Prop} {w t p : Nat} {A : Nat → Nat} {κ : Nat × Nat × Nat} {V : Sv} {tp pp : List Nat} {pa : List Sv} (hW : WC3 ce w t p (A 0) tp pp) (hS : SZ ce nx Z A κ V) (hP : PP ce nx Z pp pa) (hL : Liv nx Z A) (hZ : ∀ b, Z b → b ≠ w ∧ b ≠ p) (hx : w < nx ∧ t < nx ∧ p < nx) (hd : w ≠ t ∧ w ≠ p ∧ t ≠ p) (ho : Off A w ∧ Off A t ∧ Off A p) (hob : V.2.2.2.1.length ≤ 80) : Ok (m_X10_remember nx ce w) (fun z => z.2.2.1 ≤ 20 ∧ z.2.2.2 ≤ 33 + bcost (0, 0, 0) V ∧ ∃ pp2, WC3 z.2.1 w t p (A 0) tp pp2 ∧ PP z.2.1 (nx + z.2.2.1) (fun b => Z b ∨ (nx ≤ b ∧ b < nx + z.2.2.1)) pp2 (pushP pa V) ∧ ∀ b, b < nx → b ≠ w → b ≠ p → z.2.1 b = ce b) := by
  obtain ⟨T, P, a1, a2, a3, a4, a5⟩ := hW
  obtain ⟨p1, p2, p3⟩ := hP
  have hlp : pp.length ≤ 20 := by omega
  unfold m_X10_remember
  rw [gI_c (k := 3) a1 rfl, bind_s, gA_c (k := 2) a1 rfl, bind_s, alen_S a3, bind_s]
  -- the row is shifted, if it is full
  have stage : ∃ c1 q P', (if nI pp.length < nI 20 then some ((), ce) else (it (fun (zs24 : Int32 × Ce) => (gA zs24.2 7 2 w).bind fun zx30 => (alen zs24.2 zx30).bind fun zx31 => if zx31 ≤ zs24.1 then some (Sum.inr ((), zs24.2)) else (gA zs24.2 7 2 w).bind fun zx32 => (gA zs24.2 7 2 w).bind fun zx33 => (aR "FencedStates$Search" zs24.2 zx33 zs24.1).bind fun zx34 => (sR "FencedStates$Search" 6 zs24.2 zx32 (zs24.1 - (1 : Int32)) zx34).bind fun zc35 => some (Sum.inl ((zs24.1 + (1 : Int32)), zc35))) FU ((1 : Int32), ce)).bind fun (zo25 : Unit × Ce) => (gA zo25.2 7 2 w).bind fun zx27 => (alen zo25.2 zx27).bind fun zx28 => (pV zo25.2 7 3 w (.int (zx28 - (1 : Int32)))).bind fun zc29 => some ((), zc29)) = some ((), c1) ∧ q = (if pp.length = 20 then pp.drop 1 else pp) ∧ c1 w = some (.inr (7, [.ref t, .int (nI tp.length), .ref p, .int (nI q.length), .ref (A 0)])) ∧ c1 p = some (oarr "FencedStates$Search" 20 P') ∧ (∀ i, i < 20 → i ≠ q.length → P' i = q[i]?) ∧ ∀ b, b ≠ w → b ≠ p → c1 b = ce b := by
    by_cases e : pp.length = 20
    · have lp : it (fun (zs24 : Int32 × Ce) => (gA zs24.2 7 2 w).bind fun zx30 => (alen zs24.2 zx30).bind fun zx31 => if zx31 ≤ zs24.1 then some (Sum.inr ((), zs24.2)) else (gA zs24.2 7 2 w).bind fun zx32 => (gA zs24.2 7 2 w).bind fun zx33 => (aR "FencedStates$Search" zs24.2 zx33 zs24.1).bind fun zx34 => (sR "FencedStates$Search" 6 zs24.2 zx32 (zs24.1 - (1 : Int32)) zx34).bind fun zc35 => some (Sum.inl ((zs24.1 + (1 : Int32)), zc35))) FU ((1 : Int32), ce) = some ((), gx_up ce p (oarr "FencedStates$Search" 20 (fun i => if i + 1 < 20 then P (i + 1) else P i))) := by
        refine ok_eq (ok_cnt 1 20 (fun k z => 1 ≤ k ∧ z = (nI k, gx_up ce p (oarr "FencedStates$Search" 20 (fun i => if i + 1 < k then P (i + 1) else P i)))) (by omega) (by omega) ?_ ?_ ?_)
        · have : (fun i => if i + 1 < 1 then P (i + 1) else P i) = P := by
            funext i
            rw [if_neg (by omega)]
          rw [this, gu_self (show ce p = some (oarr "FencedStates$Search" 20 P) from a3)]
          exact ⟨by omega, rfl⟩
        · rintro k _ hk ⟨hk1, rfl⟩
          · generalize hG : (fun i => if i + 1 < k then P (i + 1) else P i) = G
            have q1 : gx_up ce p (oarr "FencedStates$Search" 20 G) w = some (.inr (7, [.ref t, .int (nI tp.length), .ref p, .int (nI pp.length), .ref (A 0)])) := by rw [gu_n _ _ hd.2.1]; exact a1
            have q3 : gx_up ce p (oarr "FencedStates$Search" 20 G) p = some (oarr "FencedStates$Search" 20 G) := gu_e _ _ _
            obtain ⟨k0, rfl⟩ : ∃ k0, k = k0 + 1 := ⟨k - 1, by omega⟩
            have hGk : G (k0 + 1) = P (k0 + 1) := by
              rw [← hG]
              show (if k0 + 1 + 1 < k0 + 1 then _ else P (k0 + 1)) = _
              rw [if_neg (by omega)]
            obtain ⟨v, hv⟩ : ∃ v, P (k0 + 1) = some v := by
              rw [a5 _ hk, List.getElem?_eq_getElem (by omega)]
              exact ⟨_, rfl⟩
            have hvp : pp[k0 + 1]? = some v := by rw [← a5 _ hk]; exact hv
            have hvV : pa[k0 + 1]? = some (pa[k0 + 1]'(by omega)) := List.getElem?_eq_getElem _
            obtain ⟨zv, fsv, hcv⟩ := PS_cell (p3 _ _ _ hvp hvV)
            have hnk : ¬ nI 20 ≤ nI (k0 + 1) := fun z => by have := (nI_leI (by omega) (by omega)).mp z; omega
            have es : sR "FencedStates$Search" 6 (gx_up ce p (oarr "FencedStates$Search" 20 G)) p (nI k0) (some v) = some (gx_up ce p (oarr "FencedStates$Search" 20 (va_up G k0 (some v)))) := by
              rw [sR_s q3 (by omega) (by omega) (show gx_up ce p (oarr "FencedStates$Search" 20 G) v = some (.inr (6, fsv)) by rw [gu_n _ _ (hZ v zv).2]; exact hcv), gu_gu]
              rfl
            simp only [gA_c (k := 2) q1 rfl, bind_s, alS q3, if_neg hnk, aR_c q3 hk (show 20 < 2 ^ 31 by omega), hGk, hv, nI_pred, es]
            refine ok_some ⟨by omega, ?_⟩
            show (nI (k0 + 1) + 1, gx_up ce p (oarr "FencedStates$Search" 20 (va_up G k0 (some v)))) = _
            have e : va_up G k0 (some v) = fun i => if i + 1 < k0 + 1 + 1 then P (i + 1) else P i := by
              funext i
              by_cases e : i = k0
              · subst e
                rw [up_e, if_pos (by omega), hv]
              · rw [up_n _ _ _ e, ← hG]
                by_cases h : i + 1 < k0 + 1
                · show (if i + 1 < k0 + 1 then P (i + 1) else P i) = _
                  rw [if_pos h, if_pos (by omega)]
                · show (if i + 1 < k0 + 1 then P (i + 1) else P i) = _
                  rw [if_neg h, if_neg (by omega)]
            rw [nI_1, e]
        · rintro _ ⟨_, rfl⟩
          generalize hG : (fun i => if i + 1 < 20 then P (i + 1) else P i) = G
          have q1 : gx_up ce p (oarr "FencedStates$Search" 20 G) w = some (.inr (7, [.ref t, .int (nI tp.length), .ref p, .int (nI pp.length), .ref (A 0)])) := by rw [gu_n _ _ hd.2.1]; exact a1
          have hnk : nI 20 ≤ nI 20 := Int32.le_refl _
          simp only [gA_c (k := 2) q1 rfl, bind_s, alS (gu_e ce p (oarr "FencedStates$Search" 20 G)), if_pos hnk]
          exact ok_some rfl
      generalize hG : (fun i => if i + 1 < 20 then P (i + 1) else P i) = G at lp
      have q1 : gx_up ce p (oarr "FencedStates$Search" 20 G) w = some (.inr (7, [.ref t, .int (nI tp.length), .ref p, .int (nI pp.length), .ref (A 0)])) := by rw [gu_n _ _ hd.2.1]; exact a1
      refine ⟨gx_up (gx_up ce p (oarr "FencedStates$Search" 20 G)) w (.inr (7, [.ref t, .int (nI tp.length), .ref p, .int (nI 19), .ref (A 0)])), pp.drop 1, G, ?_, by rw [if_pos e], ?_, ?_, fun i hi hne => ?_, fun b h1 h2 => ?_⟩
      · rw [if_lt (by omega) (by omega), if_neg (by omega), lp, bind_s]
        show (gA (gx_up ce p (oarr "FencedStates$Search" 20 G)) 7 2 w).bind _ = _
        rw [gA_c (k := 2) q1 rfl, bind_s]
        show (alen (gx_up ce p (oarr "FencedStates$Search" 20 G)) p).bind _ = _
        rw [alS (gu_e _ _ _), bind_s]
        show (pV (gx_up ce p (oarr "FencedStates$Search" 20 G)) 7 3 w (.int (nI 20 - 1))).bind _ = _
        have e20 : nI 20 - 1 = nI 19 := rfl
        rw [e20, pV_c q1 (show 3 < 5 by omega), bind_s]
        rfl
      · rw [gu_e, List.length_drop, e]
      · rw [gu_n _ _ (fun e => hd.2.1 e.symm), gu_e]
      · rw [List.length_drop, e] at hne
        have hne : i ≠ 19 := hne
        rw [← hG]
        show (if i + 1 < 20 then P (i + 1) else P i) = _
        rw [if_pos (by omega), a5 (i + 1) (by omega), List.getElem?_drop, Nat.add_comm]
      · rw [gu_n _ _ h1, gu_n _ _ h2]
    · refine ⟨ce, pp, P, ?_, by rw [if_neg e], a1, a3, fun i hi _ => a5 i hi, fun _ _ _ => rfl⟩
      rw [if_lt (by omega) (by omega), if_pos (by omega)]
  obtain ⟨c1, q, P', s1, s2, s3, s4, s5, s6⟩ := stage
  have hq20 : q.length < 20 := by
    rw [s2]
    by_cases e : pp.length = 20
    · rw [if_pos e, List.length_drop]; omega
    · rw [if_neg e]; omega
  rw [s1, bind_s]
  obtain ⟨hSS, mp, g1, g2⟩ := hS
  have hlt := ss_lt hSS
  have hA0w : A 0 ≠ w := fun e => ho.1 0 (by omega) e.symm
  refine ok_adcK ?_
  rw [bind_s]
  show Ok ((gA (gx_up c1 nx (.inr (6, df_X8))) 7 4 w).bind _) _
  generalize e2 : gx_up c1 nx (.inr (6, df_X8)) = c2
  have f2 : ∀ b, b < nx → c2 b = c1 b := fun b hb => by rw [← e2, gu_n _ _ (by omega)]
  have f2c : ∀ b, b < nx → b ≠ w → b ≠ p → c2 b = ce b := fun b hb h1 h2 => by rw [f2 b hb, s6 b h1 h2]
  have offA : ∀ i, i < 13 → A i < nx ∧ A i ≠ w ∧ A i ≠ p := fun i hi => ⟨hlt.1 i hi, fun e => ho.1 i hi e.symm, fun e => ho.2.2 i hi e.symm⟩
  have hw2 : c2 w = some (.inr (7, [.ref t, .int (nI tp.length), .ref p, .int (nI q.length), .ref (A 0)])) := by rw [f2 w hx.1]; exact s3
  have cA : ∀ i, i < 13 → c2 (A i) = ce (A i) := fun i hi => f2c _ (offA i hi).1 (offA i hi).2.1 (offA i hi).2.2
  have gA2 : gA c2 6 0 (A 0) = some mp := by unfold gA; rw [cA 0 (by omega)]; exact g1
  have mz : ∀ b, Z b → c2 b = ce b := fun b hb => f2c b (hL b hb).1 (hZ b hb).1 (hZ b hb).2
  rw [gA_c (k := 4) hw2 rfl, bind_s, gA2, bind_s]
  have p0 : c2 nx = some (.inr (6, df_X8)) := by rw [← e2, gu_e]
  refine ok_adcB (ok_mono (ini_ss (nx := nx + 1) p0 (by omega) (MA_congr mz (fun b hb => ⟨by have := (hL b hb).1; omega, by have := (hL b hb).1; omega⟩) g2)) ?_)
  rintro ⟨u1, d1, K1, C1⟩ ⟨k1, k2, n1, n2, n3⟩
  have k1 : K1 = 12 := k1
  have k2 : C1 = 18 := k2
  subst k1 k2
  have n1 : SS d1 (nx + 1 + 12) (newA nx (nx + 1)) (0, 0, 0) (V.1, nums0, [], [], fl0, []) := n1
  have n2 : gA d1 6 0 nx = some mp := n2
  have n3 : ∀ b, b ≠ nx → b < nx + 1 → d1 b = c2 b := n3
  have hw3 : d1 w = some (.inr (7, [.ref t, .int (nI tp.length), .ref p, .int (nI q.length), .ref (A 0)])) := by rw [n3 w (by omega) (by omega)]; exact hw2
  show Ok ((gA d1 7 4 w).bind _) _
  rw [gA_c (k := 4) hw3 rfl, bind_s]
  show Ok ((rcv d1 6 nx).bind _) _
  rw [show rcv d1 6 nx = some () from ss_rcv n1, bind_s]
  refine ok_adcB ?_
  show Ok (m_X8_become (nx + 1 + 12) d1 (newA nx (nx + 1) 0) (A 0)) _
  have mz1 : ∀ b, Z b → d1 b = ce b := fun b hb => by
    have := (hL b hb).1
    rw [n3 b (by omega) (by omega)]
    exact mz b hb
  have hAz : SZ d1 (nx + 1 + 12) Z A κ V := SZ_congr ⟨hSS, mp, g1, g2⟩ (fun b hb => ⟨by have := (hL b hb).1; omega, (hL b hb).2⟩) (fun i hi => by rw [n3 _ (by have := (offA i hi).1; omega) (by have := (offA i hi).1; omega)]; exact cA i hi) mz1 (by omega) (fun _ hb => hb)
  have hBz : SZ d1 (nx + 1 + 12) Z (newA nx (nx + 1)) (0, 0, 0) (V.1, nums0, [], [], fl0, []) := ⟨n1, mp, n2, MA_fr g2 mz1⟩
  have newge : ∀ i, nx ≤ newA nx (nx + 1) i := fun i => by
    unfold newA
    by_cases e : i = 0
    · rw [if_pos e]; exact Nat.le_refl _
    · rw [if_neg e]; omega
  have hLB : Liv (nx + 1 + 12) Z (newA nx (nx + 1)) := fun b hb => ⟨by have := (hL b hb).1; omega, fun i hi => by have := (hL b hb).1; have := newge i; omega⟩
  refine ok_mono (sz_become hBz hLB hAz (fun i hi j hj => by have := (offA i hi).1; have := newge j; omega) hob) ?_
  rintro ⟨u2, d2, K2, C2⟩ ⟨B2, b1, b2, b3, b4⟩
  have b1 : SZ d2 (nx + 1 + 12 + K2) Z B2 (bcap (0, 0, 0) V) V := b1
  have b2 : Es d1 (nx + 1 + 12) (newA nx (nx + 1)) d2 B2 := b2
  have b3 : K2 ≤ 7 := b3
  have b4 : C2 = bcost (0, 0, 0) V := b4
  have fr2 : ∀ b, b < nx → d2 b = c2 b := fun b hb => by
    rw [b2.2.1 b (by omega) (fun i hi => by have := newge i; omega), n3 b (by omega) (by omega)]
  have hw4 : d2 w = some (.inr (7, [.ref t, .int (nI tp.length), .ref p, .int (nI q.length), .ref (A 0)])) := by rw [fr2 w hx.1]; exact hw2
  have hp4 : d2 p = some (oarr "FencedStates$Search" 20 P') := by rw [fr2 p hx.2.2, f2 p hx.2.2]; exact s4
  have hB20 : B2 0 = nx := b2.1
  obtain ⟨mpB, atB, hcB, _⟩ := b1.1
  rw [hB20] at hcB
  show Ok ((gA d2 7 2 w).bind _) _
  rw [gA_c (k := 2) hw4 rfl, bind_s]
  show Ok ((gI d2 7 3 w).bind _) _
  rw [gI_c (k := 3) hw4 rfl, bind_s]
  show Ok ((sR "FencedStates$Search" 6 d2 p (nI q.length) (some nx)).bind _) _
  rw [sR_s hp4 hq20 (by omega) hcB, bind_s]
  generalize e5 : gx_up d2 p _ = d3
  have hd3 : d3 = gx_up d2 p (oarr "FencedStates$Search" 20 (va_up P' q.length (some nx))) := e5.symm
  have hw5 : d3 w = some (.inr (7, [.ref t, .int (nI tp.length), .ref p, .int (nI q.length), .ref (A 0)])) := by rw [hd3, gu_n _ _ hd.2.1]; exact hw4
  rw [gI_c (k := 3) hw5 rfl, bind_s, nI_1, pV_c hw5 (show 3 < 5 by omega), bind_s]
  generalize e6 : gx_up d3 w _ = d4
  have hd4 : d4 = gx_up d3 w (.inr (7, [.ref t, .int (nI tp.length), .ref p, .int (nI (q.length + 1)), .ref (A 0)])) := by rw [← e6]; rfl
  have fr4 : ∀ b, b ≠ w → b ≠ p → d4 b = d2 b := fun b h1 h2 => by rw [hd4, gu_n _ _ h1, hd3, gu_n _ _ h2]
  have fr0 : ∀ b, b < nx → b ≠ w → b ≠ p → d4 b = ce b := fun b hb h1 h2 => by rw [fr4 b h1 h2, fr2 b hb, f2c b hb h1 h2]
  refine ok_some ⟨?_, ?_, q ++ [nx], ⟨T, va_up P' q.length (some nx), ?_, ?_, ?_, a4, fun i hi => ?_⟩, ⟨?_, ?_, fun i pt U hi hU => ?_⟩, fr0⟩
  · show 0 + K2 + 12 + 1 ≤ 20
    omega
  · show 0 + C2 + 18 + 15 ≤ _
    omega
  · show d4 w = _
    rw [hd4, gu_e, List.length_append]
    rfl
  · show d4 t = _
    rw [fr0 t hx.2.1 (fun e => hd.1 e.symm) hd.2.2]
    exact a2
  · show d4 p = _
    rw [hd4, gu_n _ _ (fun e => hd.2.1 e.symm), hd3, gu_e]
    rfl
  · by_cases e : i = q.length
    · rw [e, up_e, List.getElem?_append_right (Nat.le_refl _), Nat.sub_self]
      rfl
    · rw [up_n _ _ _ e, s5 i hi e]
      by_cases hlt : i < q.length
      · rw [List.getElem?_append_left hlt]
      · rw [List.getElem?_eq_none (by omega), List.getElem?_eq_none (by rw [List.length_append]; show q.length + 1 ≤ i; omega)]
  · rw [List.length_append]
    unfold pushP
    rw [List.length_append, s2]
    by_cases e : pp.length = 20
    · rw [if_pos e, if_pos (by omega), List.length_drop, List.length_drop, p1]
      rfl
    · rw [if_neg e, if_neg (by omega), p1]
      rfl
  · unfold pushP
    rw [List.length_append]
    by_cases e : pa.length = 20
    · rw [if_pos e, List.length_drop]
      show pa.length - 1 + 1 ≤ 20
      omega
    · rw [if_neg e]
      show pa.length + 1 ≤ 20
      omega
  · show PS d4 (nx + (0 + K2 + 12 + 1)) (fun b => Z b ∨ (nx ≤ b ∧ b < nx + (0 + K2 + 12 + 1))) pt U
    have hqa : q.length = (if pa.length = 20 then pa.drop 1 else pa).length := by
      rw [s2]
      by_cases e : pp.length = 20
      · rw [if_pos e, if_pos (by omega), List.length_drop, List.length_drop, p1]
      · rw [if_neg e, if_neg (by omega), p1]
    have hU : ((if pa.length = 20 then pa.drop 1 else pa) ++ [V])[i]? = some U := hU
    by_cases hiq : i < q.length
    · rw [List.getElem?_append_left hiq] at hi
      rw [List.getElem?_append_left (by omega)] at hU
      have hps : PS ce nx Z pt U := by
        by_cases e : pp.length = 20
        · rw [s2, if_pos e, List.getElem?_drop] at hi
          rw [if_pos (by omega), List.getElem?_drop] at hU
          exact p3 _ _ _ hi hU
        · rw [s2, if_neg e] at hi
          rw [if_neg (by omega)] at hU
          exact p3 _ _ _ hi hU
      exact PS_congr hps (fun b hb => (hL b hb).1) (fun b hb => fr0 b (hL b hb).1 (hZ b hb).1 (hZ b hb).2) (by omega) (fun b hb => Or.inl hb)
    · have hil : i = q.length := by
        have := (List.getElem?_eq_some_iff.mp hi).1
        rw [List.length_append] at this
        have this : i < q.length + 1 := this
        omega
      rw [hil, List.getElem?_append_right (Nat.le_refl _), Nat.sub_self] at hi
      rw [hil, hqa, List.getElem?_append_right (Nat.le_refl _), Nat.sub_self] at hU
      have e1 : nx = pt := by simpa using hi
      have e2 : V = U := by simpa using hU
      subst e1 e2
      have Bge : ∀ i, i < 13 → nx ≤ B2 i := fun i hi => by
        rcases b2.2.2 i hi with e | e
        · rw [e]; exact newge i
        · omega
      have Blt := (ss_lt b1.1).1
      obtain ⟨y1, y2, y3, y4⟩ := SZ_congr (Z2 := fun b => (Z b ∨ (nx ≤ b ∧ b < nx + (0 + K2 + 12 + 1))) ∧ Off B2 b) b1 (nx2 := nx + (0 + K2 + 12 + 1)) (d := d4) (fun b hb => ⟨by have := (hL b hb).1; omega, fun i hi => by have := (hL b hb).1; have := Bge i hi; omega⟩) (fun i hi => fr4 _ (by have := Bge i hi; have := hx.1; omega) (by have := Bge i hi; have := hx.2.2; omega)) (fun b hb => fr4 b (hZ b hb).1 (hZ b hb).2) (by omega) (fun b hb => ⟨Or.inl hb, fun i hi => by have := (hL b hb).1; have := Bge i hi; omega⟩)
      rw [hB20] at y3
      exact ⟨B2, _, hB20, fun i hi => Or.inr ⟨Bge i hi, by have := Blt i hi; omega⟩, y1, y2, y3, y4⟩
/-- a step is taken back -/
theorem cx_takeBack {ce : Ce} {nx : Nat} {Z : Nat → Prop} {w t p : Nat} {A : Nat → Nat} {κ : Nat × Nat × Nat} {V : Sv} {tp pp : List Nat} {pa : List Sv} (hW : WC3 ce w t p (A 0) tp pp) (hS : SZ ce nx Z A κ V) (hP : PP ce nx Z pp pa) (hL : Liv nx Z A) (hZ : ∀ b, Z b → b ≠ w ∧ b ≠ p) (hx : w < nx ∧ t < nx ∧ p < nx) (hd : w ≠ t ∧ w ≠ p ∧ t ≠ p) (ho : Off A w ∧ Off A t ∧ Off A p) (hob : ∀ U, U ∈ pa → U.2.2.2.1.length ≤ 80) : (pa = [] ∧ m_X10_takeBack nx ce w = some (-1, ce, 0, 0)) ∨ ∃ pa' U, pa = pa' ++ [U] ∧ Ok (m_X10_takeBack nx ce w) (fun z => z.1 = nI pa'.length ∧ z.2.2.1 ≤ 7 ∧ z.2.2.2 = bcost κ U ∧ ∃ A2 pp2, WC3 z.2.1 w t p (A 0) tp pp2 ∧ pp2 = pp.dropLast ∧ SZ z.2.1 (nx + z.2.2.1) Z A2 (bcap κ U) U ∧ A2 0 = A 0 ∧ (∀ i, i < 13 → A2 i = A i ∨ nx ≤ A2 i) ∧ ∀ b, b < nx → b ≠ w → b ≠ p → Off A b → z.2.1 b = ce b) := by
  obtain ⟨T, P, a1, a2, a3, a4, a5⟩ := hW
  obtain ⟨p1, p2, p3⟩ := hP
  unfold m_X10_takeBack
  rw [gI_c (k := 3) a1 rfl, bind_s]
  by_cases e : pa.length = 0
  · refine Or.inl ⟨List.length_eq_zero_iff.mp e, ?_⟩
    have : pp.length = 0 := by omega
    rw [this, if_pos (by rw [nI_0]; exact Int32.le_refl _)]
  · refine Or.inr ?_
    obtain ⟨pa', U, hpa⟩ : ∃ p U, pa = p ++ [U] := ⟨pa.dropLast, pa.getLast (fun z => e (by rw [z]; rfl)), (List.dropLast_concat_getLast _).symm⟩
    obtain ⟨pp', pt, hpp⟩ : ∃ q x, pp = q ++ [x] := ⟨pp.dropLast, pp.getLast (fun z => e (by rw [← p1, z]; rfl)), (List.dropLast_concat_getLast _).symm⟩
    have la : pa.length = pa'.length + 1 := by rw [hpa, List.length_append]; rfl
    have lp : pp.length = pp'.length + 1 := by rw [hpp, List.length_append]; rfl
    refine ⟨pa', U, hpa, ?_⟩
    have hpt : pp[pp'.length]? = some pt := by rw [hpp, List.getElem?_append_right (Nat.le_refl _), Nat.sub_self]; rfl
    have hUt : pa[pp'.length]? = some U := by
      have : pp'.length = pa'.length := by omega
      rw [hpa, this, List.getElem?_append_right (Nat.le_refl _), Nat.sub_self]
      rfl
    obtain ⟨A', κ', rfl, h2, h3, mp, h4, h5⟩ := p3 _ _ _ hpt hUt
    have hnz : ¬ nI pp.length ≤ 0 := nI_nle (by omega) (by omega)
    rw [if_neg hnz, bind_s, gA_c (k := 2) a1 rfl, bind_s, alen_S a3, bind_s, if_le (by omega) (by omega), if_pos (by omega), bind_s, bind_s, lp, nI_pred, aR_c a3 (by omega) (by omega), bind_s, a5 _ (by omega), hpt]
    show Ok ((some (nI (pp'.length + 1))).bind _) _
    rw [bind_s, nI_pred, pV_c a1 (show 3 < 5 by omega), bind_s]
    generalize e1 : gx_up ce w _ = c1
    have hc1 : c1 = gx_up ce w (.inr (7, [.ref t, .int (nI tp.length), .ref p, .int (nI pp'.length), .ref (A 0)])) := by rw [← e1, lp]; rfl
    have w1 : c1 w = some (.inr (7, [.ref t, .int (nI tp.length), .ref p, .int (nI pp'.length), .ref (A 0)])) := by rw [hc1, gu_e]
    have q1 : c1 p = some (oarr "FencedStates$Search" 20 P) := by rw [hc1, gu_n _ _ (fun e => hd.2.1 e.symm)]; exact a3
    rw [gA_c (k := 2) w1 rfl, bind_s, gI_c (k := 3) w1 rfl, bind_s, sR_n q1 (by omega) (by omega), bind_s]
    generalize e2 : gx_up c1 p _ = c2
    have hc2 : c2 = gx_up c1 p (oarr "FencedStates$Search" 20 (va_up P pp'.length none)) := e2.symm
    have w2 : c2 w = some (.inr (7, [.ref t, .int (nI tp.length), .ref p, .int (nI pp'.length), .ref (A 0)])) := by rw [hc2, gu_n _ _ hd.2.1]; exact w1
    have fc : ∀ b, b ≠ w → b ≠ p → c2 b = ce b := fun b h1 h2 => by rw [hc2, gu_n _ _ h2, hc1, gu_n _ _ h1]
    have fz : ∀ b, Z b → c2 b = ce b := fun b hb => fc b (hZ b hb).1 (hZ b hb).2
    have hlt := ss_lt hS.1
    have S2 : SZ c2 nx Z A κ V := SZ_congr hS hL (fun i hi => fc _ (fun e => ho.1 i hi e.symm) (fun e => ho.2.2 i hi e.symm)) fz (Nat.le_refl _) (fun _ hb => hb)
    have S3 : SZ c2 nx (fun b => Z b ∧ Off A' b) A' κ' U := SZ_congr ⟨h3, mp, h4, h5⟩ (fun b hb => ⟨(hL b hb.1).1, hb.2⟩) (fun i hi => fz _ (h2 i hi)) (fun b hb => fz b hb.1) (Nat.le_refl _) (fun _ hb => hb)
    rw [gA_c (k := 4) w2 rfl, bind_s, ss_rcv S2.1, bind_s]
    refine ok_adcB ?_
    have S3' : SZ c2 nx Z A' κ' U := ⟨S3.1, by obtain ⟨x, y, z⟩ := S3.2; exact ⟨x, y, MA_congr (fun _ _ => rfl) (fun b hb => hb.1) z⟩⟩
    refine ok_mono (sz_become S2 hL S3' (fun i hi j hj => (hL _ (h2 i hi)).2 j hj) (hob U (by rw [hpa]; simp))) ?_
    rintro ⟨u2, d2, K2, C2⟩ ⟨B2, b1, b2, b3, b4⟩
    have b1 : SZ d2 (nx + K2) Z B2 (bcap κ U) U := b1
    have b2 : Es c2 nx A d2 B2 := b2
    have b3 : K2 ≤ 7 := b3
    have b4 : C2 = bcost κ U := b4
    have w3 : d2 w = some (.inr (7, [.ref t, .int (nI tp.length), .ref p, .int (nI pp'.length), .ref (A 0)])) := by rw [b2.2.1 w hx.1 ho.1]; exact w2
    show Ok ((gI d2 7 3 w).bind _) _
    rw [gI_c (k := 3) w3 rfl, bind_s]
    refine ok_some ⟨?_, ?_, ?_, B2, pp', ⟨T, va_up P pp'.length none, w3, ?_, ?_, a4, fun i hi => ?_⟩, ?_, ?_, b2.1, b2.2.2, fun b hb h1 h2 h3 => ?_⟩
    · show nI pp'.length = nI pa'.length
      exact congrArg nI (by omega)
    · show 0 + K2 ≤ 7
      omega
    · show 0 + C2 = _
      omega
    · show d2 t = _
      rw [b2.2.1 t hx.2.1 ho.2.1, fc t (fun e => hd.1 e.symm) hd.2.2]
      exact a2
    · show d2 p = _
      rw [b2.2.1 p hx.2.2 ho.2.2, hc2, gu_e]
      rfl
    · by_cases e : i = pp'.length
      · rw [e, up_e, List.getElem?_eq_none (Nat.le_refl _)]
      · rw [up_n _ _ _ e, a5 i hi, hpp]
        by_cases hlt : i < pp'.length
        · rw [List.getElem?_append_left hlt]
        · rw [List.getElem?_eq_none (l := pp') (by omega), List.getElem?_eq_none (by rw [List.length_append]; show pp'.length + 1 ≤ i; omega)]
    · rw [hpp, List.dropLast_concat]
    · show SZ d2 (nx + (0 + K2)) Z B2 (bcap κ U) U
      rw [Nat.zero_add]
      exact b1
    · show d2 b = ce b
      rw [b2.2.1 b hb h3, fc b h1 h2]
/-- one world is made like another -/
theorem cx_become {ce : Ce} {nx : Nat} {Z : Nat → Prop} {w t p : Nat} {A : Nat → Nat} {κ : Nat × Nat × Nat} {V : Sv} {tp pp : List Nat} (hW : WC3 ce w t p (A 0) tp pp) (hS : SZ ce nx Z A κ V) (hL : Liv nx Z A) {w' t' p' : Nat} {A' : Nat → Nat} {κ' : Nat × Nat × Nat} {U : Sv} {tp' pp' : List Nat} {tx' : List Mv} {pa' : List Sv} (hW' : WC3 ce w' t' p' (A' 0) tp' pp') (hS' : SZ ce nx Z A' κ' U) (hL' : Liv nx Z A') (hT' : TP ce Z tp' tx') (hP' : PP ce nx Z pp' pa') (hZ : ∀ b, Z b → b ≠ w ∧ b ≠ t ∧ b ≠ p) (hx : w < nx ∧ t < nx ∧ p < nx) (hx' : w' < nx ∧ t' < nx ∧ p' < nx) (hd : w ≠ t ∧ w ≠ p ∧ t ≠ p) (hd' : ∀ b, (b = w' ∨ b = t' ∨ b = p') → b ≠ w ∧ b ≠ t ∧ b ≠ p) (ho : Off A w ∧ Off A t ∧ Off A p) (ho2 : Off A' w ∧ Off A' t ∧ Off A' p) (ho' : Off A w' ∧ Off A t' ∧ Off A p') (hdis : ∀ i, i < 13 → ∀ j, j < 13 → A' i ≠ A j) (hob : U.2.2.2.1.length ≤ 80) : Ok (m_X10_become nx ce w w') (fun z => z.2.2.1 ≤ 7 ∧ z.2.2.2 = bcost κ U ∧ ∃ A2, WC3 z.2.1 w t p (A 0) tp' pp' ∧ SZ z.2.1 (nx + z.2.2.1) Z A2 (bcap κ U) U ∧ A2 0 = A 0 ∧ (∀ i, i < 13 → A2 i = A i ∨ nx ≤ A2 i) ∧ ∀ b, b < nx → b ≠ w → b ≠ t → b ≠ p → Off A b → z.2.1 b = ce b) := by
  obtain ⟨T, P, a1, a2, a3, a4, a5⟩ := hW
  obtain ⟨T', P', a1', a2', a3', a4', a5'⟩ := hW'
  have dw := hd' w' (Or.inl rfl)
  have dt := hd' t' (Or.inr (Or.inl rfl))
  have dp := hd' p' (Or.inr (Or.inr rfl))
  unfold m_X10_become
  have l1 := lp_obj (ce := ce) (C := "FencedStates$Machine") (ci := 3) (N := 4) (kf := 0) (F := T) (F' := T') (by omega) (fun c b f h => alen_M h) a1 rfl a1' rfl a2 a2' hd.1 dw.2.1 dt.2.1 (fun i hi v hv => by
    rw [a4' i hi] at hv
    have hM : tx'[i]? = some (tx'[i]'(by rw [← hT'.1]; exact (List.getElem?_eq_some_iff.mp hv).1)) := List.getElem?_eq_getElem _
    obtain ⟨u, fs, hfs⟩ := MA_cell (hT'.2.2 i v _ hv hM)
    exact ⟨(hZ v u).2.1, fs, hfs⟩)
  rw [l1, bind_s]
  generalize e1 : gx_up ce t (oarr "FencedStates$Machine" 4 (fun i => if i < 4 then T' i else T i)) = c1
  have f1 : ∀ b, b ≠ t → c1 b = ce b := fun b hb => by rw [← e1, gu_n _ _ hb]
  have w1 : c1 w = some (.inr (7, [.ref t, .int (nI tp.length), .ref p, .int (nI pp.length), .ref (A 0)])) := by rw [f1 w hd.1]; exact a1
  have w1' : c1 w' = some (.inr (7, [.ref t', .int (nI tp'.length), .ref p', .int (nI pp'.length), .ref (A' 0)])) := by rw [f1 w' dw.2.1]; exact a1'
  show Ok ((gI c1 7 1 w').bind _) _
  rw [gI_c (k := 1) w1' rfl, bind_s]
  show Ok ((pV c1 7 1 w (.int (nI tp'.length))).bind _) _
  rw [pV_c w1 (show 1 < 5 by omega), bind_s]
  generalize e2 : gx_up c1 w _ = c2
  have hc2 : c2 = gx_up c1 w (.inr (7, [.ref t, .int (nI tp'.length), .ref p, .int (nI pp.length), .ref (A 0)])) := by rw [← e2]; rfl
  have f2 : ∀ b, b ≠ w → b ≠ t → c2 b = ce b := fun b h1 h2 => by rw [hc2, gu_n _ _ h1, f1 b h2]
  have w2 : c2 w = some (.inr (7, [.ref t, .int (nI tp'.length), .ref p, .int (nI pp.length), .ref (A 0)])) := by rw [hc2, gu_e]
  have w2' : c2 w' = some (.inr (7, [.ref t', .int (nI tp'.length), .ref p', .int (nI pp'.length), .ref (A' 0)])) := by rw [f2 w' dw.1 dw.2.1]; exact a1'
  have l2 := lp_obj (ce := c2) (C := "FencedStates$Search") (ci := 6) (N := 20) (kf := 2) (F := P) (F' := P') (by omega) (fun c b f h => alen_S h) w2 rfl w2' rfl (by rw [f2 p (fun e => hd.2.1 e.symm) (fun e => hd.2.2 e.symm)]; exact a3) (by rw [f2 p' dp.1 dp.2.1]; exact a3') hd.2.1 dw.2.2 dp.2.2 (fun i hi v hv => by
    rw [a5' i hi] at hv
    have hM : pa'[i]? = some (pa'[i]'(by rw [← hP'.1]; exact (List.getElem?_eq_some_iff.mp hv).1)) := List.getElem?_eq_getElem _
    obtain ⟨u, fs, hfs⟩ := PS_cell (hP'.2.2 i v _ hv hM)
    exact ⟨(hZ v u).2.2, fs, by rw [f2 v (hZ v u).1 (hZ v u).2.1]; exact hfs⟩)
  rw [l2, bind_s]
  generalize e3 : gx_up c2 p (oarr "FencedStates$Search" 20 (fun i => if i < 20 then P' i else P i)) = c3
  have f3 : ∀ b, b ≠ p → c3 b = c2 b := fun b hb => by rw [← e3, gu_n _ _ hb]
  have w3 : c3 w = some (.inr (7, [.ref t, .int (nI tp'.length), .ref p, .int (nI pp.length), .ref (A 0)])) := by rw [f3 w hd.2.1]; exact w2
  have w3' : c3 w' = some (.inr (7, [.ref t', .int (nI tp'.length), .ref p', .int (nI pp'.length), .ref (A' 0)])) := by rw [f3 w' dw.2.2]; exact w2'
  show Ok ((gI c3 7 3 w').bind _) _
  rw [gI_c (k := 3) w3' rfl, bind_s]
  show Ok ((pV c3 7 3 w (.int (nI pp'.length))).bind _) _
  rw [pV_c w3 (show 3 < 5 by omega), bind_s]
  generalize e4 : gx_up c3 w _ = c4
  have hc4 : c4 = gx_up c3 w (.inr (7, [.ref t, .int (nI tp'.length), .ref p, .int (nI pp'.length), .ref (A 0)])) := by rw [← e4]; rfl
  have f4 : ∀ b, b ≠ w → b ≠ t → b ≠ p → c4 b = ce b := fun b h1 h2 h3 => by rw [hc4, gu_n _ _ h1, f3 b h3, f2 b h1 h2]
  have w4 : c4 w = some (.inr (7, [.ref t, .int (nI tp'.length), .ref p, .int (nI pp'.length), .ref (A 0)])) := by rw [hc4, gu_e]
  have w4' : c4 w' = some (.inr (7, [.ref t', .int (nI tp'.length), .ref p', .int (nI pp'.length), .ref (A' 0)])) := by rw [f4 w' dw.1 dw.2.1 dw.2.2]; exact a1'
  have fz : ∀ b, Z b → c4 b = ce b := fun b hb => f4 b (hZ b hb).1 (hZ b hb).2.1 (hZ b hb).2.2
  have S2 : SZ c4 nx Z A κ V := SZ_congr hS hL (fun i hi => f4 _ (fun e => ho.1 i hi e.symm) (fun e => ho.2.1 i hi e.symm) (fun e => ho.2.2 i hi e.symm)) fz (Nat.le_refl _) (fun _ hb => hb)
  have S3 : SZ c4 nx Z A' κ' U := SZ_congr hS' hL' (fun i hi => f4 _ (fun e => ho2.1 i hi e.symm) (fun e => ho2.2.1 i hi e.symm) (fun e => ho2.2.2 i hi e.symm)) fz (Nat.le_refl _) (fun _ hb => hb)
  rw [gA_c (k := 4) w4 rfl, bind_s, gA_c (k := 4) w4' rfl, bind_s, ss_rcv S2.1, bind_s]
  refine ok_adcB ?_
  refine ok_mono (sz_become S2 hL S3 hdis hob) ?_
  rintro ⟨u2, d2, K2, C2⟩ ⟨B2, b1, b2, b3, b4⟩
  have b1 : SZ d2 (nx + K2) Z B2 (bcap κ U) U := b1
  have b2 : Es c4 nx A d2 B2 := b2
  have b3 : K2 ≤ 7 := b3
  have b4 : C2 = bcost κ U := b4
  refine ok_some ⟨?_, ?_, B2, ⟨fun i => if i < 4 then T' i else T i, fun i => if i < 20 then P' i else P i, ?_, ?_, ?_, fun i hi => ?_, fun i hi => ?_⟩, ?_, b2.1, b2.2.2, fun b hb h1 h2 h3 h4 => ?_⟩
  · show 0 + K2 ≤ 7
    omega
  · show 0 + C2 = _
    omega
  · show d2 w = _
    rw [b2.2.1 w hx.1 ho.1]
    exact w4
  · show d2 t = _
    rw [b2.2.1 t hx.2.1 ho.2.1, hc4, gu_n _ _ (fun e => hd.1 e.symm), f3 t hd.2.2, hc2, gu_n _ _ (fun e => hd.1 e.symm), ← e1, gu_e]
    rfl
  · show d2 p = _
    rw [b2.2.1 p hx.2.2 ho.2.2, hc4, gu_n _ _ (fun e => hd.2.1 e.symm), ← e3, gu_e]
    rfl
  · show (if i < 4 then T' i else T i) = _
    rw [if_pos hi]
    exact a4' i hi
  · show (if i < 20 then P' i else P i) = _
    rw [if_pos hi]
    exact a5' i hi
  · show SZ d2 (nx + (0 + K2)) Z B2 (bcap κ U) U
    rw [Nat.zero_add]
    exact b1
  · show d2 b = ce b
    rw [b2.2.1 b hb h4, f4 b h1 h2 h3]
