/-! READALL: the class forgets, takes tokens, reads -/
theorem pv_r {ce : Ce} {a k c : Nat} {l : List Value} (l2 : List Value) {v : Value} (hc : ce a = some (.inr (c, l))) (hk : k < l.length) (h2 : l.set k v = l2) : ∃ d, pV ce c k a v = some d ∧ d a = some (.inr (c, l2)) ∧ ∀ b, b ≠ a → d b = ce b := by
  subst h2
  exact ⟨_, pV_c hc hk, gu_e _ _ _, fun b hb => gu_n _ _ hb⟩
theorem cr_fill {ce : Ce} {a N : Nat} {G : Nat → Int64} (h : ce a = some (.inl (.long, N, .inr (.inl G)))) (hN : N < 1000) (v : Int64) : ∃ d G2, m_J7_fill_d0a16 ce a v = some ((), d) ∧ d a = some (.inl (.long, N, .inr (.inl G2))) ∧ (∀ i, i < N → G2 i = v) ∧ ∀ b, b ≠ a → d b = ce b := by
  have key : Ok (m_J7_fill_d0a16 ce a v) (fun o => ∃ d G2, o = ((), d) ∧ d a = some (.inl (.long, N, .inr (.inl G2))) ∧ (∀ i, i < N → G2 i = v) ∧ ∀ b, b ≠ a → d b = ce b) := by
    unfold m_J7_fill_d0a16
    rw [alen_L h, bind_s]
    refine ok_call (P := fun o => ∃ G2, o.2 a = some (.inl (.long, N, .inr (.inl G2))) ∧ (∀ i, i < N → G2 i = v) ∧ ∀ b, b ≠ a → o.2 b = ce b) (ok_cnt 0 N (fun i st => st.1 = nI i ∧ ∃ G2, st.2 a = some (.inl (.long, N, .inr (.inl G2))) ∧ (∀ k, k < i → G2 k = v) ∧ ∀ b, b ≠ a → st.2 b = ce b) (by omega) (by omega) ⟨rfl, G, h, fun _ hk => by omega, fun _ _ => rfl⟩ ?_ ?_) (fun o ho => ?_)
    · rintro i ⟨u, e⟩ hi ⟨hu, G2, q1, q2, q3⟩
      have hu : u = nI i := hu
      have q1 : e a = _ := q1
      subst hu
      show Ok (if nI N ≤ nI i then _ else (sL e a (nI i) v).bind fun zc5 => some (Sum.inl ((nI i + (1 : Int32)), zc5))) _
      rw [if_le (by omega) (by omega), if_neg (by omega), sL_c q1 hi (by omega), bind_s, nI_1]
      refine ok_some ⟨rfl, _, gu_e _ _ _, fun k hk => ?_, fun b hb => (gu_n _ _ hb).trans (q3 b hb)⟩
      by_cases e : k = i
      · rw [e, up_e]
      · rw [up_n _ _ _ e]
        exact q2 k (by omega)
    · rintro ⟨u, e⟩ ⟨hu, G2, q1, q2, q3⟩
      have hu : u = nI N := hu
      subst hu
      show Ok (if nI N ≤ nI N then _ else _) _
      rw [if_le (by omega) (by omega), if_pos (by omega)]
      exact ok_some ⟨G2, q1, q2, q3⟩
    · obtain ⟨G2, q1, q2, q3⟩ := ho
      exact ok_some ⟨o.2, G2, rfl, q1, q2, q3⟩
  obtain ⟨o, h1, d, G2, h2, h3⟩ := key
  exact ⟨d, G2, by rw [h1, h2], h3⟩
section
variable {c0 d : Ce} {rd ka va pa cnt n LL al nl : Nat} {f : Nat → Nat} {j : Nat}
theorem cr_forget (hA : Adr rd ka va pa al nl) {c now flt fp L ini : Int32} {i0 : Int64} {nb nt inp : Int32} {ce : Ce} {G H : Nat → Int64} (h1 : ce rd = some (.inr (5, rdX ka va pa c now flt fp L ini i0 nb al nt nl inp))) (h2 : ce al = some (.inl (.long, 4, .inr (.inl G)))) (h3 : ce nl = some (.inl (.long, 24, .inr (.inl H)))) : ∃ d G2 H2, m_X7_forget ce rd = some ((), d) ∧ d rd = some (.inr (5, rdX ka va pa 0 0 0 (-1) 3 0 1 0 al 0 nl (-1))) ∧ d al = some (.inl (.long, 4, .inr (.inl G2))) ∧ (∀ i, i < 4 → G2 i = 0) ∧ d nl = some (.inl (.long, 24, .inr (.inl H2))) ∧ (∀ q, q < 24 → H2 q = LSv (q / 4)) ∧ Frb rd al nl ce d := by
  have key : Ok (m_X7_forget ce rd) (fun o => ∃ d G2 H2, o = ((), d) ∧ d rd = some (.inr (5, rdX ka va pa 0 0 0 (-1) 3 0 1 0 al 0 nl (-1))) ∧ d al = some (.inl (.long, 4, .inr (.inl G2))) ∧ (∀ i, i < 4 → G2 i = 0) ∧ d nl = some (.inl (.long, 24, .inr (.inl H2))) ∧ (∀ q, q < 24 → H2 q = LSv (q / 4)) ∧ Frb rd al nl ce d) := by
    unfold m_X7_forget
    obtain ⟨d1, a1, b1, k1⟩ := pv_r (k := 3) (v := .int 0) (rdX ka va pa 0 now flt fp L ini i0 nb al nt nl inp) h1 (Nat.le_of_ble_eq_true rfl) rfl
    rw [a1, bind_s]
    obtain ⟨d2, a2, b2, k2⟩ := pv_r (k := 4) (v := .int 0) (rdX ka va pa 0 0 flt fp L ini i0 nb al nt nl inp) b1 (Nat.le_of_ble_eq_true rfl) rfl
    rw [a2, bind_s]
    obtain ⟨d3, a3, b3, k3⟩ := pv_r (k := 5) (v := .int 0) (rdX ka va pa 0 0 0 fp L ini i0 nb al nt nl inp) b2 (Nat.le_of_ble_eq_true rfl) rfl
    rw [a3, bind_s]
    obtain ⟨d4, a4, b4, k4⟩ := pv_r (k := 6) (v := .int (-1)) (rdX ka va pa 0 0 0 (-1) L ini i0 nb al nt nl inp) b3 (Nat.le_of_ble_eq_true rfl) rfl
    rw [a4, bind_s]
    obtain ⟨d5, a5, b5, k5⟩ := pv_r (k := 7) (v := .int 3) (rdX ka va pa 0 0 0 (-1) 3 ini i0 nb al nt nl inp) b4 (Nat.le_of_ble_eq_true rfl) rfl
    rw [a5, bind_s]
    obtain ⟨d6, a6, b6, k6⟩ := pv_r (k := 8) (v := .int 0) (rdX ka va pa 0 0 0 (-1) 3 0 i0 nb al nt nl inp) b5 (Nat.le_of_ble_eq_true rfl) rfl
    have a6 : pZ d5 5 8 rd (0 : Int32) = some d6 := by
      unfold pZ
      rw [if_pos (Or.inl rfl)]
      exact a6
    rw [a6, bind_s]
    obtain ⟨d7, a7, b7, k7⟩ := pv_r (k := 9) (v := .long 1) (rdX ka va pa 0 0 0 (-1) 3 0 1 nb al nt nl inp) b6 (Nat.le_of_ble_eq_true rfl) rfl
    rw [a7, bind_s]
    obtain ⟨d8, a8, b8, k8⟩ := pv_r (k := 10) (v := .int 0) (rdX ka va pa 0 0 0 (-1) 3 0 1 0 al nt nl inp) b7 (Nat.le_of_ble_eq_true rfl) rfl
    rw [a8, bind_s, gA_c (k := 11) (x := al) b8 rfl, bind_s]
    have K8 : ∀ b, b ≠ rd → d8 b = ce b := fun b hb => (k8 b hb).trans ((k7 b hb).trans ((k6 b hb).trans ((k5 b hb).trans ((k4 b hb).trans ((k3 b hb).trans ((k2 b hb).trans (k1 b hb)))))))
    obtain ⟨d9, G2, a9, b9, g9, k9⟩ := cr_fill ((K8 al hA.2.1).trans h2) (by omega) (0 : Int64)
    rw [a9, bind_s]
    have b9r : d9 rd = _ := (k9 rd (Ne.symm hA.2.1)).trans b8
    have b9n : d9 nl = _ := (k9 nl (Ne.symm hA.2.2.2.1)).trans ((K8 nl hA.2.2.1).trans h3)
    obtain ⟨d10, a10, b10, k10⟩ := pv_r (k := 12) (v := .int 0) (rdX ka va pa 0 0 0 (-1) 3 0 1 0 al 0 nl inp) b9r (Nat.le_of_ble_eq_true rfl) rfl
    rw [a10, bind_s]
    refine ok_call (P := fun o => ∃ H2, o.2 nl = some (.inl (.long, 24, .inr (.inl H2))) ∧ (∀ q, q < 24 → H2 q = LSv (q / 4)) ∧ ∀ b, b ≠ nl → o.2 b = d10 b) (ok_cnt 0 24 (fun i st => st.1 = nI i ∧ ∃ H2, st.2 nl = some (.inl (.long, 24, .inr (.inl H2))) ∧ (∀ q, q < i → H2 q = LSv (q / 4)) ∧ ∀ b, b ≠ nl → st.2 b = d10 b) (by omega) (by omega) ⟨rfl, H, (k10 nl hA.2.2.1).trans b9n, fun _ hk => by omega, fun _ _ => rfl⟩ ?_ ?_) (fun o ho => ?_)
    · rintro i ⟨u, e⟩ hi ⟨hu, H2, q1, q2, q3⟩
      have hu : u = nI i := hu
      have q1 : e nl = _ := q1
      have q3 : ∀ b, b ≠ nl → e b = d10 b := q3
      subst hu
      have er : e rd = _ := (q3 rd (Ne.symm hA.2.2.1)).trans b10
      show Ok ((gA e 5 13 rd).bind fun zx16 => (alen e zx16).bind fun zx17 => if zx17 ≤ nI i then _ else (nz (4 : Int32)).bind fun zz18 => if (6 : Int32) ≤ (nI i / (4 : Int32)) then some (Sum.inr ((), e)) else (gA e 5 13 rd).bind fun zx19 => (nz (4 : Int32)).bind fun zz20 => (aLS (nI i / (4 : Int32))).bind fun zx21 => (sL e zx19 (nI i) zx21).bind fun zc22 => some (Sum.inl ((nI i + (1 : Int32)), zc22))) _
      rw [gA_c (k := 13) (x := nl) er rfl, bind_s, alen_L q1, bind_s, if_le (by omega) (by omega), if_neg (by omega), show nz (4 : Int32) = some () from rfl, bind_s, div_4 i (by omega), if_neg (show ¬ (6 : Int32) ≤ nI (i / 4) from nI_ge (b := 6) (by omega) (by omega)), bind_s, bind_s, cc_aLS (by omega), bind_s, sL_c q1 hi (by omega), bind_s, nI_1]
      refine ok_some ⟨rfl, _, gu_e _ _ _, fun k hk => ?_, fun b hb => (gu_n _ _ hb).trans (q3 b hb)⟩
      by_cases e : k = i
      · rw [e, up_e]
      · rw [up_n _ _ _ e]
        exact q2 k (by omega)
    · rintro ⟨u, e⟩ ⟨hu, H2, q1, q2, q3⟩
      have hu : u = nI 24 := hu
      have q1 : e nl = _ := q1
      have q3 : ∀ b, b ≠ nl → e b = d10 b := q3
      subst hu
      have er : e rd = _ := (q3 rd (Ne.symm hA.2.2.1)).trans b10
      show Ok ((gA e 5 13 rd).bind fun zx16 => (alen e zx16).bind fun zx17 => if zx17 ≤ nI 24 then some (Sum.inr ((), e)) else _) _
      rw [gA_c (k := 13) (x := nl) er rfl, bind_s, alen_L q1, bind_s, if_pos (by decide)]
      exact ok_some ⟨H2, q1, q2, q3⟩
    · obtain ⟨H2, q1, q2, q3⟩ := ho
      obtain ⟨d11, a11, b11, k11⟩ := pv_r (k := 14) (v := .int (-1)) (rdX ka va pa 0 0 0 (-1) 3 0 1 0 al 0 nl (-1)) ((q3 rd (Ne.symm hA.2.2.1)).trans b10) (Nat.le_of_ble_eq_true rfl) rfl
      rw [a11, bind_s]
      refine ok_some ⟨d11, G2, H2, rfl, b11, (k11 al hA.2.1).trans ((q3 al hA.2.2.2.1).trans ((k10 al hA.2.1).trans b9)), g9, (k11 nl hA.2.2.1).trans q1, q2, fun b x1 x2 x3 => (k11 b x1).trans ((q3 b x3).trans ((k10 b x1).trans ((k9 b x2).trans (K8 b x1))))⟩
  obtain ⟨o, h1, d, G2, H2, h2, h3⟩ := key
  exact ⟨d, G2, H2, by rw [h1, h2], h3⟩
/-- the reader at rest -/
def Rdr (ce : Ce) (rd ka va pa al nl : Nat) : Prop := (∃ c now flt fp L ini i0 nb nt inp, ce rd = some (.inr (5, rdX ka va pa c now flt fp L ini i0 nb al nt nl inp))) ∧ (∃ F, ce ka = some (.inl (.int, 301, .inl F))) ∧ (∃ F, ce va = some (.inl (.int, 301, .inl F))) ∧ (∃ F, ce pa = some (.inl (.int, 301, .inl F))) ∧ (∃ G, ce al = some (.inl (.long, 4, .inr (.inl G)))) ∧ (∃ G, ce nl = some (.inl (.long, 24, .inr (.inl G))))
def Oth (rd ka va pa al nl b : Nat) : Prop := b ≠ rd ∧ b ≠ ka ∧ b ≠ va ∧ b ≠ pa ∧ b ≠ al ∧ b ≠ nl
theorem cr_readAll {ce : Ce} (hA : Adr rd ka va pa al nl) (hR : Rdr ce rd ka va pa al nl) {tp : Nat} (htp : Oth rd ka va pa al nl tp) (hT : Tpc ce tp n f) : ∃ d, m_X7_readAll ce rd tp (nI n) = some ((), d) ∧ Rdr d rd ka va pa al nl ∧ (∀ b, Oth rd ka va pa al nl b → d b = ce b) ∧ (∀ e, pT (tK f n) (tV f n) 300 true τ0 0 = .inl e → (0 < e.1 ∧ e.1 < 7) ∧ gI d 5 5 rd = some (nI e.1) ∧ gI d 5 6 rd = some (nI (tP f n e.2))) ∧ (∀ σ, pT (tK f n) (tV f n) 300 true τ0 0 = .inr σ → gI d 5 5 rd = some 0 ∧ gI d 5 6 rd = some (-1) ∧ ∃ G H, RdT d rd al nl σ.1 σ.2.2.2.1 σ.2.2.1 G H ∧ (∀ i, i < 4 → G i = σ.2.2.2.2.1 i) ∧ ∀ q, q < 24 → H q = σ.2.2.2.2.2.2 q) := by
  obtain ⟨⟨c, now, flt, fp, L, ini, i0, nb, nt, inp, r1⟩, ⟨Fk, r2⟩, ⟨Fv, r3⟩, ⟨Fp, r4⟩, ⟨G0, r5⟩, ⟨H0, r6⟩⟩ := hR
  obtain ⟨d1, G1, H1, f1, f2, f3, f4, f5, f6, f7⟩ := cr_forget hA r1 r5 r6
  have hA0 := hA
  obtain ⟨⟨x1, x2, x3, x4, x5, x6⟩, y1, y2, y3, ⟨z1, z2, z3⟩, ⟨w1, w2, w3⟩⟩ := hA
  obtain ⟨t1, t2, t3, t4, t5, t6⟩ := htp
  have htp1 : d1 tp = ce tp := f7 tp t1 t5 t6
  obtain ⟨hn, F, hF, hFv⟩ := hT
  have hT1 : Tpc d1 tp n f := ⟨hn, F, htp1.trans hF, hFv⟩
  have hA1 : TkA d1 ka va pa f n 0 := ⟨Fk, Fv, Fp, (f7 ka (Ne.symm x1) z1 w1).trans r2, (f7 va (Ne.symm x2) z2 w2).trans r3, (f7 pa (Ne.symm x3) z3 w3).trans r4, fun i hi => by omega⟩
  obtain ⟨d2, cnt, g1, g2, g3, g4, g5, g6, g7⟩ := cr_tokens ⟨x1, x2, x3, x4, x5, x6⟩ ⟨t1, t2, t3, t4⟩ f2 hA1 hT1
  have hy : CHy d2 rd ka va pa cnt n f := ⟨⟨x1, x2, x3, x4, x5, x6⟩, g3, g5, g6, g7, hn, fun k hk => (hFv k hk).2⟩
  have hC : CT d2 rd ka va pa cnt al nl d2 τ0 0 := ⟨g2, ⟨G1, (g4 al y1 (Ne.symm z1) (Ne.symm z2) (Ne.symm z3)).trans f3, f4⟩, ⟨H1, (g4 nl y2 (Ne.symm w1) (Ne.symm w2) (Ne.symm w3)).trans f5, f6⟩, ⟨by decide, by decide, by decide⟩, fun b _ _ _ => rfl⟩
  have hlen : alen d1 tp = some (nI 300) := alen_B (htp1.trans hF)
  have hk9 := tK_le f n 0
  rw [ra_0, rcv_c r1, bind_s, f1, bind_s, hlen, bind_s, cr_min (by omega) (by omega), bind_s, rcv_c f2, bind_s, show min n 300 = n by omega, g1, bind_s, gA_c (k := 0) (x := ka) g2 rfl, bind_s, gI_c (k := 4) (x := nI 0) g2 rfl, bind_s, cd_k hy (Nat.zero_le _), bind_s, if_l 6 (6 : Int32) rfl (by omega) (by omega)]
  have fra : ∀ d3, Frb rd al nl d2 d3 → (∀ b, Oth rd ka va pa al nl b → d3 b = ce b) := fun d3 hf b hb => (hf b hb.1 hb.2.2.2.2.1 hb.2.2.2.2.2).trans ((g4 b hb.1 hb.2.1 hb.2.2.1 hb.2.2.2.1).trans (f7 b hb.1 hb.2.2.2.2.1 hb.2.2.2.2.2))
  have rest : ∀ d3, Frb rd al nl d2 d3 → ∀ c now flt fp L ini i0 nb nt inp G H, d3 rd = some (.inr (5, rdX ka va pa c now flt fp L ini i0 nb al nt nl inp)) → d3 al = some (.inl (.long, 4, .inr (.inl G))) → d3 nl = some (.inl (.long, 24, .inr (.inl H))) → Rdr d3 rd ka va pa al nl := by
    intro d3 hf c now flt fp L ini i0 nb nt inp G H u1 u2 u3
    obtain ⟨Gk, Gv, Gp, v1, v2, v3, v4⟩ := g3
    exact ⟨⟨c, now, flt, fp, L, ini, i0, nb, nt, inp, u1⟩, ⟨Gk, (hf ka (Ne.symm x1) z1 w1).trans v1⟩, ⟨Gv, (hf va (Ne.symm x2) z2 w2).trans v2⟩, ⟨Gp, (hf pa (Ne.symm x3) z3 w3).trans v3⟩, ⟨G, u2⟩, ⟨H, u3⟩⟩
  have endF : ∀ d3 e, FT d2 rd ka va pa cnt al nl f n d3 e → 0 < e.1 ∧ e.1 < 7 → Rdr d3 rd ka va pa al nl ∧ (∀ b, Oth rd ka va pa al nl b → d3 b = ce b) ∧ (0 < e.1 ∧ e.1 < 7) ∧ gI d3 5 5 rd = some (nI e.1) ∧ gI d3 5 6 rd = some (nI (tP f n e.2)) := by
    rintro d3 e ⟨⟨L, ini, i0, nb, nt, inp, b1⟩, ⟨G, b2⟩, ⟨H, b3⟩, b4⟩ he
    exact ⟨rest d3 b4 _ _ _ _ _ _ _ _ _ _ G H b1 b2 b3, fra d3 b4, he, gI_c b1 rfl, gI_c b1 rfl⟩
  have endC : ∀ d3 σ j2, CT d2 rd ka va pa cnt al nl d3 σ j2 → Rdr d3 rd ka va pa al nl ∧ (∀ b, Oth rd ka va pa al nl b → d3 b = ce b) ∧ gI d3 5 5 rd = some 0 ∧ gI d3 5 6 rd = some (-1) ∧ ∃ G H, RdT d3 rd al nl σ.1 σ.2.2.2.1 σ.2.2.1 G H ∧ (∀ i, i < 4 → G i = σ.2.2.2.2.1 i) ∧ ∀ q, q < 24 → H q = σ.2.2.2.2.2.2 q := by
    rintro d3 σ j2 ⟨c1, ⟨G, c2, c3⟩, ⟨H, c4, c5⟩, c6, c7⟩
    exact ⟨rest d3 c7 _ _ _ _ _ _ _ _ _ _ G H c1 c2 c4, fra d3 c7, gI_c c1 rfl, gI_c c1 rfl, G, H, ⟨⟨rcv_c c1, gI_c c1 rfl, gJ_c c1 rfl, gI_c c1 rfl, gA_c c1 rfl, gA_c c1 rfl⟩, c2, c4⟩, c3, c5⟩
  have two : ∀ (R : (Nat × Nat) ⊕ TS) (run : Option (Unit × Ce)), (∀ e, R = .inl e → ∃ d3, run = some ((), d3) ∧ FT d2 rd ka va pa cnt al nl f n d3 e ∧ 0 < e.1 ∧ e.1 < 7) → (∀ σ, R = .inr σ → ∃ d3 j2, run = some ((), d3) ∧ CT d2 rd ka va pa cnt al nl d3 σ j2) → ∃ d, (run.bind fun zo12 => some ((), zo12.2)) = some ((), d) ∧ Rdr d rd ka va pa al nl ∧ (∀ b, Oth rd ka va pa al nl b → d b = ce b) ∧ (∀ e, R = .inl e → (0 < e.1 ∧ e.1 < 7) ∧ gI d 5 5 rd = some (nI e.1) ∧ gI d 5 6 rd = some (nI (tP f n e.2))) ∧ (∀ σ, R = .inr σ → gI d 5 5 rd = some 0 ∧ gI d 5 6 rd = some (-1) ∧ ∃ G H, RdT d rd al nl σ.1 σ.2.2.2.1 σ.2.2.1 G H ∧ (∀ i, i < 4 → G i = σ.2.2.2.2.1 i) ∧ ∀ q, q < 24 → H q = σ.2.2.2.2.2.2 q) := by
    intro R run h1 h2
    cases R with
    | inl e =>
      obtain ⟨d3, a1, a2, a3⟩ := h1 e rfl
      obtain ⟨q1, q2, q3⟩ := endF d3 e a2 a3
      rw [a1, bind_s]
      refine ⟨d3, rfl, q1, q2, fun e2 he => ?_, fun σ hσ => (by cases hσ)⟩
      cases he
      exact q3
    | inr σ =>
      obtain ⟨d3, j2, a1, a2⟩ := h2 σ rfl
      obtain ⟨q1, q2, q3⟩ := endC d3 σ j2 a2
      rw [a1, bind_s]
      refine ⟨d3, rfl, q1, q2, fun e2 he => (by cases he), fun σ hσ => ?_⟩
      cases hσ
      exact q3
  obtain ⟨t, ht⟩ := FU_split (k := 300) (by omega)
  obtain ⟨t', ht'⟩ : ∃ t', FU = t' + 303 := ⟨999697, rfl⟩
  by_cases k6 : tK f n 0 = 6
  · rw [if_pos k6, rcv_c g2, bind_s]
    obtain ⟨d3, d4, a1, a2, a3, a4⟩ := cl_sign hA0 hy (cl_letters hA0 hy hC (Nat.zero_le _) k6)
    rw [a1, bind_s, a2, bind_s, a3, bind_s, bind_s]
    rw [show pT (tK f n) (tV f n) 300 true τ0 0 = (if tK f n 0 = 0 then (.inr τ0 : (Nat × Nat) ⊕ TS) else (match pC (tK f n) (tV f n) true τ0 0 with | .inl e => .inl e | .inr y => pT (tK f n) (tV f n) 299 false y.1 y.2)) from rfl, if_neg (by omega)]
    generalize hw : pC (tK f n) (tV f n) true τ0 0 = w at a4
    cases w with
    | inl e =>
      obtain ⟨b1, d5, b2, b3⟩ := a4
      cases b2
      obtain ⟨L, ini, i0, nb, nt, inp, b4⟩ := b3.1
      refine two (.inl e) _ (fun e2 he => ?_) (fun σ hσ => (by cases hσ))
      cases he
      refine ⟨d4, ?_, b3, b1.2⟩
      rw [ht']
      exact it_end _ (ra_end (CHy_f hA0 hy b3.2.2.2) b4 (Nat.le_refl _) g6 _)
    | inr y =>
      obtain ⟨b1, d5, b2, b3⟩ := a4
      cases b2
      have hl2 := pC_lt (tK_300 (f := f) hn) hw
      have lp := ra_loop hA0 hy 299 0 y.1 y.2 d4 FU b3 b1 (by omega) (by omega) (by rw [ht']; omega)
      exact two (pT (tK f n) (tV f n) 299 false y.1 y.2) _ lp.1 lp.2
  · rw [if_neg k6, bind_s, pT_fi (s := 299) k6]
    have lp := ra_loop hA0 hy 300 0 τ0 0 d2 FU hC (Nat.zero_le _) (by omega) (by omega) (by rw [ht']; omega)
    exact two (pT (tK f n) (tV f n) 300 false τ0 0) _ lp.1 lp.2
end
