/-! TOKENS of the class: all of them -/
theorem bl_ns : ∀ b, b < 256 → (blk b = true → isF b = false ∧ isS b = false) := by decide +kernel
theorem cr_tokens {ce : Ce} {rd ka va pa tp n : Nat} {now flt fp L ini : Int32} {i0 : Int64} {nb : Int32} {al : Nat} {nt : Int32} {nl : Nat} {inp : Int32} {f : Nat → Nat} (hD : Dis rd ka va pa) (htp : tp ≠ rd ∧ tp ≠ ka ∧ tp ≠ va ∧ tp ≠ pa) (hc : ce rd = some (.inr (5, rdX ka va pa 0 now flt fp L ini i0 nb al nt nl inp))) (hA : TkA ce ka va pa f n 0) (hT : Tpc ce tp n f) : ∃ d cnt, m_X7_takeTokens ce rd tp (nI n) = some ((), d) ∧ d rd = some (.inr (5, rdX ka va pa (nI (cnt + 1)) now flt fp L ini i0 nb al nt nl inp)) ∧ TkA d ka va pa f n (cnt + 1) ∧ Fra rd ka va pa ce d ∧ cnt ≤ 300 ∧ tK f n cnt = 0 ∧ ∀ i, i < cnt → tK f n i ≠ 0 := by
  have hn := hT.1
  have key : Ok (m_X7_takeTokens ce rd tp (nI n)) (fun o => ∃ d cnt, o = ((), d) ∧ d rd = some (.inr (5, rdX ka va pa (nI (cnt + 1)) now flt fp L ini i0 nb al nt nl inp)) ∧ TkA d ka va pa f n (cnt + 1) ∧ Fra rd ka va pa ce d ∧ cnt ≤ 300 ∧ tK f n cnt = 0 ∧ ∀ i, i < cnt → tK f n i ≠ 0) := by
    unfold m_X7_takeTokens
    refine ok_call (P := fun o => ∃ j, o.2 rd = some (.inr (5, rdX ka va pa (nI j) now flt fp L ini i0 nb al nt nl inp)) ∧ TkA o.2 ka va pa f n j ∧ Fra rd ka va pa ce o.2 ∧ tP f n j = n ∧ ∀ i, i < j → tK f n i ≠ 0) (ok_loop (fun st => ∃ a v j, st.1.1 = nI a ∧ st.1.2 = nI v ∧ v ≤ a ∧ a ≤ n ∧ st.2 rd = some (.inr (5, rdX ka va pa (nI j) now flt fp L ini i0 nb al nt nl inp)) ∧ TkA st.2 ka va pa f n j ∧ Fra rd ka va pa ce st.2 ∧ tkq f n (ps f n j) = tkq f n a ∧ ∀ i, i < j → tK f n i ≠ 0) _ (fun st => n - st.1.1.toNatClampNeg) ⟨0, 0, 0, rfl, rfl, Nat.le_refl _, Nat.zero_le _, hc, hA, Fra_refl _ _ _ _ _, rfl, fun _ h => by omega⟩ (lt_FU (by omega)) ?_) (fun o ho => ?_)
    · rintro ⟨⟨u, w⟩, e⟩ ⟨a, v, j, hu, hw, hva, ha, q1, q2, q3, q4, q5⟩
      have hu : u = nI a := hu
      have hw : w = nI v := hw
      have q1 : e rd = some (.inr (5, rdX ka va pa (nI j) now flt fp L ini i0 nb al nt nl inp)) := q1
      have q2 : TkA e ka va pa f n j := q2
      have q3 : Fra rd ka va pa ce e := q3
      subst hu hw
      have hTe : Tpc e tp n f := by
        obtain ⟨z1, F, z2, z3⟩ := hT
        exact ⟨z1, F, (q3 tp htp.1 htp.2.1 htp.2.2.1 htp.2.2.2).trans z2, z3⟩
      have hj : j ≤ n := Nat.le_trans (ps_ge j q5) (ps_le f n j)
      show Ok (if (300 : Int32) ≤ nI v then some (Sum.inr ((), e)) else if nI n ≤ nI a then some (Sum.inr ((), e)) else (aB e tp (nI a)).bind fun zx6 => (m_X7_isSmall zx6).bind fun zx7 => if zx7 = 0 then (m_X7_isDigit zx6).bind fun zx8 => if zx8 = 0 then if zx6 = (32 : Int32) then some (Sum.inl ((nI a + (1 : Int32), nI v + (1 : Int32)), e)) else if zx6 = (10 : Int32) then some (Sum.inl ((nI a + (1 : Int32), nI v + (1 : Int32)), e)) else (kst 5).bind fun zz9 => (m_J0_indexOf_0f7a4 e 5 (i2ch (zx6 &&& (255 : Int32)))).bind fun zx10 => (if zx10 < 0 then some (1 : Int32) else some (5 : Int32)).bind fun (zj11 : Int32) => (rcv e 5 rd).bind fun zz12 => (m_X7_addToken e rd zj11 zx6 (nI a)).bind fun zq13 => some (Sum.inl ((nI a + (1 : Int32), nI v + (1 : Int32)), zq13.2)) else (rcv e 5 rd).bind fun zz14 => (m_X7_takeNumber e rd tp (nI a) (nI n)).bind fun zq15 => some (Sum.inl ((zq15.1, nI v + (1 : Int32)), zq15.2)) else (rcv e 5 rd).bind fun zz16 => (m_X7_takeWord e rd tp (nI a) (nI n)).bind fun zq17 => some (Sum.inl ((zq17.1, nI v + (1 : Int32)), zq17.2))) _
      have h3 : nI 300 = (300 : Int32) := rfl
      by_cases hna : n ≤ a
      · rw [if_le (b := a) (by omega) (by omega), if_pos hna, ite_self]
        have ean : a = n := by omega
        subst ean
        refine ok_some ⟨j, q1, q2, q3, ?_, q5⟩
        unfold tP
        rw [q4]
        exact tkq_n (by omega)
      · rw [← h3, if_le (b := v) (by omega) (by omega), if_neg (by omega), if_le (by omega) (by omega), if_neg hna]
        obtain ⟨t1, t2⟩ := Tpc_b hTe (k := a) (by omega)
        have hbl := bl_ns _ t2
        have step : ∀ b, b ≤ n → a < b → n - (nI b).toNatClampNeg < n - (nI a).toNatClampNeg := fun b h1 h2 => by
          rw [nI_clamp (by omega), nI_clamp (by omega)]
          omega
        have hps := ps_le f n (j + 1)
        have nz : ∀ (hq : tkq f n (ps f n j) = a), ∀ i, i < j + 1 → tK f n i ≠ 0 := fun hq i hi => by
          by_cases ei : i = j
          · subst ei
            intro z
            have z := tK_0.mp z
            unfold tP at z
            omega
          · exact q5 i (by omega)
        have gt : ∀ (hq : tkq f n (ps f n j) = a), a < ps f n (j + 1) := fun hq => by
          rw [ps, hq]
          exact (tkE_in (f := f) (q := a) (by omega)).2.2 (by omega)
        rw [t1, bind_s, tk_small _ t2, bind_s]
        by_cases hS : isS (f a) = true
        · have hF : ¬ isF (f a) = true := by
            unfold isS at hS
            unfold isF
            simp only [Bool.and_eq_true, decide_eq_true_eq] at hS ⊢
            omega
          have hq : tkq f n (ps f n j) = a := by
            rw [q4]
            exact tkq_n (fun z => by rw [(hbl z.2).2] at hS; cases hS)
          obtain ⟨d, g1, g2, g3, g4⟩ := cr_word hD q1 q2 (by omega) hTe (by omega) hq hF hS
          rw [if_pos hS, if_neg ne10, rcv_c q1, bind_s, g1, bind_s]
          exact ok_some ⟨⟨ps f n (j + 1), v + 1, j + 1, rfl, nI_1 v, by have := gt hq; omega, hps, g2, g3, Fra_trans q3 g4, rfl, nz hq⟩, step _ hps (gt hq)⟩
        · rw [if_neg hS, if_pos rfl, tk_digit _ t2, bind_s]
          by_cases hF : isF (f a) = true
          · have hq : tkq f n (ps f n j) = a := by
              rw [q4]
              exact tkq_n (fun z => by rw [(hbl z.2).1] at hF; cases hF)
            obtain ⟨d, g1, g2, g3, g4⟩ := cr_number hD q1 q2 (by omega) hTe (by omega) hq hF
            rw [if_pos hF, if_neg ne10, rcv_c q1, bind_s, g1, bind_s]
            exact ok_some ⟨⟨ps f n (j + 1), v + 1, j + 1, rfl, nI_1 v, by have := gt hq; omega, hps, g2, g3, Fra_trans q3 g4, rfl, nz hq⟩, step _ hps (gt hq)⟩
          · rw [if_neg hF, if_pos rfl]
            have i32 : sg (f a) = (32 : Int32) ↔ f a = 32 := sg_eq _ t2 32 (by omega)
            have i10 : sg (f a) = (10 : Int32) ↔ f a = 10 := sg_eq _ t2 10 (by omega)
            by_cases hb : blk (f a) = true
            · have hx : ∀ (α : Type) (x : α) (y : α), (if sg (f a) = (32 : Int32) then x else if sg (f a) = (10 : Int32) then x else y) = x := fun α x y => by
                have hb2 := hb
                unfold blk at hb2
                by_cases e32 : f a = 32
                · rw [if_pos (i32.mpr e32)]
                · have e10 : f a = 10 := by
                    simp [e32] at hb2
                    exact hb2
                  rw [if_neg (fun z => e32 (i32.mp z)), if_pos (i10.mpr e10)]
              rw [hx, nI_1 a]
              exact ok_some ⟨⟨a + 1, v + 1, j, rfl, nI_1 v, by omega, by omega, q1, q2, q3, q4.trans (tkq_b (by omega) hb), q5⟩, step _ (by omega) (by omega)⟩
            · have n32 : ¬ f a = 32 := fun z => hb (by rw [z]; rfl)
              have n10 : ¬ f a = 10 := fun z => hb (by rw [z]; rfl)
              have hq : tkq f n (ps f n j) = a := by
                rw [q4]
                exact tkq_n (fun z => hb z.2)
              have eE : ps f n (j + 1) = a + 1 := by
                rw [ps, hq]
                unfold tkE
                rw [if_pos (by omega), if_neg hF, if_neg hS]
              have eK : tK f n j = if isG (f a) = true then 5 else 1 := by
                unfold tK tkK
                rw [hq, if_pos (by omega), if_neg hF, if_neg hS]
              have eV : tV f n j = f a := by
                unfold tV tkV
                rw [hq, if_neg hF, if_neg hS]
              have eP : tP f n j = a := by
                unfold tP
                exact hq
              have hix := st_ix _ t2
              rw [if_neg (fun z => n32 (i32.mp z)), if_neg (fun z => n10 (i10.mp z)), show kst 5 = some () from rfl, bind_s, st_ix0, rcv_c q1]
              generalize m_J0_indexOf_0f7a4 (fun _ => none) 5 (i2ch (sg (f a) &&& 255)) = oi at hix
              cases oi with
              | none => cases hix
              | some vv =>
                have hix : decide (vv < 0) = ! isG (f a) := by
                  have : some (decide (vv < 0)) = some (! isG (f a)) := hix
                  exact Option.some.inj this
                rw [bind_s]
                by_cases hG : isG (f a) = true
                · rw [hG] at hix
                  have hv : ¬ vv < 0 := by simpa using hix
                  rw [if_pos hG] at eK
                  have hgb := isG_b hG
                  obtain ⟨d, g1, g2, g3, g4⟩ := cr_add hD q1 q2 (by omega) (k := 5) (v := sg (f a)) (p := nI a) (by rw [eK]; rfl) (by rw [eP]) (fun _ => by rw [eV]; exact sg_lt (by omega))
                  rw [if_neg hv, bind_s, bind_s, g1, bind_s, nI_1 a]
                  exact ok_some ⟨⟨a + 1, v + 1, j + 1, rfl, nI_1 v, by omega, by omega, g2, g3, Fra_trans q3 g4, by rw [eE], nz hq⟩, step _ (by omega) (by omega)⟩
                · have hG2 : isG (f a) = false := by simpa using hG
                  rw [hG2] at hix
                  have hv : vv < 0 := by simpa using hix
                  rw [if_neg hG] at eK
                  obtain ⟨d, g1, g2, g3, g4⟩ := cr_add hD q1 q2 (by omega) (k := 1) (v := sg (f a)) (p := nI a) (by rw [eK]; rfl) (by rw [eP]) (fun h => by omega)
                  rw [if_pos hv, bind_s, bind_s, g1, bind_s, nI_1 a]
                  exact ok_some ⟨⟨a + 1, v + 1, j + 1, rfl, nI_1 v, by omega, by omega, g2, g3, Fra_trans q3 g4, by rw [eE], nz hq⟩, step _ (by omega) (by omega)⟩
    · obtain ⟨j, q1, q2, q3, q4, q5⟩ := ho
      have hj : j ≤ n := Nat.le_trans (ps_ge j q5) (ps_le f n j)
      have eK : tK f n j = 0 := tK_0.mpr q4
      obtain ⟨d, g1, g2, g3, g4⟩ := cr_add hD q1 q2 (by omega) (k := 0) (v := 0) (p := nI n) (by rw [eK]; rfl) (by rw [q4]) (fun h => by omega)
      rw [rcv_c q1, bind_s, g1, bind_s]
      exact ok_some ⟨d, j, rfl, g2, g3, Fra_trans q3 g4, by omega, eK, q5⟩
  obtain ⟨_, hv, d, cnt, rfl, q⟩ := key
  exact ⟨d, cnt, hv, q⟩
