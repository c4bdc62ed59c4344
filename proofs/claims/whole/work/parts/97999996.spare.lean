/-! SPARE: both sides -/
theorem sr_spare (c : Ce) (m : Nat) {μ : MS} {V : Sv} (hr : RV μ V) {j : Nat} (hi : IV j V) (p : Int32) : ∃ v ν, m_X12_spare (wr c m μ) m p = some (v, wr c m ν) ∧ KJ μ ν ∧ (¬ fineB V p = true → v = -1) ∧ (fineB V p = true → ∃ l, lay V p = some l ∧ v = nI (l.length - (spG V.1 (V.1.2.2.2.2 (V.2.1 8)) l.length 0 l).length)) := by
  have h8 := hi.2.2.1.2.1
  obtain ⟨ν, f1, f2, f3⟩ := sr_isFine c m hr hi p
  have hrν := KJ_RV f2 hr
  have key : Ok (m_X12_spare (wr c m μ) m p) (fun z => ∃ v ν, z = (v, wr c m ν) ∧ KJ μ ν ∧ (¬ fineB V p = true → v = -1) ∧ (fineB V p = true → ∃ l, lay V p = some l ∧ v = nI (l.length - (spG V.1 (V.1.2.2.2.2 (V.2.1 8)) l.length 0 l).length))) := by
    unfold m_X12_spare
    rw [wr_rcv, bind_s, f1, bind_s]
    by_cases hf : fineB V p = true
    · obtain ⟨l, l1, l2⟩ := f3 hf
      rw [if_pos hf]
      show Ok (if (1 : Int32) = 0 then _ else _) _
      rw [if_neg (by decide)]
      refine ok_call (sr_spareLoop c m hrν hi.1 h8 l2) ?_
      rintro z ⟨ν2, rfl, k2⟩
      exact ok_some ⟨_, ν2, rfl, KJ_trans f2 k2, fun h => absurd hf h, fun _ => ⟨l, l1, rfl⟩⟩
    · rw [if_neg hf]
      show Ok (if (0 : Int32) = 0 then _ else _) _
      rw [if_pos rfl]
      exact ok_some ⟨-1, ν, rfl, f2, fun _ => rfl, fun h => absurd h hf⟩
  obtain ⟨_, hv, v, ν2, rfl, r⟩ := key
  exact ⟨v, ν2, hv, r⟩
theorem RW_len {ce : Ce} {r f g s cap f2 g2 s2 cap2 : Nat} {l l2 : List Cu} (h : RW ce r f g s cap l) (h2 : RW ce r f2 g2 s2 cap2 l2) : l.length = l2.length := by
  obtain ⟨F, C, S, a1, _, _, _, a5, a6, _⟩ := h
  obtain ⟨F2, C2, S2, b1, _, _, _, b5, b6, _⟩ := h2
  rw [a1] at b1
  have e := Option.some.inj b1
  have e := congrArg (fun z : PE => match z with | .inr (_, [_, _, _, .int v]) => v | _ => 0) e
  have e : nI l.length = nI l2.length := e
  exact (nI_eq (by omega) (by omega)).mp e
theorem c_spare {ce : Ce} {nx : Nat} {Z : Nat → Prop} {A : Nat → Nat} {κ : Nat × Nat × Nat} {V : Sv} {x w j r f g s cap : Nat} {l0 : List Cu} (hx0 : rcv ce 8 x = some ()) (hx1 : gA ce 8 6 x = some w) (hx2 : gA ce 7 4 w = some (A 0)) (h : SZ ce nx Z A κ V) (hLv : Liv nx Z A) (hi : IV j V) (hc : gA ce 8 9 x = some r) (hR : RW ce r f g s cap l0) (hD : D4 r f g s) (hlt : r < nx ∧ f < nx ∧ g < nx ∧ s < nx) (ho : ∀ b, (b = r ∨ b = f ∨ b = g ∨ b = s) → (∀ i, i < 13 → A i ≠ b) ∧ ¬ Z b ∧ x ≠ b ∧ w ≠ b) (hxw : x < nx ∧ w < nx) (p : Int32) : Ok (m_X11_spare nx ce x p) (fun z => ((¬ fineB V p = true → z.1 = -1) ∧ (fineB V p = true → ∃ l, lay V p = some l ∧ z.1 = nI (l.length - (spG V.1 (V.1.2.2.2.2 (V.2.1 8)) l.length 0 l).length))) ∧ ∃ l2, RowEv ce nx r f g s cap l2 z.2.1 z.2.2.1 z.2.2.2) := by
  have hx : XS ce x A := ⟨hx0, w, hx1, hx2⟩
  have hno : RowEv ce nx r f g s cap l0 ce 0 0 := ⟨f, g, s, cap, hR, hD, Or.inl rfl, Or.inl rfl, Or.inl rfl, by omega, by omega, fun _ _ _ _ _ _ => rfl⟩
  unfold m_X11_spare
  by_cases h2 : p = 2
  · have hf : ¬ fineB V p = true := by
      unfold fineB
      simp [h2]
    rw [if_pos h2]
    exact ok_some ⟨⟨fun _ => rfl, fun h => absurd h hf⟩, l0, hno⟩
  · obtain ⟨v0, j1, j2⟩ := c_fine hx h.1 hi h2
    rw [if_neg h2, hx0, bind_s, j1, bind_s]
    by_cases hf : fineB V p = true
    · rw [if_pos (j2.mpr hf), hc, bind_s, bind_s]
      rcases c_lay hx h.1 hi p with ⟨h1, _⟩ | ⟨bb, lr, st, cap', l, hb, ⟨h1, hmap, _⟩, h4, h5, h6, h7, h9, h10⟩
      · unfold fineB at hf
        rw [h1] at hf
        simp at hf
      · have hmap := hmap h2
        have hlA := (ss_lt h.1).1
        have hlr : lr.length < 4800 := by
          rcases hb with rfl | rfl
          · have e := RW_len h6 (ss_row h.1)
            rw [e, srtF_len fun q hq => by have := IV_fr hi q hq; omega]
            have := IV_len hi
            have := hi.2.2.2.1.2.2
            omega
          · obtain ⟨mp, at1, s1, s2, lc, a1, a2, a3, a4, a5, a6⟩ := h.1
            have e := RW_len h6 a5
            rw [e, clR_len]
            have := hi.2.2.2.2.2.2.2.1
            omega
        rw [h4, bind_s, bind_s, h5, bind_s, cw_rcv hR, bind_s]
        refine ok_adcB (ok_mono (cw_takeFrom hR hlt hD h6 ⟨hlA _ (by omega), hlA _ (by omega), hlA _ (by omega), hlA _ (by omega)⟩ (fun b hb2 => ?_) h7 hlr) ?_)
        · have hne : ∀ i, i < 13 → A i ≠ r ∧ A i ≠ f ∧ A i ≠ g ∧ A i ≠ s := fun i hi => ⟨(ho r (Or.inl rfl)).1 i hi, (ho f (Or.inr (Or.inl rfl))).1 i hi, (ho g (Or.inr (Or.inr (Or.inl rfl)))).1 i hi, (ho s (Or.inr (Or.inr (Or.inr rfl)))).1 i hi⟩
          rcases hb2 with rfl | rfl | rfl | rfl
          · exact hne _ (by omega)
          · exact hne _ (by omega)
          · exact hne _ (by omega)
          · exact hne _ (by omega)
        · rintro ⟨u, d, K, S⟩ ⟨f2, g2, s2, cap2, e1, e2, e3, e4, e5, e6, e7, e8⟩
          have e1 : RW d r f2 g2 s2 cap2 (clR ((lr.drop st).map Prod.snd)) := e1
          have e3 : f2 = f ∨ (nx ≤ f2 ∧ f2 < nx + K) := e3
          have e4 : g2 = g ∨ (nx ≤ g2 ∧ g2 < nx + K) := e4
          have e5 : s2 = s ∨ (nx ≤ s2 ∧ s2 < nx + K) := e5
          have e6 : 6 * cap + K ≤ 6 * cap2 := e6
          have e7 : 6 * cap + S ≤ 6 * cap2 := e7
          have e8 : ∀ b, b ≠ r → b ≠ f → b ≠ g → b ≠ s → b < nx → d b = ce b := e8
          rw [hmap] at e1
          have far : ∀ b, b < nx → b ≠ r → b ≠ f → b ≠ g → b ≠ s → b ≠ f2 ∧ b ≠ g2 ∧ b ≠ s2 := fun b hb n1 n2 n3 n4 => by
            refine ⟨?_, ?_, ?_⟩
            · rcases e3 with e | e
              · rw [e]; exact n2
              · omega
            · rcases e4 with e | e
              · rw [e]; exact n3
              · omega
            · rcases e5 with e | e
              · rw [e]; exact n4
              · omega
          have keep : ∀ b, b < nx → b ≠ r → b ≠ f → b ≠ g → b ≠ s → ∀ c2 : Ce, (∀ b, b ≠ r → b ≠ f2 → b ≠ g2 → b ≠ s2 → c2 b = d b) → c2 b = ce b := fun b hb n1 n2 n3 n4 c2 hc2 => by
            obtain ⟨m1, m2, m3⟩ := far b hb n1 n2 n3 n4
            rw [hc2 b n1 m1 m2 m3]
            exact e8 b n1 n2 n3 n4 hb
          have kx : ∀ c2 : Ce, (∀ b, b ≠ r → b ≠ f2 → b ≠ g2 → b ≠ s2 → c2 b = d b) → c2 x = ce x := keep x hxw.1 (ho r (Or.inl rfl)).2.2.1 (ho f (Or.inr (Or.inl rfl))).2.2.1 (ho g (Or.inr (Or.inr (Or.inl rfl)))).2.2.1 (ho s (Or.inr (Or.inr (Or.inr rfl)))).2.2.1
          have kw : ∀ c2 : Ce, (∀ b, b ≠ r → b ≠ f2 → b ≠ g2 → b ≠ s2 → c2 b = d b) → c2 w = ce w := keep w hxw.2 (ho r (Or.inl rfl)).2.2.2 (ho f (Or.inr (Or.inl rfl))).2.2.2 (ho g (Or.inr (Or.inr (Or.inl rfl)))).2.2.2 (ho s (Or.inr (Or.inr (Or.inr rfl)))).2.2.2
          have hst : ∀ c2 : Ce, (∀ b, b ≠ r → b ≠ f2 → b ≠ g2 → b ≠ s2 → c2 b = d b) → XS c2 x A ∧ SS c2 (nx + K) A κ V := fun c2 hc2 => by
            refine ⟨⟨(rcv_fr (kx c2 hc2)).trans hx0, w, (gA_fr (kx c2 hc2)).trans hx1, (gA_fr (kw c2 hc2)).trans hx2⟩, (SZ_congr h (fun b hb => ⟨by have := (hLv b hb).1; omega, (hLv b hb).2⟩) (fun i hi => ?_) (fun b hb => ?_) (Nat.le_add_right _ _) (fun _ hb => hb)).1⟩
            · exact keep _ (hlA i hi) ((ho r (Or.inl rfl)).1 i hi) ((ho f (Or.inr (Or.inl rfl))).1 i hi) ((ho g (Or.inr (Or.inr (Or.inl rfl)))).1 i hi) ((ho s (Or.inr (Or.inr (Or.inr rfl)))).1 i hi) c2 hc2
            · exact keep b (hLv b hb).1 (fun z => (ho r (Or.inl rfl)).2.1 (z ▸ hb)) (fun z => (ho f (Or.inr (Or.inl rfl))).2.1 (z ▸ hb)) (fun z => (ho g (Or.inr (Or.inr (Or.inl rfl)))).2.1 (z ▸ hb)) (fun z => (ho s (Or.inr (Or.inr (Or.inr rfl)))).2.1 (z ▸ hb)) c2 hc2
          have hdx : d x = ce x := kx d fun _ _ _ _ _ => rfl
          have hml : ∀ q, q ∈ l → q.1 < 2 ^ V.1.1 := fun q hq => by
            rw [← hmap] at hq
            obtain ⟨q2, hq2, rfl⟩ := List.mem_map.mp hq
            exact h9 q2 (List.mem_of_mem_drop hq2)
          have hll : l.length < 5001 := by
            rw [← hmap, List.length_map, List.length_drop]
            omega
          show Ok ((gA d 8 9 x).bind _) _
          rw [gA_fr hdx, hc, bind_s, rcv_fr hdx, hx0, bind_s]
          refine ok_call (c_leaveOut e1 e2 hst hi hml hll) ?_
          rintro ⟨v, d2⟩ ⟨v1, l3, v2, v3⟩
          have v2 : RW d2 r f2 g2 s2 cap2 l3 := v2
          have v3 : ∀ b, b ≠ r → b ≠ f2 → b ≠ g2 → b ≠ s2 → d2 b = d b := v3
          refine ok_some ⟨⟨fun hn => absurd hf hn, fun _ => ⟨l, h1, v1⟩⟩, l3, f2, g2, s2, cap2, v2, e2, ?_, ?_, ?_, ?_, ?_, fun b n1 n2 n3 n4 hb => keep b hb n1 n2 n3 n4 d2 v3⟩
          · show f2 = f ∨ (nx ≤ f2 ∧ f2 < nx + (0 + K))
            rw [Nat.zero_add]
            exact e3
          · show g2 = g ∨ (nx ≤ g2 ∧ g2 < nx + (0 + K))
            rw [Nat.zero_add]
            exact e4
          · show s2 = s ∨ (nx ≤ s2 ∧ s2 < nx + (0 + K))
            rw [Nat.zero_add]
            exact e5
          · show 6 * cap + (0 + K) ≤ 6 * cap2
            omega
          · show 6 * cap + (0 + S) ≤ 6 * cap2
            omega
    · have hv : ¬ v0 = 0 := fun z => hf (j2.mp z)
      rw [if_neg hv]
      exact ok_some ⟨⟨fun _ => rfl, fun h => absurd h hf⟩, l0, hno⟩
