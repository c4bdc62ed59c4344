/-! THE WHOLE: what class and reference hold, and what stays -/
def Zo (own : Nat → Nat) (nx : Nat) : Nat → Prop := fun b => b < nx ∧ own b = 0
def KE (own : Nat → Nat) (nx : Nat) (own2 : Nat → Nat) (nx2 : Nat) : Prop := nx ≤ nx2 ∧ ∀ b, b < nx → own2 b = own b
def Tg (own A : Nat → Nat) (k : Nat) : Prop := ∀ i, i < 13 → own (A i) = k
def OWF (own fx : Nat → Nat) (nx m : Nat) : Prop := (∀ k, k < 20 → own (fx k) = 10 + k ∧ fx k < nx) ∧ (∀ i, i < 18 → own (m + i) = 5) ∧ m + 18 ≤ nx
def WRL (ce : Ce) (nx : Nat) (own : Nat → Nat) (w t p : Nat) (A : Nat → Nat) (κ : Nat × Nat × Nat) (W : Wv) (k : Nat) : Prop := Tg own A k ∧ ∃ tp pp, WC3 ce w t p (A 0) tp pp ∧ SZ ce nx (Zo own nx) A κ W.2.2 ∧ TP ce (Zo own nx) tp W.1 ∧ PP ce nx (Zo own nx) pp W.2.1
def TRL (ce : Ce) (nx : Nat) (own T : Nat → Nat) (κt : Nat × Nat × Nat) : Prop := Tg own T 3 ∧ ∃ U, SZ ce nx (Zo own nx) T κt U
def SPR (ce : Ce) (nx : Nat) (own : Nat → Nat) (r : Nat) (sp : Nat × Nat × Nat × Nat) : Prop := (own sp.1 = 4 ∧ own sp.2.1 = 4 ∧ own sp.2.2.1 = 4) ∧ (sp.1 < nx ∧ sp.2.1 < nx ∧ sp.2.2.1 < nx) ∧ D4 r sp.1 sp.2.1 sp.2.2.1 ∧ ∃ l, RW ce r sp.1 sp.2.1 sp.2.2.1 sp.2.2.2 l
abbrev Tx5 : Type := Nat × (Nat → Int32) × Int32 × Int32 × Int32
def XCL (ce : Ce) (fx : Nat → Nat) (T0 : Nat) (z : Tx5) : Prop := ce (fx 0) = some (.inr (8, fsX (fx 1) (nI z.1) z.2.2.1 z.2.2.2.1 z.2.2.2.2 (fx 2) (fx 8) (fx 11) T0 (fx 18) (fx 14) (fx 17) (fx 19))) ∧ ce (fx 1) = some (.inl (.byte, 300, .inl z.2.1))
def RDF (ce : Ce) (fx : Nat → Nat) : Prop := Rdr ce (fx 2) (fx 3) (fx 4) (fx 5) (fx 6) (fx 7)
def CHF (ce : Ce) (fx : Nat → Nat) : Prop := ∃ S T, CHc ce (fx 14) (fx 15) (fx 16) S T
def PTF (ce : Ce) (fx : Nat → Nat) : Prop := (∃ P : Nat → Int32, ce (fx 17) = some (.inl (.int, 128, .inl P))) ∧ ∃ Q : Nat → Int64, ce (fx 19) = some (.inl (.long, 64, .inr (.inl Q)))
def CP (ce : Ce) (nx m : Nat) (own fx A B T : Nat → Nat) (κ κb κt : Nat × Nat × Nat) (sp : Nat × Nat × Nat × Nat) (W Wb : Wv) (z : Tx5) (μ : MS) : Prop := OWF own fx nx m ∧ XCL ce fx (T 0) z ∧ (RDF ce fx ∧ CHF ce fx ∧ PTF ce fx) ∧ WRL ce nx own (fx 8) (fx 9) (fx 10) A κ W 1 ∧ WRL ce nx own (fx 11) (fx 12) (fx 13) B κb Wb 2 ∧ TRL ce nx own T κt ∧ SPR ce nx own (fx 18) sp ∧ ce = wr ce m μ
section
variable {ce d : Ce} {nx nx2 m : Nat} {own own2 fx A B T A2 T2 : Nat → Nat} {κ κb κt κ2 : Nat × Nat × Nat} {sp : Nat × Nat × Nat × Nat} {W Wb : Wv} {z : Tx5} {μ : MS}
theorem OWF_ke (h : OWF own fx nx m) (k : KE own nx own2 nx2) : OWF own2 fx nx2 m := by
  obtain ⟨h1, h2, h3⟩ := h
  obtain ⟨k1, k2⟩ := k
  refine ⟨fun i hi => ?_, fun i hi => ?_, by omega⟩
  · obtain ⟨a, b⟩ := h1 i hi
    exact ⟨(k2 _ b).trans a, by omega⟩
  · exact (k2 _ (by omega)).trans (h2 i hi)
theorem Zo_ke (k : KE own nx own2 nx2) : ∀ b, Zo own nx b → Zo own2 nx2 b := fun b hb => ⟨by have := hb.1; have := k.1; omega, (k.2 b hb.1).trans hb.2⟩
theorem Tg_liv {k : Nat} (h : Tg own A k) (hk : k ≠ 0) : Liv nx (Zo own nx) A := fun b hb => ⟨hb.1, fun i hi e => hk (by rw [← h i hi, ← e]; exact hb.2)⟩
theorem WRL_ke {w t p k : Nat} (h : WRL ce nx own w t p A κ W k) (ke : KE own nx own2 nx2) (hk : k ≠ 0) (hf : ∀ b, b < nx → (own b = 0 ∨ own b = k) → d b = ce b) (hw : d w = ce w) (ht : d t = ce t) (hp : d p = ce p) : WRL d nx2 own2 w t p A κ W k := by
  obtain ⟨h1, tp, pp, h2, h3, h4, h5⟩ := h
  have hl := (ss_lt h3.1).1
  have hL := Tg_liv (nx := nx) h1 hk
  refine ⟨fun i hi => (ke.2 _ (hl i hi)).trans (h1 i hi), tp, pp, WC3_congr h2 hw ht hp, ?_, ?_, ?_⟩
  · exact SZ_congr h3 (fun b hb => ⟨Nat.lt_of_lt_of_le hb.1 ke.1, (hL b hb).2⟩) (fun i hi => hf _ (hl i hi) (Or.inr (h1 i hi))) (fun b hb => hf b hb.1 (Or.inl hb.2)) ke.1 (Zo_ke ke)
  · exact TP_congr h4 (fun b hb => hf b hb.1 (Or.inl hb.2)) (Zo_ke ke)
  · exact PP_congr h5 (fun b hb => hb.1) (fun b hb => hf b hb.1 (Or.inl hb.2)) ke.1 (Zo_ke ke)
theorem TRL_ke (h : TRL ce nx own T κt) (ke : KE own nx own2 nx2) (hf : ∀ b, b < nx → (own b = 0 ∨ own b = 3) → d b = ce b) : TRL d nx2 own2 T κt := by
  obtain ⟨h1, U, h3⟩ := h
  have hl := (ss_lt h3.1).1
  have hL := Tg_liv (nx := nx) h1 (by decide)
  exact ⟨fun i hi => (ke.2 _ (hl i hi)).trans (h1 i hi), U, SZ_congr h3 (fun b hb => ⟨Nat.lt_of_lt_of_le hb.1 ke.1, (hL b hb).2⟩) (fun i hi => hf _ (hl i hi) (Or.inr (h1 i hi))) (fun b hb => hf b hb.1 (Or.inl hb.2)) ke.1 (Zo_ke ke)⟩
theorem RW_fr {r f g s cap : Nat} {l : List Cu} (h : RW ce r f g s cap l) (h1 : d r = ce r) (h2 : d f = ce f) (h3 : d g = ce g) (h4 : d s = ce s) : RW d r f g s cap l := by
  obtain ⟨F, C, S, a1, a2, a3, a4, a5⟩ := h
  exact ⟨F, C, S, h1.trans a1, h2.trans a2, h3.trans a3, h4.trans a4, a5⟩
theorem SPR_ke {r : Nat} (h : SPR ce nx own r sp) (ke : KE own nx own2 nx2) (hf : ∀ b, b < nx → own b = 4 → d b = ce b) (hr : d r = ce r) : SPR d nx2 own2 r sp := by
  obtain ⟨⟨h1, h2, h3⟩, ⟨l1, l2, l3⟩, h4, l, h5⟩ := h
  have := ke.1
  exact ⟨⟨(ke.2 _ l1).trans h1, (ke.2 _ l2).trans h2, (ke.2 _ l3).trans h3⟩, ⟨by omega, by omega, by omega⟩, h4, l, RW_fr h5 hr (hf _ l1 h1) (hf _ l2 h2) (hf _ l3 h3)⟩
theorem XCL_fr {T0 : Nat} (h : XCL ce fx T0 z) (h0 : d (fx 0) = ce (fx 0)) (h1 : d (fx 1) = ce (fx 1)) : XCL d fx T0 z := ⟨h0.trans h.1, h1.trans h.2⟩
theorem RDF_fr (h : RDF ce fx) (hf : ∀ k, 2 ≤ k → k < 8 → d (fx k) = ce (fx k)) : RDF d fx := by
  obtain ⟨⟨c, now, flt, fp, L, ini, i0, nb, nt, inp, r1⟩, ⟨Fk, r2⟩, ⟨Fv, r3⟩, ⟨Fp, r4⟩, ⟨G0, r5⟩, ⟨H0, r6⟩⟩ := h
  exact ⟨⟨c, now, flt, fp, L, ini, i0, nb, nt, inp, (hf 2 (by omega) (by omega)).trans r1⟩, ⟨Fk, (hf 3 (by omega) (by omega)).trans r2⟩, ⟨Fv, (hf 4 (by omega) (by omega)).trans r3⟩, ⟨Fp, (hf 5 (by omega) (by omega)).trans r4⟩, ⟨G0, (hf 6 (by omega) (by omega)).trans r5⟩, ⟨H0, (hf 7 (by omega) (by omega)).trans r6⟩⟩
theorem CHF_fr (h : CHF ce fx) (h1 : d (fx 14) = ce (fx 14)) (h2 : d (fx 15) = ce (fx 15)) (h3 : d (fx 16) = ce (fx 16)) : CHF d fx := by
  obtain ⟨S, T, a1, a2, a3⟩ := h
  exact ⟨S, T, h1.trans a1, h2.trans a2, h3.trans a3⟩
theorem PTF_fr (h : PTF ce fx) (h1 : d (fx 17) = ce (fx 17)) (h2 : d (fx 19) = ce (fx 19)) : PTF d fx := by
  obtain ⟨⟨P, a1⟩, Q, a2⟩ := h
  exact ⟨⟨P, h1.trans a1⟩, Q, h2.trans a2⟩
theorem wr_wr (c : Ce) (m : Nat) (μ ν : MS) : wr (wr c m μ) m ν = wr c m ν := by
  funext b
  unfold wr
  by_cases h1 : b = m
  · rw [if_pos h1, if_pos h1]
  · rw [if_neg h1, if_neg h1, if_neg h1]
    by_cases h2 : m < b ∧ b ≤ m + 17
    · rw [if_pos h2, if_pos h2]
    · rw [if_neg h2, if_neg h2, if_neg h2]
theorem wr_keep (h : ce = wr ce m μ) (hf : ∀ i, i < 18 → d (m + i) = ce (m + i)) : d = wr d m μ := by
  funext b
  by_cases hb : b < m ∨ m + 17 < b
  · rw [wr_o d m μ b hb]
  · have e := hf (b - m) (by omega)
    rw [show m + (b - m) = b by omega] at e
    have e2 : wr d m μ b = wr ce m μ b := by
      unfold wr
      by_cases h1 : b = m
      · rw [if_pos h1, if_pos h1]
      · rw [if_neg h1, if_neg h1, if_pos (by omega), if_pos (by omega)]
    rw [e2, e]
    exact congrFun h b
/-- all but some tags stay: the rest of the whole -/
theorem CP_wr (h : CP ce nx m own fx A B T κ κb κt sp W Wb z μ) (ν : MS) : CP (wr ce m ν) nx m own fx A B T κ κb κt sp W Wb z ν := by
  obtain ⟨h1, h2, ⟨h3, h4, h5⟩, h6, h7, h8, h9, h10⟩ := h
  have hf : ∀ b, own b ≠ 5 → wr ce m ν b = ce b := fun b hb => wr_o ce m ν b (by
    by_cases e : b < m ∨ m + 17 < b
    · exact e
    · exfalso
      apply hb
      have := h1.2.1 (b - m) (by omega)
      rw [show m + (b - m) = b by omega] at this
      exact this)
  have hx : ∀ k, k < 20 → wr ce m ν (fx k) = ce (fx k) := fun k hk => hf _ (by have := (h1.1 k hk).1; omega)
  have ke : KE own nx own nx := ⟨Nat.le_refl _, fun _ _ => rfl⟩
  exact ⟨h1, XCL_fr h2 (hx 0 (by omega)) (hx 1 (by omega)), ⟨RDF_fr h3 (fun k _ _ => hx k (by omega)), CHF_fr h4 (hx 14 (by omega)) (hx 15 (by omega)) (hx 16 (by omega)), PTF_fr h5 (hx 17 (by omega)) (hx 19 (by omega))⟩, WRL_ke h6 ke (by decide) (fun b _ hb => hf b (by omega)) (hx 8 (by omega)) (hx 9 (by omega)) (hx 10 (by omega)), WRL_ke h7 ke (by decide) (fun b _ hb => hf b (by omega)) (hx 11 (by omega)) (hx 12 (by omega)) (hx 13 (by omega)), TRL_ke h8 ke (fun b _ hb => hf b (by omega)), SPR_ke h9 ke (fun b _ hb => hf b (by omega)) (hx 18 (by omega)), (wr_wr ce m ν ν).symm⟩
theorem SZ_zone {Z2 : Nat → Prop} {V : Sv} (hs : SZ d nx2 (Zo own nx) A2 κ2 V) (hn : nx ≤ nx2) (hl : Liv nx (Zo own nx) A2) (hZ2 : ∀ b, Zo own nx b → Z2 b) : SZ d nx2 Z2 A2 κ2 V := SZ_congr hs (fun b hb => ⟨Nat.lt_of_lt_of_le hb.1 hn, (hl b hb).2⟩) (fun _ _ => rfl) (fun _ _ => rfl) (Nat.le_refl _) hZ2
theorem Off_new {k : Nat} (h1 : Tg own A k) (hk : k ≠ 0) (h13 : ∀ i, i < 13 → A2 i = A i ∨ nx ≤ A2 i) : Liv nx (Zo own nx) A2 := fun b hb => ⟨hb.1, fun i hi e => by
  rcases h13 i hi with h | h
  · exact (Tg_liv (nx := nx) h1 hk b hb).2 i hi (e.trans h)
  · have := hb.1
    omega⟩
/-- the world's search goes on -/
theorem CP_A (h : CP ce nx m own fx A B T κ κb κt sp W Wb z μ) {V2 : Sv} (hn : nx ≤ nx2) (hs : SZ d nx2 (Zo own nx) A2 κ2 V2) (h0 : A2 0 = A 0) (h13 : ∀ i, i < 13 → A2 i = A i ∨ nx ≤ A2 i) (hfr : ∀ b, b < nx → Off A b → d b = ce b) : ∃ own2, KE own nx own2 nx2 ∧ CP d nx2 m own2 fx A2 B T κ2 κb κt sp (W.1, W.2.1, V2) Wb z μ := by
  obtain ⟨h1, h2, ⟨h3, h4, h5⟩, h6, h7, h8, h9, h10⟩ := h
  obtain ⟨w1, tp, pp, w2, w3, w4, w5⟩ := h6
  have hlA := (ss_lt w3.1).1
  have ke : KE own nx (fun b => if b < nx then own b else 1) nx2 := ⟨hn, fun b hb => if_pos hb⟩
  have hf : ∀ b, b < nx → own b ≠ 1 → d b = ce b := fun b hb ht => hfr b hb (fun i hi e => ht (by rw [e]; exact w1 i hi))
  have hx : ∀ k, k < 20 → d (fx k) = ce (fx k) := fun k hk => hf _ (h1.1 k hk).2 (by have := (h1.1 k hk).1; omega)
  refine ⟨_, ke, OWF_ke h1 ke, XCL_fr h2 (hx 0 (by omega)) (hx 1 (by omega)), ⟨RDF_fr h3 (fun k _ _ => hx k (by omega)), CHF_fr h4 (hx 14 (by omega)) (hx 15 (by omega)) (hx 16 (by omega)), PTF_fr h5 (hx 17 (by omega)) (hx 19 (by omega))⟩, ⟨fun i hi => ?_, tp, pp, ?_, ?_, ?_, ?_⟩, WRL_ke h7 ke (by decide) (fun b hb ht => hf b hb (by omega)) (hx 11 (by omega)) (hx 12 (by omega)) (hx 13 (by omega)), TRL_ke h8 ke (fun b hb ht => hf b hb (by omega)), SPR_ke h9 ke (fun b hb ht => hf b hb (by omega)) (hx 18 (by omega)), wr_keep h10 (fun i hi => hf _ (by have := h1.2.2; omega) (by have := h1.2.1 i hi; omega))⟩
  · show (if A2 i < nx then own (A2 i) else 1) = 1
    rcases h13 i hi with e | e
    · rw [e, if_pos (hlA i hi)]
      exact w1 i hi
    · rw [if_neg (by omega)]
  · rw [h0]
    exact WC3_congr w2 (hx 8 (by omega)) (hx 9 (by omega)) (hx 10 (by omega))
  · exact SZ_zone hs hn (Off_new w1 (by decide) h13) (Zo_ke ke)
  · exact TP_congr w4 (fun b hb => hf b hb.1 (by have := hb.2; omega)) (Zo_ke ke)
  · exact PP_congr w5 (fun b hb => hb.1) (fun b hb => hf b hb.1 (by have := hb.2; omega)) hn (Zo_ke ke)
/-- the trial goes on -/
theorem CP_T (h : CP ce nx m own fx A B T κ κb κt sp W Wb z μ) {V2 : Sv} (hn : nx ≤ nx2) (hs : SZ d nx2 (Zo own nx) T2 κ2 V2) (h0 : T2 0 = T 0) (h13 : ∀ i, i < 13 → T2 i = T i ∨ nx ≤ T2 i) (hfr : ∀ b, b < nx → Off T b → d b = ce b) : ∃ own2, KE own nx own2 nx2 ∧ CP d nx2 m own2 fx A B T2 κ κb κ2 sp W Wb z μ := by
  obtain ⟨h1, h2, ⟨h3, h4, h5⟩, h6, h7, h8, h9, h10⟩ := h
  obtain ⟨w1, U, w3⟩ := h8
  have hlT := (ss_lt w3.1).1
  have ke : KE own nx (fun b => if b < nx then own b else 3) nx2 := ⟨hn, fun b hb => if_pos hb⟩
  have hf : ∀ b, b < nx → own b ≠ 3 → d b = ce b := fun b hb ht => hfr b hb (fun i hi e => ht (by rw [e]; exact w1 i hi))
  have hx : ∀ k, k < 20 → d (fx k) = ce (fx k) := fun k hk => hf _ (h1.1 k hk).2 (by have := (h1.1 k hk).1; omega)
  refine ⟨_, ke, OWF_ke h1 ke, ?_, ⟨RDF_fr h3 (fun k _ _ => hx k (by omega)), CHF_fr h4 (hx 14 (by omega)) (hx 15 (by omega)) (hx 16 (by omega)), PTF_fr h5 (hx 17 (by omega)) (hx 19 (by omega))⟩, WRL_ke h6 ke (by decide) (fun b hb ht => hf b hb (by omega)) (hx 8 (by omega)) (hx 9 (by omega)) (hx 10 (by omega)), WRL_ke h7 ke (by decide) (fun b hb ht => hf b hb (by omega)) (hx 11 (by omega)) (hx 12 (by omega)) (hx 13 (by omega)), ⟨fun i hi => ?_, V2, ?_⟩, SPR_ke h9 ke (fun b hb ht => hf b hb (by omega)) (hx 18 (by omega)), wr_keep h10 (fun i hi => hf _ (by have := h1.2.2; omega) (by have := h1.2.1 i hi; omega))⟩
  · rw [h0]
    exact XCL_fr h2 (hx 0 (by omega)) (hx 1 (by omega))
  · show (if T2 i < nx then own (T2 i) else 3) = 3
    rcases h13 i hi with e | e
    · rw [e, if_pos (hlT i hi)]
      exact w1 i hi
    · rw [if_neg (by omega)]
  · exact SZ_zone hs hn (Off_new w1 (by decide) h13) (Zo_ke ke)
/-- a fixed cell's own part: path, chooser, reader, x and tape -/
theorem CP_fx (h : CP ce nx m own fx A B T κ κb κt sp W Wb z μ) {z2 : Tx5} (hfr : ∀ b, b < nx → (own b < 10 ∨ (18 ≤ own b ∧ own b < 24) ∨ own b = 28) → d b = ce b) (hx : XCL d fx (T 0) z2) (hR : RDF d fx) (hC : CHF d fx) (hP : PTF d fx) : CP d nx m own fx A B T κ κb κt sp W Wb z2 μ := by
  obtain ⟨h1, h2, ⟨h3, h4, h5⟩, h6, h7, h8, h9, h10⟩ := h
  have ke : KE own nx own nx := ⟨Nat.le_refl _, fun _ _ => rfl⟩
  have hk : ∀ k, (8 ≤ k ∧ k < 14 ∨ k = 18) → d (fx k) = ce (fx k) := fun k hk => hfr _ (h1.1 k (by omega)).2 (by have := (h1.1 k (by omega)).1; omega)
  exact ⟨h1, hx, ⟨hR, hC, hP⟩, WRL_ke h6 ke (by decide) (fun b hb ht => hfr b hb (by omega)) (hk 8 (by omega)) (hk 9 (by omega)) (hk 10 (by omega)), WRL_ke h7 ke (by decide) (fun b hb ht => hfr b hb (by omega)) (hk 11 (by omega)) (hk 12 (by omega)) (hk 13 (by omega)), TRL_ke h8 ke (fun b hb ht => hfr b hb (by omega)), SPR_ke h9 ke (fun b hb ht => hfr b hb (by omega)) (hk 18 (by omega)), wr_keep h10 (fun i hi => hfr _ (by have := h1.2.2; omega) (by have := h1.2.1 i hi; omega))⟩
/-- the row that spares grows -/
theorem CP_sp (h : CP ce nx m own fx A B T κ κb κt sp W Wb z μ) {K S : Nat} {l2 : List Cu} (hr : RowEv ce nx (fx 18) sp.1 sp.2.1 sp.2.2.1 sp.2.2.2 l2 d K S) : ∃ own2 sp2, KE own nx own2 (nx + K) ∧ 6 * sp.2.2.2 + K ≤ 6 * sp2.2.2.2 ∧ 6 * sp.2.2.2 + S ≤ 6 * sp2.2.2.2 ∧ CP d (nx + K) m own2 fx A B T κ κb κt sp2 W Wb z μ := by
  obtain ⟨h1, h2, ⟨h3, h4, h5⟩, h6, h7, h8, ⟨⟨t1, t2, t3⟩, ⟨l1, l2', l3⟩, s4, l, s5⟩, h10⟩ := h
  obtain ⟨f2, g2, s2, cap2, r1, r2, r3, r4, r5, r6, r7, r8⟩ := hr
  have ke : KE own nx (fun b => if b < nx then own b else 4) (nx + K) := ⟨by omega, fun b hb => if_pos hb⟩
  have hf : ∀ b, b < nx → own b ≠ 4 → own b ≠ 28 → d b = ce b := fun b hb ht hu => r8 b (fun e => hu (by rw [e]; exact (h1.1 18 (by omega)).1)) (fun e => ht (by rw [e]; exact t1)) (fun e => ht (by rw [e]; exact t2)) (fun e => ht (by rw [e]; exact t3)) hb
  have hx : ∀ k, k < 18 → d (fx k) = ce (fx k) := fun k hk => hf _ (h1.1 k (by omega)).2 (by have := (h1.1 k (by omega)).1; omega) (by have := (h1.1 k (by omega)).1; omega)
  have hx9 : d (fx 19) = ce (fx 19) := hf _ (h1.1 19 (by omega)).2 (by have := (h1.1 19 (by omega)).1; omega) (by have := (h1.1 19 (by omega)).1; omega)
  have tag : ∀ a b, b < nx → own b = 4 → (a = b ∨ (nx ≤ a ∧ a < nx + K)) → (if a < nx then own a else 4) = 4 ∧ a < nx + K := by
    intro a b hb ho ha
    rcases ha with e | e
    · subst e
      exact ⟨by rw [if_pos hb]; exact ho, by omega⟩
    · exact ⟨by rw [if_neg (by omega)], e.2⟩
  refine ⟨_, (f2, g2, s2, cap2), ke, r6, r7, OWF_ke h1 ke, XCL_fr h2 (hx 0 (by omega)) (hx 1 (by omega)), ⟨RDF_fr h3 (fun k _ _ => hx k (by omega)), CHF_fr h4 (hx 14 (by omega)) (hx 15 (by omega)) (hx 16 (by omega)), PTF_fr h5 (hx 17 (by omega)) hx9⟩, WRL_ke h6 ke (by decide) (fun b hb ht => hf b hb (by omega) (by omega)) (hx 8 (by omega)) (hx 9 (by omega)) (hx 10 (by omega)), WRL_ke h7 ke (by decide) (fun b hb ht => hf b hb (by omega) (by omega)) (hx 11 (by omega)) (hx 12 (by omega)) (hx 13 (by omega)), TRL_ke h8 ke (fun b hb ht => hf b hb (by omega) (by omega)), ⟨⟨(tag f2 _ l1 t1 r3).1, (tag g2 _ l2' t2 r4).1, (tag s2 _ l3 t3 r5).1⟩, ⟨(tag f2 _ l1 t1 r3).2, (tag g2 _ l2' t2 r4).2, (tag s2 _ l3 t3 r5).2⟩, r2, _, r1⟩, wr_keep h10 (fun i hi => hf _ (by have := h1.2.2; omega) (by have := h1.2.1 i hi; omega) (by have := h1.2.1 i hi; omega))⟩
end
