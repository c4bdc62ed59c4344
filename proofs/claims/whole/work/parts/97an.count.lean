/-! THE WHOLE: the reference's side, counts, costs; remember -/
def TXs (μ : MS) (l : List Mv) : Prop := ∀ p M, l[p]? = some M → ∃ L i0 na Af nf, M = txM L i0 na Af nf ∧ TX μ p L i0 na Af nf ∧ (1 ≤ L ∧ L < 7) ∧ 1 ≤ na ∧ na ≤ 4
def KQ (μ ν : MS) : Prop := (∀ r, (r = 1 ∨ r = 4 ∨ r = 6) → ν.1 r = μ.1 r) ∧ ν.2.1 5 = μ.2.1 5 ∧ ν.2.2.1 3 = μ.2.2.1 3 ∧ ∀ r, r < 3 → ν.2.2.2 r = μ.2.2.2 r
def REF (μ : MS) (W Wb : Wv) (z : Tx5) : Prop := AR (μ.1 0) (μ.2.2.1 2) W ∧ AR (μ.1 1) (μ.2.2.1 3) Wb ∧ TXs μ W.1 ∧ (μ.2.2.2 0 = nI z.1 ∧ z.1 ≤ 300 ∧ Tap z.2.1 (μ.1 6) z.1) ∧ FltR μ z.2.2.1 z.2.2.2.1 z.2.2.2.2 ∧ ∃ r, W.1 = Wb.1 ++ r
theorem KQ_w {μ ν : MS} (h : KW μ ν) : KQ μ ν := ⟨fun r hr => h.1 r (by omega), h.2.1, h.2.2.1, h.2.2.2.2⟩
theorem KQ_t {μ ν : MS} (h : KT μ ν) : KQ μ ν := ⟨h.2.1, h.2.2.1, h.2.2.2.2.1, h.2.2.2.2.2⟩
theorem KQ_p {μ ν : MS} (h : Kp μ ν) : KQ μ ν := KQ_w (Kp_KW h)
theorem KQ_j {μ ν : MS} (h : KJ μ ν) : KQ μ ν := KQ_p (KJ_Kp h)
theorem KQ_y {μ ν : MS} (h : KY μ ν) : KQ μ ν := ⟨fun r hr => h.1 r (by omega), by rw [h.2.1], by rw [h.2.2.1], fun r hr => h.2.2.2 r (by omega)⟩
theorem KQ_trans {μ ν ρ : MS} (h : KQ μ ν) (g : KQ ν ρ) : KQ μ ρ := ⟨fun r hr => (g.1 r hr).trans (h.1 r hr), g.2.1.trans h.2.1, g.2.2.1.trans h.2.2.1, fun r hr => (g.2.2.2 r hr).trans (h.2.2.2 r hr)⟩
theorem TXs_of {μ ν : MS} {l : List Mv} (h : TXs μ l) (h4 : ν.1 4 = μ.1 4) (h5 : ν.2.1 5 = μ.2.1 5) : TXs ν l := by
  intro p M hM
  obtain ⟨L, i0, na, Af, nf, a1, a2, a3⟩ := h p M hM
  refine ⟨L, i0, na, Af, nf, a1, ?_, a3⟩
  unfold TX at a2 ⊢
  rw [h4, h5]
  exact a2
theorem FltR_of {μ ν : MS} {any lf lp : Int32} (h : FltR μ any lf lp) (h1 : ν.2.2.2 1 = μ.2.2.2 1) (h2 : ν.2.2.2 2 = μ.2.2.2 2) : FltR ν any lf lp := by
  unfold FltR at h ⊢
  rw [h1, h2]
  exact h
theorem REF_kq {μ ν : MS} {W W2 Wb : Wv} {z : Tx5} (h : REF μ W Wb z) (k : KQ μ ν) (ha : AR (ν.1 0) (ν.2.2.1 2) W2) (hw : W2.1 = W.1) : REF ν W2 Wb z := by
  obtain ⟨h1, h2, h3, ⟨h4, h5, h6⟩, h7, h8⟩ := h
  obtain ⟨k1, k2, k3, k4⟩ := k
  refine ⟨ha, ?_, ?_, ⟨(k4 0 (by omega)).trans h4, h5, ?_⟩, FltR_of h7 (k4 1 (by omega)) (k4 2 (by omega)), ?_⟩
  · rw [k1 1 (by omega), k3]
    exact h2
  · rw [hw]
    exact TXs_of h3 (k1 4 (by omega)) k2
  · rw [k1 6 (by omega)]
    exact h6
  · rw [hw]
    exact h8
theorem REF_RV {μ : MS} {W Wb : Wv} {z : Tx5} (h : REF μ W Wb z) : RV μ W.2.2 := h.1.2.2.2.2.1
def CNT (c q : Nat) (W Wb : Wv) : Prop := c ≤ q ∧ q ≤ 512 ∧ ∀ V, (V = W.2.2 ∨ V ∈ W.2.1 ∨ V = Wb.2.2 ∨ V ∈ Wb.2.1) → IV c V ∧ NI (500 * q) V.2.1
def bud (q c : Nat) : Nat := (q - c) * (10060 + 12 * c) + 4400 * c
theorem bud_other {q c : Nat} (h : c ≤ q) : bud (q + 1) c = bud q c + (10060 + 12 * c) := by
  unfold bud
  rw [show q + 1 - c = (q - c) + 1 by omega, Nat.succ_mul]
  omega
theorem bud_bar {q c : Nat} (h : c ≤ q) : bud q c + 4400 ≤ bud (q + 1) (c + 1) := by
  unfold bud
  rw [show q + 1 - (c + 1) = q - c by omega]
  have : (q - c) * (10060 + 12 * c) ≤ (q - c) * (10060 + 12 * (c + 1)) := Nat.mul_le_mul_left _ (by omega)
  omega
theorem bud_512 : ∀ c, c < 513 → (512 - c) * (10060 + 12 * c) + 4400 * c ≤ 5200000 := by decide +kernel
theorem bud_le {q c : Nat} (h : c ≤ q) (hq : q ≤ 512) : bud q c ≤ 5200000 := by
  have h1 := bud_512 c (by omega)
  have h2 : (q - c) * (10060 + 12 * c) ≤ (512 - c) * (10060 + 12 * c) := Nat.mul_le_mul_right _ (by omega)
  unfold bud
  omega
def CST (c q K S : Nat) (κ κb κt : Nat × Nat × Nat) (cap : Nat) : Prop := K ≤ 1000 + 100 * q + (Phi κ + Phi κb + Phi κt + 6 * cap) ∧ S ≤ 400000 + bud q c + (Phi κ + Phi κb + Phi κt + 6 * cap)
def GI (nx : Nat) (ce : Ce) (m : Nat) (fx : Nat → Nat) (q K S : Nat) : Prop := ∃ own A B T κ κb κt sp W Wb z μ c, CP ce nx m own fx A B T κ κb κt sp W Wb z μ ∧ REF μ W Wb z ∧ CNT c q W Wb ∧ CST c q K S κ κb κt sp.2.2.2
theorem CNT_next {c q : Nat} {W Wb : Wv} (h : CNT c q W Wb) (hq : q < 512) : CNT c (q + 1) W Wb := ⟨by have := h.1; omega, hq, fun V hV => ⟨(h.2.2 V hV).1, NI_mono (h.2.2 V hV).2 (by omega)⟩⟩
theorem mem_push {l : List Sv} {U V : Sv} (h : V ∈ pushP l U) : V ∈ l ∨ V = U := by
  unfold pushP at h
  rcases List.mem_append.mp h with h | h
  · left
    split at h
    · exact List.mem_of_mem_drop h
    · exact h
  · right
    exact List.mem_singleton.mp h
theorem CNT_set {c c2 q : Nat} {W Wb : Wv} {V2 : Sv} (h : CNT c q W Wb) (hq : q < 512) (hc : c ≤ c2) (hc2 : c2 ≤ q + 1) (hi : IV c2 V2) (hn : NI (500 * (q + 1)) V2.2.1) : CNT c2 (q + 1) (W.1, pushP W.2.1 W.2.2, V2) Wb := by
  refine ⟨hc2, hq, fun V hV => ?_⟩
  have old : ∀ V, (V = W.2.2 ∨ V ∈ W.2.1 ∨ V = Wb.2.2 ∨ V ∈ Wb.2.1) → IV c2 V ∧ NI (500 * (q + 1)) V.2.1 := fun V hV => ⟨IV_mono (h.2.2 V hV).1 hc (by omega), NI_mono (h.2.2 V hV).2 (by omega)⟩
  rcases hV with e | e | e
  · have e : V = V2 := e
    rw [e]
    exact ⟨hi, hn⟩
  · rcases mem_push e with e | e
    · exact old V (Or.inr (Or.inl e))
    · exact old V (Or.inl e)
  · exact old V (Or.inr (Or.inr e))
theorem CST_other {c q K S k s : Nat} {κ κb κt κ2 κb2 κt2 : Nat × Nat × Nat} {cap cap2 : Nat} (h : CST c q K S κ κb κt cap) (hc : c ≤ q) (hk : Phi κ + Phi κb + Phi κt + 6 * cap + k ≤ Phi κ2 + Phi κb2 + Phi κt2 + 6 * cap2 + 100) (hs : Phi κ + Phi κb + Phi κt + 6 * cap + s ≤ Phi κ2 + Phi κb2 + Phi κt2 + 6 * cap2 + (10060 + 12 * c)) : CST c (q + 1) (K + k) (S + s) κ2 κb2 κt2 cap2 := by
  obtain ⟨h1, h2⟩ := h
  refine ⟨by omega, ?_⟩
  rw [bud_other hc]
  omega
theorem CST_bar {c q K S k s : Nat} {κ κb κt κ2 κb2 κt2 : Nat × Nat × Nat} {cap cap2 : Nat} (h : CST c q K S κ κb κt cap) (hc : c ≤ q) (hk : Phi κ + Phi κb + Phi κt + 6 * cap + k ≤ Phi κ2 + Phi κb2 + Phi κt2 + 6 * cap2 + 100) (hs : Phi κ + Phi κb + Phi κt + 6 * cap + s ≤ Phi κ2 + Phi κb2 + Phi κt2 + 6 * cap2 + 4400) : CST (c + 1) (q + 1) (K + k) (S + s) κ2 κb2 κt2 cap2 := by
  obtain ⟨h1, h2⟩ := h
  have := bud_bar hc
  exact ⟨by omega, by omega⟩
theorem GI_next {nx : Nat} {ce : Ce} {m : Nat} {fx : Nat → Nat} {q K S : Nat} (h : GI nx ce m fx q K S) (hq : q < 512) : GI nx ce m fx (q + 1) K S := by
  obtain ⟨own, A, B, T, κ, κb, κt, sp, W, Wb, z, μ, c, h1, h2, h3, h4⟩ := h
  exact ⟨own, A, B, T, κ, κb, κt, sp, W, Wb, z, μ, c, h1, h2, CNT_next h3 hq, CST_other (k := 0) (s := 0) h4 h3.1 (by omega) (by omega)⟩
section
variable {ce d : Ce} {nx nx2 m : Nat} {own own2 fx A B T A2 T2 : Nat → Nat} {κ κb κt κ2 : Nat × Nat × Nat} {sp : Nat × Nat × Nat × Nat} {W Wb : Wv} {z : Tx5} {μ : MS}
theorem fx_ne (h : OWF own fx nx m) {i j : Nat} (hi : i < 20) (hj : j < 20) (e : i ≠ j) : fx i ≠ fx j := fun he => e (by
  have h1 := (h.1 i hi).1
  have h2 := (h.1 j hj).1
  rw [he] at h1
  omega)
theorem fx_off (h : OWF own fx nx m) {k : Nat} (hA : Tg own A k) (hk : k < 10) {i : Nat} (hi : i < 20) : Off A (fx i) := fun j hj e => by
  have h1 := (h.1 i hi).1
  have h2 := hA j hj
  rw [e, h2] at h1
  omega
theorem fx_z (h : OWF own fx nx m) {b i : Nat} (hi : i < 20) (hb : Zo own nx b) : b ≠ fx i := fun e => by
  have h1 := (h.1 i hi).1
  have h2 := hb.2
  rw [e] at h2
  omega
theorem Tg_dis {k l : Nat} (hA : Tg own A k) (hB : Tg own B l) (e : k ≠ l) : ∀ i, i < 13 → ∀ j, j < 13 → A i ≠ B j := fun i hi j hj he => e (by rw [← hA i hi, ← hB j hj, he])
theorem g_rem0 (h : CP ce nx m own fx A B T κ κb κt sp W Wb z μ) {c : Nat} (hi : IV c W.2.2) : Ok (m_X10_remember nx ce (fx 8)) (fun q => (∀ b, b < nx → own b ≠ 18 → own b ≠ 20 → q.2.1 b = ce b) ∧ q.2.2.1 ≤ 20 ∧ q.2.2.2 ≤ 2548 + 3 * c ∧ ∃ own2, KE own nx own2 (nx + q.2.2.1) ∧ CP q.2.1 (nx + q.2.2.1) m own2 fx A B T κ κb κt sp (W.1, pushP W.2.1 W.2.2, W.2.2) Wb z μ) := by
  obtain ⟨h1, h2, ⟨h3, h4, h5⟩, ⟨w1, tp, pp, w2, w3, w4, w5⟩, h7, h8, h9, h10⟩ := h
  have hlA := (ss_lt w3.1).1
  have hb := bcost_le hi (0, 0, 0)
  have hob := IV_obl hi
  refine ok_mono (cx_remember w2 w3 w5 (Tg_liv w1 (by decide)) (fun b hb => ⟨fx_z h1 (by omega) hb, fx_z h1 (by omega) hb⟩) ⟨(h1.1 8 (by omega)).2, (h1.1 9 (by omega)).2, (h1.1 10 (by omega)).2⟩ ⟨fx_ne h1 (by omega) (by omega) (by omega), fx_ne h1 (by omega) (by omega) (by omega), fx_ne h1 (by omega) (by omega) (by omega)⟩ ⟨fx_off h1 w1 (by omega) (by omega), fx_off h1 w1 (by omega) (by omega), fx_off h1 w1 (by omega) (by omega)⟩ (by omega)) (fun q hq => ?_)
  obtain ⟨q1, q2, pp2, q3, q4, q5⟩ := hq
  have ke : KE own nx (fun b => if b < nx then own b else 0) (nx + q.2.2.1) := ⟨by omega, fun b hb => if_pos hb⟩
  have hf : ∀ b, b < nx → own b ≠ 18 → own b ≠ 20 → q.2.1 b = ce b := fun b hb ht hu => q5 b hb (fun e => ht (by rw [e]; exact (h1.1 8 (by omega)).1)) (fun e => hu (by rw [e]; exact (h1.1 10 (by omega)).1))
  have hx : ∀ k, k < 20 → k ≠ 8 → k ≠ 10 → q.2.1 (fx k) = ce (fx k) := fun k hk n1 n2 => hf _ (h1.1 k hk).2 (by have := (h1.1 k hk).1; omega) (by have := (h1.1 k hk).1; omega)
  refine ⟨hf, q1, by omega, _, ke, OWF_ke h1 ke, XCL_fr h2 (hx 0 (by omega) (by omega) (by omega)) (hx 1 (by omega) (by omega) (by omega)), ⟨RDF_fr h3 (fun k _ _ => hx k (by omega) (by omega) (by omega)), CHF_fr h4 (hx 14 (by omega) (by omega) (by omega)) (hx 15 (by omega) (by omega) (by omega)) (hx 16 (by omega) (by omega) (by omega)), PTF_fr h5 (hx 17 (by omega) (by omega) (by omega)) (hx 19 (by omega) (by omega) (by omega))⟩, ⟨fun i hi => ?_, tp, pp2, q3, ?_, ?_, ?_⟩, WRL_ke h7 ke (by decide) (fun b hb ht => hf b hb (by omega) (by omega)) (hx 11 (by omega) (by omega) (by omega)) (hx 12 (by omega) (by omega) (by omega)) (hx 13 (by omega) (by omega) (by omega)), TRL_ke h8 ke (fun b hb ht => hf b hb (by omega) (by omega)), SPR_ke h9 ke (fun b hb ht => hf b hb (by omega) (by omega)) (hx 18 (by omega) (by omega) (by omega)), wr_keep h10 (fun i hi => hf _ (by have := h1.2.2; omega) (by have := h1.2.1 i hi; omega) (by have := h1.2.1 i hi; omega))⟩
  · show (if A i < nx then own (A i) else 0) = 1
    rw [if_pos (hlA i hi)]
    exact w1 i hi
  · exact SZ_congr w3 (fun b hb => ⟨by have := hb.1; omega, (Tg_liv (nx := nx) w1 (by decide) b hb).2⟩) (fun i hi => hf _ (hlA i hi) (by have := w1 i hi; omega) (by have := w1 i hi; omega)) (fun b hb => hf b hb.1 (by have := hb.2; omega) (by have := hb.2; omega)) (by omega) (Zo_ke ke)
  · exact TP_congr w4 (fun b hb => hf b hb.1 (by have := hb.2; omega) (by have := hb.2; omega)) (Zo_ke ke)
  · refine PP_congr q4 (fun b hb => ?_) (fun _ _ => rfl) (Nat.le_refl _) (fun b hb => ?_)
    · rcases hb with hb | hb
      · have := hb.1
        omega
      · exact hb.2
    · rcases hb with hb | hb
      · exact Zo_ke ke b hb
      · exact ⟨hb.2, if_neg (by omega)⟩
theorem g_rem (h : CP ce nx m own fx A B T κ κb κt sp W Wb z μ) {c : Nat} (hi : IV c W.2.2) : Ok (m_X10_remember nx ce (fx 8)) (fun q => q.2.2.1 ≤ 20 ∧ q.2.2.2 ≤ 2548 + 3 * c ∧ ∃ own2, KE own nx own2 (nx + q.2.2.1) ∧ CP q.2.1 (nx + q.2.2.1) m own2 fx A B T κ κb κt sp (W.1, pushP W.2.1 W.2.2, W.2.2) Wb z μ) := ok_mono (g_rem0 h hi) (fun _ hq => hq.2)
end
