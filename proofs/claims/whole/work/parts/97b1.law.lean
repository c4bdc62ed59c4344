/-! THE LAW: its body, case by case -/
theorem eq_to {α β : Type} {o : Option α} {f : α → Option β} {a : α} {b : Option β} (h1 : o = some a) (h2 : f a = b) : o.bind f = b := by
  rw [h1]
  exact h2
def LQ (nx m : Nat) (fx : Nat → Nat) (q K S : Nat) (s : Int32) (r : (Int32 ⊕ Unit) × Ce × Nat × Nat) : Prop := r.1 = Sum.inl s ∧ GI (nx + r.2.2.1) r.2.1 m fx (q + 1) (K + r.2.2.1) (S + r.2.2.2)
theorem lw_G {nx m : Nat} {fx : Nat → Nat} {q K S : Nat} {s : Int32} {o : Option (Int32 × Ce × Nat × Nat)} {rf : Ce → Option (Int32 × Ce)} {f : Int32 × Ce × Nat × Nat → Option ((Int32 ⊕ Unit) × Ce × Nat × Nat)} (h : GoS nx m fx q K S o rf) (hf : ∀ v d k t e, rcv d 9 m = some () → rf d = some (v, e) → f (v, d, k, t) = some (Sum.inl s, e, 0, 0)) : Ok (adcB o f) (LQ nx m fx q K S s) := by
  obtain ⟨v, d, k, t, e, h1, h2, h3, h4⟩ := h
  refine ok_adcB ⟨_, h1, _, hf v d k t e h2 h3, rfl, ?_⟩
  show GI (nx + (0 + k)) e m fx (q + 1) (K + (0 + k)) (S + (0 + t))
  rw [Nat.zero_add, Nat.zero_add]
  exact h4
theorem GI_r8 {nx : Nat} {ce : Ce} {m : Nat} {fx : Nat → Nat} {q K S : Nat} (h : GI nx ce m fx q K S) : rcv ce 8 (fx 0) = some () := by
  obtain ⟨own, A, B, T, κ, κb, κt, sp, W, Wb, z, μ, c, h1, h2, h3, h4⟩ := h
  exact (CP_XS h1).1
theorem scr_n {L k : Nat} {xs : Nat → Int32} (h : k < L) (hL : L ≤ 3072) : scr L xs (nI k) = some (xs k) := by
  unfold scr
  rw [nI_clamp (by omega), if_neg]
  rintro (z | z)
  · exact nI_pos (by omega) z
  · omega
theorem scr_k {L q : Nat} {xs : Nat → Int32} (k : Nat) (c : Int32) (hc : c = nI k) (h : 6 * q + 6 ≤ L) (hk : k < 6) (hL : L ≤ 3072) : scr L xs (nI (6 * q) + c) = some (xs (6 * q + k)) := by
  rw [hc, nI_add]
  exact scr_n (by omega) hL
theorem lw_go {L q : Nat} (h : 6 * q + 6 ≤ L) (hL : L ≤ 3072) : ¬ (Int32.ofNat L - (6 : Int32)) < nI (6 * q) := by
  have e : Int32.ofNat L - (6 : Int32) = nI (L - 6) := pk_sub (b := 6) (by omega)
  rw [e]
  intro z
  have := (nI_ltI (by omega) (by omega)).mp z
  omega
theorem lw_end {L : Nat} (hL : L ≤ 3072) : (Int32.ofNat L - (6 : Int32)) < nI (6 * (L / 6)) := by
  by_cases h6 : 6 ≤ L
  · have e : Int32.ofNat L - (6 : Int32) = nI (L - 6) := pk_sub (b := 6) (by omega)
    rw [e]
    exact (nI_ltI (by omega) (by omega)).mpr (by omega)
  · have hs : ∀ l, l < 6 → (Int32.ofNat l - (6 : Int32)) < nI (6 * (l / 6)) := by decide
    exact hs L (by omega)
section
variable {L nx : Nat} {xs : Nat → Int32} {fx : Nat → Nat} {zq3 : Unit × Ce × Nat × Nat} {ce : Ce} {q K S : Nat}
set_option maxRecDepth 100000 in
set_option maxHeartbeats 4000000 in
theorem lw_body (hG : GI nx ce ((fx 0 + 1) + zq3.2.2.1) fx q K S) (hq : q < 512) (hL : L ≤ 3072) (h6 : 6 * q + 6 ≤ L) : Ok (m_L_body L xs (fx 0) zq3 nx ce (nI (6 * q))) (LQ nx ((fx 0 + 1) + zq3.2.2.1) fx q K S (nI (6 * q) + (6 : Int32))) := by
  have r8 := GI_r8 hG
  have r9 := GI_rcv hG
  have s0 : scr L xs (nI (6 * q)) = some (xs (6 * q)) := scr_n (by omega) hL
  have s1 : scr L xs (nI (6 * q) + (1 : Int32)) = some (xs (6 * q + 1)) := scr_k 1 _ rfl h6 (by omega) hL
  have s2 : scr L xs (nI (6 * q) + (2 : Int32)) = some (xs (6 * q + 2)) := scr_k 2 _ rfl h6 (by omega) hL
  have s3 : scr L xs (nI (6 * q) + (3 : Int32)) = some (xs (6 * q + 3)) := scr_k 3 _ rfl h6 (by omega) hL
  have s4 : scr L xs (nI (6 * q) + (4 : Int32)) = some (xs (6 * q + 4)) := scr_k 4 _ rfl h6 (by omega) hL
  have s5 : scr L xs (nI (6 * q) + (5 : Int32)) = some (xs (6 * q + 5)) := scr_k 5 _ rfl h6 (by omega) hL
  unfold m_L_body
  refine ok_iteF (lw_go h6 hL) (ok_to s0 ?_)
  refine ok_ite (fun _ => ?_) (fun _ => ?_)
  · obtain ⟨v, d, e, e1, e0, e2, g2⟩ := g_feed hG hq (xs (6 * q + 1)) (xs (6 * q + 2)) (xs (6 * q + 3)) (xs (6 * q + 4)) (xs (6 * q + 5))
    exact ok_to s1 (ok_to s2 (ok_to s3 (ok_to s4 (ok_to s5 (ok_to r8 (ok_to e1 (ok_to s1 (ok_to s2 (ok_to s3 (ok_to s4 (ok_to s5 (ok_to e0 (ok_to e2 (ok_iteT rfl (ok_some ⟨rfl, g2⟩)))))))))))))))
  refine ok_ite (fun _ => ?_) (fun _ => ?_)
  · obtain ⟨v, d, e, e1, e0, e2, g2⟩ := g_end hG hq (xs (6 * q + 1))
    exact ok_to s1 (ok_to r8 (ok_to e1 (ok_to s1 (ok_to e0 (ok_to e2 (ok_iteT rfl (ok_some ⟨rfl, g2⟩)))))))
  refine ok_ite (fun _ => ?_) (fun _ => ?_)
  · exact ok_to r8 (lw_G (g_text hG hq) (fun v d k t e h1 h2 => eq_to h1 (eq_to h2 (if_pos rfl))))
  refine ok_ite (fun _ => ?_) (fun _ => ?_)
  · obtain ⟨v, e1, e2⟩ := g_fault hG (xs (6 * q + 1))
    exact ok_to s1 (ok_to r8 (ok_to e1 (ok_to s1 (ok_to r9 (ok_to e2 (ok_iteT rfl (ok_some ⟨rfl, GI_next hG hq⟩)))))))
  refine ok_ite (fun _ => ?_) (fun _ => ?_)
  · exact ok_to s1 (ok_to r8 (lw_G (g_load hG hq (xs (6 * q + 1))) (fun v d k t e h1 h2 => eq_to s1 (eq_to h1 (eq_to h2 (if_pos rfl))))))
  refine ok_ite (fun _ => ?_) (fun _ => ?_)
  · exact ok_to s1 (ok_to s2 (ok_to r8 (lw_G (g_drawn hG hq (xs (6 * q + 1)) (xs (6 * q + 2))) (fun v d k t e h1 h2 => eq_to s1 (eq_to s2 (eq_to h1 (eq_to h2 (if_pos rfl))))))))
  refine ok_ite (fun _ => ?_) (fun _ => ?_)
  · exact ok_to s1 (ok_to r8 (lw_G (g_aim hG hq (xs (6 * q + 1))) (fun v d k t e h1 h2 => eq_to s1 (eq_to h1 (eq_to h2 (if_pos rfl))))))
  refine ok_ite (fun _ => ?_) (fun _ => ?_)
  · exact ok_to s1 (ok_to r8 (lw_G (g_mode hG hq (xs (6 * q + 1))) (fun v d k t e h1 h2 => eq_to s1 (eq_to h1 (eq_to h2 (if_pos rfl))))))
  refine ok_ite (fun _ => ?_) (fun _ => ?_)
  · exact ok_to s1 (ok_to s2 (ok_to s3 (ok_to r8 (lw_G (g_bar hG hq (xs (6 * q + 1)) (xs (6 * q + 2)) (xs (6 * q + 3))) (fun v d k t e h1 h2 => eq_to s1 (eq_to s2 (eq_to s3 (eq_to h1 (eq_to h2 (if_pos rfl))))))))))
  refine ok_ite (fun _ => ?_) (fun _ => ?_)
  · exact ok_to s1 (ok_to r8 (lw_G (g_step hG hq (xs (6 * q + 1))) (fun v d k t e h1 h2 => eq_to s1 (eq_to h1 (eq_to h2 (if_pos rfl))))))
  refine ok_ite (fun _ => ?_) (fun _ => ?_)
  · exact ok_to r8 (lw_G (g_undo hG hq) (fun v d k t e h1 h2 => eq_to h1 (eq_to h2 (if_pos rfl))))
  refine ok_ite (fun _ => ?_) (fun _ => ?_)
  · obtain ⟨v, e1, e2⟩ := g_is hG (xs (6 * q + 1))
    exact ok_to s1 (ok_to r8 (ok_to e1 (ok_to s1 (ok_to r9 (ok_to e2 (ok_iteT rfl (ok_some ⟨rfl, GI_next hG hq⟩)))))))
  refine ok_ite (fun _ => ?_) (fun _ => ?_)
  · obtain ⟨v, e1, e2⟩ := g_successor hG (xs (6 * q + 1)) (xs (6 * q + 2))
    exact ok_to s1 (ok_to s2 (ok_to r8 (ok_to e1 (ok_to s1 (ok_to s2 (ok_to r9 (ok_to e2 (ok_iteT rfl (ok_some ⟨rfl, GI_next hG hq⟩)))))))))
  refine ok_ite (fun _ => ?_) (fun _ => ?_)
  · obtain ⟨v, e1, e2⟩ := g_leads hG (xs (6 * q + 1)) (xs (6 * q + 2))
    exact ok_to s1 (ok_to s2 (ok_to r8 (ok_to e1 (ok_to s1 (ok_to s2 (ok_to r9 (ok_to e2 (ok_iteT rfl (ok_some ⟨rfl, GI_next hG hq⟩)))))))))
  refine ok_ite (fun _ => ?_) (fun _ => ?_)
  · obtain ⟨v, e1, e2⟩ := g_of hG (xs (6 * q + 1)) (xs (6 * q + 2))
    exact ok_to s1 (ok_to s2 (ok_to r8 (ok_to e1 (ok_to s1 (ok_to s2 (ok_to r9 (ok_to e2 (ok_iteT rfl (ok_some ⟨rfl, GI_next hG hq⟩)))))))))
  refine ok_ite (fun _ => ?_) (fun _ => ?_)
  · obtain ⟨v, e1, e2⟩ := g_within hG (xs (6 * q + 1)) (xs (6 * q + 2))
    exact ok_to s1 (ok_to s2 (ok_to r8 (ok_to e1 (ok_to s1 (ok_to s2 (ok_to r9 (ok_to e2 (ok_iteT rfl (ok_some ⟨rfl, GI_next hG hq⟩)))))))))
  refine ok_ite (fun _ => ?_) (fun _ => ?_)
  · obtain ⟨v, e1, e2⟩ := g_wide hG (xs (6 * q + 1))
    exact ok_to s1 (ok_to r8 (ok_to e1 (ok_to s1 (ok_to r9 (ok_to e2 (ok_iteT rfl (ok_some ⟨rfl, GI_next hG hq⟩)))))))
  refine ok_ite (fun _ => ?_) (fun _ => ?_)
  · obtain ⟨v, e1, e2⟩ := g_bad hG (xs (6 * q + 1))
    exact ok_to s1 (ok_to r8 (ok_to e1 (ok_to s1 (ok_to r9 (ok_to e2 (ok_iteT rfl (ok_some ⟨rfl, GI_next hG hq⟩)))))))
  refine ok_ite (fun _ => ?_) (fun _ => ?_)
  · obtain ⟨v, e1, e2⟩ := g_sought hG (xs (6 * q + 1))
    exact ok_to s1 (ok_to r8 (ok_to e1 (ok_to s1 (ok_to r9 (ok_to e2 (ok_iteT rfl (ok_some ⟨rfl, GI_next hG hq⟩)))))))
  refine ok_ite (fun _ => ?_) (fun _ => ?_)
  · obtain ⟨v, e1, e2⟩ := g_weight hG (xs (6 * q + 1))
    exact ok_to s1 (ok_to r8 (ok_to e1 (ok_to s1 (ok_to r9 (ok_to e2 (ok_iteT rfl (ok_some ⟨rfl, GI_next hG hq⟩)))))))
  refine ok_ite (fun _ => ?_) (fun _ => ?_)
  · obtain ⟨v, e1, e2⟩ := g_cube hG (xs (6 * q + 1)) (xs (6 * q + 2)) (xs (6 * q + 3))
    exact ok_to s1 (ok_to s2 (ok_to s3 (ok_to r8 (ok_to e1 (ok_to s1 (ok_to s2 (ok_to s3 (ok_to r9 (ok_to e2 (ok_iteT rfl (ok_some ⟨rfl, GI_next hG hq⟩)))))))))))
  refine ok_ite (fun _ => ?_) (fun _ => ?_)
  · obtain ⟨v, e1, e2⟩ := g_obligation hG (xs (6 * q + 1)) (xs (6 * q + 2))
    exact ok_to s1 (ok_to s2 (ok_to r8 (ok_to e1 (ok_to s1 (ok_to s2 (ok_to r9 (ok_to e2 (ok_iteT rfl (ok_some ⟨rfl, GI_next hG hq⟩)))))))))
  refine ok_ite (fun _ => ?_) (fun _ => ?_)
  · obtain ⟨v, d, e, e1, e0, e2, g2⟩ := g_trace hG hq (xs (6 * q + 1)) (xs (6 * q + 2))
    exact ok_to s1 (ok_to s2 (ok_to r8 (ok_to e1 (ok_to s1 (ok_to s2 (ok_to e0 (ok_to e2 (ok_iteT rfl (ok_some ⟨rfl, g2⟩)))))))))
  refine ok_ite (fun _ => ?_) (fun _ => ?_)
  · obtain ⟨v, e, e1, e2, g2⟩ := g_fence hG hq (xs (6 * q + 1)) (xs (6 * q + 2))
    exact ok_to s1 (ok_to s2 (ok_to r8 (ok_to e1 (ok_to s1 (ok_to s2 (ok_to r9 (ok_to e2 (ok_iteT rfl (ok_some ⟨rfl, g2⟩)))))))))
  refine ok_ite (fun _ => ?_) (fun _ => ?_)
  · obtain ⟨v, e1, e2⟩ := g_activity hG (xs (6 * q + 1))
    exact ok_to s1 (ok_to r8 (ok_to e1 (ok_to s1 (ok_to r9 (ok_to e2 (ok_iteT rfl (ok_some ⟨rfl, GI_next hG hq⟩)))))))
  refine ok_ite (fun _ => ?_) (fun _ => ?_)
  · obtain ⟨v, e, e1, e2, g2⟩ := g_order hG hq (xs (6 * q + 1))
    exact ok_to s1 (ok_to r8 (ok_to e1 (ok_to s1 (ok_to r9 (ok_to e2 (ok_iteT rfl (ok_some ⟨rfl, g2⟩)))))))
  refine ok_ite (fun _ => ?_) (fun _ => ?_)
  · obtain ⟨v, e1, e2⟩ := g_holds hG (xs (6 * q + 1)) (xs (6 * q + 2)) (xs (6 * q + 3))
    exact ok_to s1 (ok_to s2 (ok_to s3 (ok_to r8 (ok_to e1 (ok_to s1 (ok_to s2 (ok_to s3 (ok_to r9 (ok_to e2 (ok_iteT rfl (ok_some ⟨rfl, GI_next hG hq⟩)))))))))))
  refine ok_ite (fun _ => ?_) (fun _ => ?_)
  · obtain ⟨v, d, e, e1, e0, e2, g2⟩ := g_widened hG hq (xs (6 * q + 1)) (xs (6 * q + 2))
    exact ok_to s1 (ok_to s2 (ok_to r8 (ok_to e1 (ok_to s1 (ok_to s2 (ok_to e0 (ok_to e2 (ok_iteT rfl (ok_some ⟨rfl, g2⟩)))))))))
  refine ok_ite (fun _ => ?_) (fun _ => ?_)
  · obtain ⟨v, e1, e2⟩ := g_ahead hG (xs (6 * q + 1)) (xs (6 * q + 2))
    exact ok_to s1 (ok_to s2 (ok_to r8 (ok_to e1 (ok_to s1 (ok_to s2 (ok_to r9 (ok_to e2 (ok_iteT rfl (ok_some ⟨rfl, GI_next hG hq⟩)))))))))
  refine ok_ite (fun _ => ?_) (fun _ => ?_)
  · obtain ⟨v, e1, e2⟩ := g_distance hG (xs (6 * q + 1))
    exact ok_to s1 (ok_to r8 (ok_to e1 (ok_to s1 (ok_to r9 (ok_to e2 (ok_iteT rfl (ok_some ⟨rfl, GI_next hG hq⟩)))))))
  refine ok_ite (fun _ => ?_) (fun _ => ?_)
  · obtain ⟨v, e1, e2⟩ := g_distanceBy hG (xs (6 * q + 1)) (xs (6 * q + 2))
    exact ok_to s1 (ok_to s2 (ok_to r8 (ok_to e1 (ok_to s1 (ok_to s2 (ok_to r9 (ok_to e2 (ok_iteT rfl (ok_some ⟨rfl, GI_next hG hq⟩)))))))))
  refine ok_ite (fun _ => ?_) (fun _ => ?_)
  · obtain ⟨v, e1, e2⟩ := g_far hG (xs (6 * q + 1))
    exact ok_to s1 (ok_to r8 (ok_to e1 (ok_to s1 (ok_to r9 (ok_to e2 (ok_iteT rfl (ok_some ⟨rfl, GI_next hG hq⟩)))))))
  refine ok_ite (fun _ => ?_) (fun _ => ?_)
  · obtain ⟨v, e1, e2⟩ := g_doomed hG (xs (6 * q + 1))
    exact ok_to s1 (ok_to r8 (ok_to e1 (ok_to s1 (ok_to r9 (ok_to e2 (ok_iteT rfl (ok_some ⟨rfl, GI_next hG hq⟩)))))))
  refine ok_ite (fun _ => ?_) (fun _ => ?_)
  · obtain ⟨v, d, e, e1, e0, e2, g2⟩ := g_shortest hG hq (xs (6 * q + 1)) (xs (6 * q + 2))
    exact ok_to s1 (ok_to s2 (ok_to r8 (ok_to e1 (ok_to s1 (ok_to s2 (ok_to e0 (ok_to e2 (ok_iteT rfl (ok_some ⟨rfl, g2⟩)))))))))
  refine ok_ite (fun _ => ?_) (fun _ => ?_)
  · obtain ⟨v, d, e, e1, e0, e2, g2⟩ := g_detour hG hq
    exact ok_to r8 (ok_to e1 (ok_to e0 (ok_to e2 (ok_iteT rfl (ok_some ⟨rfl, g2⟩)))))
  refine ok_ite (fun _ => ?_) (fun _ => ?_)
  · obtain ⟨v, e1, e2⟩ := g_nearest hG
    exact ok_to r8 (ok_to e1 (ok_to r9 (ok_to e2 (ok_iteT rfl (ok_some ⟨rfl, GI_next hG hq⟩)))))
  refine ok_ite (fun _ => ?_) (fun _ => ?_)
  · obtain ⟨v, e1, e2⟩ := g_reach hG (xs (6 * q + 1))
    exact ok_to s1 (ok_to r8 (ok_to e1 (ok_to s1 (ok_to r9 (ok_to e2 (ok_iteT rfl (ok_some ⟨rfl, GI_next hG hq⟩)))))))
  refine ok_ite (fun _ => ?_) (fun _ => ?_)
  · obtain ⟨v, e1, e2⟩ := g_slack hG (xs (6 * q + 1))
    exact ok_to s1 (ok_to r8 (ok_to e1 (ok_to s1 (ok_to r9 (ok_to e2 (ok_iteT rfl (ok_some ⟨rfl, GI_next hG hq⟩)))))))
  refine ok_ite (fun _ => ?_) (fun _ => ?_)
  · exact ok_to s1 (ok_to s2 (ok_to r8 (lw_G (g_claim hG hq (xs (6 * q + 1)) (xs (6 * q + 2))) (fun v d k t e h1 h2 => eq_to s1 (eq_to s2 (eq_to h1 (eq_to h2 (if_pos rfl))))))))
  refine ok_ite (fun _ => ?_) (fun _ => ?_)
  · exact ok_to r8 (lw_G (g_adopt hG hq) (fun v d k t e h1 h2 => eq_to h1 (eq_to h2 (if_pos rfl))))
  refine ok_ite (fun _ => ?_) (fun _ => ?_)
  · exact ok_to s1 (ok_to r8 (lw_G (g_unclaim hG hq (xs (6 * q + 1))) (fun v d k t e h1 h2 => eq_to s1 (eq_to h1 (eq_to h2 (if_pos rfl))))))
  refine ok_ite (fun _ => ?_) (fun _ => ?_)
  · exact ok_to s1 (ok_to r8 (lw_G (g_loosen hG hq (xs (6 * q + 1))) (fun v d k t e h1 h2 => eq_to s1 (eq_to h1 (eq_to h2 (if_pos rfl))))))
  refine ok_ite (fun _ => ?_) (fun _ => ?_)
  · obtain ⟨v, e1, e2⟩ := g_claimed hG (xs (6 * q + 1)) (xs (6 * q + 2))
    exact ok_to s1 (ok_to s2 (ok_to r8 (ok_to e1 (ok_to s1 (ok_to s2 (ok_to r9 (ok_to e2 (ok_iteT rfl (ok_some ⟨rfl, GI_next hG hq⟩)))))))))
  refine ok_ite (fun _ => ?_) (fun _ => ?_)
  · obtain ⟨v, e, e1, e2, g2⟩ := g_judged hG hq (xs (6 * q + 1))
    exact ok_to s1 (ok_to r8 (ok_to e1 (ok_to s1 (ok_to r9 (ok_to e2 (ok_iteT rfl (ok_some ⟨rfl, g2⟩)))))))
  refine ok_ite (fun _ => ?_) (fun _ => ?_)
  · obtain ⟨v, e, e1, e2, g2⟩ := g_witness hG hq (xs (6 * q + 1))
    exact ok_to s1 (ok_to r8 (ok_to e1 (ok_to s1 (ok_to r9 (ok_to e2 (ok_iteT rfl (ok_some ⟨rfl, g2⟩)))))))
  refine ok_ite (fun _ => ?_) (fun _ => ?_)
  · exact ok_to s1 (ok_to r8 (lw_G (g_spare hG hq (xs (6 * q + 1))) (fun v d k t e h1 h2 => eq_to s1 (eq_to h1 (eq_to h2 (if_pos rfl))))))
  refine ok_ite (fun _ => ?_) (fun _ => ?_)
  · obtain ⟨v, d, e, e1, e0, e2, g2⟩ := (g_fewest2 hG hq (xs (6 * q + 1))).2
    exact ok_to s1 (ok_to r8 (ok_to e1 (ok_to s1 (ok_to e0 (ok_to e2 (ok_iteT rfl (ok_some ⟨rfl, g2⟩)))))))
  refine ok_ite (fun _ => ?_) (fun _ => ?_)
  · obtain ⟨v, d, e, e1, e0, e2, g2⟩ := (g_fewest2 hG hq (xs (6 * q + 1))).1
    exact ok_to s1 (ok_to r8 (ok_to e1 (ok_to s1 (ok_to e0 (ok_to e2 (ok_iteT rfl (ok_some ⟨rfl, g2⟩)))))))
  refine ok_ite (fun _ => ?_) (fun _ => ?_)
  · obtain ⟨v, e, e1, e2, g2⟩ := g_inside hG hq (xs (6 * q + 1))
    exact ok_to s1 (ok_to r8 (ok_to e1 (ok_to s1 (ok_to r9 (ok_to e2 (ok_iteT rfl (ok_some ⟨rfl, g2⟩)))))))
  refine ok_ite (fun _ => ?_) (fun _ => ?_)
  · exact ok_to s1 (ok_to r8 (lw_G (g_foretold hG hq (xs (6 * q + 1))) (fun v d k t e h1 h2 => eq_to s1 (eq_to h1 (eq_to h2 (if_pos rfl))))))
  refine ok_ite (fun _ => ?_) (fun _ => ?_)
  · exact ok_to r8 (lw_G (g_till hG hq) (fun v d k t e h1 h2 => eq_to h1 (eq_to h2 (if_pos rfl))))
  refine ok_ite (fun _ => ?_) (fun _ => ?_)
  · exact ok_to r8 (lw_G (g_quickest hG hq) (fun v d k t e h1 h2 => eq_to h1 (eq_to h2 (if_pos rfl))))
  refine ok_ite (fun _ => ?_) (fun _ => ?_)
  · exact ok_to r8 (lw_G (g_bestMode hG hq) (fun v d k t e h1 h2 => eq_to h1 (eq_to h2 (if_pos rfl))))
  refine ok_ite (fun _ => ?_) (fun _ => ?_)
  · obtain ⟨v, e1, e2⟩ := g_mean hG
    exact ok_to r8 (ok_to e1 (ok_to r9 (ok_to e2 (ok_iteT (lcmp_0.mpr rfl) (ok_some ⟨rfl, GI_next hG hq⟩)))))
  refine ok_ite (fun _ => ?_) (fun _ => ?_)
  · exact ok_to r8 (lw_G (g_image hG hq) (fun v d k t e h1 h2 => eq_to h1 (eq_to h2 (if_pos rfl))))
  refine ok_ite (fun _ => ?_) (fun _ => ?_)
  · exact ok_to r8 (lw_G (g_back hG hq) (fun v d k t e h1 h2 => eq_to h1 (eq_to h2 (if_pos rfl))))
  refine ok_ite (fun _ => ?_) (fun _ => ?_)
  · obtain ⟨v, e1, e2⟩ := g_about hG (xs (6 * q + 1))
    exact ok_to s1 (ok_to r8 (ok_to e1 (ok_to s1 (ok_to r9 (ok_to e2 (ok_iteT rfl (ok_some ⟨rfl, GI_next hG hq⟩)))))))
  exact ok_some ⟨rfl, GI_next hG hq⟩
end
/-- the pure functions of the law come to an end, and the room holds -/
theorem law_pure (L : Nat) (hL : L ≤ 3072) (xs : Nat → Int32) (x : Nat) : Ok (m_L_law L xs x (fun _ => none)) (fun r => r.2.2.1 ≤ 600000 ∧ r.2.2.2 ≤ 7302249) := by
  unfold m_L_law
  refine ok_adcK ?_
  rw [bind_s]
  refine ok_adcB (ok_mono (ini_x x) ?_)
  rintro ⟨u, d3, K3, S3⟩ ⟨k3, s3, hX⟩
  have k3 : K3 = 65 := k3
  have s3 : S3 ≤ 3000 := s3
  have hX : XP d3 x := hX
  subst k3
  refine ok_adcK ?_
  rw [bind_s]
  show Ok (adcB (m_X12_init (x + 1 + 65 + 1) (gx_up d3 (x + 1 + 65) (.inr (9, df_X12))) (x + 1 + 65)) _) _
  obtain ⟨c4, e4, x4, y4⟩ := al_r d3 (x + 1 + 65) (.inr (9, df_X12))
  rw [e4]
  refine ok_adcB (ok_mono (ini_m (m := x + 1 + 65) x4) ?_)
  rintro ⟨u7, d7, K7, S7⟩ ⟨k7, s7, f7, hR⟩
  have k7 : K7 = 17 := k7
  have s7 : S7 = 249172 := s7
  subst k7 s7
  have f7 : ∀ b, (b < x + 66 ∨ x + 66 + 17 < b) → d7 b = c4 b := fun b hb => f7 b (by omega)
  have hR : RfQ d7 (x + 66) := by
    rw [show x + 66 = x + 1 + 65 by omega]
    exact hR
  have hG : GI (x + 84) d7 (x + 66) (fx0 x) 0 84 (13 + S3 + 33 + 249172) := GI_start hX (fun b hb => (f7 b (Or.inl hb)).trans (y4 b (by omega))) hR (by omega)
  have hm : ((fx0 x 0 + 1) + ((u, d3, 65, S3) : Unit × Ce × Nat × Nat).2.2.1) = x + 66 := by
    show x + 0 + 1 + 65 = x + 66
    omega
  show Ok (adcB (itA (m_L_body L xs (fx0 x 0) (u, d3, 65, S3)) FU (x + 1 + 65 + 1 + 17) d7 (0 : Int32)) _) _
  refine ok_adcB (ok_mono (ok_cntA (Q := fun _ _ K S => 84 + K ≤ 600000 ∧ 13 + S3 + 33 + 249172 + S ≤ 7302249) 0 (L / 6) (fun q nx c s K S => s = nI (6 * q) ∧ GI nx c (x + 66) (fx0 x) q (84 + K) (13 + S3 + 33 + 249172 + S)) (by omega) (by omega) ⟨rfl, ?_⟩ ?_ ?_) ?_)
  · rw [show x + 1 + 65 + 1 + 17 = x + 84 by omega]
    exact hG
  · rintro q nx c s K S hq ⟨rfl, hg⟩
    rw [← hm] at hg
    refine ok_mono (lw_body hg (by omega) hL (by omega)) ?_
    rintro ⟨r, e, k, t⟩ ⟨h1, h2⟩
    have h1 : r = Sum.inl (nI (6 * q) + (6 : Int32)) := h1
    subst h1
    rw [hm] at h2
    show nI (6 * q) + (6 : Int32) = nI (6 * (q + 1)) ∧ GI (nx + k) e (x + 66) (fx0 x) (q + 1) (84 + (K + k)) (13 + S3 + 33 + 249172 + (S + t))
    refine ⟨nI_add _ 6, ?_⟩
    rw [← Nat.add_assoc, ← Nat.add_assoc]
    exact h2
  · rintro nx c s K S ⟨rfl, hg⟩
    unfold m_L_body
    rw [if_pos (lw_end hL)]
    exact ok_some (GI_room hg)
  · rintro ⟨o, e, k, t⟩ ⟨h1, h2⟩
    have h1 : 84 + k ≤ 600000 := h1
    have h2 : 13 + S3 + 33 + 249172 + t ≤ 7302249 := h2
    refine ok_some ⟨?_, ?_⟩
    · show 0 + k + 17 + 1 + 65 + 1 ≤ 600000
      omega
    · show 0 + t + 249172 + 33 + S3 + 13 ≤ 7302249
      omega
