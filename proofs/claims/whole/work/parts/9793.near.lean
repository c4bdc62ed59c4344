/-! THE REFERENCE: come, nearing -/
def imgN (M : Mv) (inp : Nat) (x : Int64) (j : Nat) : Int64 := mkS fun t => (List.range j).any fun s => B x s && B (aftN M.2.1 s inp 4) t
abbrev imgF (M : Mv) (inp : Nat) (x : Int64) : Int64 := imgN M inp x (2 ^ M.1)
theorem imgN_s (M : Mv) (inp : Nat) (x : Int64) (j : Nat) {k : Nat} (hk : k < 64) : B (imgN M inp x (j + 1)) k = (B (imgN M inp x j) k || (B x j && B (aftN M.2.1 j inp 4) k)) := by
  unfold imgN
  rw [B_mkS _ hk, B_mkS _ hk, List.range_succ, List.any_append]
  simp
theorem any_or {l : List Nat} {p q r : Nat → Bool} (h : ∀ x, p x = (q x || r x)) : l.any p = (l.any q || l.any r) := by
  induction l with
  | nil => rfl
  | cons a l ih =>
    rw [List.any_cons, List.any_cons, List.any_cons, ih, h a]
    cases q a <;> cases r a <;> cases l.any q <;> cases l.any r <;> rfl
theorem img_Add (M : Mv) (inp : Nat) : Add (imgF M inp) := by
  refine ⟨fun x y => B_ext fun k hk => ?_, B_ext0 fun k hk => ?_⟩
  · unfold imgF imgN
    rw [B_or, B_mkS _ hk, B_mkS _ hk, B_mkS _ hk]
    refine any_or fun s => ?_
    rw [B_or]
    cases B x s <;> cases B y s <;> cases B (aftN M.2.1 s inp 4) k <;> rfl
  · unfold imgF imgN
    rw [B_mkS _ hk, List.any_eq_false]
    intro s _
    rw [B_0]
    simp
theorem bef_Add (M : Mv) : Add (befS M) := by
  refine ⟨fun x y => B_ext fun k hk => ?_, B_ext0 fun k hk => ?_⟩
  · unfold befS befN
    rw [B_or, B_mkS _ hk, B_mkS _ hk, B_mkS _ hk]
    have e := any_or (l := List.range (2 ^ M.1)) (p := fun t => B (x ||| y) t && B (aftN M.2.1 k 15 4) t) (q := fun t => B x t && B (aftN M.2.1 k 15 4) t) (r := fun t => B y t && B (aftN M.2.1 k 15 4) t) (fun t => by
      show (B (x ||| y) t && B (aftN M.2.1 k 15 4) t) = _
      rw [B_or]
      cases B x t <;> cases B y t <;> cases B (aftN M.2.1 k 15 4) t <;> rfl)
    rw [e]
    cases decide (k < 2 ^ M.1) <;> simp
  · unfold befS befN
    rw [B_mkS _ hk]
    have : ((List.range (2 ^ M.1)).any fun t => B 0 t && B (aftN M.2.1 k 15 4) t) = false := by
      rw [List.any_eq_false]
      intro t _
      rw [B_0]
      simp
    rw [this, Bool.and_false]
theorem sr_come1 (c : Ce) (m : Nat) (μ : MS) {M : Mv} (hM : Mac (μ.1 0) M) {inp : Nat} (hi : inp < 2 ^ 31) (x : Int64) : it (fun (zs4 : Int64 × Int32) => (rcv (wr c m μ) 9 m).bind fun _ => (m_X12_states (wr c m μ) m).bind fun zx8 => if zx8 ≤ zs4.2 then some (Sum.inr zs4.1) else (m_X12_has x zs4.2).bind fun zx9 => if zx9 = 0 then some (Sum.inl (zs4.1, (zs4.2 + (1 : Int32)))) else (rcv (wr c m μ) 9 m).bind fun _ => (m_X12_afterBy (wr c m μ) m zs4.2 (nI inp)).bind fun zx11 => some (Sum.inl ((zs4.1 ||| zx11), (zs4.2 + (1 : Int32))))) FU (x, (0 : Int32)) = some (x ||| imgF M inp x) := by
  have hL := hM.2.2.1
  have h64 := p2_64 hL
  refine ok_eq (ok_cnt 0 (2 ^ M.1) (fun j s => s = (x ||| imgN M inp x j, nI j)) (by omega) (Nat.zero_le _) ?_ ?_ ?_)
  · have e : x ||| imgN M inp x 0 = x := by
      refine B_ext fun k hk => ?_
      unfold imgN
      rw [B_or, B_mkS _ hk]
      simp
    rw [e]
    rfl
  · rintro j _ hj rfl
    simp only [wr_rcv, bind_s]
    rw [sr_states c m μ hL hM.1, bind_s, if_le (by omega) (by omega), if_neg (by omega), mh_has _ (by omega : j < 64), bind_s, if_b]
    have stp : x ||| imgN M inp x (j + 1) = if B x j then (x ||| imgN M inp x j) ||| aftN M.2.1 j inp 4 else x ||| imgN M inp x j := by
      refine B_ext fun k hk => ?_
      rw [B_or, imgN_s M inp x j hk]
      cases B x j with
      | true => simp [B_or, Bool.or_assoc]
      | false => simp [B_or]
    cases hb : B x j with
    | true =>
      rw [if_pos rfl, sr_afterBy c m μ hL hM.2.2.2.2.2.2.2.2 hj hi, bind_s]
      refine ok_some ?_
      show (_, nI j + 1) = (_, nI (j + 1))
      rw [nI_1, stp, hb, if_pos rfl]
    | false =>
      rw [if_neg (by decide)]
      refine ok_some ?_
      show (_, nI j + 1) = (_, nI (j + 1))
      rw [nI_1, stp, hb, if_neg (by decide)]
  · rintro _ rfl
    simp only [wr_rcv, bind_s]
    rw [sr_states c m μ hL hM.1, bind_s, if_le (by omega) (by omega), if_pos (Nat.le_refl _)]
    exact ok_some rfl
theorem sr_come (c : Ce) (m : Nat) (μ : MS) {M : Mv} (hM : Mac (μ.1 0) M) {inp k : Nat} (hi : inp < 2 ^ 31) (hk : k < 2 ^ 31) (x : Int64) : m_X12_come (wr c m μ) m x (nI inp) (nI k) = some (clo (imgF M inp) k x) := by
  have hF := img_Add M inp
  refine ok_eq ?_
  unfold m_X12_come
  refine ok_call (P := fun o => Sum.elim (fun w => some w) (fun w => some w) o = some (clo (imgF M inp) k x)) (ok_cnt 0 (min k 64) (fun n s => s = (clo (imgF M inp) n x, nI n)) (by omega) (Nat.zero_le _) rfl ?_ ?_) (fun a h => ok_of h rfl)
  · rintro n _ hn rfl
    rw [if_le (by omega) (by omega), if_neg (by omega)]
    show Ok ((it _ FU (clo (imgF M inp) n x, (0 : Int32))).bind _) _
    refine ok_to (sr_come1 c m μ hM hi (clo (imgF M inp) n x)) ?_
    show Ok (if lg_cmp (clo (imgF M inp) (n + 1) x) (clo (imgF M inp) n x) = 0 then _ else _) _
    by_cases he : clo (imgF M inp) (n + 1) x = clo (imgF M inp) n x
    · rw [if_pos (lcmp_0.mpr he)]
      refine ok_some ?_
      show some (clo (imgF M inp) n x) = some (clo (imgF M inp) k x)
      rw [clo_stop he k (by omega)]
    · rw [if_neg (fun z => he (lcmp_0.mp z))]
      refine ok_some ?_
      show (_, nI n + 1) = (_, nI (n + 1))
      rw [nI_1]
      rfl
  · rintro _ rfl
    rw [if_le hk (by omega)]
    by_cases hk64 : k ≤ min k 64
    · rw [if_pos hk64]
      refine ok_some ?_
      have : min k 64 = k := by omega
      rw [this]
      rfl
    · have h64 : min k 64 = 64 := by omega
      rw [if_neg hk64, h64]
      show Ok ((it _ FU (clo (imgF M inp) 64 x, (0 : Int32))).bind _) _
      refine ok_to (sr_come1 c m μ hM hi (clo (imgF M inp) 64 x)) ?_
      have he : clo (imgF M inp) (64 + 1) x = clo (imgF M inp) 64 x := clo_64 hF x (by omega)
      show Ok (if lg_cmp (clo (imgF M inp) (64 + 1) x) (clo (imgF M inp) 64 x) = 0 then _ else _) _
      rw [if_pos (lcmp_0.mpr he)]
      refine ok_some ?_
      show some (clo (imgF M inp) 64 x) = some (clo (imgF M inp) k x)
      rw [clo_64 hF x (n := k) (by omega)]
theorem sr_stepsTo (c : Ce) (m : Nat) (μ : MS) {M : Mv} (hM : Mac (μ.1 0) M) {inp : Nat} (hi : inp < 2 ^ 31) (g : Int64) : m_X12_stepsTo (wr c m μ) m g (nI inp) = some (oI (fst64 fun n => decide (clo (imgF M inp) n M.2.2.1 &&& g ≠ 0))) := by
  have hst : lset (μ.1 0) 0 = M.2.2.1 := hM.2.2.2.2.2.2.1
  refine ok_eq ?_
  unfold m_X12_stepsTo
  refine ok_call (P := fun o => Sum.elim (fun w => some w) (fun _ => some (-1 : Int32)) o = some (oI (fst64 fun n => decide (clo (imgF M inp) n M.2.2.1 &&& g ≠ 0)))) (ok_cnt 0 64 (fun n s => s = nI n ∧ ∀ j, j < n → clo (imgF M inp) j M.2.2.1 &&& g = 0) (by omega) (by omega) ⟨rfl, fun _ h => by omega⟩ ?_ ?_) (fun a h => ok_of h rfl)
  · rintro n _ hn ⟨rfl, hl⟩
    simp only [wr_rcv, bind_s]
    rw [nl_64, if_le (by omega) (by omega), if_neg (by omega), sr_starts, bind_s, hst, sr_come c m μ hM hi (by omega), bind_s]
    by_cases h0 : clo (imgF M inp) n M.2.2.1 &&& g = 0
    · rw [if_pos (lcmp_0.mpr h0)]
      refine ok_some ⟨nI_1 n, fun j hj => ?_⟩
      by_cases e : j = n
      · rw [e]; exact h0
      · exact hl j (by omega)
    · rw [if_neg (fun z => h0 (lcmp_0.mp z))]
      refine ok_some ?_
      rw [fst_at hn (by simp [h0]) (fun j hj => by simp [hl j hj])]
      rfl
  · rintro _ ⟨rfl, hl⟩
    rw [nl_64, if_le (by omega) (by omega), if_pos (by omega)]
    refine ok_some ?_
    rw [fst_none fun j hj => by simp [hl j hj]]
    rfl
/-! nearing -/
theorem sr_near1 (c : Ce) (m : Nat) (μ : MS) {M : Mv} (hM : Mac (μ.1 0) M) (x : Int64) (hx : ∀ k, k < 64 → 2 ^ M.1 ≤ k → B x k = false) : it (fun (zs6 : Int64 × Int32) => (rcv (wr c m μ) 9 m).bind fun _ => (m_X12_states (wr c m μ) m).bind fun zx10 => if zx10 ≤ zs6.2 then some (Sum.inr zs6.1) else (rcv (wr c m μ) 9 m).bind fun _ => (m_X12_after (wr c m μ) m zs6.2).bind fun zx12 => if (lg_cmp (zx12 &&& x) (0 : Int64)) = 0 then some (Sum.inl (zs6.1, (zs6.2 + (1 : Int32)))) else some (Sum.inl ((zs6.1 ||| ((1 : Int64) <<< (Int32.toInt64 zs6.2 &&& 63))), (zs6.2 + (1 : Int32))))) FU (x, (0 : Int32)) = some (x ||| befS M x) := by
  have hL := hM.2.2.1
  have h64 := p2_64 hL
  have hbef : ∀ k, k < 64 → B (befS M x) k = (decide (k < 2 ^ M.1) && decide (aftN M.2.1 k 15 4 &&& x ≠ 0)) := by
    intro k hk
    unfold befS befN
    rw [B_mkS _ hk]
    congr 1
    by_cases h0 : aftN M.2.1 k 15 4 &&& x = 0
    · have : decide (aftN M.2.1 k 15 4 &&& x ≠ 0) = false := by simp [h0]
      rw [this, List.any_eq_false]
      intro t ht
      have hz : B (aftN M.2.1 k 15 4 &&& x) t = false := by rw [h0, B_0]
      rw [B_and] at hz
      rw [Bool.and_comm, hz]
      decide
    · have : decide (aftN M.2.1 k 15 4 &&& x ≠ 0) = true := by simp [h0]
      rw [this, List.any_eq_true]
      obtain ⟨t, ht, hb⟩ := B_ne0 h0
      rw [B_and, Bool.and_eq_true] at hb
      refine ⟨t, List.mem_range.mpr (Nat.lt_of_not_le fun hle => ?_), by rw [hb.1, hb.2]; rfl⟩
      rw [hx t ht hle] at hb
      exact absurd hb.2 (by decide)
  refine ok_eq (ok_cnt 0 (2 ^ M.1) (fun j s => ∃ y, s = (y, nI j) ∧ ∀ k, k < 64 → B y k = (B x k || (decide (k < j) && B (befS M x) k))) (by omega) (Nat.zero_le _) ⟨x, rfl, fun k _ => by simp⟩ ?_ ?_)
  · rintro j _ hj ⟨y, rfl, hy⟩
    simp only [wr_rcv, bind_s]
    rw [sr_states c m μ hL hM.1, bind_s, if_le (by omega) (by omega), if_neg (by omega), sr_after c m μ hL hM.2.2.2.2.2.2.2.2 hj, bind_s]
    by_cases h0 : aftN M.2.1 j 15 4 &&& x = 0
    · rw [if_pos (lcmp_0.mpr h0)]
      refine ok_some ⟨y, by show (y, nI j + 1) = (y, nI (j + 1)); rw [nI_1], fun k hk => ?_⟩
      rw [hy k hk]
      by_cases e : k = j
      · subst e
        rw [hbef k hk]
        simp [h0]
      · by_cases h1 : k < j
        · have h2 : k < j + 1 := by omega
          simp [h1, h2]
        · have h2 : ¬ k < j + 1 := by omega
          simp [h1, h2]
    · rw [if_neg (fun z => h0 (lcmp_0.mp z))]
      refine ok_some ⟨_, by show (_, nI j + 1) = (_, nI (j + 1)); rw [nI_1], fun k hk => ?_⟩
      show B (y ||| _) k = _
      rw [B_or, hy k hk, B_bit j (by omega) k hk]
      by_cases e : k = j
      · subst e
        rw [hbef k hk]
        simp [h0, hj]
      · by_cases h1 : k < j
        · have h2 : k < j + 1 := by omega
          simp [h1, h2, e]
        · have h2 : ¬ k < j + 1 := by omega
          simp [h1, h2, e]
  · rintro _ ⟨y, rfl, hy⟩
    simp only [wr_rcv, bind_s]
    rw [sr_states c m μ hL hM.1, bind_s, if_le (by omega) (by omega), if_pos (Nat.le_refl _)]
    refine ok_some ?_
    show y = _
    refine B_ext fun k hk => ?_
    rw [hy k hk, B_or]
    by_cases h1 : k < 2 ^ M.1
    · simp [h1]
    · rw [hbef k hk]
      simp [h1]
theorem bef_hi (M : Mv) (x : Int64) {k : Nat} (hk : k < 64) (h : 2 ^ M.1 ≤ k) : B (befS M x) k = false := by
  unfold befS befN
  rw [B_mkS _ hk]
  have : ¬ k < 2 ^ M.1 := by omega
  simp [this]
theorem clo_hi {M : Mv} {x : Int64} (hx : ∀ k, k < 64 → 2 ^ M.1 ≤ k → B x k = false) : ∀ n k, k < 64 → 2 ^ M.1 ≤ k → B (clo (befS M) n x) k = false := by
  intro n
  induction n with
  | zero => exact hx
  | succ n ih =>
    intro k hk hle
    show B (clo (befS M) n x ||| befS M (clo (befS M) n x)) k = false
    rw [B_or, ih k hk hle, bef_hi M _ hk hle]
    rfl
theorem sr_nearing (c : Ce) (m : Nat) (μ : MS) {M : Mv} (hM : Mac (μ.1 0) M) (hw : WM M) {a k : Nat} (ha : a < M.2.2.2.1) (h8 : μ.1 0 8 = nI a) (hk : k < 2 ^ 31) : m_X12_nearing (wr c m μ) m (nI k) = some (clo (befS M) k (M.2.2.2.2 a)) := by
  have hF := bef_Add M
  have hx : ∀ k, k < 64 → 2 ^ M.1 ≤ k → B (M.2.2.2.2 a) k = false := hw.2.2.2.2.2.2 a ha
  have hna : M.2.2.2.1 ≤ 4 := hM.2.2.2.2.2.1
  have ham : lset (μ.1 0) (1 + a) = M.2.2.2.2 a := hM.2.2.2.2.2.2.2.1 a ha
  refine ok_eq ?_
  unfold m_X12_nearing
  simp only [wr_rcv, bind_s]
  rw [sr_aims c m μ (show a < 4 by omega) h8, bind_s, ham]
  generalize M.2.2.2.2 a = x at hx
  refine ok_call (P := fun o => Sum.elim (fun w => some w) (fun w => some w) o = some (clo (befS M) k x)) (ok_cnt 0 (min k 64) (fun n s => s = (clo (befS M) n x, nI n)) (by omega) (Nat.zero_le _) rfl ?_ ?_) (fun a h => ok_of h rfl)
  · rintro n _ hn rfl
    rw [if_le (by omega) (by omega), if_neg (by omega)]
    have h1 := sr_near1 c m μ hM (clo (befS M) n x) (clo_hi hx n)
    simp only [wr_rcv, bind_s] at h1
    refine ok_to h1 ?_
    show Ok (if lg_cmp (clo (befS M) (n + 1) x) (clo (befS M) n x) = 0 then _ else _) _
    by_cases he : clo (befS M) (n + 1) x = clo (befS M) n x
    · rw [if_pos (lcmp_0.mpr he)]
      refine ok_some ?_
      show some (clo (befS M) n x) = some (clo (befS M) k x)
      rw [clo_stop he k (by omega)]
    · rw [if_neg (fun z => he (lcmp_0.mp z))]
      refine ok_some ?_
      show (_, nI n + 1) = (_, nI (n + 1))
      rw [nI_1]
      rfl
  · rintro _ rfl
    rw [if_le hk (by omega)]
    by_cases hk64 : k ≤ min k 64
    · rw [if_pos hk64]
      refine ok_some ?_
      have : min k 64 = k := by omega
      rw [this]
      rfl
    · have h64 : min k 64 = 64 := by omega
      rw [if_neg hk64, h64]
      have h1 := sr_near1 c m μ hM (clo (befS M) 64 x) (clo_hi hx 64)
      simp only [wr_rcv, bind_s] at h1
      refine ok_to h1 ?_
      have he : clo (befS M) (64 + 1) x = clo (befS M) 64 x := clo_64 hF x (by omega)
      show Ok (if lg_cmp (clo (befS M) (64 + 1) x) (clo (befS M) 64 x) = 0 then _ else _) _
      rw [if_pos (lcmp_0.mpr he)]
      refine ok_some ?_
      show some (clo (befS M) 64 x) = some (clo (befS M) k x)
      rw [clo_64 hF x (n := k) (by omega)]
