/-! TOKENS: the reference takes one: runs, words -/
theorem wr_n10 (c : Ce) (m : Nat) (μ : MS) (v : Int32) : pV (wr c m μ) 9 10 m (.int v) = some (wr c m (muN μ 3 v)) := wr_s10 c m μ v
theorem wr_n11 (c : Ce) (m : Nat) (μ : MS) (v : Int32) : pV (wr c m μ) 9 11 m (.int v) = some (wr c m (muN μ 4 v)) := wr_s11 c m μ v
theorem wr_n12 (c : Ce) (m : Nat) (μ : MS) (v : Int32) : pV (wr c m μ) 9 12 m (.int v) = some (wr c m (muN μ 5 v)) := wr_s12 c m μ v
theorem wr_n13 (c : Ce) (m : Nat) (μ : MS) (v : Int32) : pV (wr c m μ) 9 13 m (.int v) = some (wr c m (muN μ 6 v)) := wr_s13 c m μ v
theorem wr_n16 (c : Ce) (m : Nat) (μ : MS) (v : Int32) : pV (wr c m μ) 9 16 m (.int v) = some (wr c m (muN μ 7 v)) := wr_s16 c m μ v
theorem wr_n17 (c : Ce) (m : Nat) (μ : MS) (v : Int32) : pV (wr c m μ) 9 17 m (.int v) = some (wr c m (muN μ 8 v)) := wr_s17 c m μ v
theorem wr_n18 (c : Ce) (m : Nat) (μ : MS) (v : Int32) : pV (wr c m μ) 9 18 m (.int v) = some (wr c m (muN μ 9 v)) := wr_s18 c m μ v
theorem wr_n19 (c : Ce) (m : Nat) (μ : MS) (v : Int32) : pV (wr c m μ) 9 19 m (.int v) = some (wr c m (muN μ 10 v)) := wr_s19 c m μ v
theorem wr_n22 (c : Ce) (m : Nat) (μ : MS) (v : Int32) : pV (wr c m μ) 9 22 m (.int v) = some (wr c m (muN μ 13 v)) := wr_s22 c m μ v
theorem mn_e (μ : MS) (r : Nat) (v : Int32) : (muN μ r v).2.2.2 r = v := up_e _ _ _
theorem mn_n (μ : MS) {r s : Nat} (v : Int32) (h : s ≠ r) : (muN μ r v).2.2.2 s = μ.2.2.2 s := up_n _ _ _ h
theorem nI_sb {a b : Nat} (h : b ≤ a) : nI a - nI b = nI (a - b) := by
  have e := nI_add (a - b) b
  rw [Nat.sub_add_cancel h] at e
  rw [← e, Int32.add_sub_cancel]
/-- all but the token is kept -/
def KN (μ ν : MS) : Prop := ν.1 = μ.1 ∧ ν.2.1 = μ.2.1 ∧ ν.2.2.1 = μ.2.2.1 ∧ ∀ r, (r < 3 ∨ 6 < r) → ν.2.2.2 r = μ.2.2.2 r
theorem KN_refl (μ : MS) : KN μ μ := ⟨rfl, rfl, rfl, fun _ _ => rfl⟩
theorem KN_trans {μ ν ρ : MS} (h : KN μ ν) (g : KN ν ρ) : KN μ ρ := ⟨g.1.trans h.1, g.2.1.trans h.2.1, g.2.2.1.trans h.2.2.1, fun r hr => (g.2.2.2 r hr).trans (h.2.2.2 r hr)⟩
theorem KN_n (μ : MS) {r : Nat} (v : Int32) (h1 : 3 ≤ r) (h2 : r ≤ 6) : KN μ (muN μ r v) := ⟨rfl, rfl, rfl, fun s hs => mn_n μ v (by omega)⟩
def Byt (μ : MS) (n : Nat) (f : Nat → Nat) : Prop := μ.2.2.2 0 = nI n ∧ n ≤ 300 ∧ ∀ j, j < n → μ.1 6 j = nI (f j) ∧ f j < 256
theorem Byt_k {μ ν : MS} {n : Nat} {f : Nat → Nat} (h : Byt μ n f) (k : KN μ ν) : Byt ν n f := ⟨(k.2.2.2 0 (by omega)).trans h.1, h.2.1, fun j hj => by rw [k.1]; exact h.2.2 j hj⟩
theorem sr_bt (c : Ce) (m : Nat) {μ : MS} {n k : Nat} {f : Nat → Nat} (h : Byt μ n f) (hk : k < 2 ^ 31) : m_X12_byteAt (wr c m μ) m (nI k) = some (if k < n then nI (f k) else -1) := by
  rw [sr_byteAt c m h.1 h.2.1 hk]
  by_cases hkn : k < n
  · rw [if_pos hkn, if_pos hkn, (h.2.2 k hkn).1]
  · rw [if_neg hkn, if_neg hkn]
theorem tm_lt {μ : MS} {n k : Nat} {f : Nat → Nat} (h : Byt μ n f) : m_X12_isLetterByte (if k < n then nI (f k) else -1) = some (if k < n ∧ isS (f k) = true then 1 else 0) := by
  by_cases hkn : k < n
  · rw [if_pos hkn, tm_small _ (h.2.2 k hkn).2]
    by_cases hs : isS (f k) = true
    · rw [if_pos hs, if_pos ⟨hkn, hs⟩]
    · rw [if_neg hs, if_neg (fun z => hs z.2)]
  · rw [if_neg hkn, if_neg (fun z => hkn z.1)]
    exact tm_m1.1
theorem tm_fg {μ : MS} {n k : Nat} {f : Nat → Nat} (h : Byt μ n f) : m_X12_isFigure (if k < n then nI (f k) else -1) = some (if k < n ∧ isF (f k) = true then 1 else 0) := by
  by_cases hkn : k < n
  · rw [if_pos hkn, tm_digit _ (h.2.2 k hkn).2]
    by_cases hs : isF (f k) = true
    · rw [if_pos hs, if_pos ⟨hkn, hs⟩]
    · rw [if_neg hs, if_neg (fun z => hs z.2)]
  · rw [if_neg hkn, if_neg (fun z => hkn z.1)]
    exact tm_m1.2
/-- a run of like bytes -/
def rn (p : Nat → Bool) (f : Nat → Nat) (n : Nat) : Nat → Nat → Nat
  | 0, k => k
  | t + 1, k => if k < n ∧ p (f k) = true then rn p f n t (k + 1) else k
theorem rn_in {p : Nat → Bool} {f : Nat → Nat} {n : Nat} : ∀ t k, k ≤ n → k ≤ rn p f n t k ∧ rn p f n t k ≤ n := by
  intro t
  induction t with
  | zero => intro k h; exact ⟨Nat.le_refl _, h⟩
  | succ t ih =>
    intro k h
    rw [rn]
    by_cases hb : k < n ∧ p (f k) = true
    · rw [if_pos hb]
      have := ih (k + 1) (by omega)
      exact ⟨by omega, this.2⟩
    · rw [if_neg hb]
      exact ⟨Nat.le_refl _, h⟩
theorem rn_end {p : Nat → Bool} {f : Nat → Nat} {n : Nat} : ∀ t k, n - k ≤ t → k ≤ n → ¬ (rn p f n t k < n ∧ p (f (rn p f n t k)) = true) := by
  intro t
  induction t with
  | zero =>
    intro k h1 h2
    rw [rn]
    omega
  | succ t ih =>
    intro k h1 h2
    rw [rn]
    by_cases hb : k < n ∧ p (f k) = true
    · rw [if_pos hb]
      exact ih (k + 1) (by omega) (by omega)
    · rw [if_neg hb]
      exact hb
theorem rn_mid {p : Nat → Bool} {f : Nat → Nat} {n : Nat} : ∀ t k j, k ≤ j → j < rn p f n t k → j < n ∧ p (f j) = true := by
  intro t
  induction t with
  | zero =>
    intro k j h1 h2
    rw [rn] at h2
    omega
  | succ t ih =>
    intro k j h1 h2
    rw [rn] at h2
    by_cases hb : k < n ∧ p (f k) = true
    · rw [if_pos hb] at h2
      by_cases e : j = k
      · rw [e]
        exact hb
      · exact ih (k + 1) j (by omega) h2
    · rw [if_neg hb] at h2
      omega
theorem rn_pos {p : Nat → Bool} {f : Nat → Nat} {n k : Nat} (hk : k < n) (hp : p (f k) = true) : k < rn p f n (n - k) k := by
  obtain ⟨t, ht⟩ : ∃ t, n - k = t + 1 := ⟨n - k - 1, by omega⟩
  rw [ht, rn, if_pos ⟨hk, hp⟩]
  have := (rn_in (p := p) (f := f) (n := n) t (k + 1) (by omega)).1
  omega
theorem sr_letters (c : Ce) (m : Nat) {μ : MS} {n k : Nat} {f : Nat → Nat} (hB : Byt μ n f) (hk : μ.2.2.2 3 = nI k) (hkn : k ≤ n) : Ok (it (fun (zs16 : Unit × Ce) =>
          (gI zs16.2 9 10 m).bind fun zx24 =>
          (rcv zs16.2 9 m).bind fun zz25 =>
          (m_X12_byteAt zs16.2 m zx24).bind fun zx26 =>
          (m_X12_isLetterByte zx26).bind fun zx27 =>
          if zx27 = 0 then
            some (Sum.inr ((), zs16.2))
          else
            (gI zs16.2 9 10 m).bind fun zx28 =>
            (pV zs16.2 9 10 m (.int (zx28 + (1 : Int32)))).bind fun zc29 =>
            some (Sum.inl ((), zc29))
        ) FU ((), wr c m μ)) (fun o => ∃ ν, o.2 = wr c m ν ∧ KN μ ν ∧ ν.2.2.2 4 = μ.2.2.2 4 ∧ ν.2.2.2 3 = nI (rn isS f n (n - k) k)) := by
  have hn := hB.2.1
  obtain ⟨s1, s2⟩ := rn_in (p := isS) (f := f) (n := n) (n - k) k hkn
  have s3 := rn_end (p := isS) (f := f) (n - k) k (Nat.le_refl _) hkn
  have s4 := rn_mid (p := isS) (f := f) (n := n) (n - k) k
  generalize rn isS f n (n - k) k = e at s1 s2 s3 s4
  refine ok_cnt 0 (e - k) (fun i s => ∃ ν, s.2 = wr c m ν ∧ KN μ ν ∧ ν.2.2.2 4 = μ.2.2.2 4 ∧ ν.2.2.2 3 = nI (k + i)) (by omega) (by omega) ⟨μ, rfl, KN_refl μ, rfl, hk⟩ ?_ ?_
  · rintro i ⟨u, d⟩ hi ⟨ν, hd, q1, q2, q3⟩
    have hd : d = wr c m ν := hd
    subst hd
    show Ok ((gI (wr c m ν) 9 10 m).bind fun zx24 => (rcv (wr c m ν) 9 m).bind fun zz25 => (m_X12_byteAt (wr c m ν) m zx24).bind fun zx26 => (m_X12_isLetterByte zx26).bind fun zx27 => if zx27 = 0 then some (Sum.inr ((), wr c m ν)) else (gI (wr c m ν) 9 10 m).bind fun zx28 => (pV (wr c m ν) 9 10 m (.int (zx28 + (1 : Int32)))).bind fun zc29 => some (Sum.inl ((), zc29))) _
    rw [wr_g10, bind_s, q3, wr_rcv, bind_s, sr_bt c m (Byt_k hB q1) (by omega), bind_s, tm_lt hB, bind_s, if_pos (s4 (k + i) (by omega) (by omega)), if_neg (by decide), bind_s, nI_1, wr_n10, bind_s]
    exact ok_some ⟨_, rfl, KN_trans q1 (KN_n ν _ (by omega) (by omega)), (mn_n ν _ (by decide)).trans q2, mn_e _ _ _⟩
  · rintro ⟨u, d⟩ ⟨ν, hd, q1, q2, q3⟩
    have hd : d = wr c m ν := hd
    rw [show k + (e - k) = e by omega] at q3
    subst hd
    show Ok ((gI (wr c m ν) 9 10 m).bind fun zx24 => (rcv (wr c m ν) 9 m).bind fun zz25 => (m_X12_byteAt (wr c m ν) m zx24).bind fun zx26 => (m_X12_isLetterByte zx26).bind fun zx27 => if zx27 = 0 then some (Sum.inr ((), wr c m ν)) else (gI (wr c m ν) 9 10 m).bind fun zx28 => (pV (wr c m ν) 9 10 m (.int (zx28 + (1 : Int32)))).bind fun zc29 => some (Sum.inl ((), zc29))) _
    rw [wr_g10, bind_s, q3, wr_rcv, bind_s, sr_bt c m (Byt_k hB q1) (by omega), bind_s, tm_lt hB, bind_s, if_neg s3, if_pos rfl]
    exact ok_some ⟨ν, rfl, q1, q2, q3⟩
/-- a number: what the reference holds of it -/
def vR (f : Nat → Nat) (q : Nat) : Nat → Nat
  | 0 => 0
  | i + 1 => if vR f q i ≤ 9999 then 10 * vR f q i + f (q + i) - 48 else vR f q i
theorem vR_le {f : Nat → Nat} {q : Nat} : ∀ i, (∀ j, j < i → isF (f (q + j)) = true) → vR f q i ≤ 99999 := by
  intro i
  induction i with
  | zero => intro _; exact Nat.zero_le _
  | succ i ih =>
    intro h
    have h1 := ih (fun j hj => h j (by omega))
    have h2 := h i (by omega)
    unfold isF at h2
    simp only [Bool.and_eq_true, decide_eq_true_eq] at h2
    rw [vR]
    split <;> omega
theorem sr_figures (c : Ce) (m : Nat) {μ : MS} {n k : Nat} {f : Nat → Nat} (hB : Byt μ n f) (hk : μ.2.2.2 3 = nI k) (hkn : k ≤ n) (h0 : μ.2.2.2 6 = 0) : Ok (it (fun (zs32 : Unit × Ce) =>
        (gI zs32.2 9 10 m).bind fun zx35 =>
        (rcv zs32.2 9 m).bind fun zz36 =>
        (m_X12_byteAt zs32.2 m zx35).bind fun zx37 =>
        (m_X12_isFigure zx37).bind fun zx38 =>
        if zx38 = 0 then
          some (Sum.inr ((), zs32.2))
        else
          (gI zs32.2 9 13 m).bind fun zx39 =>
          (
            if zx39 ≤ (9999 : Int32) then
              (gI zs32.2 9 13 m).bind fun zx44 =>
              (gI zs32.2 9 10 m).bind fun zx45 =>
              (rcv zs32.2 9 m).bind fun zz46 =>
              (m_X12_byteAt zs32.2 m zx45).bind fun zx47 =>
              some ((((10 : Int32) * zx44) + zx47) - (48 : Int32))
            else
              (gI zs32.2 9 13 m).bind fun zx48 =>
              some zx48
          ).bind fun (zj40 : Int32) =>
          (pV zs32.2 9 13 m (.int zj40)).bind fun zc41 =>
          (gI zc41 9 10 m).bind fun zx42 =>
          (pV zc41 9 10 m (.int (zx42 + (1 : Int32)))).bind fun zc43 =>
          some (Sum.inl ((), zc43))
      ) FU ((), wr c m μ)) (fun o => ∃ ν, o.2 = wr c m ν ∧ KN μ ν ∧ ν.2.2.2 4 = μ.2.2.2 4 ∧ ν.2.2.2 5 = μ.2.2.2 5 ∧ ν.2.2.2 3 = nI (rn isF f n (n - k) k) ∧ ν.2.2.2 6 = nI (vR f k (rn isF f n (n - k) k - k))) := by
  have hn := hB.2.1
  obtain ⟨s1, s2⟩ := rn_in (p := isF) (f := f) (n := n) (n - k) k hkn
  have s3 := rn_end (p := isF) (f := f) (n - k) k (Nat.le_refl _) hkn
  have s4 := rn_mid (p := isF) (f := f) (n := n) (n - k) k
  generalize rn isF f n (n - k) k = e at s1 s2 s3 s4
  refine ok_cnt 0 (e - k) (fun i s => ∃ ν, s.2 = wr c m ν ∧ KN μ ν ∧ ν.2.2.2 4 = μ.2.2.2 4 ∧ ν.2.2.2 5 = μ.2.2.2 5 ∧ ν.2.2.2 3 = nI (k + i) ∧ ν.2.2.2 6 = nI (vR f k i)) (by omega) (by omega) ⟨μ, rfl, KN_refl μ, rfl, rfl, hk, h0⟩ ?_ ?_
  · rintro i ⟨u, d⟩ hi ⟨ν, hd, q1, q2, q5, q3, q4⟩
    have hd : d = wr c m ν := hd
    subst hd
    have hb := s4 (k + i) (by omega) (by omega)
    have hv := vR_le (f := f) (q := k) i (fun j hj => (s4 (k + j) (by omega) (by omega)).2)
    have hf := (hB.2.2 (k + i) hb.1).2
    have hd2 := hb.2
    unfold isF at hd2
    simp only [Bool.and_eq_true, decide_eq_true_eq] at hd2
    have hx : (if nI (vR f k i) ≤ (9999 : Int32) then (gI (wr c m ν) 9 13 m).bind fun zx44 => (gI (wr c m ν) 9 10 m).bind fun zx45 => (rcv (wr c m ν) 9 m).bind fun zz46 => (m_X12_byteAt (wr c m ν) m zx45).bind fun zx47 => some ((((10 : Int32) * zx44) + zx47) - (48 : Int32)) else (gI (wr c m ν) 9 13 m).bind fun zx48 => some zx48) = some (nI (vR f k (i + 1))) := by
      rw [show (9999 : Int32) = nI 9999 from rfl, if_le (by omega) (by omega), vR]
      by_cases h9 : vR f k i ≤ 9999
      · rw [if_pos h9, if_pos h9, wr_g13, bind_s, q4, wr_g10, bind_s, q3, wr_rcv, bind_s, sr_bt c m (Byt_k hB q1) (by omega), bind_s, if_pos hb.1]
        rw [show (10 : Int32) = nI 10 from rfl, show (48 : Int32) = nI 48 from rfl, pk_mul, nI_add, nI_sb (by omega)]
      · rw [if_neg h9, if_neg h9, wr_g13, bind_s, q4]
    show Ok ((gI (wr c m ν) 9 10 m).bind fun zx35 => (rcv (wr c m ν) 9 m).bind fun zz36 => (m_X12_byteAt (wr c m ν) m zx35).bind fun zx37 => (m_X12_isFigure zx37).bind fun zx38 => if zx38 = 0 then some (Sum.inr ((), wr c m ν)) else (gI (wr c m ν) 9 13 m).bind fun zx39 => (if zx39 ≤ (9999 : Int32) then (gI (wr c m ν) 9 13 m).bind fun zx44 => (gI (wr c m ν) 9 10 m).bind fun zx45 => (rcv (wr c m ν) 9 m).bind fun zz46 => (m_X12_byteAt (wr c m ν) m zx45).bind fun zx47 => some ((((10 : Int32) * zx44) + zx47) - (48 : Int32)) else (gI (wr c m ν) 9 13 m).bind fun zx48 => some zx48).bind fun (zj40 : Int32) => (pV (wr c m ν) 9 13 m (.int zj40)).bind fun zc41 => (gI zc41 9 10 m).bind fun zx42 => (pV zc41 9 10 m (.int (zx42 + (1 : Int32)))).bind fun zc43 => some (Sum.inl ((), zc43))) _
    rw [wr_g10, bind_s, q3, wr_rcv, bind_s, sr_bt c m (Byt_k hB q1) (by omega), bind_s, tm_fg hB, bind_s, if_pos hb, if_neg (by decide), wr_g13, bind_s, q4]
    rw [wr_g13, wr_g10, wr_rcv, q3, q4] at hx
    rw [hx, bind_s, wr_n13, bind_s, wr_g10, bind_s, mn_n ν _ (by decide), q3, nI_1, wr_n10, bind_s]
    exact ok_some ⟨_, rfl, KN_trans (KN_trans q1 (KN_n ν _ (by omega) (by omega))) (KN_n _ _ (by omega) (by omega)), ((mn_n _ _ (by decide)).trans (mn_n _ _ (by decide))).trans q2, ((mn_n _ _ (by decide)).trans (mn_n _ _ (by decide))).trans q5, mn_e _ _ _, (mn_n _ _ (by decide)).trans (mn_e _ _ _)⟩
  · rintro ⟨u, d⟩ ⟨ν, hd, q1, q2, q5, q3, q4⟩
    have hd : d = wr c m ν := hd
    rw [show k + (e - k) = e by omega] at q3
    subst hd
    show Ok ((gI (wr c m ν) 9 10 m).bind fun zx35 => (rcv (wr c m ν) 9 m).bind fun zz36 => (m_X12_byteAt (wr c m ν) m zx35).bind fun zx37 => (m_X12_isFigure zx37).bind fun zx38 => if zx38 = 0 then some (Sum.inr ((), wr c m ν)) else _) _
    rw [wr_g10, bind_s, q3, wr_rcv, bind_s, sr_bt c m (Byt_k hB q1) (by omega), bind_s, tm_fg hB, bind_s, if_neg s3, if_pos rfl]
    exact ok_some ⟨ν, rfl, q1, q2, q5, q3, q4⟩
