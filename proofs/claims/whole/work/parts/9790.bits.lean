/-! HOW MANY STATES A SET HAS, as the library counts -/
def rp (m : Nat) : Nat → Nat
  | 0 => 0
  | k + 1 => 256 * rp m k + m
theorem tb_byte (h l j : Nat) (hl : l < 256) : (256 * h + l).testBit j = if j < 8 then l.testBit j else h.testBit (j - 8) := Nat.testBit_two_pow_mul_add (i := 8) h hl j
theorem and_byte {h l H m : Nat} (hl : l < 256) (hm : m < 256) : (256 * h + l) &&& (256 * H + m) = 256 * (h &&& H) + (l &&& m) := by
  refine Nat.eq_of_testBit_eq fun j => ?_
  have hlm : l &&& m < 256 := Nat.and_lt_two_pow (n := 8) _ hm
  rw [Nat.testBit_and, tb_byte _ _ _ hl, tb_byte _ _ _ hm, tb_byte _ _ _ hlm]
  split
  · rw [Nat.testBit_and]
  · rw [Nat.testBit_and]
theorem tb_div (n s j : Nat) : (n / 2 ^ s).testBit j = n.testBit (s + j) := by
  rw [Nat.testBit_div_two_pow, Nat.add_comm]
theorem and_shift {h l H m s : Nat} (hl : l < 256) (hm : m < 256) (hms : m < 2 ^ (8 - s)) (hs : s ≤ 8) : ((256 * h + l) / 2 ^ s) &&& (256 * H + m) = 256 * ((h / 2 ^ s) &&& H) + ((l / 2 ^ s) &&& m) := by
  refine Nat.eq_of_testBit_eq fun j => ?_
  have hlm : (l / 2 ^ s) &&& m < 256 := Nat.and_lt_two_pow (n := 8) _ hm
  rw [Nat.testBit_and, tb_div, tb_byte _ _ _ hl, tb_byte _ _ _ hm, tb_byte _ _ _ hlm]
  by_cases hj : j < 8
  · rw [if_pos hj, if_pos hj, Nat.testBit_and, tb_div]
    by_cases hsj : s + j < 8
    · rw [if_pos hsj]
    · have : m.testBit j = false := Nat.testBit_lt_two_pow (Nat.lt_of_lt_of_le hms (Nat.pow_le_pow_right (by omega) (by omega)))
      rw [this]
      simp
  · rw [if_neg hj, if_neg hj, if_neg (by omega), Nat.testBit_and, tb_div]
    congr 2
    omega
def S1 (k n : Nat) : Nat := n - (n / 2 &&& rp 85 k)
def S2 (k n : Nat) : Nat := (n &&& rp 51 k) + (n / 4 &&& rp 51 k)
def S3 (k n : Nat) : Nat := (n + n / 16) &&& rp 15 k
def b1 (l : Nat) : Nat := l - (l / 2 &&& 85)
def b2 (l : Nat) : Nat := (l &&& 51) + (l / 4 &&& 51)
def b3 (l : Nat) : Nat := (l + l / 16) &&& 15
theorem byte_f : ∀ l, l < 256 → (l / 2 &&& 85) ≤ l ∧ b1 l < 256 ∧ b2 (b1 l) < 256 ∧ b2 (b1 l) % 16 ≤ 4 ∧ b2 (b1 l) / 16 ≤ 4 ∧ b3 (b2 (b1 l)) = cntN (fun j => l.testBit j) 8 ∧ cntN (fun j => l.testBit j) 8 ≤ 8 := by decide +kernel
theorem S1_s (k h l : Nat) (hl : l < 256) (hh : h / 2 &&& rp 85 k ≤ h) : S1 (k + 1) (256 * h + l) = 256 * S1 k h + b1 l ∧ ((256 * h + l) / 2 &&& rp 85 (k + 1)) ≤ 256 * h + l := by
  have e := and_shift (h := h) (l := l) (H := rp 85 k) (m := 85) (s := 1) hl (by omega) (by decide) (by omega)
  have e : (256 * h + l) / 2 &&& rp 85 (k + 1) = 256 * (h / 2 &&& rp 85 k) + (l / 2 &&& 85) := e
  have hb := (byte_f l hl).1
  unfold S1 b1
  rw [e]
  omega
theorem S2_s (k h l : Nat) (hl : l < 256) : S2 (k + 1) (256 * h + l) = 256 * S2 k h + b2 l := by
  have e := and_shift (h := h) (l := l) (H := rp 51 k) (m := 51) (s := 2) hl (by omega) (by decide) (by omega)
  have e : (256 * h + l) / 4 &&& rp 51 (k + 1) = 256 * (h / 4 &&& rp 51 k) + (l / 4 &&& 51) := e
  have e2 : (256 * h + l) &&& rp 51 (k + 1) = 256 * (h &&& rp 51 k) + (l &&& 51) := and_byte hl (by omega)
  unfold S2 b2
  rw [e, e2]
  omega
theorem S3_s (k h l : Nat) (hl : l < 256) (h1 : h % 16 ≤ 4) (h2 : l % 16 ≤ 4) (h3 : l / 16 ≤ 4) : S3 (k + 1) (256 * h + l) = 256 * S3 k h + b3 l := by
  have e : 256 * h + l + (256 * h + l) / 16 = 256 * (h + h / 16) + (16 * (h % 16) + (l + l / 16)) := by omega
  have e2 : (256 * (h + h / 16) + (16 * (h % 16) + (l + l / 16))) &&& rp 15 (k + 1) = 256 * ((h + h / 16) &&& rp 15 k) + ((16 * (h % 16) + (l + l / 16)) &&& 15) := and_byte (by omega) (by omega)
  unfold S3 b3
  rw [e, e2]
  congr 1
  rw [show (15 : Nat) = 2 ^ 4 - 1 from rfl, Nat.and_two_pow_sub_one_eq_mod, Nat.and_two_pow_sub_one_eq_mod]
  omega
/-- the counts of the bytes, a byte each -/
def pcs : Nat → Nat → Nat
  | 0, _ => 0
  | k + 1, n => 256 * pcs k (n / 256) + cntN (fun j => (n % 256).testBit j) 8
theorem S_all : ∀ k n, n < 256 ^ k → (n / 2 &&& rp 85 k) ≤ n ∧ S2 k (S1 k n) % 16 ≤ 4 ∧ S3 k (S2 k (S1 k n)) = pcs k n ∧ S1 k n < 256 ^ k ∧ S2 k (S1 k n) < 256 ^ k := by
  intro k
  induction k with
  | zero =>
    intro n hn
    have : n = 0 := by
      rw [Nat.pow_zero] at hn
      omega
    subst this
    decide
  | succ k ih =>
    intro n hn
    have hh : n / 256 < 256 ^ k := by
      rw [Nat.pow_succ] at hn
      omega
    have hl : n % 256 < 256 := Nat.mod_lt _ (by omega)
    have en : n = 256 * (n / 256) + n % 256 := by omega
    obtain ⟨i1, i2, i3, i4, i5⟩ := ih (n / 256) hh
    obtain ⟨f1, f2, f3, f4, f5, f6, f7⟩ := byte_f (n % 256) hl
    obtain ⟨s1, s1b⟩ := S1_s k (n / 256) (n % 256) hl i1
    have s2 := S2_s k (S1 k (n / 256)) (b1 (n % 256)) f2
    have s3 := S3_s k (S2 k (S1 k (n / 256))) (b2 (b1 (n % 256))) f3 i2 f4 f5
    rw [pcs]
    rw [← en] at s1 s1b
    rw [s1, s2, s3, i3, f6, Nat.pow_succ]
    refine ⟨s1b, by omega, rfl, by omega, by omega⟩
theorem cntN_shift (f : Nat → Bool) (m : Nat) : cntN f (8 + m) = cntN f 8 + cntN (fun j => f (8 + j)) m := by
  induction m with
  | zero => rfl
  | succ m ih =>
    have e1 : cntN f (8 + (m + 1)) = cntN f (8 + m) + if f (8 + m) then 1 else 0 := rfl
    have e2 : cntN (fun j => f (8 + j)) (m + 1) = cntN (fun j => f (8 + j)) m + if f (8 + m) then 1 else 0 := rfl
    rw [e1, e2, ih]
    omega
theorem cntN_c {f g : Nat → Bool} (n : Nat) (h : ∀ j, j < n → f j = g j) : cntN f n = cntN g n := by
  induction n with
  | zero => rfl
  | succ n ih =>
    have e1 : cntN f (n + 1) = cntN f n + if f n then 1 else 0 := rfl
    have e2 : cntN g (n + 1) = cntN g n + if g n then 1 else 0 := rfl
    rw [e1, e2, ih fun j hj => h j (by omega), h n (by omega)]
def sumB : Nat → Nat → Nat
  | 0, _ => 0
  | k + 1, n => cntN (fun j => (n % 256).testBit j) 8 + sumB k (n / 256)
theorem cnt_bytes : ∀ k n, cntN (fun j => n.testBit j) (8 * k) = sumB k n := by
  intro k
  induction k with
  | zero => intro n; rfl
  | succ k ih =>
    intro n
    rw [show 8 * (k + 1) = 8 + 8 * k by omega, cntN_shift, sumB, ← ih (n / 256)]
    congr 1
    · refine cntN_c 8 fun j hj => ?_
      rw [show (256 : Nat) = 2 ^ 8 from rfl, Nat.testBit_mod_two_pow]
      simp [hj]
    · refine cntN_c _ fun j _ => ?_
      rw [show (256 : Nat) = 2 ^ 8 from rfl, tb_div]
theorem fin_sum {p0 p1 p2 p3 p4 p5 p6 p7 : Nat} (h0 : p0 ≤ 8) (h1 : p1 ≤ 8) (h2 : p2 ≤ 8) (h3 : p3 ≤ 8) (h4 : p4 ≤ 8) (h5 : p5 ≤ 8) (h6 : p6 ≤ 8) (h7 : p7 ≤ 8) (n a b d : Nat) (hn : n = 256 * (256 * (256 * (256 * (256 * (256 * (256 * (256 * 0 + p7) + p6) + p5) + p4) + p3) + p2) + p1) + p0) (ha : a = n + n / 256) (hb : b = a + a / 65536) (hd : d = b + b / 4294967296) : d % 128 = p0 + (p1 + (p2 + (p3 + (p4 + (p5 + (p6 + (p7 + 0))))))) ∧ d < 18446744073709551616 ∧ a < 18446744073709551616 ∧ b < 18446744073709551616 := by
  have e1 : n = (p0) + 256 * (p1) + 65536 * (p2) + 16777216 * (p3) + 4294967296 * (p4) + 1099511627776 * (p5) + 281474976710656 * (p6) + 72057594037927936 * (p7) := by omega
  have e2 : n / 256 = (p1) + 256 * (p2) + 65536 * (p3) + 16777216 * (p4) + 4294967296 * (p5) + 1099511627776 * (p6) + 281474976710656 * (p7) := by
    clear hn ha hb hd
    omega
  have e3 : a = (p0 + p1) + 256 * (p1 + p2) + 65536 * (p2 + p3) + 16777216 * (p3 + p4) + 4294967296 * (p4 + p5) + 1099511627776 * (p5 + p6) + 281474976710656 * (p6 + p7) + 72057594037927936 * (p7) := by
    clear hn hb hd
    omega
  have e4 : a / 65536 = (p2 + p3) + 256 * (p3 + p4) + 65536 * (p4 + p5) + 16777216 * (p5 + p6) + 4294967296 * (p6 + p7) + 1099511627776 * (p7) := by
    clear hn ha hb hd e1 e2
    omega
  have e5 : b = (p0 + p1 + p2 + p3) + 256 * (p1 + p2 + p3 + p4) + 65536 * (p2 + p3 + p4 + p5) + 16777216 * (p3 + p4 + p5 + p6) + 4294967296 * (p4 + p5 + p6 + p7) + 1099511627776 * (p5 + p6 + p7) + 281474976710656 * (p6 + p7) + 72057594037927936 * (p7) := by
    clear hn ha hd e1 e2
    omega
  have e6 : b / 4294967296 = (p4 + p5 + p6 + p7) + 256 * (p5 + p6 + p7) + 65536 * (p6 + p7) + 16777216 * (p7) := by
    clear hn ha hb hd e1 e2 e3 e4
    omega
  have e7 : d = (p0 + p1 + p2 + p3 + p4 + p5 + p6 + p7) + 256 * (p1 + p2 + p3 + p4 + p5 + p6 + p7) + 65536 * (p2 + p3 + p4 + p5 + p6 + p7) + 16777216 * (p3 + p4 + p5 + p6 + p7) + 4294967296 * (p4 + p5 + p6 + p7) + 1099511627776 * (p5 + p6 + p7) + 281474976710656 * (p6 + p7) + 72057594037927936 * (p7) := by
    clear hn ha hb e1 e2 e3 e4
    omega
  clear hn ha hb hd e1 e2 e4 e6
  refine ⟨?_, ?_, ?_, ?_⟩
  · clear e3 e5
    omega
  · clear e3 e5
    omega
  · clear e7 e5
    omega
  · clear e3 e7
    omega
