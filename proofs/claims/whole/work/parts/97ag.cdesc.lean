/-! FORMS of the class: the descent -/
section
variable {ce : Ce} {rd ka va pa cnt n LL : Nat} {ini : Int32} {i0 : Int64} {nb : Int32} {al : Nat} {nt : Int32} {nl : Nat} {inp : Int32} {f : Nat → Nat}
theorem cf_take (h : CHy ce rd ka va pa cnt n f) (fp : Int32) {j : Nat} (hj : j ≤ cnt) (b : Nat) (hb : b < 256) (v : Int32) (hv : v = nI b) : m_X7_takeSign (hR ce rd ka va pa cnt LL ini i0 nb al nt nl inp (nI j) 0 fp) rd v = some ((), if tK f n j = 5 ∧ tV f n j = b then hR ce rd ka va pa cnt LL ini i0 nb al nt nl inp (nI (j + 1)) 0 fp else hR ce rd ka va pa cnt LL ini i0 nb al nt nl inp (nI cnt) 1 (nI (tP f n j))) := by
  unfold m_X7_takeSign
  rw [rcv_c (hR_e _ _ _), bind_s, cf_isSign h _ _ hj b hb v hv, bind_s]
  by_cases e : tK f n j = 5 ∧ tV f n j = b
  · rw [if_pos e, if_neg ne10, bind_s, cf_goOn h _ _ (CHy_lt h hj (by omega)), bind_s, if_pos e]
  · rw [if_neg e, if_pos rfl, bind_s, cf_fail h _ hj, bind_s, if_neg e]
theorem cf_take2 (h : CHy ce rd ka va pa cnt n f) (flt fp : Int32) (hf : flt ≠ 0) (v : Int32) {b : Nat} (hb : b < 256) (hv : v = nI b) : m_X7_takeSign (hR ce rd ka va pa cnt LL ini i0 nb al nt nl inp (nI cnt) flt fp) rd v = some ((), hR ce rd ka va pa cnt LL ini i0 nb al nt nl inp (nI cnt) flt fp) := by
  have h0 := h.2.2.2.1
  unfold m_X7_takeSign
  rw [rcv_c (hR_e _ _ _), bind_s, cf_isSign h _ _ (Nat.le_refl _) b hb v hv, bind_s, if_neg (show ¬ (tK f n cnt = 5 ∧ tV f n cnt = b) from fun z => by omega), if_pos rfl, bind_s, cf_fail2 h _ _ _ hf, bind_s]
def LCd (ce : Ce) (rd ka va pa cnt LL : Nat) (ini : Int32) (i0 : Int64) (nb : Int32) (al : Nat) (nt : Int32) (nl : Nat) (inp : Int32) (f : Nat → Nat) (n i : Nat) (nx : Bool) (fp : Int32) (t : Nat) : Prop := ∀ r d j, d ≤ 10 → 5 * (10 - d) + (4 - r) + 1 ≤ t → j ≤ cnt → (r ≤ 3 → RC ce rd ka va pa cnt LL ini i0 nb al nt nl inp f n i fp ((m_X7_F t).1 (hR ce rd ka va pa cnt LL ini i0 nb al nt nl inp (nI j) 0 fp) rd (nI r) (nI d)) (pF (tK f n) (tV f n) LL nx t r d j)) ∧ (r = 4 → RC ce rd ka va pa cnt LL ini i0 nb al nt nl inp f n i fp ((m_X7_F t).2 (hR ce rd ka va pa cnt LL ini i0 nb al nt nl inp (nI j) 0 fp) rd (nI d)) (pF (tK f n) (tV f n) LL nx t r d j))
def flB (fF : Ce → Nat → Int32 → Int32 → Option (Int64 × Ce)) (this : Nat) (p1 p2 : Int32) (zs5 : (Int64 × Int32) × Ce) : Option (((Int64 × Int32) × Ce) ⊕ (Int64 × Ce)) :=
      if (300 : Int32) ≤ zs5.1.2 then
        some (Sum.inr (zs5.1.1, zs5.2))
      else
        (kst 4).bind fun zz8 =>
        (m_J0_charAt_5068e zs5.2 4 p1).bind fun zx9 =>
        (rcv zs5.2 5 this).bind fun zz10 =>
        (m_X7_isSign zs5.2 this zx9).bind fun zx11 =>
        if zx11 = 0 then
          some (Sum.inr (zs5.1.1, zs5.2))
        else
          (rcv zs5.2 5 this).bind fun zz12 =>
          (m_X7_goOn zs5.2 this).bind fun zq13 =>
          (rcv zq13.2 5 this).bind fun zz14 =>
          (fF zq13.2 this (p1 + (1 : Int32)) p2).bind fun zq15 =>
          if p1 = (0 : Int32) then
            some (Sum.inl (((zs5.1.1 ||| zq15.1), (zs5.1.2 + (1 : Int32))), zq15.2))
          else
          if p1 = (1 : Int32) then
            some (Sum.inl (((zs5.1.1 ^^^ zq15.1), (zs5.1.2 + (1 : Int32))), zq15.2))
          else
          some (Sum.inl (((zs5.1.1 &&& zq15.1), (zs5.1.2 + (1 : Int32))), zq15.2))
theorem cf_form0 (fF : Ce → Nat → Int32 → Int32 → Option (Int64 × Ce)) (fO : Ce → Nat → Int32 → Option (Int64 × Ce)) (ce : Ce) (this : Nat) (p1 p2 : Int32) : m_X7_readForm_B fF fO ce this p1 p2 = (kst 4).bind fun zz1 => (m_J0_length_8abf5 ce 4).bind fun zx2 => if p1 < zx2 then (rcv ce 5 this).bind fun zz3 => (fF ce this (p1 + (1 : Int32)) p2).bind fun zq4 => (it (flB fF this p1 p2) FU ((zq4.1, (0 : Int32)), zq4.2)).bind fun (zo6 : Int64 × Ce) => some (zo6.1, zo6.2) else (rcv ce 5 this).bind fun zz16 => (fO ce this p2).bind fun zq17 => some (zq17.1, zq17.2) := rfl
theorem jn_w : ∀ r, r < 3 → (wcs 4).getD r 0 = jn r ∧ jn r < 256 := by decide
theorem fl_sign (fF : Ce → Nat → Int32 → Int32 → Option (Int64 × Ce)) (h : CHy ce rd ka va pa cnt n f) {r d k j : Nat} (hr : r < 3) (hk : k < 300) (x : Int64) (flt fp : Int32) (hj : j ≤ cnt) : flB fF rd (nI r) (nI d) ((x, nI k), hR ce rd ka va pa cnt LL ini i0 nb al nt nl inp (nI j) flt fp) = if tK f n j = 5 ∧ tV f n j = jn r then (fF (hR ce rd ka va pa cnt LL ini i0 nb al nt nl inp (nI (j + 1)) flt fp) rd (nI (r + 1)) (nI d)).bind fun zq15 => if nI r = (0 : Int32) then some (Sum.inl (((x ||| zq15.1), nI (k + 1)), zq15.2)) else if nI r = (1 : Int32) then some (Sum.inl (((x ^^^ zq15.1), nI (k + 1)), zq15.2)) else some (Sum.inl (((x &&& zq15.1), nI (k + 1)), zq15.2)) else some (Sum.inr (x, hR ce rd ka va pa cnt LL ini i0 nb al nt nl inp (nI j) flt fp)) := by
  obtain ⟨w1, w2⟩ := jn_w r hr
  unfold flB
  show (if (300 : Int32) ≤ nI k then _ else _) = _
  rw [if_neg (show ¬ (300 : Int32) ≤ nI k from nI_ge (b := 300) hk (by omega)), st_k (by omega), bind_s, st_ch0, st_ch 4 (by omega) r hr, bind_s, w1, rcv_c (hR_e _ _ _), bind_s, cf_isSign h _ _ hj (jn r) w2 _ rfl, bind_s]
  by_cases e : tK f n j = 5 ∧ tV f n j = jn r
  · rw [if_pos e, if_pos e, if_neg ne10, bind_s, cf_goOn h _ _ (CHy_lt h hj (by omega)), bind_s, rcv_c (hR_e _ _ _), bind_s]
    show ((fF _ rd (nI r + 1) (nI d)).bind fun zq15 => if nI r = (0 : Int32) then some (Sum.inl (((x ||| zq15.1), nI k + 1), zq15.2)) else if nI r = (1 : Int32) then some (Sum.inl (((x ^^^ zq15.1), nI k + 1), zq15.2)) else some (Sum.inl (((x &&& zq15.1), nI k + 1), zq15.2))) = _
    rw [nI_1, nI_1]
  · rw [if_neg e, if_neg e, if_pos rfl]
theorem jn_op {r : Nat} (hr : r < 3) (x y : Nat → Int64) (i : Nat) (k : Int32) (d : Ce) : (if nI r = (0 : Int32) then some (Sum.inl (((x i ||| y i), k), d)) else if nI r = (1 : Int32) then some (Sum.inl (((x i ^^^ y i), k), d)) else some (Sum.inl (((x i &&& y i), k), d)) : Option (((Int64 × Int32) × Ce) ⊕ (Int64 × Ce))) = some (Sum.inl ((bop (jn r) x y i, k), d)) := by
  rcases r with _ | _ | _ | r
  · rfl
  · rfl
  · rfl
  · omega
theorem jn_op2 {r : Nat} (hr : r < 3) (x y : Int64) (k : Int32) (d : Ce) : ∃ v, (if nI r = (0 : Int32) then some (Sum.inl (((x ||| y), k), d)) else if nI r = (1 : Int32) then some (Sum.inl (((x ^^^ y), k), d)) else some (Sum.inl (((x &&& y), k), d)) : Option (((Int64 × Int32) × Ce) ⊕ (Int64 × Ce))) = some (Sum.inl ((v, k), d)) := by
  rcases r with _ | _ | _ | r
  · exact ⟨_, rfl⟩
  · exact ⟨_, rfl⟩
  · exact ⟨_, rfl⟩
  · omega
theorem cf_lp (h : CHy ce rd ka va pa cnt n f) {i : Nat} {nx : Bool} {fp : Int32} {t : Nat} (ih : LCd ce rd ka va pa cnt LL ini i0 nb al nt nl inp f n i nx fp t) {r d : Nat} (hr : r < 3) (hd : d ≤ 10) (ht : 5 * (10 - d) + (4 - (r + 1)) + 1 ≤ t) : ∀ s k x j q, k + s = 300 → j ≤ cnt → s + 1 < q → RC ce rd ka va pa cnt LL ini i0 nb al nt nl inp f n i fp (it (flB (m_X7_F t).1 rd (nI r) (nI d)) q ((x i, nI k), hR ce rd ka va pa cnt LL ini i0 nb al nt nl inp (nI j) 0 fp)) (lp (tK f n) (tV f n) (jn r) (fun z => pF (tK f n) (tV f n) LL nx t (r + 1) d z) s x j) := by
  intro s
  induction s with
  | zero =>
    intro k x j q hk hj hq
    obtain ⟨q, rfl⟩ : ∃ p, q = p + 1 := ⟨q - 1, by omega⟩
    rw [lp]
    refine ⟨hj, it_end q ?_⟩
    show (if (300 : Int32) ≤ nI k then some (Sum.inr (x i, _)) else _) = _
    rw [if_pos (show (300 : Int32) ≤ nI k from (nI_leI (a := 300) (by omega) (by omega)).mpr (by omega))]
  | succ s ihs =>
    intro k x j q hk hj hq
    obtain ⟨q, rfl⟩ : ∃ p, q = p + 1 := ⟨q - 1, by omega⟩
    have hs := fl_sign (LL := LL) (ini := ini) (i0 := i0) (nb := nb) (al := al) (nt := nt) (nl := nl) (inp := inp) (m_X7_F t).1 h (d := d) hr (show k < 300 by omega) (x i) 0 fp hj
    rw [lp]
    by_cases e : tK f n j = 5 ∧ tV f n j = jn r
    · rw [if_pos e] at hs ⊢
      have hlt := CHy_lt h hj (show tK f n j ≠ 0 by omega)
      have sub := (ih (r + 1) d (j + 1) hd ht hlt).1 (by omega)
      generalize hw : pF (tK f n) (tV f n) LL nx t (r + 1) d (j + 1) = w at sub
      cases w with
      | inl w =>
        obtain ⟨g1, v, g2⟩ := sub
        rw [g2, bind_s] at hs
        obtain ⟨u, hu⟩ := jn_op2 hr (x i) v (nI (k + 1)) (hR ce rd ka va pa cnt LL ini i0 nb al nt nl inp (nI cnt) (nI w.1) (nI (tP f n w.2)))
        rw [hu] at hs
        refine ⟨g1, u, ?_⟩
        show (flB (m_X7_F t).1 rd (nI r) (nI d) _).bind _ = _
        rw [hs, bind_s]
        show it _ q _ = _
        obtain ⟨q, rfl⟩ : ∃ p, q = p + 1 := ⟨q - 1, by omega⟩
        refine it_end q ?_
        by_cases k3 : k + 1 < 300
        · rw [fl_sign _ h hr k3 _ _ _ (Nat.le_refl _), if_neg (fun z => by have := h.2.2.2.1; omega)]
        · show (if (300 : Int32) ≤ nI (k + 1) then some (Sum.inr (u, _)) else _) = _
          rw [if_pos (show (300 : Int32) ≤ nI (k + 1) from (nI_leI (a := 300) (by omega) (by omega)).mpr (by omega))]
      | inr w =>
        obtain ⟨g1, g2⟩ := sub
        rw [g2, bind_s, jn_op hr] at hs
        have nxt := ihs (k + 1) (bop (jn r) x w.1) w.2 q (by omega) g1 (by omega)
        have e1 : it (flB (m_X7_F t).1 rd (nI r) (nI d)) (q + 1) ((x i, nI k), hR ce rd ka va pa cnt LL ini i0 nb al nt nl inp (nI j) 0 fp) = it (flB (m_X7_F t).1 rd (nI r) (nI d)) q ((bop (jn r) x w.1 i, nI (k + 1)), hR ce rd ka va pa cnt LL ini i0 nb al nt nl inp (nI w.2) 0 fp) := by
          show (flB (m_X7_F t).1 rd (nI r) (nI d) _).bind _ = _
          rw [hs, bind_s]
          rfl
        rw [e1]
        exact nxt
    · rw [if_neg e] at hs ⊢
      exact ⟨hj, it_end q hs⟩
theorem cf_LC (h : CHy ce rd ka va pa cnt n f) (hL : LL ≤ 6) {i : Nat} {nx : Bool} (hi : Inp nx i inp) (fp : Int32) : ∀ t, LCd ce rd ka va pa cnt LL ini i0 nb al nt nl inp f n i nx fp t := by
  intro t
  induction t with
  | zero =>
    intro r d j h1 h2
    omega
  | succ t ih =>
    intro r d j hd ht hj
    refine ⟨fun hr => ?_, fun hr => ?_⟩
    · show RC ce rd ka va pa cnt LL ini i0 nb al nt nl inp f n i fp (m_X7_readForm_B (m_X7_F t).1 (m_X7_F t).2 _ rd (nI r) (nI d)) _
      rw [cf_form0, st_k (by omega), bind_s, st_ln _ (by omega), bind_s, show (wcs 4).length = 3 from rfl, if_lt (by omega) (by omega), pF]
      by_cases r3 : r < 3
      · rw [if_pos r3, if_pos r3, rcv_c (hR_e _ _ _), bind_s, nI_1]
        have sub := (ih (r + 1) d j hd (by omega) hj).1 (by omega)
        generalize hw : pF (tK f n) (tV f n) LL nx t (r + 1) d j = w at sub
        cases w with
        | inl w =>
          obtain ⟨g1, v, g2⟩ := sub
          rw [g2, bind_s]
          refine ⟨g1, v, ?_⟩
          have hs := fl_sign (LL := LL) (ini := ini) (i0 := i0) (nb := nb) (al := al) (nt := nt) (nl := nl) (inp := inp) (m_X7_F t).1 h (d := d) r3 (show 0 < 300 by omega) v (nI w.1) (nI (tP f n w.2)) (Nat.le_refl cnt)
          rw [if_neg (fun z => by have := h.2.2.2.1; omega)] at hs
          obtain ⟨q, hq⟩ := FU_split (k := 0) (by omega)
          rw [Nat.zero_add] at hq
          have e1 : it (flB (m_X7_F t).1 rd (nI r) (nI d)) FU ((v, (0 : Int32)), hR ce rd ka va pa cnt LL ini i0 nb al nt nl inp (nI cnt) (nI w.1) (nI (tP f n w.2))) = some (v, hR ce rd ka va pa cnt LL ini i0 nb al nt nl inp (nI cnt) (nI w.1) (nI (tP f n w.2))) := by
            rw [hq]
            exact it_end q hs
          show (it (flB (m_X7_F t).1 rd (nI r) (nI d)) FU ((v, (0 : Int32)), _)).bind _ = _
          rw [e1, bind_s]
        | inr w =>
          obtain ⟨g1, g2⟩ := sub
          rw [g2, bind_s]
          have nxt := cf_lp h ih r3 hd (by omega) 300 0 w.1 w.2 FU rfl g1 (lt_FU (by omega))
          show RC ce rd ka va pa cnt LL ini i0 nb al nt nl inp f n i fp ((it (flB (m_X7_F t).1 rd (nI r) (nI d)) FU ((w.1 i, nI 0), hR ce rd ka va pa cnt LL ini i0 nb al nt nl inp (nI w.2) 0 fp)).bind fun (zo6 : Int64 × Ce) => some (zo6.1, zo6.2)) (lp (tK f n) (tV f n) (jn r) (fun z => pF (tK f n) (tV f n) LL nx t (r + 1) d z) 300 w.1 w.2)
          generalize lp (tK f n) (tV f n) (jn r) (fun z => pF (tK f n) (tV f n) LL nx t (r + 1) d z) 300 w.1 w.2 = u at nxt
          cases u with
          | inl u =>
            obtain ⟨b1, v, b2⟩ := nxt
            exact ⟨b1, v, by rw [b2, bind_s]⟩
          | inr u =>
            obtain ⟨b1, b2⟩ := nxt
            exact ⟨b1, by rw [b2, bind_s]⟩
      · have r33 : r = 3 := by omega
        rw [if_neg r3, if_neg r3, if_pos r33, rcv_c (hR_e _ _ _), bind_s]
        have sub := (ih 4 d j hd (by omega) hj).2 rfl
        generalize pF (tK f n) (tV f n) LL nx t 4 d j = w at sub
        cases w with
        | inl w =>
          obtain ⟨b1, v, b2⟩ := sub
          exact ⟨b1, v, by rw [b2, bind_s]⟩
        | inr w =>
          obtain ⟨b1, b2⟩ := sub
          exact ⟨b1, by rw [b2, bind_s]⟩
    · subst hr
      show RC ce rd ka va pa cnt LL ini i0 nb al nt nl inp f n i fp (m_X7_readOne_B (m_X7_F t).1 (m_X7_F t).2 _ rd (nI d)) _
      unfold m_X7_readOne_B
      rw [rcv_c (hR_e _ _ _), bind_s, cf_isSign h _ _ hj 33 (by omega) (33 : Int32) rfl, bind_s, pF, if_neg (show ¬ 4 < 3 by omega), if_neg (show ¬ 4 = 3 by omega)]
      by_cases e33 : tK f n j = 5 ∧ tV f n j = 33
      · rw [if_pos e33, if_pos e33, if_neg ne10, bind_s, Sum.elim_inr, show (10 : Int32) = nI 10 from rfl, if_lt (by omega) (by omega)]
        by_cases d10 : d < 10
        · rw [if_pos d10, if_pos d10, rcv_c (hR_e _ _ _), bind_s, cf_goOn h _ _ (CHy_lt h hj (by omega)), bind_s, if_neg ne10, rcv_c (hR_e _ _ _), bind_s, nI_1]
          have sub := (ih 4 (d + 1) (j + 1) (by omega) (by omega) (CHy_lt h hj (by omega))).2 rfl
          generalize pF (tK f n) (tV f n) LL nx t 4 (d + 1) (j + 1) = w at sub
          cases w with
          | inl w =>
            obtain ⟨b1, v, b2⟩ := sub
            exact ⟨b1, _, by rw [b2, bind_s]⟩
          | inr w =>
            obtain ⟨b1, b2⟩ := sub
            exact ⟨b1, by rw [b2, bind_s]; rfl⟩
        · rw [if_neg d10, if_neg d10, rcv_c (hR_e _ _ _), bind_s, cf_fail h _ hj, bind_s]
          exact ⟨⟨hj, Nat.le_of_ble_eq_true rfl, Nat.le_of_ble_eq_true rfl⟩, 0, rfl⟩
      · rw [if_neg e33, if_neg e33, if_pos rfl, bind_s, cf_isSign h _ _ hj 40 (by omega) (40 : Int32) rfl, bind_s]
        by_cases e40 : tK f n j = 5 ∧ tV f n j = 40
        · rw [if_pos e40, if_pos e40, if_neg ne10, bind_s, Sum.elim_inr, show (10 : Int32) = nI 10 from rfl, if_lt (by omega) (by omega)]
          by_cases d10 : d < 10
          · rw [if_pos d10, if_pos d10, rcv_c (hR_e _ _ _), bind_s, cf_goOn h _ _ (CHy_lt h hj (by omega)), bind_s, if_pos rfl, rcv_c (hR_e _ _ _), bind_s, nI_1]
            have sub := (ih 0 (d + 1) (j + 1) (by omega) (by omega) (CHy_lt h hj (by omega))).1 (by omega)
            generalize pF (tK f n) (tV f n) LL nx t 0 (d + 1) (j + 1) = w at sub
            cases w with
            | inl w =>
              obtain ⟨b1, v, b2⟩ := sub
              have b2 : (m_X7_F t).1 (hR ce rd ka va pa cnt LL ini i0 nb al nt nl inp (nI (j + 1)) 0 fp) rd (0 : Int32) (nI (d + 1)) = _ := b2
              refine ⟨b1, v, ?_⟩
              rw [b2, bind_s, rcv_c (hR_e _ _ _), bind_s, cf_take2 h _ _ (nI_ne0 b1.2.1 (by omega)) (41 : Int32) (b := 41) (by omega) rfl, bind_s]
            | inr w =>
              obtain ⟨b1, b2⟩ := sub
              have b2 : (m_X7_F t).1 (hR ce rd ka va pa cnt LL ini i0 nb al nt nl inp (nI (j + 1)) 0 fp) rd (0 : Int32) (nI (d + 1)) = _ := b2
              rw [b2, bind_s, rcv_c (hR_e _ _ _), bind_s, cf_take h _ b1 41 (by omega) (41 : Int32) rfl, bind_s]
              show RC ce rd ka va pa cnt LL ini i0 nb al nt nl inp f n i fp _ (if tK f n w.2 = 5 ∧ tV f n w.2 = 41 then .inr (w.1, w.2 + 1) else .inl (1, w.2))
              by_cases e41 : tK f n w.2 = 5 ∧ tV f n w.2 = 41
              · rw [if_pos e41, if_pos e41]
                exact ⟨CHy_lt h b1 (by omega), rfl⟩
              · rw [if_neg e41, if_neg e41]
                exact ⟨⟨b1, Nat.le_of_ble_eq_true rfl, Nat.le_of_ble_eq_true rfl⟩, _, rfl⟩
          · rw [if_neg d10, if_neg d10, rcv_c (hR_e _ _ _), bind_s, cf_fail h _ hj, bind_s]
            exact ⟨⟨hj, Nat.le_of_ble_eq_true rfl, Nat.le_of_ble_eq_true rfl⟩, 0, rfl⟩
        · rw [if_neg e40, if_neg e40, if_pos rfl, bind_s]
          have hp := cf_plain (ini := ini) (i0 := i0) (nb := nb) (al := al) (nt := nt) (nl := nl) h hL hi fp hj
          generalize pAt (tK f n) (tV f n) LL nx j = w at hp
          cases w with
          | inl w =>
            obtain ⟨b1, v, b2⟩ := hp
            exact ⟨b1, v, by rw [b2, bind_s, bind_s, Sum.elim_inl]⟩
          | inr w =>
            obtain ⟨b1, b2⟩ := hp
            exact ⟨b1, by rw [b2, bind_s, bind_s, Sum.elim_inl]⟩
theorem cf_form (h : CHy ce rd ka va pa cnt n f) (hL : LL ≤ 6) {i : Nat} {nx : Bool} (hi : Inp nx i inp) (fp : Int32) {j : Nat} (hj : j ≤ cnt) : RC ce rd ka va pa cnt LL ini i0 nb al nt nl inp f n i fp (m_X7_readForm (hR ce rd ka va pa cnt LL ini i0 nb al nt nl inp (nI j) 0 fp) rd (0 : Int32) (0 : Int32)) (pF (tK f n) (tV f n) LL nx 64 0 0 j) := (cf_LC h hL hi fp 64 0 0 j (by omega) (by omega) hj).1 (by omega)
end
