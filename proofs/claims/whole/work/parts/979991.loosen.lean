/-! LOOSEN: both sides -/
def looS (M : Mv) (g : Int64) (cl : List (Nat × Nat)) (i : Nat) (s : Nat × Nat) (l : Nat) : Nat × Nat := if jdg M g (barL M.1 (cl.set i (offN s.1 l, s.2 &&& offN s.1 l))) = 0 then (offN s.1 l, s.2 &&& offN s.1 l) else s
def looF (V : Sv) (i : Nat) (u : Nat × Nat) : Nat × Nat := (ordL (kkf (V.2.1 15) V.2.2.2.2.1) V.1.1).foldl (looS V.1 (V.1.2.2.2.2 (V.2.1 8)) V.2.2.2.2.2 i) u
theorem offN_lt {m l : Nat} {N : Nat} (h : m < N) : offN m l < N := Nat.lt_of_le_of_lt (offN_le m l) h
theorem offN_sub {m b l : Nat} (h : b &&& m = b) : b &&& offN m l = offN b l := by
  unfold offN
  rw [← Nat.and_assoc, h]
theorem looS_ok {M : Mv} {g : Int64} {cl : List (Nat × Nat)} {i l : Nat} {s : Nat × Nat} {N : Nat} (h1 : s.1 < N) (h2 : s.2 &&& s.1 = s.2) : (looS M g cl i s l).1 < N ∧ (looS M g cl i s l).2 &&& (looS M g cl i s l).1 = (looS M g cl i s l).2 := by
  unfold looS
  split
  · refine ⟨offN_lt h1, ?_⟩
    show (s.2 &&& offN s.1 l) &&& offN s.1 l = _
    rw [Nat.and_assoc, Nat.and_self]
  · exact ⟨h1, h2⟩
theorem looFl_ok {M : Mv} {g : Int64} {cl : List (Nat × Nat)} {i : Nat} {N : Nat} : ∀ (L : List Nat) (s : Nat × Nat), s.1 < N → s.2 &&& s.1 = s.2 → (L.foldl (looS M g cl i) s).1 < N ∧ (L.foldl (looS M g cl i) s).2 &&& (L.foldl (looS M g cl i) s).1 = (L.foldl (looS M g cl i) s).2 := by
  intro L
  induction L with
  | nil => intro s h1 h2; exact ⟨h1, h2⟩
  | cons x L ih =>
    intro s h1 h2
    rw [List.foldl_cons]
    exact ih _ (looS_ok h1 h2).1 (looS_ok h1 h2).2
theorem Laid_set (c : Ce) (m : Nat) {μ : MS} {l : List (Nat × Nat)} (hl : Laid μ l) {i : Nat} (hi : i < l.length) {q : Nat × Nat} (h1 : q.1 < 64) (h2 : q.2 < 64) {q0 : Nat × Nat} : Laid (muI (muI μ 14 (va_up (μ.1 14) i (nI q.1))) 15 (va_up (μ.1 15) i (nI q.2))) (l.set i q) ∧ KJ μ (muI (muI μ 14 (va_up (μ.1 14) i (nI q.1))) 15 (va_up (μ.1 15) i (nI q.2))) := by
  obtain ⟨a1, a2, a3⟩ := hl
  refine ⟨⟨by rw [List.length_set]; exact a1, by rw [List.length_set]; exact a2, fun k r hr => ?_⟩, fun r h14 h15 => ?_, rfl, rfl, fun _ _ => rfl⟩
  · show va_up (va_up μ.1 14 (va_up (μ.1 14) i (nI q.1))) 15 (va_up (μ.1 15) i (nI q.2)) 14 k = _ ∧ va_up (va_up μ.1 14 (va_up (μ.1 14) i (nI q.1))) 15 (va_up (μ.1 15) i (nI q.2)) 15 k = _ ∧ _
    rw [up_n _ 15 _ (show 14 ≠ 15 by omega), up_e, up_e]
    rw [List.getElem?_set] at hr
    by_cases e : i = k
    · subst e
      rw [if_pos rfl, if_pos hi] at hr
      have : q = r := by simpa using hr
      subst this
      rw [up_e, up_e]
      exact ⟨rfl, rfl, h1, h2⟩
    · rw [if_neg e] at hr
      rw [up_n _ _ _ (fun z => e z.symm), up_n _ _ _ (fun z => e z.symm)]
      exact a3 k r hr
  · show va_up (va_up μ.1 14 _) 15 _ r = _
    rw [up_n _ _ _ h15, up_n _ _ _ h14]
theorem sr_looLoop (c : Ce) (m : Nat) {μ : MS} {V : Sv} (hr : RV μ V) (hw : WM V.1) (h8 : V.2.1 8 < V.1.2.2.2.1) (hcl : V.2.2.2.2.2.length ≤ 12) {kk : Nat → Nat} (ho : ∀ k x, (ordL kk V.1.1)[k]? = some x → μ.1 9 k = nI x) {i : Nat} {u : Nat × Nat} (hu : V.2.2.2.2.2[i]? = some u) (hu1 : u.1 < 2 ^ V.1.1) (hu2 : u.2 &&& u.1 = u.2) (hl : Laid μ V.2.2.2.2.2) : Ok (it (fun (zs14 : Int32 × Ce) => (gA zs14.2 9 0 m).bind fun zx25 => (aI zs14.2 zx25 (3 : Int32)).bind fun zx26 => if zx26 ≤ zs14.1 then some (Sum.inr ((), zs14.2)) else (gA zs14.2 9 29 m).bind fun zx27 => (aI zs14.2 zx27 (nI i)).bind fun zx28 => (gA zs14.2 9 30 m).bind fun zx29 => (aI zs14.2 zx29 (nI i)).bind fun zx30 => (gA zs14.2 9 29 m).bind fun zx31 => (aI zs14.2 zx31 (nI i)).bind fun zx32 => (gA zs14.2 9 23 m).bind fun zx33 => (aI zs14.2 zx33 zs14.1).bind fun zx34 => (sI zs14.2 zx31 (nI i) (zx32 &&& (((1 : Int32) <<< (zx34 &&& 31)) ^^^ (-1 : Int32)))).bind fun zc35 => (gA zc35 9 30 m).bind fun zx36 => (aI zc35 zx36 (nI i)).bind fun zx37 => (gA zc35 9 29 m).bind fun zx38 => (aI zc35 zx38 (nI i)).bind fun zx39 => (sI zc35 zx36 (nI i) (zx37 &&& zx39)).bind fun zc40 => (rcv zc40 9 m).bind fun zz41 => (m_X12_barredAll zc40 m).bind fun zx42 => (rcv zc40 9 m).bind fun zz43 => (m_X12_judge zc40 m zx42).bind fun zx44 => if zx44 = 0 then some (Sum.inl ((zs14.1 + (1 : Int32)), zc40)) else (gA zc40 9 29 m).bind fun zx45 => (sI zc40 zx45 (nI i) zx28).bind fun zc46 => (gA zc46 9 30 m).bind fun zx47 => (sI zc46 zx47 (nI i) zx30).bind fun zc48 => some (Sum.inl ((zs14.1 + (1 : Int32)), zc48))) FU ((0 : Int32), wr c m μ)) (fun o => ∃ ν, o = ((), wr c m ν) ∧ Laid ν (V.2.2.2.2.2.set i ((ordL kk V.1.1).foldl (looS V.1 (V.1.2.2.2.2 (V.2.1 8)) V.2.2.2.2.2 i) u)) ∧ KJ μ ν) := by
  have hL := hw.2.1
  have h26 := p2_64 hL
  have hil : i < V.2.2.2.2.2.length := (List.getElem?_eq_some_iff.mp hu).1
  have hlen := ordL_len kk V.1.1
  refine ok_cnt 0 V.1.1 (fun k z => ∃ ν, z = (nI k, wr c m ν) ∧ Laid ν (V.2.2.2.2.2.set i (((ordL kk V.1.1).take k).foldl (looS V.1 (V.1.2.2.2.2 (V.2.1 8)) V.2.2.2.2.2 i) u)) ∧ KJ μ ν) (by omega) (Nat.zero_le _) ⟨μ, rfl, ?_, KJ_refl μ⟩ ?_ ?_
  · rw [List.take_zero]
    show Laid μ (V.2.2.2.2.2.set i u)
    have : V.2.2.2.2.2.set i u = V.2.2.2.2.2 := by
      refine List.ext_getElem? fun k => ?_
      rw [List.getElem?_set]
      by_cases e : i = k
      · subst e
        rw [if_pos rfl, if_pos hil, hu]
      · rw [if_neg e]
    rw [this]
    exact hl
  · rintro k _ hk ⟨ν, rfl, y1, y2⟩
    have hx : (ordL kk V.1.1)[k]? = some ((ordL kk V.1.1)[k]'(by omega)) := List.getElem?_eq_getElem _
    generalize (ordL kk V.1.1)[k]'(by omega) = x at hx
    have hx6 : x < V.1.1 := ordL_lt kk (List.mem_of_getElem? hx)
    have hs := looFl_ok (M := V.1) (g := V.1.2.2.2.2 (V.2.1 8)) (cl := V.2.2.2.2.2) (i := i) ((ordL kk V.1.1).take k) u hu1 hu2
    rw [take_s hx, List.foldl_append, List.foldl_cons, List.foldl_nil]
    generalize hsd : ((ordL kk V.1.1).take k).foldl (looS V.1 (V.1.2.2.2.2 (V.2.1 8)) V.2.2.2.2.2 i) u = s at y1 hs
    have hrν := KJ_RV y2 hr
    have sle : s.2 ≤ s.1 := by rw [← hs.2]; exact Nat.and_le_right
    have hgi : (V.2.2.2.2.2.set i s)[i]? = some s := by rw [List.getElem?_set, if_pos rfl, if_pos hil]
    obtain ⟨b1, b2, b3, b4⟩ := y1.2.2 i s hgi
    have o9 : ν.1 9 k = nI x := by rw [y2.1 9 (by omega) (by omega)]; exact ho k x hx
    have i5 : i < 5000 := by omega
    have eoff : nI s.1 &&& (((1 : Int32) <<< (nI x &&& 31)) ^^^ (-1 : Int32)) = nI (offN s.1 x) := off_1 s.1 (by omega) x (by omega)
    generalize hν1 : muI ν 14 (va_up (ν.1 14) i (nI (offN s.1 x))) = ν1
    have f15 : ν1.1 15 i = nI s.2 := by rw [← hν1, muI_n ν _ (by omega)]; exact b2
    have f14 : ν1.1 14 i = nI (offN s.1 x) := by rw [← hν1, muI_e, up_e]
    have f15a : ν1.1 15 = ν.1 15 := by rw [← hν1, muI_n ν _ (by omega)]
    have w1 := wr_u14 c m ν i5 (nI (offN s.1 x))
    rw [hν1] at w1
    have w2 := wr_u15 c m ν1 i5 (nI (s.2 &&& offN s.1 x))
    rw [f15a] at w2
    obtain ⟨L2, K2⟩ := Laid_set c m y1 (i := i) (by rw [List.length_set]; exact hil) (q := (offN s.1 x, s.2 &&& offN s.1 x)) (by have := offN_le s.1 x; show offN s.1 x < 64; omega) (by have : s.2 &&& offN s.1 x ≤ s.2 := Nat.and_le_left; show s.2 &&& offN s.1 x < 64; omega) (q0 := u)
    rw [List.set_set] at L2
    show Ok ((gA (wr c m ν) 9 0 m).bind _) _
    have e3 : ν.1 0 3 = nI V.1.1 := hrν.1.1
    simp only [wr_g0, bind_s, rd_3, e3, wr_g29, wr_a14 c m ν i5, b1, wr_g30, wr_a15 c m ν i5, b2, wr_g23, wr_o9 c m ν (show k < 6 by omega), o9, eoff, w1, wr_a15 c m ν1 i5, f15, wr_a14 c m ν1 i5, f14, nI_and, w2, wr_rcv]
    rw [if_le (by omega) (by omega), if_neg (by omega)]
    have hν2 : muI ν1 15 (va_up (ν.1 15) i (nI (s.2 &&& offN s.1 x))) = muI (muI ν 14 (va_up (ν.1 14) i (nI (offN s.1 x)))) 15 (va_up (ν.1 15) i (nI (s.2 &&& offN s.1 x))) := by rw [hν1]
    rw [hν2]
    generalize muI (muI ν 14 (va_up (ν.1 14) i (nI (offN s.1 x)))) 15 (va_up (ν.1 15) i (nI (s.2 &&& offN s.1 x))) = ν2 at L2 K2
    have hrν2 := KJ_RV K2 hrν
    have hj := jdg_lt V.1 (V.1.2.2.2.2 (V.2.1 8)) (barL V.1.1 (V.2.2.2.2.2.set i (offN s.1 x, s.2 &&& offN s.1 x)))
    rw [sr_barredAll c m hrν2.1 L2, bind_s, sr_judge c m hrν2 hw h8, bind_s]
    unfold looS
    rw [if_z (by omega)]
    by_cases hz : jdg V.1 (V.1.2.2.2.2 (V.2.1 8)) (barL V.1.1 (V.2.2.2.2.2.set i (offN s.1 x, s.2 &&& offN s.1 x))) = 0
    · rw [if_pos hz, if_pos hz]
      exact ok_some ⟨ν2, by rw [nI_1], L2, KJ_trans y2 K2⟩
    · rw [if_neg hz, if_neg hz]
      obtain ⟨L3, K3⟩ := Laid_set c m L2 (i := i) (by rw [List.length_set]; exact hil) (q := s) (by omega) (by omega) (q0 := u)
      rw [List.set_set] at L3
      have v1 := wr_u14 c m ν2 i5 (nI s.1)
      have v2 := wr_u15 c m (muI ν2 14 (va_up (ν2.1 14) i (nI s.1))) i5 (nI s.2)
      have v3 : (muI ν2 14 (va_up (ν2.1 14) i (nI s.1))).1 15 = ν2.1 15 := muI_n ν2 _ (by omega)
      rw [v3] at v2
      rw [v1, bind_s, wr_g30, bind_s, v2, bind_s]
      exact ok_some ⟨_, by rw [nI_1], L3, KJ_trans y2 (KJ_trans K2 K3)⟩
  · rintro _ ⟨ν, rfl, y1, y2⟩
    have hrν := KJ_RV y2 hr
    have e3 : ν.1 0 3 = nI V.1.1 := hrν.1.1
    show Ok ((gA (wr c m ν) 9 0 m).bind _) _
    simp only [wr_g0, bind_s, rd_3, e3]
    rw [if_pos (Int32.le_refl _)]
    rw [List.take_of_length_le (by omega)] at y1
    exact ok_some ⟨ν, rfl, y1, y2⟩
/-- the union of claims, one of them changed -/
theorem agr_set {L : Nat} (hL : L < 7) {cl : List (Nat × Nat)} {i : Nat} (hi : i < cl.length) (hm : ∀ q, q ∈ cl → q.1 < 2 ^ L) {mk b : Nat} (hmk : mk < 2 ^ L) : Agr L (uniS ((clR cl).eraseIdx i) ||| cubS 6 mk b) (barL L (cl.set i (mk, b))) := by
  have h26 := p2_64 hL
  intro s hs
  have hs64 : s < 64 := by omega
  unfold uniS barL
  rw [B_or, B_mkS _ hs64, B_mkS _ hs64, cub_6 hL hmk hs]
  have e1 : (clR cl).eraseIdx i = clR (cl.eraseIdx i) := by
    unfold clR
    rw [List.eraseIdx_eq_take_drop_succ, List.eraseIdx_eq_take_drop_succ, List.map_append, List.map_take, List.map_drop]
  have e2 : cl.set i (mk, b) = cl.take i ++ (mk, b) :: cl.drop (i + 1) := List.set_eq_take_append_cons_drop.trans (if_pos hi)
  have e3 : cl.eraseIdx i = cl.take i ++ cl.drop (i + 1) := List.eraseIdx_eq_take_drop_succ _ _
  have e4 : ∀ X : List (Nat × Nat), (∀ q, q ∈ X → q.1 < 2 ^ L) → ((clR X).any fun q => B (cubS 6 q.2.1 q.2.2) s) = X.any fun q => B (cubS L q.1 q.2) s := by
    intro X hX
    induction X with
    | nil => rfl
    | cons q X ih =>
      show (B (cubS 6 q.1 q.2) s || (clR X).any _) = _
      rw [ih (fun r hr => hX r (List.mem_cons_of_mem _ hr)), List.any_cons, cub_6 hL (hX q List.mem_cons_self) hs]
  rw [e1, e4 _ (fun q hq => hm q (List.mem_of_mem_eraseIdx hq)), e2, e3, List.any_append, List.any_append, List.any_cons]
  cases (cl.take i).any _ <;> cases (cl.drop (i + 1)).any _ <;> cases B (cubS L mk b) s <;> rfl
theorem ss_loosen {ce : Ce} {nx : Nat} {A : Nat → Nat} {κ : Nat × Nat × Nat} {V : Sv} (h : SS ce nx A κ V) {j : Nat} (hi : IV j V) (hw : Wk V) {i : Nat} {u : Nat × Nat} (hu : V.2.2.2.2.2[i]? = some u) : Ok (m_X8_loosenClaim ce (A 0) (nI i)) (fun z => z.1 = nI ((looF V i u).1 * 64 + (looF V i u).2) ∧ ∃ A2 κ2, SS z.2 nx A2 κ2 (clmV V (V.2.2.2.2.2.set i (looF V i u))) ∧ Ev ce nx A κ z.2 0 0 A2 κ2) := by
  obtain ⟨mp, g1, g2⟩ := ss_mach h
  have hL := IV_L hi
  have h26 := p2_64 hL
  have h8 := hi.2.2.1.2.1
  have h15 : V.2.1 15 < 3 := hw.1.2.2.2.1
  have hR := ss_cls h
  have hAC := ss_act h
  have hlt := ss_lt h
  have hcl := hi.2.2.2.2.2.2.2.2
  have h12 := hi.2.2.2.2.2.2.2.1
  have hil : i < V.2.2.2.2.2.length := (List.getElem?_eq_some_iff.mp hu).1
  obtain ⟨hu1, hu2⟩ := hcl u (List.mem_of_getElem? hu)
  have hlen := ordL_len (kkf (V.2.1 15) V.2.2.2.2.1) V.1.1
  have hcu : (clR V.2.2.2.2.2)[i]? = some (0, u.1, u.2) := by rw [clR_get, hu]; rfl
  unfold m_X8_loosenClaim
  rw [ss_r14 h, bind_s, cw_rcv hR, bind_s, cw_unionBut hR (by omega), bind_s, bind_s, cw_rcv hR, bind_s, cw_cubeAt hR hcu, bind_s]
  refine ok_call (P := fun o => o = nI ((looF V i u).1 * 64 + (looF V i u).2)) (ok_cnt 0 V.1.1 (fun k z => z = (nI ((((ordL (kkf (V.2.1 15) V.2.2.2.2.1) V.1.1).take k).foldl (looS V.1 (V.1.2.2.2.2 (V.2.1 8)) V.2.2.2.2.2 i) u).1 * 64 + (((ordL (kkf (V.2.1 15) V.2.2.2.2.1) V.1.1).take k).foldl (looS V.1 (V.1.2.2.2.2 (V.2.1 8)) V.2.2.2.2.2 i) u).2), nI k)) (by omega) (Nat.zero_le _) (by rw [List.take_zero]; rfl) ?_ ?_) ?_
  · rintro k _ hk rfl
    have hx : (ordL (kkf (V.2.1 15) V.2.2.2.2.1) V.1.1)[k]? = some ((ordL (kkf (V.2.1 15) V.2.2.2.2.1) V.1.1)[k]'(by omega)) := List.getElem?_eq_getElem _
    generalize (ordL (kkf (V.2.1 15) V.2.2.2.2.1) V.1.1)[k]'(by omega) = x at hx
    have hx6 : x < V.1.1 := ordL_lt _ (List.mem_of_getElem? hx)
    have hs := looFl_ok (M := V.1) (g := V.1.2.2.2.2 (V.2.1 8)) (cl := V.2.2.2.2.2) (i := i) ((ordL (kkf (V.2.1 15) V.2.2.2.2.1) V.1.1).take k) u hu1 hu2
    rw [take_s hx, List.foldl_append, List.foldl_cons, List.foldl_nil]
    generalize ((ordL (kkf (V.2.1 15) V.2.2.2.2.1) V.1.1).take k).foldl (looS V.1 (V.1.2.2.2.2 (V.2.1 8)) V.2.2.2.2.2 i) u = s at hs
    have sle : s.2 ≤ s.1 := by rw [← hs.2]; exact Nat.and_le_right
    have ol1 := offN_le s.1 x
    have ol2 := offN_le s.2 x
    show Ok ((gA ce 6 0 (A 0)).bind _) _
    have hagr := agr_set hL hil (fun q hq => (hcl q hq).1) (mk := offN s.1 x) (b := offN s.2 x) (by omega)
    have hj := jdg_lt V.1 (V.1.2.2.2.2 (V.2.1 8)) (barL V.1.1 (V.2.2.2.2.2.set i (offN s.1 x, offN s.2 x)))
    simp only [g1, bind_s, (cm_states g2).2.1, ss_r13 h, ss_r2 h, ca_rcv hAC, ca_letterAt hAC hL (show V.2.1 15 < 2 ^ 31 by omega) hw.2.2.1 hx, cc_without (show s.1 < 64 by omega) (show s.2 < 64 by omega) (show x < 6 by omega), cc_statesOf _ (show offN s.1 x < 64 by omega) (show offN s.2 x < 64 by omega), ss_rcv h, ss_judge h h8, jdg_agr hi.1 hagr (WM_aim hi)]
    rw [if_le (by omega) (by omega), if_neg (by omega), if_z (by omega)]
    unfold looS
    rw [offN_sub hs.2]
    by_cases hz : jdg V.1 (V.1.2.2.2.2 (V.2.1 8)) (barL V.1.1 (V.2.2.2.2.2.set i (offN s.1 x, offN s.2 x))) = 0
    · rw [if_pos hz, if_pos hz]
      exact ok_some (by rw [nI_1])
    · rw [if_neg hz, if_neg hz]
      exact ok_some (by rw [nI_1])
  · rintro _ rfl
    show Ok ((gA ce 6 0 (A 0)).bind _) _
    simp only [g1, bind_s, (cm_states g2).2.1]
    rw [if_pos (Int32.le_refl _), List.take_of_length_le (by omega)]
    exact ok_some rfl
  · rintro _ rfl
    obtain ⟨f1, f2⟩ := looFl_ok (M := V.1) (g := V.1.2.2.2.2 (V.2.1 8)) (cl := V.2.2.2.2.2) (i := i) (ordL (kkf (V.2.1 15) V.2.2.2.2.1) V.1.1) u hu1 hu2
    have f1 : (looF V i u).1 < 2 ^ V.1.1 := f1
    have f2 : (looF V i u).2 &&& (looF V i u).1 = (looF V i u).2 := f2
    have fle : (looF V i u).2 ≤ (looF V i u).1 := by rw [← f2]; exact Nat.and_le_right
    rw [bind_s, cw_rcv hR, bind_s]
    have hD := d4_of hlt.2 9 (by omega)
    refine ok_call (cw_change hR hD (p := i) (by unfold clR; rw [List.length_map]; exact hil) hcu (show (looF V i u).1 < 64 by omega) (show (looF V i u).2 < 64 by omega)) ?_
    rintro ⟨u0, d⟩ ⟨t1, t2⟩
    have es : (clR V.2.2.2.2.2).set i (0, (looF V i u).1, (looF V i u).2) = clR (V.2.2.2.2.2.set i (looF V i u)) := by
      unfold clR
      rw [List.map_set]
    rw [es] at t1
    obtain ⟨A2, κ2, q1, q2⟩ := ss_clms (M := V.1) (n := V.2.1) (fr := V.2.2.1) (ob := V.2.2.2.1) (fl := V.2.2.2.2.1) (cl := V.2.2.2.2.2) (cl2 := V.2.2.2.2.2.set i (looF V i u)) h (d := d) (K := 0) (S := 0) ⟨A 10, A 11, A 12, κ.2.2, t1, hD, Or.inl ⟨rfl, rfl, rfl, rfl, rfl, rfl⟩, fun b h1 h2 h3 h4 _ => t2 b h1 h2 h3 h4⟩
    exact ok_some ⟨rfl, A2, κ2, q1, q2⟩
