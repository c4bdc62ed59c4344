def kst (k : Nat) : Option Unit := if k < 6 then some () else none
theorem kst_lt {k : Nat} {u : Unit} (h : kst k = some u) : k < 6 := by
  unfold kst at h
  split at h
  · assumption
  · cases h
def aSB (k : Nat) (i : Int32) : Option Int32 := if i < 0 ∨ stL.getD k 0 ≤ i.toNatClampNeg then none else some ((stB.getD k []).getD i.toNatClampNeg 0)
theorem stL_small : ∀ k, stL.getD k 0 < 8 := by
  intro k
  match k with
  | 0 => decide
  | 1 => decide
  | 2 => decide
  | 3 => decide
  | 4 => decide
  | 5 => decide
  | n + 6 => simp [stL]
section JTEXT
variable {G : GC} {own : String} {cc : ByteArray} {nL0 F L : Nat} {kc ks nx : Nat} {ce ce' : Ce} {pc pc' : Nat} {lv lv' : List (Nat × Value)} {st : List Value}
theorem j_ldcS (C : Cx G own cc nL0 F L) {k0 : Nat} (d : decode cc pc = .ok (.ldc (stI k0), 2)) (ho : own = "FencedStates$Reader") (hk : k0 < 6) (hp : pc + 2 = pc') (k : Jd G kc ks nx ce pc' lv (.ref (G.1.2.2.2.2.1 k0) :: st)) : Jd G kc ks nx ce pc lv (st) := by
  obtain ⟨X, nL, p, l, e, R, s, m, args, below, meth, c, Q⟩ := G
  obtain ⟨rfl, hx, hb, hml, hown, hts, hK, hF, hL, hlk⟩ := C
  subst hp
  intro H locs cells slots ls hR hS hc hs hl
  subst ho
  exact va_ldcS hx hb hown (hK.2.2.2.2.1.2.1 k0 hk) d (k H locs cells slots ls hR hS hc hs hl)
theorem j_sval (C : Cx G own cc nL0 F L) {k0 index : Nat} (d : decode cc pc = .ok (.getfield index, 3)) (hw : Cond.fieldLink own index "java/lang/String" "value" "[B" ∈ lw_gd) (h : kst k0 = some ()) (hp : pc + 3 = pc') (k : Jd G kc ks nx ce pc' lv (.ref (G.1.2.2.2.2.2.1 k0) :: st)) : Jd G kc ks nx ce pc lv (.ref (G.1.2.2.2.2.1 k0) :: st) := by
  obtain ⟨X, nL, p, l, e, R, s, m, args, below, meth, c, Q⟩ := G
  obtain ⟨rfl, hx, hb, hml, hown, hts, hK, hF, hL, hlk⟩ := C
  subst hp
  intro H locs cells slots ls hR hS hc hs hl
  exact vk_getf hx hb (hK.2.2.2.2.1.1.1 k0 (kst_lt h)).2.2.1 hS hown (hts _ hw) (fun _ h9 => h9) d (k H locs cells slots ls hR hS hc hs hl)
theorem j_scod (C : Cx G own cc nL0 F L) {k0 index : Nat} (d : decode cc pc = .ok (.getfield index, 3)) (hw : Cond.fieldLink own index "java/lang/String" "coder" "B" ∈ lw_gd) (h : kst k0 = some ()) (hp : pc + 3 = pc') (k : Jd G kc ks nx ce pc' lv (.int 0 :: st)) : Jd G kc ks nx ce pc lv (.ref (G.1.2.2.2.2.1 k0) :: st) := by
  obtain ⟨X, nL, p, l, e, R, s, m, args, below, meth, c, Q⟩ := G
  obtain ⟨rfl, hx, hb, hml, hown, hts, hK, hF, hL, hlk⟩ := C
  subst hp
  intro H locs cells slots ls hR hS hc hs hl
  exact vk_getf hx hb (hK.2.2.2.2.1.1.1 k0 (kst_lt h)).2.1 hS hown (hts _ hw) (fun _ h9 => h9) d (k H locs cells slots ls hR hS hc hs hl)
theorem j_scs (C : Cx G own cc nL0 F L) {index : Nat} (d : decode cc pc = .ok (.getstatic index, 3)) (hw : Cond.fieldLink own index "java/lang/String" "COMPACT_STRINGS" "Z" ∈ lw_gd) (hp : pc + 3 = pc') (k : Jd G kc ks nx ce pc' lv (.int 1 :: st)) : Jd G kc ks nx ce pc lv (st) := by
  obtain ⟨X, nL, p, l, e, R, s, m, args, below, meth, c, Q⟩ := G
  obtain ⟨rfl, hx, hb, hml, hown, hts, hK, hF, hL, hlk⟩ := C
  subst hp
  intro H locs cells slots ls hR hS hc hs hl
  exact va_gets hx hb hK.2.2.2.2.1.2.2.1 hS hown (hts _ hw) (fun _ h9 => h9) d (k H locs cells slots ls hR hS hc hs hl)
theorem j_sfm (C : Cx G own cc nL0 F L) {index : Nat} (d : decode cc pc = .ok (.getstatic index, 3)) (hw : Cond.fieldLink own index "jdk/internal/util/Preconditions" "SIOOBE_FORMATTER" "Ljava/util/function/BiFunction;" ∈ lw_gd) (hp : pc + 3 = pc') (k : Jd G kc ks nx ce pc' lv (va_rf G.1.2.2.2.2.2.2 :: st)) : Jd G kc ks nx ce pc lv (st) := by
  obtain ⟨X, nL, p, l, e, R, s, m, args, below, meth, c, Q⟩ := G
  obtain ⟨rfl, hx, hb, hml, hown, hts, hK, hF, hL, hlk⟩ := C
  subst hp
  intro H locs cells slots ls hR hS hc hs hl
  exact va_gets hx hb hK.2.2.2.2.1.2.2.2 hS hown (hts _ hw) (fun _ h9 => h9) d (k H locs cells slots ls hR hS hc hs hl)
theorem j_slen (C : Cx G own cc nL0 F L) {k0 : Nat} (d : decode cc pc = .ok (.arraylength, 1)) (h : kst k0 = some ()) (hp : pc + 1 = pc') (k : Jd G kc ks nx ce pc' lv (.int (Int32.ofNat (stL.getD k0 0)) :: st)) : Jd G kc ks nx ce pc lv (.ref (G.1.2.2.2.2.2.1 k0) :: st) := by
  obtain ⟨X, nL, p, l, e, R, s, m, args, below, meth, c, Q⟩ := G
  obtain ⟨rfl, hx, hb, hml, hown, hts, hK, hF, hL, hlk⟩ := C
  subst hp
  intro H locs cells slots ls hR hS hc hs hl
  obtain ⟨cell, h1, h2, h3, h4, h5, h6, h7⟩ := (hK.2.2.2.2.1.1.1 k0 (kst_lt h)).2.2.2
  exact W.alen (n := Int32.ofNat (stL.getD k0 0)) hx hb (by rw [hS.2.1 _ (Array.getElem?_eq_some_iff.mp h1).1 h7]; exact h1) h2 h5 rfl rfl d (k H locs cells slots ls hR hS hc hs hl)
theorem j_sald (C : Cx G own cc nL0 F L) {k0 : Nat} {i x : Int32} (d : decode cc pc = .ok (.baload, 1)) (h : kst k0 = some ()) (h9 : aSB k0 i = some x) (hp : pc + 1 = pc') (k : Jd G kc ks nx ce pc' lv (.int x :: st)) : Jd G kc ks nx ce pc lv (.int i :: .ref (G.1.2.2.2.2.2.1 k0) :: st) := by
  obtain ⟨X, nL, p, l, e, R, s, m, args, below, meth, c, Q⟩ := G
  obtain ⟨rfl, hx, hb, hml, hown, hts, hK, hF, hL, hlk⟩ := C
  subst hp
  intro H locs cells slots ls hR hS hc hs hl
  unfold aSB at h9
  split at h9
  · cases h9
  · rename_i h2
    exact va_tb hx hb (hK.2.2.2.2.1.1.1 k0 (kst_lt h)).2.2.2 hS h2 (congrArg Value.int (Option.some.inj h9)) d (k H locs cells slots ls hR hS hc hs hl)
theorem j_callSG (C : Cx G own cc nL0 F L) {y : MethodName} {bytes : ByteArray} {maxL fr lo n index : Nat} {ret : Option FieldType} {av : GX → List Value} {As rest st0 st1 : List Value} {rv : Option Value} (hs0 : Cond.static y ∈ lw_gd) (hav : av G.1 = As) (hM : CtG y bytes maxL ret fr lo av nx ce rv ce') (hy : YW y bytes maxL ret n) (hw : Cond.methodLink own index y ∈ lw_gd) (hn : As.length = n) (hst : st0 = As.reverse ++ rest) (hrm : (rest.map fun v => v.category).sum ≤ 8) (hfr : fr + 1 ≤ F ∧ 8 + (maxL + 11) + lo ≤ L) (d : decode cc pc = .ok (.invokestatic index, 3)) (hp : pc + 3 = pc') (h1 : rv.toList ++ rest = st1) (k : Jd G kc ks nx ce' pc' lv st1) : Jd G kc ks nx ce pc lv st0 := by
  obtain ⟨X, nL, p, l, e, R, s, m, args, below, meth, c, Q⟩ := G
  obtain ⟨rfl, hx, hb, hml, hown, hts, hK, hF, hL, hlk⟩ := C
  subst hp h1
  intro H locs cells slots ls hR hS hc hs hl
  have CB : CallB R s args own index y bytes maxL ret (.code y bytes maxL ret :: lw_gd) { frames := fr, cells := 0, slots := 0, locals := lo } 0 0 n := callB_of n hts (lw_goodin hy.1) rfl rfl rfl (hts _ hy.2.1) (hts _ hw) hy.2.2 ⟨Nat.le_trans hfr.1 hF, Nat.le_trans hfr.2 hL⟩
  have PRE_ : ∀ U : State, U.heap = H → s.WarmedH U.vm → va_Pc (av X) (fun U => gx_K X U ∧ gx_R X nx ce U.heap) (As : List Value).toArray U := fun U hU hW => ⟨by rw [show av X = _ from hav], gx_K.moved hK hW (by rw [hU]; exact hS.1) (fun q q1 q2 => by rw [hU]; exact hS.2.1 q q1 q2), by rw [hU]; exact hR⟩
  have HF : cells + 0 ≤ R.cells ∧ slots + 0 ≤ R.slots := ⟨by omega, by omega⟩
  have hrun := va_runS (As := As) (H := H) (locs := locs) (cells := cells) (slots := slots) (e := e) (below := below) (meth := meth) (R := R) (p := p) (c := c) (m := m) (g := F0 m pc ls st0) (rest := rest) (Ts := lw_gd) (own := own) ⟨hx, hb, hml, hown, hts⟩ (hM X l) ⟨CB, hts _ hs0⟩ ⟨fun a U g mk q => by obtain ⟨q0, qK, qR⟩ := q; exact ⟨q0, gx_K.same (V := U.calling g mk a) qK rfl rfl, qR⟩, PRE_⟩ rfl hn hl.1 hst (lv_room hrm) d HF
  have hnx := hR.1
  intro T hT Xs
  obtain ⟨v, st0', t, T', LL, g0, X', gL, e1, e2, ⟨⟨hv, hRt⟩, hz, hkk⟩, stp⟩ := hrun T hT Xs
  cases hv
  rw [g0] at hz hkk
  obtain ⟨t2, a1, b1⟩ := k T'.heap (locs ++ LL) (cells + 0) (slots + 0) ls (by rw [e1]; exact hRt) ⟨Nat.le_trans hS.1 (by rw [e1]; exact hz), fun q q1 q2 => by rw [e1, hkk q (Nat.lt_of_lt_of_le q1 hS.1) q2]; exact hS.2.1 q q1 q2, fun q hq => by
      rcases List.mem_append.mp hq with h | h
      · exact hS.2.2 q h
      · exact gL q h⟩ (by omega) (by omega) hl T' rfl X'
  exact ⟨t2, stp t2 a1, b1⟩
theorem j_callVG (C : Cx G own cc nL0 F L) {y : MethodName} {bytes : ByteArray} {maxL fr lo n index : Nat} {ret : Option FieldType} {av : GX → List Value} {As rest st0 st1 : List Value} {rv : Option Value} {k0 : Nat} (hs0 : Cond.instanceMethod y ∈ lw_gd ∧ Cond.selects "java/lang/String" y y ∈ lw_gd) (hyc : y.cls = "java/lang/String") (ha : kst k0 = some ()) (hav : av G.1 = .ref (G.1.2.2.2.2.1 k0) :: As) (hM : CtG y bytes maxL ret fr lo av nx ce rv ce') (hy : YW y bytes maxL ret n) (hw : Cond.methodLink own index y ∈ lw_gd) (hn : As.length = n) (hst : st0 = As.reverse ++ .ref (G.1.2.2.2.2.1 k0) :: rest) (hrm : (rest.map fun v => v.category).sum ≤ 8) (hfr : fr + 1 ≤ F ∧ 8 + (maxL + 11) + lo ≤ L) (d : decode cc pc = .ok (.invokevirtual index, 3)) (hp : pc + 3 = pc') (h1 : rv.toList ++ rest = st1) (k : Jd G kc ks nx ce' pc' lv st1) : Jd G kc ks nx ce pc lv st0 := by
  obtain ⟨X, nL, p, l, e, R, s, m, args, below, meth, c, Q⟩ := G
  obtain ⟨rfl, hx, hb, hml, hown, hts, hK, hF, hL, hlk⟩ := C
  subst hp h1
  intro H locs cells slots ls hR hS hc hs hl
  have CB : CallB R s args own index y bytes maxL ret (.code y bytes maxL ret :: lw_gd) { frames := fr, cells := 0, slots := 0, locals := lo } 0 0 n := callB_of n hts (lw_goodin hy.1) rfl rfl rfl (hts _ hy.2.1) (hts _ hw) hy.2.2 ⟨Nat.le_trans hfr.1 hF, Nat.le_trans hfr.2 hL⟩
  have PRE_ : ∀ U : State, U.heap = H → s.WarmedH U.vm → va_Pc (av X) (fun U => gx_K X U ∧ gx_R X nx ce U.heap) ((.ref (X.2.2.2.2.1 k0) :: As) : List Value).toArray U := fun U hU hW => ⟨by rw [show av X = _ from hav], gx_K.moved hK hW (by rw [hU]; exact hS.1) (fun q q1 q2 => by rw [hU]; exact hS.2.1 q q1 q2), by rw [hU]; exact hR⟩
  have HF : cells + 0 ≤ R.cells ∧ slots + 0 ≤ R.slots := ⟨by omega, by omega⟩
  have hrun := va_runV (As := As) (C := "java/lang/String") (b := X.2.2.2.2.1 k0) (H := H) (locs := locs) (cells := cells) (slots := slots) (e := e) (below := below) (meth := meth) (R := R) (p := p) (c := c) (m := m) (g := F0 m pc ls st0) (rest := rest) (Ts := lw_gd) (own := own) ⟨hx, hb, hml, hown, hts⟩ (hM X l) ⟨CB, hts _ hs0.1, hts _ hs0.2⟩ ⟨fun a U g mk q => by obtain ⟨q0, qK, qR⟩ := q; exact ⟨q0, gx_K.same (V := U.calling g mk a) qK rfl rfl, qR⟩, (vk_recv hK.2.2.2.2.1.1 (kst_lt ha) hS), PRE_⟩ rfl hn hl.1 hst (lv_room hrm) d HF
  have hnx := hR.1
  intro T hT Xs
  obtain ⟨v, st0', t, T', LL, g0, X', gL, e1, e2, ⟨⟨hv, hRt⟩, hz, hkk⟩, stp⟩ := hrun T hT Xs
  cases hv
  rw [g0] at hz hkk
  obtain ⟨t2, a1, b1⟩ := k T'.heap (locs ++ LL) (cells + 0) (slots + 0) ls (by rw [e1]; exact hRt) ⟨Nat.le_trans hS.1 (by rw [e1]; exact hz), fun q q1 q2 => by rw [e1, hkk q (Nat.lt_of_lt_of_le q1 hS.1) q2]; exact hS.2.1 q q1 q2, fun q hq => by
      rcases List.mem_append.mp hq with h | h
      · exact hS.2.2 q h
      · exact gL q h⟩ (by omega) (by omega) hl T' rfl X'
  exact ⟨t2, stp t2 a1, b1⟩
end JTEXT
