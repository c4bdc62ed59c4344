def cpI (c : Ce) (a0 : Nat) (sp : Int32) (a : Nat) (dp n : Int32) : Option Ce := match c a0, c a with
  | some (.inl (.int, n0, .inl f)), some (.inl (.int, n1, .inl g)) => if sp < 0 ∨ dp < 0 ∨ n < 0 ∨ n0 < sp.toNatClampNeg + n.toNatClampNeg ∨ n1 < dp.toNatClampNeg + n.toNatClampNeg then none else some (gx_up c a (.inl (.int, n1, .inl (va_cpy f g sp.toNatClampNeg dp.toNatClampNeg n.toNatClampNeg))))
  | _, _ => none
theorem cpI_sp {c c' : Ce} {a0 a : Nat} {sp dp n : Int32} (h : cpI c a0 sp a dp n = some c') : ∃ n0 n1 f g, c a0 = some (.inl (.int, n0, .inl f)) ∧ c a = some (.inl (.int, n1, .inl g)) ∧ ¬ sp < 0 ∧ ¬ dp < 0 ∧ ¬ n < 0 ∧ sp.toNatClampNeg + n.toNatClampNeg ≤ n0 ∧ dp.toNatClampNeg + n.toNatClampNeg ≤ n1 ∧ gx_up c a (.inl (.int, n1, .inl (va_cpy f g sp.toNatClampNeg dp.toNatClampNeg n.toNatClampNeg))) = c' := by
  unfold cpI at h
  split at h
  · rename_i n0 f n1 g h1 h2
    split at h
    · cases h
    · rename_i hc
      simp only [not_or, Nat.not_lt] at hc
      exact ⟨n0, n1, f, g, h1, h2, hc.1, hc.2.1, hc.2.2.1, hc.2.2.2.1, hc.2.2.2.2, Option.some.inj h⟩
  · cases h
def cpL (c : Ce) (a0 : Nat) (sp : Int32) (a : Nat) (dp n : Int32) : Option Ce := match c a0, c a with
  | some (.inl (.long, n0, .inr (.inl f))), some (.inl (.long, n1, .inr (.inl g))) => if sp < 0 ∨ dp < 0 ∨ n < 0 ∨ n0 < sp.toNatClampNeg + n.toNatClampNeg ∨ n1 < dp.toNatClampNeg + n.toNatClampNeg then none else some (gx_up c a (.inl (.long, n1, .inr (.inl (va_cpy f g sp.toNatClampNeg dp.toNatClampNeg n.toNatClampNeg)))))
  | _, _ => none
theorem cpL_sp {c c' : Ce} {a0 a : Nat} {sp dp n : Int32} (h : cpL c a0 sp a dp n = some c') : ∃ n0 n1 f g, c a0 = some (.inl (.long, n0, .inr (.inl f))) ∧ c a = some (.inl (.long, n1, .inr (.inl g))) ∧ ¬ sp < 0 ∧ ¬ dp < 0 ∧ ¬ n < 0 ∧ sp.toNatClampNeg + n.toNatClampNeg ≤ n0 ∧ dp.toNatClampNeg + n.toNatClampNeg ≤ n1 ∧ gx_up c a (.inl (.long, n1, .inr (.inl (va_cpy f g sp.toNatClampNeg dp.toNatClampNeg n.toNatClampNeg)))) = c' := by
  unfold cpL at h
  split at h
  · rename_i n0 f n1 g h1 h2
    split at h
    · cases h
    · rename_i hc
      simp only [not_or, Nat.not_lt] at hc
      exact ⟨n0, n1, f, g, h1, h2, hc.1, hc.2.1, hc.2.2.1, hc.2.2.2.1, hc.2.2.2.2, Option.some.inj h⟩
  · cases h
def cpG (c : Ce) (a0 : Nat) (sp : Int32) (a : Nat) (dp n : Int32) : Option Ce := match c a0, c a with
  | some (.inl (.float, n0, .inr (.inr (.inl f)))), some (.inl (.float, n1, .inr (.inr (.inl g)))) => if sp < 0 ∨ dp < 0 ∨ n < 0 ∨ n0 < sp.toNatClampNeg + n.toNatClampNeg ∨ n1 < dp.toNatClampNeg + n.toNatClampNeg then none else some (gx_up c a (.inl (.float, n1, .inr (.inr (.inl (va_cpy f g sp.toNatClampNeg dp.toNatClampNeg n.toNatClampNeg))))))
  | _, _ => none
theorem cpG_sp {c c' : Ce} {a0 a : Nat} {sp dp n : Int32} (h : cpG c a0 sp a dp n = some c') : ∃ n0 n1 f g, c a0 = some (.inl (.float, n0, .inr (.inr (.inl f)))) ∧ c a = some (.inl (.float, n1, .inr (.inr (.inl g)))) ∧ ¬ sp < 0 ∧ ¬ dp < 0 ∧ ¬ n < 0 ∧ sp.toNatClampNeg + n.toNatClampNeg ≤ n0 ∧ dp.toNatClampNeg + n.toNatClampNeg ≤ n1 ∧ gx_up c a (.inl (.float, n1, .inr (.inr (.inl (va_cpy f g sp.toNatClampNeg dp.toNatClampNeg n.toNatClampNeg))))) = c' := by
  unfold cpG at h
  split at h
  · rename_i n0 f n1 g h1 h2
    split at h
    · cases h
    · rename_i hc
      simp only [not_or, Nat.not_lt] at hc
      exact ⟨n0, n1, f, g, h1, h2, hc.1, hc.2.1, hc.2.2.1, hc.2.2.2.1, hc.2.2.2.2, Option.some.inj h⟩
  · cases h
section JMORE
variable {G : GC} {own : String} {cc : ByteArray} {nL0 F L : Nat} {kc ks nx : Nat} {ce ce' : Ce} {pc pc' : Nat} {lv lv' : List (Nat × Value)} {st : List Value}
theorem j_cpI (C : Cx G own cc nL0 F L) {index a0 a : Nat} {sp dp n : Int32} (d : decode cc pc = .ok (.invokestatic index, 3)) (hw : Cond.methodLink own index arraycopyName ∈ lw_gd) (hw1 : Cond.native arraycopyName ∈ lw_gd) (hw2 : Cond.static arraycopyName ∈ lw_gd) (hw3 : Cond.initialized "java/lang/System" ∈ lw_gd) (hfr : 1 ≤ F ∧ 60 ≤ L) (hrm : (st.map fun v => v.category).sum ≤ 8) (h : cpI ce a0 sp a dp n = some ce') (hp : pc + 3 = pc') (k : Jd G kc ks nx ce' pc' lv st) : Jd G kc ks nx ce pc lv (.int n :: .int dp :: .ref a :: .int sp :: .ref a0 :: st) := by
  obtain ⟨X, nL, p, l, e, R, s, m, args, below, meth, c, Q⟩ := G
  obtain ⟨rfl, hx, hb, hml, hown, hts, hK, hF, hL, hlk⟩ := C
  subst hp
  intro H locs cells slots ls hR hS hc hs hl
  obtain ⟨n0, n1, f, g, q0, q1, h1, h2, h3, h4, h5, rfl⟩ := cpI_sp h
  have nn : ∀ z : Int32, ¬ z < 0 → z.toInt = (z.toNatClampNeg : Int) := by
    intro z hz
    have hz0 : (0 : Int) ≤ z.toInt := by
      have := Int32.not_lt.mp hz
      simpa using Int32.le_iff_toInt_le.mp this
    show z.toInt = ((z.toInt.toNat : Nat) : Int)
    omega
  intro T hT Xs
  have hc0 : H[a0]? = some (vp_cell (X.2.1 .int) (n0, .inl f)) := (hR.2.2 _ _ q0).2
  have hc1 : H[a]? = some (vp_cell (X.2.1 .int) (n1, .inl g)) := (hR.2.2 _ _ q1).2
  obtain ⟨-, k0, hk0, cm0, hkk0⟩ := (hK.1.2 0 _ rfl).1 n0 (fun j => Value.int (f j))
  have hfw : nativeFrameWords "java/lang/System" "arraycopy" 5 + 11 ≤ 52 := by decide
  obtain ⟨vm', X', step⟩ := Xs.arraycopy hx hown (hts _ hw) (hts _ hw1) (hts _ hw2) (hts _ hw3) (src := a0) (dst := a) (cs := vp_cell (X.2.1 .int) (n0, .inl f)) (cd := vp_cell (X.2.1 .int) (n1, .inl g)) (srcPos := sp) (destPos := dp) (n := n) (by rw [hT]; exact hc0) (by rw [hT]; exact hc1)
    (fun _ h => by cases h) (fun _ h => by cases h) (fun h => by cases h) (fun h => by cases h) hk0 hk0 hkk0 hkk0 (by simp [refKind]) h1 h2 h3
    (by rw [nn sp h1, nn n h3]; show ¬ _ > ((arrV (X.2.1 .int) n0 (fun j => Value.int (f j))).slots.size : Int); rw [arrV_size]; omega)
    (by rw [nn dp h2, nn n h3]; show ¬ _ > ((arrV (X.2.1 .int) n1 (fun j => Value.int (g j))).slots.size : Int); rw [arrV_size]; omega)
    (fun vm1 _ i hi => by
      have e : (vp_cell (X.2.1 .int) (n0, .inl f)).slots.getD (sp.toNatClampNeg + i) .null = Value.int (f (sp.toNatClampNeg + i)) := by
        show (arrV (X.2.1 .int) n0 (fun j => Value.int (f j))).slots.getD _ _ = _
        rw [Array.getD_eq_getD_getElem?, arrV_read _ _ (by omega)]
        rfl
      refine ⟨?_, ?_⟩
      · rw [e]
        rfl
      · rw [e]
        exact trivial)
    (g := F0 m pc ls (.int n :: .int dp :: .ref a :: .int sp :: .ref a0 :: st)) rfl (hl.1.trans hml.symm) (rest := st) rfl (by rw [hb]; exact d) (Nat.le_trans hfr.1 hF) (by show 2 * 0 + _ + _ ≤ _; omega)
  have e1 : copied (vp_cell (X.2.1 .int) (n0, .inl f)) (vp_cell (X.2.1 .int) (n1, .inl g)) sp dp n = vp_cell (X.2.1 .int) (n1, .inl (va_cpy f g sp.toNatClampNeg dp.toNatClampNeg n.toNatClampNeg)) := va_copied (fun z => Value.int z) _ _ f g h4
  rw [e1] at X' step
  have hlt : a < H.size := (Array.getElem?_eq_some_iff.mp hc1).1
  generalize hcn : vp_cell (X.2.1 .int) (n1, .inl (va_cpy f g sp.toNatClampNeg dp.toNatClampNeg n.toNatClampNeg)) = cn at X' step
  have hheap : ((T.setVm vm').setCell a cn).heap = H.setIfInBounds a cn := by rw [← hT]; rfl
  have oq : ∀ q : Nat, q ≠ a → (H.setIfInBounds a cn)[q]? = H[q]? := fun q hq => by simp [Array.getElem?_setIfInBounds, Ne.symm hq]
  have z1 : (H.setIfInBounds a cn).size = H.size := by simp
  have hAa : gx_A X a := (hR.2.2 _ _ q1).1
  obtain ⟨t, a1, b1⟩ := k _ _ cells slots ls (hR.set q1 (show (H.setIfInBounds a cn)[a]? = some (vp_cell _ _) by rw [hcn]; simp [Array.getElem?_setIfInBounds, hlt]) z1 oq) ⟨by rw [z1]; exact hS.1, fun q g1 g2 => by
      rw [oq q (fun e => g2 (by rw [e]; exact hAa))]
      exact hS.2.1 q g1 g2, fun q hq => by
      rcases List.mem_append.mp hq with h | h
      · exact hS.2.2 q h
      · obtain ⟨z, -, hz⟩ := List.mem_map.mp h
        rw [← hz]
        exact hAa⟩ hc hs hl _ hheap X'
  exact ⟨t, step t a1, b1⟩
theorem j_cpL (C : Cx G own cc nL0 F L) {index a0 a : Nat} {sp dp n : Int32} (d : decode cc pc = .ok (.invokestatic index, 3)) (hw : Cond.methodLink own index arraycopyName ∈ lw_gd) (hw1 : Cond.native arraycopyName ∈ lw_gd) (hw2 : Cond.static arraycopyName ∈ lw_gd) (hw3 : Cond.initialized "java/lang/System" ∈ lw_gd) (hfr : 1 ≤ F ∧ 60 ≤ L) (hrm : (st.map fun v => v.category).sum ≤ 8) (h : cpL ce a0 sp a dp n = some ce') (hp : pc + 3 = pc') (k : Jd G kc ks nx ce' pc' lv st) : Jd G kc ks nx ce pc lv (.int n :: .int dp :: .ref a :: .int sp :: .ref a0 :: st) := by
  obtain ⟨X, nL, p, l, e, R, s, m, args, below, meth, c, Q⟩ := G
  obtain ⟨rfl, hx, hb, hml, hown, hts, hK, hF, hL, hlk⟩ := C
  subst hp
  intro H locs cells slots ls hR hS hc hs hl
  obtain ⟨n0, n1, f, g, q0, q1, h1, h2, h3, h4, h5, rfl⟩ := cpL_sp h
  have nn : ∀ z : Int32, ¬ z < 0 → z.toInt = (z.toNatClampNeg : Int) := by
    intro z hz
    have hz0 : (0 : Int) ≤ z.toInt := by
      have := Int32.not_lt.mp hz
      simpa using Int32.le_iff_toInt_le.mp this
    show z.toInt = ((z.toInt.toNat : Nat) : Int)
    omega
  intro T hT Xs
  have hc0 : H[a0]? = some (vp_cell (X.2.1 .long) (n0, .inr (.inl f))) := (hR.2.2 _ _ q0).2
  have hc1 : H[a]? = some (vp_cell (X.2.1 .long) (n1, .inr (.inl g))) := (hR.2.2 _ _ q1).2
  obtain ⟨-, k0, hk0, cm0, hkk0⟩ := (hK.1.2 1 _ rfl).1 n0 (fun j => Value.long (f j))
  have hfw : nativeFrameWords "java/lang/System" "arraycopy" 5 + 11 ≤ 52 := by decide
  obtain ⟨vm', X', step⟩ := Xs.arraycopy hx hown (hts _ hw) (hts _ hw1) (hts _ hw2) (hts _ hw3) (src := a0) (dst := a) (cs := vp_cell (X.2.1 .long) (n0, .inr (.inl f))) (cd := vp_cell (X.2.1 .long) (n1, .inr (.inl g))) (srcPos := sp) (destPos := dp) (n := n) (by rw [hT]; exact hc0) (by rw [hT]; exact hc1)
    (fun _ h => by cases h) (fun _ h => by cases h) (fun h => by cases h) (fun h => by cases h) hk0 hk0 hkk0 hkk0 (by simp [refKind]) h1 h2 h3
    (by rw [nn sp h1, nn n h3]; show ¬ _ > ((arrV (X.2.1 .long) n0 (fun j => Value.long (f j))).slots.size : Int); rw [arrV_size]; omega)
    (by rw [nn dp h2, nn n h3]; show ¬ _ > ((arrV (X.2.1 .long) n1 (fun j => Value.long (g j))).slots.size : Int); rw [arrV_size]; omega)
    (fun vm1 _ i hi => by
      have e : (vp_cell (X.2.1 .long) (n0, .inr (.inl f))).slots.getD (sp.toNatClampNeg + i) .null = Value.long (f (sp.toNatClampNeg + i)) := by
        show (arrV (X.2.1 .long) n0 (fun j => Value.long (f j))).slots.getD _ _ = _
        rw [Array.getD_eq_getD_getElem?, arrV_read _ _ (by omega)]
        rfl
      refine ⟨?_, ?_⟩
      · rw [e]
        rfl
      · rw [e]
        exact trivial)
    (g := F0 m pc ls (.int n :: .int dp :: .ref a :: .int sp :: .ref a0 :: st)) rfl (hl.1.trans hml.symm) (rest := st) rfl (by rw [hb]; exact d) (Nat.le_trans hfr.1 hF) (by show 2 * 0 + _ + _ ≤ _; omega)
  have e1 : copied (vp_cell (X.2.1 .long) (n0, .inr (.inl f))) (vp_cell (X.2.1 .long) (n1, .inr (.inl g))) sp dp n = vp_cell (X.2.1 .long) (n1, .inr (.inl (va_cpy f g sp.toNatClampNeg dp.toNatClampNeg n.toNatClampNeg))) := va_copied (fun z => Value.long z) _ _ f g h4
  rw [e1] at X' step
  have hlt : a < H.size := (Array.getElem?_eq_some_iff.mp hc1).1
  generalize hcn : vp_cell (X.2.1 .long) (n1, .inr (.inl (va_cpy f g sp.toNatClampNeg dp.toNatClampNeg n.toNatClampNeg))) = cn at X' step
  have hheap : ((T.setVm vm').setCell a cn).heap = H.setIfInBounds a cn := by rw [← hT]; rfl
  have oq : ∀ q : Nat, q ≠ a → (H.setIfInBounds a cn)[q]? = H[q]? := fun q hq => by simp [Array.getElem?_setIfInBounds, Ne.symm hq]
  have z1 : (H.setIfInBounds a cn).size = H.size := by simp
  have hAa : gx_A X a := (hR.2.2 _ _ q1).1
  obtain ⟨t, a1, b1⟩ := k _ _ cells slots ls (hR.set q1 (show (H.setIfInBounds a cn)[a]? = some (vp_cell _ _) by rw [hcn]; simp [Array.getElem?_setIfInBounds, hlt]) z1 oq) ⟨by rw [z1]; exact hS.1, fun q g1 g2 => by
      rw [oq q (fun e => g2 (by rw [e]; exact hAa))]
      exact hS.2.1 q g1 g2, fun q hq => by
      rcases List.mem_append.mp hq with h | h
      · exact hS.2.2 q h
      · obtain ⟨z, -, hz⟩ := List.mem_map.mp h
        rw [← hz]
        exact hAa⟩ hc hs hl _ hheap X'
  exact ⟨t, step t a1, b1⟩
theorem j_cpG (C : Cx G own cc nL0 F L) {index a0 a : Nat} {sp dp n : Int32} (d : decode cc pc = .ok (.invokestatic index, 3)) (hw : Cond.methodLink own index arraycopyName ∈ lw_gd) (hw1 : Cond.native arraycopyName ∈ lw_gd) (hw2 : Cond.static arraycopyName ∈ lw_gd) (hw3 : Cond.initialized "java/lang/System" ∈ lw_gd) (hfr : 1 ≤ F ∧ 60 ≤ L) (hrm : (st.map fun v => v.category).sum ≤ 8) (h : cpG ce a0 sp a dp n = some ce') (hp : pc + 3 = pc') (k : Jd G kc ks nx ce' pc' lv st) : Jd G kc ks nx ce pc lv (.int n :: .int dp :: .ref a :: .int sp :: .ref a0 :: st) := by
  obtain ⟨X, nL, p, l, e, R, s, m, args, below, meth, c, Q⟩ := G
  obtain ⟨rfl, hx, hb, hml, hown, hts, hK, hF, hL, hlk⟩ := C
  subst hp
  intro H locs cells slots ls hR hS hc hs hl
  obtain ⟨n0, n1, f, g, q0, q1, h1, h2, h3, h4, h5, rfl⟩ := cpG_sp h
  have nn : ∀ z : Int32, ¬ z < 0 → z.toInt = (z.toNatClampNeg : Int) := by
    intro z hz
    have hz0 : (0 : Int) ≤ z.toInt := by
      have := Int32.not_lt.mp hz
      simpa using Int32.le_iff_toInt_le.mp this
    show z.toInt = ((z.toInt.toNat : Nat) : Int)
    omega
  intro T hT Xs
  have hc0 : H[a0]? = some (vp_cell (X.2.1 .float) (n0, .inr (.inr (.inl f)))) := (hR.2.2 _ _ q0).2
  have hc1 : H[a]? = some (vp_cell (X.2.1 .float) (n1, .inr (.inr (.inl g)))) := (hR.2.2 _ _ q1).2
  obtain ⟨-, k0, hk0, cm0, hkk0⟩ := (hK.1.2 2 _ rfl).1 n0 (fun j => Value.float (f j))
  have hfw : nativeFrameWords "java/lang/System" "arraycopy" 5 + 11 ≤ 52 := by decide
  obtain ⟨vm', X', step⟩ := Xs.arraycopy hx hown (hts _ hw) (hts _ hw1) (hts _ hw2) (hts _ hw3) (src := a0) (dst := a) (cs := vp_cell (X.2.1 .float) (n0, .inr (.inr (.inl f)))) (cd := vp_cell (X.2.1 .float) (n1, .inr (.inr (.inl g)))) (srcPos := sp) (destPos := dp) (n := n) (by rw [hT]; exact hc0) (by rw [hT]; exact hc1)
    (fun _ h => by cases h) (fun _ h => by cases h) (fun h => by cases h) (fun h => by cases h) hk0 hk0 hkk0 hkk0 (by simp [refKind]) h1 h2 h3
    (by rw [nn sp h1, nn n h3]; show ¬ _ > ((arrV (X.2.1 .float) n0 (fun j => Value.float (f j))).slots.size : Int); rw [arrV_size]; omega)
    (by rw [nn dp h2, nn n h3]; show ¬ _ > ((arrV (X.2.1 .float) n1 (fun j => Value.float (g j))).slots.size : Int); rw [arrV_size]; omega)
    (fun vm1 _ i hi => by
      have e : (vp_cell (X.2.1 .float) (n0, .inr (.inr (.inl f)))).slots.getD (sp.toNatClampNeg + i) .null = Value.float (f (sp.toNatClampNeg + i)) := by
        show (arrV (X.2.1 .float) n0 (fun j => Value.float (f j))).slots.getD _ _ = _
        rw [Array.getD_eq_getD_getElem?, arrV_read _ _ (by omega)]
        rfl
      refine ⟨?_, ?_⟩
      · rw [e]
        rfl
      · rw [e]
        exact trivial)
    (g := F0 m pc ls (.int n :: .int dp :: .ref a :: .int sp :: .ref a0 :: st)) rfl (hl.1.trans hml.symm) (rest := st) rfl (by rw [hb]; exact d) (Nat.le_trans hfr.1 hF) (by show 2 * 0 + _ + _ ≤ _; omega)
  have e1 : copied (vp_cell (X.2.1 .float) (n0, .inr (.inr (.inl f)))) (vp_cell (X.2.1 .float) (n1, .inr (.inr (.inl g)))) sp dp n = vp_cell (X.2.1 .float) (n1, .inr (.inr (.inl (va_cpy f g sp.toNatClampNeg dp.toNatClampNeg n.toNatClampNeg)))) := va_copied (fun z => Value.float z) _ _ f g h4
  rw [e1] at X' step
  have hlt : a < H.size := (Array.getElem?_eq_some_iff.mp hc1).1
  generalize hcn : vp_cell (X.2.1 .float) (n1, .inr (.inr (.inl (va_cpy f g sp.toNatClampNeg dp.toNatClampNeg n.toNatClampNeg)))) = cn at X' step
  have hheap : ((T.setVm vm').setCell a cn).heap = H.setIfInBounds a cn := by rw [← hT]; rfl
  have oq : ∀ q : Nat, q ≠ a → (H.setIfInBounds a cn)[q]? = H[q]? := fun q hq => by simp [Array.getElem?_setIfInBounds, Ne.symm hq]
  have z1 : (H.setIfInBounds a cn).size = H.size := by simp
  have hAa : gx_A X a := (hR.2.2 _ _ q1).1
  obtain ⟨t, a1, b1⟩ := k _ _ cells slots ls (hR.set q1 (show (H.setIfInBounds a cn)[a]? = some (vp_cell _ _) by rw [hcn]; simp [Array.getElem?_setIfInBounds, hlt]) z1 oq) ⟨by rw [z1]; exact hS.1, fun q g1 g2 => by
      rw [oq q (fun e => g2 (by rw [e]; exact hAa))]
      exact hS.2.1 q g1 g2, fun q hq => by
      rcases List.mem_append.mp hq with h | h
      · exact hS.2.2 q h
      · obtain ⟨z, -, hz⟩ := List.mem_map.mp h
        rw [← hz]
        exact hAa⟩ hc hs hl _ hheap X'
  exact ⟨t, step t a1, b1⟩
theorem j_ldcwf (C : Cx G own cc nL0 F L) {index : Nat} {v : UInt32} (d : decode cc pc = .ok (.ldc_w index, 3)) (hw : Cond.constantFloat own index v ∈ lw_gd) (hp : pc + 3 = pc') (k : Jd G kc ks nx ce pc' lv (.float v :: st)) : Jd G kc ks nx ce pc lv (st) := by
  obtain ⟨X, nL, p, l, e, R, s, m, args, below, meth, c, Q⟩ := G
  obtain ⟨rfl, hx, hb, hml, hown, hts, hK, hF, hL, hlk⟩ := C
  subst hp
  intro H locs cells slots ls hR hS hc hs hl
  intro T hT Xs
  obtain ⟨t, a1, b1⟩ := k H locs cells slots ls hR hS hc hs hl T hT Xs
  obtain ⟨k0, cf, hk, hcf, hcp⟩ := Cond.constantFloat_spec hown (hts _ hw)
  obtain ⟨k', hk', he⟩ := Xs.warmed.alike.2.2 _ _ hk
  refine ⟨t, ?_, b1⟩
  subst hb
  jvm_step Xs.here [hx, d, ldc_w.wp_float (s := T) (f := F0 m pc ls st) Xs.here.top hk' (by rw [he]; exact hcf) hcp]
  exact a1
theorem j_f2raw (C : Cx G own cc nL0 F L) {index : Nat} {v : UInt32} (d : decode cc pc = .ok (.invokestatic index, 3)) (hw : Cond.methodLink own index ⟨"java/lang/Float", "floatToRawIntBits", "(F)I"⟩ ∈ lw_gd) (hw1 : Cond.native ⟨"java/lang/Float", "floatToRawIntBits", "(F)I"⟩ ∈ lw_gd) (hw2 : Cond.static ⟨"java/lang/Float", "floatToRawIntBits", "(F)I"⟩ ∈ lw_gd) (hw3 : Cond.initialized "java/lang/Float" ∈ lw_gd) (hfr : 1 ≤ F ∧ 60 ≤ L) (hrm : (st.map fun v => v.category).sum ≤ 8) (hp : pc + 3 = pc') (k : Jd G kc ks nx ce pc' lv (.int v.toInt32 :: st)) : Jd G kc ks nx ce pc lv (.float v :: st) := by
  obtain ⟨X, nL, p, l, e, R, s, m, args, below, meth, c, Q⟩ := G
  obtain ⟨rfl, hx, hb, hml, hown, hts, hK, hF, hL, hlk⟩ := C
  subst hp
  intro H locs cells slots ls hR hS hc hs hl
  exact vn_f2i hx hb (hml.trans hl.1.symm) hown (hts _ hw) (hts _ hw1) (hts _ hw2) (hts _ hw3) (Nat.le_trans hfr.1 hF) (by omega) d (k H locs cells slots ls hR hS hc hs hl)
theorem j_d2raw (C : Cx G own cc nL0 F L) {index : Nat} {v : UInt64} (d : decode cc pc = .ok (.invokestatic index, 3)) (hw : Cond.methodLink own index ⟨"java/lang/Double", "doubleToRawLongBits", "(D)J"⟩ ∈ lw_gd) (hw1 : Cond.native ⟨"java/lang/Double", "doubleToRawLongBits", "(D)J"⟩ ∈ lw_gd) (hw2 : Cond.static ⟨"java/lang/Double", "doubleToRawLongBits", "(D)J"⟩ ∈ lw_gd) (hw3 : Cond.initialized "java/lang/Double" ∈ lw_gd) (hfr : 1 ≤ F ∧ 60 ≤ L) (hrm : (st.map fun v => v.category).sum ≤ 8) (hp : pc + 3 = pc') (k : Jd G kc ks nx ce pc' lv (.long v.toInt64 :: st)) : Jd G kc ks nx ce pc lv (.double v :: st) := by
  obtain ⟨X, nL, p, l, e, R, s, m, args, below, meth, c, Q⟩ := G
  obtain ⟨rfl, hx, hb, hml, hown, hts, hK, hF, hL, hlk⟩ := C
  subst hp
  intro H locs cells slots ls hR hS hc hs hl
  exact vn_d2l hx hb (hml.trans hl.1.symm) hown (hts _ hw) (hts _ hw1) (hts _ hw2) (hts _ hw3) (Nat.le_trans hfr.1 hF) (by omega) d (k H locs cells slots ls hR hS hc hs hl)
theorem j_cloneL (C : Cx G own cc nL0 F L) {index a n : Nat} {f : Nat → Int64} (d : decode cc pc = .ok (.invokevirtual index, 3)) (hw : Cond.methodLink own index ⟨"[J", "clone", "()Ljava/lang/Object;"⟩ ∈ lw_gd) (hw1 : Cond.sameMethod "[J" "java/lang/Object" "clone" "()Ljava/lang/Object;" ∈ lw_gd) (hw2 : Cond.native ⟨"java/lang/Object", "clone", "()Ljava/lang/Object;"⟩ ∈ lw_gd) (hw3 : Cond.instanceMethod ⟨"java/lang/Object", "clone", "()Ljava/lang/Object;"⟩ ∈ lw_gd) (hw4 : Cond.selects "[J" ⟨"[J", "clone", "()Ljava/lang/Object;"⟩ ⟨"java/lang/Object", "clone", "()Ljava/lang/Object;"⟩ ∈ lw_gd) (hfr : 1 ≤ F ∧ 60 ≤ L) (hrm : (st.map fun v => v.category).sum ≤ 8) (h : ce a = some (.inl (.long, n, .inr (.inl f)))) (hp : pc + 3 = pc') (k : Jd G kc ks (nx + 1) (gx_up ce nx (.inl (.long, n, .inr (.inl f)))) pc' lv (.ref nx :: st)) : Jd G (kc + 1) (ks + n) nx ce pc lv (.ref a :: st) := by
  obtain ⟨X, nL, p, l, e, R, s, m, args, below, meth, c, Q⟩ := G
  obtain ⟨rfl, hx, hb, hml, hown, hts, hK, hF, hL, hlk⟩ := C
  subst hp
  intro H locs cells slots ls hR hS hc hs hl
  obtain ⟨hnx, hb0, hRR⟩ := id hR
  have h5 : s.vm.findClass "[J" = some (X.2.1 .long) := (hK.1.2 1 _ rfl).2
  obtain ⟨c0, t0', f1, f2, f3⟩ := Cond.castable_spec (va_Nw.use (A := args) rfl hK.2.2.2.2.2.2.2.2.2.1)
  cases h5.symm.trans f1
  intro T hT Xs
  have hcellT : T.heap[a]? = some (vp_cell (X.2.1 .long) (n, .inr (.inl f))) := by rw [hT]; exact (hR.2.2 _ _ h).2
  obtain ⟨-, kA, hkA, comp, hkind⟩ := State.isArrayOf_alike Xs.warmed.alike ((hK.1.2 1 _ rfl).1 0 (fun _ => .null))
  obtain ⟨-, kS, hkS, compS, hkindS⟩ := (hK.1.2 1 _ rfl).1 0 (fun _ => .null)
  have hsz : (vp_cell (X.2.1 .long) (n, .inr (.inl f))).slots.size = n := arrV_size _ _ _
  obtain ⟨vm', X', stp⟩ := Xs.cloneArray hx hown (hts _ hw) (hts _ hw1) (hts _ hw2) (hts _ hw3) (hts _ hw4) (a := a) (cell := vp_cell (X.2.1 .long) (n, .inr (.inl f))) hcellT (fun k h => by cases h) (fun h => by cases h) h5 f2 f3
    (fun i v hv => by
      have hk' : T.vm.classes[X.2.1 .long]? = some kA := hkA
      have hv2 : v = Value.long (f i) := by
        have hi : i < n := by rw [← hsz]; exact (Array.getElem?_eq_some_iff.mp hv).1
        have := (arrV_read (X.2.1 .long) (fun j => Value.long (f j)) hi).symm.trans hv
        exact (Option.some.inj this).symm
      rw [hv2]
      show T.fitsSlot (X.2.1 .long) .none i (Value.long (f i)) = true
      simp [State.fitsSlot, State.slotType?, hk', hkind, fits])
    (g := F0 m pc ls (.ref a :: st)) rfl (hl.1.trans hml.symm) rfl (by rw [hb]; exact d) (Nat.le_trans hfr.1 hF) (by show 2 * 0 + _ + 14 ≤ _; omega) (by omega) (by rw [hsz]; omega) (hloader := Vm.clonesLoader_of_array hkS hkindS)
  have hcellE : ({ cls := (vp_cell (X.2.1 .long) (n, .inr (.inl f))).cls, slots := (vp_cell (X.2.1 .long) (n, .inr (.inl f))).slots } : Cell) = vp_cell (X.2.1 .long) (n, .inr (.inl f)) := rfl
  rw [hcellE, hsz] at X'
  obtain ⟨t, b1, b2⟩ := k (H.push (vp_cell (X.2.1 .long) (n, .inr (.inl f)))) locs (cells + 1) (slots + n) ls (hR.push (show (H.push _)[nx]? = some (vp_cell _ _) by rw [← hnx, Array.getElem?_push_size]) (by rw [Array.size_push, hnx]) (fun q hq => by rw [Array.getElem?_push, if_neg (by omega)])) ⟨Nat.le_trans hS.1 (by rw [Array.size_push]; omega), fun q g1 g2 => by
      have := hS.1
      rw [Array.getElem?_push, if_neg (by omega)]
      exact hS.2.1 q g1 g2, hS.2.2⟩ (by omega) (by omega) hl ((T.setVm vm').pushCell (vp_cell (X.2.1 .long) (n, .inr (.inl f)))) (by rw [← hT]; rfl) X'
  refine ⟨t, stp t ?_, b2⟩
  rw [hcellE, hT, hnx]
  exact b1
theorem j_castL (C : Cx G own cc nL0 F L) {index a n : Nat} {f : Nat → Int64} (d : decode cc pc = .ok (.checkcast index, 3)) (hw : Cond.classLink own index "[J" ∈ lw_gd) (h : ce a = some (.inl (.long, n, .inr (.inl f)))) (hp : pc + 3 = pc') (k : Jd G kc ks nx ce pc' lv (.ref a :: st)) : Jd G kc ks nx ce pc lv (.ref a :: st) := by
  obtain ⟨X, nL, p, l, e, R, s, m, args, below, meth, c, Q⟩ := G
  obtain ⟨rfl, hx, hb, hml, hown, hts, hK, hF, hL, hlk⟩ := C
  subst hp
  intro H locs cells slots ls hR hS hc hs hl
  have h5 : s.vm.findClass "[J" = some (X.2.1 .long) := (hK.1.2 1 _ rfl).2
  exact va_castA (D := X.1) (cl := vwCl) (ws := [(a, .inl (X.2.1 .long, n, .inr (.inl f)))]) hx hb hown (hts _ hw) (fun j q hq => by
    have hz : j < 1 := (List.getElem?_eq_some_iff.mp hq).1
    rw [show j = 0 by omega] at hq
    cases hq
    exact (hR.2.2 _ _ h).2) 0 rfl h5 d (k H locs cells slots ls hR hS hc hs hl)
theorem j_cloneI (C : Cx G own cc nL0 F L) {index a n : Nat} {f : Nat → Int32} (d : decode cc pc = .ok (.invokevirtual index, 3)) (hw : Cond.methodLink own index ⟨"[I", "clone", "()Ljava/lang/Object;"⟩ ∈ lw_gd) (hw1 : Cond.sameMethod "[I" "java/lang/Object" "clone" "()Ljava/lang/Object;" ∈ lw_gd) (hw2 : Cond.native ⟨"java/lang/Object", "clone", "()Ljava/lang/Object;"⟩ ∈ lw_gd) (hw3 : Cond.instanceMethod ⟨"java/lang/Object", "clone", "()Ljava/lang/Object;"⟩ ∈ lw_gd) (hw4 : Cond.selects "[I" ⟨"[I", "clone", "()Ljava/lang/Object;"⟩ ⟨"java/lang/Object", "clone", "()Ljava/lang/Object;"⟩ ∈ lw_gd) (hfr : 1 ≤ F ∧ 60 ≤ L) (hrm : (st.map fun v => v.category).sum ≤ 8) (h : ce a = some (.inl (.int, n, .inl f))) (hp : pc + 3 = pc') (k : Jd G kc ks (nx + 1) (gx_up ce nx (.inl (.int, n, .inl f))) pc' lv (.ref nx :: st)) : Jd G (kc + 1) (ks + n) nx ce pc lv (.ref a :: st) := by
  obtain ⟨X, nL, p, l, e, R, s, m, args, below, meth, c, Q⟩ := G
  obtain ⟨rfl, hx, hb, hml, hown, hts, hK, hF, hL, hlk⟩ := C
  subst hp
  intro H locs cells slots ls hR hS hc hs hl
  obtain ⟨hnx, hb0, hRR⟩ := id hR
  have h5 : s.vm.findClass "[I" = some (X.2.1 .int) := (hK.1.2 0 _ rfl).2
  obtain ⟨c0, t0', f1, f2, f3⟩ := Cond.castable_spec (va_Nw.use (A := args) rfl hK.2.2.2.2.2.2.2.2.2.2)
  cases h5.symm.trans f1
  intro T hT Xs
  have hcellT : T.heap[a]? = some (vp_cell (X.2.1 .int) (n, .inl f)) := by rw [hT]; exact (hR.2.2 _ _ h).2
  obtain ⟨-, kA, hkA, comp, hkind⟩ := State.isArrayOf_alike Xs.warmed.alike ((hK.1.2 0 _ rfl).1 0 (fun _ => .null))
  obtain ⟨-, kS, hkS, compS, hkindS⟩ := (hK.1.2 0 _ rfl).1 0 (fun _ => .null)
  have hsz : (vp_cell (X.2.1 .int) (n, .inl f)).slots.size = n := arrV_size _ _ _
  obtain ⟨vm', X', stp⟩ := Xs.cloneArray hx hown (hts _ hw) (hts _ hw1) (hts _ hw2) (hts _ hw3) (hts _ hw4) (a := a) (cell := vp_cell (X.2.1 .int) (n, .inl f)) hcellT (fun k h => by cases h) (fun h => by cases h) h5 f2 f3
    (fun i v hv => by
      have hk' : T.vm.classes[X.2.1 .int]? = some kA := hkA
      have hv2 : v = Value.int (f i) := by
        have hi : i < n := by rw [← hsz]; exact (Array.getElem?_eq_some_iff.mp hv).1
        have := (arrV_read (X.2.1 .int) (fun j => Value.int (f j)) hi).symm.trans hv
        exact (Option.some.inj this).symm
      rw [hv2]
      show T.fitsSlot (X.2.1 .int) .none i (Value.int (f i)) = true
      simp [State.fitsSlot, State.slotType?, hk', hkind, fits])
    (g := F0 m pc ls (.ref a :: st)) rfl (hl.1.trans hml.symm) rfl (by rw [hb]; exact d) (Nat.le_trans hfr.1 hF) (by show 2 * 0 + _ + 14 ≤ _; omega) (by omega) (by rw [hsz]; omega) (hloader := Vm.clonesLoader_of_array hkS hkindS)
  have hcellE : ({ cls := (vp_cell (X.2.1 .int) (n, .inl f)).cls, slots := (vp_cell (X.2.1 .int) (n, .inl f)).slots } : Cell) = vp_cell (X.2.1 .int) (n, .inl f) := rfl
  rw [hcellE, hsz] at X'
  obtain ⟨t, b1, b2⟩ := k (H.push (vp_cell (X.2.1 .int) (n, .inl f))) locs (cells + 1) (slots + n) ls (hR.push (show (H.push _)[nx]? = some (vp_cell _ _) by rw [← hnx, Array.getElem?_push_size]) (by rw [Array.size_push, hnx]) (fun q hq => by rw [Array.getElem?_push, if_neg (by omega)])) ⟨Nat.le_trans hS.1 (by rw [Array.size_push]; omega), fun q g1 g2 => by
      have := hS.1
      rw [Array.getElem?_push, if_neg (by omega)]
      exact hS.2.1 q g1 g2, hS.2.2⟩ (by omega) (by omega) hl ((T.setVm vm').pushCell (vp_cell (X.2.1 .int) (n, .inl f))) (by rw [← hT]; rfl) X'
  refine ⟨t, stp t ?_, b2⟩
  rw [hcellE, hT, hnx]
  exact b1
theorem j_castI (C : Cx G own cc nL0 F L) {index a n : Nat} {f : Nat → Int32} (d : decode cc pc = .ok (.checkcast index, 3)) (hw : Cond.classLink own index "[I" ∈ lw_gd) (h : ce a = some (.inl (.int, n, .inl f))) (hp : pc + 3 = pc') (k : Jd G kc ks nx ce pc' lv (.ref a :: st)) : Jd G kc ks nx ce pc lv (.ref a :: st) := by
  obtain ⟨X, nL, p, l, e, R, s, m, args, below, meth, c, Q⟩ := G
  obtain ⟨rfl, hx, hb, hml, hown, hts, hK, hF, hL, hlk⟩ := C
  subst hp
  intro H locs cells slots ls hR hS hc hs hl
  have h5 : s.vm.findClass "[I" = some (X.2.1 .int) := (hK.1.2 0 _ rfl).2
  exact va_castA (D := X.1) (cl := vwCl) (ws := [(a, .inl (X.2.1 .int, n, .inl f))]) hx hb hown (hts _ hw) (fun j q hq => by
    have hz : j < 1 := (List.getElem?_eq_some_iff.mp hq).1
    rw [show j = 0 by omega] at hq
    cases hq
    exact (hR.2.2 _ _ h).2) 0 rfl h5 d (k H locs cells slots ls hR hS hc hs hl)
end JMORE
def adcB {α β : Type} (o : Option (α × Ce × Nat × Nat)) (f : α × Ce × Nat × Nat → Option (β × Ce × Nat × Nat)) : Option (β × Ce × Nat × Nat) := o.bind fun q => adc q.2.2.1 q.2.2.2 (f q)
def adcK {β : Type} (k s : Nat) (f : Unit → Option (β × Ce × Nat × Nat)) : Option (β × Ce × Nat × Nat) := adc k s (f ())
theorem adcK_s {β : Type} {k s : Nat} {f : Unit → Option (β × Ce × Nat × Nat)} {q : β × Ce × Nat × Nat} (h : adcK k s f = some q) : ∃ q2, f () = some q2 ∧ q.1 = q2.1 ∧ q.2.1 = q2.2.1 ∧ q.2.2.1 = q2.2.2.1 + k ∧ q.2.2.2 = q2.2.2.2 + s := by
  obtain ⟨r, c, K, S⟩ := q
  obtain ⟨K2, S2, h1, h2, h3⟩ := adc_sp h
  exact ⟨_, h1, rfl, rfl, h2, h3⟩
theorem adcB_s {α β : Type} {o : Option (α × Ce × Nat × Nat)} {f : α × Ce × Nat × Nat → Option (β × Ce × Nat × Nat)} {q : β × Ce × Nat × Nat} (h : adcB o f = some q) : ∃ q1 q2, o = some q1 ∧ f q1 = some q2 ∧ q.1 = q2.1 ∧ q.2.1 = q2.2.1 ∧ q.2.2.1 = q2.2.2.1 + q1.2.2.1 ∧ q.2.2.2 = q2.2.2.2 + q1.2.2.2 := by
  obtain ⟨q1, h1, h2⟩ := ob h
  obtain ⟨r, c, K, S⟩ := q
  obtain ⟨K2, S2, h3, h4, h5⟩ := adc_sp h2
  exact ⟨q1, _, h1, h3, rfl, rfl, h4, h5⟩
theorem some4 {β : Type} {a : β} {b : Ce} {c d : Nat} {q : β × Ce × Nat × Nat} (h : some (a, b, c, d) = some q) : q.1 = a ∧ q.2.1 = b ∧ q.2.2.1 = c ∧ q.2.2.2 = d := by
  have h := Option.some.inj h
  subst h
  exact ⟨rfl, rfl, rfl, rfl⟩
theorem itA_Jq {σ ρ : Type} {body : Nat → Ce → σ → Option ((σ ⊕ ρ) × Ce × Nat × Nat)} {q0 : ρ × Ce × Nat × Nat} {J : Nat → Ce → σ → Nat → Nat → Prop} {n nx0 : Nat} {c0 : Ce} {s0 : σ} (step : ∀ (nx : Nat) (c : Ce) (s : σ) (q : (σ ⊕ ρ) × Ce × Nat × Nat) (K S : Nat), body nx c s = some q → (∀ s2, q.1 = Sum.inl s2 → J (nx + q.2.2.1) q.2.1 s2 K S) → (∀ o2, q.1 = Sum.inr o2 → o2 = q0.1 ∧ q.2.1 = q0.2.1 ∧ nx + q.2.2.1 = nx0 + q0.2.2.1 ∧ K = 0 ∧ S = 0) → J nx c s (K + q.2.2.1) (S + q.2.2.2)) (h : itA body n nx0 c0 s0 = some q0) : J nx0 c0 s0 q0.2.2.1 q0.2.2.2 := by
  obtain ⟨o, c', K, S⟩ := q0
  exact itA_J (o := o) (c' := c') (NX := nx0 + K) step h rfl
def nwa (n : Int32) : Option Nat := if n < 0 ∨ 2000000 < n.toNatClampNeg then none else some n.toNatClampNeg
theorem nwa_sp {n : Int32} {k : Nat} (h : nwa n = some k) : ¬ n < 0 ∧ n.toNatClampNeg = k ∧ k * 8 ≤ 536870912 := by
  unfold nwa at h
  split at h
  · cases h
  · rename_i hc
    simp only [not_or, Nat.not_lt] at hc
    have h := Option.some.inj h
    exact ⟨hc.1, h, by omega⟩
def clnL (c : Ce) (a : Nat) : Option (Nat × (Nat → Int64)) := match c a with
  | some (.inl (.long, n, .inr (.inl f))) => some (n, f)
  | _ => none
theorem clnL_sp {c : Ce} {a : Nat} {x : Nat × (Nat → Int64)} (h : clnL c a = some x) : c a = some (.inl (.long, x.1, .inr (.inl x.2))) := by
  unfold clnL at h
  split at h
  · rename_i n f hq
    cases h
    exact hq
  · cases h
def clnI (c : Ce) (a : Nat) : Option (Nat × (Nat → Int32)) := match c a with
  | some (.inl (.int, n, .inl f)) => some (n, f)
  | _ => none
theorem clnI_sp {c : Ce} {a : Nat} {x : Nat × (Nat → Int32)} (h : clnI c a = some x) : c a = some (.inl (.int, x.1, .inl x.2)) := by
  unfold clnI at h
  split at h
  · rename_i n f hq
    cases h
    exact hq
  · cases h
theorem gx_up_at (c : Ce) (a : Nat) (e : PE) : gx_up c a e a = some e := if_pos rfl
