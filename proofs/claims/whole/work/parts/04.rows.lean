/-- a walk's surroundings: the pool's numbers, how many locals, the machine, the method's start, what is to hold at its end -/
abbrev GC : Type := GX × Nat × Program × Launch × Env × Room × State × MethodId × Array Value × List Frame × Method × Code × (State → Prop)
def Cx (G : GC) (own : String) (cc : ByteArray) (nL0 F L : Nat) : Prop := match G with
  | (X, nL, p, _, _, R, s, m, args, _, meth, c, _) => nL = nL0 ∧ p.tables.exec = Jvm.exec ∧ c.code = cc ∧ c.maxLocals = nL ∧ s.vm.findClass own = some m.cls ∧ (∀ w ∈ lw_gd, w.before args s = true) ∧ gx_K X s ∧ F ≤ R.frames ∧ L ≤ R.locals ∧ meth.locks = false
/-- the walk goes well from here: kc cells of ks slots are yet to be made -/
def Jd (G : GC) (kc ks nx : Nat) (ce : Ce) (pc : Nat) (lv : List (Nat × Value)) (st : List Value) : Prop := match G with
  | (X, nL, p, l, e, R, s, m, args, below, meth, c, Q) => ∀ (H : Heap) (locs : List Loc) (cells slots : Nat) (ls : Array Slot), gx_R X nx ce H → va_S (gx_A X) s.heap H locs → cells + kc = R.cells → slots + ks = R.slots → lv_has ls nL lv → W p l e R s m args below meth c H locs cells slots Q (F0 m pc ls st)
section JROWS
variable {G : GC} {own : String} {cc : ByteArray} {nL0 F L : Nat} {kc ks nx : Nat} {ce : Ce} {pc pc' : Nat} {lv lv' : List (Nat × Value)} {st : List Value}
theorem j_iconst (C : Cx G own cc nL0 F L) {n : Int} {v : Int32} (d : decode cc pc = .ok (.iconst n, 1)) (hv : Int32.ofInt n = v) (hp : pc + 1 = pc') (k : Jd G kc ks nx ce pc' lv (.int v :: st)) : Jd G kc ks nx ce pc lv (st) := by
  obtain ⟨X, nL, p, l, e, R, s, m, args, below, meth, c, Q⟩ := G
  obtain ⟨rfl, hx, hb, hml, hown, hts, hK, hF, hL, hlk⟩ := C
  subst hp
  intro H locs cells slots ls hR hS hc hs hl
  exact lv_iconst hx hb d hv (k H locs cells slots ls hR hS hc hs hl)
theorem j_bipush (C : Cx G own cc nL0 F L) {n : Int} {v : Int32} (d : decode cc pc = .ok (.bipush n, 2)) (hv : (Int8.ofInt n).toInt32 = v) (hp : pc + 2 = pc') (k : Jd G kc ks nx ce pc' lv (.int v :: st)) : Jd G kc ks nx ce pc lv (st) := by
  obtain ⟨X, nL, p, l, e, R, s, m, args, below, meth, c, Q⟩ := G
  obtain ⟨rfl, hx, hb, hml, hown, hts, hK, hF, hL, hlk⟩ := C
  subst hp
  intro H locs cells slots ls hR hS hc hs hl
  exact lv_bipush hx hb d hv (k H locs cells slots ls hR hS hc hs hl)
theorem j_sipush (C : Cx G own cc nL0 F L) {n : Int} {v : Int32} (d : decode cc pc = .ok (.sipush n, 3)) (hv : (Int16.ofInt n).toInt32 = v) (hp : pc + 3 = pc') (k : Jd G kc ks nx ce pc' lv (.int v :: st)) : Jd G kc ks nx ce pc lv (st) := by
  obtain ⟨X, nL, p, l, e, R, s, m, args, below, meth, c, Q⟩ := G
  obtain ⟨rfl, hx, hb, hml, hown, hts, hK, hF, hL, hlk⟩ := C
  subst hp
  intro H locs cells slots ls hR hS hc hs hl
  exact lv_sipush hx hb d hv (k H locs cells slots ls hR hS hc hs hl)
theorem j_lconst (C : Cx G own cc nL0 F L) {n : Fin 2} {v : Int64} (d : decode cc pc = .ok (.lconst n, 1)) (hv : Int64.ofNat (n : Nat) = v) (hp : pc + 1 = pc') (k : Jd G kc ks nx ce pc' lv (.long v :: st)) : Jd G kc ks nx ce pc lv (st) := by
  obtain ⟨X, nL, p, l, e, R, s, m, args, below, meth, c, Q⟩ := G
  obtain ⟨rfl, hx, hb, hml, hown, hts, hK, hF, hL, hlk⟩ := C
  subst hp
  intro H locs cells slots ls hR hS hc hs hl
  exact lv_lconst hx hb d hv (k H locs cells slots ls hR hS hc hs hl)
theorem j_ldc (C : Cx G own cc nL0 F L) {index : Nat} {v : Int32} (d : decode cc pc = .ok (.ldc index, 2)) (hw : Cond.constant own index v ∈ lw_gd) (hp : pc + 2 = pc') (k : Jd G kc ks nx ce pc' lv (.int v :: st)) : Jd G kc ks nx ce pc lv (st) := by
  obtain ⟨X, nL, p, l, e, R, s, m, args, below, meth, c, Q⟩ := G
  obtain ⟨rfl, hx, hb, hml, hown, hts, hK, hF, hL, hlk⟩ := C
  subst hp
  intro H locs cells slots ls hR hS hc hs hl
  exact lv_ldc hx hb hown (hts _ hw) d (k H locs cells slots ls hR hS hc hs hl)
theorem j_ldcw (C : Cx G own cc nL0 F L) {index : Nat} {v : Int32} (d : decode cc pc = .ok (.ldc_w index, 3)) (hw : Cond.constant own index v ∈ lw_gd) (hp : pc + 3 = pc') (k : Jd G kc ks nx ce pc' lv (.int v :: st)) : Jd G kc ks nx ce pc lv (st) := by
  obtain ⟨X, nL, p, l, e, R, s, m, args, below, meth, c, Q⟩ := G
  obtain ⟨rfl, hx, hb, hml, hown, hts, hK, hF, hL, hlk⟩ := C
  subst hp
  intro H locs cells slots ls hR hS hc hs hl
  exact lv_ldcw hx hb hown (hts _ hw) d (k H locs cells slots ls hR hS hc hs hl)
theorem j_ldc2 (C : Cx G own cc nL0 F L) {index : Nat} {v : Int64} (d : decode cc pc = .ok (.ldc2_w index, 3)) (hw : Cond.constantLong own index v ∈ lw_gd) (hp : pc + 3 = pc') (k : Jd G kc ks nx ce pc' lv (.long v :: st)) : Jd G kc ks nx ce pc lv (st) := by
  obtain ⟨X, nL, p, l, e, R, s, m, args, below, meth, c, Q⟩ := G
  obtain ⟨rfl, hx, hb, hml, hown, hts, hK, hF, hL, hlk⟩ := C
  subst hp
  intro H locs cells slots ls hR hS hc hs hl
  exact lv_ldc2 hx hb hown (hts _ hw) d (k H locs cells slots ls hR hS hc hs hl)
theorem j_ldcf (C : Cx G own cc nL0 F L) {index : Nat} {v : UInt32} (d : decode cc pc = .ok (.ldc index, 2)) (hw : Cond.constantFloat own index v ∈ lw_gd) (hp : pc + 2 = pc') (k : Jd G kc ks nx ce pc' lv (.float v :: st)) : Jd G kc ks nx ce pc lv (st) := by
  obtain ⟨X, nL, p, l, e, R, s, m, args, below, meth, c, Q⟩ := G
  obtain ⟨rfl, hx, hb, hml, hown, hts, hK, hF, hL, hlk⟩ := C
  subst hp
  intro H locs cells slots ls hR hS hc hs hl
  exact lv_ldcf hx hb hown (hts _ hw) d (k H locs cells slots ls hR hS hc hs hl)
theorem j_ldc2d (C : Cx G own cc nL0 F L) {index : Nat} {v : UInt64} (d : decode cc pc = .ok (.ldc2_w index, 3)) (hw : Cond.constantDouble own index v ∈ lw_gd) (hp : pc + 3 = pc') (k : Jd G kc ks nx ce pc' lv (.double v :: st)) : Jd G kc ks nx ce pc lv (st) := by
  obtain ⟨X, nL, p, l, e, R, s, m, args, below, meth, c, Q⟩ := G
  obtain ⟨rfl, hx, hb, hml, hown, hts, hK, hF, hL, hlk⟩ := C
  subst hp
  intro H locs cells slots ls hR hS hc hs hl
  exact lv_ldc2d hx hb hown (hts _ hw) d (k H locs cells slots ls hR hS hc hs hl)
theorem j_fconst0 (C : Cx G own cc nL0 F L)  (d : decode cc pc = .ok (.fconst 0, 1)) (hp : pc + 1 = pc') (k : Jd G kc ks nx ce pc' lv (.float FP.fconst0 :: st)) : Jd G kc ks nx ce pc lv (st) := by
  obtain ⟨X, nL, p, l, e, R, s, m, args, below, meth, c, Q⟩ := G
  obtain ⟨rfl, hx, hb, hml, hown, hts, hK, hF, hL, hlk⟩ := C
  subst hp
  intro H locs cells slots ls hR hS hc hs hl
  exact lv_fconst0 hx hb d (k H locs cells slots ls hR hS hc hs hl)
theorem j_fconst1 (C : Cx G own cc nL0 F L)  (d : decode cc pc = .ok (.fconst 1, 1)) (hp : pc + 1 = pc') (k : Jd G kc ks nx ce pc' lv (.float FP.fconst1 :: st)) : Jd G kc ks nx ce pc lv (st) := by
  obtain ⟨X, nL, p, l, e, R, s, m, args, below, meth, c, Q⟩ := G
  obtain ⟨rfl, hx, hb, hml, hown, hts, hK, hF, hL, hlk⟩ := C
  subst hp
  intro H locs cells slots ls hR hS hc hs hl
  exact lv_fconst1 hx hb d (k H locs cells slots ls hR hS hc hs hl)
theorem j_fconst2 (C : Cx G own cc nL0 F L)  (d : decode cc pc = .ok (.fconst 2, 1)) (hp : pc + 1 = pc') (k : Jd G kc ks nx ce pc' lv (.float FP.fconst2 :: st)) : Jd G kc ks nx ce pc lv (st) := by
  obtain ⟨X, nL, p, l, e, R, s, m, args, below, meth, c, Q⟩ := G
  obtain ⟨rfl, hx, hb, hml, hown, hts, hK, hF, hL, hlk⟩ := C
  subst hp
  intro H locs cells slots ls hR hS hc hs hl
  exact lv_fconst2 hx hb d (k H locs cells slots ls hR hS hc hs hl)
theorem j_dconst0 (C : Cx G own cc nL0 F L)  (d : decode cc pc = .ok (.dconst 0, 1)) (hp : pc + 1 = pc') (k : Jd G kc ks nx ce pc' lv (.double FP.dconst0 :: st)) : Jd G kc ks nx ce pc lv (st) := by
  obtain ⟨X, nL, p, l, e, R, s, m, args, below, meth, c, Q⟩ := G
  obtain ⟨rfl, hx, hb, hml, hown, hts, hK, hF, hL, hlk⟩ := C
  subst hp
  intro H locs cells slots ls hR hS hc hs hl
  exact lv_dconst0 hx hb d (k H locs cells slots ls hR hS hc hs hl)
theorem j_dconst1 (C : Cx G own cc nL0 F L)  (d : decode cc pc = .ok (.dconst 1, 1)) (hp : pc + 1 = pc') (k : Jd G kc ks nx ce pc' lv (.double FP.dconst1 :: st)) : Jd G kc ks nx ce pc lv (st) := by
  obtain ⟨X, nL, p, l, e, R, s, m, args, below, meth, c, Q⟩ := G
  obtain ⟨rfl, hx, hb, hml, hown, hts, hK, hF, hL, hlk⟩ := C
  subst hp
  intro H locs cells slots ls hR hS hc hs hl
  exact lv_dconst1 hx hb d (k H locs cells slots ls hR hS hc hs hl)
theorem j_null (C : Cx G own cc nL0 F L) (d : decode cc pc = .ok (.aconst_null, 1)) (hp : pc + 1 = pc') (k : Jd G kc ks nx ce pc' lv (va_rf none :: st)) : Jd G kc ks nx ce pc lv (st) := by
  obtain ⟨X, nL, p, l, e, R, s, m, args, below, meth, c, Q⟩ := G
  obtain ⟨rfl, hx, hb, hml, hown, hts, hK, hF, hL, hlk⟩ := C
  subst hp
  intro H locs cells slots ls hR hS hc hs hl
  exact lv_null hx hb d (k H locs cells slots ls hR hS hc hs hl)
theorem j_iload_n (C : Cx G own cc nL0 F L) {j : Fin 4} {i q : Nat} {x : Int32} (d : decode cc pc = .ok (.iload_n j, 1)) (hi : (j : Nat) = i) (hk : lv[q]? = some (i, .int x)) (hp : pc + 1 = pc') (k : Jd G kc ks nx ce pc' lv (.int x :: st)) : Jd G kc ks nx ce pc lv (st) := by
  obtain ⟨X, nL, p, l, e, R, s, m, args, below, meth, c, Q⟩ := G
  obtain ⟨rfl, hx, hb, hml, hown, hts, hK, hF, hL, hlk⟩ := C
  subst hp
  intro H locs cells slots ls hR hS hc hs hl
  exact lv_iload_n hx hb d hi (lv_at hl q hk) (k H locs cells slots ls hR hS hc hs hl)
theorem j_iload (C : Cx G own cc nL0 F L) {i q : Nat} {x : Int32} (d : decode cc pc = .ok (.iload i, 2)) (hk : lv[q]? = some (i, .int x)) (hp : pc + 2 = pc') (k : Jd G kc ks nx ce pc' lv (.int x :: st)) : Jd G kc ks nx ce pc lv (st) := by
  obtain ⟨X, nL, p, l, e, R, s, m, args, below, meth, c, Q⟩ := G
  obtain ⟨rfl, hx, hb, hml, hown, hts, hK, hF, hL, hlk⟩ := C
  subst hp
  intro H locs cells slots ls hR hS hc hs hl
  exact lv_iload hx hb d (lv_at hl q hk) (k H locs cells slots ls hR hS hc hs hl)
theorem j_lload_n (C : Cx G own cc nL0 F L) {j : Fin 4} {i q : Nat} {x : Int64} (d : decode cc pc = .ok (.lload_n j, 1)) (hi : (j : Nat) = i) (hk : lv[q]? = some (i, .long x)) (hp : pc + 1 = pc') (k : Jd G kc ks nx ce pc' lv (.long x :: st)) : Jd G kc ks nx ce pc lv (st) := by
  obtain ⟨X, nL, p, l, e, R, s, m, args, below, meth, c, Q⟩ := G
  obtain ⟨rfl, hx, hb, hml, hown, hts, hK, hF, hL, hlk⟩ := C
  subst hp
  intro H locs cells slots ls hR hS hc hs hl
  exact lv_lload_n hx hb d hi (lv_at hl q hk) (k H locs cells slots ls hR hS hc hs hl)
theorem j_lload (C : Cx G own cc nL0 F L) {i q : Nat} {x : Int64} (d : decode cc pc = .ok (.lload i, 2)) (hk : lv[q]? = some (i, .long x)) (hp : pc + 2 = pc') (k : Jd G kc ks nx ce pc' lv (.long x :: st)) : Jd G kc ks nx ce pc lv (st) := by
  obtain ⟨X, nL, p, l, e, R, s, m, args, below, meth, c, Q⟩ := G
  obtain ⟨rfl, hx, hb, hml, hown, hts, hK, hF, hL, hlk⟩ := C
  subst hp
  intro H locs cells slots ls hR hS hc hs hl
  exact lv_lload hx hb d (lv_at hl q hk) (k H locs cells slots ls hR hS hc hs hl)
theorem j_fload_n (C : Cx G own cc nL0 F L) {j : Fin 4} {i q : Nat} {x : UInt32} (d : decode cc pc = .ok (.fload_n j, 1)) (hi : (j : Nat) = i) (hk : lv[q]? = some (i, .float x)) (hp : pc + 1 = pc') (k : Jd G kc ks nx ce pc' lv (.float x :: st)) : Jd G kc ks nx ce pc lv (st) := by
  obtain ⟨X, nL, p, l, e, R, s, m, args, below, meth, c, Q⟩ := G
  obtain ⟨rfl, hx, hb, hml, hown, hts, hK, hF, hL, hlk⟩ := C
  subst hp
  intro H locs cells slots ls hR hS hc hs hl
  exact lv_fload_n hx hb d hi (lv_at hl q hk) (k H locs cells slots ls hR hS hc hs hl)
theorem j_fload (C : Cx G own cc nL0 F L) {i q : Nat} {x : UInt32} (d : decode cc pc = .ok (.fload i, 2)) (hk : lv[q]? = some (i, .float x)) (hp : pc + 2 = pc') (k : Jd G kc ks nx ce pc' lv (.float x :: st)) : Jd G kc ks nx ce pc lv (st) := by
  obtain ⟨X, nL, p, l, e, R, s, m, args, below, meth, c, Q⟩ := G
  obtain ⟨rfl, hx, hb, hml, hown, hts, hK, hF, hL, hlk⟩ := C
  subst hp
  intro H locs cells slots ls hR hS hc hs hl
  exact lv_fload hx hb d (lv_at hl q hk) (k H locs cells slots ls hR hS hc hs hl)
theorem j_dload_n (C : Cx G own cc nL0 F L) {j : Fin 4} {i q : Nat} {x : UInt64} (d : decode cc pc = .ok (.dload_n j, 1)) (hi : (j : Nat) = i) (hk : lv[q]? = some (i, .double x)) (hp : pc + 1 = pc') (k : Jd G kc ks nx ce pc' lv (.double x :: st)) : Jd G kc ks nx ce pc lv (st) := by
  obtain ⟨X, nL, p, l, e, R, s, m, args, below, meth, c, Q⟩ := G
  obtain ⟨rfl, hx, hb, hml, hown, hts, hK, hF, hL, hlk⟩ := C
  subst hp
  intro H locs cells slots ls hR hS hc hs hl
  exact lv_dload_n hx hb d hi (lv_at hl q hk) (k H locs cells slots ls hR hS hc hs hl)
theorem j_dload (C : Cx G own cc nL0 F L) {i q : Nat} {x : UInt64} (d : decode cc pc = .ok (.dload i, 2)) (hk : lv[q]? = some (i, .double x)) (hp : pc + 2 = pc') (k : Jd G kc ks nx ce pc' lv (.double x :: st)) : Jd G kc ks nx ce pc lv (st) := by
  obtain ⟨X, nL, p, l, e, R, s, m, args, below, meth, c, Q⟩ := G
  obtain ⟨rfl, hx, hb, hml, hown, hts, hK, hF, hL, hlk⟩ := C
  subst hp
  intro H locs cells slots ls hR hS hc hs hl
  exact lv_dload hx hb d (lv_at hl q hk) (k H locs cells slots ls hR hS hc hs hl)
theorem j_aload_n (C : Cx G own cc nL0 F L) {j : Fin 4} {i q : Nat} {x : Nat} (d : decode cc pc = .ok (.aload_n j, 1)) (hi : (j : Nat) = i) (hk : lv[q]? = some (i, .ref x)) (hp : pc + 1 = pc') (k : Jd G kc ks nx ce pc' lv (.ref x :: st)) : Jd G kc ks nx ce pc lv (st) := by
  obtain ⟨X, nL, p, l, e, R, s, m, args, below, meth, c, Q⟩ := G
  obtain ⟨rfl, hx, hb, hml, hown, hts, hK, hF, hL, hlk⟩ := C
  subst hp
  intro H locs cells slots ls hR hS hc hs hl
  exact lv_aload_n hx hb d hi (lv_at hl q hk) (k H locs cells slots ls hR hS hc hs hl)
theorem j_aload (C : Cx G own cc nL0 F L) {i q : Nat} {x : Nat} (d : decode cc pc = .ok (.aload i, 2)) (hk : lv[q]? = some (i, .ref x)) (hp : pc + 2 = pc') (k : Jd G kc ks nx ce pc' lv (.ref x :: st)) : Jd G kc ks nx ce pc lv (st) := by
  obtain ⟨X, nL, p, l, e, R, s, m, args, below, meth, c, Q⟩ := G
  obtain ⟨rfl, hx, hb, hml, hown, hts, hK, hF, hL, hlk⟩ := C
  subst hp
  intro H locs cells slots ls hR hS hc hs hl
  exact lv_aload hx hb d (lv_at hl q hk) (k H locs cells slots ls hR hS hc hs hl)
theorem j_qload_n (C : Cx G own cc nL0 F L) {j : Fin 4} {i q : Nat} {x : Option Nat} (d : decode cc pc = .ok (.aload_n j, 1)) (hi : (j : Nat) = i) (hk : lv[q]? = some (i, va_rf x)) (hp : pc + 1 = pc') (k : Jd G kc ks nx ce pc' lv (va_rf x :: st)) : Jd G kc ks nx ce pc lv (st) := by
  obtain ⟨X, nL, p, l, e, R, s, m, args, below, meth, c, Q⟩ := G
  obtain ⟨rfl, hx, hb, hml, hown, hts, hK, hF, hL, hlk⟩ := C
  subst hp
  intro H locs cells slots ls hR hS hc hs hl
  cases x with
  | none => exact lv_aload_nN hx hb d hi (lv_at hl q hk) (k H locs cells slots ls hR hS hc hs hl)
  | some a => exact lv_aload_n hx hb d hi (lv_at hl q hk) (k H locs cells slots ls hR hS hc hs hl)
theorem j_qload (C : Cx G own cc nL0 F L) {i q : Nat} {x : Option Nat} (d : decode cc pc = .ok (.aload i, 2)) (hk : lv[q]? = some (i, va_rf x)) (hp : pc + 2 = pc') (k : Jd G kc ks nx ce pc' lv (va_rf x :: st)) : Jd G kc ks nx ce pc lv (st) := by
  obtain ⟨X, nL, p, l, e, R, s, m, args, below, meth, c, Q⟩ := G
  obtain ⟨rfl, hx, hb, hml, hown, hts, hK, hF, hL, hlk⟩ := C
  subst hp
  intro H locs cells slots ls hR hS hc hs hl
  cases x with
  | none => exact lv_aloadN hx hb d (lv_at hl q hk) (k H locs cells slots ls hR hS hc hs hl)
  | some a => exact lv_aload hx hb d (lv_at hl q hk) (k H locs cells slots ls hR hS hc hs hl)
theorem j_istore_n (C : Cx G own cc nL0 F L) {j : Fin 4} {i : Nat} {x : Int32} (d : decode cc pc = .ok (.istore_n j, 1)) (hi : (j : Nat) = i) (hn : i < nL0) (hv : (i, Value.int x) :: lv.filter (fun q => !(q.1 == i) && !(q.1 + 1 == i && q.2.category == 2)) = lv') (hp : pc + 1 = pc') (k : Jd G kc ks nx ce pc' lv' (st)) : Jd G kc ks nx ce pc lv (.int x :: st) := by
  obtain ⟨X, nL, p, l, e, R, s, m, args, below, meth, c, Q⟩ := G
  obtain ⟨rfl, hx, hb, hml, hown, hts, hK, hF, hL, hlk⟩ := C
  subst hp
  intro H locs cells slots ls hR hS hc hs hl
  exact lv_istore_n hx hb d hi hl hn hv (fun ls hl => k H locs cells slots ls hR hS hc hs hl)
theorem j_istore (C : Cx G own cc nL0 F L) {i : Nat} {x : Int32} (d : decode cc pc = .ok (.istore i, 2)) (hn : i < nL0) (hv : (i, Value.int x) :: lv.filter (fun q => !(q.1 == i) && !(q.1 + 1 == i && q.2.category == 2)) = lv') (hp : pc + 2 = pc') (k : Jd G kc ks nx ce pc' lv' (st)) : Jd G kc ks nx ce pc lv (.int x :: st) := by
  obtain ⟨X, nL, p, l, e, R, s, m, args, below, meth, c, Q⟩ := G
  obtain ⟨rfl, hx, hb, hml, hown, hts, hK, hF, hL, hlk⟩ := C
  subst hp
  intro H locs cells slots ls hR hS hc hs hl
  exact lv_istore hx hb d hl hn hv (fun ls hl => k H locs cells slots ls hR hS hc hs hl)
theorem j_lstore_n (C : Cx G own cc nL0 F L) {j : Fin 4} {i : Nat} {x : Int64} (d : decode cc pc = .ok (.lstore_n j, 1)) (hi : (j : Nat) = i) (hn : i + 1 < nL0) (hv : (i, Value.long x) :: lv.filter (fun q => !(q.1 == i) && (!(q.1 == i + 1) && !(q.1 + 1 == i && q.2.category == 2))) = lv') (hp : pc + 1 = pc') (k : Jd G kc ks nx ce pc' lv' (st)) : Jd G kc ks nx ce pc lv (.long x :: st) := by
  obtain ⟨X, nL, p, l, e, R, s, m, args, below, meth, c, Q⟩ := G
  obtain ⟨rfl, hx, hb, hml, hown, hts, hK, hF, hL, hlk⟩ := C
  subst hp
  intro H locs cells slots ls hR hS hc hs hl
  exact lv_lstore_n hx hb d hi hl hn hv (fun ls hl => k H locs cells slots ls hR hS hc hs hl)
theorem j_lstore (C : Cx G own cc nL0 F L) {i : Nat} {x : Int64} (d : decode cc pc = .ok (.lstore i, 2)) (hn : i + 1 < nL0) (hv : (i, Value.long x) :: lv.filter (fun q => !(q.1 == i) && (!(q.1 == i + 1) && !(q.1 + 1 == i && q.2.category == 2))) = lv') (hp : pc + 2 = pc') (k : Jd G kc ks nx ce pc' lv' (st)) : Jd G kc ks nx ce pc lv (.long x :: st) := by
  obtain ⟨X, nL, p, l, e, R, s, m, args, below, meth, c, Q⟩ := G
  obtain ⟨rfl, hx, hb, hml, hown, hts, hK, hF, hL, hlk⟩ := C
  subst hp
  intro H locs cells slots ls hR hS hc hs hl
  exact lv_lstore hx hb d hl hn hv (fun ls hl => k H locs cells slots ls hR hS hc hs hl)
theorem j_fstore_n (C : Cx G own cc nL0 F L) {j : Fin 4} {i : Nat} {x : UInt32} (d : decode cc pc = .ok (.fstore_n j, 1)) (hi : (j : Nat) = i) (hn : i < nL0) (hv : (i, Value.float x) :: lv.filter (fun q => !(q.1 == i) && !(q.1 + 1 == i && q.2.category == 2)) = lv') (hp : pc + 1 = pc') (k : Jd G kc ks nx ce pc' lv' (st)) : Jd G kc ks nx ce pc lv (.float x :: st) := by
  obtain ⟨X, nL, p, l, e, R, s, m, args, below, meth, c, Q⟩ := G
  obtain ⟨rfl, hx, hb, hml, hown, hts, hK, hF, hL, hlk⟩ := C
  subst hp
  intro H locs cells slots ls hR hS hc hs hl
  exact lv_fstore_n hx hb d hi hl hn hv (fun ls hl => k H locs cells slots ls hR hS hc hs hl)
theorem j_fstore (C : Cx G own cc nL0 F L) {i : Nat} {x : UInt32} (d : decode cc pc = .ok (.fstore i, 2)) (hn : i < nL0) (hv : (i, Value.float x) :: lv.filter (fun q => !(q.1 == i) && !(q.1 + 1 == i && q.2.category == 2)) = lv') (hp : pc + 2 = pc') (k : Jd G kc ks nx ce pc' lv' (st)) : Jd G kc ks nx ce pc lv (.float x :: st) := by
  obtain ⟨X, nL, p, l, e, R, s, m, args, below, meth, c, Q⟩ := G
  obtain ⟨rfl, hx, hb, hml, hown, hts, hK, hF, hL, hlk⟩ := C
  subst hp
  intro H locs cells slots ls hR hS hc hs hl
  exact lv_fstore hx hb d hl hn hv (fun ls hl => k H locs cells slots ls hR hS hc hs hl)
theorem j_dstore_n (C : Cx G own cc nL0 F L) {j : Fin 4} {i : Nat} {x : UInt64} (d : decode cc pc = .ok (.dstore_n j, 1)) (hi : (j : Nat) = i) (hn : i + 1 < nL0) (hv : (i, Value.double x) :: lv.filter (fun q => !(q.1 == i) && (!(q.1 == i + 1) && !(q.1 + 1 == i && q.2.category == 2))) = lv') (hp : pc + 1 = pc') (k : Jd G kc ks nx ce pc' lv' (st)) : Jd G kc ks nx ce pc lv (.double x :: st) := by
  obtain ⟨X, nL, p, l, e, R, s, m, args, below, meth, c, Q⟩ := G
  obtain ⟨rfl, hx, hb, hml, hown, hts, hK, hF, hL, hlk⟩ := C
  subst hp
  intro H locs cells slots ls hR hS hc hs hl
  exact lv_dstore_n hx hb d hi hl hn hv (fun ls hl => k H locs cells slots ls hR hS hc hs hl)
theorem j_dstore (C : Cx G own cc nL0 F L) {i : Nat} {x : UInt64} (d : decode cc pc = .ok (.dstore i, 2)) (hn : i + 1 < nL0) (hv : (i, Value.double x) :: lv.filter (fun q => !(q.1 == i) && (!(q.1 == i + 1) && !(q.1 + 1 == i && q.2.category == 2))) = lv') (hp : pc + 2 = pc') (k : Jd G kc ks nx ce pc' lv' (st)) : Jd G kc ks nx ce pc lv (.double x :: st) := by
  obtain ⟨X, nL, p, l, e, R, s, m, args, below, meth, c, Q⟩ := G
  obtain ⟨rfl, hx, hb, hml, hown, hts, hK, hF, hL, hlk⟩ := C
  subst hp
  intro H locs cells slots ls hR hS hc hs hl
  exact lv_dstore hx hb d hl hn hv (fun ls hl => k H locs cells slots ls hR hS hc hs hl)
theorem j_astore_n (C : Cx G own cc nL0 F L) {j : Fin 4} {i : Nat} {x : Nat} (d : decode cc pc = .ok (.astore_n j, 1)) (hi : (j : Nat) = i) (hn : i < nL0) (hv : (i, Value.ref x) :: lv.filter (fun q => !(q.1 == i) && !(q.1 + 1 == i && q.2.category == 2)) = lv') (hp : pc + 1 = pc') (k : Jd G kc ks nx ce pc' lv' (st)) : Jd G kc ks nx ce pc lv (.ref x :: st) := by
  obtain ⟨X, nL, p, l, e, R, s, m, args, below, meth, c, Q⟩ := G
  obtain ⟨rfl, hx, hb, hml, hown, hts, hK, hF, hL, hlk⟩ := C
  subst hp
  intro H locs cells slots ls hR hS hc hs hl
  exact lv_astore_n hx hb d hi hl hn hv (fun ls hl => k H locs cells slots ls hR hS hc hs hl)
theorem j_astore (C : Cx G own cc nL0 F L) {i : Nat} {x : Nat} (d : decode cc pc = .ok (.astore i, 2)) (hn : i < nL0) (hv : (i, Value.ref x) :: lv.filter (fun q => !(q.1 == i) && !(q.1 + 1 == i && q.2.category == 2)) = lv') (hp : pc + 2 = pc') (k : Jd G kc ks nx ce pc' lv' (st)) : Jd G kc ks nx ce pc lv (.ref x :: st) := by
  obtain ⟨X, nL, p, l, e, R, s, m, args, below, meth, c, Q⟩ := G
  obtain ⟨rfl, hx, hb, hml, hown, hts, hK, hF, hL, hlk⟩ := C
  subst hp
  intro H locs cells slots ls hR hS hc hs hl
  exact lv_astore hx hb d hl hn hv (fun ls hl => k H locs cells slots ls hR hS hc hs hl)
theorem j_qstore_n (C : Cx G own cc nL0 F L) {j : Fin 4} {i : Nat} {x : Option Nat} (d : decode cc pc = .ok (.astore_n j, 1)) (hi : (j : Nat) = i) (hn : i < nL0) (hv : (i, va_rf x) :: lv.filter (fun q => !(q.1 == i) && !(q.1 + 1 == i && q.2.category == 2)) = lv') (hp : pc + 1 = pc') (k : Jd G kc ks nx ce pc' lv' (st)) : Jd G kc ks nx ce pc lv (va_rf x :: st) := by
  obtain ⟨X, nL, p, l, e, R, s, m, args, below, meth, c, Q⟩ := G
  obtain ⟨rfl, hx, hb, hml, hown, hts, hK, hF, hL, hlk⟩ := C
  subst hp
  intro H locs cells slots ls hR hS hc hs hl
  cases x with
  | none => exact lv_astore_nN hx hb d hi hl hn hv (fun ls hl => k H locs cells slots ls hR hS hc hs hl)
  | some a => exact lv_astore_n hx hb d hi hl hn hv (fun ls hl => k H locs cells slots ls hR hS hc hs hl)
theorem j_qstore (C : Cx G own cc nL0 F L) {i : Nat} {x : Option Nat} (d : decode cc pc = .ok (.astore i, 2)) (hn : i < nL0) (hv : (i, va_rf x) :: lv.filter (fun q => !(q.1 == i) && !(q.1 + 1 == i && q.2.category == 2)) = lv') (hp : pc + 2 = pc') (k : Jd G kc ks nx ce pc' lv' (st)) : Jd G kc ks nx ce pc lv (va_rf x :: st) := by
  obtain ⟨X, nL, p, l, e, R, s, m, args, below, meth, c, Q⟩ := G
  obtain ⟨rfl, hx, hb, hml, hown, hts, hK, hF, hL, hlk⟩ := C
  subst hp
  intro H locs cells slots ls hR hS hc hs hl
  cases x with
  | none => exact lv_astoreN hx hb d hl hn hv (fun ls hl => k H locs cells slots ls hR hS hc hs hl)
  | some a => exact lv_astore hx hb d hl hn hv (fun ls hl => k H locs cells slots ls hR hS hc hs hl)
theorem j_iinc (C : Cx G own cc nL0 F L) {i q : Nat} {n : Int} {x v : Int32} (d : decode cc pc = .ok (.iinc i n, 3)) (hk : lv[q]? = some (i, .int x)) (hw : Int32.ofInt n = v) (hn : i < nL0) (hv : (i, Value.int (x + v)) :: lv.filter (fun q => !(q.1 == i) && !(q.1 + 1 == i && q.2.category == 2)) = lv') (hp : pc + 3 = pc') (k : Jd G kc ks nx ce pc' lv' (st)) : Jd G kc ks nx ce pc lv (st) := by
  obtain ⟨X, nL, p, l, e, R, s, m, args, below, meth, c, Q⟩ := G
  obtain ⟨rfl, hx, hb, hml, hown, hts, hK, hF, hL, hlk⟩ := C
  subst hp
  intro H locs cells slots ls hR hS hc hs hl
  exact lv_iinc hx hb d hl hk (by rw [hw]) hn hv (fun ls hl => k H locs cells slots ls hR hS hc hs hl)
theorem j_iadd (C : Cx G own cc nL0 F L) {x y : Int32} (d : decode cc pc = .ok (.iadd, 1)) (hp : pc + 1 = pc') (k : Jd G kc ks nx ce pc' lv (.int (x + y) :: st)) : Jd G kc ks nx ce pc lv (.int y :: .int x :: st) := by
  obtain ⟨X, nL, p, l, e, R, s, m, args, below, meth, c, Q⟩ := G
  obtain ⟨rfl, hx, hb, hml, hown, hts, hK, hF, hL, hlk⟩ := C
  subst hp
  intro H locs cells slots ls hR hS hc hs hl
  exact lv_iadd hx hb d (k H locs cells slots ls hR hS hc hs hl)
theorem j_isub (C : Cx G own cc nL0 F L) {x y : Int32} (d : decode cc pc = .ok (.isub, 1)) (hp : pc + 1 = pc') (k : Jd G kc ks nx ce pc' lv (.int (x - y) :: st)) : Jd G kc ks nx ce pc lv (.int y :: .int x :: st) := by
  obtain ⟨X, nL, p, l, e, R, s, m, args, below, meth, c, Q⟩ := G
  obtain ⟨rfl, hx, hb, hml, hown, hts, hK, hF, hL, hlk⟩ := C
  subst hp
  intro H locs cells slots ls hR hS hc hs hl
  exact lv_isub hx hb d (k H locs cells slots ls hR hS hc hs hl)
theorem j_imul (C : Cx G own cc nL0 F L) {x y : Int32} (d : decode cc pc = .ok (.imul, 1)) (hp : pc + 1 = pc') (k : Jd G kc ks nx ce pc' lv (.int (x * y) :: st)) : Jd G kc ks nx ce pc lv (.int y :: .int x :: st) := by
  obtain ⟨X, nL, p, l, e, R, s, m, args, below, meth, c, Q⟩ := G
  obtain ⟨rfl, hx, hb, hml, hown, hts, hK, hF, hL, hlk⟩ := C
  subst hp
  intro H locs cells slots ls hR hS hc hs hl
  exact lv_imul hx hb d (k H locs cells slots ls hR hS hc hs hl)
theorem j_iand (C : Cx G own cc nL0 F L) {x y : Int32} (d : decode cc pc = .ok (.iand, 1)) (hp : pc + 1 = pc') (k : Jd G kc ks nx ce pc' lv (.int (x &&& y) :: st)) : Jd G kc ks nx ce pc lv (.int y :: .int x :: st) := by
  obtain ⟨X, nL, p, l, e, R, s, m, args, below, meth, c, Q⟩ := G
  obtain ⟨rfl, hx, hb, hml, hown, hts, hK, hF, hL, hlk⟩ := C
  subst hp
  intro H locs cells slots ls hR hS hc hs hl
  exact lv_iand hx hb d (k H locs cells slots ls hR hS hc hs hl)
theorem j_ior (C : Cx G own cc nL0 F L) {x y : Int32} (d : decode cc pc = .ok (.ior, 1)) (hp : pc + 1 = pc') (k : Jd G kc ks nx ce pc' lv (.int (x ||| y) :: st)) : Jd G kc ks nx ce pc lv (.int y :: .int x :: st) := by
  obtain ⟨X, nL, p, l, e, R, s, m, args, below, meth, c, Q⟩ := G
  obtain ⟨rfl, hx, hb, hml, hown, hts, hK, hF, hL, hlk⟩ := C
  subst hp
  intro H locs cells slots ls hR hS hc hs hl
  exact lv_ior hx hb d (k H locs cells slots ls hR hS hc hs hl)
theorem j_ixor (C : Cx G own cc nL0 F L) {x y : Int32} (d : decode cc pc = .ok (.ixor, 1)) (hp : pc + 1 = pc') (k : Jd G kc ks nx ce pc' lv (.int (x ^^^ y) :: st)) : Jd G kc ks nx ce pc lv (.int y :: .int x :: st) := by
  obtain ⟨X, nL, p, l, e, R, s, m, args, below, meth, c, Q⟩ := G
  obtain ⟨rfl, hx, hb, hml, hown, hts, hK, hF, hL, hlk⟩ := C
  subst hp
  intro H locs cells slots ls hR hS hc hs hl
  exact lv_ixor hx hb d (k H locs cells slots ls hR hS hc hs hl)
theorem j_ladd (C : Cx G own cc nL0 F L) {x y : Int64} (d : decode cc pc = .ok (.ladd, 1)) (hp : pc + 1 = pc') (k : Jd G kc ks nx ce pc' lv (.long (x + y) :: st)) : Jd G kc ks nx ce pc lv (.long y :: .long x :: st) := by
  obtain ⟨X, nL, p, l, e, R, s, m, args, below, meth, c, Q⟩ := G
  obtain ⟨rfl, hx, hb, hml, hown, hts, hK, hF, hL, hlk⟩ := C
  subst hp
  intro H locs cells slots ls hR hS hc hs hl
  exact lv_ladd hx hb d (k H locs cells slots ls hR hS hc hs hl)
theorem j_lsub (C : Cx G own cc nL0 F L) {x y : Int64} (d : decode cc pc = .ok (.lsub, 1)) (hp : pc + 1 = pc') (k : Jd G kc ks nx ce pc' lv (.long (x - y) :: st)) : Jd G kc ks nx ce pc lv (.long y :: .long x :: st) := by
  obtain ⟨X, nL, p, l, e, R, s, m, args, below, meth, c, Q⟩ := G
  obtain ⟨rfl, hx, hb, hml, hown, hts, hK, hF, hL, hlk⟩ := C
  subst hp
  intro H locs cells slots ls hR hS hc hs hl
  exact lv_lsub hx hb d (k H locs cells slots ls hR hS hc hs hl)
theorem j_lmul (C : Cx G own cc nL0 F L) {x y : Int64} (d : decode cc pc = .ok (.lmul, 1)) (hp : pc + 1 = pc') (k : Jd G kc ks nx ce pc' lv (.long (x * y) :: st)) : Jd G kc ks nx ce pc lv (.long y :: .long x :: st) := by
  obtain ⟨X, nL, p, l, e, R, s, m, args, below, meth, c, Q⟩ := G
  obtain ⟨rfl, hx, hb, hml, hown, hts, hK, hF, hL, hlk⟩ := C
  subst hp
  intro H locs cells slots ls hR hS hc hs hl
  exact lv_lmul hx hb d (k H locs cells slots ls hR hS hc hs hl)
theorem j_land (C : Cx G own cc nL0 F L) {x y : Int64} (d : decode cc pc = .ok (.land, 1)) (hp : pc + 1 = pc') (k : Jd G kc ks nx ce pc' lv (.long (x &&& y) :: st)) : Jd G kc ks nx ce pc lv (.long y :: .long x :: st) := by
  obtain ⟨X, nL, p, l, e, R, s, m, args, below, meth, c, Q⟩ := G
  obtain ⟨rfl, hx, hb, hml, hown, hts, hK, hF, hL, hlk⟩ := C
  subst hp
  intro H locs cells slots ls hR hS hc hs hl
  exact lv_land hx hb d (k H locs cells slots ls hR hS hc hs hl)
theorem j_lor (C : Cx G own cc nL0 F L) {x y : Int64} (d : decode cc pc = .ok (.lor, 1)) (hp : pc + 1 = pc') (k : Jd G kc ks nx ce pc' lv (.long (x ||| y) :: st)) : Jd G kc ks nx ce pc lv (.long y :: .long x :: st) := by
  obtain ⟨X, nL, p, l, e, R, s, m, args, below, meth, c, Q⟩ := G
  obtain ⟨rfl, hx, hb, hml, hown, hts, hK, hF, hL, hlk⟩ := C
  subst hp
  intro H locs cells slots ls hR hS hc hs hl
  exact lv_lor hx hb d (k H locs cells slots ls hR hS hc hs hl)
theorem j_lxor (C : Cx G own cc nL0 F L) {x y : Int64} (d : decode cc pc = .ok (.lxor, 1)) (hp : pc + 1 = pc') (k : Jd G kc ks nx ce pc' lv (.long (x ^^^ y) :: st)) : Jd G kc ks nx ce pc lv (.long y :: .long x :: st) := by
  obtain ⟨X, nL, p, l, e, R, s, m, args, below, meth, c, Q⟩ := G
  obtain ⟨rfl, hx, hb, hml, hown, hts, hK, hF, hL, hlk⟩ := C
  subst hp
  intro H locs cells slots ls hR hS hc hs hl
  exact lv_lxor hx hb d (k H locs cells slots ls hR hS hc hs hl)
theorem j_idiv (C : Cx G own cc nL0 F L) {x y : Int32} (d : decode cc pc = .ok (.idiv, 1)) (hz : nz y = some ()) (hp : pc + 1 = pc') (k : Jd G kc ks nx ce pc' lv (.int (x / y) :: st)) : Jd G kc ks nx ce pc lv (.int y :: .int x :: st) := by
  obtain ⟨X, nL, p, l, e, R, s, m, args, below, meth, c, Q⟩ := G
  obtain ⟨rfl, hx, hb, hml, hown, hts, hK, hF, hL, hlk⟩ := C
  subst hp
  intro H locs cells slots ls hR hS hc hs hl
  exact lv_idiv hx hb d (by intro hz2; simp [nz, hz2] at hz) (k H locs cells slots ls hR hS hc hs hl)
theorem j_irem (C : Cx G own cc nL0 F L) {x y : Int32} (d : decode cc pc = .ok (.irem, 1)) (hz : nz y = some ()) (hp : pc + 1 = pc') (k : Jd G kc ks nx ce pc' lv (.int (rm32 x y) :: st)) : Jd G kc ks nx ce pc lv (.int y :: .int x :: st) := by
  obtain ⟨X, nL, p, l, e, R, s, m, args, below, meth, c, Q⟩ := G
  obtain ⟨rfl, hx, hb, hml, hown, hts, hK, hF, hL, hlk⟩ := C
  subst hp
  intro H locs cells slots ls hR hS hc hs hl
  exact lv_irem hx hb d (by intro hz2; simp [nz, hz2] at hz) (k H locs cells slots ls hR hS hc hs hl)
theorem j_ineg (C : Cx G own cc nL0 F L) {x : Int32} (d : decode cc pc = .ok (.ineg, 1)) (hp : pc + 1 = pc') (k : Jd G kc ks nx ce pc' lv (.int (-x) :: st)) : Jd G kc ks nx ce pc lv (.int x :: st) := by
  obtain ⟨X, nL, p, l, e, R, s, m, args, below, meth, c, Q⟩ := G
  obtain ⟨rfl, hx, hb, hml, hown, hts, hK, hF, hL, hlk⟩ := C
  subst hp
  intro H locs cells slots ls hR hS hc hs hl
  exact lv_ineg hx hb d (k H locs cells slots ls hR hS hc hs hl)
theorem j_lneg (C : Cx G own cc nL0 F L) {x : Int64} (d : decode cc pc = .ok (.lneg, 1)) (hp : pc + 1 = pc') (k : Jd G kc ks nx ce pc' lv (.long (-x) :: st)) : Jd G kc ks nx ce pc lv (.long x :: st) := by
  obtain ⟨X, nL, p, l, e, R, s, m, args, below, meth, c, Q⟩ := G
  obtain ⟨rfl, hx, hb, hml, hown, hts, hK, hF, hL, hlk⟩ := C
  subst hp
  intro H locs cells slots ls hR hS hc hs hl
  exact lv_lneg hx hb d (k H locs cells slots ls hR hS hc hs hl)
theorem j_ishl (C : Cx G own cc nL0 F L) {x y : Int32} (d : decode cc pc = .ok (.ishl, 1)) (hp : pc + 1 = pc') (k : Jd G kc ks nx ce pc' lv (.int (x <<< (y &&& 31)) :: st)) : Jd G kc ks nx ce pc lv (.int y :: .int x :: st) := by
  obtain ⟨X, nL, p, l, e, R, s, m, args, below, meth, c, Q⟩ := G
  obtain ⟨rfl, hx, hb, hml, hown, hts, hK, hF, hL, hlk⟩ := C
  subst hp
  intro H locs cells slots ls hR hS hc hs hl
  exact lv_ishl hx hb d (k H locs cells slots ls hR hS hc hs hl)
theorem j_ishr (C : Cx G own cc nL0 F L) {x y : Int32} (d : decode cc pc = .ok (.ishr, 1)) (hp : pc + 1 = pc') (k : Jd G kc ks nx ce pc' lv (.int (x >>> (y &&& 31)) :: st)) : Jd G kc ks nx ce pc lv (.int y :: .int x :: st) := by
  obtain ⟨X, nL, p, l, e, R, s, m, args, below, meth, c, Q⟩ := G
  obtain ⟨rfl, hx, hb, hml, hown, hts, hK, hF, hL, hlk⟩ := C
  subst hp
  intro H locs cells slots ls hR hS hc hs hl
  exact lv_ishr hx hb d (k H locs cells slots ls hR hS hc hs hl)
def usr32 (x y : Int32) : Int32 := (x.toUInt32 >>> (y.toUInt32 &&& Int32.toUInt32 31)).toInt32
def usr64 (x : Int64) (y : Int32) : Int64 := (x.toUInt64 >>> (y.toInt64.toUInt64 &&& Int64.toUInt64 63)).toInt64
def i2ch (x : Int32) : Int32 := (x.toUInt32 % 65536).toInt32
theorem j_iushr (C : Cx G own cc nL0 F L) {x y : Int32} (d : decode cc pc = .ok (.iushr, 1))  (hp : pc + 1 = pc') (k : Jd G kc ks nx ce pc' lv (.int (usr32 x y) :: st)) : Jd G kc ks nx ce pc lv (.int y :: .int x :: st) := by
  obtain ⟨X, nL, p, l, e, R, s, m, args, below, meth, c, Q⟩ := G
  obtain ⟨rfl, hx, hb, hml, hown, hts, hK, hF, hL, hlk⟩ := C
  subst hp
  intro H locs cells slots ls hR hS hc hs hl
  exact lv_iushr hx hb d rfl (k H locs cells slots ls hR hS hc hs hl)
theorem j_lushr (C : Cx G own cc nL0 F L) {x : Int64} {y : Int32} (d : decode cc pc = .ok (.lushr, 1))  (hp : pc + 1 = pc') (k : Jd G kc ks nx ce pc' lv (.long (usr64 x y) :: st)) : Jd G kc ks nx ce pc lv (.int y :: .long x :: st) := by
  obtain ⟨X, nL, p, l, e, R, s, m, args, below, meth, c, Q⟩ := G
  obtain ⟨rfl, hx, hb, hml, hown, hts, hK, hF, hL, hlk⟩ := C
  subst hp
  intro H locs cells slots ls hR hS hc hs hl
  exact lv_lushr hx hb d rfl (k H locs cells slots ls hR hS hc hs hl)
theorem j_lshl (C : Cx G own cc nL0 F L) {x : Int64} {y : Int32} (d : decode cc pc = .ok (.lshl, 1))  (hp : pc + 1 = pc') (k : Jd G kc ks nx ce pc' lv (.long (x <<< (y.toInt64 &&& 63)) :: st)) : Jd G kc ks nx ce pc lv (.int y :: .long x :: st) := by
  obtain ⟨X, nL, p, l, e, R, s, m, args, below, meth, c, Q⟩ := G
  obtain ⟨rfl, hx, hb, hml, hown, hts, hK, hF, hL, hlk⟩ := C
  subst hp
  intro H locs cells slots ls hR hS hc hs hl
  exact lv_lshl hx hb d rfl (k H locs cells slots ls hR hS hc hs hl)
theorem j_lshr (C : Cx G own cc nL0 F L) {x : Int64} {y : Int32} (d : decode cc pc = .ok (.lshr, 1))  (hp : pc + 1 = pc') (k : Jd G kc ks nx ce pc' lv (.long (x >>> (y.toInt64 &&& 63)) :: st)) : Jd G kc ks nx ce pc lv (.int y :: .long x :: st) := by
  obtain ⟨X, nL, p, l, e, R, s, m, args, below, meth, c, Q⟩ := G
  obtain ⟨rfl, hx, hb, hml, hown, hts, hK, hF, hL, hlk⟩ := C
  subst hp
  intro H locs cells slots ls hR hS hc hs hl
  exact lv_lshr hx hb d rfl (k H locs cells slots ls hR hS hc hs hl)
theorem j_i2l (C : Cx G own cc nL0 F L) {x : Int32} (d : decode cc pc = .ok (.i2l, 1))  (hp : pc + 1 = pc') (k : Jd G kc ks nx ce pc' lv (.long x.toInt64 :: st)) : Jd G kc ks nx ce pc lv (.int x :: st) := by
  obtain ⟨X, nL, p, l, e, R, s, m, args, below, meth, c, Q⟩ := G
  obtain ⟨rfl, hx, hb, hml, hown, hts, hK, hF, hL, hlk⟩ := C
  subst hp
  intro H locs cells slots ls hR hS hc hs hl
  exact lv_i2l hx hb d rfl (k H locs cells slots ls hR hS hc hs hl)
theorem j_l2i (C : Cx G own cc nL0 F L) {x : Int64} (d : decode cc pc = .ok (.l2i, 1))  (hp : pc + 1 = pc') (k : Jd G kc ks nx ce pc' lv (.int x.toInt32 :: st)) : Jd G kc ks nx ce pc lv (.long x :: st) := by
  obtain ⟨X, nL, p, l, e, R, s, m, args, below, meth, c, Q⟩ := G
  obtain ⟨rfl, hx, hb, hml, hown, hts, hK, hF, hL, hlk⟩ := C
  subst hp
  intro H locs cells slots ls hR hS hc hs hl
  exact lv_l2i hx hb d rfl (k H locs cells slots ls hR hS hc hs hl)
theorem j_i2b (C : Cx G own cc nL0 F L) {x : Int32} (d : decode cc pc = .ok (.i2b, 1))  (hp : pc + 1 = pc') (k : Jd G kc ks nx ce pc' lv (.int x.toInt8.toInt32 :: st)) : Jd G kc ks nx ce pc lv (.int x :: st) := by
  obtain ⟨X, nL, p, l, e, R, s, m, args, below, meth, c, Q⟩ := G
  obtain ⟨rfl, hx, hb, hml, hown, hts, hK, hF, hL, hlk⟩ := C
  subst hp
  intro H locs cells slots ls hR hS hc hs hl
  exact lv_i2b hx hb d rfl (k H locs cells slots ls hR hS hc hs hl)
theorem j_i2c (C : Cx G own cc nL0 F L) {x : Int32} (d : decode cc pc = .ok (.i2c, 1))  (hp : pc + 1 = pc') (k : Jd G kc ks nx ce pc' lv (.int (i2ch x) :: st)) : Jd G kc ks nx ce pc lv (.int x :: st) := by
  obtain ⟨X, nL, p, l, e, R, s, m, args, below, meth, c, Q⟩ := G
  obtain ⟨rfl, hx, hb, hml, hown, hts, hK, hF, hL, hlk⟩ := C
  subst hp
  intro H locs cells slots ls hR hS hc hs hl
  exact lv_i2c hx hb d rfl (k H locs cells slots ls hR hS hc hs hl)
theorem j_i2d (C : Cx G own cc nL0 F L) {x : Int32} (d : decode cc pc = .ok (.i2d, 1)) (hp : pc + 1 = pc') (k : Jd G kc ks nx ce pc' lv (.double (FP.i2d x) :: st)) : Jd G kc ks nx ce pc lv (.int x :: st) := by
  obtain ⟨X, nL, p, l, e, R, s, m, args, below, meth, c, Q⟩ := G
  obtain ⟨rfl, hx, hb, hml, hown, hts, hK, hF, hL, hlk⟩ := C
  subst hp
  intro H locs cells slots ls hR hS hc hs hl
  exact lv_i2d hx hb d (k H locs cells slots ls hR hS hc hs hl)
theorem j_f2i (C : Cx G own cc nL0 F L) {x : UInt32} (d : decode cc pc = .ok (.f2i, 1)) (hp : pc + 1 = pc') (k : Jd G kc ks nx ce pc' lv (.int (FP.f2i x) :: st)) : Jd G kc ks nx ce pc lv (.float x :: st) := by
  obtain ⟨X, nL, p, l, e, R, s, m, args, below, meth, c, Q⟩ := G
  obtain ⟨rfl, hx, hb, hml, hown, hts, hK, hF, hL, hlk⟩ := C
  subst hp
  intro H locs cells slots ls hR hS hc hs hl
  exact lv_f2i hx hb d (k H locs cells slots ls hR hS hc hs hl)
theorem j_d2l (C : Cx G own cc nL0 F L) {x : UInt64} (d : decode cc pc = .ok (.d2l, 1)) (hp : pc + 1 = pc') (k : Jd G kc ks nx ce pc' lv (.long (FP.d2l x) :: st)) : Jd G kc ks nx ce pc lv (.double x :: st) := by
  obtain ⟨X, nL, p, l, e, R, s, m, args, below, meth, c, Q⟩ := G
  obtain ⟨rfl, hx, hb, hml, hown, hts, hK, hF, hL, hlk⟩ := C
  subst hp
  intro H locs cells slots ls hR hS hc hs hl
  exact lv_d2l hx hb d (k H locs cells slots ls hR hS hc hs hl)
theorem j_fcmp (C : Cx G own cc nL0 F L) {x y : UInt32} {op : CmpOp} (d : decode cc pc = .ok (.fcmp op, 1)) (hp : pc + 1 = pc') (k : Jd G kc ks nx ce pc' lv (.int (Op.cmpValue (FP.fcmp x y) op) :: st)) : Jd G kc ks nx ce pc lv (.float y :: .float x :: st) := by
  obtain ⟨X, nL, p, l, e, R, s, m, args, below, meth, c, Q⟩ := G
  obtain ⟨rfl, hx, hb, hml, hown, hts, hK, hF, hL, hlk⟩ := C
  subst hp
  intro H locs cells slots ls hR hS hc hs hl
  exact lv_fcmp hx hb d (k H locs cells slots ls hR hS hc hs hl)
theorem j_dcmp (C : Cx G own cc nL0 F L) {x y : UInt64} {op : CmpOp} (d : decode cc pc = .ok (.dcmp op, 1)) (hp : pc + 1 = pc') (k : Jd G kc ks nx ce pc' lv (.int (Op.cmpValue (FP.dcmp x y) op) :: st)) : Jd G kc ks nx ce pc lv (.double y :: .double x :: st) := by
  obtain ⟨X, nL, p, l, e, R, s, m, args, below, meth, c, Q⟩ := G
  obtain ⟨rfl, hx, hb, hml, hown, hts, hK, hF, hL, hlk⟩ := C
  subst hp
  intro H locs cells slots ls hR hS hc hs hl
  exact lv_dcmp hx hb d (k H locs cells slots ls hR hS hc hs hl)
theorem j_lcmp (C : Cx G own cc nL0 F L) {x y : Int64} (d : decode cc pc = .ok (.lcmp, 1)) (hp : pc + 1 = pc') (k : Jd G kc ks nx ce pc' lv (.int (lg_cmp x y) :: st)) : Jd G kc ks nx ce pc lv (.long y :: .long x :: st) := by
  obtain ⟨X, nL, p, l, e, R, s, m, args, below, meth, c, Q⟩ := G
  obtain ⟨rfl, hx, hb, hml, hown, hts, hK, hF, hL, hlk⟩ := C
  subst hp
  intro H locs cells slots ls hR hS hc hs hl
  exact W.lcmp hx hb d (k H locs cells slots ls hR hS hc hs hl)
theorem fq_n {x v : UInt32} (h : fq x = some v) : x = v ∧ vf_n32 x := by
  unfold fq isNaN32 at h
  by_cases hn : (decide (x &&& 0x7fffffff > 0x7f800000)) = true
  · rw [if_pos hn] at h; cases h
  · rw [if_neg hn] at h
    refine ⟨Option.some.inj h, ?_⟩
    unfold vf_n32
    simpa using hn
theorem dq_n {x v : UInt64} (h : dq x = some v) : x = v ∧ vf_n64 x := by
  unfold dq isNaN64 at h
  by_cases hn : (decide (x &&& 0x7fffffffffffffff > 0x7ff0000000000000)) = true
  · rw [if_pos hn] at h; cases h
  · rw [if_neg hn] at h
    refine ⟨Option.some.inj h, ?_⟩
    unfold vf_n64
    simpa using hn
theorem j_fadd (C : Cx G own cc nL0 F L) {x y v : UInt32} (d : decode cc pc = .ok (.fadd, 1)) (hq : fq (FP.fadd x y) = some v) (hp : pc + 1 = pc') (k : Jd G kc ks nx ce pc' lv (.float v :: st)) : Jd G kc ks nx ce pc lv (.float y :: .float x :: st) := by
  obtain ⟨X, nL, p, l, e, R, s, m, args, below, meth, c, Q⟩ := G
  obtain ⟨rfl, hx, hb, hml, hown, hts, hK, hF, hL, hlk⟩ := C
  subst hp
  intro H locs cells slots ls hR hS hc hs hl
  obtain ⟨rfl, h2⟩ := fq_n hq
  exact lv_fadd hx hb d h2 (k H locs cells slots ls hR hS hc hs hl)
theorem j_fmul (C : Cx G own cc nL0 F L) {x y v : UInt32} (d : decode cc pc = .ok (.fmul, 1)) (hq : fq (FP.fmul x y) = some v) (hp : pc + 1 = pc') (k : Jd G kc ks nx ce pc' lv (.float v :: st)) : Jd G kc ks nx ce pc lv (.float y :: .float x :: st) := by
  obtain ⟨X, nL, p, l, e, R, s, m, args, below, meth, c, Q⟩ := G
  obtain ⟨rfl, hx, hb, hml, hown, hts, hK, hF, hL, hlk⟩ := C
  subst hp
  intro H locs cells slots ls hR hS hc hs hl
  obtain ⟨rfl, h2⟩ := fq_n hq
  exact lv_fmul hx hb d h2 (k H locs cells slots ls hR hS hc hs hl)
theorem j_fdiv (C : Cx G own cc nL0 F L) {x y v : UInt32} (d : decode cc pc = .ok (.fdiv, 1)) (hq : fq (FP.fdiv x y) = some v) (hp : pc + 1 = pc') (k : Jd G kc ks nx ce pc' lv (.float v :: st)) : Jd G kc ks nx ce pc lv (.float y :: .float x :: st) := by
  obtain ⟨X, nL, p, l, e, R, s, m, args, below, meth, c, Q⟩ := G
  obtain ⟨rfl, hx, hb, hml, hown, hts, hK, hF, hL, hlk⟩ := C
  subst hp
  intro H locs cells slots ls hR hS hc hs hl
  obtain ⟨rfl, h2⟩ := fq_n hq
  exact lv_fdiv hx hb d h2 (k H locs cells slots ls hR hS hc hs hl)
theorem j_dmul (C : Cx G own cc nL0 F L) {x y v : UInt64} (d : decode cc pc = .ok (.dmul, 1)) (hq : dq (FP.dmul x y) = some v) (hp : pc + 1 = pc') (k : Jd G kc ks nx ce pc' lv (.double v :: st)) : Jd G kc ks nx ce pc lv (.double y :: .double x :: st) := by
  obtain ⟨X, nL, p, l, e, R, s, m, args, below, meth, c, Q⟩ := G
  obtain ⟨rfl, hx, hb, hml, hown, hts, hK, hF, hL, hlk⟩ := C
  subst hp
  intro H locs cells slots ls hR hS hc hs hl
  obtain ⟨rfl, h2⟩ := dq_n hq
  exact lv_dmul hx hb d h2 (k H locs cells slots ls hR hS hc hs hl)
theorem j_ddiv (C : Cx G own cc nL0 F L) {x y v : UInt64} (d : decode cc pc = .ok (.ddiv, 1)) (hq : dq (FP.ddiv x y) = some v) (hp : pc + 1 = pc') (k : Jd G kc ks nx ce pc' lv (.double v :: st)) : Jd G kc ks nx ce pc lv (.double y :: .double x :: st) := by
  obtain ⟨X, nL, p, l, e, R, s, m, args, below, meth, c, Q⟩ := G
  obtain ⟨rfl, hx, hb, hml, hown, hts, hK, hF, hL, hlk⟩ := C
  subst hp
  intro H locs cells slots ls hR hS hc hs hl
  obtain ⟨rfl, h2⟩ := dq_n hq
  exact lv_ddiv hx hb d h2 (k H locs cells slots ls hR hS hc hs hl)
theorem j_dup (C : Cx G own cc nL0 F L) {v : Value} (d : decode cc pc = .ok (.dup, 1)) (hv : v.category = 1) (hp : pc + 1 = pc') (k : Jd G kc ks nx ce pc' lv (v :: v :: st)) : Jd G kc ks nx ce pc lv (v :: st) := by
  obtain ⟨X, nL, p, l, e, R, s, m, args, below, meth, c, Q⟩ := G
  obtain ⟨rfl, hx, hb, hml, hown, hts, hK, hF, hL, hlk⟩ := C
  subst hp
  intro H locs cells slots ls hR hS hc hs hl
  exact lv_dup hx hb d hv (k H locs cells slots ls hR hS hc hs hl)
theorem j_pop (C : Cx G own cc nL0 F L) {v : Value} (d : decode cc pc = .ok (.pop, 1)) (hv : v.category = 1) (hp : pc + 1 = pc') (k : Jd G kc ks nx ce pc' lv (st)) : Jd G kc ks nx ce pc lv (v :: st) := by
  obtain ⟨X, nL, p, l, e, R, s, m, args, below, meth, c, Q⟩ := G
  obtain ⟨rfl, hx, hb, hml, hown, hts, hK, hF, hL, hlk⟩ := C
  subst hp
  intro H locs cells slots ls hR hS hc hs hl
  exact lv_pop hx hb d hv (k H locs cells slots ls hR hS hc hs hl)
theorem j_dup2 (C : Cx G own cc nL0 F L) {v u : Value} (d : decode cc pc = .ok (.dup2, 1)) (hv : v.category = 1) (hu : u.category = 1) (hp : pc + 1 = pc') (k : Jd G kc ks nx ce pc' lv (v :: u :: v :: u :: st)) : Jd G kc ks nx ce pc lv (v :: u :: st) := by
  obtain ⟨X, nL, p, l, e, R, s, m, args, below, meth, c, Q⟩ := G
  obtain ⟨rfl, hx, hb, hml, hown, hts, hK, hF, hL, hlk⟩ := C
  subst hp
  intro H locs cells slots ls hR hS hc hs hl
  exact lv_dup2_11 hx hb d hv hu (k H locs cells slots ls hR hS hc hs hl)
theorem j_if_eq (C : Cx G own cc nL0 F L) {x : Int32} {off : Int} {tgt : Nat} (d : decode cc pc = .ok (.ifCond .eq off, 3)) (ht : (pc : Int) + off = (tgt : Int)) (hp : pc + 3 = pc') (kt : x = 0 → Jd G kc ks nx ce tgt lv st) (kf : ¬ x = 0 → Jd G kc ks nx ce pc' lv st) : Jd G kc ks nx ce pc lv (.int x :: st) := by
  obtain ⟨X, nL, p, l, e, R, s, m, args, below, meth, c, Q⟩ := G
  obtain ⟨rfl, hx, hb, hml, hown, hts, hK, hF, hL, hlk⟩ := C
  subst hp
  intro H locs cells slots ls hR hS hc hs hl
  exact lv_if_eq hx hb d ht (fun h => kt h H locs cells slots ls hR hS hc hs hl) (fun h => kf h H locs cells slots ls hR hS hc hs hl)
theorem j_if_ne (C : Cx G own cc nL0 F L) {x : Int32} {off : Int} {tgt : Nat} (d : decode cc pc = .ok (.ifCond .ne off, 3)) (ht : (pc : Int) + off = (tgt : Int)) (hp : pc + 3 = pc') (kt : ¬ x = 0 → Jd G kc ks nx ce tgt lv st) (kf : x = 0 → Jd G kc ks nx ce pc' lv st) : Jd G kc ks nx ce pc lv (.int x :: st) := by
  obtain ⟨X, nL, p, l, e, R, s, m, args, below, meth, c, Q⟩ := G
  obtain ⟨rfl, hx, hb, hml, hown, hts, hK, hF, hL, hlk⟩ := C
  subst hp
  intro H locs cells slots ls hR hS hc hs hl
  exact lv_if_ne hx hb d ht (fun h => kt h H locs cells slots ls hR hS hc hs hl) (fun h => kf h H locs cells slots ls hR hS hc hs hl)
theorem j_if_lt (C : Cx G own cc nL0 F L) {x : Int32} {off : Int} {tgt : Nat} (d : decode cc pc = .ok (.ifCond .lt off, 3)) (ht : (pc : Int) + off = (tgt : Int)) (hp : pc + 3 = pc') (kt : x < 0 → Jd G kc ks nx ce tgt lv st) (kf : ¬ x < 0 → Jd G kc ks nx ce pc' lv st) : Jd G kc ks nx ce pc lv (.int x :: st) := by
  obtain ⟨X, nL, p, l, e, R, s, m, args, below, meth, c, Q⟩ := G
  obtain ⟨rfl, hx, hb, hml, hown, hts, hK, hF, hL, hlk⟩ := C
  subst hp
  intro H locs cells slots ls hR hS hc hs hl
  exact lv_if_lt hx hb d ht (fun h => kt h H locs cells slots ls hR hS hc hs hl) (fun h => kf h H locs cells slots ls hR hS hc hs hl)
theorem j_if_ge (C : Cx G own cc nL0 F L) {x : Int32} {off : Int} {tgt : Nat} (d : decode cc pc = .ok (.ifCond .ge off, 3)) (ht : (pc : Int) + off = (tgt : Int)) (hp : pc + 3 = pc') (kt : 0 ≤ x → Jd G kc ks nx ce tgt lv st) (kf : ¬ 0 ≤ x → Jd G kc ks nx ce pc' lv st) : Jd G kc ks nx ce pc lv (.int x :: st) := by
  obtain ⟨X, nL, p, l, e, R, s, m, args, below, meth, c, Q⟩ := G
  obtain ⟨rfl, hx, hb, hml, hown, hts, hK, hF, hL, hlk⟩ := C
  subst hp
  intro H locs cells slots ls hR hS hc hs hl
  exact lv_if_ge hx hb d ht (fun h => kt h H locs cells slots ls hR hS hc hs hl) (fun h => kf h H locs cells slots ls hR hS hc hs hl)
theorem j_if_gt (C : Cx G own cc nL0 F L) {x : Int32} {off : Int} {tgt : Nat} (d : decode cc pc = .ok (.ifCond .gt off, 3)) (ht : (pc : Int) + off = (tgt : Int)) (hp : pc + 3 = pc') (kt : 0 < x → Jd G kc ks nx ce tgt lv st) (kf : ¬ 0 < x → Jd G kc ks nx ce pc' lv st) : Jd G kc ks nx ce pc lv (.int x :: st) := by
  obtain ⟨X, nL, p, l, e, R, s, m, args, below, meth, c, Q⟩ := G
  obtain ⟨rfl, hx, hb, hml, hown, hts, hK, hF, hL, hlk⟩ := C
  subst hp
  intro H locs cells slots ls hR hS hc hs hl
  exact lv_if_gt hx hb d ht (fun h => kt h H locs cells slots ls hR hS hc hs hl) (fun h => kf h H locs cells slots ls hR hS hc hs hl)
theorem j_if_le (C : Cx G own cc nL0 F L) {x : Int32} {off : Int} {tgt : Nat} (d : decode cc pc = .ok (.ifCond .le off, 3)) (ht : (pc : Int) + off = (tgt : Int)) (hp : pc + 3 = pc') (kt : x ≤ 0 → Jd G kc ks nx ce tgt lv st) (kf : ¬ x ≤ 0 → Jd G kc ks nx ce pc' lv st) : Jd G kc ks nx ce pc lv (.int x :: st) := by
  obtain ⟨X, nL, p, l, e, R, s, m, args, below, meth, c, Q⟩ := G
  obtain ⟨rfl, hx, hb, hml, hown, hts, hK, hF, hL, hlk⟩ := C
  subst hp
  intro H locs cells slots ls hR hS hc hs hl
  exact lv_if_le hx hb d ht (fun h => kt h H locs cells slots ls hR hS hc hs hl) (fun h => kf h H locs cells slots ls hR hS hc hs hl)
theorem j_ic_eq (C : Cx G own cc nL0 F L) {x y : Int32} {off : Int} {tgt : Nat} (d : decode cc pc = .ok (.if_icmp .eq off, 3)) (ht : (pc : Int) + off = (tgt : Int)) (hp : pc + 3 = pc') (kt : x = y → Jd G kc ks nx ce tgt lv st) (kf : ¬ x = y → Jd G kc ks nx ce pc' lv st) : Jd G kc ks nx ce pc lv (.int y :: .int x :: st) := by
  obtain ⟨X, nL, p, l, e, R, s, m, args, below, meth, c, Q⟩ := G
  obtain ⟨rfl, hx, hb, hml, hown, hts, hK, hF, hL, hlk⟩ := C
  subst hp
  intro H locs cells slots ls hR hS hc hs hl
  exact lv_icmp_eq hx hb d ht (fun h => kt h H locs cells slots ls hR hS hc hs hl) (fun h => kf h H locs cells slots ls hR hS hc hs hl)
theorem j_ic_ne (C : Cx G own cc nL0 F L) {x y : Int32} {off : Int} {tgt : Nat} (d : decode cc pc = .ok (.if_icmp .ne off, 3)) (ht : (pc : Int) + off = (tgt : Int)) (hp : pc + 3 = pc') (kt : ¬ x = y → Jd G kc ks nx ce tgt lv st) (kf : x = y → Jd G kc ks nx ce pc' lv st) : Jd G kc ks nx ce pc lv (.int y :: .int x :: st) := by
  obtain ⟨X, nL, p, l, e, R, s, m, args, below, meth, c, Q⟩ := G
  obtain ⟨rfl, hx, hb, hml, hown, hts, hK, hF, hL, hlk⟩ := C
  subst hp
  intro H locs cells slots ls hR hS hc hs hl
  exact lv_icmp_ne hx hb d ht (fun h => kt h H locs cells slots ls hR hS hc hs hl) (fun h => kf h H locs cells slots ls hR hS hc hs hl)
theorem j_ic_lt (C : Cx G own cc nL0 F L) {x y : Int32} {off : Int} {tgt : Nat} (d : decode cc pc = .ok (.if_icmp .lt off, 3)) (ht : (pc : Int) + off = (tgt : Int)) (hp : pc + 3 = pc') (kt : x < y → Jd G kc ks nx ce tgt lv st) (kf : ¬ x < y → Jd G kc ks nx ce pc' lv st) : Jd G kc ks nx ce pc lv (.int y :: .int x :: st) := by
  obtain ⟨X, nL, p, l, e, R, s, m, args, below, meth, c, Q⟩ := G
  obtain ⟨rfl, hx, hb, hml, hown, hts, hK, hF, hL, hlk⟩ := C
  subst hp
  intro H locs cells slots ls hR hS hc hs hl
  exact lv_icmp_lt hx hb d ht (fun h => kt h H locs cells slots ls hR hS hc hs hl) (fun h => kf h H locs cells slots ls hR hS hc hs hl)
theorem j_ic_ge (C : Cx G own cc nL0 F L) {x y : Int32} {off : Int} {tgt : Nat} (d : decode cc pc = .ok (.if_icmp .ge off, 3)) (ht : (pc : Int) + off = (tgt : Int)) (hp : pc + 3 = pc') (kt : y ≤ x → Jd G kc ks nx ce tgt lv st) (kf : ¬ y ≤ x → Jd G kc ks nx ce pc' lv st) : Jd G kc ks nx ce pc lv (.int y :: .int x :: st) := by
  obtain ⟨X, nL, p, l, e, R, s, m, args, below, meth, c, Q⟩ := G
  obtain ⟨rfl, hx, hb, hml, hown, hts, hK, hF, hL, hlk⟩ := C
  subst hp
  intro H locs cells slots ls hR hS hc hs hl
  exact lv_icmp_ge hx hb d ht (fun h => kt h H locs cells slots ls hR hS hc hs hl) (fun h => kf h H locs cells slots ls hR hS hc hs hl)
theorem j_ic_gt (C : Cx G own cc nL0 F L) {x y : Int32} {off : Int} {tgt : Nat} (d : decode cc pc = .ok (.if_icmp .gt off, 3)) (ht : (pc : Int) + off = (tgt : Int)) (hp : pc + 3 = pc') (kt : y < x → Jd G kc ks nx ce tgt lv st) (kf : ¬ y < x → Jd G kc ks nx ce pc' lv st) : Jd G kc ks nx ce pc lv (.int y :: .int x :: st) := by
  obtain ⟨X, nL, p, l, e, R, s, m, args, below, meth, c, Q⟩ := G
  obtain ⟨rfl, hx, hb, hml, hown, hts, hK, hF, hL, hlk⟩ := C
  subst hp
  intro H locs cells slots ls hR hS hc hs hl
  exact lv_icmp_gt hx hb d ht (fun h => kt h H locs cells slots ls hR hS hc hs hl) (fun h => kf h H locs cells slots ls hR hS hc hs hl)
theorem j_ic_le (C : Cx G own cc nL0 F L) {x y : Int32} {off : Int} {tgt : Nat} (d : decode cc pc = .ok (.if_icmp .le off, 3)) (ht : (pc : Int) + off = (tgt : Int)) (hp : pc + 3 = pc') (kt : x ≤ y → Jd G kc ks nx ce tgt lv st) (kf : ¬ x ≤ y → Jd G kc ks nx ce pc' lv st) : Jd G kc ks nx ce pc lv (.int y :: .int x :: st) := by
  obtain ⟨X, nL, p, l, e, R, s, m, args, below, meth, c, Q⟩ := G
  obtain ⟨rfl, hx, hb, hml, hown, hts, hK, hF, hL, hlk⟩ := C
  subst hp
  intro H locs cells slots ls hR hS hc hs hl
  exact lv_icmp_le hx hb d ht (fun h => kt h H locs cells slots ls hR hS hc hs hl) (fun h => kf h H locs cells slots ls hR hS hc hs hl)
theorem j_goto (C : Cx G own cc nL0 F L) {off : Int} {tgt : Nat} (d : decode cc pc = .ok (.goto off, 3)) (ht : (pc : Int) + off = (tgt : Int)) (k : Jd G kc ks nx ce tgt lv st) : Jd G kc ks nx ce pc lv st := by
  obtain ⟨X, nL, p, l, e, R, s, m, args, below, meth, c, Q⟩ := G
  obtain ⟨rfl, hx, hb, hml, hown, hts, hK, hF, hL, hlk⟩ := C
  intro H locs cells slots ls hR hS hc hs hl
  exact lv_goto hx hb d ht (k H locs cells slots ls hR hS hc hs hl)
theorem j_ifnull (C : Cx G own cc nL0 F L) {x : Option Nat} {off : Int} {tgt : Nat} (d : decode cc pc = .ok (.ifnull off, 3)) (ht : (pc : Int) + off = (tgt : Int)) (hp : pc + 3 = pc') (kt : x = none → Jd G kc ks nx ce tgt lv st) (kf : ∀ a, x = some a → Jd G kc ks nx ce pc' lv st) : Jd G kc ks nx ce pc lv (va_rf x :: st) := by
  obtain ⟨X, nL, p, l, e, R, s, m, args, below, meth, c, Q⟩ := G
  obtain ⟨rfl, hx, hb, hml, hown, hts, hK, hF, hL, hlk⟩ := C
  subst hp
  intro H locs cells slots ls hR hS hc hs hl
  cases x with
  | none => exact lv_ifnullN hx hb d ht (kt rfl H locs cells slots ls hR hS hc hs hl)
  | some a => exact lv_ifnull hx hb d (kf a rfl H locs cells slots ls hR hS hc hs hl)
theorem j_ifnonnull (C : Cx G own cc nL0 F L) {x : Option Nat} {off : Int} {tgt : Nat} (d : decode cc pc = .ok (.ifnonnull off, 3)) (ht : (pc : Int) + off = (tgt : Int)) (hp : pc + 3 = pc') (kt : ∀ a, x = some a → Jd G kc ks nx ce tgt lv st) (kf : x = none → Jd G kc ks nx ce pc' lv st) : Jd G kc ks nx ce pc lv (va_rf x :: st) := by
  obtain ⟨X, nL, p, l, e, R, s, m, args, below, meth, c, Q⟩ := G
  obtain ⟨rfl, hx, hb, hml, hown, hts, hK, hF, hL, hlk⟩ := C
  subst hp
  intro H locs cells slots ls hR hS hc hs hl
  cases x with
  | none => exact lv_ifnonnullN hx hb d (kf rfl H locs cells slots ls hR hS hc hs hl)
  | some a => exact lv_ifnonnull hx hb d ht (kt a rfl H locs cells slots ls hR hS hc hs hl)
theorem j_tabIn (C : Cx G own cc nL0 F L) {dflt lo hi : Int} {offs : Array Int} {len : Nat} {x v : Int32} {off : Int} {tgt : Nat} (d : decode cc pc = .ok (.tableswitch dflt lo hi offs, len)) (hv : x = v) (h1 : ¬ v.toInt < lo ∧ ¬ hi < v.toInt ∧ offs[(v.toInt - lo).toNat]? = some off) (ht : (pc : Int) + off = (tgt : Int)) (k : Jd G kc ks nx ce tgt lv st) : Jd G kc ks nx ce pc lv (.int x :: st) := by
  obtain ⟨X, nL, p, l, e, R, s, m, args, below, meth, c, Q⟩ := G
  obtain ⟨rfl, hx, hb, hml, hown, hts, hK, hF, hL, hlk⟩ := C
  subst hv
  intro H locs cells slots ls hR hS hc hs hl
  exact lv_tableIn hx hb d h1.1 h1.2.1 h1.2.2 ht (k H locs cells slots ls hR hS hc hs hl)
theorem tab_out {x : Int32} {lo hi : Int} (n : Nat) (hn : hi < lo + n) (hlo : -2147483648 ≤ lo) (hhi : hi < 2147483648) (h : ∀ i : Nat, i < n → ¬ x = Int32.ofInt (lo + i)) : x.toInt < lo ∨ hi < x.toInt := by
  rcases Int.lt_or_le x.toInt lo with h1 | h1
  · exact Or.inl h1
  · rcases Int.lt_or_le hi x.toInt with h2 | h2
    · exact Or.inr h2
    · exfalso
      refine h (x.toInt - lo).toNat (by omega) ?_
      have e : lo + ((x.toInt - lo).toNat : Int) = x.toInt := by omega
      rw [e, Int32.ofInt_toInt]
theorem j_tabOut (C : Cx G own cc nL0 F L) {dflt lo hi : Int} {offs : Array Int} {len : Nat} {x : Int32} {tgt : Nat} (d : decode cc pc = .ok (.tableswitch dflt lo hi offs, len)) (h : x.toInt < lo ∨ hi < x.toInt) (ht : (pc : Int) + dflt = (tgt : Int)) (k : Jd G kc ks nx ce tgt lv st) : Jd G kc ks nx ce pc lv (.int x :: st) := by
  obtain ⟨X, nL, p, l, e, R, s, m, args, below, meth, c, Q⟩ := G
  obtain ⟨rfl, hx, hb, hml, hown, hts, hK, hF, hL, hlk⟩ := C
  intro H locs cells slots ls hR hS hc hs hl
  exact lv_tableOut hx hb d h ht (k H locs cells slots ls hR hS hc hs hl)
theorem j_lkp (C : Cx G own cc nL0 F L) {dflt : Int} {ps : Array (Int × Int)} {len : Nat} {x : Int32} {off : Int} {tgt : Nat} (d : decode cc pc = .ok (.lookupswitch dflt ps, len)) (hp : (ps.toList.zip (ps.toList.drop 1)).all (fun (a, next) => a.1 < next.1) = true) (ho : Op.lookupswitch.offset ps.toList dflt x.toInt = off) (ht : (pc : Int) + off = (tgt : Int)) (k : Jd G kc ks nx ce tgt lv st) : Jd G kc ks nx ce pc lv (.int x :: st) := by
  obtain ⟨X, nL, p, l, e, R, s, m, args, below, meth, c, Q⟩ := G
  obtain ⟨rfl, hx, hb, hml, hown, hts, hK, hF, hL, hlk⟩ := C
  intro H locs cells slots ls hR hS hc hs hl
  exact lv_lookup hx hb d hp ho ht (k H locs cells slots ls hR hS hc hs hl)
end JROWS
