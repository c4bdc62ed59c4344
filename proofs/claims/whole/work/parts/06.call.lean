/-- where a method's walk must come to: its answer rv, the pool ce of nx addresses -/
def Fin_ (G : GC) (rv : Option Value) (nx : Nat) (ce : Ce) : Prop := match G with
  | (X, _, _, _, _, R, s, _, args, below, _, _, Q) => Q = MQ below (fun _ st oc t => (oc = .returned rv ∧ gx_R X nx ce t.heap) ∧ va_F (gx_A X) st t) args s R.cells R.slots (gx_A X)
/-- method y's contract over the pool: from av and ce it comes to rv and ce', having made kc cells of ks slots -/
def Ct (y : MethodName) (cc : ByteArray) (maxL : Nat) (ret : Option FieldType) (fr lo kc ks : Nat) (av : List Value) (nx : Nat) (ce : Ce) (rv : Option Value) (ce' : Ce) : Prop :=
  ∀ (X : GX) (l : Launch), Met l y (.code y cc maxL ret :: lw_gd) { frames := fr, cells := kc, slots := ks, locals := lo } (va_Pc av (fun U => gx_K X U ∧ gx_R X nx ce U.heap)) (fun _ st oc t => (oc = .returned rv ∧ gx_R X (nx + kc) ce' t.heap) ∧ va_F (gx_A X) st t) kc ks (gx_A X)
theorem gx_N.moved {U V : State} (hW : U.WarmedH V.vm) (h : gx_N U) : gx_N V := ⟨va_AO.moved hW.alike h.1, va_AO.moved hW.alike h.2.1, va_Nw.warmF hW h.2.2.1, va_Nw.warmF hW h.2.2.2.1, va_Nw.warmC hW h.2.2.2.2.1, va_Nw.warmC hW h.2.2.2.2.2⟩
theorem gx_N.same {U V : State} (hv : V.vm = U.vm) (h : gx_N U) : gx_N V := ⟨va_AO.moved (by rw [hv]; exact Vm.Alike.refl _) h.1, va_AO.moved (by rw [hv]; exact Vm.Alike.refl _) h.2.1, va_Nw.same rfl hv.symm h.2.2.1, va_Nw.same rfl hv.symm h.2.2.2.1, va_Nw.same rfl hv.symm h.2.2.2.2.1, va_Nw.same rfl hv.symm h.2.2.2.2.2⟩
theorem gx_K.moved {X : GX} {U V : State} (h : gx_K X U) (hW : U.WarmedH V.vm) (hh : U.heap.size ≤ V.heap.size) (hq : ∀ q : Nat, q < U.heap.size → ¬ gx_A X q → V.heap[q]? = U.heap[q]?) : gx_K X V :=
  ⟨va_K.moved hW.alike h.1, Nat.le_trans h.2.1 hh, va_Z.kept (va_Z.moved hW.alike h.2.2.1) hq, va_T.kept (va_T.moved hW.alike h.2.2.2.1) hq, ⟨vk_S.kept (vk_S.moved hW.alike h.2.2.2.2.1.1) hq, fun k hk => vk_R.warm hW (h.2.2.2.2.1.2.1 k hk), va_Z.kept (va_Z.moved hW.alike h.2.2.2.2.1.2.2.1) hq, va_Z.kept (va_Z.moved hW.alike h.2.2.2.2.1.2.2.2) hq⟩, gx_N.moved hW h.2.2.2.2.2⟩
theorem gx_K.same {X : GX} {U V : State} (h : gx_K X U) (hv : V.vm = U.vm) (hh : V.heap = U.heap) : gx_K X V := by
  refine ⟨va_K.moved (by rw [hv]; exact Vm.Alike.refl _) h.1, by rw [hh]; exact h.2.1, ?_, ?_, ⟨?_, fun k hk => vk_R.same hv (h.2.2.2.2.1.2.1 k hk), by rw [hh]; exact va_Z.moved (by rw [hv]; exact Vm.Alike.refl _) h.2.2.2.2.1.2.2.1, by rw [hh]; exact va_Z.moved (by rw [hv]; exact Vm.Alike.refl _) h.2.2.2.2.1.2.2.2⟩, gx_N.same hv h.2.2.2.2.2⟩
  · rw [hh]; exact va_Z.moved (by rw [hv]; exact Vm.Alike.refl _) h.2.2.1
  · rw [hh]; exact va_T.moved (by rw [hv]; exact Vm.Alike.refl _) h.2.2.2.1
  · rw [hh]; exact vk_S.moved (by rw [hv]; exact Vm.Alike.refl _) h.2.2.2.2.1.1
theorem lw_allgood : lw_gd.all goodWord = true := List.all_eq_true.mpr (fun _ h => (List.mem_filter.mp h).2)
theorem lw_goodin {y : MethodName} {cc : ByteArray} {maxL : Nat} {ret : Option FieldType} (h : Cond.code y cc maxL ret ∈ lw_gd) : GoodIn lw_gd (.code y cc maxL ret :: lw_gd) := by
  intro w hw
  have hm : w ∈ lw_gd := by
    rcases List.mem_cons.mp hw with rfl | h2
    · exact h
    · exact h2
  exact ⟨hm, good_of_word (List.all_eq_true.mp lw_allgood w hm)⟩
/-- the same where what is handed in lies outside the pool (texts) -/
def CtG (y : MethodName) (cc : ByteArray) (maxL : Nat) (ret : Option FieldType) (fr lo : Nat) (av : GX → List Value) (nx : Nat) (ce : Ce) (rv : Option Value) (ce' : Ce) : Prop :=
  ∀ (X : GX) (l : Launch), Met l y (.code y cc maxL ret :: lw_gd) { frames := fr, cells := 0, slots := 0, locals := lo } (va_Pc (av X) (fun U => gx_K X U ∧ gx_R X nx ce U.heap)) (fun _ st oc t => (oc = .returned rv ∧ gx_R X (nx + 0) ce' t.heap) ∧ va_F (gx_A X) st t) 0 0 (gx_A X)
theorem ctG_of {y : MethodName} {cc : ByteArray} {maxL : Nat} {ret : Option FieldType} {fr lo : Nat} {av : GX → List Value} {nx : Nat} {ce : Ce} {rv : Option Value} {ce' : Ce} (hy : plainName y.cls = true) (hl : ∀ X, (lg_sl (av X)).length ≤ maxL)
    (body : ∀ G : GC, Cx G y.cls cc maxL fr lo → Fin_ G rv (nx + 0) ce' → (gMeth G).sig.returnType = ret → (gMeth G).name = y.name → Jd G 0 0 nx ce 0 (lv_args 0 (av G.1)) []) : CtG y cc maxL ret fr lo av nx ce rv ce' := by
  intro X l
  refine Met.ofW (cc := cc) (maxL := maxL) (ret := ret) hy rfl ?_
  intro p e s m args below meth c s1 B hml hv
  obtain ⟨rfl, hK, hR⟩ := hv
  have hts := atoms_spec (ws := Cond.code y cc maxL ret :: lw_gd) B.pre
  have hown : s.vm.findClass y.cls = some m.cls := findClass_of_methodNamed B.named
  have h0 := body (X, maxL, p, l, e, (headSpec (Cond.code y cc maxL ret :: lw_gd) { frames := fr, cells := 0, slots := 0, locals := lo }).room, s, m, (av X).toArray, below, meth, c, MQ below (fun _ st oc t => (oc = .returned rv ∧ gx_R X (nx + 0) ce' t.heap) ∧ va_F (gx_A X) st t) (av X).toArray s 0 0 (gx_A X)) ⟨rfl, B.exec, B.bytes, hml, hown, fun w hw => hts w (List.mem_cons_of_mem _ hw), hK, Nat.le_refl _, Nat.le_refl _, B.notSynchronized⟩ rfl B.returns (name_of_methodNamed B.named B.method).1
  rw [lg_entry_eq]
  exact h0 s.heap [] 0 0 _ hR va_S.rf (Nat.zero_add _) (Nat.zero_add _) (lv_entry (av X) (hl X))
/-- the walk of a body gives the contract -/
theorem ct_of {y : MethodName} {cc : ByteArray} {maxL : Nat} {ret : Option FieldType} {fr lo kc ks : Nat} {av : List Value} {nx : Nat} {ce : Ce} {rv : Option Value} {ce' : Ce} (hy : plainName y.cls = true) (hl : (lg_sl av).length ≤ maxL)
    (body : ∀ G : GC, Cx G y.cls cc maxL fr lo → Fin_ G rv (nx + kc) ce' → (gMeth G).sig.returnType = ret → (gMeth G).name = y.name → Jd G kc ks nx ce 0 (lv_args 0 av) []) : Ct y cc maxL ret fr lo kc ks av nx ce rv ce' := by
  intro X l
  refine Met.ofW (cc := cc) (maxL := maxL) (ret := ret) hy rfl ?_
  intro p e s m args below meth c s1 B hml hv
  obtain ⟨rfl, hK, hR⟩ := hv
  have hts := atoms_spec (ws := Cond.code y cc maxL ret :: lw_gd) B.pre
  have hown : s.vm.findClass y.cls = some m.cls := findClass_of_methodNamed B.named
  have h0 := body (X, maxL, p, l, e, (headSpec (Cond.code y cc maxL ret :: lw_gd) { frames := fr, cells := kc, slots := ks, locals := lo }).room, s, m, av.toArray, below, meth, c, MQ below (fun _ st oc t => (oc = .returned rv ∧ gx_R X (nx + kc) ce' t.heap) ∧ va_F (gx_A X) st t) av.toArray s kc ks (gx_A X)) ⟨rfl, B.exec, B.bytes, hml, hown, fun w hw => hts w (List.mem_cons_of_mem _ hw), hK, Nat.le_refl _, Nat.le_refl _, B.notSynchronized⟩ rfl B.returns (name_of_methodNamed B.named B.method).1
  rw [lg_entry_eq]
  exact h0 s.heap [] 0 0 _ hR va_S.rf (Nat.zero_add _) (Nat.zero_add _) (lv_entry av hl)
theorem Met.ofWF {l : Launch} {y : MethodName} {ws ws' : List Cond} {rm : Room} {Pc : Array Value → State → Prop} {Qc : Array Value → State → Outcome → State → Prop} {mc ms : Nat} {free : Addr → Prop} {cc : ByteArray} {maxL : Nat} {ret : Option FieldType}
    (hy : plainFor y = true) (hw : ws = Cond.code y cc maxL ret :: ws')
    (body : ∀ p e s m args below meth c s₁, BodyLoose p l y (headSpec ws rm) cc maxL ret e s m args below meth c s₁ → c.maxLocals = maxL → Pc args s →
      W p l e (headSpec ws rm).room s m args below meth c s.heap [] 0 0 (MQ below Qc args s mc ms free) (entryFrame m args maxL)) : Met l y ws rm Pc Qc mc ms free := by
  refine MetFree.of_bodySF (code := cc) (maxLocals := maxL) (ret := ret) hy ?_ ?_
  · intro args s m h hn
    obtain ⟨meth, c, h1, h2, h3, h4, h5, h6, -, -⟩ := Cond.code_spec hn (atoms_spec (ws := ws) h _ (by rw [hw]; exact List.mem_cons_self))
    exact ⟨meth, c, h1, h2, h3, h4, h5, h6⟩
  · intro p e s m args below meth c s₁ B hml hP _
    have hh0 : s₁.heap = s.heap := by rw [B.state]; rfl
    obtain ⟨t, a1, o, b1, b2, b3⟩ := body p e s m args below meth c s₁ B hml hP s₁ hh0 (Stand.of_body B)
    exact ⟨t, o, a1, b1, b2, ⟨b3.1, b3.2⟩⟩
theorem ct_ofF {y : MethodName} {cc : ByteArray} {maxL : Nat} {ret : Option FieldType} {fr lo kc ks : Nat} {av : List Value} {nx : Nat} {ce : Ce} {rv : Option Value} {ce' : Ce} (hy : plainFor y = true) (hl : (lg_sl av).length ≤ maxL)
    (body : ∀ G : GC, Cx G y.cls cc maxL fr lo → Fin_ G rv (nx + kc) ce' → (gMeth G).sig.returnType = ret → (gMeth G).name = y.name → Jd G kc ks nx ce 0 (lv_args 0 av) []) : Ct y cc maxL ret fr lo kc ks av nx ce rv ce' := by
  intro X l
  refine Met.ofWF (cc := cc) (maxL := maxL) (ret := ret) hy rfl ?_
  intro p e s m args below meth c s1 B hml hv
  obtain ⟨rfl, hK, hR⟩ := hv
  have hts := atoms_spec (ws := Cond.code y cc maxL ret :: lw_gd) B.pre
  have hown : s.vm.findClass y.cls = some m.cls := findClass_of_methodNamed B.named
  have h0 := body (X, maxL, p, l, e, (headSpec (Cond.code y cc maxL ret :: lw_gd) { frames := fr, cells := kc, slots := ks, locals := lo }).room, s, m, av.toArray, below, meth, c, MQ below (fun _ st oc t => (oc = .returned rv ∧ gx_R X (nx + kc) ce' t.heap) ∧ va_F (gx_A X) st t) av.toArray s kc ks (gx_A X)) ⟨rfl, B.exec, B.bytes, hml, hown, fun w hw => hts w (List.mem_cons_of_mem _ hw), hK, Nat.le_refl _, Nat.le_refl _, B.notSynchronized⟩ rfl B.returns (name_of_methodNamed B.named B.method).1
  rw [lg_entry_eq]
  exact h0 s.heap [] 0 0 _ hR va_S.rf (Nat.zero_add _) (Nat.zero_add _) (lv_entry av hl)
/-- what the tables say of a method that is called -/
def YW (y : MethodName) (cc : ByteArray) (maxL : Nat) (ret : Option FieldType) (n : Nat) : Prop := Cond.code y cc maxL ret ∈ lw_gd ∧ Cond.initialized y.cls ∈ lw_gd ∧ y.cls ≠ "java/lang/invoke/MethodHandle" ∧ y.cls ≠ "java/lang/invoke/VarHandle" ∧ (parseMethodDescriptor y.desc).map (fun d => d.parameters.length) = some n
def adc {α : Type} (k s : Nat) (o : Option (α × Ce × Nat × Nat)) : Option (α × Ce × Nat × Nat) := o.map (fun q => (q.1, q.2.1, q.2.2.1 + k, q.2.2.2 + s))
theorem adc_sp {α : Type} {k s : Nat} {o : Option (α × Ce × Nat × Nat)} {r : α} {c : Ce} {K S : Nat} (h : adc k s o = some (r, c, K, S)) : ∃ K2 S2, o = some (r, c, K2, S2) ∧ K = K2 + k ∧ S = S2 + s := by
  unfold adc at h
  cases o with
  | none => cases h
  | some q =>
    obtain ⟨a, b, k2, s2⟩ := q
    cases h
    exact ⟨k2, s2, rfl, rfl, rfl⟩
section JCALL
variable {G : GC} {own : String} {cc : ByteArray} {nL0 F L : Nat} {kc ks nx : Nat} {ce ce' : Ce} {pc pc' : Nat} {lv lv' : List (Nat × Value)} {st : List Value}
theorem j_iret (C : Cx G own cc nL0 F L) {v : Int32} (hq : Fin_ G (some (.int v)) nx ce) (hr : (gMeth G).sig.returnType = some .int) (d : decode cc pc = .ok (.ireturn, 1)) : Jd G 0 0 nx ce pc lv [.int v] := by
  obtain ⟨X, nL, p, l, e, R, s, m, args, below, meth, c, Q⟩ := G
  obtain ⟨rfl, hx, hb, hml, hown, hts, hK, hF, hL, hlk⟩ := C
  intro H locs cells slots ls hR hS hc hs hl
  have hc' : cells = R.cells := hc
  have hs' : slots = R.slots := hs
  subst hc' hs'
  subst hq
  exact W.iret hx hb hr (fun t ht hW => ⟨⟨rfl, by rw [ht]; exact hR⟩, hS.F ht⟩) hS.2.2 d hlk
theorem j_lret (C : Cx G own cc nL0 F L) {v : Int64} (hq : Fin_ G (some (.long v)) nx ce) (hr : (gMeth G).sig.returnType = some .long) (d : decode cc pc = .ok (.lreturn, 1)) : Jd G 0 0 nx ce pc lv [.long v] := by
  obtain ⟨X, nL, p, l, e, R, s, m, args, below, meth, c, Q⟩ := G
  obtain ⟨rfl, hx, hb, hml, hown, hts, hK, hF, hL, hlk⟩ := C
  intro H locs cells slots ls hR hS hc hs hl
  have hc' : cells = R.cells := hc
  have hs' : slots = R.slots := hs
  subst hc' hs'
  subst hq
  exact W.lret hx hb hr (fun t ht hW => ⟨⟨rfl, by rw [ht]; exact hR⟩, hS.F ht⟩) hS.2.2 d hlk
theorem j_fret (C : Cx G own cc nL0 F L) {v : UInt32} (hq : Fin_ G (some (.float v)) nx ce) (hr : (gMeth G).sig.returnType = some .float) (d : decode cc pc = .ok (.freturn, 1)) : Jd G 0 0 nx ce pc lv [.float v] := by
  obtain ⟨X, nL, p, l, e, R, s, m, args, below, meth, c, Q⟩ := G
  obtain ⟨rfl, hx, hb, hml, hown, hts, hK, hF, hL, hlk⟩ := C
  intro H locs cells slots ls hR hS hc hs hl
  have hc' : cells = R.cells := hc
  have hs' : slots = R.slots := hs
  subst hc' hs'
  subst hq
  exact W.fret hx hb hr (fun t ht hW => ⟨⟨rfl, by rw [ht]; exact hR⟩, hS.F ht⟩) hS.2.2 d hlk
theorem j_dret (C : Cx G own cc nL0 F L) {v : UInt64} (hq : Fin_ G (some (.double v)) nx ce) (hr : (gMeth G).sig.returnType = some .double) (d : decode cc pc = .ok (.dreturn, 1)) : Jd G 0 0 nx ce pc lv [.double v] := by
  obtain ⟨X, nL, p, l, e, R, s, m, args, below, meth, c, Q⟩ := G
  obtain ⟨rfl, hx, hb, hml, hown, hts, hK, hF, hL, hlk⟩ := C
  intro H locs cells slots ls hR hS hc hs hl
  have hc' : cells = R.cells := hc
  have hs' : slots = R.slots := hs
  subst hc' hs'
  subst hq
  exact W.dret hx hb hr (fun t ht hW => ⟨⟨rfl, by rw [ht]; exact hR⟩, hS.F ht⟩) hS.2.2 d hlk
theorem j_zret (C : Cx G own cc nL0 F L) {v : Int32} {ty : FieldType} (hq : Fin_ G (some (.int v)) nx ce) (hr : (gMeth G).sig.returnType = some ty) (hn : narrow ty (.int v) = .int v) (d : decode cc pc = .ok (.ireturn, 1)) : Jd G 0 0 nx ce pc lv [.int v] := by
  obtain ⟨X, nL, p, l, e, R, s, m, args, below, meth, c, Q⟩ := G
  obtain ⟨rfl, hx, hb, hml, hown, hts, hK, hF, hL, hlk⟩ := C
  intro H locs cells slots ls hR hS hc hs hl
  have hc' : cells = R.cells := hc
  have hs' : slots = R.slots := hs
  subst hc' hs'
  subst hq
  exact W.zret hx hb hr hn (fun t ht hW => ⟨⟨rfl, by rw [ht]; exact hR⟩, hS.F ht⟩) hS.2.2 d hlk
theorem j_vret (C : Cx G own cc nL0 F L) (hq : Fin_ G none nx ce) (hr : (gMeth G).sig.returnType = none) (d : decode cc pc = .ok (.return_, 1)) : Jd G 0 0 nx ce pc lv [] := by
  obtain ⟨X, nL, p, l, e, R, s, m, args, below, meth, c, Q⟩ := G
  obtain ⟨rfl, hx, hb, hml, hown, hts, hK, hF, hL, hlk⟩ := C
  intro H locs cells slots ls hR hS hc hs hl
  have hc' : cells = R.cells := hc
  have hs' : slots = R.slots := hs
  subst hc' hs'
  subst hq
  exact W.vret hx hb hr (fun t ht hW => ⟨⟨rfl, by rw [ht]; exact hR⟩, hS.F ht⟩) hS.2.2 d hlk
theorem j_aret (C : Cx G own cc nL0 F L) {x : Option Nat} {rt : FieldType} (hq : Fin_ G (some (va_rf x)) nx ce) (hr : (gMeth G).sig.returnType = some rt) (hrt : (∃ n, rt = .object n) ∨ ∃ t, rt = .array t) (d : decode cc pc = .ok (.areturn, 1)) : Jd G 0 0 nx ce pc lv [va_rf x] := by
  obtain ⟨X, nL, p, l, e, R, s, m, args, below, meth, c, Q⟩ := G
  obtain ⟨rfl, hx, hb, hml, hown, hts, hK, hF, hL, hlk⟩ := C
  intro H locs cells slots ls hR hS hc hs hl
  have hc' : cells = R.cells := hc
  have hs' : slots = R.slots := hs
  subst hc' hs'
  subst hq
  exact W.aret hx hb hr hrt (by cases x with
    | none => exact Or.inl rfl
    | some a => exact Or.inr ⟨a, rfl⟩) (fun t ht hW => ⟨⟨rfl, by rw [ht]; exact hR⟩, hS.F ht⟩) hS.2.2 d hlk
theorem j_newa (C : Cx G own cc nL0 F L) {n : Int32} {ty : FieldType} {at_ : ArrayType} (d : decode cc pc = .ok (.newarray at_, 2)) (ht : newarray.typeOf at_ = ty) {t0 : Nat} (h0 : ∀ cy, (gx_tyl cy)[t0]? = some (cy ty, ty)) (hty : ∀ (U : State) (cA : ClassId), va_RA U cA ty = (U.vm.findClass ("[" ++ ty.toString) = some cA)) (hw : Cond.arrayClass ty ∈ lw_gd) {a0 : vp_A} {N : Nat} (ha : ∀ cA : ClassId, vp_cell cA a0 = arrV cA N (fun _ => defaultValue ty)) (hn : ¬ n < 0) (hN : n.toNatClampNeg = N) (hB : N * componentBytes ty ≤ 536870912) (hp : pc + 2 = pc') (k : Jd G kc ks (nx + 1) (gx_up ce nx (.inl (ty, a0))) pc' lv (.ref nx :: st)) : Jd G (kc + 1) (ks + N) nx ce pc lv (.int n :: st) := by
  obtain ⟨X, nL, p, l, e, R, s, m, args, below, meth, c, Q⟩ := G
  obtain ⟨rfl, hx, hb, hml, hown, hts, hK, hF, hL, hlk⟩ := C
  subst hp
  intro H locs cells slots ls hR hS hc hs hl
  subst ht
  obtain ⟨hnx, hb0, hRR⟩ := id hR
  refine W.newa hx hb (hts _ hw) (g := F0 m pc ls (.int n :: st)) rfl d rfl hn (by rw [hN]; exact hB) (by omega) (by omega) fun cA kA comp h1 h2 h3 => ?_
  have h5 := (hK.1.2 t0 _ (h0 _)).2
  rw [hty] at h5
  have h6 : cA = X.2.1 (newarray.typeOf at_) := Option.some.inj (h1.symm.trans h5)
  have e1 : (H.push { cls := cA, slots := Array.replicate n.toNatClampNeg (defaultValue (newarray.typeOf at_)), vm := .none }) = H.push (vp_cell (X.2.1 (newarray.typeOf at_)) a0) := by rw [ha, ← h6, hN, arrV_new]
  rw [e1, hnx, hN]
  refine k _ locs (cells + 1) (slots + N) ls (hR.push ?_ (by rw [Array.size_push, hnx]) (fun q hq => by rw [Array.getElem?_push, if_neg (by omega)])) ⟨Nat.le_trans hS.1 (by rw [Array.size_push]; omega), fun q h1 h2 => ?_, hS.2.2⟩ (by omega) (by omega) hl
  · show (H.push _)[nx]? = _
    rw [← hnx, Array.getElem?_push_size]
  · have := hS.1
    rw [Array.getElem?_push, if_neg (by omega)]
    exact hS.2.1 q h1 h2
theorem j_new (C : Cx G own cc nL0 F L) {index ci N : Nat} {C0 : String} {T : u_T} {ty : Nat → FieldType} {fs : List Value} (d : decode cc pc = .ok (.new index, 3)) (h1 : vwCl[ci]? = some (C0, T, N)) (h2 : ∀ w ∈ u_ws C0 T N, w ∈ lw_gd) (h3 : ∀ k, k < N → parseFieldDescriptor (T k).2.2.1 = some (ty k)) (h4 : Cond.classLink own index C0 ∈ lw_gd) (h5 : Cond.instantiable C0 N ∈ lw_gd) (h6 : Cond.initialized C0 ∈ lw_gd) (h7 : ∀ j, j < N → defaultValue (ty j) = vp_V fs j) (hp : pc + 3 = pc') (k : Jd G kc ks (nx + 1) (gx_up ce nx (.inr (ci, fs))) pc' lv (.ref nx :: st)) : Jd G (kc + 1) (ks + N) nx ce pc lv st := by
  obtain ⟨X, nL, p, l, e, R, s, m, args, below, meth, c, Q⟩ := G
  obtain ⟨rfl, hx, hb, hml, hown, hts, hK, hF, hL, hlk⟩ := C
  subst hp
  intro H locs cells slots ls hR hS hc hs hl
  obtain ⟨hnx, hb0, hRR⟩ := id hR
  have hKn := hK.1.1 ci _ h1
  refine W.newcK hx hb hown (hts _ h4) (hts _ h5) (hts _ h6) (g := F0 m pc ls st) rfl d (by omega) (by omega) hKn.2.1 hnx fun H1 kC hkC e1 z1 o1 => ?_
  refine k H1 locs (cells + 1) (slots + N) ls (hR.push ⟨_, h1, (u_born ty hts h2 hKn hkC e1 h3).to h7⟩ z1 (by rw [← hnx]; exact fun q hq => o1 q (by omega))) ⟨Nat.le_trans hS.1 (by omega), fun q g1 g2 => (o1 q (by have := hS.1; omega)).trans (hS.2.1 q g1 g2), hS.2.2⟩ (by omega) (by omega) hl
theorem j_anewM (C : Cx G own cc nL0 F L) {index : Nat} {n : Int32} {N : Nat} (d : decode cc pc = .ok (.anewarray index, 3)) (hw : Cond.classLink own index "FencedStates$Machine" ∈ lw_gd) (hn : ¬ n < 0) (hN : n.toNatClampNeg = N) (hB : N * 4 ≤ 536870912) (hp : pc + 3 = pc') (k : Jd G kc ks (nx + 1) (gx_up ce nx (.inl (.object "FencedStates$Machine", N, .inr (.inr (.inr (.inr (fun _ => none))))))) pc' lv (.ref nx :: st)) : Jd G (kc + 1) (ks + N) nx ce pc lv (.int n :: st) := by
  obtain ⟨X, nL, p, l, e, R, s, m, args, below, meth, c, Q⟩ := G
  obtain ⟨rfl, hx, hb, hml, hown, hts, hK, hF, hL, hlk⟩ := C
  subst hp
  intro H locs cells slots ls hR hS hc hs hl
  obtain ⟨hnx, hb0, hRR⟩ := id hR
  subst hN
  refine W.anew hx hb hown (hts _ hw) (va_AO.use hK.2.2.2.2.2.1) (g := F0 m pc ls (.int n :: st)) rfl d rfl hn hB (by omega) (by omega) fun cA kA comp f1 f2 f3 f4 => ?_
  obtain ⟨kA', comp', g1, g2, g3, g4⟩ := (hK.1.2 4 _ rfl).2
  have h6 : cA = X.2.1 (.object "FencedStates$Machine") := Option.some.inj (f1.symm.trans g4)
  have e1 : (H.push { cls := cA, slots := Array.replicate n.toNatClampNeg Value.null, vm := .none }) = H.push (vp_cell (X.2.1 (.object "FencedStates$Machine")) (n.toNatClampNeg, .inr (.inr (.inr (.inr (fun _ => none)))))) := by rw [vp_cell_q, ← h6, arrV_new]; rfl
  rw [e1, hnx]
  refine k _ locs (cells + 1) (slots + n.toNatClampNeg) ls (hR.push ?_ (by rw [Array.size_push, hnx]) (fun q hq => by rw [Array.getElem?_push, if_neg (by omega)])) ⟨Nat.le_trans hS.1 (by rw [Array.size_push]; omega), fun q h1 h2 => ?_, hS.2.2⟩ (by omega) (by omega) hl
  · show (H.push _)[nx]? = _
    rw [← hnx, Array.getElem?_push_size]
  · have := hS.1
    rw [Array.getElem?_push, if_neg (by omega)]
    exact hS.2.1 q h1 h2
theorem j_anewS (C : Cx G own cc nL0 F L) {index : Nat} {n : Int32} {N : Nat} (d : decode cc pc = .ok (.anewarray index, 3)) (hw : Cond.classLink own index "FencedStates$Search" ∈ lw_gd) (hn : ¬ n < 0) (hN : n.toNatClampNeg = N) (hB : N * 4 ≤ 536870912) (hp : pc + 3 = pc') (k : Jd G kc ks (nx + 1) (gx_up ce nx (.inl (.object "FencedStates$Search", N, .inr (.inr (.inr (.inr (fun _ => none))))))) pc' lv (.ref nx :: st)) : Jd G (kc + 1) (ks + N) nx ce pc lv (.int n :: st) := by
  obtain ⟨X, nL, p, l, e, R, s, m, args, below, meth, c, Q⟩ := G
  obtain ⟨rfl, hx, hb, hml, hown, hts, hK, hF, hL, hlk⟩ := C
  subst hp
  intro H locs cells slots ls hR hS hc hs hl
  obtain ⟨hnx, hb0, hRR⟩ := id hR
  subst hN
  refine W.anew hx hb hown (hts _ hw) (va_AO.use hK.2.2.2.2.2.2.1) (g := F0 m pc ls (.int n :: st)) rfl d rfl hn hB (by omega) (by omega) fun cA kA comp f1 f2 f3 f4 => ?_
  obtain ⟨kA', comp', g1, g2, g3, g4⟩ := (hK.1.2 5 _ rfl).2
  have h6 : cA = X.2.1 (.object "FencedStates$Search") := Option.some.inj (f1.symm.trans g4)
  have e1 : (H.push { cls := cA, slots := Array.replicate n.toNatClampNeg Value.null, vm := .none }) = H.push (vp_cell (X.2.1 (.object "FencedStates$Search")) (n.toNatClampNeg, .inr (.inr (.inr (.inr (fun _ => none)))))) := by rw [vp_cell_q, ← h6, arrV_new]; rfl
  rw [e1, hnx]
  refine k _ locs (cells + 1) (slots + n.toNatClampNeg) ls (hR.push ?_ (by rw [Array.size_push, hnx]) (fun q hq => by rw [Array.getElem?_push, if_neg (by omega)])) ⟨Nat.le_trans hS.1 (by rw [Array.size_push]; omega), fun q h1 h2 => ?_, hS.2.2⟩ (by omega) (by omega) hl
  · show (H.push _)[nx]? = _
    rw [← hnx, Array.getElem?_push_size]
  · have := hS.1
    rw [Array.getElem?_push, if_neg (by omega)]
    exact hS.2.1 q h1 h2
theorem j_callS (C : Cx G own cc nL0 F L) {y : MethodName} {bytes : ByteArray} {maxL fr lo n index : Nat} {ret : Option FieldType} {As rest st0 st1 : List Value} {rv : Option Value} (hs0 : Cond.static y ∈ lw_gd) (hM : Ct y bytes maxL ret fr lo 0 0 As nx ce rv ce') (hy : YW y bytes maxL ret n) (hw : Cond.methodLink own index y ∈ lw_gd) (hn : As.length = n) (hst : st0 = As.reverse ++ rest) (hrm : (rest.map fun v => v.category).sum ≤ 8) (hfr : fr + 1 ≤ F ∧ 8 + (maxL + 11) + lo ≤ L) (d : decode cc pc = .ok (.invokestatic index, 3)) (hp : pc + 3 = pc') (h1 : rv.toList ++ rest = st1) (k : Jd G kc ks nx ce' pc' lv st1) : Jd G kc ks nx ce pc lv st0 := by
  obtain ⟨X, nL, p, l, e, R, s, m, args, below, meth, c, Q⟩ := G
  obtain ⟨rfl, hx, hb, hml, hown, hts, hK, hF, hL, hlk⟩ := C
  subst hp h1
  intro H locs cells slots ls hR hS hc hs hl
  have CB : CallB R s args own index y bytes maxL ret (.code y bytes maxL ret :: lw_gd) { frames := fr, cells := 0, slots := 0, locals := lo } 0 0 n := callB_of n hts (lw_goodin hy.1) rfl rfl rfl (hts _ hy.2.1) (hts _ hw) hy.2.2 ⟨Nat.le_trans hfr.1 hF, Nat.le_trans hfr.2 hL⟩
  have PRE_ : ∀ U : State, U.heap = H → s.WarmedH U.vm → va_Pc As (fun U => gx_K X U ∧ gx_R X nx ce U.heap) (As : List Value).toArray U := fun U hU hW => ⟨rfl, gx_K.moved hK hW (by rw [hU]; exact hS.1) (fun q q1 q2 => by rw [hU]; exact hS.2.1 q q1 q2), by rw [hU]; exact hR⟩
  have HF : cells + 0 ≤ R.cells ∧ slots + 0 ≤ R.slots := ⟨by omega, by omega⟩
  have hrun := va_runS (As := As) (H := H) (locs := locs) (cells := cells) (slots := slots) (e := e) (below := below) (meth := meth) (R := R) (p := p) (c := c) (m := m) (g := F0 m pc ls st0) (rest := rest) (Ts := lw_gd) (own := own) ⟨hx, hb, hml, hown, hts⟩ (hM X l) ⟨CB, hts _ hs0⟩ ⟨fun a U g mk q => by obtain ⟨q0, qK, qR⟩ := q; exact ⟨q0, gx_K.same (V := U.calling g mk a) qK rfl rfl, qR⟩, PRE_⟩ rfl hn hl.1 hst (lv_room hrm) d HF
  have hnx := hR.1
  intro T hT Xs
  obtain ⟨v, st0', t, T', LL, g0, X', gL, e1, e2, ⟨⟨hv, hRt⟩, hz, hkk⟩, stp⟩ := hrun T hT Xs
  cases hv
  rw [g0] at hz hkk
  obtain ⟨t2, a1, b1⟩ := k T'.heap (locs ++ LL) (cells + 0) (slots + 0) ls (by rw [e1]; exact hRt) ⟨Nat.le_trans hS.1 (by rw [e1]; exact hz), fun q q1 q2 => by rw [e1, hkk q (Nat.lt_of_lt_of_le q1 hS.1) q2]; exact hS.2.1 q q1 q2, fun q hq => by
      rcases List.mem_append.mp hq with h | h
      · exact hS.2.2 q h
      · exact gL q h⟩ (by omega) (by omega) hl T' rfl X'
  exact ⟨t2, stp t2 a1, b1⟩
theorem j_callSA (C : Cx G own cc nL0 F L) {y : MethodName} {bytes : ByteArray} {maxL fr lo n index : Nat} {ret : Option FieldType} {kc1 ks1 : Nat} {As rest st0 st1 : List Value} {rv : Option Value} (hs0 : Cond.static y ∈ lw_gd) (hM : Ct y bytes maxL ret fr lo kc1 ks1 As nx ce rv ce') (hy : YW y bytes maxL ret n) (hw : Cond.methodLink own index y ∈ lw_gd) (hn : As.length = n) (hst : st0 = As.reverse ++ rest) (hrm : (rest.map fun v => v.category).sum ≤ 8) (hfr : fr + 1 ≤ F ∧ 8 + (maxL + 11) + lo ≤ L) (d : decode cc pc = .ok (.invokestatic index, 3)) (hp : pc + 3 = pc') (h1 : rv.toList ++ rest = st1) (k : Jd G kc ks (nx + kc1) ce' pc' lv st1) : Jd G (kc + kc1) (ks + ks1) nx ce pc lv st0 := by
  obtain ⟨X, nL, p, l, e, R, s, m, args, below, meth, c, Q⟩ := G
  obtain ⟨rfl, hx, hb, hml, hown, hts, hK, hF, hL, hlk⟩ := C
  subst hp h1
  intro H locs cells slots ls hR hS hc hs hl
  have CB : CallB R s args own index y bytes maxL ret (.code y bytes maxL ret :: lw_gd) { frames := fr, cells := kc1, slots := ks1, locals := lo } kc1 ks1 n := callB_of n hts (lw_goodin hy.1) rfl rfl rfl (hts _ hy.2.1) (hts _ hw) hy.2.2 ⟨Nat.le_trans hfr.1 hF, Nat.le_trans hfr.2 hL⟩
  have PRE_ : ∀ U : State, U.heap = H → s.WarmedH U.vm → va_Pc As (fun U => gx_K X U ∧ gx_R X nx ce U.heap) (As : List Value).toArray U := fun U hU hW => ⟨rfl, gx_K.moved hK hW (by rw [hU]; exact hS.1) (fun q q1 q2 => by rw [hU]; exact hS.2.1 q q1 q2), by rw [hU]; exact hR⟩
  have HF : cells + kc1 ≤ R.cells ∧ slots + ks1 ≤ R.slots := ⟨by omega, by omega⟩
  have hrun := va_runS (As := As) (H := H) (locs := locs) (cells := cells) (slots := slots) (e := e) (below := below) (meth := meth) (R := R) (p := p) (c := c) (m := m) (g := F0 m pc ls st0) (rest := rest) (Ts := lw_gd) (own := own) ⟨hx, hb, hml, hown, hts⟩ (hM X l) ⟨CB, hts _ hs0⟩ ⟨fun a U g mk q => by obtain ⟨q0, qK, qR⟩ := q; exact ⟨q0, gx_K.same (V := U.calling g mk a) qK rfl rfl, qR⟩, PRE_⟩ rfl hn hl.1 hst (lv_room hrm) d HF
  have hnx := hR.1
  intro T hT Xs
  obtain ⟨v, st0', t, T', LL, g0, X', gL, e1, e2, ⟨⟨hv, hRt⟩, hz, hkk⟩, stp⟩ := hrun T hT Xs
  cases hv
  rw [g0] at hz hkk
  obtain ⟨t2, a1, b1⟩ := k T'.heap (locs ++ LL) (cells + kc1) (slots + ks1) ls (by rw [e1]; exact hRt) ⟨Nat.le_trans hS.1 (by rw [e1]; exact hz), fun q q1 q2 => by rw [e1, hkk q (Nat.lt_of_lt_of_le q1 hS.1) q2]; exact hS.2.1 q q1 q2, fun q hq => by
      rcases List.mem_append.mp hq with h | h
      · exact hS.2.2 q h
      · exact gL q h⟩ (by omega) (by omega) hl T' rfl X'
  exact ⟨t2, stp t2 a1, b1⟩
theorem j_callV (C : Cx G own cc nL0 F L) {y : MethodName} {bytes : ByteArray} {maxL fr lo n index : Nat} {ret : Option FieldType} {As rest st0 st1 : List Value} {rv : Option Value} {a ci N : Nat} {T0 : u_T} {fs : List Value} (hs0 : Cond.instanceMethod y ∈ lw_gd ∧ Cond.selects y.cls y y ∈ lw_gd) (hc0 : vwCl[ci]? = some (y.cls, T0, N)) (ha : ce a = some (.inr (ci, fs))) (hM : Ct y bytes maxL ret fr lo 0 0 (.ref a :: As) nx ce rv ce') (hy : YW y bytes maxL ret n) (hw : Cond.methodLink own index y ∈ lw_gd) (hn : As.length = n) (hst : st0 = As.reverse ++ .ref a :: rest) (hrm : (rest.map fun v => v.category).sum ≤ 8) (hfr : fr + 1 ≤ F ∧ 8 + (maxL + 11) + lo ≤ L) (d : decode cc pc = .ok (.invokevirtual index, 3)) (hp : pc + 3 = pc') (h1 : rv.toList ++ rest = st1) (k : Jd G kc ks nx ce' pc' lv st1) : Jd G kc ks nx ce pc lv st0 := by
  obtain ⟨X, nL, p, l, e, R, s, m, args, below, meth, c, Q⟩ := G
  obtain ⟨rfl, hx, hb, hml, hown, hts, hK, hF, hL, hlk⟩ := C
  subst hp h1
  intro H locs cells slots ls hR hS hc hs hl
  have CB : CallB R s args own index y bytes maxL ret (.code y bytes maxL ret :: lw_gd) { frames := fr, cells := 0, slots := 0, locals := lo } 0 0 n := callB_of n hts (lw_goodin hy.1) rfl rfl rfl (hts _ hy.2.1) (hts _ hw) hy.2.2 ⟨Nat.le_trans hfr.1 hF, Nat.le_trans hfr.2 hL⟩
  have PRE_ : ∀ U : State, U.heap = H → s.WarmedH U.vm → va_Pc (.ref a :: As) (fun U => gx_K X U ∧ gx_R X nx ce U.heap) ((.ref a :: As) : List Value).toArray U := fun U hU hW => ⟨rfl, gx_K.moved hK hW (by rw [hU]; exact hS.1) (fun q q1 q2 => by rw [hU]; exact hS.2.1 q q1 q2), by rw [hU]; exact hR⟩
  have HF : cells + 0 ≤ R.cells ∧ slots + 0 ≤ R.slots := ⟨by omega, by omega⟩
  have RECV : ∃ cell : Cell, H[a]? = some cell ∧ cell.vm.isStatics = false ∧ s.vm.findClass y.cls = some cell.cls := by
    obtain ⟨r, q1, cell, q2, q3, q4, -⟩ := (hR.2.2 _ _ ha).2
    have hr : r = (y.cls, T0, N) := Option.some.inj (q1.symm.trans hc0)
    subst hr
    exact ⟨cell, q2, by rw [q4]; rfl, by rw [q3]; exact (hK.1.1 ci _ hc0).2.1⟩
  have hrun := va_runV (As := As) (C := y.cls) (b := a) (H := H) (locs := locs) (cells := cells) (slots := slots) (e := e) (below := below) (meth := meth) (R := R) (p := p) (c := c) (m := m) (g := F0 m pc ls st0) (rest := rest) (Ts := lw_gd) (own := own) ⟨hx, hb, hml, hown, hts⟩ (hM X l) ⟨CB, hts _ hs0.1, hts _ hs0.2⟩ ⟨fun a U g mk q => by obtain ⟨q0, qK, qR⟩ := q; exact ⟨q0, gx_K.same (V := U.calling g mk a) qK rfl rfl, qR⟩, RECV, PRE_⟩ rfl hn hl.1 hst (lv_room hrm) d HF
  have hnx := hR.1
  intro T hT Xs
  obtain ⟨v, st0', t, T', LL, g0, X', gL, e1, e2, ⟨⟨hv, hRt⟩, hz, hkk⟩, stp⟩ := hrun T hT Xs
  cases hv
  rw [g0] at hz hkk
  obtain ⟨t2, a1, b1⟩ := k T'.heap (locs ++ LL) (cells + 0) (slots + 0) ls (by rw [e1]; exact hRt) ⟨Nat.le_trans hS.1 (by rw [e1]; exact hz), fun q q1 q2 => by rw [e1, hkk q (Nat.lt_of_lt_of_le q1 hS.1) q2]; exact hS.2.1 q q1 q2, fun q hq => by
      rcases List.mem_append.mp hq with h | h
      · exact hS.2.2 q h
      · exact gL q h⟩ (by omega) (by omega) hl T' rfl X'
  exact ⟨t2, stp t2 a1, b1⟩
theorem j_callVA (C : Cx G own cc nL0 F L) {y : MethodName} {bytes : ByteArray} {maxL fr lo n index : Nat} {ret : Option FieldType} {kc1 ks1 : Nat} {As rest st0 st1 : List Value} {rv : Option Value} {a ci N : Nat} {T0 : u_T} {fs : List Value} (hs0 : Cond.instanceMethod y ∈ lw_gd ∧ Cond.selects y.cls y y ∈ lw_gd) (hc0 : vwCl[ci]? = some (y.cls, T0, N)) (ha : ce a = some (.inr (ci, fs))) (hM : Ct y bytes maxL ret fr lo kc1 ks1 (.ref a :: As) nx ce rv ce') (hy : YW y bytes maxL ret n) (hw : Cond.methodLink own index y ∈ lw_gd) (hn : As.length = n) (hst : st0 = As.reverse ++ .ref a :: rest) (hrm : (rest.map fun v => v.category).sum ≤ 8) (hfr : fr + 1 ≤ F ∧ 8 + (maxL + 11) + lo ≤ L) (d : decode cc pc = .ok (.invokevirtual index, 3)) (hp : pc + 3 = pc') (h1 : rv.toList ++ rest = st1) (k : Jd G kc ks (nx + kc1) ce' pc' lv st1) : Jd G (kc + kc1) (ks + ks1) nx ce pc lv st0 := by
  obtain ⟨X, nL, p, l, e, R, s, m, args, below, meth, c, Q⟩ := G
  obtain ⟨rfl, hx, hb, hml, hown, hts, hK, hF, hL, hlk⟩ := C
  subst hp h1
  intro H locs cells slots ls hR hS hc hs hl
  have CB : CallB R s args own index y bytes maxL ret (.code y bytes maxL ret :: lw_gd) { frames := fr, cells := kc1, slots := ks1, locals := lo } kc1 ks1 n := callB_of n hts (lw_goodin hy.1) rfl rfl rfl (hts _ hy.2.1) (hts _ hw) hy.2.2 ⟨Nat.le_trans hfr.1 hF, Nat.le_trans hfr.2 hL⟩
  have PRE_ : ∀ U : State, U.heap = H → s.WarmedH U.vm → va_Pc (.ref a :: As) (fun U => gx_K X U ∧ gx_R X nx ce U.heap) ((.ref a :: As) : List Value).toArray U := fun U hU hW => ⟨rfl, gx_K.moved hK hW (by rw [hU]; exact hS.1) (fun q q1 q2 => by rw [hU]; exact hS.2.1 q q1 q2), by rw [hU]; exact hR⟩
  have HF : cells + kc1 ≤ R.cells ∧ slots + ks1 ≤ R.slots := ⟨by omega, by omega⟩
  have RECV : ∃ cell : Cell, H[a]? = some cell ∧ cell.vm.isStatics = false ∧ s.vm.findClass y.cls = some cell.cls := by
    obtain ⟨r, q1, cell, q2, q3, q4, -⟩ := (hR.2.2 _ _ ha).2
    have hr : r = (y.cls, T0, N) := Option.some.inj (q1.symm.trans hc0)
    subst hr
    exact ⟨cell, q2, by rw [q4]; rfl, by rw [q3]; exact (hK.1.1 ci _ hc0).2.1⟩
  have hrun := va_runV (As := As) (C := y.cls) (b := a) (H := H) (locs := locs) (cells := cells) (slots := slots) (e := e) (below := below) (meth := meth) (R := R) (p := p) (c := c) (m := m) (g := F0 m pc ls st0) (rest := rest) (Ts := lw_gd) (own := own) ⟨hx, hb, hml, hown, hts⟩ (hM X l) ⟨CB, hts _ hs0.1, hts _ hs0.2⟩ ⟨fun a U g mk q => by obtain ⟨q0, qK, qR⟩ := q; exact ⟨q0, gx_K.same (V := U.calling g mk a) qK rfl rfl, qR⟩, RECV, PRE_⟩ rfl hn hl.1 hst (lv_room hrm) d HF
  have hnx := hR.1
  intro T hT Xs
  obtain ⟨v, st0', t, T', LL, g0, X', gL, e1, e2, ⟨⟨hv, hRt⟩, hz, hkk⟩, stp⟩ := hrun T hT Xs
  cases hv
  rw [g0] at hz hkk
  obtain ⟨t2, a1, b1⟩ := k T'.heap (locs ++ LL) (cells + kc1) (slots + ks1) ls (by rw [e1]; exact hRt) ⟨Nat.le_trans hS.1 (by rw [e1]; exact hz), fun q q1 q2 => by rw [e1, hkk q (Nat.lt_of_lt_of_le q1 hS.1) q2]; exact hS.2.1 q q1 q2, fun q hq => by
      rcases List.mem_append.mp hq with h | h
      · exact hS.2.2 q h
      · exact gL q h⟩ (by omega) (by omega) hl T' rfl X'
  exact ⟨t2, stp t2 a1, b1⟩
theorem j_callI (C : Cx G own cc nL0 F L) {y : MethodName} {bytes : ByteArray} {maxL fr lo n index : Nat} {As rest st0 st1 : List Value} {rv : Option Value} {a : Nat} (hs0 : Cond.instanceMethod y ∈ lw_gd) (hi0 : y.name = "<init>") (hM : Ct y bytes maxL none fr lo 0 0 (.ref a :: As) nx ce rv ce') (hy : YW y bytes maxL none n) (hw : Cond.methodLink own index y ∈ lw_gd) (hn : As.length = n) (hst : st0 = As.reverse ++ .ref a :: rest) (hrm : (rest.map fun v => v.category).sum ≤ 8) (hfr : fr + 1 ≤ F ∧ 8 + (maxL + 11) + lo ≤ L) (d : decode cc pc = .ok (.invokespecial index, 3)) (hp : pc + 3 = pc') (h1 : rv.toList ++ rest = st1) (k : Jd G kc ks nx ce' pc' lv st1) : Jd G kc ks nx ce pc lv st0 := by
  obtain ⟨X, nL, p, l, e, R, s, m, args, below, meth, c, Q⟩ := G
  obtain ⟨rfl, hx, hb, hml, hown, hts, hK, hF, hL, hlk⟩ := C
  subst hp h1
  intro H locs cells slots ls hR hS hc hs hl
  have CB : CallB R s args own index y bytes maxL none (.code y bytes maxL none :: lw_gd) { frames := fr, cells := 0, slots := 0, locals := lo } 0 0 n := callB_of n hts (lw_goodin hy.1) rfl rfl rfl (hts _ hy.2.1) (hts _ hw) hy.2.2 ⟨Nat.le_trans hfr.1 hF, Nat.le_trans hfr.2 hL⟩
  have PRE_ : ∀ U : State, U.heap = H → s.WarmedH U.vm → va_Pc (.ref a :: As) (fun U => gx_K X U ∧ gx_R X nx ce U.heap) ((.ref a :: As) : List Value).toArray U := fun U hU hW => ⟨rfl, gx_K.moved hK hW (by rw [hU]; exact hS.1) (fun q q1 q2 => by rw [hU]; exact hS.2.1 q q1 q2), by rw [hU]; exact hR⟩
  have HF : cells + 0 ≤ R.cells ∧ slots + 0 ≤ R.slots := ⟨by omega, by omega⟩
  have hrun := va_runI (As := As) (b := a) (H := H) (locs := locs) (cells := cells) (slots := slots) (e := e) (below := below) (meth := meth) (R := R) (p := p) (c := c) (m := m) (g := F0 m pc ls st0) (rest := rest) (Ts := lw_gd) (own := own) ⟨hx, hb, hml, hown, hts⟩ (hM X l) ⟨CB, hi0, hts _ hs0⟩ ⟨fun a U g mk q => by obtain ⟨q0, qK, qR⟩ := q; exact ⟨q0, gx_K.same (V := U.calling g mk a) qK rfl rfl, qR⟩, PRE_⟩ rfl hn hl.1 hst (lv_room hrm) d HF
  have hnx := hR.1
  intro T hT Xs
  obtain ⟨v, st0', t, T', LL, g0, X', gL, e1, e2, ⟨⟨hv, hRt⟩, hz, hkk⟩, stp⟩ := hrun T hT Xs
  cases hv
  rw [g0] at hz hkk
  obtain ⟨t2, a1, b1⟩ := k T'.heap (locs ++ LL) (cells + 0) (slots + 0) ls (by rw [e1]; exact hRt) ⟨Nat.le_trans hS.1 (by rw [e1]; exact hz), fun q q1 q2 => by rw [e1, hkk q (Nat.lt_of_lt_of_le q1 hS.1) q2]; exact hS.2.1 q q1 q2, fun q hq => by
      rcases List.mem_append.mp hq with h | h
      · exact hS.2.2 q h
      · exact gL q h⟩ (by omega) (by omega) hl T' rfl X'
  exact ⟨t2, stp t2 a1, b1⟩
theorem j_callIA (C : Cx G own cc nL0 F L) {y : MethodName} {bytes : ByteArray} {maxL fr lo n index : Nat} {kc1 ks1 : Nat} {As rest st0 st1 : List Value} {rv : Option Value} {a : Nat} (hs0 : Cond.instanceMethod y ∈ lw_gd) (hi0 : y.name = "<init>") (hM : Ct y bytes maxL none fr lo kc1 ks1 (.ref a :: As) nx ce rv ce') (hy : YW y bytes maxL none n) (hw : Cond.methodLink own index y ∈ lw_gd) (hn : As.length = n) (hst : st0 = As.reverse ++ .ref a :: rest) (hrm : (rest.map fun v => v.category).sum ≤ 8) (hfr : fr + 1 ≤ F ∧ 8 + (maxL + 11) + lo ≤ L) (d : decode cc pc = .ok (.invokespecial index, 3)) (hp : pc + 3 = pc') (h1 : rv.toList ++ rest = st1) (k : Jd G kc ks (nx + kc1) ce' pc' lv st1) : Jd G (kc + kc1) (ks + ks1) nx ce pc lv st0 := by
  obtain ⟨X, nL, p, l, e, R, s, m, args, below, meth, c, Q⟩ := G
  obtain ⟨rfl, hx, hb, hml, hown, hts, hK, hF, hL, hlk⟩ := C
  subst hp h1
  intro H locs cells slots ls hR hS hc hs hl
  have CB : CallB R s args own index y bytes maxL none (.code y bytes maxL none :: lw_gd) { frames := fr, cells := kc1, slots := ks1, locals := lo } kc1 ks1 n := callB_of n hts (lw_goodin hy.1) rfl rfl rfl (hts _ hy.2.1) (hts _ hw) hy.2.2 ⟨Nat.le_trans hfr.1 hF, Nat.le_trans hfr.2 hL⟩
  have PRE_ : ∀ U : State, U.heap = H → s.WarmedH U.vm → va_Pc (.ref a :: As) (fun U => gx_K X U ∧ gx_R X nx ce U.heap) ((.ref a :: As) : List Value).toArray U := fun U hU hW => ⟨rfl, gx_K.moved hK hW (by rw [hU]; exact hS.1) (fun q q1 q2 => by rw [hU]; exact hS.2.1 q q1 q2), by rw [hU]; exact hR⟩
  have HF : cells + kc1 ≤ R.cells ∧ slots + ks1 ≤ R.slots := ⟨by omega, by omega⟩
  have hrun := va_runI (As := As) (b := a) (H := H) (locs := locs) (cells := cells) (slots := slots) (e := e) (below := below) (meth := meth) (R := R) (p := p) (c := c) (m := m) (g := F0 m pc ls st0) (rest := rest) (Ts := lw_gd) (own := own) ⟨hx, hb, hml, hown, hts⟩ (hM X l) ⟨CB, hi0, hts _ hs0⟩ ⟨fun a U g mk q => by obtain ⟨q0, qK, qR⟩ := q; exact ⟨q0, gx_K.same (V := U.calling g mk a) qK rfl rfl, qR⟩, PRE_⟩ rfl hn hl.1 hst (lv_room hrm) d HF
  have hnx := hR.1
  intro T hT Xs
  obtain ⟨v, st0', t, T', LL, g0, X', gL, e1, e2, ⟨⟨hv, hRt⟩, hz, hkk⟩, stp⟩ := hrun T hT Xs
  cases hv
  rw [g0] at hz hkk
  obtain ⟨t2, a1, b1⟩ := k T'.heap (locs ++ LL) (cells + kc1) (slots + ks1) ls (by rw [e1]; exact hRt) ⟨Nat.le_trans hS.1 (by rw [e1]; exact hz), fun q q1 q2 => by rw [e1, hkk q (Nat.lt_of_lt_of_le q1 hS.1) q2]; exact hS.2.1 q q1 q2, fun q hq => by
      rcases List.mem_append.mp hq with h | h
      · exact hS.2.2 q h
      · exact gL q h⟩ (by omega) (by omega) hl T' rfl X'
  exact ⟨t2, stp t2 a1, b1⟩
theorem j_objInit (C : Cx G own cc nL0 F L) {index a : Nat} (d : decode cc pc = .ok (.invokespecial index, 3)) (hw : Cond.methodLink own index Lib.objectInit ∈ lw_gd) (h1 : Cond.instanceMethod Lib.objectInit ∈ lw_gd) (h2 : Cond.code Lib.objectInit ⟨#[0xb1]⟩ 1 none ∈ lw_gd) (hfr : 1 ≤ F ∧ 20 ≤ L) (hrm : (st.map fun v => v.category).sum ≤ 8) (hp : pc + 3 = pc') (k : Jd G kc ks nx ce pc' lv st) : Jd G kc ks nx ce pc lv (.ref a :: st) := by
  obtain ⟨X, nL, p, l, e, R, s, m, args, below, meth, c, Q⟩ := G
  obtain ⟨rfl, hx, hb, hml, hown, hts, hK, hF, hL, hlk⟩ := C
  subst hp
  intro H locs cells slots ls hR hS hc hs hl
  exact W.objInit hx hb hown (hts _ hw) (hts _ h1) (hts _ h2) (g := F0 m pc ls (.ref a :: st)) rfl (hl.1.trans hml.symm) rfl d (Nat.le_trans hfr.1 hF) (by have := lv_room (m := m) (pc := pc) (ls := ls) (rest := .ref a :: st) hrm; omega) (k H locs cells slots ls hR hS hc hs hl)
theorem j_lv (is : List Nat) (hs : is.filterMap (fun i => lv[i]?) = lv') (k : Jd G kc ks nx ce pc lv' st) : Jd G kc ks nx ce pc lv st := by
  obtain ⟨X, nL, p, l, e, R, s, m, args, below, meth, c, Q⟩ := G
  intro H locs cells slots ls hR hS hc hs2 hl
  exact k H locs cells slots ls hR hS hc hs2 (lv_sub hl is hs)
theorem j_k {kc' ks' : Nat} (hk : kc = kc') (hs : ks = ks') (k : Jd G kc' ks' nx ce pc lv st) : Jd G kc ks nx ce pc lv st := by
  subst hk hs
  exact k
theorem j_at {nx' : Nat} {ce' : Ce} (hn : nx = nx') (hc : ce = ce') (k : Jd G kc ks nx' ce' pc lv st) : Jd G kc ks nx ce pc lv st := by
  subst hn hc
  exact k
end JCALL
/-- how often a loop may go round -/
def FU : Nat := 1000000
def it {σ ρ : Type} (body : σ → Option (σ ⊕ ρ)) : Nat → σ → Option ρ
  | 0, _ => none
  | n + 1, s => (body s).bind fun r => Sum.elim (fun s2 => it body n s2) (fun o => some o) r
theorem it_J {σ ρ : Type} {body : σ → Option (σ ⊕ ρ)} {out : ρ} {J : σ → Prop} (step : ∀ (s : σ) (r : σ ⊕ ρ), body s = some r → (∀ s2, r = Sum.inl s2 → J s2) → (∀ o, r = Sum.inr o → o = out) → J s) : ∀ {n : Nat} {s : σ}, it body n s = some out → J s := by
  intro n
  induction n with
  | zero => intro s h; cases h
  | succ n ih =>
    intro s h
    obtain ⟨r, h1, h2⟩ := ob h
    refine step s r h1 (fun s2 e => ?_) (fun o e => ?_)
    · subst e
      exact ih h2
    · subst e
      exact Option.some.inj h2
def itA {σ ρ : Type} (body : Nat → Ce → σ → Option ((σ ⊕ ρ) × Ce × Nat × Nat)) : Nat → Nat → Ce → σ → Option (ρ × Ce × Nat × Nat)
  | 0, _, _, _ => none
  | n + 1, nx, c, s => (body nx c s).bind fun q => Sum.elim (fun s2 => adc q.2.2.1 q.2.2.2 (itA body n (nx + q.2.2.1) q.2.1 s2)) (fun o => some (o, q.2)) q.1
theorem itA_J {σ ρ : Type} {body : Nat → Ce → σ → Option ((σ ⊕ ρ) × Ce × Nat × Nat)} {o : ρ} {c' : Ce} {NX : Nat} {J : Nat → Ce → σ → Nat → Nat → Prop} (step : ∀ (nx : Nat) (c : Ce) (s : σ) (q : (σ ⊕ ρ) × Ce × Nat × Nat) (K S : Nat), body nx c s = some q → (∀ s2, q.1 = Sum.inl s2 → J (nx + q.2.2.1) q.2.1 s2 K S) → (∀ o2, q.1 = Sum.inr o2 → o2 = o ∧ q.2.1 = c' ∧ nx + q.2.2.1 = NX ∧ K = 0 ∧ S = 0) → J nx c s (K + q.2.2.1) (S + q.2.2.2)) : ∀ {n nx : Nat} {c : Ce} {s : σ} {K S : Nat}, itA body n nx c s = some (o, c', K, S) → nx + K = NX → J nx c s K S := by
  intro n
  induction n with
  | zero => intro nx c s K S h; cases h
  | succ n ih =>
    intro nx c s K S h hN
    obtain ⟨q, h1, h2⟩ := ob h
    obtain ⟨r, c2, k2, s2⟩ := q
    cases r with
    | inl s3 =>
      obtain ⟨K2, S2, h3, rfl, rfl⟩ := adc_sp h2
      exact step nx c s _ K2 S2 h1 (fun s4 e => by cases e; exact ih h3 (by have hN2 : nx + (K2 + k2) = NX := hN; show nx + k2 + K2 = NX; omega)) (fun o2 e => by cases e)
    | inr o3 =>
      have h3 := Option.some.inj h2
      injection h3 with e1 e2
      injection e2 with e3 e4
      injection e4 with e5 e6
      have e5 : k2 = K := e5
      have e6 : s2 = S := e6
      subst e5 e6
      have := step nx c s _ 0 0 h1 (fun s4 e => by cases e) (fun o2 e => by cases e; exact ⟨e1, e3, hN, rfl, rfl⟩)
      simpa using this
theorem elL {α β γ : Type} {f : α → γ} {g : β → γ} {v : α} {r : γ} (h : Sum.elim f g (Sum.inl v) = r) : f v = r := h
theorem elR {α β γ : Type} {f : α → γ} {g : β → γ} {v : β} {r : γ} (h : Sum.elim f g (Sum.inr v) = r) : g v = r := h
def rcv (c : Ce) (ci a : Nat) : Option Unit := match c a with
  | some (.inr (cj, _)) => if cj = ci then some () else none
  | _ => none
theorem rcv_sp {c : Ce} {ci a : Nat} {u : Unit} (h : rcv c ci a = some u) : ∃ fs, c a = some (.inr (ci, fs)) := by
  unfold rcv at h
  split at h
  · rename_i cj fs hq
    split at h
    · rename_i hc
      subst hc
      exact ⟨fs, hq⟩
    · cases h
  · cases h
def bz (v : Int32) : Option Int32 := if v = 0 ∨ v = 1 then some v else none
theorem bz_sp {v u : Int32} (h : bz v = some u) : v = u ∧ narrow .boolean (.int v) = .int v := by
  unfold bz at h
  split at h
  · rename_i hc
    refine ⟨Option.some.inj h, ?_⟩
    rcases hc with rfl | rfl <;> rfl
  · cases h
theorem pZ_sp {c c2 : Ce} {ci k a : Nat} {x : Int32} (h : pZ c ci k a x = some c2) : narrow .boolean (.int x) = .int x ∧ fits .boolean (.int x) = true ∧ pV c ci k a (.int x) = some c2 := by
  unfold pZ at h
  split at h
  · rename_i hc
    refine ⟨?_, ?_, h⟩
    · rcases hc with rfl | rfl <;> rfl
    · rcases hc with rfl | rfl <;> rfl
  · cases h
