/-- a field of the pool's kinds, as a link names it -/
def FL (own : String) (index ci k : Nat) : Prop := ∃ (C : String) (T : u_T) (N : Nat), vwCl[ci]? = some (C, T, N) ∧ (∀ w ∈ u_ws C T N, w ∈ lw_gd) ∧ k < N ∧ Cond.fieldLink own index (T k).1 (T k).2.1 (T k).2.2.1 ∈ lw_gd
/-- the same, for writing: its type, whether it is final -/
def FW (own : String) (index ci k : Nat) (ty : FieldType) (fin : Bool) : Prop := ∃ (C : String) (T : u_T) (N : Nat) (ty0 : Nat → FieldType), vwCl[ci]? = some (C, T, N) ∧ (∀ w ∈ u_ws C T N, w ∈ lw_gd) ∧ k < N ∧ Cond.fieldLink own index (T k).1 (T k).2.1 (T k).2.2.1 ∈ lw_gd ∧ (∀ k, k < N → parseFieldDescriptor (T k).2.2.1 = some (ty0 k)) ∧ (∀ a, a < N → ∀ b, b < N → a ≠ b → (T a).2.1 ≠ (T b).2.1) ∧ (T k).2.2.2 = fin ∧ parseFieldDescriptor (T k).2.2.1 = some ty ∧ (fin = true → (T k).1 = own)
def gMeth (G : GC) : Method := G.2.2.2.2.2.2.2.2.2.2.1
def pZ (c : Ce) (ci k a : Nat) (x : Int32) : Option Ce := if x = 0 ∨ x = 1 then pV c ci k a (.int x) else none
theorem pV_sp {c c' : Ce} {ci k a : Nat} {v : Value} (h : pV c ci k a v = some c') : ∃ fs, c a = some (.inr (ci, fs)) ∧ k < fs.length ∧ gx_up c a (.inr (ci, fs.set k v)) = c' := by
  unfold pV at h
  split at h
  · rename_i cj fs hq
    split at h
    · rename_i hc
      obtain ⟨rfl, hl⟩ := hc
      exact ⟨fs, hq, hl, Option.some.inj h⟩
    · cases h
  · cases h
theorem gI_sp {c : Ce} {ci k a : Nat} {x : Int32} (h : gI c ci k a = some x) : ∃ fs, c a = some (.inr (ci, fs)) ∧ fs[k]? = some (.int x) := by
  unfold gI at h
  split at h
  · rename_i cj fs hq
    split at h
    · rename_i hc
      subst hc
      split at h
      · rename_i y hy
        cases h
        exact ⟨fs, hq, hy⟩
      · cases h
    · cases h
  · cases h
theorem gJ_sp {c : Ce} {ci k a : Nat} {x : Int64} (h : gJ c ci k a = some x) : ∃ fs, c a = some (.inr (ci, fs)) ∧ fs[k]? = some (.long x) := by
  unfold gJ at h
  split at h
  · rename_i cj fs hq
    split at h
    · rename_i hc
      subst hc
      split at h
      · rename_i y hy
        cases h
        exact ⟨fs, hq, hy⟩
      · cases h
    · cases h
  · cases h
theorem gF_sp {c : Ce} {ci k a : Nat} {x : UInt32} (h : gF c ci k a = some x) : ∃ fs, c a = some (.inr (ci, fs)) ∧ fs[k]? = some (.float x) := by
  unfold gF at h
  split at h
  · rename_i cj fs hq
    split at h
    · rename_i hc
      subst hc
      split at h
      · rename_i y hy
        cases h
        exact ⟨fs, hq, hy⟩
      · cases h
    · cases h
  · cases h
theorem gA_sp {c : Ce} {ci k a : Nat} {x : Nat} (h : gA c ci k a = some x) : ∃ fs, c a = some (.inr (ci, fs)) ∧ fs[k]? = some (.ref x) := by
  unfold gA at h
  split at h
  · rename_i cj fs hq
    split at h
    · rename_i hc
      subst hc
      split at h
      · rename_i y hy
        cases h
        exact ⟨fs, hq, hy⟩
      · cases h
    · cases h
  · cases h
theorem aI_sp {c : Ce} {a : Nat} {i : Int32} {x : Int32} (h : aI c a i = some x) : ∃ n f, c a = some (.inl (.int, n, .inl f)) ∧ vp_in i n ∧ f i.toNatClampNeg = x := by
  unfold aI at h
  split at h
  · rename_i n f hq
    split at h
    · cases h
    · rename_i hc
      exact ⟨n, f, hq, hc, Option.some.inj h⟩
  · cases h
theorem aB_sp {c : Ce} {a : Nat} {i : Int32} {x : Int32} (h : aB c a i = some x) : ∃ n f, c a = some (.inl (.byte, n, .inl f)) ∧ vp_in i n ∧ f i.toNatClampNeg = x := by
  unfold aB at h
  split at h
  · rename_i n f hq
    split at h
    · cases h
    · rename_i hc
      exact ⟨n, f, hq, hc, Option.some.inj h⟩
  · cases h
theorem aL_sp {c : Ce} {a : Nat} {i : Int32} {x : Int64} (h : aL c a i = some x) : ∃ n f, c a = some (.inl (.long, n, .inr (.inl f))) ∧ vp_in i n ∧ f i.toNatClampNeg = x := by
  unfold aL at h
  split at h
  · rename_i n f hq
    split at h
    · cases h
    · rename_i hc
      exact ⟨n, f, hq, hc, Option.some.inj h⟩
  · cases h
theorem aG_sp {c : Ce} {a : Nat} {i : Int32} {x : UInt32} (h : aG c a i = some x) : ∃ n f, c a = some (.inl (.float, n, .inr (.inr (.inl f)))) ∧ vp_in i n ∧ f i.toNatClampNeg = x := by
  unfold aG at h
  split at h
  · rename_i n f hq
    split at h
    · cases h
    · rename_i hc
      exact ⟨n, f, hq, hc, Option.some.inj h⟩
  · cases h
theorem sI_sp {c c' : Ce} {a : Nat} {i : Int32} {x : Int32} (h : sI c a i x = some c') : ∃ n f, c a = some (.inl (.int, n, .inl f)) ∧ vp_in i n ∧ gx_up c a (.inl (.int, n, .inl (va_up f i.toNatClampNeg x))) = c' := by
  unfold sI at h
  split at h
  · rename_i n f hq
    split at h
    · cases h
    · rename_i hc
      exact ⟨n, f, hq, hc, Option.some.inj h⟩
  · cases h
theorem sB_sp {c c' : Ce} {a : Nat} {i : Int32} {x : Int32} (h : sB c a i x = some c') : ∃ n f, c a = some (.inl (.byte, n, .inl f)) ∧ vp_in i n ∧ gx_up c a (.inl (.byte, n, .inl (va_up f i.toNatClampNeg (vp_nar .byte x)))) = c' := by
  unfold sB at h
  split at h
  · rename_i n f hq
    split at h
    · cases h
    · rename_i hc
      exact ⟨n, f, hq, hc, Option.some.inj h⟩
  · cases h
theorem sL_sp {c c' : Ce} {a : Nat} {i : Int32} {x : Int64} (h : sL c a i x = some c') : ∃ n f, c a = some (.inl (.long, n, .inr (.inl f))) ∧ vp_in i n ∧ gx_up c a (.inl (.long, n, .inr (.inl (va_up f i.toNatClampNeg x)))) = c' := by
  unfold sL at h
  split at h
  · rename_i n f hq
    split at h
    · cases h
    · rename_i hc
      exact ⟨n, f, hq, hc, Option.some.inj h⟩
  · cases h
theorem sG_sp {c c' : Ce} {a : Nat} {i : Int32} {x : UInt32} (h : sG c a i x = some c') : ∃ n f, c a = some (.inl (.float, n, .inr (.inr (.inl f)))) ∧ vp_in i n ∧ gx_up c a (.inl (.float, n, .inr (.inr (.inl (va_up f i.toNatClampNeg x))))) = c' := by
  unfold sG at h
  split at h
  · rename_i n f hq
    split at h
    · cases h
    · rename_i hc
      exact ⟨n, f, hq, hc, Option.some.inj h⟩
  · cases h
theorem aR_sp {C : String} {c : Ce} {a : Nat} {i : Int32} {x : Option Nat} (h : aR C c a i = some x) : ∃ n f, c a = some (.inl (.object C, n, .inr (.inr (.inr (.inr f))))) ∧ vp_in i n ∧ f i.toNatClampNeg = x := by
  unfold aR at h
  split at h
  · rename_i D n f hq
    split at h
    · rename_i hd
      subst hd
      split at h
      · cases h
      · rename_i hc
        exact ⟨n, f, hq, hc, Option.some.inj h⟩
    · cases h
  · cases h
theorem sR_sp {C : String} {ci : Nat} {c c' : Ce} {a : Nat} {i : Int32} {x : Option Nat} (h : sR C ci c a i x = some c') : ∃ n f, c a = some (.inl (.object C, n, .inr (.inr (.inr (.inr f))))) ∧ vp_in i n ∧ gx_up c a (.inl (.object C, n, .inr (.inr (.inr (.inr (va_up f i.toNatClampNeg x)))))) = c' ∧ ∀ v, x = some v → ∃ fs, c v = some (.inr (ci, fs)) := by
  unfold sR at h
  split at h
  · rename_i D n f hq
    split at h
    · rename_i hd
      subst hd
      split at h
      · cases h
      · rename_i hc
        split at h
        · exact ⟨n, f, hq, hc, Option.some.inj h, fun v hv => by cases hv⟩
        · rename_i v
          split at h
          · rename_i cj fs hv
            split at h
            · rename_i hcj
              subst hcj
              exact ⟨n, f, hq, hc, Option.some.inj h, fun v' hv' => by cases hv'; exact ⟨fs, hv⟩⟩
            · cases h
          · cases h
    · cases h
  · cases h
theorem up_val {α : Type} (g : α → Value) (f : Nat → α) (k : Nat) (x : α) : updV (fun j => g (f j)) k (g x) = fun j => g (va_up f k x j) := by
  funext q
  by_cases hq : q = k
  · subst hq
    simp [updV, va_up]
  · simp [updV, va_up, hq]
section JMEM
variable {G : GC} {own : String} {cc : ByteArray} {nL0 F L : Nat} {kc ks nx : Nat} {ce ce' : Ce} {pc pc' : Nat} {lv lv' : List (Nat × Value)} {st : List Value}
theorem j_getI (C : Cx G own cc nL0 F L) {index ci k0 a : Nat} {x : Int32} (d : decode cc pc = .ok (.getfield index, 3)) (hf : FL own index ci k0) (h : gI ce ci k0 a = some x) (hp : pc + 3 = pc') (k : Jd G kc ks nx ce pc' lv (.int x :: st)) : Jd G kc ks nx ce pc lv (.ref a :: st) := by
  obtain ⟨X, nL, p, l, e, R, s, m, args, below, meth, c, Q⟩ := G
  obtain ⟨rfl, hx, hb, hml, hown, hts, hK, hF, hL, hlk⟩ := C
  subst hp
  intro H locs cells slots ls hR hS hc hs hl
  obtain ⟨fs, h1, h2⟩ := gI_sp h
  obtain ⟨C0, T, N, f1, f2, f3, f4⟩ := hf
  exact va_get (D := X.1) (cl := vwCl) (tys := gx_tyl X.2.1) (ws := [(a, .inr (ci, fs))]) hx hb hts f2 hown hK.1 (fun j q hq => by
    have hz : j < 1 := (List.getElem?_eq_some_iff.mp hq).1
    rw [show j = 0 by omega] at hq
    cases hq
    exact (hR.2.2 _ _ h1).2) 0 rfl f1 k0 f3 (hts _ f4) (fun _ h9 => h9) h2 d (k H locs cells slots ls hR hS hc hs hl)
theorem j_getJ (C : Cx G own cc nL0 F L) {index ci k0 a : Nat} {x : Int64} (d : decode cc pc = .ok (.getfield index, 3)) (hf : FL own index ci k0) (h : gJ ce ci k0 a = some x) (hp : pc + 3 = pc') (k : Jd G kc ks nx ce pc' lv (.long x :: st)) : Jd G kc ks nx ce pc lv (.ref a :: st) := by
  obtain ⟨X, nL, p, l, e, R, s, m, args, below, meth, c, Q⟩ := G
  obtain ⟨rfl, hx, hb, hml, hown, hts, hK, hF, hL, hlk⟩ := C
  subst hp
  intro H locs cells slots ls hR hS hc hs hl
  obtain ⟨fs, h1, h2⟩ := gJ_sp h
  obtain ⟨C0, T, N, f1, f2, f3, f4⟩ := hf
  exact va_get (D := X.1) (cl := vwCl) (tys := gx_tyl X.2.1) (ws := [(a, .inr (ci, fs))]) hx hb hts f2 hown hK.1 (fun j q hq => by
    have hz : j < 1 := (List.getElem?_eq_some_iff.mp hq).1
    rw [show j = 0 by omega] at hq
    cases hq
    exact (hR.2.2 _ _ h1).2) 0 rfl f1 k0 f3 (hts _ f4) (fun _ h9 => h9) h2 d (k H locs cells slots ls hR hS hc hs hl)
theorem j_getF (C : Cx G own cc nL0 F L) {index ci k0 a : Nat} {x : UInt32} (d : decode cc pc = .ok (.getfield index, 3)) (hf : FL own index ci k0) (h : gF ce ci k0 a = some x) (hp : pc + 3 = pc') (k : Jd G kc ks nx ce pc' lv (.float x :: st)) : Jd G kc ks nx ce pc lv (.ref a :: st) := by
  obtain ⟨X, nL, p, l, e, R, s, m, args, below, meth, c, Q⟩ := G
  obtain ⟨rfl, hx, hb, hml, hown, hts, hK, hF, hL, hlk⟩ := C
  subst hp
  intro H locs cells slots ls hR hS hc hs hl
  obtain ⟨fs, h1, h2⟩ := gF_sp h
  obtain ⟨C0, T, N, f1, f2, f3, f4⟩ := hf
  exact va_get (D := X.1) (cl := vwCl) (tys := gx_tyl X.2.1) (ws := [(a, .inr (ci, fs))]) hx hb hts f2 hown hK.1 (fun j q hq => by
    have hz : j < 1 := (List.getElem?_eq_some_iff.mp hq).1
    rw [show j = 0 by omega] at hq
    cases hq
    exact (hR.2.2 _ _ h1).2) 0 rfl f1 k0 f3 (hts _ f4) (fun _ h9 => h9) h2 d (k H locs cells slots ls hR hS hc hs hl)
theorem j_getA (C : Cx G own cc nL0 F L) {index ci k0 a : Nat} {x : Nat} (d : decode cc pc = .ok (.getfield index, 3)) (hf : FL own index ci k0) (h : gA ce ci k0 a = some x) (hp : pc + 3 = pc') (k : Jd G kc ks nx ce pc' lv (.ref x :: st)) : Jd G kc ks nx ce pc lv (.ref a :: st) := by
  obtain ⟨X, nL, p, l, e, R, s, m, args, below, meth, c, Q⟩ := G
  obtain ⟨rfl, hx, hb, hml, hown, hts, hK, hF, hL, hlk⟩ := C
  subst hp
  intro H locs cells slots ls hR hS hc hs hl
  obtain ⟨fs, h1, h2⟩ := gA_sp h
  obtain ⟨C0, T, N, f1, f2, f3, f4⟩ := hf
  exact va_get (D := X.1) (cl := vwCl) (tys := gx_tyl X.2.1) (ws := [(a, .inr (ci, fs))]) hx hb hts f2 hown hK.1 (fun j q hq => by
    have hz : j < 1 := (List.getElem?_eq_some_iff.mp hq).1
    rw [show j = 0 by omega] at hq
    cases hq
    exact (hR.2.2 _ _ h1).2) 0 rfl f1 k0 f3 (hts _ f4) (fun _ h9 => h9) h2 d (k H locs cells slots ls hR hS hc hs hl)
theorem j_put (C : Cx G own cc nL0 F L) {index ci k0 a : Nat} {ty : FieldType} {v : Value} (d : decode cc pc = .ok (.putfield index, 3)) (hf : FW own index ci k0 ty false) (hn : narrow ty v = v) (hfit : fits ty v = true) (h : pV ce ci k0 a v = some ce') (hp : pc + 3 = pc') (k : Jd G kc ks nx ce' pc' lv st) : Jd G kc ks nx ce pc lv (v :: .ref a :: st) := by
  obtain ⟨X, nL, p, l, e, R, s, m, args, below, meth, c, Q⟩ := G
  obtain ⟨rfl, hx, hb, hml, hown, hts, hK, hF, hL, hlk⟩ := C
  subst hp
  intro H locs cells slots ls hR hS hc hs hl
  obtain ⟨fs, h1, h2, rfl⟩ := pV_sp h
  obtain ⟨C0, T, N, ty0, f1, f2, f3, f4, f5, f6, f7, f8, f9⟩ := hf
  have hap := va_apart (own := own) hts f2 ty0 f5 f6 hK.1 f1
  have hat := (hR.2.2 _ _ h1).2
  obtain ⟨r, g1, cell, q1, q2, q3, q4⟩ := hat
  have hr : r = (C0, T, N) := Option.some.inj (g1.symm.trans f1)
  subst hr
  obtain ⟨hSl, hfc, kC, hkC, hkind⟩ := hK.1.1 ci _ f1
  obtain ⟨cf, kf, fi, f, hi, hsl⟩ := hSl k0 f3
  have hlay := hts _ (f2 _ (u_in_lay f3))
  unfold u_lay at hlay
  rw [if_neg (by rw [f7]; decide)] at hlay
  have hst := (u_facts hfc hkC (u_lays hts f2 f3) hi).1
  have h6 := u_store hfc hkC hkind hlay hi f8 hn hfit
  refine W.putK hx hb (f := f) ⟨hown, hts _ f4, ⟨_, _, _, hi⟩, hst⟩ (by rw [q2]; exact h6) q1 q3 (by rw [hsl]; exact k2_hasslot (q4 k0 f3)) rfl rfl d fun H' e1 e2 e3 => ?_
  rw [hsl] at e1 ⊢
  exact k H' _ cells slots ls (hR.set h1 ⟨_, f1, t_OB.to (V := updV (vp_V fs) k0 v) ⟨_, e1, q2, q3, t_set q4 hap f3 v⟩ (fun j _ => vp_updV_set h2 v j)⟩ e2 e3) (hS.put e2 e3 (hR.2.2 _ _ h1).1) hc hs hl
theorem j_putF (C : Cx G own cc nL0 F L) (hin : (gMeth G).name = "<init>") {index ci k0 a : Nat} {ty : FieldType} {v : Value} (d : decode cc pc = .ok (.putfield index, 3)) (hf : FW own index ci k0 ty true) (hn : narrow ty v = v) (hfit : fits ty v = true) (h : pV ce ci k0 a v = some ce') (hp : pc + 3 = pc') (k : Jd G kc ks nx ce' pc' lv st) : Jd G kc ks nx ce pc lv (v :: .ref a :: st) := by
  obtain ⟨X, nL, p, l, e, R, s, m, args, below, meth, c, Q⟩ := G
  obtain ⟨rfl, hx, hb, hml, hown, hts, hK, hF, hL, hlk⟩ := C
  subst hp
  intro H locs cells slots ls hR hS hc hs hl
  obtain ⟨fs, h1, h2, rfl⟩ := pV_sp h
  obtain ⟨C0, T, N, ty0, f1, f2, f3, f4, f5, f6, f7, f8, f9⟩ := hf
  have hap := va_apart (own := own) hts f2 ty0 f5 f6 hK.1 f1
  have hat := (hR.2.2 _ _ h1).2
  obtain ⟨r, g1, cell, q1, q2, q3, q4⟩ := hat
  have hr : r = (C0, T, N) := Option.some.inj (g1.symm.trans f1)
  subst hr
  obtain ⟨hSl, hfc, kC, hkC, hkind⟩ := hK.1.1 ci _ f1
  obtain ⟨cf, kf, fi, f, hi, hsl⟩ := hSl k0 f3
  have hlay := hts _ (f2 _ (u_in_lay f3))
  unfold u_lay at hlay
  rw [if_pos f7] at hlay
  have hst := (u_facts hfc hkC (u_lays hts f2 f3) hi).1
  have hcf : m.cls = cf := by
    obtain ⟨_, _, c', _, _, _, -, -, hf', -, -, -, hown2, -⟩ := Cond.laysFinal_spec hlay
    have e1 : c' = cf := by have := hi.symm.trans hf'; simp at this; exact this.1.symm
    rw [f9 rfl] at hown2
    rw [← e1]; exact Option.some.inj (hown.symm.trans hown2)
  have h6 := u_fits hfc hkC hkind (Or.inr hlay) hi f8 hn hfit
  refine W.putFinK hx hb hown (hts _ f4) hi hst hcf hin (by rw [q2]; exact h6) q1 q3 (by rw [hsl]; exact k2_hasslot (q4 k0 f3)) rfl rfl d fun H' e1 e2 e3 => ?_
  rw [hsl] at e1 ⊢
  exact k H' _ cells slots ls (hR.set h1 ⟨_, f1, t_OB.to (V := updV (vp_V fs) k0 v) ⟨_, e1, q2, q3, t_set q4 hap f3 v⟩ (fun j _ => vp_updV_set h2 v j)⟩ e2 e3) (hS.put e2 e3 (hR.2.2 _ _ h1).1) hc hs hl
theorem j_iald (C : Cx G own cc nL0 F L) {a : Nat} {i : Int32} {x : Int32} (d : decode cc pc = .ok (.iaload, 1)) (h : aI ce a i = some x) (hp : pc + 1 = pc') (k : Jd G kc ks nx ce pc' lv (.int x :: st)) : Jd G kc ks nx ce pc lv (.int i :: .ref a :: st) := by
  obtain ⟨X, nL, p, l, e, R, s, m, args, below, meth, c, Q⟩ := G
  obtain ⟨rfl, hx, hb, hml, hown, hts, hK, hF, hL, hlk⟩ := C
  subst hp
  intro H locs cells slots ls hR hS hc hs hl
  obtain ⟨n, f, h1, h2, rfl⟩ := aI_sp h
  exact va_iald (D := X.1) (cl := vwCl) (tys := gx_tyl X.2.1) (ws := [(a, .inl (X.2.1 .int, n, .inl f))]) hx hb hK.1 (fun j q hq => by
    have hz : j < 1 := (List.getElem?_eq_some_iff.mp hq).1
    rw [show j = 0 by omega] at hq
    cases hq
    exact (hR.2.2 _ _ h1).2) 0 0 rfl rfl h2 d (k H locs cells slots ls hR hS hc hs hl)
theorem j_bald (C : Cx G own cc nL0 F L) {a : Nat} {i : Int32} {x : Int32} (d : decode cc pc = .ok (.baload, 1)) (h : aB ce a i = some x) (hp : pc + 1 = pc') (k : Jd G kc ks nx ce pc' lv (.int x :: st)) : Jd G kc ks nx ce pc lv (.int i :: .ref a :: st) := by
  obtain ⟨X, nL, p, l, e, R, s, m, args, below, meth, c, Q⟩ := G
  obtain ⟨rfl, hx, hb, hml, hown, hts, hK, hF, hL, hlk⟩ := C
  subst hp
  intro H locs cells slots ls hR hS hc hs hl
  obtain ⟨n, f, h1, h2, rfl⟩ := aB_sp h
  exact va_bald (D := X.1) (cl := vwCl) (tys := gx_tyl X.2.1) (ws := [(a, .inl (X.2.1 .byte, n, .inl f))]) hx hb hK.1 (fun j q hq => by
    have hz : j < 1 := (List.getElem?_eq_some_iff.mp hq).1
    rw [show j = 0 by omega] at hq
    cases hq
    exact (hR.2.2 _ _ h1).2) 0 3 rfl rfl h2 d (k H locs cells slots ls hR hS hc hs hl)
theorem j_lald (C : Cx G own cc nL0 F L) {a : Nat} {i : Int32} {x : Int64} (d : decode cc pc = .ok (.laload, 1)) (h : aL ce a i = some x) (hp : pc + 1 = pc') (k : Jd G kc ks nx ce pc' lv (.long x :: st)) : Jd G kc ks nx ce pc lv (.int i :: .ref a :: st) := by
  obtain ⟨X, nL, p, l, e, R, s, m, args, below, meth, c, Q⟩ := G
  obtain ⟨rfl, hx, hb, hml, hown, hts, hK, hF, hL, hlk⟩ := C
  subst hp
  intro H locs cells slots ls hR hS hc hs hl
  obtain ⟨n, f, h1, h2, rfl⟩ := aL_sp h
  exact va_lald (D := X.1) (cl := vwCl) (tys := gx_tyl X.2.1) (ws := [(a, .inl (X.2.1 .long, n, .inr (.inl f)))]) hx hb hK.1 (fun j q hq => by
    have hz : j < 1 := (List.getElem?_eq_some_iff.mp hq).1
    rw [show j = 0 by omega] at hq
    cases hq
    exact (hR.2.2 _ _ h1).2) 0 1 rfl rfl h2 d (k H locs cells slots ls hR hS hc hs hl)
theorem j_fald (C : Cx G own cc nL0 F L) {a : Nat} {i : Int32} {x : UInt32} (d : decode cc pc = .ok (.faload, 1)) (h : aG ce a i = some x) (hp : pc + 1 = pc') (k : Jd G kc ks nx ce pc' lv (.float x :: st)) : Jd G kc ks nx ce pc lv (.int i :: .ref a :: st) := by
  obtain ⟨X, nL, p, l, e, R, s, m, args, below, meth, c, Q⟩ := G
  obtain ⟨rfl, hx, hb, hml, hown, hts, hK, hF, hL, hlk⟩ := C
  subst hp
  intro H locs cells slots ls hR hS hc hs hl
  obtain ⟨n, f, h1, h2, rfl⟩ := aG_sp h
  exact va_fald (D := X.1) (cl := vwCl) (tys := gx_tyl X.2.1) (ws := [(a, .inl (X.2.1 .float, n, .inr (.inr (.inl f))))]) hx hb hK.1 (fun j q hq => by
    have hz : j < 1 := (List.getElem?_eq_some_iff.mp hq).1
    rw [show j = 0 by omega] at hq
    cases hq
    exact (hR.2.2 _ _ h1).2) 0 2 rfl rfl h2 d (k H locs cells slots ls hR hS hc hs hl)
theorem j_aaldM (C : Cx G own cc nL0 F L) {a : Nat} {i : Int32} {x : Option Nat} (d : decode cc pc = .ok (.aaload, 1)) (h : aR "FencedStates$Machine" ce a i = some x) (hp : pc + 1 = pc') (k : Jd G kc ks nx ce pc' lv (va_rf x :: st)) : Jd G kc ks nx ce pc lv (.int i :: .ref a :: st) := by
  obtain ⟨X, nL, p, l, e, R, s, m, args, below, meth, c, Q⟩ := G
  obtain ⟨rfl, hx, hb, hml, hown, hts, hK, hF, hL, hlk⟩ := C
  subst hp
  intro H locs cells slots ls hR hS hc hs hl
  obtain ⟨n, f, h1, h2, rfl⟩ := aR_sp h
  exact va_aldq (D := X.1) (cl := vwCl) (tys := gx_tyl X.2.1) (C := "FencedStates$Machine") (ws := [(a, .inl (X.2.1 (.object "FencedStates$Machine"), n, .inr (.inr (.inr (.inr f)))))]) hx hb hK.1 (fun j q hq => by
    have hz : j < 1 := (List.getElem?_eq_some_iff.mp hq).1
    rw [show j = 0 by omega] at hq
    cases hq
    exact (hR.2.2 _ _ h1).2) 0 4 rfl rfl h2 d (k H locs cells slots ls hR hS hc hs hl)
theorem j_aaldS (C : Cx G own cc nL0 F L) {a : Nat} {i : Int32} {x : Option Nat} (d : decode cc pc = .ok (.aaload, 1)) (h : aR "FencedStates$Search" ce a i = some x) (hp : pc + 1 = pc') (k : Jd G kc ks nx ce pc' lv (va_rf x :: st)) : Jd G kc ks nx ce pc lv (.int i :: .ref a :: st) := by
  obtain ⟨X, nL, p, l, e, R, s, m, args, below, meth, c, Q⟩ := G
  obtain ⟨rfl, hx, hb, hml, hown, hts, hK, hF, hL, hlk⟩ := C
  subst hp
  intro H locs cells slots ls hR hS hc hs hl
  obtain ⟨n, f, h1, h2, rfl⟩ := aR_sp h
  exact va_aldq (D := X.1) (cl := vwCl) (tys := gx_tyl X.2.1) (C := "FencedStates$Search") (ws := [(a, .inl (X.2.1 (.object "FencedStates$Search"), n, .inr (.inr (.inr (.inr f)))))]) hx hb hK.1 (fun j q hq => by
    have hz : j < 1 := (List.getElem?_eq_some_iff.mp hq).1
    rw [show j = 0 by omega] at hq
    cases hq
    exact (hR.2.2 _ _ h1).2) 0 5 rfl rfl h2 d (k H locs cells slots ls hR hS hc hs hl)
theorem j_iast (C : Cx G own cc nL0 F L) {a : Nat} {i : Int32} {x : Int32} (d : decode cc pc = .ok (.iastore, 1)) (h : sI ce a i x = some ce') (hp : pc + 1 = pc') (k : Jd G kc ks nx ce' pc' lv st) : Jd G kc ks nx ce pc lv (.int x :: .int i :: .ref a :: st) := by
  obtain ⟨X, nL, p, l, e, R, s, m, args, below, meth, c, Q⟩ := G
  obtain ⟨rfl, hx, hb, hml, hown, hts, hK, hF, hL, hlk⟩ := C
  subst hp
  intro H locs cells slots ls hR hS hc hs hl
  obtain ⟨n, f, h1, h2, rfl⟩ := sI_sp h
  refine W.iast hx hb (hR.2.2 _ _ h1).2 ((hK.1.2 0 _ rfl).1 n (fun j => .int (f j))) (fun q => by cases q) (by show ¬ (i < 0 ∨ (arrV _ _ _).slots.size ≤ _); rw [arrV_size]; exact h2) rfl rfl d fun H1 e1 z oq => ?_
  refine k H1 _ cells slots ls (hR.set h1 ?_ z oq) (hS.put z oq (hR.2.2 _ _ h1).1) hc hs hl
  show H1[a]? = some (vp_cell _ _)
  rw [e1, vp_cell_i, vp_cell_i, arrV_store, ← up_val Value.int]
theorem j_last (C : Cx G own cc nL0 F L) {a : Nat} {i : Int32} {x : Int64} (d : decode cc pc = .ok (.lastore, 1)) (h : sL ce a i x = some ce') (hp : pc + 1 = pc') (k : Jd G kc ks nx ce' pc' lv st) : Jd G kc ks nx ce pc lv (.long x :: .int i :: .ref a :: st) := by
  obtain ⟨X, nL, p, l, e, R, s, m, args, below, meth, c, Q⟩ := G
  obtain ⟨rfl, hx, hb, hml, hown, hts, hK, hF, hL, hlk⟩ := C
  subst hp
  intro H locs cells slots ls hR hS hc hs hl
  obtain ⟨n, f, h1, h2, rfl⟩ := sL_sp h
  refine W.last hx hb (hR.2.2 _ _ h1).2 ((hK.1.2 1 _ rfl).1 n (fun j => .long (f j))) (fun q => by cases q) (by show ¬ (i < 0 ∨ (arrV _ _ _).slots.size ≤ _); rw [arrV_size]; exact h2) rfl rfl d fun H1 e1 z oq => ?_
  refine k H1 _ cells slots ls (hR.set h1 ?_ z oq) (hS.put z oq (hR.2.2 _ _ h1).1) hc hs hl
  show H1[a]? = some (vp_cell _ _)
  rw [e1, vp_cell_l, vp_cell_l, arrV_store, ← up_val Value.long]
theorem j_fast (C : Cx G own cc nL0 F L) {a : Nat} {i : Int32} {x : UInt32} (d : decode cc pc = .ok (.fastore, 1)) (h : sG ce a i x = some ce') (hp : pc + 1 = pc') (k : Jd G kc ks nx ce' pc' lv st) : Jd G kc ks nx ce pc lv (.float x :: .int i :: .ref a :: st) := by
  obtain ⟨X, nL, p, l, e, R, s, m, args, below, meth, c, Q⟩ := G
  obtain ⟨rfl, hx, hb, hml, hown, hts, hK, hF, hL, hlk⟩ := C
  subst hp
  intro H locs cells slots ls hR hS hc hs hl
  obtain ⟨n, f, h1, h2, rfl⟩ := sG_sp h
  refine W.fast hx hb (hR.2.2 _ _ h1).2 ((hK.1.2 2 _ rfl).1 n (fun j => .float (f j))) (fun q => by cases q) (by show ¬ (i < 0 ∨ (arrV _ _ _).slots.size ≤ _); rw [arrV_size]; exact h2) rfl rfl d fun H1 e1 z oq => ?_
  refine k H1 _ cells slots ls (hR.set h1 ?_ z oq) (hS.put z oq (hR.2.2 _ _ h1).1) hc hs hl
  show H1[a]? = some (vp_cell _ _)
  rw [e1, vp_cell_f, vp_cell_f, arrV_store, ← up_val Value.float]
theorem j_bast (C : Cx G own cc nL0 F L) {a : Nat} {i : Int32} {x : Int32} (d : decode cc pc = .ok (.bastore, 1)) (h : sB ce a i x = some ce') (hp : pc + 1 = pc') (k : Jd G kc ks nx ce' pc' lv st) : Jd G kc ks nx ce pc lv (.int x :: .int i :: .ref a :: st) := by
  obtain ⟨X, nL, p, l, e, R, s, m, args, below, meth, c, Q⟩ := G
  obtain ⟨rfl, hx, hb, hml, hown, hts, hK, hF, hL, hlk⟩ := C
  subst hp
  intro H locs cells slots ls hR hS hc hs hl
  obtain ⟨n, f, h1, h2, rfl⟩ := sB_sp h
  refine W.bast hx hb (hR.2.2 _ _ h1).2 ((hK.1.2 3 _ rfl).1 n (fun j => .int (f j))) (fun q => by cases q) (by show ¬ (i < 0 ∨ (arrV _ _ _).slots.size ≤ _); rw [arrV_size]; exact h2) rfl rfl d fun H1 e1 z oq => ?_
  refine k H1 _ cells slots ls (hR.set h1 ?_ z oq) (hS.put z oq (hR.2.2 _ _ h1).1) hc hs hl
  show H1[a]? = some (vp_cell _ _)
  rw [e1, vp_cell_i, vp_cell_i, arrV_store, ← up_val Value.int]; rfl
theorem j_aastM (C : Cx G own cc nL0 F L) {a : Nat} {i : Int32} {x : Option Nat} (d : decode cc pc = .ok (.aastore, 1)) (h : sR "FencedStates$Machine" 3 ce a i x = some ce') (hp : pc + 1 = pc') (k : Jd G kc ks nx ce' pc' lv st) : Jd G kc ks nx ce pc lv (va_rf x :: .int i :: .ref a :: st) := by
  obtain ⟨X, nL, p, l, e, R, s, m, args, below, meth, c, Q⟩ := G
  obtain ⟨rfl, hx, hb, hml, hown, hts, hK, hF, hL, hlk⟩ := C
  subst hp
  intro H locs cells slots ls hR hS hc hs hl
  obtain ⟨n, f, h1, h2, rfl, h3⟩ := sR_sp h
  have hlt : i.toNatClampNeg < n := Nat.not_le.mp fun q => h2 (Or.inr q)
  have h0 : ¬ i < 0 := fun q => h2 (Or.inl q)
  cases x with
  | none =>
    refine va_WaastN (C := "FencedStates$Machine") hx hb (hR.2.2 _ _ h1).2 ((hK.1.2 4 _ rfl).1 n (fun j => va_rf (f j))) (fun q => by cases q) (by show ¬ (i < 0 ∨ (arrV _ _ _).slots.size ≤ _); rw [arrV_size]; exact h2) rfl rfl d fun H1 e1 z oq => ?_
    refine k H1 _ cells slots ls (hR.set h1 ?_ z oq) (hS.put z oq (hR.2.2 _ _ h1).1) hc hs hl
    show H1[a]? = some (vp_cell _ _)
    rw [e1, vp_cell_q, vp_cell_q, arrV_store, ← up_val va_rf]
    rfl
  | some v =>
    obtain ⟨fs, h4⟩ := h3 v rfl
    obtain ⟨r', hr', cellV, g1, g2, g3, -⟩ := (hR.2.2 _ _ h4).2
    have hr : r' = (RX5, TX5, 7) := Option.some.inj (hr'.symm.trans rfl)
    subst hr
    have hcls := (hK.1.1 3 _ rfl).2
    obtain ⟨kA, comp, k1, k2, k3, -⟩ := (hK.1.2 4 _ rfl).2
    have hcomp : comp = X.1.1 3 := Option.some.inj (k3.symm.trans hcls.1)
    subst hcomp
    obtain ⟨kC, hkC, -⟩ := hcls.2
    refine W.aast hx hb (hR.2.2 _ _ h1).2 (fun q h => by cases h) (fun h => by cases h) k1 k2 rfl hkC ⟨h0, by show _ < (arrV _ _ _).slots.size; rw [arrV_size]; exact hlt⟩ g1 (fun q h => by rw [g3] at h; cases h) (by rw [g2]; exact hkC) (by rw [g2]; exact va_assign hcls) rfl rfl d fun H1 e1 z oq => ?_
    refine k H1 _ cells slots ls (hR.set h1 ?_ z oq) (hS.put z oq (hR.2.2 _ _ h1).1) hc hs hl
    show H1[a]? = some (vp_cell _ _)
    rw [e1, vp_cell_q, vp_cell_q, arrV_store, ← up_val va_rf]
    rfl
theorem j_aastS (C : Cx G own cc nL0 F L) {a : Nat} {i : Int32} {x : Option Nat} (d : decode cc pc = .ok (.aastore, 1)) (h : sR "FencedStates$Search" 6 ce a i x = some ce') (hp : pc + 1 = pc') (k : Jd G kc ks nx ce' pc' lv st) : Jd G kc ks nx ce pc lv (va_rf x :: .int i :: .ref a :: st) := by
  obtain ⟨X, nL, p, l, e, R, s, m, args, below, meth, c, Q⟩ := G
  obtain ⟨rfl, hx, hb, hml, hown, hts, hK, hF, hL, hlk⟩ := C
  subst hp
  intro H locs cells slots ls hR hS hc hs hl
  obtain ⟨n, f, h1, h2, rfl, h3⟩ := sR_sp h
  have hlt : i.toNatClampNeg < n := Nat.not_le.mp fun q => h2 (Or.inr q)
  have h0 : ¬ i < 0 := fun q => h2 (Or.inl q)
  cases x with
  | none =>
    refine va_WaastN (C := "FencedStates$Search") hx hb (hR.2.2 _ _ h1).2 ((hK.1.2 5 _ rfl).1 n (fun j => va_rf (f j))) (fun q => by cases q) (by show ¬ (i < 0 ∨ (arrV _ _ _).slots.size ≤ _); rw [arrV_size]; exact h2) rfl rfl d fun H1 e1 z oq => ?_
    refine k H1 _ cells slots ls (hR.set h1 ?_ z oq) (hS.put z oq (hR.2.2 _ _ h1).1) hc hs hl
    show H1[a]? = some (vp_cell _ _)
    rw [e1, vp_cell_q, vp_cell_q, arrV_store, ← up_val va_rf]
    rfl
  | some v =>
    obtain ⟨fs, h4⟩ := h3 v rfl
    obtain ⟨r', hr', cellV, g1, g2, g3, -⟩ := (hR.2.2 _ _ h4).2
    have hr : r' = (RX8, TX8, 15) := Option.some.inj (hr'.symm.trans rfl)
    subst hr
    have hcls := (hK.1.1 6 _ rfl).2
    obtain ⟨kA, comp, k1, k2, k3, -⟩ := (hK.1.2 5 _ rfl).2
    have hcomp : comp = X.1.1 6 := Option.some.inj (k3.symm.trans hcls.1)
    subst hcomp
    obtain ⟨kC, hkC, -⟩ := hcls.2
    refine W.aast hx hb (hR.2.2 _ _ h1).2 (fun q h => by cases h) (fun h => by cases h) k1 k2 rfl hkC ⟨h0, by show _ < (arrV _ _ _).slots.size; rw [arrV_size]; exact hlt⟩ g1 (fun q h => by rw [g3] at h; cases h) (by rw [g2]; exact hkC) (by rw [g2]; exact va_assign hcls) rfl rfl d fun H1 e1 z oq => ?_
    refine k H1 _ cells slots ls (hR.set h1 ?_ z oq) (hS.put z oq (hR.2.2 _ _ h1).1) hc hs hl
    show H1[a]? = some (vp_cell _ _)
    rw [e1, vp_cell_q, vp_cell_q, arrV_store, ← up_val va_rf]
    rfl
theorem j_alen (C : Cx G own cc nL0 F L) {a : Nat} {x : Int32} (d : decode cc pc = .ok (.arraylength, 1)) (h : alen ce a = some x) (hp : pc + 1 = pc') (k : Jd G kc ks nx ce pc' lv (.int x :: st)) : Jd G kc ks nx ce pc lv (.ref a :: st) := by
  obtain ⟨X, nL, p, l, e, R, s, m, args, below, meth, c, Q⟩ := G
  obtain ⟨rfl, hx, hb, hml, hown, hts, hK, hF, hL, hlk⟩ := C
  subst hp
  intro H locs cells slots ls hR hS hc hs hl
  unfold alen at h
  split at h
  · rename_i n f hq
    cases h
    exact W.alen (n := Int32.ofNat n) hx hb (hR.2.2 _ _ hq).2 ((hK.1.2 0 _ rfl).1 n (fun j => .int (f j))) (by rw [vp_cell_i, arrV_size] <;> rfl) rfl rfl d (k H locs cells slots ls hR hS hc hs hl)
  · rename_i n f hq
    cases h
    exact W.alen (n := Int32.ofNat n) hx hb (hR.2.2 _ _ hq).2 ((hK.1.2 3 _ rfl).1 n (fun j => .int (f j))) (by rw [vp_cell_i, arrV_size] <;> rfl) rfl rfl d (k H locs cells slots ls hR hS hc hs hl)
  · rename_i n f hq
    cases h
    exact W.alen (n := Int32.ofNat n) hx hb (hR.2.2 _ _ hq).2 ((hK.1.2 1 _ rfl).1 n (fun j => .long (f j))) (by rw [vp_cell_l, arrV_size] <;> rfl) rfl rfl d (k H locs cells slots ls hR hS hc hs hl)
  · rename_i n f hq
    cases h
    exact W.alen (n := Int32.ofNat n) hx hb (hR.2.2 _ _ hq).2 ((hK.1.2 2 _ rfl).1 n (fun j => .float (f j))) (by rw [vp_cell_f, arrV_size] <;> rfl) rfl rfl d (k H locs cells slots ls hR hS hc hs hl)
  · rename_i D n f hq
    split at h
    · rename_i hD
      cases h
      rcases hD with rfl | rfl
      · exact W.alen (n := Int32.ofNat n) hx hb (hR.2.2 _ _ hq).2 ((hK.1.2 4 _ rfl).1 n (fun j => va_rf (f j))) (by rw [vp_cell_q, arrV_size] <;> rfl) rfl rfl d (k H locs cells slots ls hR hS hc hs hl)
      · exact W.alen (n := Int32.ofNat n) hx hb (hR.2.2 _ _ hq).2 ((hK.1.2 5 _ rfl).1 n (fun j => va_rf (f j))) (by rw [vp_cell_q, arrV_size] <;> rfl) rfl rfl d (k H locs cells slots ls hR hS hc hs hl)
    · cases h
  · cases h
theorem j_ls (C : Cx G own cc nL0 F L) {index : Nat} (d : decode cc pc = .ok (.getstatic index, 3)) (hw : Cond.fieldLink own index "FencedStates" "LETTER_SETS" "[J" ∈ lw_gd) (hp : pc + 3 = pc') (k : Jd G kc ks nx ce pc' lv (.ref G.1.2.2.2.1 :: st)) : Jd G kc ks nx ce pc lv (st) := by
  obtain ⟨X, nL, p, l, e, R, s, m, args, below, meth, c, Q⟩ := G
  obtain ⟨rfl, hx, hb, hml, hown, hts, hK, hF, hL, hlk⟩ := C
  subst hp
  intro H locs cells slots ls hR hS hc hs hl
  exact va_gets hx hb hK.2.2.1 hS hown (hts _ hw) (fun _ h9 => h9) d (k H locs cells slots ls hR hS hc hs hl)
theorem j_lsR (C : Cx G own cc nL0 F L) (d : decode cc pc = .ok (.getstatic 64, 3)) (ho : own = "FencedStates$Reader") (hp : pc + 3 = pc') (k : Jd G kc ks nx ce pc' lv (.ref G.1.2.2.2.1 :: st)) : Jd G kc ks nx ce pc lv (st) := by
  obtain ⟨X, nL, p, l, e, R, s, m, args, below, meth, c, Q⟩ := G
  obtain ⟨rfl, hx, hb, hml, hown, hts, hK, hF, hL, hlk⟩ := C
  subst hp
  intro H locs cells slots ls hR hS hc hs hl
  subst ho
  exact va_getsN hx hb hK.2.2.1 hS hown (va_Nw.use rfl hK.2.2.2.2.2.2.2.1) (fun _ h9 => h9) d (k H locs cells slots ls hR hS hc hs hl)
theorem j_lsC (C : Cx G own cc nL0 F L) (d : decode cc pc = .ok (.getstatic 24, 3)) (ho : own = "FencedStates$Cubes") (hp : pc + 3 = pc') (k : Jd G kc ks nx ce pc' lv (.ref G.1.2.2.2.1 :: st)) : Jd G kc ks nx ce pc lv (st) := by
  obtain ⟨X, nL, p, l, e, R, s, m, args, below, meth, c, Q⟩ := G
  obtain ⟨rfl, hx, hb, hml, hown, hts, hK, hF, hL, hlk⟩ := C
  subst hp
  intro H locs cells slots ls hR hS hc hs hl
  subst ho
  exact va_getsN hx hb hK.2.2.1 hS hown (va_Nw.use rfl hK.2.2.2.2.2.2.2.2.1) (fun _ h9 => h9) d (k H locs cells slots ls hR hS hc hs hl)
theorem j_lsld (C : Cx G own cc nL0 F L) {i : Int32} {x : Int64} (d : decode cc pc = .ok (.laload, 1)) (h : aLS i = some x) (hp : pc + 1 = pc') (k : Jd G kc ks nx ce pc' lv (.long x :: st)) : Jd G kc ks nx ce pc lv (.int i :: .ref G.1.2.2.2.1 :: st) := by
  obtain ⟨X, nL, p, l, e, R, s, m, args, below, meth, c, Q⟩ := G
  obtain ⟨rfl, hx, hb, hml, hown, hts, hK, hF, hL, hlk⟩ := C
  subst hp
  intro H locs cells slots ls hR hS hc hs hl
  unfold aLS at h
  split at h
  · cases h
  · rename_i h2
    exact va_tl hx hb hK.2.2.2.1 hS h2 (congrArg Value.long (Option.some.inj h)) d (k H locs cells slots ls hR hS hc hs hl)
theorem j_lslen (C : Cx G own cc nL0 F L) (d : decode cc pc = .ok (.arraylength, 1)) (hp : pc + 1 = pc') (k : Jd G kc ks nx ce pc' lv (.int 6 :: st)) : Jd G kc ks nx ce pc lv (.ref G.1.2.2.2.1 :: st) := by
  obtain ⟨X, nL, p, l, e, R, s, m, args, below, meth, c, Q⟩ := G
  obtain ⟨rfl, hx, hb, hml, hown, hts, hK, hF, hL, hlk⟩ := C
  subst hp
  intro H locs cells slots ls hR hS hc hs hl
  obtain ⟨cell, h1, h2, h3, h4, h5, h6, h7⟩ := hK.2.2.2.1
  exact W.alen (n := 6) hx hb (by rw [hS.2.1 _ (Array.getElem?_eq_some_iff.mp h1).1 h7]; exact h1) h2 h5 rfl rfl d (k H locs cells slots ls hR hS hc hs hl)
end JMEM
