/-! THE CLAIM OUT OF ONE WALK OF THE LAW'S BODY. Your part is whole_start (and what it stands on); all else here is the same for every law, but numbers. -/
def R_law : String := "FencedStatesLaw"
def lw_P (b : Addr) (xs : List Int32) (args : Array Value) (s : State) : Prop := args = #[.ref b] ∧ s.IntsAt b xs ∧ xs.length ≤ 3072 ∧ (Jvm.Cond.and given_1 narrow_1).before args s = true
/-- what a walk over the start with the record d0 says of its end, said of the start itself -/
theorem lw_closed {s t : State} {o : Outcome} {d0 : Drawn} {L : List Loc} {k n : Nat} (hd0 : s.drawn.sameBut d0 lw_cs) (hv : ∃ v, o = .returned v) (hW : (s.setDrawn d0).WarmedH t.vm) (hs : (s.setDrawn d0).sameButNew ({ t with vm := s.vm } : State) L k n) : State.butDraws s t lw_cs (fun t1 => Framed s o t1 L k n) := by
  have h2 : t.drawn = d0 := congrArg State.drawn hs.1
  refine ⟨⟨hv, hW, State.sameButNew.setDrawn hs s.drawn⟩, ?_, by decide⟩
  rw [h2]
  exact hd0
def lw_Q (_ : Array Value) (s : State) (o : Outcome) (t : State) : Prop := o = .returned (some (.int 1)) ∧ State.butDraws s t lw_cs (fun t1 => Framed s o t1 [] 600000 7302249)
def lw_Z (below : List Frame) (a : Array Value) (s : State) : State → Prop := fun t => ∃ o, t.status = .running ∧ Ended t below o ∧ lw_Q a s o t
/-- the law's own end, with 1 on the stack, nothing written that was there before, its room as the claim has it; d0: the record of draws at this point (at the entry s.drawn: begin with 'refine W.base ?_' and 'have hd0 := Drawn.sameBut.refl s.drawn lw_cs') -/
theorem lw_ret {p : Program} {l : Launch} {e : Env} {s : State} {m : MethodId} {below : List Frame} {meth : Method} {c : Code} {b : Nat} {d0 : Drawn} (hd0 : s.drawn.sameBut d0 lw_cs) (hx : p.tables.exec = Jvm.exec) (hb : c.code = code) (hr : meth.sig.returnType = ret) (hlocks : meth.locks = false) {pc : Nat} {H : Heap} {ls : Array Slot} (hdg : decode code pc = .ok (.ireturn, 1)) : W p l e room_1 (s.setDrawn d0) m #[Value.ref b] below meth c H [] 600000 7302249 (lw_Z below #[Value.ref b] s) (F0 m pc ls [.int 1]) := by
  intro T hT X
  obtain ⟨fs, hret, hrun, hended, hW, hframe⟩ := X.leave (v := some (.int 1)) (hlocks := hlocks) (fun h => by rw [hr] at h; cases h)
  have hmeth' : T.vm.method? m = some meth := X.method'
  refine ⟨T.setFrames fs, ?_, .returned (some (.int 1)), hrun, hended, rfl, lw_closed hd0 ⟨_, rfl⟩ hW hframe⟩
  jvm_step X.here [X.here.top, hx, hb, hdg, hmeth', hr, ret, narrow_b1]
  (try refine ⟨rfl, ?_⟩); (try refine ⟨rfl, ?_⟩)
  first | (intro acts; rw [hret _ acts rfl rfl rfl]) | rw [hret _ _ rfl rfl rfl]
  exact Steps.refl _
/-- what holds at the law's entry: the machine, the code, the tables' words (any of lw_tbl by 'hts w (by decide +kernel)'), the script of L ints xs at the cell b, what the Statement gives of the start (any of its parts by flat_of_before) -/
def lw_At (p : Program) (s : State) (m : MethodId) (meth : Method) (c : Code) (b L : Nat) (xs : Nat → Int32) : Prop :=
  p.tables.exec = Jvm.exec ∧ c.code = code ∧ meth.sig.returnType = ret ∧ c.maxLocals = 4 ∧ s.vm.findClass R_law = some m.cls ∧ (∀ w ∈ lw_tbl, w.before #[Value.ref b] s = true) ∧ va_X b L xs s s.heap ∧ b < s.heap.size ∧ meth.locks = false ∧ (Jvm.Cond.and given_1 narrow_1).before #[Value.ref b] s = true
def scr (L : Nat) (xs : Nat → Int32) (i : Int32) : Option Int32 := if i < 0 ∨ L ≤ i.toNatClampNeg then none else some (xs i.toNatClampNeg)
def Scr (G : GC) (b L : Nat) (xs : Nat → Int32) : Prop := match G with
  | (X, _, _, _, _, _, s, _, _, _, _, _, _) => va_X b L xs s s.heap ∧ b < s.heap.size ∧ ¬ gx_A X b
def LawQ (G : GC) (b : Nat) : Prop := match G with
  | (X, _, _, _, _, R, s, _, args, below, meth, _, Q) => R = room_1 ∧ args = #[Value.ref b] ∧ Q = lw_Z below #[Value.ref b] s ∧ meth.sig.returnType = ret ∧ s.heap.size ≤ X.2.2.1
section JLAW
variable {G : GC} {own : String} {cc : ByteArray} {nL0 F L0 : Nat} {kc ks nx : Nat} {ce ce' : Ce} {pc pc' : Nat} {lv lv' : List (Nat × Value)} {st : List Value}
theorem j_scrld (C : Cx G own cc nL0 F L0) {b L : Nat} {xs : Nat → Int32} (HX : Scr G b L xs) {i x : Int32} (d : decode cc pc = .ok (.iaload, 1)) (h : scr L xs i = some x) (hp : pc + 1 = pc') (k : Jd G kc ks nx ce pc' lv (.int x :: st)) : Jd G kc ks nx ce pc lv (.int i :: .ref b :: st) := by
  obtain ⟨X, nL, p, l, e, R, s, m, args, below, meth, c, Q⟩ := G
  obtain ⟨rfl, hx, hb, hml, hown, hts, hK, hF, hL, hlk⟩ := C
  subst hp
  intro H locs cells slots ls hR hS hc hs hl
  unfold scr at h
  split at h
  · cases h
  · rename_i h2
    have h3 := Option.some.inj h
    subst h3
    exact va_sld hx hb HX.1 HX.2.1 HX.2.2 hS h2 d (k H locs cells slots ls hR hS hc hs hl)
theorem j_scrlen (C : Cx G own cc nL0 F L0) {b L : Nat} {xs : Nat → Int32} (HX : Scr G b L xs) (d : decode cc pc = .ok (.arraylength, 1)) (hp : pc + 1 = pc') (k : Jd G kc ks nx ce pc' lv (.int (Int32.ofNat L) :: st)) : Jd G kc ks nx ce pc lv (.ref b :: st) := by
  obtain ⟨X, nL, p, l, e, R, s, m, args, below, meth, c, Q⟩ := G
  obtain ⟨rfl, hx, hb, hml, hown, hts, hK, hF, hL, hlk⟩ := C
  subst hp
  intro H locs cells slots ls hR hS hc hs hl
  exact va_slen hx hb HX.1 HX.2.1 HX.2.2 hS d (k H locs cells slots ls hR hS hc hs hl)
theorem j_lawret (C : Cx G own cL_law nL0 F L0) {b : Nat} (HQ : LawQ G b) (d : decode cL_law pc = .ok (.ireturn, 1)) : Jd G kc ks nx ce pc lv [.int 1] := by
  obtain ⟨X, nL, p, l, e, R, s, m, args, below, meth, c, Q⟩ := G
  obtain ⟨rfl, hx, hb, hml, hown, hts, hK, hF, hL, hlk⟩ := C
  obtain ⟨rfl, rfl, rfl, hret, hbase⟩ := HQ
  intro H locs cells slots ls hR hS hc hs hl
  refine va_forget (fun q hq => Nat.le_trans hbase (hS.2.2 q hq)) ?_
  refine W.widen (k := 600000) (n := 7302249) (by have : room_1.cells = 600000 := rfl; omega) (by have : room_1.slots = 7302249 := rfl; omega) ?_
  have h := lw_ret (e := e) (p := p) (l := l) (m := m) (below := below) (meth := meth) (c := c) (b := b) (s := s) (d0 := s.drawn) (H := H) (ls := ls) (Drawn.sameBut.refl s.drawn lw_cs) hx hb hret hlk d
  exact h
end JLAW
