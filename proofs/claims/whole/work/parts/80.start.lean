theorem lw_sub : ∀ w ∈ lw_gd, w ∈ lw_tbl := fun _ h => (List.mem_filter.mp h).1
theorem eq_val {args : Array Value} {s : State} {t v : Term} {y : Value} (h : (Cond.eq t v).before args s = true) (hv : v.eval args s none [] s = some y) : t.eval args s none [] s = some y := by
  obtain ⟨z, h1, h2⟩ := Cond.eq_one (show (Cond.eq t v).holds args s none s [] = true from h)
  cases hv.symm.trans h2
  exact h1
theorem arr_prim {args : Array Value} {s : State} {ty : FieldType} (h : (Cond.arrayClass ty).before args s = true) : ∃ cA : ClassId, s.vm.findClass ("[" ++ ty.toString) = some cA ∧ ArrOfT s cA ty := by
  obtain ⟨c, k, comp, h1, h2, h3⟩ := Cond.arrayClass_spec (show (Cond.arrayClass ty).holds args s none s [] = true from h)
  exact ⟨c, h1, fun n z => ⟨fun _ h => (by cases h), k, h2, comp, h3⟩⟩
theorem arr_obj {args : Array Value} {s : State} {n : String} (h : (Cond.arrayOver (.object n)).before args s = true) : ∃ cA : ClassId, ArrOfT s cA (.object n) ∧ va_RA s cA (.object n) := by
  obtain ⟨comp, c, k, h1, h2, h3, h4, h5⟩ := Cond.arrayOver_spec (show (Cond.arrayOver (.object n)).holds args s none s [] = true from h)
  exact ⟨c, fun n z => ⟨fun _ h => (by cases h), k, h3, comp, h4⟩, k, comp, h3, h4, h1, h5⟩
theorem st_ex {args : Array Value} {s : State} (hs : ∀ c ∈ flatC (Jvm.Cond.and given_1 narrow_1), c.before args s = true) : ∀ i, i < 6 → (Cond.exactly ((fun i => Term.string "FencedStates$Reader" (stI i)) i) "java/lang/String").before args s = true := by
  intro i hi
  match i, hi with
  | 0, _ => exact hs _ (by decide +kernel)
  | 1, _ => exact hs _ (by decide +kernel)
  | 2, _ => exact hs _ (by decide +kernel)
  | 3, _ => exact hs _ (by decide +kernel)
  | 4, _ => exact hs _ (by decide +kernel)
  | 5, _ => exact hs _ (by decide +kernel)
  | n + 6, h => omega
theorem st_co {args : Array Value} {s : State} (hs : ∀ c ∈ flatC (Jvm.Cond.and given_1 narrow_1), c.before args s = true) : ∀ i, i < 6 → (Cond.eq (.field ((fun i => Term.string "FencedStates$Reader" (stI i)) i) "java/lang/String" "coder" "B") (.int 0)).before args s = true := by
  intro i hi
  match i, hi with
  | 0, _ => exact hs _ (by decide +kernel)
  | 1, _ => exact hs _ (by decide +kernel)
  | 2, _ => exact hs _ (by decide +kernel)
  | 3, _ => exact hs _ (by decide +kernel)
  | 4, _ => exact hs _ (by decide +kernel)
  | 5, _ => exact hs _ (by decide +kernel)
  | n + 6, h => omega
theorem st_ar {args : Array Value} {s : State} (hs : ∀ c ∈ flatC (Jvm.Cond.and given_1 narrow_1), c.before args s = true) : ∀ i, i < 6 → (Cond.arrayOf (.field ((fun i => Term.string "FencedStates$Reader" (stI i)) i) "java/lang/String" "value" "[B") .byte).before args s = true := by
  intro i hi
  match i, hi with
  | 0, _ => exact hs _ (by decide +kernel)
  | 1, _ => exact hs _ (by decide +kernel)
  | 2, _ => exact hs _ (by decide +kernel)
  | 3, _ => exact hs _ (by decide +kernel)
  | 4, _ => exact hs _ (by decide +kernel)
  | 5, _ => exact hs _ (by decide +kernel)
  | n + 6, h => omega
theorem st_le {args : Array Value} {s : State} (hs : ∀ c ∈ flatC (Jvm.Cond.and given_1 narrow_1), c.before args s = true) : ∀ i, i < 6 → (Cond.eq (.length (.field ((fun i => Term.string "FencedStates$Reader" (stI i)) i) "java/lang/String" "value" "[B")) (.int (Int32.ofNat (stL.getD i 0)))).before args s = true := by
  intro i hi
  match i, hi with
  | 0, _ => exact hs _ (by decide +kernel)
  | 1, _ => exact hs _ (by decide +kernel)
  | 2, _ => exact hs _ (by decide +kernel)
  | 3, _ => exact hs _ (by decide +kernel)
  | 4, _ => exact hs _ (by decide +kernel)
  | 5, _ => exact hs _ (by decide +kernel)
  | n + 6, h => omega
theorem st_el {args : Array Value} {s : State} (hs : ∀ c ∈ flatC (Jvm.Cond.and given_1 narrow_1), c.before args s = true) : ∀ i, i < 6 → ∀ j, j < stL.getD i 0 → (Cond.eq (.elem (.field ((fun i => Term.string "FencedStates$Reader" (stI i)) i) "java/lang/String" "value" "[B") (.int (Int32.ofNat j))) (.int ((stB.getD i []).getD j 0))).before args s = true := by
  intro i hi j hj
  match i, hi, j, hj with
  | 0, _, 0, _ => exact hs _ (by decide +kernel)
  | 0, _, 1, _ => exact hs _ (by decide +kernel)
  | 0, _, 2, _ => exact hs _ (by decide +kernel)
  | 0, _, 3, _ => exact hs _ (by decide +kernel)
  | 0, _, 4, _ => exact hs _ (by decide +kernel)
  | 0, _, 5, _ => exact hs _ (by decide +kernel)
  | 0, _, 6, _ => exact hs _ (by decide +kernel)
  | 0, _, m + 7, h => exact absurd h (by show ¬ (m + 7 < 7); omega)
  | 1, _, 0, _ => exact hs _ (by decide +kernel)
  | 1, _, 1, _ => exact hs _ (by decide +kernel)
  | 1, _, 2, _ => exact hs _ (by decide +kernel)
  | 1, _, 3, _ => exact hs _ (by decide +kernel)
  | 1, _, m + 4, h => exact absurd h (by show ¬ (m + 4 < 4); omega)
  | 2, _, 0, _ => exact hs _ (by decide +kernel)
  | 2, _, 1, _ => exact hs _ (by decide +kernel)
  | 2, _, 2, _ => exact hs _ (by decide +kernel)
  | 2, _, m + 3, h => exact absurd h (by show ¬ (m + 3 < 3); omega)
  | 3, _, 0, _ => exact hs _ (by decide +kernel)
  | 3, _, 1, _ => exact hs _ (by decide +kernel)
  | 3, _, 2, _ => exact hs _ (by decide +kernel)
  | 3, _, 3, _ => exact hs _ (by decide +kernel)
  | 3, _, m + 4, h => exact absurd h (by show ¬ (m + 4 < 4); omega)
  | 4, _, 0, _ => exact hs _ (by decide +kernel)
  | 4, _, 1, _ => exact hs _ (by decide +kernel)
  | 4, _, 2, _ => exact hs _ (by decide +kernel)
  | 4, _, m + 3, h => exact absurd h (by show ¬ (m + 3 < 3); omega)
  | 5, _, 0, _ => exact hs _ (by decide +kernel)
  | 5, _, 1, _ => exact hs _ (by decide +kernel)
  | 5, _, 2, _ => exact hs _ (by decide +kernel)
  | 5, _, 3, _ => exact hs _ (by decide +kernel)
  | 5, _, 4, _ => exact hs _ (by decide +kernel)
  | 5, _, 5, _ => exact hs _ (by decide +kernel)
  | 5, _, 6, _ => exact hs _ (by decide +kernel)
  | 5, _, m + 7, h => exact absurd h (by show ¬ (m + 7 < 7); omega)
  | n + 6, h, _, _ => omega
theorem st_ne {args : Array Value} {s : State} (hs : ∀ c ∈ flatC (Jvm.Cond.and given_1 narrow_1), c.before args s = true) : ∀ i j, i < 6 → j < 6 → i ≠ j → (Cond.not (Cond.eq ((fun i => Term.string "FencedStates$Reader" (stI i)) i) ((fun i => Term.string "FencedStates$Reader" (stI i)) j))).before args s = true ∨ (Cond.not (Cond.eq ((fun i => Term.string "FencedStates$Reader" (stI i)) j) ((fun i => Term.string "FencedStates$Reader" (stI i)) i))).before args s = true := by
  intro i j hi hj hij
  match i, hi, j, hj with
  | 0, _, 0, _ => exact absurd rfl hij
  | 0, _, 1, _ => exact Or.inl (hs _ (by decide +kernel))
  | 0, _, 2, _ => exact Or.inl (hs _ (by decide +kernel))
  | 0, _, 3, _ => exact Or.inl (hs _ (by decide +kernel))
  | 0, _, 4, _ => exact Or.inl (hs _ (by decide +kernel))
  | 0, _, 5, _ => exact Or.inl (hs _ (by decide +kernel))
  | 0, _, m + 6, h => omega
  | 1, _, 0, _ => exact Or.inr (hs _ (by decide +kernel))
  | 1, _, 1, _ => exact absurd rfl hij
  | 1, _, 2, _ => exact Or.inl (hs _ (by decide +kernel))
  | 1, _, 3, _ => exact Or.inl (hs _ (by decide +kernel))
  | 1, _, 4, _ => exact Or.inl (hs _ (by decide +kernel))
  | 1, _, 5, _ => exact Or.inl (hs _ (by decide +kernel))
  | 1, _, m + 6, h => omega
  | 2, _, 0, _ => exact Or.inr (hs _ (by decide +kernel))
  | 2, _, 1, _ => exact Or.inr (hs _ (by decide +kernel))
  | 2, _, 2, _ => exact absurd rfl hij
  | 2, _, 3, _ => exact Or.inl (hs _ (by decide +kernel))
  | 2, _, 4, _ => exact Or.inl (hs _ (by decide +kernel))
  | 2, _, 5, _ => exact Or.inl (hs _ (by decide +kernel))
  | 2, _, m + 6, h => omega
  | 3, _, 0, _ => exact Or.inr (hs _ (by decide +kernel))
  | 3, _, 1, _ => exact Or.inr (hs _ (by decide +kernel))
  | 3, _, 2, _ => exact Or.inr (hs _ (by decide +kernel))
  | 3, _, 3, _ => exact absurd rfl hij
  | 3, _, 4, _ => exact Or.inl (hs _ (by decide +kernel))
  | 3, _, 5, _ => exact Or.inl (hs _ (by decide +kernel))
  | 3, _, m + 6, h => omega
  | 4, _, 0, _ => exact Or.inr (hs _ (by decide +kernel))
  | 4, _, 1, _ => exact Or.inr (hs _ (by decide +kernel))
  | 4, _, 2, _ => exact Or.inr (hs _ (by decide +kernel))
  | 4, _, 3, _ => exact Or.inr (hs _ (by decide +kernel))
  | 4, _, 4, _ => exact absurd rfl hij
  | 4, _, 5, _ => exact Or.inr (hs _ (by decide +kernel))
  | 4, _, m + 6, h => omega
  | 5, _, 0, _ => exact Or.inr (hs _ (by decide +kernel))
  | 5, _, 1, _ => exact Or.inr (hs _ (by decide +kernel))
  | 5, _, 2, _ => exact Or.inr (hs _ (by decide +kernel))
  | 5, _, 3, _ => exact Or.inr (hs _ (by decide +kernel))
  | 5, _, 4, _ => exact Or.inl (hs _ (by decide +kernel))
  | 5, _, 5, _ => exact absurd rfl hij
  | 5, _, m + 6, h => omega
  | n + 6, h, _, _ => omega
set_option maxRecDepth 100000 in
set_option maxHeartbeats 4000000 in
theorem gx_start {s : State} {b : Nat} (hts : ∀ w ∈ lw_tbl, w.before #[Value.ref b] s = true) (hgv : (Jvm.Cond.and given_1 narrow_1).before #[Value.ref b] s = true) : ∃ X : GX, X.2.2.1 = s.heap.size ∧ gx_K X s := by
  have hs := flat_of_before _ hgv
  have htg : ∀ w ∈ lw_gd, w.before #[Value.ref b] s = true := fun w h => hts w (lw_sub w h)
  obtain ⟨c0, iS0, hKn0⟩ := u_known (C := RX0) (T := TX0) (N := 2) (n := 2) htg iw_X0 (hts (.instantiable "FencedStates$Activities" 2) (List.mem_of_getElem? (i := 310) (by decide +kernel)))
  obtain ⟨c1, iS1, hKn1⟩ := u_known (C := RX1) (T := TX1) (N := 2) (n := 2) htg iw_X1 (hts (.instantiable "FencedStates$Chooser" 2) (List.mem_of_getElem? (i := 411) (by decide +kernel)))
  obtain ⟨c2, iS2, hKn2⟩ := u_known (C := RX2) (T := TX2) (N := 4) (n := 4) htg iw_X2 (hts (.instantiable "FencedStates$CubeRow" 4) (List.mem_of_getElem? (i := 273) (by decide +kernel)))
  obtain ⟨c3, iS3, hKn3⟩ := u_known (C := RX5) (T := TX5) (N := 7) (n := 7) htg iw_X5 (hts (.instantiable "FencedStates$Machine" 7) (List.mem_of_getElem? (i := 220) (by decide +kernel)))
  obtain ⟨c4, iS4, hKn4⟩ := u_known (C := RX6) (T := TX6) (N := 2) (n := 2) htg iw_X6 (hts (.instantiable "FencedStates$Obligations" 2) (List.mem_of_getElem? (i := 295) (by decide +kernel)))
  obtain ⟨c5, iS5, hKn5⟩ := u_known (C := RX7) (T := TX7) (N := 15) (n := 15) htg iw_X7 (hts (.instantiable "FencedStates$Reader" 15) (List.mem_of_getElem? (i := 160) (by decide +kernel)))
  obtain ⟨c6, iS6, hKn6⟩ := u_known (C := RX8) (T := TX8) (N := 15) (n := 15) htg iw_X8 (hts (.instantiable "FencedStates$Search" 15) (List.mem_of_getElem? (i := 267) (by decide +kernel)))
  obtain ⟨c7, iS7, hKn7⟩ := u_known (C := RX10) (T := TX10) (N := 5) (n := 5) htg iw_X10 (hts (.instantiable "FencedStates$World" 5) (List.mem_of_getElem? (i := 258) (by decide +kernel)))
  obtain ⟨c8, iS8, hKn8⟩ := u_known (C := RX11) (T := TX11) (N := 13) (n := 13) htg iw_X11 (hts (.instantiable "FencedStates" 13) (List.mem_of_getElem? (i := 152) (by decide +kernel)))
  obtain ⟨c9, iS9, hKn9⟩ := u_known (C := RX12) (T := TX12) (N := 33) (n := 33) htg iw_X12 (hts (.instantiable "FencedStatesModel" 33) (List.mem_of_getElem? (i := 1396) (by decide +kernel)))
  obtain ⟨dC, dI, hKc⟩ : ∃ (dC : Nat → ClassId) (dI : Nat → Nat → Nat), ∀ (k : Nat) (q : vw_C), vwCl[k]? = some q → u_Kn s q.1 q.2.1 q.2.2 (dC k) (dI k) := by
    refine ⟨fun k => match k with | 0 => c0 | 1 => c1 | 2 => c2 | 3 => c3 | 4 => c4 | 5 => c5 | 6 => c6 | 7 => c7 | 8 => c8 | _ => c9, fun k => match k with | 0 => iS0 | 1 => iS1 | 2 => iS2 | 3 => iS3 | 4 => iS4 | 5 => iS5 | 6 => iS6 | 7 => iS7 | 8 => iS8 | _ => iS9, ?_⟩
    intro k q hq
    match k, hq with
    | 0, hq => cases hq; exact hKn0
    | 1, hq => cases hq; exact hKn1
    | 2, hq => cases hq; exact hKn2
    | 3, hq => cases hq; exact hKn3
    | 4, hq => cases hq; exact hKn4
    | 5, hq => cases hq; exact hKn5
    | 6, hq => cases hq; exact hKn6
    | 7, hq => cases hq; exact hKn7
    | 8, hq => cases hq; exact hKn8
    | 9, hq => cases hq; exact hKn9
    | k + 10, hq => cases hq
  obtain ⟨aI, fI, gI⟩ := arr_prim (hts (.arrayClass .int) (List.mem_of_getElem? (i := 214) (by decide +kernel)))
  obtain ⟨aJ, fJ, gJ⟩ := arr_prim (hts (.arrayClass .long) (List.mem_of_getElem? (i := 215) (by decide +kernel)))
  obtain ⟨aF, fF, gF⟩ := arr_prim (hts (.arrayClass .float) (List.mem_of_getElem? (i := 323) (by decide +kernel)))
  obtain ⟨aB, fB, gB⟩ := arr_prim (hts (.arrayClass .byte) (List.mem_of_getElem? (i := 213) (by decide +kernel)))
  obtain ⟨aM, fM, gM⟩ := arr_obj (hts (.arrayOver (.object "FencedStates$Machine")) (List.mem_of_getElem? (i := 264) (by decide +kernel)))
  obtain ⟨aS, fS, gS⟩ := arr_obj (hts (.arrayOver (.object "FencedStates$Search")) (List.mem_of_getElem? (i := 266) (by decide +kernel)))
  have hA : ∀ a : Nat, a < s.heap.size → ¬ (fun q : Nat => s.heap.size ≤ q) a := fun a h => Nat.not_le.mpr h
  obtain ⟨tL, htL, hTL⟩ := va_Tof (tm := Term.static "FencedStates" "LETTER_SETS" "[J") (ty := .long) (N := 6) (f := fun k => .long (LSv k)) (A := fun q : Nat => s.heap.size ≤ q) (by decide) (hs _ (by decide +kernel)) (eq_val (hs (.eq (.length (.static "FencedStates" "LETTER_SETS" "[J")) (.int 6)) (by decide +kernel)) rfl) (fun j hj => by
    match j, hj with
    | 0, _ => exact eq_val (hs (.eq (.elem (.static "FencedStates" "LETTER_SETS" "[J") (.int 0)) (.long (-6148914691236517206))) (by decide +kernel)) rfl
    | 1, _ => exact eq_val (hs (.eq (.elem (.static "FencedStates" "LETTER_SETS" "[J") (.int 1)) (.long (-3689348814741910324))) (by decide +kernel)) rfl
    | 2, _ => exact eq_val (hs (.eq (.elem (.static "FencedStates" "LETTER_SETS" "[J") (.int 2)) (.long (-1085102592571150096))) (by decide +kernel)) rfl
    | 3, _ => exact eq_val (hs (.eq (.elem (.static "FencedStates" "LETTER_SETS" "[J") (.int 3)) (.long (-71777214294589696))) (by decide +kernel)) rfl
    | 4, _ => exact eq_val (hs (.eq (.elem (.static "FencedStates" "LETTER_SETS" "[J") (.int 4)) (.long (-281470681808896))) (by decide +kernel)) rfl
    | 5, _ => exact eq_val (hs (.eq (.elem (.static "FencedStates" "LETTER_SETS" "[J") (.int 5)) (.long (-4294967296))) (by decide +kernel)) rfl
    | n + 6, h => omega) hA
  have hZL := va_Zof (hts (.laysStatic "FencedStates" "LETTER_SETS" "[J") (List.mem_of_getElem? (i := 491) (by decide +kernel))) (hts (.initialized "FencedStates") (List.mem_of_getElem? (i := 125) (by decide +kernel))) htL hA
  have hZC := va_Zof (hts (.laysStatic "java/lang/String" "COMPACT_STRINGS" "Z") (List.mem_of_getElem? (i := 522) (by decide +kernel))) (hts (.initialized "java/lang/String") (List.mem_of_getElem? (i := 137) (by decide +kernel))) (va_eqi (hs (.eq (.static "java/lang/String" "COMPACT_STRINGS" "Z") (.int 1)) (by decide +kernel))) hA
  have hZF := va_Zqof (hts (.laysStatic "jdk/internal/util/Preconditions" "SIOOBE_FORMATTER" "Ljava/util/function/BiFunction;") (List.mem_of_getElem? (i := 538) (by decide +kernel))) (hts (.initialized "jdk/internal/util/Preconditions") (List.mem_of_getElem? (i := 139) (by decide +kernel))) (hs (.isRef (.static "jdk/internal/util/Preconditions" "SIOOBE_FORMATTER" "Ljava/util/function/BiFunction;")) (by decide +kernel)) hA
  obtain ⟨fm, hZM⟩ : ∃ fm : Option Nat, va_Z "jdk/internal/util/Preconditions" "SIOOBE_FORMATTER" "Ljava/util/function/BiFunction;" (va_rf fm) (fun q : Nat => s.heap.size ≤ q) s s.heap := by
    rcases hZF with h | ⟨t, h⟩
    · exact ⟨none, h⟩
    · exact ⟨some t, h⟩
  obtain ⟨adK, adV, hVS, hVE⟩ := vk_Sof (tm := fun i => Term.string "FencedStates$Reader" (stI i)) (N := 6) (len := stL) (byt := stB) (A := fun q : Nat => s.heap.size ≤ q) (fun i _ => Nat.lt_trans (stL_small i) (by decide)) (st_ex hs) (st_co hs) (st_ar hs) (st_le hs) (st_el hs) (st_ne hs) hA
  have hVR : ∀ k, k < 6 → vk_R "FencedStates$Reader" (stI k) (stT k) (adK k) s := by
    intro k hk
    refine vk_R.of (A := #[Value.ref b]) ?_ (hVE k hk)
    match k, hk with
    | 0, _ => exact hts (.stringRef "FencedStates$Reader" 150 "letters") (List.mem_of_getElem? (i := 509) (by decide +kernel))
    | 1, _ => exact hts (.stringRef "FencedStates$Reader" 155 "init") (List.mem_of_getElem? (i := 561) (by decide +kernel))
    | 2, _ => exact hts (.stringRef "FencedStates$Reader" 156 "bad") (List.mem_of_getElem? (i := 562) (by decide +kernel))
    | 3, _ => exact hts (.stringRef "FencedStates$Reader" 158 "next") (List.mem_of_getElem? (i := 563) (by decide +kernel))
    | 4, _ => exact hts (.stringRef "FencedStates$Reader" 182 "|^&") (List.mem_of_getElem? (i := 661) (by decide +kernel))
    | 5, _ => exact hts (.stringRef "FencedStates$Reader" 135 "()!&^|;") (List.mem_of_getElem? (i := 575) (by decide +kernel))
    | n + 6, h => omega
  refine ⟨((dC, dI), fun ty => match ty with | .int => aI | .long => aJ | .float => aF | .byte => aB | .object C => if C = "FencedStates$Machine" then aM else aS | _ => aI, s.heap.size, tL, adK, adV, fm), rfl, ⟨hKc, fun k q hk => ?_⟩, Nat.le_refl _, hZL, hTL, ⟨hVS, hVR, hZC, hZM⟩, va_AO.of (hts (.arrayOver (.object "FencedStates$Machine")) (List.mem_of_getElem? (i := 264) (by decide +kernel))), va_AO.of (hts (.arrayOver (.object "FencedStates$Search")) (List.mem_of_getElem? (i := 266) (by decide +kernel))), va_Nw.of rfl (hts (.fieldLinkNest "FencedStates$Reader" 64 "FencedStates" "LETTER_SETS" "[J" "FencedStates") (List.mem_of_getElem? (i := 490) (by decide +kernel))), va_Nw.of rfl (hts (.fieldLinkNest "FencedStates$Cubes" 24 "FencedStates" "LETTER_SETS" "[J" "FencedStates") (List.mem_of_getElem? (i := 839) (by decide +kernel))), va_Nw.of rfl (hts (.castable "[J" "java/lang/Cloneable") (List.mem_of_getElem? (i := 703) (by decide +kernel))), va_Nw.of rfl (hts (.castable "[I" "java/lang/Cloneable") (List.mem_of_getElem? (i := 748) (by decide +kernel)))⟩
  match k, hk with
  | 0, hk => cases hk; exact ⟨gI, fI⟩
  | 1, hk => cases hk; exact ⟨gJ, fJ⟩
  | 2, hk => cases hk; exact ⟨gF, fF⟩
  | 3, hk => cases hk; exact ⟨gB, fB⟩
  | 4, hk => cases hk; exact ⟨fM, gM⟩
  | 5, hk => cases hk; exact ⟨fS, gS⟩
  | k + 6, hk => cases hk
/-- THE CLAIM OUT OF WHAT THE PURE FUNCTIONS DO -/
theorem whole_of {p : Program} {e : Env} {s : State} {m : MethodId} {below : List Frame} {meth : Method} {c : Code} (l : Launch) {b L : Nat} {xs : Nat → Int32} (C0 : lw_At p s m meth c b L xs) (hpure : ∃ q, m_L_law L xs s.heap.size (fun _ => none) = some q ∧ q.2.2.1 ≤ 600000 ∧ q.2.2.2 ≤ 7302249) : W p l e room_1 s m #[Value.ref b] below meth c s.heap [] 0 0 (lw_Z below #[Value.ref b] s) (entryFrame m ([Value.ref b] : List Value).toArray 4) := by
  obtain ⟨hx, hb, hr, hml, hown, hts, hX, hbl, hlocks, hgv⟩ := C0
  obtain ⟨X, hbase, hK⟩ := gx_start hts hgv
  obtain ⟨q, hq, hk1, hk2⟩ := hpure
  have C : Cx (X, 4, p, l, e, room_1, s, m, #[Value.ref b], below, meth, c, lw_Z below #[Value.ref b] s) RL cL_law 4 74 2873 := ⟨rfl, hx, hb, hml, hown, fun w h => hts w (lw_sub w h), hK, by decide, by decide, hlocks⟩
  have HX : Scr (X, 4, p, l, e, room_1, s, m, #[Value.ref b], below, meth, c, lw_Z below #[Value.ref b] s) b L xs := ⟨hX, hbl, by show ¬ X.2.2.1 ≤ b; rw [hbase]; omega⟩
  have HQ : LawQ (X, 4, p, l, e, room_1, s, m, #[Value.ref b], below, meth, c, lw_Z below #[Value.ref b] s) b := ⟨rfl, rfl, rfl, hr, by rw [hbase]; exact Nat.le_refl _⟩
  have h := c_L_law (nx := s.heap.size) (kS := 600000 - q.2.2.1) (sS := 7302249 - q.2.2.2) (ce := fun _ => none) C HX HQ hq
  have hE := lv_entry ([.ref b]) (n := 4) (Nat.le_of_ble_eq_true rfl)
  rw [lg_entry_eq]
  exact h s.heap [] 0 0 _ ⟨rfl, by rw [hbase]; exact Nat.le_refl _, fun a e h => by cases h⟩ va_S.rf (by show 0 + (600000 - q.2.2.1 + q.2.2.1) = 600000; omega) (by show 0 + (7302249 - q.2.2.2 + q.2.2.2) = 7302249; omega) hE
