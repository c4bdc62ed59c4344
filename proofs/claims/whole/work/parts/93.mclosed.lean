/-! isClosed, doesHold -/
/-- no state of x outside y has a successor in y -/
def clsd (L : Nat) (sc : Nat → Nat → Nat) (x y : Int64) : Bool := (List.range (2 ^ L)).all fun s => !(B x s && !B y s && decide (aftN sc s 15 4 &&& y ≠ 0))
theorem sr_isClosed (c : Ce) (m : Nat) (μ : MS) {L : Nat} (hL : L < 7) (h : μ.1 0 3 = nI L) {sc : Nat → Nat → Nat} (hS : Suc (μ.1 0) L sc) (x y : Int64) : m_X12_isClosed (wr c m μ) m x y = some (if clsd L sc x y then 1 else 0) := by
  have h64 := p2_64 hL
  refine ok_eq ?_
  unfold m_X12_isClosed
  refine ok_call (P := fun o => Sum.elim (fun w => some w) (fun _ => some (1 : Int32)) o = some (if clsd L sc x y then 1 else 0)) (ok_cnt 0 (2 ^ L) (fun j s => s = nI j ∧ ∀ i, i < j → (B x i && !B y i && decide (aftN sc i 15 4 &&& y ≠ 0)) = false) (by omega) (Nat.zero_le _) ⟨rfl, fun _ h => by omega⟩ ?_ ?_) (fun a h => ok_of h rfl)
  · rintro j _ hj ⟨rfl, hl⟩
    rw [wr_rcv, bind_s, sr_states c m μ hL h, bind_s]
    refine ok_iteF (fun h => ?_) ?_
    · have := n_ge (a := 2 ^ L) (b := j) (by omega) (by omega) h
      omega
    · have e : B (x &&& (y ^^^ (-1))) j = (B x j && !B y j) := by rw [B_and, B_inv _ (by omega)]
      rw [mh_has _ (by omega : j < 64), bind_s, e]
      have nxt : (B x j && !B y j && decide (aftN sc j 15 4 &&& y ≠ 0)) = false → ∀ i, i < j + 1 → (B x i && !B y i && decide (aftN sc i 15 4 &&& y ≠ 0)) = false := by
        intro hj2 i hi
        by_cases hq : i = j
        · rw [hq]; exact hj2
        · exact hl i (by omega)
      cases hb : (B x j && !B y j) with
      | false =>
        refine ok_iteT rfl (ok_some ⟨nI_1 j, nxt ?_⟩)
        rw [hb]
        rfl
      | true =>
        refine ok_iteF (by decide) ?_
        rw [bind_s, sr_after c m μ hL hS hj, bind_s]
        by_cases h0 : aftN sc j 15 4 &&& y = 0
        · refine ok_iteT (lcmp_0.mpr h0) (ok_some ⟨nI_1 j, nxt ?_⟩)
          simp [h0]
        · refine ok_iteF (fun q => h0 (lcmp_0.mp q)) (ok_some ?_)
          show some (0 : Int32) = some (if clsd L sc x y then 1 else 0)
          have hn : clsd L sc x y = false := by
            unfold clsd
            rw [List.all_eq_false]
            refine ⟨j, List.mem_range.mpr hj, ?_⟩
            rw [hb]
            simp [h0]
          rw [hn]
          rfl
  · rintro _ ⟨rfl, hl⟩
    rw [wr_rcv, bind_s, sr_states c m μ hL h, bind_s]
    refine ok_iteT (Int32.le_refl _) (ok_some ?_)
    show some (1 : Int32) = some (if clsd L sc x y then 1 else 0)
    have hy : clsd L sc x y = true := by
      unfold clsd
      rw [List.all_eq_true]
      intro j hj
      rw [hl j (List.mem_range.mp hj)]
      rfl
    rw [hy]
    rfl
