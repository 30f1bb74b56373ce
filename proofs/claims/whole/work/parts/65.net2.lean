/-! the class: the small methods of a network -/
def hbI (v : Int32) (n : Nat) : Bool := decide (¬ v < 0) && decide (v < nI n)
def hrI (v : Int32) (n : Nat) : Bool := decide (0 < v) && decide (v < nI n)
theorem bI_ite (p : Prop) [Decidable p] (q : Prop) [Decidable q] : bI (decide p && decide q) = if p then (if q then nI 1 else nI 0) else nI 0 := by
  by_cases h1 : p <;> by_cases h2 : q <;> simp [h1, h2, bI]
section N2
variable {h : aH} {b : Nat} {C : nC}
theorem c_hasPacket (v : Int32) : run 19 0 [.ref b, .int v] [] (NH h b C) = some (some (.int (bI (hbI v (C 0 0 0)))), NH h b C) := by
  simp only [s19_0, s19_1, s19_4, s19_5, s19_6, s19_9, s19_12, s19_13, s19_16, s19_17, gf0, gf1, gf2, gf3, gf4, gf5, gf6, gf7, gf8, gf9, gf10, gf11, gf12, gf13, gf14, pu0, pu1, pu2, pu3, pu4, pu5, pu6, pu7, pu8, pu9, pu10, pu11, pu12, pu13, pu14, rc_at, bK_some, Option.toList_some, Option.toList_none, List.cons_append, List.nil_append, NH_0, hbI, bI_ite, z01_1, z01_0, if_true]
  by_cases h1 : v < 0 <;> by_cases h2 : v < nI (C 0 0 0) <;> simp [h1, h2]
theorem c_hasNode (v : Int32) : run 20 0 [.ref b, .int v] [] (NH h b C) = some (some (.int (bI (hbI v (C 0 0 2)))), NH h b C) := by
  simp only [s20_0, s20_1, s20_4, s20_5, s20_6, s20_9, s20_12, s20_13, s20_16, s20_17, gf0, gf1, gf2, gf3, gf4, gf5, gf6, gf7, gf8, gf9, gf10, gf11, gf12, gf13, gf14, pu0, pu1, pu2, pu3, pu4, pu5, pu6, pu7, pu8, pu9, pu10, pu11, pu12, pu13, pu14, rc_at, bK_some, Option.toList_some, Option.toList_none, List.cons_append, List.nil_append, NH_0, hbI, bI_ite, z01_1, z01_0, if_true]
  by_cases h1 : v < 0 <;> by_cases h2 : v < nI (C 0 0 2) <;> simp [h1, h2]
theorem c_hasLink (v : Int32) : run 23 0 [.ref b, .int v] [] (NH h b C) = some (some (.int (bI (hbI v (C 0 0 4)))), NH h b C) := by
  simp only [s23_0, s23_1, s23_4, s23_5, s23_6, s23_9, s23_12, s23_13, s23_16, s23_17, gf0, gf1, gf2, gf3, gf4, gf5, gf6, gf7, gf8, gf9, gf10, gf11, gf12, gf13, gf14, pu0, pu1, pu2, pu3, pu4, pu5, pu6, pu7, pu8, pu9, pu10, pu11, pu12, pu13, pu14, rc_at, bK_some, Option.toList_some, Option.toList_none, List.cons_append, List.nil_append, NH_0, hbI, bI_ite, z01_1, z01_0, if_true]
  by_cases h1 : v < 0 <;> by_cases h2 : v < nI (C 0 0 4) <;> simp [h1, h2]
theorem c_hasReceiver (v : Int32) : run 21 0 [.ref b, .int v] [] (NH h b C) = some (some (.int (bI (hrI v (C 0 0 2)))), NH h b C) := by
  simp only [s21_0, s21_1, s21_4, s21_5, s21_6, s21_9, s21_12, s21_13, s21_16, s21_17, gf0, gf1, gf2, gf3, gf4, gf5, gf6, gf7, gf8, gf9, gf10, gf11, gf12, gf13, gf14, pu0, pu1, pu2, pu3, pu4, pu5, pu6, pu7, pu8, pu9, pu10, pu11, pu12, pu13, pu14, rc_at, bK_some, Option.toList_some, Option.toList_none, List.cons_append, List.nil_append, NH_0, hrI, bI_ite, z01_1, z01_0, if_true]
  by_cases h1 : 0 < v <;> by_cases h2 : v < nI (C 0 0 2) <;> simp [h1, h2]
theorem c_allPackets (hk : C 0 0 0 ≤ 8) : run 27 0 [.ref b] [] (NH h b C) = some (some (.int (nI (2 ^ C 0 0 0 - 1))), NH h b C) := by
  have hp : 1 ≤ 2 ^ C 0 0 0 := Nat.one_le_two_pow
  simp (disch := omega) only [s27_0, s27_1, s27_2, s27_5, s27_6, s27_7, s27_8, gf0, gf1, gf2, gf3, gf4, gf5, gf6, gf7, gf8, gf9, gf10, gf11, gf12, gf13, gf14, pu0, pu1, pu2, pu3, pu4, pu5, pu6, pu7, pu8, pu9, pu10, pu11, pu12, pu13, pu14, rc_at, bK_some, Option.toList_some, Option.toList_none, List.cons_append, List.nil_append, NH_0, nI_shl1, nI_sub]
theorem c_hasProjection (hk : C 0 0 0 ≤ 8) (p : Int32) : run 25 0 [.ref b, .int p] [] (NH h b C) = some (some (.int (bI (inI p (nI 1) (nI (2 ^ C 0 0 0 - 1))))), NH h b C) := by
  simp only [s25_0, s25_1, s25_2, s25_5, s25_6, s25_7, s25_10, s25_13, s25_14, s25_17, s25_18, gf0, gf1, gf2, gf3, gf4, gf5, gf6, gf7, gf8, gf9, gf10, gf11, gf12, gf13, gf14, pu0, pu1, pu2, pu3, pu4, pu5, pu6, pu7, pu8, pu9, pu10, pu11, pu12, pu13, pu14, rc_at, bK_some, Option.toList_some, Option.toList_none, List.cons_append, List.nil_append, NH_0, c_allPackets hk, inI, bI_ite, z01_1, z01_0, if_true]
  by_cases h1 : p < nI 1 <;> by_cases h2 : nI (2 ^ C 0 0 0 - 1) < p <;> simp [h1, h2]
theorem c_isOpen {l : Nat} (hl : l < 20) (h0 : C 12 l 0 < 10) (h1 : C 12 l 1 < 10) (hc : ∀ v, v < 10 → C 3 v 6 < 2 ^ 31) : run 26 0 [.ref b, .ref (lkA b l)] [] (NH h b C) = some (some (.int (bI (decide (C 3 (C 12 l 0) 6 = 0) && decide (C 3 (C 12 l 1) 6 = 0)))), NH h b C) := by
  have a0 := hc _ h0
  have a1 := hc _ h1
  simp (disch := omega) only [s26_0, s26_1, s26_4, s26_5, s26_8, s26_9, s26_12, s26_15, s26_16, s26_19, s26_20, s26_23, s26_24, s26_27, s26_30, s26_31, s26_34, s26_35, gf0, gf1, gf2, gf3, gf4, gf5, gf6, gf7, gf8, gf9, gf10, gf11, gf12, gf13, gf14, pu0, pu1, pu2, pu3, pu4, pu5, pu6, pu7, pu8, pu9, pu10, pu11, pu12, pu13, pu14, rc_at, bK_some, Option.toList_some, Option.toList_none, List.cons_append, List.nil_append, NH_0, NH_2, NH_l hl, al_nd, NH_n h0, NH_n h1, nI_eq0, bI_ite, z01_1, z01_0, if_true]
  by_cases q0 : C 3 (C 12 l 0) 6 = 0 <;> by_cases q1 : C 3 (C 12 l 1) 6 = 0 <;> simp [q0, q1, n1]
theorem c_knowsAll {v : Nat} (hv : v < 10) (hs : C 4 v 2 < 2 ^ 31) (hk : C 0 0 0 < 2 ^ 31) : run 28 0 [.ref b, .int (nI v)] [] (NH h b C) = some (some (.int (bI (decide (C 4 v 2 = C 0 0 0)))), NH h b C) := by
  simp (disch := omega) only [s28_0, s28_1, s28_4, s28_5, s28_6, s28_9, s28_12, s28_13, s28_16, s28_19, s28_20, s28_23, s28_24, gf0, gf1, gf2, gf3, gf4, gf5, gf6, gf7, gf8, gf9, gf10, gf11, gf12, gf13, gf14, pu0, pu1, pu2, pu3, pu4, pu5, pu6, pu7, pu8, pu9, pu10, pu11, pu12, pu13, pu14, rc_at, bK_some, Option.toList_some, Option.toList_none, List.cons_append, List.nil_append, NH_0, NH_2, al_nd, NH_n hv, NH_h0 hv, nI_eqs, z01_1, z01_0, if_true]
  by_cases c : C 4 v 2 = C 0 0 0 <;> simp [c, bI]
theorem c_hasRelay (h2 : C 0 0 4 ≤ 20) (v : Int32) : run 22 0 [.ref b, .int v, .null] [] (NH h b C) = some (some (.int (bI (hrI v (C 0 0 2) && anyN (fun l => decide (nI (C 12 l 0) = v)) (C 0 0 4)))), NH h b C) := by
  have key : ∀ n, n ≤ C 0 0 4 → ∀ r : Bool, (r = true ↔ ∃ l, C 0 0 4 - n ≤ l ∧ l < C 0 0 4 ∧ nI (C 12 l 0) = v) → run 22 12 [.ref b, .int v, .int (nI (C 0 0 4 - n))] [] (NH h b C) = some (some (.int (bI r)), NH h b C) := by
    intro n
    induction n with
    | zero =>
      intro _ r hr
      have e : r = false := by
        cases r
        · rfl
        · obtain ⟨l, l1, l2, _⟩ := hr.mp rfl
          omega
      subst e
      rw [s22_12]
      simp (disch := omega) only [s22_13, s22_14, s22_17, s22_41, s22_42, gf0, gf1, gf2, gf3, gf4, gf5, gf6, gf7, gf8, gf9, gf10, gf11, gf12, gf13, gf14, pu0, pu1, pu2, pu3, pu4, pu5, pu6, pu7, pu8, pu9, pu10, pu11, pu12, pu13, pu14, rc_at, bK_some, Option.toList_some, Option.toList_none, List.cons_append, List.nil_append, NH_0, nI_lts, Nat.sub_zero, Nat.lt_irrefl, if_false, z01_0, if_true, bI_f]
    | succ n ih =>
      intro hn r hr
      rw [s22_12]
      have hl : C 0 0 4 - (n + 1) < 20 := by omega
      by_cases c : nI (C 12 (C 0 0 4 - (n + 1)) 0) = v
      · have e : r = true := hr.mpr ⟨_, Nat.le_refl _, by omega, c⟩
        subst e
        simp (disch := omega) only [s22_13, s22_14, s22_17, s22_20, s22_21, s22_24, s22_25, s22_26, s22_29, s22_30, s22_33, s22_34, gf0, gf1, gf2, gf3, gf4, gf5, gf6, gf7, gf8, gf9, gf10, gf11, gf12, gf13, gf14, pu0, pu1, pu2, pu3, pu4, pu5, pu6, pu7, pu8, pu9, pu10, pu11, pu12, pu13, pu14, rc_at, bK_some, Option.toList_some, Option.toList_none, List.cons_append, List.nil_append, NH_0, NH_93, al_lk, NH_l hl, nI_lts, show C 0 0 4 - (n + 1) < C 0 0 4 from by omega, if_true, c, z01_1, bI_t]
      · have I := ih (by omega) r (by
          rw [hr]
          constructor
          · rintro ⟨l, b1, b2, b3⟩
            refine ⟨l, ?_, b2, b3⟩
            by_cases q : l = C 0 0 4 - (n + 1)
            · subst q; exact absurd b3 c
            · omega
          · rintro ⟨l, b1, b2, b3⟩
            exact ⟨l, by omega, b2, b3⟩)
        rw [show C 0 0 4 - n = C 0 0 4 - (n + 1) + 1 from by omega] at I
        simp (disch := omega) only [s22_13, s22_14, s22_17, s22_20, s22_21, s22_24, s22_25, s22_26, s22_29, s22_30, s22_35, s22_38, gf0, gf1, gf2, gf3, gf4, gf5, gf6, gf7, gf8, gf9, gf10, gf11, gf12, gf13, gf14, pu0, pu1, pu2, pu3, pu4, pu5, pu6, pu7, pu8, pu9, pu10, pu11, pu12, pu13, pu14, rc_at, bK_some, Option.toList_some, Option.toList_none, List.cons_append, List.nil_append, NH_0, NH_93, al_lk, NH_l hl, nI_lts, show C 0 0 4 - (n + 1) < C 0 0 4 from by omega, if_true, c, if_false, nI_adds, I]
  simp only [s22_0, s22_1, s22_2, s22_5, s22_8, s22_9, s22_10, s22_11, gf0, gf1, gf2, gf3, gf4, gf5, gf6, gf7, gf8, gf9, gf10, gf11, gf12, gf13, gf14, pu0, pu1, pu2, pu3, pu4, pu5, pu6, pu7, pu8, pu9, pu10, pu11, pu12, pu13, pu14, rc_at, bK_some, Option.toList_some, Option.toList_none, List.cons_append, List.nil_append, NH_0, c_hasReceiver, bI_0]
  cases hrI v (C 0 0 2)
  · simp only [if_true, z01_0, Bool.false_and, bI_f]
  · simp only [Bool.true_eq_false, if_false, Bool.true_and]
    have K := key (C 0 0 4) (Nat.le_refl _) (anyN (fun l => decide (nI (C 12 l 0) = v)) (C 0 0 4)) (by
      rw [anyN_iff]
      constructor
      · rintro ⟨i, i1, i2⟩; exact ⟨i, by omega, i1, of_decide_eq_true i2⟩
      · rintro ⟨i, _, i1, i2⟩; exact ⟨i, i1, decide_eq_true i2⟩)
    rw [Nat.sub_self] at K
    exact K
/-- the set that a node sends, and the draw for it -/
def psN (C : nC) (v : Nat) : Nat := if C 3 v 4 = 1 then 1 else if C 3 v 4 = 2 then rsN (C 0 0 6) / 65536 % (2 ^ ((C 4 v 2 + 1) / 2) - 1) + 1 else rsN (C 0 0 6) / 65536 % (2 ^ C 4 v 2 - 1) + 1
def psC (C : nC) (v : Nat) : nC := if C 3 v 4 = 1 then C else rnC C
theorem c_partsToSend {v : Nat} (hv : v < 10) (h4 : C 0 0 6 < 2 ^ 31) (hs : 0 < C 4 v 2 ∧ C 4 v 2 ≤ 8) (hb : C 3 v 4 < 2 ^ 31) : run 33 0 [.ref b, .ref (ndA b v)] [] (NH h b C) = some (some (.int (nI (psN C v))), NH h b (psC C v)) := by
  unfold psN psC
  by_cases c1 : C 3 v 4 = 1
  · simp (disch := omega) only [s33_0, s33_1, s33_4, s33_5, s33_8, s33_9, gf0, gf1, gf2, gf3, gf4, gf5, gf6, gf7, gf8, gf9, gf10, gf11, gf12, gf13, gf14, pu0, pu1, pu2, pu3, pu4, pu5, pu6, pu7, pu8, pu9, pu10, pu11, pu12, pu13, pu14, rc_at, bK_some, Option.toList_some, Option.toList_none, List.cons_append, List.nil_append, NH_n hv, nI_eqs, c1, if_true]
  · by_cases c2 : C 3 v 4 = 2
    · have R := c_chooseAmong (h := h) (b := b) (C := C) h4 (show 0 < (C 4 v 2 + 1) / 2 by omega) (show (C 4 v 2 + 1) / 2 ≤ 8 by omega)
      have z : (nI 2 = 0) = False := by decide
      have z2 : (nI 2 = nI 1) = False := by decide
      have z3 : (2 : Nat) ≠ 1 := by decide
      simp (disch := omega) only [s33_0, s33_1, s33_4, s33_5, s33_8, s33_9, s33_10, s33_11, s33_14, s33_15, s33_18, s33_19, s33_20, s33_23, s33_26, s33_27, s33_28, s33_29, s33_30, s33_33, gf0, gf1, gf2, gf3, gf4, gf5, gf6, gf7, gf8, gf9, gf10, gf11, gf12, gf13, gf14, pu0, pu1, pu2, pu3, pu4, pu5, pu6, pu7, pu8, pu9, pu10, pu11, pu12, pu13, pu14, rc_at, bK_some, Option.toList_some, Option.toList_none, List.cons_append, List.nil_append, NH_n hv, NH_h0 hv, NH_0, nI_eqs, c2, z3, if_false, if_true, z, nI_adds, nI_div, R]
    · have R := c_chooseAmong (h := h) (b := b) (C := C) h4 hs.1 hs.2
      simp (disch := omega) only [s33_0, s33_1, s33_4, s33_5, s33_8, s33_9, s33_10, s33_11, s33_14, s33_15, s33_34, s33_35, s33_36, s33_39, s33_42, s33_45, gf0, gf1, gf2, gf3, gf4, gf5, gf6, gf7, gf8, gf9, gf10, gf11, gf12, gf13, gf14, pu0, pu1, pu2, pu3, pu4, pu5, pu6, pu7, pu8, pu9, pu10, pu11, pu12, pu13, pu14, rc_at, bK_some, Option.toList_some, Option.toList_none, List.cons_append, List.nil_append, NH_n hv, NH_h0 hv, NH_0, nI_eqs, c1, c2, if_false, R]
end N2
