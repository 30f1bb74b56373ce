/-! the class: nodes -/
theorem sh_one {w n : Nat} (hw : w < 2 ^ 31) (hn : n < 31) : (nI w >>> (nI n &&& 31) &&& nI 1 = nI 1) = (hasN w n = true) := by
  rw [nI_shr hw (by omega), nI_and, Nat.and_one_is_mod, nI_eqs (by omega) (by decide)]
  unfold hasN
  apply propext
  rw [decide_eq_true_iff]
theorem pf36_0 {α : Type} {o : Option aC} {K : aC → Option α} : pfK 3 6 o (.int (nI 0)) K = puK 3 6 o (.int (nI 0)) K := pf_pu (by decide +kernel) (by decide +kernel)
theorem pf36_1 {α : Type} {o : Option aC} {K : aC → Option α} : pfK 3 6 o (.int (nI 1)) K = puK 3 6 o (.int (nI 1)) K := pf_pu (by decide +kernel) (by decide +kernel)
theorem pf19_0 {α : Type} {o : Option aC} {K : aC → Option α} : pfK 1 9 o (.int (nI 0)) K = puK 1 9 o (.int (nI 0)) K := pf_pu (by decide +kernel) (by decide +kernel)
theorem pf19_1 {α : Type} {o : Option aC} {K : aC → Option α} : pfK 1 9 o (.int (nI 1)) K = puK 1 9 o (.int (nI 1)) K := pf_pu (by decide +kernel) (by decide +kernel)
theorem pf03_0 {α : Type} {o : Option aC} {K : aC → Option α} : pfK 0 3 o (.int (nI 0)) K = puK 0 3 o (.int (nI 0)) K := pf_pu (by decide +kernel) (by decide +kernel)
theorem pf03_1 {α : Type} {o : Option aC} {K : aC → Option α} : pfK 0 3 o (.int (nI 1)) K = puK 0 3 o (.int (nI 1)) K := pf_pu (by decide +kernel) (by decide +kernel)
section ND
variable {h : aH} {b : Nat} {C : nC}
theorem c_sumOf {v y t : Nat} {F : Nat → Nat} (hv : v < 10) (hy : hget (NH h b C) y = some (r8 F)) (hs : C 4 v 2 ≤ 8) (ht : t < 2 ^ 31) : run 44 0 [.ref (ndA b v), .ref y, .int (nI t), .null, .null] [] (NH h b C) = some (some (.int (nI (xsN F t (C 4 v 2)))), NH h b C) := by
  have key : ∀ m, m ≤ C 4 v 2 → run 44 5 [.ref (ndA b v), .ref y, .int (nI t), .int (nI 0), .int (nI 0)] [] (NH h b C) = run 44 5 [.ref (ndA b v), .ref y, .int (nI t), .int (nI (xsN F t m)), .int (nI m)] [] (NH h b C) := by
    intro m
    induction m with
    | zero => intro _; rfl
    | succ m ih =>
      intro hm
      rw [ih (by omega), s44_5]
      simp (disch := omega) only [s44_7, s44_8, s44_11, s44_14, s44_17, s44_19, s44_20, s44_21, s44_24, s44_25, s44_27, s44_28, s44_29, s44_30, s44_31, gf0, gf1, gf2, gf3, gf4, gf5, gf6, gf7, gf8, gf9, gf10, gf11, gf12, gf13, gf14, pu0, pu1, pu2, pu3, pu4, pu5, pu6, pu7, pu8, pu9, pu10, pu11, pu12, pu13, pu14, rc_at, bK_some, Option.toList_some, Option.toList_none, List.cons_append, List.nil_append, NH_n hv, NH_h0 hv, hy, len_8, nI_lts, show m < C 4 v 2 from by omega, show m < 8 from by omega, if_true, sh_one]
      by_cases c : hasN t m = true
      · simp (disch := omega) only [s44_34, s44_35, s44_36, s44_38, s44_39, s44_40, s44_41, s44_44, gf0, gf1, gf2, gf3, gf4, gf5, gf6, gf7, gf8, gf9, gf10, gf11, gf12, gf13, gf14, pu0, pu1, pu2, pu3, pu4, pu5, pu6, pu7, pu8, pu9, pu10, pu11, pu12, pu13, pu14, rc_at, bK_some, Option.toList_some, Option.toList_none, List.cons_append, List.nil_append, hy, c, if_true, al_8, nI_xor, nI_adds, xsN]
      · simp (disch := omega) only [s44_41, s44_44, c, if_false, nI_adds, xsN, Nat.xor_zero, Bool.false_eq_true]
  simp only [s44_0, s44_1, s44_2, s44_3]
  rw [key _ (Nat.le_refl _), s44_5]
  simp (disch := omega) only [s44_7, s44_8, s44_11, s44_14, s44_47, s44_48, gf0, gf1, gf2, gf3, gf4, gf5, gf6, gf7, gf8, gf9, gf10, gf11, gf12, gf13, gf14, pu0, pu1, pu2, pu3, pu4, pu5, pu6, pu7, pu8, pu9, pu10, pu11, pu12, pu13, pu14, rc_at, bK_some, Option.toList_some, Option.toList_none, List.cons_append, List.nil_append, NH_n hv, NH_h0 hv, nI_lts, Nat.lt_irrefl, if_false]
theorem c_vectorOf {v t : Nat} (hv : v < 10) (hs : C 4 v 2 ≤ 8) (ht : t < 2 ^ 31) : run 42 0 [.ref (ndA b v), .int (nI t)] [] (NH h b C) = some (some (.int (nI (xsN (C 10 v) t (C 4 v 2)))), NH h b C) := by
  have S := c_sumOf (h := h) (b := b) (C := C) hv (NH_v hv) hs ht
  simp (disch := omega) only [s42_0, s42_1, s42_2, s42_5, s42_6, s42_9, gf0, gf1, gf2, gf3, gf4, gf5, gf6, gf7, gf8, gf9, gf10, gf11, gf12, gf13, gf14, pu0, pu1, pu2, pu3, pu4, pu5, pu6, pu7, pu8, pu9, pu10, pu11, pu12, pu13, pu14, rc_at, bK_some, Option.toList_some, Option.toList_none, List.cons_append, List.nil_append, NH_n hv, S]
theorem c_payloadOf {v t : Nat} (hv : v < 10) (hs : C 4 v 2 ≤ 8) (ht : t < 2 ^ 31) : run 43 0 [.ref (ndA b v), .int (nI t)] [] (NH h b C) = some (some (.int (nI (xsN (C 11 v) t (C 4 v 2)))), NH h b C) := by
  have S := c_sumOf (h := h) (b := b) (C := C) hv (NH_p hv) hs ht
  simp (disch := omega) only [s43_0, s43_1, s43_2, s43_5, s43_6, s43_9, gf0, gf1, gf2, gf3, gf4, gf5, gf6, gf7, gf8, gf9, gf10, gf11, gf12, gf13, gf14, pu0, pu1, pu2, pu3, pu4, pu5, pu6, pu7, pu8, pu9, pu10, pu11, pu12, pu13, pu14, rc_at, bK_some, Option.toList_some, Option.toList_none, List.cons_append, List.nil_append, NH_n hv, S]
/-- what becomes of a sum at a node: 1 new, 2 redundant, 3 conflicting -/
def fateN (C : nC) (v a p : Nat) : Nat := match rd (C 5 v) (C 6 v) 8 a 0 with
  | none => 1
  | some t => if nI (xsN (C 11 v) t (C 4 v 2)) = nI p then 2 else 3
theorem c_fateOf {v a p : Nat} (hv : v < 10) (hs : C 4 v 2 ≤ 8) (hL : ∀ i, i < 8 → C 5 v i < 256) (hP : ∀ t, rd (C 5 v) (C 6 v) 8 a 0 = some t → t < 2 ^ 31) (ha : a < 256) : run 40 0 [.ref (ndA b v), .int (nI a), .int (nI p), .null] [] (NH h b C) = some (some (.int (nI (fateN C v a p))), NH h b C) := by
  have S := c_partsOf (NH_h (h := h) (b := b) (C := C) hv) hL ha
  unfold fateN
  cases q : rd (C 5 v) (C 6 v) 8 a 0 with
  | none =>
    rw [q] at S
    simp (disch := omega) only [s40_0, s40_1, s40_4, s40_5, s40_8, s40_9, s40_10, s40_12, s40_15, s40_16, gf0, gf1, gf2, gf3, gf4, gf5, gf6, gf7, gf8, gf9, gf10, gf11, gf12, gf13, gf14, pu0, pu1, pu2, pu3, pu4, pu5, pu6, pu7, pu8, pu9, pu10, pu11, pu12, pu13, pu14, rc_at, bK_some, Option.toList_some, Option.toList_none, List.cons_append, List.nil_append, NH_n hv, NH_h0 hv, S, if_true]
  | some t =>
    rw [q] at S
    have ht := hP t q
    have Y := c_payloadOf (h := h) (b := b) (C := C) hv hs ht
    have z : (nI t = -4) = False := by
      rw [m4]
      apply eq_false
      intro e
      have := NON_ne ht
      rw [e] at this
      exact (this ▸ rfl : False)
    simp (disch := omega) only [s40_0, s40_1, s40_4, s40_5, s40_8, s40_9, s40_10, s40_12, s40_15, s40_16, s40_17, s40_18, s40_19, s40_22, s40_23, gf0, gf1, gf2, gf3, gf4, gf5, gf6, gf7, gf8, gf9, gf10, gf11, gf12, gf13, gf14, pu0, pu1, pu2, pu3, pu4, pu5, pu6, pu7, pu8, pu9, pu10, pu11, pu12, pu13, pu14, rc_at, bK_some, Option.toList_some, Option.toList_none, List.cons_append, List.nil_append, NH_n hv, NH_h0 hv, S, z, if_false, Y]
    by_cases c : nI (xsN (C 11 v) t (C 4 v 2)) = nI p
    · simp only [c, if_true, s40_26, s40_27, s40_30, s40_31]
    · simp only [c, if_false, s40_26, s40_27, s40_30, s40_31]
/-- a sum accepted -/
def accC (C : nC) (v a p : Nat) : nC :=
  upK (upK (upK (upK (upK C 10 v (up (C 10 v) (C 4 v 2) a)) 11 v (up (C 11 v) (C 4 v 2) p)) 4 v (w2 (adS (C 4 v 2) (C 5 v) (C 6 v) a).1)) 5 v (adS (C 4 v 2) (C 5 v) (C 6 v) a).2.1) 6 v (adS (C 4 v 2) (C 5 v) (C 6 v) a).2.2
theorem c_accept {v a p : Nat} (hv : v < 10) (hs : C 4 v 2 < 8) (hL : ∀ i, i < 8 → C 5 v i < 256) (ha : a < 256) : run 41 0 [.ref (ndA b v), .int (nI a), .int (nI p), .null] [] (NH h b C) = some (none, NH h b (accC C v a p)) := by
  have S := c_add (NH_h (h := h) (b := b) (C := upK (upK C 10 v (up (C 10 v) (C 4 v 2) a)) 11 v (up (C 11 v) (C 4 v 2) p)) hv) (by simpa [upK] using hL) (by simp [upK]; omega) ha
  rw [NH_sh hv] at S
  have e4 : upK (upK C 10 v (up (C 10 v) (C 4 v 2) a)) 11 v (up (C 11 v) (C 4 v 2) p) 4 v = C 4 v := by rw [upK_k (by decide), upK_k (by decide)]
  have e5 : upK (upK C 10 v (up (C 10 v) (C 4 v 2) a)) 11 v (up (C 11 v) (C 4 v 2) p) 5 v = C 5 v := by rw [upK_k (by decide), upK_k (by decide)]
  have e6 : upK (upK C 10 v (up (C 10 v) (C 4 v 2) a)) 11 v (up (C 11 v) (C 4 v 2) p) 6 v = C 6 v := by rw [upK_k (by decide), upK_k (by decide)]
  have e11 : upK C 10 v (up (C 10 v) (C 4 v 2) a) 11 v = C 11 v := upK_k (by decide)
  rw [e4, e5, e6] at S
  simp (disch := omega) only [s41_0, s41_1, s41_4, s41_7, s41_8, s41_9, s41_11, s41_14, s41_15, s41_16, s41_19, s41_20, s41_21, s41_22, s41_23, s41_26, s41_27, s41_28, s41_29, s41_30, s41_33, s41_34, s41_37, gf0, gf1, gf2, gf3, gf4, gf5, gf6, gf7, gf8, gf9, gf10, gf11, gf12, gf13, gf14, pu0, pu1, pu2, pu3, pu4, pu5, pu6, pu7, pu8, pu9, pu10, pu11, pu12, pu13, pu14, rc_at, bK_some, Option.toList_some, Option.toList_none, List.cons_append, List.nil_append, NH_n hv, NH_h0 hv, NH_v hv, NH_p hv, nI_lts, hs, if_true, as_8, NH_sv hv, NH_sp hv, e11, e4, S, accC]
theorem c_solved {v k : Nat} (hv : v < 10) (hs : C 4 v 2 ≤ 8) (hL : ∀ i, i < 8 → C 5 v i < 256) (hP : ∀ t, rd (C 5 v) (C 6 v) 8 (2 ^ k) 0 = some t → t < 2 ^ 31) (hk : k < 8) : run 45 0 [.ref (ndA b v), .int (nI k), .null] [] (NH h b C) = some (some (.int (match rd (C 5 v) (C 6 v) 8 (2 ^ k) 0 with | none => -4 | some t => nI (xsN (C 11 v) t (C 4 v 2)))), NH h b C) := by
  have ha : 2 ^ k < 256 := (Nat.pow_lt_pow_right (by decide) hk : 2 ^ k < 2 ^ 8)
  have S := c_partsOf (NH_h (h := h) (b := b) (C := C) hv) hL ha
  cases q : rd (C 5 v) (C 6 v) 8 (2 ^ k) 0 with
  | none =>
    rw [q] at S
    simp (disch := omega) only [s45_0, s45_1, s45_4, s45_5, s45_6, s45_7, s45_10, s45_11, s45_12, s45_14, s45_17, s45_19, s45_22, s45_23, s45_24, s45_27, gf0, gf1, gf2, gf3, gf4, gf5, gf6, gf7, gf8, gf9, gf10, gf11, gf12, gf13, gf14, pu0, pu1, pu2, pu3, pu4, pu5, pu6, pu7, pu8, pu9, pu10, pu11, pu12, pu13, pu14, rc_at, bK_some, Option.toList_some, Option.toList_none, List.cons_append, List.nil_append, NH_n hv, NH_h0 hv, nI_shl1, S, if_true]
  | some t =>
    rw [q] at S
    have ht := hP t q
    have Y := c_payloadOf (h := h) (b := b) (C := C) hv hs ht
    have z : (nI t = -4) = False := by
      rw [m4]
      apply eq_false
      intro e
      have := NON_ne ht
      rw [e] at this
      exact (this ▸ rfl : False)
    simp (disch := omega) only [s45_0, s45_1, s45_4, s45_5, s45_6, s45_7, s45_10, s45_11, s45_12, s45_14, s45_17, s45_19, s45_22, s45_23, s45_24, s45_27, gf0, gf1, gf2, gf3, gf4, gf5, gf6, gf7, gf8, gf9, gf10, gf11, gf12, gf13, gf14, pu0, pu1, pu2, pu3, pu4, pu5, pu6, pu7, pu8, pu9, pu10, pu11, pu12, pu13, pu14, rc_at, bK_some, Option.toList_some, Option.toList_none, List.cons_append, List.nil_append, NH_n hv, NH_h0 hv, nI_shl1, S, z, if_false, Y]
theorem c_withholds {v : Nat} (p : Nat) (hv : v < 10) (hL : ∀ i, i < 8 → C 5 v i < 256) (hM : ∀ i, i < 8 → C 8 v i < 256) : run 46 0 [.ref (ndA b v), .int (nI p)] [] (NH h b C) = some (some (.int (bI (anyN (fun i => oddN (C 5 v i) p) 8 && !anyN (fun i => oddN (C 8 v i) p) 8))), NH h b C) := by
  have S1 := c_hasOdd (NH_h (h := h) (b := b) (C := C) hv) hL p
  have S2 := c_hasOdd (NH_s (h := h) (b := b) (C := C) hv) hM p
  simp (disch := omega) only [s46_0, s46_1, s46_4, s46_5, s46_8, gf0, gf1, gf2, gf3, gf4, gf5, gf6, gf7, gf8, gf9, gf10, gf11, gf12, gf13, gf14, pu0, pu1, pu2, pu3, pu4, pu5, pu6, pu7, pu8, pu9, pu10, pu11, pu12, pu13, pu14, rc_at, bK_some, Option.toList_some, Option.toList_none, List.cons_append, List.nil_append, NH_n hv, NH_h0 hv, S1, bI_0]
  cases anyN (fun i => oddN (C 5 v i) p) 8
  · simp only [if_true, s46_26, s46_27, z01_0, Bool.false_and, bI_f]
  · simp (disch := omega) only [Bool.true_eq_false, if_false, s46_11, s46_12, s46_15, s46_16, s46_19, gf0, gf1, gf2, gf3, gf4, gf5, gf6, gf7, gf8, gf9, gf10, gf11, gf12, gf13, gf14, pu0, pu1, pu2, pu3, pu4, pu5, pu6, pu7, pu8, pu9, pu10, pu11, pu12, pu13, pu14, rc_at, bK_some, Option.toList_some, Option.toList_none, List.cons_append, List.nil_append, NH_n hv, NH_s0 hv, S2, bI_0]
    cases anyN (fun i => oddN (C 8 v i) p) 8
    · simp only [if_true, s46_22, s46_23, s46_26, s46_27, z01_1, Bool.true_and, Bool.not_false, bI_t]
    · simp only [Bool.true_eq_false, if_false, if_true, s46_26, s46_27, z01_0, Bool.true_and, Bool.not_true, bI_f]
/-- a node that forgets -/
def fgC (C : nC) (v : Nat) : nC :=
  upK (upK (upK (upK (upK (upK (upK C 4 v (w2 0)) 5 v (cp8 8 (fun _ => 0) (C 5 v))) 6 v (cp8 8 (fun _ => 0) (C 6 v))) 7 v (w2 0)) 8 v (cp8 8 (fun _ => 0) (C 8 v))) 9 v (cp8 8 (fun _ => 0) (C 9 v))) 3 v (w3 (C 3 v 4) 0 0)
theorem c_forgetN {v : Nat} (hv : v < 10) : run 38 0 [.ref (ndA b v)] [] (NH h b C) = some (none, NH h b (fgC C v)) := by
  have S1 := c_clear (NH_h (h := h) (b := b) (C := C) hv)
  rw [NH_sh hv] at S1
  generalize hC1 : upK (upK (upK C 4 v (w2 0)) 5 v (cp8 8 (fun _ => 0) (C 5 v))) 6 v (cp8 8 (fun _ => 0) (C 6 v)) = C1 at S1
  have S2 := c_clear (NH_s (h := h) (b := b) (C := C1) hv)
  rw [NH_ss hv] at S2
  have e8 : C1 8 v = C 8 v := by rw [← hC1, upK_k (by decide), upK_k (by decide), upK_k (by decide)]
  have e9 : C1 9 v = C 9 v := by rw [← hC1, upK_k (by decide), upK_k (by decide), upK_k (by decide)]
  have e3 : C1 3 v = C 3 v := by rw [← hC1, upK_k (by decide), upK_k (by decide), upK_k (by decide)]
  rw [e8, e9] at S2
  generalize hC2 : upK (upK (upK C1 7 v (w2 0)) 8 v (cp8 8 (fun _ => 0) (C 8 v))) 9 v (cp8 8 (fun _ => 0) (C 9 v)) = C2 at S2
  have e3' : C2 3 v = C 3 v := by rw [← hC2, upK_k (by decide), upK_k (by decide), upK_k (by decide), e3]
  simp (disch := omega) only [s38_0, s38_1, s38_4, s38_7, s38_8, s38_11, s38_14, s38_15, s38_16, s38_19, s38_20, s38_21, s38_24, gf0, gf1, gf2, gf3, gf4, gf5, gf6, gf7, gf8, gf9, gf10, gf11, gf12, gf13, gf14, pu0, pu1, pu2, pu3, pu4, pu5, pu6, pu7, pu8, pu9, pu10, pu11, pu12, pu13, pu14, rc_at, bK_some, Option.toList_some, Option.toList_none, List.cons_append, List.nil_append, NH_n hv, NH_h0 hv, NH_s0 hv, S1, S2, NH_sn hv, pf36_0, upK_same, upK_upK, e3']
  rw [← hC2, ← hC1]
  rfl
end ND
