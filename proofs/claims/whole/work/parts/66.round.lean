/-! the class: a round -/
section RD
variable {h : aH} {b : Nat} {C : nC}
/-- a delivery -/
def dvN (C : nC) (l : Nat) : Nat := fateN C (C 12 l 1) (C 12 l 5) (C 12 l 6)
def dvL (C : nC) (l : Nat) : nC := upK C 12 l (w10 (C 12 l 0) (C 12 l 1) (C 12 l 2) (C 12 l 4) (C 12 l 5) (C 12 l 6) (C 12 l 7) (C 12 l 8 ^^^ C 12 l 5) 0)
def dvF (C : nC) (l : Nat) : nC := upK (dvL C l) 13 l (up (C 13 l) (dvN C l) (C 13 l (dvN C l) + 1))
def dvC (C : nC) (l : Nat) : nC := if C 12 l 9 = 0 then C else if dvN C l = 1 then accC (dvF C l) (C 12 l 1) (C 12 l 5) (C 12 l 6) else dvF C l
def dvB (C : nC) (l : Nat) : Bool := decide (C 12 l 9 ≠ 0 ∧ dvN C l = 1)
theorem fateN_le (C : nC) (v a p : Nat) : 1 ≤ fateN C v a p ∧ fateN C v a p ≤ 3 := by
  unfold fateN
  split
  · omega
  · split <;> omega
theorem c_deliver {l : Nat} (hl : l < 20) (hv : C 12 l 1 < 10) (h9 : C 12 l 9 < 2 ^ 31) (hs : C 4 (C 12 l 1) 2 ≤ 8) (hroom : C 12 l 9 ≠ 0 → dvN C l = 1 → C 4 (C 12 l 1) 2 < 8) (hL : ∀ i, i < 8 → C 5 (C 12 l 1) i < 256) (hP : C 12 l 9 ≠ 0 → ∀ t, rd (C 5 (C 12 l 1)) (C 6 (C 12 l 1)) 8 (C 12 l 5) 0 = some t → t < 2 ^ 31) (h5 : C 12 l 9 ≠ 0 → C 12 l 5 < 256) : run 11 0 [.ref (lkA b l), .ref (ndA b (C 12 l 1)), .null] [] (NH h b C) = some (some (.int (bI (dvB C l))), NH h b (dvC C l)) := by
  unfold dvB dvC
  by_cases c : C 12 l 9 = 0
  · simp (disch := omega) only [s11_0, s11_1, s11_4, s11_7, s11_8, gf0, gf1, gf2, gf3, gf4, gf5, gf6, gf7, gf8, gf9, gf10, gf11, gf12, gf13, gf14, pu0, pu1, pu2, pu3, pu4, pu5, pu6, pu7, pu8, pu9, pu10, pu11, pu12, pu13, pu14, rc_at, bK_some, Option.toList_some, Option.toList_none, List.cons_append, List.nil_append, NH_l hl, nI_eq0, c, if_true, true_or, z01_0, ne_eq, not_true_eq_false, false_and, decide_false, bI_f]
  · have k3 : ∀ k v, k ≠ 12 → dvL C l k v = C k v := fun k v hk => upK_k hk
    have k12 : ∀ k, k ≠ 13 → dvF C l k = dvL C l k := fun k hk => by funext v; exact upK_k hk
    have ef : fateN (dvL C l) (C 12 l 1) (C 12 l 5) (C 12 l 6) = dvN C l := by
      unfold dvN fateN
      rw [k3 5 _ (by decide), k3 6 _ (by decide), k3 11 _ (by decide), k3 4 _ (by decide)]
    have F := c_fateOf (h := h) (b := b) (C := dvL C l) hv (a := C 12 l 5) (p := C 12 l 6) (by rw [k3 4 _ (by decide)]; exact hs) (by rw [k3 5 _ (by decide)]; exact hL) (by rw [k3 5 _ (by decide), k3 6 _ (by decide)]; exact hP c) (h5 c)
    rw [ef] at F
    have hf := fateN_le C (C 12 l 1) (C 12 l 5) (C 12 l 6)
    have hd : 1 ≤ dvN C l ∧ dvN C l ≤ 3 := hf
    have e12 : dvL C l 12 l = w10 (C 12 l 0) (C 12 l 1) (C 12 l 2) (C 12 l 4) (C 12 l 5) (C 12 l 6) (C 12 l 7) (C 12 l 8 ^^^ C 12 l 5) 0 := upK_same _ _ _ _
    have e13 : dvL C l 13 l = C 13 l := upK_k (by decide)
    have st : run 11 0 [.ref (lkA b l), .ref (ndA b (C 12 l 1)), .null] [] (NH h b C) = run 11 50 [.ref (lkA b l), .ref (ndA b (C 12 l 1)), .int (nI (dvN C l))] [] (NH h b (dvF C l)) := by
      have e0 : upK C 12 l (w10 (C 12 l 0) (C 12 l 1) (C 12 l 2) (C 12 l 4) (C 12 l 5) (C 12 l 6) (C 12 l 7) (C 12 l 8 ^^^ C 12 l 5) 0) = dvL C l := rfl
      simp (disch := omega) only [s11_0, s11_1, s11_4, s11_7, s11_8, s11_9, s11_10, s11_11, s11_14, s11_15, s11_16, s11_19, s11_20, s11_23, s11_24, s11_27, s11_28, s11_29, s11_32, s11_33, s11_36, s11_39, s11_40, s11_41, s11_44, s11_45, s11_46, s11_47, s11_48, s11_49, gf0, gf1, gf2, gf3, gf4, gf5, gf6, gf7, gf8, gf9, gf10, gf11, gf12, gf13, gf14, pu0, pu1, pu2, pu3, pu4, pu5, pu6, pu7, pu8, pu9, pu10, pu11, pu12, pu13, pu14, rc_at, bK_some, Option.toList_some, Option.toList_none, List.cons_append, List.nil_append, NH_l hl, NH_n hv, nI_eq0, c, if_false, NH_sl hl, pf19_0, upK_same, upK_upK, w10_0, w10_1, w10_2, w10_4, w10_5, w10_6, w10_7, w10_8, w10_9, nI_xor, e0, F, NH_f hl, NH_sf hl, al_N, as_N, nI_adds, e13, dvF, e12]
    rw [st]
    by_cases c1 : dvN C l = 1
    · have e5 : dvF C l 12 l = dvL C l 12 l := by rw [k12 12 (by decide)]
      have A := c_accept (h := h) (b := b) (C := dvF C l) hv (a := C 12 l 5) (p := C 12 l 6) (by rw [k12 4 (by decide), k3 4 _ (by decide)]; exact hroom c c1) (by rw [k12 5 (by decide)]; intro i hi; rw [k3 5 _ (by decide)]; exact hL i hi) (h5 c)
      simp (disch := omega) only [s11_50, s11_51, s11_52, s11_57, s11_58, s11_59, s11_62, s11_63, s11_66, s11_69, s11_70, gf0, gf1, gf2, gf3, gf4, gf5, gf6, gf7, gf8, gf9, gf10, gf11, gf12, gf13, gf14, pu0, pu1, pu2, pu3, pu4, pu5, pu6, pu7, pu8, pu9, pu10, pu11, pu12, pu13, pu14, rc_at, bK_some, Option.toList_some, Option.toList_none, List.cons_append, List.nil_append, NH_l hl, NH_n hv, nI_eqs, c1, if_true, e5, e12, w10_5, w10_6, A, z01_1, c, ne_eq, not_false_eq_true, and_self, decide_true, bI_t, if_false]
    · simp (disch := omega) only [s11_50, s11_51, s11_52, s11_55, s11_56, nI_eqs, c1, if_false, z01_0, if_true, c, and_false, decide_false, bI_f]
end RD
