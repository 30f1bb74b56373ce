/-! the class: links, and the small methods of a network -/
theorem w10_0 {a b c e f g i j k : Nat} : w10 a b c e f g i j k 0 = a := rfl
theorem w10_1 {a b c e f g i j k : Nat} : w10 a b c e f g i j k 1 = b := rfl
theorem w10_2 {a b c e f g i j k : Nat} : w10 a b c e f g i j k 2 = c := rfl
theorem w10_4 {a b c e f g i j k : Nat} : w10 a b c e f g i j k 4 = e := rfl
theorem w10_5 {a b c e f g i j k : Nat} : w10 a b c e f g i j k 5 = f := rfl
theorem w10_6 {a b c e f g i j k : Nat} : w10 a b c e f g i j k 6 = g := rfl
theorem w10_7 {a b c e f g i j k : Nat} : w10 a b c e f g i j k 7 = i := rfl
theorem w10_8 {a b c e f g i j k : Nat} : w10 a b c e f g i j k 8 = j := rfl
theorem w10_9 {a b c e f g i j k : Nat} : w10 a b c e f g i j k 9 = k := rfl
theorem w9_0 {a c e g i k : Nat} : w9 a c e g i k 0 = a := rfl
theorem w9_2 {a c e g i k : Nat} : w9 a c e g i k 2 = c := rfl
theorem w9_4 {a c e g i k : Nat} : w9 a c e g i k 4 = e := rfl
theorem w9_6 {a c e g i k : Nat} : w9 a c e g i k 6 = g := rfl
theorem w9_7 {a c e g i k : Nat} : w9 a c e g i k 7 = i := rfl
theorem w9_8 {a c e g i k : Nat} : w9 a c e g i k 8 = k := rfl
section LK
variable {h : aH} {b : Nat} {C : nC}
def fgL (C : nC) (l : Nat) : nC := upK (upK C 13 l (cp8 4 (fun _ => 0) (C 13 l))) 12 l (w10 (C 12 l 0) (C 12 l 1) (C 12 l 2) 0 NON 0 0 0 0)
theorem c_forgetL {l : Nat} (hl : l < 20) : run 8 0 [.ref (lkA b l)] [] (NH h b C) = some (none, NH h b (fgL C l)) := by
  have F := k_fill (NH_f (h := h) (b := b) (C := C) hl) (by decide) 0
  rw [NH_sf hl] at F
  have e : upK C 13 l (cp8 4 (fun _ => 0) (C 13 l)) 12 l = C 12 l := upK_k (by decide)
  simp (disch := omega) only [s8_0, s8_1, s8_4, s8_5, s8_8, s8_9, s8_10, s8_13, s8_14, s8_16, s8_19, s8_20, s8_21, s8_24, s8_25, s8_26, s8_29, s8_30, s8_31, s8_34, s8_35, s8_36, s8_39, gf0, gf1, gf2, gf3, gf4, gf5, gf6, gf7, gf8, gf9, gf10, gf11, gf12, gf13, gf14, pu0, pu1, pu2, pu3, pu4, pu5, pu6, pu7, pu8, pu9, pu10, pu11, pu12, pu13, pu14, rc_at, bK_some, Option.toList_some, Option.toList_none, List.cons_append, List.nil_append, NH_l hl, F, m4, NH_sl hl, pf19_0, upK_same, upK_upK, w10_0, w10_1, w10_2, w10_4, w10_5, w10_6, w10_7, w10_8, w10_9, e, fgL]
/-- a sum sent over a link -/
def losN (n s : Nat) : Bool := decide (0 < s) && decide (nI n - nI n / nI s * nI s = 0)
def arrN (C : nC) (l : Nat) : Nat := if losN (C 12 l 4 + 1) (C 12 l 2) = true then 0 else 1
def cyL (C : nC) (l a p : Nat) : nC :=
  let C1 := upK C 12 l (w10 (C 12 l 0) (C 12 l 1) (C 12 l 2) (C 12 l 4 + 1) a p (C 12 l 7 ^^^ a) (C 12 l 8) (arrN C l))
  if arrN C l = 0 then upK C1 13 l (up (C 13 l) 0 (C 13 l 0 + 1)) else C1
theorem c_carry {l a p : Nat} (hl : l < 20) (hs : C 12 l 2 < 2 ^ 31) : run 10 0 [.ref (lkA b l), .int (nI a), .int (nI p)] [] (NH h b C) = some (none, NH h b (cyL C l a p)) := by
  simp (disch := omega) only [s10_0, s10_1, s10_2, s10_5, s10_6, s10_7, s10_10, s10_11, s10_12, s10_15, s10_16, s10_17, s10_20, s10_21, s10_22, s10_25, s10_26, s10_27, s10_30, s10_31, s10_32, s10_35, gf0, gf1, gf2, gf3, gf4, gf5, gf6, gf7, gf8, gf9, gf10, gf11, gf12, gf13, gf14, pu0, pu1, pu2, pu3, pu4, pu5, pu6, pu7, pu8, pu9, pu10, pu11, pu12, pu13, pu14, rc_at, bK_some, Option.toList_some, Option.toList_none, List.cons_append, List.nil_append, NH_l hl, NH_sl hl, upK_same, upK_upK, w10_0, w10_1, w10_2, w10_4, w10_5, w10_6, w10_7, w10_8, w10_9, nI_xor, nI_adds, nI_gt0]
  have e13 : ∀ f, upK C 12 l f 13 l = C 13 l := fun f => upK_k (by decide)
  unfold cyL arrN losN
  by_cases c : 0 < C 12 l 2
  · have c' : ¬ C 12 l 2 = 0 := by omega
    by_cases c2 : nI (C 12 l 4 + 1) - nI (C 12 l 4 + 1) / nI (C 12 l 2) * nI (C 12 l 2) = 0
    · simp (disch := omega) only [c, if_true, s10_38, s10_39, s10_42, s10_43, s10_46, s10_47, s10_50, s10_51, s10_54, s10_55, s10_58, s10_59, s10_62, s10_65, s10_66, s10_69, s10_70, s10_71, s10_72, s10_73, s10_74, s10_75, gf0, gf1, gf2, gf3, gf4, gf5, gf6, gf7, gf8, gf9, gf10, gf11, gf12, gf13, gf14, pu0, pu1, pu2, pu3, pu4, pu5, pu6, pu7, pu8, pu9, pu10, pu11, pu12, pu13, pu14, rc_at, bK_some, Option.toList_some, Option.toList_none, List.cons_append, List.nil_append, NH_l hl, NH_sl hl, NH_f hl, NH_sf hl, pf19_0, upK_same, upK_upK, w10_0, w10_1, w10_2, w10_4, w10_5, w10_6, w10_7, w10_8, w10_9, nI_eq0, c', if_false, c2, al_N, as_N, nI_adds, e13, decide_true, Bool.and_self]
    · simp (disch := omega) only [c, if_true, s10_38, s10_39, s10_42, s10_43, s10_46, s10_47, s10_50, s10_51, s10_54, s10_55, s10_58, s10_59, s10_62, s10_75, gf0, gf1, gf2, gf3, gf4, gf5, gf6, gf7, gf8, gf9, gf10, gf11, gf12, gf13, gf14, pu0, pu1, pu2, pu3, pu4, pu5, pu6, pu7, pu8, pu9, pu10, pu11, pu12, pu13, pu14, rc_at, bK_some, Option.toList_some, Option.toList_none, List.cons_append, List.nil_append, NH_l hl, NH_sl hl, pf19_1, upK_same, upK_upK, w10_0, w10_1, w10_2, w10_4, w10_5, w10_6, w10_7, w10_8, w10_9, nI_eq0, c', if_false, c2, Nat.one_ne_zero, decide_false, Bool.and_false, Bool.false_eq_true]
  · simp (disch := omega) only [c, if_false, s10_50, s10_51, s10_54, s10_55, s10_58, s10_59, s10_62, gf0, gf1, gf2, gf3, gf4, gf5, gf6, gf7, gf8, gf9, gf10, gf11, gf12, gf13, gf14, pu0, pu1, pu2, pu3, pu4, pu5, pu6, pu7, pu8, pu9, pu10, pu11, pu12, pu13, pu14, rc_at, bK_some, Option.toList_some, Option.toList_none, List.cons_append, List.nil_append, NH_l hl, NH_sl hl, pf19_1, upK_same, upK_upK, w10_0, w10_1, w10_2, w10_4, w10_5, w10_6, w10_7, w10_8, w10_9, nI_eq0, Nat.one_ne_zero, s10_75, decide_false, Bool.false_and, Bool.false_eq_true]
/-- random numbers -/
def rsN (s : Nat) : Nat := (1103515245 * s + 12345) % 2147483648
theorem rsN_lt (s : Nat) : rsN s < 2 ^ 31 := Nat.mod_lt _ (by decide)
def rnC (C : nC) : nC := upK C 0 0 (w9 (C 0 0 0) (C 0 0 2) (C 0 0 4) (rsN (C 0 0 6)) (C 0 0 7) (C 0 0 8))
theorem c_random {n : Nat} (h4 : C 0 0 6 < 2 ^ 31) (hb : 0 < n) (hb2 : n < 2 ^ 31) : run 29 0 [.ref b, .int (nI n)] [] (NH h b C) = some (some (.int (nI (rsN (C 0 0 6) / 65536 % n))), NH h b (rnC C)) := by
  have e1 : (1103515245 : Int64) = lN 1103515245 := rfl
  have e2 : (12345 : Int64) = lN 12345 := rfl
  have e3 : (2147483648 : Int64) = lN 2147483648 := rfl
  have e3' : (65536 : Int64) = lN 65536 := rfl
  have hlt : C 0 0 6 * 1103515245 + 12345 < 2 ^ 63 := by omega
  have e4 : (lN 2147483648 = 0) = False := by decide
  have e5 : (lN 65536 = 0) = False := by decide
  have e6 : (lN n = 0) = False := by
    rw [show (0 : Int64) = lN 0 from rfl]
    apply eq_false
    rw [pk_lEQ (by omega) (by decide)]
    omega
  have h5 := rsN_lt (C 0 0 6)
  have h6 : rsN (C 0 0 6) / 65536 < 2 ^ 31 := by omega
  have e9 : (C 0 0 6 * 1103515245 + 12345) % 2147483648 = rsN (C 0 0 6) := by unfold rsN; rw [Nat.mul_comm]
  have e7 : lN (rsN (C 0 0 6)) / lN 65536 = lN (rsN (C 0 0 6) / 65536) := pk_lDiv (by omega) (by decide) (by decide)
  have e8 := pk_lRem (show rsN (C 0 0 6) / 65536 < 2 ^ 63 by omega) hb (show n < 2 ^ 63 by omega)
  have hq : rsN (C 0 0 6) / 65536 % n < 2 ^ 31 := Nat.lt_trans (Nat.mod_lt _ hb) hb2
  simp (disch := omega) only [s29_0, s29_1, s29_2, s29_5, s29_8, s29_9, s29_12, s29_13, s29_16, s29_17, s29_20, s29_21, s29_24, s29_25, s29_26, s29_27, s29_30, s29_33, s29_34, s29_35, s29_36, s29_37, s29_38, gf0, gf1, gf2, gf3, gf4, gf5, gf6, gf7, gf8, gf9, gf10, gf11, gf12, gf13, gf14, pu0, pu1, pu2, pu3, pu4, pu5, pu6, pu7, pu8, pu9, pu10, pu11, pu12, pu13, pu14, rc_at, bK_some, Option.toList_some, Option.toList_none, List.cons_append, List.nil_append, NH_0, NH_so, nI_l hb2, e1, e2, e3, e3', lN_mul, lN_add, e4, if_false, pk_lRem hlt (show 0 < 2147483648 by decide) (show 2147483648 < 2 ^ 63 by decide), e9, upK_same, w9_6, nI_gt0, hb, if_true, e5, e6, e7, e8, lN_i, rnC]
theorem c_chooseAmong {n : Nat} (h4 : C 0 0 6 < 2 ^ 31) (hb : 0 < n) (hb2 : n ≤ 8) : run 30 0 [.ref b, .int (nI n)] [] (NH h b C) = some (some (.int (nI (rsN (C 0 0 6) / 65536 % (2 ^ n - 1) + 1))), NH h b (rnC C)) := by
  have hp : 2 ^ n ≤ 256 := (Nat.pow_le_pow_right (by decide) hb2 : 2 ^ n ≤ 2 ^ 8)
  have hp1 : 2 ≤ 2 ^ n := (Nat.pow_le_pow_right (by decide) hb : 2 ^ 1 ≤ 2 ^ n)
  have R := c_random (h := h) (b := b) (C := C) h4 (show 0 < 2 ^ n - 1 by omega) (show 2 ^ n - 1 < 2 ^ 31 by omega)
  simp (disch := omega) only [s30_0, s30_1, s30_2, s30_3, s30_4, s30_5, s30_6, s30_9, s30_10, s30_11, gf0, gf1, gf2, gf3, gf4, gf5, gf6, gf7, gf8, gf9, gf10, gf11, gf12, gf13, gf14, pu0, pu1, pu2, pu3, pu4, pu5, pu6, pu7, pu8, pu9, pu10, pu11, pu12, pu13, pu14, rc_at, bK_some, Option.toList_some, Option.toList_none, List.cons_append, List.nil_append, NH_0, nI_shl1, nI_sub, R, nI_adds]
end LK
