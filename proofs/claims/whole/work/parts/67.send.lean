/-! the class: sending -/
section SD
variable {h : aH} {b : Nat} {C : nC}
def chN (C : nC) (v : Nat) : Nat := if C 3 v 4 = 3 then 1 else 0
def adC (C : nC) (v a : Nat) : nC := upK (upK (upK C 7 v (w2 (adS (C 7 v 2) (C 8 v) (C 9 v) a).1)) 8 v (adS (C 7 v 2) (C 8 v) (C 9 v) a).2.1) 9 v (adS (C 7 v 2) (C 8 v) (C 9 v) a).2.2
def sdV (C : nC) (v : Nat) : Nat := xsN (C 10 v) (psN C v) (C 4 v 2)
def sdP (C : nC) (v : Nat) : Nat := xsN (C 11 v) (psN C v) (C 4 v 2) ^^^ chN C v
def sdC (C : nC) (v l : Nat) : nC := adC (cyL (psC C v) l (sdV C v) (sdP C v)) v (sdV C v)
def opC (C : nC) (l : Nat) : Bool := decide (C 3 (C 12 l 0) 6 = 0) && decide (C 3 (C 12 l 1) 6 = 0)
theorem psC_k {v k : Nat} (hk : k ≠ 0) : psC C v k = C k := by
  unfold psC rnC
  split
  · rfl
  · funext v'; exact upK_k hk
theorem cyL_k {l a p k : Nat} (h1 : k ≠ 12) (h2 : k ≠ 13) : cyL C l a p k = C k := by
  unfold cyL
  split
  · funext v'; rw [upK_k h2, upK_k h1]
  · funext v'; rw [upK_k h1]
theorem psN_lt {v : Nat} (hs : C 4 v 2 ≤ 8) (h0 : 0 < C 4 v 2) : psN C v < 2 ^ 31 := by
  have key : ∀ n, 0 < n → n ≤ 8 → rsN (C 0 0 6) / 65536 % (2 ^ n - 1) + 1 < 2 ^ 31 := by
    intro n h1 h2
    have hp : 2 ^ n ≤ 256 := (Nat.pow_le_pow_right (by decide) h2 : 2 ^ n ≤ 2 ^ 8)
    have hp1 : 2 ≤ 2 ^ n := (Nat.pow_le_pow_right (by decide) h1 : 2 ^ 1 ≤ 2 ^ n)
    have := Nat.mod_lt (rsN (C 0 0 6) / 65536) (show 0 < 2 ^ n - 1 by omega)
    omega
  unfold psN
  split
  · decide
  · split
    · exact key _ (by omega) (by omega)
    · exact key _ h0 hs
/-- a network that can send from v -/
def SDok (C : nC) (v : Nat) : Prop := C 0 0 4 ≤ 20 ∧ C 0 0 6 < 2 ^ 31 ∧ (0 < C 4 v 2 ∧ C 4 v 2 ≤ 8) ∧ C 3 v 4 < 2 ^ 31 ∧ (∀ u, u < 10 → C 3 u 6 < 2 ^ 31) ∧ (∀ i, i < C 4 v 2 → C 10 v i < 2 ^ 8) ∧ (∀ i, i < 8 → C 8 v i < 256) ∧ C 7 v 2 ≤ 8 ∧ (∀ l, l < C 0 0 4 → C 12 l 0 < 10 ∧ C 12 l 1 < 10 ∧ C 12 l 2 < 2 ^ 31)
theorem c_sendStep {v l : Nat} (hv : v < 10) (hl : l < C 0 0 4) (H : SDok C v) (w5 w6 w7 : Value) : ∃ u5 u6 u7, run 32 43 [.ref b, .int (nI v), .ref (ndA b v), .int (nI (chN C v)), .int (nI l), w5, w6, w7] [] (NH h b C) = run 32 43 [.ref b, .int (nI v), .ref (ndA b v), .int (nI (chN C v)), .int (nI (l + 1)), u5, u6, u7] [] (NH h b (if C 12 l 0 = v ∧ opC C l = true then sdC C v l else C)) := by
  obtain ⟨h20, h6, hs, h4, hc, hx, hL, h7, hk⟩ := H
  have hl2 : l < 20 := by omega
  obtain ⟨a0, a1, a2⟩ := hk l hl
  have O := c_isOpen (h := h) (b := b) hl2 a0 a1 hc
  rw [s32_43]
  by_cases c1 : C 12 l 0 = v
  · cases c2 : opC C l
    · refine ⟨.ref (lkA b l), w6, w7, ?_⟩
      have O' : run 26 0 [.ref b, .ref (lkA b l)] [] (NH h b C) = some (some (.int (bI (opC C l))), NH h b C) := O
      rw [c2] at O'
      simp (disch := omega) only [s32_45, s32_46, s32_49, s32_52, s32_53, s32_56, s32_58, s32_59, s32_61, s32_63, s32_66, s32_67, s32_70, s32_71, s32_73, s32_76, s32_79, s32_121, s32_124, gf0, gf1, gf2, gf3, gf4, gf5, gf6, gf7, gf8, gf9, gf10, gf11, gf12, gf13, gf14, pu0, pu1, pu2, pu3, pu4, pu5, pu6, pu7, pu8, pu9, pu10, pu11, pu12, pu13, pu14, rc_at, bK_some, Option.toList_some, Option.toList_none, List.cons_append, List.nil_append, NH_0, NH_93, al_lk, NH_l hl2, nI_lts, hl, if_true, nI_eqs, c1, O', bI_0, nI_adds, Bool.false_eq_true, and_false, if_false]
    · have O' : run 26 0 [.ref b, .ref (lkA b l)] [] (NH h b C) = some (some (.int (bI (opC C l))), NH h b C) := O
      rw [c2] at O'
      have P := c_partsToSend (h := h) (b := b) hv h6 hs h4
      have hps := psN_lt hs.2 hs.1
      have e4 : psC C v 4 = C 4 := psC_k (by decide)
      have e10 : psC C v 10 = C 10 := psC_k (by decide)
      have e11 : psC C v 11 = C 11 := psC_k (by decide)
      have e12 : psC C v 12 = C 12 := psC_k (by decide)
      have V := c_vectorOf (h := h) (b := b) (C := psC C v) hv (by rw [e4]; exact hs.2) hps
      have Y := c_payloadOf (h := h) (b := b) (C := psC C v) hv (by rw [e4]; exact hs.2) hps
      rw [e4, e10] at V
      rw [e4, e11] at Y
      have K := c_carry (h := h) (b := b) (C := psC C v) (a := sdV C v) (p := sdP C v) hl2 (by rw [e12]; exact a2)
      have f7 : ∀ k, k ≠ 0 → k ≠ 12 → k ≠ 13 → cyL (psC C v) l (sdV C v) (sdP C v) k = C k := fun k k0 k1 k2 => by rw [cyL_k k1 k2, psC_k k0]
      have A := c_add (NH_s (h := h) (b := b) (C := cyL (psC C v) l (sdV C v) (sdP C v)) hv) (by rw [f7 8 (by decide) (by decide) (by decide)]; exact hL) (by rw [f7 7 (by decide) (by decide) (by decide)]; exact h7) (show sdV C v < 256 from xsN_lt hx)
      rw [NH_ss hv] at A
      refine ⟨.ref (lkA b l), .int (nI (psN C v)), .int (nI (sdV C v)), ?_⟩
      have eV : xsN (C 10 v) (psN C v) (C 4 v 2) = sdV C v := rfl
      have eP : xsN (C 11 v) (psN C v) (C 4 v 2) ^^^ chN C v = sdP C v := rfl
      have e3 : psC C v 3 = C 3 := psC_k (by decide)
      simp (disch := omega) only [s32_45, s32_46, s32_49, s32_52, s32_53, s32_56, s32_58, s32_59, s32_61, s32_63, s32_66, s32_67, s32_70, s32_71, s32_73, s32_76, s32_79, s32_82, s32_83, s32_84, s32_87, s32_89, s32_90, s32_92, s32_95, s32_97, s32_99, s32_101, s32_102, s32_104, s32_107, s32_108, s32_109, s32_112, s32_113, s32_116, s32_118, s32_121, s32_124, gf0, gf1, gf2, gf3, gf4, gf5, gf6, gf7, gf8, gf9, gf10, gf11, gf12, gf13, gf14, pu0, pu1, pu2, pu3, pu4, pu5, pu6, pu7, pu8, pu9, pu10, pu11, pu12, pu13, pu14, rc_at, bK_some, Option.toList_some, Option.toList_none, List.cons_append, List.nil_append, NH_0, NH_93, al_lk, NH_l hl2, NH_n hv, NH_s0 hv, nI_lts, hl, if_true, nI_eqs, c1, O', bI_0, Bool.true_eq_false, if_false, P, V, eV, Y, nI_xor, eP, K, A, nI_adds, and_self, sdC, adC]
  · refine ⟨.ref (lkA b l), w6, w7, ?_⟩
    simp (disch := omega) only [s32_45, s32_46, s32_49, s32_52, s32_53, s32_56, s32_58, s32_59, s32_61, s32_63, s32_66, s32_67, s32_121, s32_124, gf0, gf1, gf2, gf3, gf4, gf5, gf6, gf7, gf8, gf9, gf10, gf11, gf12, gf13, gf14, pu0, pu1, pu2, pu3, pu4, pu5, pu6, pu7, pu8, pu9, pu10, pu11, pu12, pu13, pu14, rc_at, bK_some, Option.toList_some, Option.toList_none, List.cons_append, List.nil_append, NH_0, NH_93, al_lk, NH_l hl2, nI_lts, hl, if_true, nI_eqs, c1, if_false, false_and, nI_adds]
end SD
