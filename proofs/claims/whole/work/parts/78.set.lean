/-! the class: the settings -/
theorem ite_in {α : Type} {x lo hi : Int32} {A B : α} : (if x < lo then A else if hi < x then A else B) = if inI x lo hi = true then B else A := by
  unfold inI
  by_cases c1 : x < lo <;> by_cases c2 : hi < x <;> simp [c1, c2]
theorem ite_in0 {α : Type} {x hi : Int32} {A B : α} : (if x < 0 then A else if hi < x then A else B) = if inI x (nI 0) hi = true then B else A := by
  rw [n0]; exact ite_in
theorem gBegin_same {g : Nat → Nat} {j : Nat} (hk : g 0 ≤ 8) (h : (j < 24 ∧ j ≠ 3) ∨ (214 ≤ j ∧ j < 434 ∧ (j - 214) % 11 < 3)) : gBegin g j = g j := by
  rw [← gB2_F hk, up_ne (by omega)]
  simp only [gB2]
  rw [if_neg (by omega), if_neg (by omega)]
  exact gF_same (by omega)
theorem gBegin_0 {g : Nat → Nat} {j : Nat} (hk : g 0 ≤ 8) (h : (24 ≤ j ∧ j < 54 ∧ j ≠ 44) ∨ (434 ≤ j ∧ j < 2994)) : gBegin g j = 0 := by
  rw [← gB2_F hk, up_ne (by omega)]
  simp only [gB2]
  rw [if_neg (by omega), if_neg (by omega)]
  exact gF_0 (by omega)
theorem gBegin_44 {g : Nat → Nat} (hk : g 0 ≤ 8) : gBegin g 44 = g 0 := by
  rw [← gB2_F hk, up_ne (by omega)]
  simp only [gB2]
  rw [if_neg (by omega), if_pos trivial]
theorem gBegin_v {g : Nat → Nat} {i : Nat} (hk : g 0 ≤ 8) (hi : i < g 0) : gBegin g (54 + 2 * i) = 2 ^ i := by
  rw [← gB2_F hk, up_ne (by omega)]
  simp only [gB2]
  rw [if_pos (by omega), if_pos (by omega)]
  congr 1
  omega
/-- what a state keeps to in which a generation can begin -/
def WB (g : Nat → Nat) : Prop := (2 ≤ g 0 ∧ g 0 ≤ 8) ∧ (3 ≤ g 1 ∧ g 1 ≤ 10) ∧ g 2 ≤ 20 ∧ (∀ l, l < g 2 → g (214 + 11 * l) < g (215 + 11 * l) ∧ g (215 + 11 * l) < g 1 ∧ g (216 + 11 * l) ≤ 9) ∧ g 4 < 2 ^ 31 ∧ (1 ≤ g 5 ∧ g 5 ≤ 9) ∧ (∀ v, v < 10 → g (14 + v) ≤ 4) ∧ g 14 = 0
theorem WF.wb {g : Nat → Nat} (hw : WF g) : WB g := ⟨hw.1, hw.2.1, hw.2.2.1, hw.2.2.2.1, hw.2.2.2.2.1, hw.2.2.2.2.2.1, fun v hv => (hw.2.2.2.2.2.2.1 v hv).1, hw.2.2.2.2.2.2.2.2.2⟩
theorem WB.begin {g : Nat → Nat} (hw : WB g) : WF (gBegin g) := by
  obtain ⟨h0, h1, h2, h3, h4, h5, h6, h7⟩ := hw
  have hk := h0.2
  have e0 : gBegin g 0 = g 0 := gBegin_same hk (by omega)
  have e1 : gBegin g 1 = g 1 := gBegin_same hk (by omega)
  have e2 : gBegin g 2 = g 2 := gBegin_same hk (by omega)
  have e4 : gBegin g 4 = g 4 := gBegin_same hk (by omega)
  have e5 : gBegin g 5 = g 5 := gBegin_same hk (by omega)
  unfold WF
  rw [e0, e1, e2, e4, e5]
  refine ⟨h0, h1, h2, ?_, h4, h5, ?_, ?_, ?_, ?_⟩
  · intro l hl
    rw [gBegin_same hk (j := 214 + 11 * l) (by omega), gBegin_same hk (j := 215 + 11 * l) (by omega), gBegin_same hk (j := 216 + 11 * l) (by omega)]
    exact h3 l hl
  · intro v hv
    rw [gBegin_same hk (j := 14 + v) (by omega), gBegin_0 hk (j := 34 + v) (by omega)]
    refine ⟨h6 v hv, by omega, ?_⟩
    by_cases z : v = 0
    · subst z; rw [gBegin_44 hk]; omega
    · rw [gBegin_0 hk (by omega)]; omega
  · intro v i hv hi
    by_cases z : v = 0
    · subst z
      rw [gBegin_44 hk] at hi
      rw [show 54 + 16 * 0 + 2 * i = 54 + 2 * i from by omega, gBegin_v hk hi]
      exact Nat.pow_lt_pow_right (by decide) hi
    · rw [gBegin_0 hk (j := 44 + v) (by omega)] at hi
      omega
  · intro j hj
    rw [gBegin_0 hk (by omega)]
    omega
  · rw [gBegin_same hk (by omega)]; exact h7
section ST
variable {h : aH} {b x n : Nat}
theorem c_resetPayloads {C : nC} : ∃ F, run 15 0 [.ref b, .null] [] (NH h b C) = some (none, NH h b (upK C 1 0 F)) ∧ ∀ i, i < 8 → F i = 17 * (i + 1) := by
  have key : ∀ m, m ≤ 8 → ∃ F, run 15 2 [.ref b, .int (nI 0)] [] (NH h b (upK C 1 0 (C 1 0))) = run 15 2 [.ref b, .int (nI m)] [] (NH h b (upK C 1 0 F)) ∧ ∀ i, i < m → F i = 17 * (i + 1) := by
    intro m
    induction m with
    | zero => intro _; exact ⟨C 1 0, rfl, fun i hi => absurd hi (Nat.not_lt_zero _)⟩
    | succ m ih =>
      intro hm
      obtain ⟨F, e1, e2⟩ := ih (by omega)
      refine ⟨up F m (17 * (m + 1)), ?_, fun i hi => ?_⟩
      · rw [e1, s15_2]
        simp (disch := omega) only [s15_3, s15_5, s15_8, s15_9, s15_12, s15_13, s15_15, s15_16, s15_17, s15_18, s15_19, s15_20, s15_23, gf0, gf1, gf2, gf3, gf4, gf5, gf6, gf7, gf8, gf9, gf10, gf11, gf12, gf13, gf14, pu0, pu1, pu2, pu3, pu4, pu5, pu6, pu7, pu8, pu9, pu10, pu11, pu12, pu13, pu14, rc_at, bK_some, Option.toList_some, Option.toList_none, List.cons_append, List.nil_append, NH_0, NH_1, NH_s1, upK_same, upK_upK, nI_lts, show m < 8 from by omega, if_true, as_8, nI_adds, nI_mul]
      · by_cases z : i = m
        · subst z; rw [up_same]
        · rw [up_ne z]; exact e2 i (by omega)
  have e0 : upK C 1 0 (C 1 0) = C := by
    funext k v
    unfold upK
    split
    · rename_i z; rw [z.1, z.2]
    · rfl
  obtain ⟨F, e1, e2⟩ := key 8 (Nat.le_refl _)
  rw [e0] at e1
  refine ⟨F, ?_, e2⟩
  simp only [s15_0, s15_1]
  rw [e1, s15_2]
  simp (disch := omega) only [s15_3, s15_5, s15_26, nI_lts, Nat.lt_irrefl, if_false]
theorem c_honest {C : nC} : ∃ D, run 16 0 [.ref b, .null] [] (NH h b C) = some (none, NH h b D) ∧ (∀ k u, k ≠ 3 → D k u = C k u) ∧ ∀ v, v < 10 → D 3 v 4 = 0 := by
  have key : ∀ m, m ≤ 10 → ∃ D, run 16 2 [.ref b, .int (nI 0)] [] (NH h b C) = run 16 2 [.ref b, .int (nI m)] [] (NH h b D) ∧ (∀ k u, k ≠ 3 → D k u = C k u) ∧ ∀ v, v < m → D 3 v 4 = 0 := by
    intro m
    induction m with
    | zero => intro _; exact ⟨C, rfl, fun _ _ _ => rfl, fun i hi => absurd hi (Nat.not_lt_zero _)⟩
    | succ m ih =>
      intro hm
      obtain ⟨D, e1, e2, e3⟩ := ih (by omega)
      refine ⟨upK D 3 m (w3 0 (D 3 m 5) (D 3 m 6)), ?_, fun k u hk => ?_, fun v hv => ?_⟩
      · rw [e1, s16_2]
        simp (disch := omega) only [s16_3, s16_5, s16_8, s16_9, s16_12, s16_13, s16_14, s16_15, s16_18, s16_21, gf0, gf1, gf2, gf3, gf4, gf5, gf6, gf7, gf8, gf9, gf10, gf11, gf12, gf13, gf14, pu0, pu1, pu2, pu3, pu4, pu5, pu6, pu7, pu8, pu9, pu10, pu11, pu12, pu13, pu14, rc_at, bK_some, Option.toList_some, Option.toList_none, List.cons_append, List.nil_append, NH_0, NH_2, al_nd, NH_n (show m < 10 by omega), NH_sn (show m < 10 by omega), nI_lts, show m < 10 from by omega, if_true, nI_adds]
      · rw [upK_k hk]; exact e2 k u hk
      · by_cases z : v = m
        · subst z; rw [upK_same]; rfl
        · rw [upK_v z]; exact e3 v (by omega)
  obtain ⟨D, e1, e2, e3⟩ := key 10 (Nat.le_refl _)
  refine ⟨D, ?_, e2, e3⟩
  simp only [s16_0, s16_1]
  rw [e1, s16_2]
  simp (disch := omega) only [s16_3, s16_5, s16_24, nI_lts, Nat.lt_irrefl, if_false]
/-- a link put behind the others -/
def plC (C : nC) (a e l : Nat) : nC := upK (upK C 12 (C 0 0 4) (w10 a e l (C 12 (C 0 0 4) 4) (C 12 (C 0 0 4) 5) (C 12 (C 0 0 4) 6) (C 12 (C 0 0 4) 7) (C 12 (C 0 0 4) 8) (C 12 (C 0 0 4) 9))) 0 0 (w9 (C 0 0 0) (C 0 0 2) (C 0 0 4 + 1) (C 0 0 6) (C 0 0 7) (C 0 0 8))
theorem c_putLink {C : nC} {a e l : Nat} (h2 : C 0 0 4 < 20) : run 18 0 [.ref b, .int (nI a), .int (nI e), .int (nI l), .null] [] (NH h b C) = some (none, NH h b (plC C a e l)) := by
  have e0 : ∀ f, upK C 12 (C 0 0 4) f 0 0 = C 0 0 := fun f => upK_k (by decide)
  simp (disch := omega) only [s18_0, s18_1, s18_4, s18_6, s18_9, s18_10, s18_11, s18_14, s18_15, s18_18, s18_19, s18_21, s18_23, s18_24, s18_27, s18_29, s18_30, s18_33, s18_35, s18_36, s18_39, s18_40, s18_41, s18_44, s18_45, s18_46, s18_49, gf0, gf1, gf2, gf3, gf4, gf5, gf6, gf7, gf8, gf9, gf10, gf11, gf12, gf13, gf14, pu0, pu1, pu2, pu3, pu4, pu5, pu6, pu7, pu8, pu9, pu10, pu11, pu12, pu13, pu14, rc_at, bK_some, Option.toList_some, Option.toList_none, List.cons_append, List.nil_append, NH_0, NH_93, al_lk, NH_l h2, NH_sl h2, NH_so, nI_lts, h2, if_true, upK_same, upK_upK, w10_0, w10_1, w10_2, w10_4, w10_5, w10_6, w10_7, w10_8, w10_9, e0, nI_adds, plC]
theorem PicB_lay {g : Nat → Nat} {C : nC} (H : PicB g C) (h2 : g 2 < 20) (a e l : Nat) : PicB (gLay g a e l) (plC C a e l) := by
  obtain ⟨⟨o0, o1, o2, o4, o5, o3, o6⟩, hN, hL⟩ := H
  have eG : ∀ j, j ≠ 2 → j ≠ 214 + 11 * g 2 → j ≠ 215 + 11 * g 2 → j ≠ 216 + 11 * g 2 → gLay g a e l j = g j := fun j h1 h2 h3 h4 => by unfold gLay; rw [up_ne h1, up_ne h4, up_ne h3, up_ne h2]
  refine ⟨⟨?_, ?_, ?_, ?_, ?_, ?_, ?_⟩, ?_, ?_⟩
  · rw [eG _ (by omega) (by omega) (by omega) (by omega)]; unfold plC; rw [upK_same]; exact o0
  · rw [eG _ (by omega) (by omega) (by omega) (by omega)]; unfold plC; rw [upK_same]; exact o1
  · unfold plC gLay; rw [upK_same, up_same, ← o2]; rfl
  · rw [eG _ (by omega) (by omega) (by omega) (by omega)]; unfold plC; rw [upK_same]; exact o4
  · rw [eG _ (by omega) (by omega) (by omega) (by omega)]; unfold plC; rw [upK_same]; exact o5
  · rw [eG _ (by omega) (by omega) (by omega) (by omega)]; unfold plC; rw [upK_same]; exact o3
  · intro i hi
    rw [eG _ (by omega) (by omega) (by omega) (by omega)]; unfold plC; rw [upK_k (by decide), upK_k (by decide)]; exact o6 i hi
  · intro v hv
    rw [eG _ (by omega) (by omega) (by omega) (by omega)]; unfold plC; rw [upK_k (by decide), upK_k (by decide)]; exact hN v hv
  · intro q hq
    by_cases z : q = g 2
    · subst z
      unfold plC
      rw [upK_k (by decide), o2, upK_same]
      unfold gLay
      refine ⟨?_, ?_, ?_⟩
      · rw [up_ne (by omega), up_ne (by omega), up_ne (by omega), up_same]; rfl
      · rw [up_ne (by omega), up_ne (by omega), up_same]; rfl
      · rw [up_ne (by omega), up_same]; rfl
    · rw [eG _ (by omega) (by omega) (by omega) (by omega), eG _ (by omega) (by omega) (by omega) (by omega), eG _ (by omega) (by omega) (by omega) (by omega)]
      unfold plC
      rw [upK_k (by decide), o2, upK_v z]
      exact hL q hq
theorem WB_lay {g : Nat → Nat} (hw : WB g) (h2 : g 2 < 20) {a e l : Nat} (h1 : a < e) (he : e < g 1) (hl : l ≤ 9) : WB (gLay g a e l) := by
  obtain ⟨w0, w1, w2, w3, w4, w5, w6, w7⟩ := hw
  have eG : ∀ j, j ≠ 2 → j ≠ 214 + 11 * g 2 → j ≠ 215 + 11 * g 2 → j ≠ 216 + 11 * g 2 → gLay g a e l j = g j := fun j h1 h2 h3 h4 => by unfold gLay; rw [up_ne h1, up_ne h4, up_ne h3, up_ne h2]
  have e2 : gLay g a e l 2 = g 2 + 1 := up_same _ _ _
  unfold WB
  rw [eG 0 (by omega) (by omega) (by omega) (by omega), eG 1 (by omega) (by omega) (by omega) (by omega), eG 4 (by omega) (by omega) (by omega) (by omega), eG 5 (by omega) (by omega) (by omega) (by omega), eG 14 (by omega) (by omega) (by omega) (by omega), e2]
  refine ⟨w0, w1, by omega, ?_, w4, w5, ?_, w7⟩
  · intro q hq
    by_cases z : q = g 2
    · subst z
      unfold gLay
      rw [up_ne (by omega), up_ne (by omega), up_ne (by omega), up_same, up_ne (by omega), up_ne (by omega), up_same, up_ne (by omega), up_same]
      exact ⟨h1, he, hl⟩
    · rw [eG (214 + 11 * q) (by omega) (by omega) (by omega) (by omega), eG (215 + 11 * q) (by omega) (by omega) (by omega) (by omega), eG (216 + 11 * q) (by omega) (by omega) (by omega) (by omega)]
      exact w3 q (by omega)
  · intro v hv
    rw [eG _ (by omega) (by omega) (by omega) (by omega)]
    exact w6 v hv
theorem PicB_beh {g : Nat → Nat} {C : nC} (H : PicB g C) {v k y z : Nat} (hv : v < 10) : PicB (up g (14 + v) k) (upK C 3 v (w3 k y z)) := by
  obtain ⟨⟨o0, o1, o2, o4, o5, o3, o6⟩, hN, hL⟩ := H
  have e0 : upK C 3 v (w3 k y z) 0 = C 0 := by funext u; exact upK_k (by decide)
  have e1 : upK C 3 v (w3 k y z) 1 = C 1 := by funext u; exact upK_k (by decide)
  have e12 : upK C 3 v (w3 k y z) 12 = C 12 := by funext u; exact upK_k (by decide)
  unfold PicB PicO
  rw [e0, e1, e12]
  refine ⟨⟨?_, ?_, ?_, ?_, ?_, ?_, ?_⟩, ?_, ?_⟩
  · rw [up_ne (by omega)]; exact o0
  · rw [up_ne (by omega)]; exact o1
  · rw [up_ne (by omega)]; exact o2
  · rw [up_ne (by omega)]; exact o4
  · rw [up_ne (by omega)]; exact o5
  · rw [up_ne (by omega)]; exact o3
  · intro i hi
    rw [up_ne (by omega)]; exact o6 i hi
  · intro u hu
    by_cases z : u = v
    · subst z; rw [up_same, upK_same]; rfl
    · rw [up_ne (by omega), upK_v z]; exact hN u hu
  · intro l hl
    rw [up_ne (by omega), up_ne (by omega), up_ne (by omega)]; exact hL l hl
theorem WB_beh {g : Nat → Nat} (hw : WB g) {v k : Nat} (h0 : 0 < v) (hv : v < 10) (hk : k ≤ 4) : WB (up g (14 + v) k) := by
  obtain ⟨w0, w1, w2, w3, w4, w5, w6, w7⟩ := hw
  unfold WB
  rw [up_ne (j := 0) (by omega), up_ne (j := 1) (by omega), up_ne (j := 2) (by omega), up_ne (j := 4) (by omega), up_ne (j := 5) (by omega), up_ne (j := 14) (by omega)]
  refine ⟨w0, w1, w2, ?_, w4, w5, ?_, w7⟩
  · intro l hl
    rw [up_ne (j := 214 + 11 * l) (by omega), up_ne (j := 215 + 11 * l) (by omega), up_ne (j := 216 + 11 * l) (by omega)]
    exact w3 l hl
  · intro u hu
    by_cases z : u = v
    · subst z; rw [up_same]; exact hk
    · rw [up_ne (by omega)]; exact w6 u hu
end ST
