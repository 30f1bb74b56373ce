/-! the class: the settings, by the model's -/
section S2T
variable {h : aH} {x n : Nat} {g : Nat → Nat} {C : nC}
theorem c_setPackets (hx : CH h x n) (H : Pic g C) (hw : WF g) (p : Int32) : ∃ C', run 62 0 [.ref x, .int p, .null] [] (NH h (x + 1) C) = some (some (.int (oSetPackets g p).1), NH h (x + 1) C') ∧ Pic (oSetPackets g p).2 C' ∧ WF (oSetPackets g p).2 := by
  have hxx := hx.at
  unfold oSetPackets
  by_cases c : inI p (nI 2) (nI 8) = true
  · obtain ⟨j, h1, h2, rfl, h3⟩ := inI_t (by decide) (by decide) c
    obtain ⟨F, r1, f1⟩ := c_resetPayloads (h := h) (b := x + 1) (C := upK C 0 0 (w9 j (C 0 0 2) (C 0 0 4) (C 0 0 6) (C 0 0 7) (C 0 0 8)))
    obtain ⟨⟨o0, o1, o2, o4, o5, o3, o6⟩, hN, hL⟩ := H.b
    have eG : ∀ i, i ≠ 0 → (i < 6 ∨ 14 ≤ i) → gFirst (up g 0 j) i = g i := fun i h0 h6 => by unfold gFirst; rw [if_neg (by omega), up_ne h0]
    have e0 : gFirst (up g 0 j) 0 = j := by unfold gFirst; rw [if_neg (by omega), up_same]
    have hB : PicB (gFirst (up g 0 j)) (upK (upK C 0 0 (w9 j (C 0 0 2) (C 0 0 4) (C 0 0 6) (C 0 0 7) (C 0 0 8))) 1 0 F) := by
      have u0 : upK (upK C 0 0 (w9 j (C 0 0 2) (C 0 0 4) (C 0 0 6) (C 0 0 7) (C 0 0 8))) 1 0 F 0 0 = w9 j (C 0 0 2) (C 0 0 4) (C 0 0 6) (C 0 0 7) (C 0 0 8) := by rw [upK_k (by decide), upK_same]
      have uk : ∀ k, 2 ≤ k → upK (upK C 0 0 (w9 j (C 0 0 2) (C 0 0 4) (C 0 0 6) (C 0 0 7) (C 0 0 8))) 1 0 F k = C k := fun k hk => by funext u; rw [upK_k (by omega), upK_k (by omega)]
      unfold PicB PicO
      rw [u0, upK_same, uk 3 (by decide), uk 12 (by decide), e0, eG 1 (by decide) (by decide), eG 2 (by decide) (by decide), eG 4 (by decide) (by decide), eG 5 (by decide) (by decide), eG 3 (by decide) (by decide)]
      refine ⟨⟨rfl, o1, o2, o4, o5, o3, fun i hi => ?_⟩, fun v hv => ?_, fun l hl => ?_⟩
      · rw [f1 i hi]
        unfold gFirst
        rw [if_pos (by omega)]
        omega
      · rw [eG _ (by omega) (by omega)]; exact hN v hv
      · rw [eG _ (by omega) (by omega), eG _ (by omega) (by omega), eG _ (by omega) (by omega)]; exact hL l hl
    obtain ⟨C', r2, p2⟩ := c_begin (h := h) (b := x + 1) hB (by rw [e0]; omega)
    refine ⟨C', ?_, ?_, ?_⟩
    · simp (disch := omega) only [s62_0, s62_1, s62_2, s62_5, s62_6, s62_8, s62_11, s62_12, s62_13, s62_14, s62_17, s62_20, s62_21, s62_22, s62_25, s62_26, s62_29, s62_30, s62_33, s62_36, s62_37, s62_40, s62_43, s62_44, gf0, gf1, gf2, gf3, gf4, gf5, gf6, gf7, gf8, gf9, gf10, gf11, gf12, gf13, gf14, pu0, pu1, pu2, pu3, pu4, pu5, pu6, pu7, pu8, pu9, pu10, pu11, pu12, pu13, pu14, rc_at, bK_some, Option.toList_some, Option.toList_none, List.cons_append, List.nil_append, hxx, NH_0, NH_so, ite_in, c, if_true, r1, r2, o0]
    · simp only [c, if_true, h3]; exact p2
    · simp only [c, if_true, h3]
      refine WB.begin ?_
      obtain ⟨w0, w1, w2, w3, w4, w5, w6, w7⟩ := hw.wb
      unfold WB
      rw [e0, eG 1 (by decide) (by decide), eG 2 (by decide) (by decide), eG 4 (by decide) (by decide), eG 5 (by decide) (by decide), eG 14 (by decide) (by decide)]
      refine ⟨⟨h1, h2⟩, w1, w2, fun l hl => ?_, w4, w5, fun v hv => ?_, w7⟩
      · rw [eG (214 + 11 * l) (by omega) (by omega), eG (215 + 11 * l) (by omega) (by omega), eG (216 + 11 * l) (by omega) (by omega)]; exact w3 l hl
      · rw [eG _ (by omega) (by omega)]; exact w6 v hv
  · refine ⟨C, ?_, by simpa [c] using H, by simpa [c] using hw⟩
    simp only [s62_0, s62_1, s62_2, s62_5, s62_6, s62_8, s62_11, s62_12, ite_in, c, if_false]
    simp
theorem c_setPayload (hx : CH h x n) (H : Pic g C) (hw : WF g) (i p : Int32) : ∃ C', run 63 0 [.ref x, .int i, .int p, .null] [] (NH h (x + 1) C) = some (some (.int (oSetPayload g i p).1), NH h (x + 1) C') ∧ Pic (oSetPayload g i p).2 C' ∧ WF (oSetPayload g i p).2 := by
  have hxx := hx.at
  have hk := hw.1
  have e0 : hbI i (C 0 0 0) = inI i (nI 0) (nI (g 0 - 1)) := by rw [H.1.1, hb_lk (by omega)]; unfold lkB; rw [nI_sub (by omega)]
  unfold oSetPayload
  by_cases ci : inI i (nI 0) (nI (g 0 - 1)) = true
  · by_cases cp : inI p (nI 0) (nI 255) = true
    · obtain ⟨j, h1, h2, rfl, h3⟩ := inI_t (by omega) (by decide) ci
      obtain ⟨k, k1, k2, rfl, k3⟩ := inI_t (by decide) (by decide) cp
      obtain ⟨⟨o0, o1, o2, o4, o5, o3, o6⟩, hN, hL⟩ := H.b
      have hB : PicB (up g (6 + j) k) (upK C 1 0 (up (C 1 0) j k)) := by
        have uk : ∀ q, q ≠ 1 → upK C 1 0 (up (C 1 0) j k) q = C q := fun q hq => by funext u; rw [upK_k hq]
        unfold PicB PicO
        rw [uk 0 (by decide), upK_same, uk 3 (by decide), uk 12 (by decide), up_ne (j := 0) (by omega), up_ne (j := 1) (by omega), up_ne (j := 2) (by omega), up_ne (j := 3) (by omega), up_ne (j := 4) (by omega), up_ne (j := 5) (by omega)]
        refine ⟨⟨o0, o1, o2, o4, o5, o3, fun q hq => ?_⟩, fun v hv => ?_, fun l hl => ?_⟩
        · by_cases z : q = j
          · subst z; rw [up_same, up_same]
          · rw [up_ne z, up_ne (by omega)]; exact o6 q hq
        · rw [up_ne (by omega)]; exact hN v hv
        · rw [up_ne (by omega), up_ne (by omega), up_ne (by omega)]; exact hL l hl
      obtain ⟨C', r2, p2⟩ := c_begin (h := h) (b := x + 1) hB (by rw [up_ne (by omega)]; omega)
      have hj8 : j < 8 := by omega
      have oj := o6 j hj8
      refine ⟨C', ?_, ?_, ?_⟩
      · simp (disch := omega) only [s63_0, s63_1, s63_4, s63_5, s63_8, s63_11, s63_12, s63_15, s63_16, s63_19, s63_22, s63_23, s63_24, s63_25, s63_28, s63_31, s63_32, s63_33, s63_34, s63_35, s63_38, s63_41, s63_42, s63_43, s63_44, s63_45, s63_48, s63_51, s63_52, gf0, gf1, gf2, gf3, gf4, gf5, gf6, gf7, gf8, gf9, gf10, gf11, gf12, gf13, gf14, pu0, pu1, pu2, pu3, pu4, pu5, pu6, pu7, pu8, pu9, pu10, pu11, pu12, pu13, pu14, rc_at, bK_some, Option.toList_some, Option.toList_none, List.cons_append, List.nil_append, hxx, NH_0, NH_1, NH_s1, c_hasPacket, e0, ci, cp, bI_0, ite_in0, Bool.true_eq_false, if_false, if_true, al_8, as_8, r2, oj, and_self, h3]
      · simp only [ci, cp, and_self, if_true, h3, k3]; exact p2
      · simp only [ci, cp, and_self, if_true, h3, k3]
        refine WB.begin ?_
        obtain ⟨w0, w1, w2, w3, w4, w5, w6, w7⟩ := hw.wb
        unfold WB
        rw [up_ne (j := 0) (by omega), up_ne (j := 1) (by omega), up_ne (j := 2) (by omega), up_ne (j := 4) (by omega), up_ne (j := 5) (by omega), up_ne (j := 14) (by omega)]
        refine ⟨w0, w1, w2, fun l hl => ?_, w4, w5, fun v hv => ?_, w7⟩
        · rw [up_ne (j := 214 + 11 * l) (by omega), up_ne (j := 215 + 11 * l) (by omega), up_ne (j := 216 + 11 * l) (by omega)]; exact w3 l hl
        · rw [up_ne (by omega)]; exact w6 v hv
    · refine ⟨C, ?_, by simpa [ci, cp] using H, by simpa [ci, cp] using hw⟩
      simp (disch := omega) only [s63_0, s63_1, s63_4, s63_5, s63_8, s63_11, s63_12, s63_15, s63_16, s63_19, s63_22, s63_23, gf0, gf1, gf2, gf3, gf4, gf5, gf6, gf7, gf8, gf9, gf10, gf11, gf12, gf13, gf14, pu0, pu1, pu2, pu3, pu4, pu5, pu6, pu7, pu8, pu9, pu10, pu11, pu12, pu13, pu14, rc_at, bK_some, Option.toList_some, Option.toList_none, List.cons_append, List.nil_append, hxx, NH_0, c_hasPacket, e0, ci, bI_0, ite_in0, Bool.true_eq_false, if_false, cp]
      simp
  · refine ⟨C, ?_, by simpa [ci] using H, by simpa [ci] using hw⟩
    have ci' : inI i (nI 0) (nI (g 0 - 1)) = false := by simpa using ci
    simp (disch := omega) only [s63_0, s63_1, s63_4, s63_5, s63_8, s63_11, s63_12, s63_15, s63_16, s63_19, s63_22, s63_23, gf0, gf1, gf2, gf3, gf4, gf5, gf6, gf7, gf8, gf9, gf10, gf11, gf12, gf13, gf14, pu0, pu1, pu2, pu3, pu4, pu5, pu6, pu7, pu8, pu9, pu10, pu11, pu12, pu13, pu14, rc_at, bK_some, Option.toList_some, Option.toList_none, List.cons_append, List.nil_append, hxx, NH_0, c_hasPacket, e0, ci', bI_0, if_true]
    simp
theorem c_setNodes (hx : CH h x n) (H : Pic g C) (hw : WF g) (p : Int32) : ∃ C', run 64 0 [.ref x, .int p, .null] [] (NH h (x + 1) C) = some (some (.int (oSetNodes g p).1), NH h (x + 1) C') ∧ Pic (oSetNodes g p).2 C' ∧ WF (oSetNodes g p).2 := by
  have hxx := hx.at
  unfold oSetNodes
  by_cases c : inI p (nI 3) (nI 10) = true
  · obtain ⟨j, h1, h2, rfl, h3⟩ := inI_t (by decide) (by decide) c
    obtain ⟨D, r1, d1, d2⟩ := c_honest (h := h) (b := x + 1) (C := upK C 0 0 (w9 (C 0 0 0) j 0 (C 0 0 6) (C 0 0 7) (C 0 0 8)))
    obtain ⟨⟨o0, o1, o2, o4, o5, o3, o6⟩, hN, hL⟩ := H.b
    have eG : ∀ i, i ≠ 1 → i ≠ 2 → (i < 14 ∨ 24 ≤ i) → gHonest (up (up g 1 j) 2 0) i = g i := fun i h0 h1 h6 => by unfold gHonest; rw [if_neg (by omega), up_ne h1, up_ne h0]
    have eb : ∀ v, v < 10 → gHonest (up (up g 1 j) 2 0) (14 + v) = 0 := fun v hv => by unfold gHonest; rw [if_pos (by omega)]
    have e1 : gHonest (up (up g 1 j) 2 0) 1 = j := by unfold gHonest; rw [if_neg (by omega), up_ne (by decide), up_same]
    have e2 : gHonest (up (up g 1 j) 2 0) 2 = 0 := by unfold gHonest; rw [if_neg (by omega), up_same]
    have hB : PicB (gHonest (up (up g 1 j) 2 0)) D := by
      have u0 : D 0 0 = w9 (C 0 0 0) j 0 (C 0 0 6) (C 0 0 7) (C 0 0 8) := by rw [d1 0 0 (by decide), upK_same]
      have u1 : D 1 0 = C 1 0 := by rw [d1 1 0 (by decide), upK_k (by decide)]
      have u12 : ∀ l, D 12 l = C 12 l := fun l => by rw [d1 12 l (by decide), upK_k (by decide)]
      unfold PicB PicO
      rw [u0, u1, e1, e2, eG 0 (by decide) (by decide) (by decide), eG 4 (by decide) (by decide) (by decide), eG 5 (by decide) (by decide) (by decide), eG 3 (by decide) (by decide) (by decide)]
      refine ⟨⟨o0, rfl, rfl, o4, o5, o3, fun i hi => ?_⟩, fun v hv => ?_, fun l hl => ?_⟩
      · rw [eG _ (by omega) (by omega) (by omega)]; exact o6 i hi
      · rw [eb v hv]; exact d2 v hv
      · rw [u12, eG _ (by omega) (by omega) (by omega), eG _ (by omega) (by omega) (by omega), eG _ (by omega) (by omega) (by omega)]; exact hL l hl
    have g0 := eG 0 (by decide) (by decide) (by decide)
    have hk := hw.1
    obtain ⟨C', r2, p2⟩ := c_begin (h := h) (b := x + 1) hB (by rw [g0]; omega)
    refine ⟨C', ?_, ?_, ?_⟩
    · simp (disch := omega) only [s64_0, s64_1, s64_2, s64_5, s64_6, s64_8, s64_11, s64_12, s64_13, s64_14, s64_17, s64_20, s64_21, s64_22, s64_25, s64_26, s64_29, s64_30, s64_33, s64_34, s64_37, s64_38, s64_41, s64_44, s64_45, s64_48, s64_51, s64_52, gf0, gf1, gf2, gf3, gf4, gf5, gf6, gf7, gf8, gf9, gf10, gf11, gf12, gf13, gf14, pu0, pu1, pu2, pu3, pu4, pu5, pu6, pu7, pu8, pu9, pu10, pu11, pu12, pu13, pu14, rc_at, bK_some, Option.toList_some, Option.toList_none, List.cons_append, List.nil_append, hxx, NH_0, NH_so, ite_in, c, if_true, upK_same, upK_upK, w9_0, w9_2, w9_4, w9_6, w9_7, w9_8, r1, r2, o1]
    · simp only [c, if_true, h3]; exact p2
    · simp only [c, if_true, h3]
      refine WB.begin ?_
      obtain ⟨w0, w1, w2, w3, w4, w5, w6, w7⟩ := hw.wb
      unfold WB
      rw [g0, e1, e2, eG 4 (by decide) (by decide) (by decide), eG 5 (by decide) (by decide) (by decide)]
      exact ⟨w0, ⟨h1, h2⟩, by omega, fun l hl => absurd hl (Nat.not_lt_zero _), w4, w5, fun v hv => by rw [eb v hv]; omega, eb 0 (by decide)⟩
  · refine ⟨C, ?_, by simpa [c] using H, by simpa [c] using hw⟩
    simp only [s64_0, s64_1, s64_2, s64_5, s64_6, s64_8, s64_11, s64_12, ite_in, c, if_false]
    simp
theorem c_addLink (hx : CH h x n) (H : Pic g C) (hw : WF g) (a e l : Int32) : ∃ C', run 65 0 [.ref x, .int a, .int e, .int l] [] (NH h (x + 1) C) = some (some (.int (oAddLink g a e l).1), NH h (x + 1) C') ∧ Pic (oAddLink g a e l).2 C' ∧ WF (oAddLink g a e l).2 := by
  have hxx := hx.at
  have hn := hw.2.1
  have h2 := hw.2.2.1
  have hk := hw.1
  have e0 : ∀ v, hbI v (C 0 0 2) = inI v (nI 0) (nI (g 1 - 1)) := fun v => by rw [H.1.2.1, hb_lk (by omega)]; unfold lkB; rw [nI_sub (by omega)]
  have o2 := H.1.2.2.1
  unfold oAddLink
  by_cases ca : inI a (nI 0) (nI (g 1 - 1)) = true
  · by_cases ce : inI e (nI 0) (nI (g 1 - 1)) = true
    · by_cases cx : a < e
      · by_cases cll : inI l (nI 0) (nI 9) = true
        · by_cases c2 : g 2 = 20
          · refine ⟨C, ?_, by simpa [ca, ce, cx, cll, c2] using H, by simpa [ca, ce, cx, cll, c2] using hw⟩
            have z : (20 < 20) = False := by simp
            simp (disch := omega) only [s65_0, s65_1, s65_4, s65_5, s65_8, s65_11, s65_12, s65_15, s65_16, s65_19, s65_22, s65_23, s65_24, s65_27, s65_28, s65_29, s65_30, s65_33, s65_34, s65_36, s65_39, s65_40, s65_41, s65_42, s65_45, s65_48, s65_50, s65_53, s65_55, gf0, gf1, gf2, gf3, gf4, gf5, gf6, gf7, gf8, gf9, gf10, gf11, gf12, gf13, gf14, pu0, pu1, pu2, pu3, pu4, pu5, pu6, pu7, pu8, pu9, pu10, pu11, pu12, pu13, pu14, rc_at, bK_some, Option.toList_some, Option.toList_none, List.cons_append, List.nil_append, hxx, NH_0, c_hasNode, e0, ca, ce, cx, cll, bI_0, ite_in0, Bool.true_eq_false, if_false, if_true, o2, c2, nI_lts, z, and_self]
          · obtain ⟨j, j1, j2, rfl, j3⟩ := inI_t (by omega) (by decide) ca
            obtain ⟨k, k1, k2, rfl, k3⟩ := inI_t (by omega) (by decide) ce
            obtain ⟨q, q1, q2, rfl, q3⟩ := inI_t (by omega) (by decide) cll
            have z : g 2 < 20 := by omega
            have r1 := c_putLink (h := h) (b := x + 1) (C := C) (a := j) (e := k) (l := q) (by omega)
            have g0 : gLay g j k q 0 = g 0 := by unfold gLay; rw [up_ne (by omega), up_ne (by omega), up_ne (by omega), up_ne (by omega)]
            have g2' : gLay g j k q 2 = g 2 + 1 := up_same _ _ _
            obtain ⟨C', r2, p2⟩ := c_begin (h := h) (b := x + 1) (PicB_lay H.b z j k q) (by omega)
            have o2' : C' 0 0 4 = g 2 + 1 := by rw [p2.1.2.2.1, gBegin_same (by omega) (by omega), g2']
            rw [nI_lts (by omega) (by omega)] at cx
            refine ⟨C', ?_, ?_, ?_⟩
            · simp (disch := omega) only [s65_0, s65_1, s65_4, s65_5, s65_8, s65_11, s65_12, s65_15, s65_16, s65_19, s65_22, s65_23, s65_24, s65_27, s65_28, s65_29, s65_30, s65_33, s65_34, s65_36, s65_39, s65_40, s65_41, s65_42, s65_45, s65_48, s65_50, s65_53, s65_55, s65_56, s65_57, s65_60, s65_61, s65_62, s65_63, s65_66, s65_67, s65_70, s65_73, s65_74, s65_77, s65_80, s65_81, s65_82, gf0, gf1, gf2, gf3, gf4, gf5, gf6, gf7, gf8, gf9, gf10, gf11, gf12, gf13, gf14, pu0, pu1, pu2, pu3, pu4, pu5, pu6, pu7, pu8, pu9, pu10, pu11, pu12, pu13, pu14, rc_at, bK_some, Option.toList_some, Option.toList_none, List.cons_append, List.nil_append, hxx, NH_0, c_hasNode, e0, ca, ce, cx, cll, bI_0, ite_in0, Bool.true_eq_false, if_false, if_true, o2, c2, nI_lts, nI_lt0, show ¬ 9 < q from by omega, z, and_self, r1, r2, o2', nI_sub, Nat.add_sub_cancel]
            · simp (disch := omega) only [ca, ce, cll, nI_lts, cx, and_self, if_true, c2, if_false, j3, k3, q3]; exact p2
            · simp (disch := omega) only [ca, ce, cll, nI_lts, cx, and_self, if_true, c2, if_false, j3, k3, q3]
              exact WB.begin (WB_lay hw.wb z cx (by omega) q2)
        · refine ⟨C, ?_, by simpa [ca, ce, cx, cll] using H, by simpa [ca, ce, cx, cll] using hw⟩
          simp (disch := omega) only [s65_0, s65_1, s65_4, s65_5, s65_8, s65_11, s65_12, s65_15, s65_16, s65_19, s65_22, s65_23, s65_24, s65_27, s65_28, s65_29, s65_30, s65_33, s65_34, s65_36, s65_39, s65_40, gf0, gf1, gf2, gf3, gf4, gf5, gf6, gf7, gf8, gf9, gf10, gf11, gf12, gf13, gf14, pu0, pu1, pu2, pu3, pu4, pu5, pu6, pu7, pu8, pu9, pu10, pu11, pu12, pu13, pu14, rc_at, bK_some, Option.toList_some, Option.toList_none, List.cons_append, List.nil_append, hxx, NH_0, c_hasNode, e0, ca, ce, cx, cll, bI_0, ite_in0, Bool.true_eq_false, if_false, if_true, and_false]
          simp
      · refine ⟨C, ?_, by simpa [ca, ce, cx] using H, by simpa [ca, ce, cx] using hw⟩
        simp (disch := omega) only [s65_0, s65_1, s65_4, s65_5, s65_8, s65_11, s65_12, s65_15, s65_16, s65_19, s65_22, s65_23, s65_24, s65_27, s65_28, gf0, gf1, gf2, gf3, gf4, gf5, gf6, gf7, gf8, gf9, gf10, gf11, gf12, gf13, gf14, pu0, pu1, pu2, pu3, pu4, pu5, pu6, pu7, pu8, pu9, pu10, pu11, pu12, pu13, pu14, rc_at, bK_some, Option.toList_some, Option.toList_none, List.cons_append, List.nil_append, hxx, NH_0, c_hasNode, e0, ca, ce, cx, bI_0, Bool.true_eq_false, if_false, and_false, false_and]
    · refine ⟨C, ?_, by simpa [ca, ce] using H, by simpa [ca, ce] using hw⟩
      have ce' : inI e (nI 0) (nI (g 1 - 1)) = false := by simpa using ce
      simp (disch := omega) only [s65_0, s65_1, s65_4, s65_5, s65_8, s65_11, s65_12, s65_15, s65_16, s65_19, s65_22, s65_23, s65_24, s65_27, s65_28, gf0, gf1, gf2, gf3, gf4, gf5, gf6, gf7, gf8, gf9, gf10, gf11, gf12, gf13, gf14, pu0, pu1, pu2, pu3, pu4, pu5, pu6, pu7, pu8, pu9, pu10, pu11, pu12, pu13, pu14, rc_at, bK_some, Option.toList_some, Option.toList_none, List.cons_append, List.nil_append, hxx, NH_0, c_hasNode, e0, ca, ce', bI_0, Bool.true_eq_false, if_false, if_true]
      simp
  · refine ⟨C, ?_, by simpa [ca] using H, by simpa [ca] using hw⟩
    have ca' : inI a (nI 0) (nI (g 1 - 1)) = false := by simpa using ca
    simp (disch := omega) only [s65_0, s65_1, s65_4, s65_5, s65_8, s65_11, s65_12, s65_15, s65_16, s65_19, s65_22, s65_23, s65_24, s65_27, s65_28, gf0, gf1, gf2, gf3, gf4, gf5, gf6, gf7, gf8, gf9, gf10, gf11, gf12, gf13, gf14, pu0, pu1, pu2, pu3, pu4, pu5, pu6, pu7, pu8, pu9, pu10, pu11, pu12, pu13, pu14, rc_at, bK_some, Option.toList_some, Option.toList_none, List.cons_append, List.nil_append, hxx, NH_0, c_hasNode, e0, ca', bI_0, if_true]
    simp
theorem c_removeLink (hx : CH h x n) (H : Pic g C) (hw : WF g) : ∃ C', run 66 0 [.ref x] [] (NH h (x + 1) C) = some (some (.int (oRemoveLink g).1), NH h (x + 1) C') ∧ Pic (oRemoveLink g).2 C' ∧ WF (oRemoveLink g).2 := by
  have hxx := hx.at
  have h2 := hw.2.2.1
  have hk := hw.1
  have o2' := H.1.2.2.1
  unfold oRemoveLink
  by_cases c : g 2 = 0
  · refine ⟨C, ?_, by simpa [c] using H, by simpa [c] using hw⟩
    have z : (0 < 0) = False := by simp
    simp (disch := omega) only [s66_0, s66_1, s66_4, s66_7, s66_10, s66_12, gf0, gf1, gf2, gf3, gf4, gf5, gf6, gf7, gf8, gf9, gf10, gf11, gf12, gf13, gf14, pu0, pu1, pu2, pu3, pu4, pu5, pu6, pu7, pu8, pu9, pu10, pu11, pu12, pu13, pu14, rc_at, bK_some, Option.toList_some, Option.toList_none, List.cons_append, List.nil_append, hxx, NH_0, o2', c, nI_gt0, z, if_false, if_true]
  · obtain ⟨⟨o0, o1, o2, o4, o5, o3, o6⟩, hN, hL⟩ := H.b
    have z : 0 < g 2 := by omega
    have hB : PicB (up g 2 (g 2 - 1)) (upK C 0 0 (w9 (C 0 0 0) (C 0 0 2) (g 2 - 1) (C 0 0 6) (C 0 0 7) (C 0 0 8))) := by
      have uk : ∀ q, q ≠ 0 → upK C 0 0 (w9 (C 0 0 0) (C 0 0 2) (g 2 - 1) (C 0 0 6) (C 0 0 7) (C 0 0 8)) q = C q := fun q hq => by funext u; rw [upK_k hq]
      unfold PicB PicO
      rw [upK_same, uk 1 (by decide), uk 3 (by decide), uk 12 (by decide), up_same, up_ne (j := 0) (by omega), up_ne (j := 1) (by omega), up_ne (j := 3) (by omega), up_ne (j := 4) (by omega), up_ne (j := 5) (by omega)]
      refine ⟨⟨o0, o1, rfl, o4, o5, o3, fun q hq => ?_⟩, fun v hv => ?_, fun l hl => ?_⟩
      · rw [up_ne (by omega)]; exact o6 q hq
      · rw [up_ne (by omega)]; exact hN v hv
      · rw [up_ne (by omega), up_ne (by omega), up_ne (by omega)]; exact hL l hl
    have g0 : up g 2 (g 2 - 1) 0 = g 0 := up_ne (by omega)
    obtain ⟨C', r2, p2⟩ := c_begin (h := h) (b := x + 1) hB (by omega)
    have o3' : C' 0 0 4 = g 2 - 1 := by rw [p2.1.2.2.1, gBegin_same (by omega) (by omega), up_same]
    refine ⟨C', ?_, ?_, ?_⟩
    · simp (disch := omega) only [s66_0, s66_1, s66_4, s66_7, s66_10, s66_12, s66_13, s66_14, s66_17, s66_18, s66_21, s66_22, s66_23, s66_26, s66_27, s66_30, s66_33, s66_34, s66_37, s66_40, gf0, gf1, gf2, gf3, gf4, gf5, gf6, gf7, gf8, gf9, gf10, gf11, gf12, gf13, gf14, pu0, pu1, pu2, pu3, pu4, pu5, pu6, pu7, pu8, pu9, pu10, pu11, pu12, pu13, pu14, rc_at, bK_some, Option.toList_some, Option.toList_none, List.cons_append, List.nil_append, hxx, NH_0, NH_so, o2', nI_gt0, z, if_true, nI_sub, r2, o3', c, if_false]
    · simp only [c, if_false]; exact p2
    · simp only [c, if_false]
      refine WB.begin ?_
      obtain ⟨w0, w1, w2, w3, w4, w5, w6, w7⟩ := hw.wb
      unfold WB
      rw [up_same, up_ne (j := 0) (by omega), up_ne (j := 1) (by omega), up_ne (j := 4) (by omega), up_ne (j := 5) (by omega), up_ne (j := 14) (by omega)]
      refine ⟨w0, w1, by omega, fun l hl => ?_, w4, w5, fun v hv => ?_, w7⟩
      · rw [up_ne (j := 214 + 11 * l) (by omega), up_ne (j := 215 + 11 * l) (by omega), up_ne (j := 216 + 11 * l) (by omega)]; exact w3 l (by omega)
      · rw [up_ne (by omega)]; exact w6 v hv
theorem c_setBehavior (hx : CH h x n) (H : Pic g C) (hw : WF g) (v p : Int32) : ∃ C', run 67 0 [.ref x, .int v, .int p, .null] [] (NH h (x + 1) C) = some (some (.int (oSetBehavior g v p).1), NH h (x + 1) C') ∧ Pic (oSetBehavior g v p).2 C' ∧ WF (oSetBehavior g v p).2 := by
  have hxx := hx.at
  have hn := hw.2.1
  have hk := hw.1
  have e0 : hrI v (C 0 0 2) = (inI v (nI 0) (nI (g 1 - 1)) && decide (¬ v = 0)) := by rw [H.1.2.1, hr_lk (by omega)]; unfold lkB; rw [nI_sub (by omega)]
  unfold oSetBehavior
  by_cases cv : inI v (nI 0) (nI (g 1 - 1)) = true ∧ ¬ v = 0
  · have e1 : hrI v (C 0 0 2) = true := by rw [e0, cv.1]; simp [cv.2]
    by_cases cp : inI p (nI 0) (nI 4) = true
    · obtain ⟨j, j1, j2, rfl, j3⟩ := inI_t (by omega) (by decide) cv.1
      obtain ⟨k, k1, k2, rfl, k3⟩ := inI_t (by omega) (by decide) cp
      have hj : j < 10 := by omega
      have hj0 : 0 < j := by
        have := cv.2
        rw [nI_eq0 (by omega)] at this
        omega
      have o3 := (H.2.1 j hj).1
      obtain ⟨C', r2, p2⟩ := c_begin (h := h) (b := x + 1) (PicB_beh H.b (v := j) (k := k) (y := C 3 j 5) (z := C 3 j 6) hj) (by rw [up_ne (by omega)]; omega)
      refine ⟨C', ?_, ?_, ?_⟩
      · simp (disch := omega) only [s67_0, s67_1, s67_4, s67_5, s67_8, s67_11, s67_12, s67_15, s67_16, s67_17, s67_20, s67_21, s67_22, s67_23, s67_26, s67_29, s67_30, s67_31, s67_34, s67_35, s67_36, s67_39, s67_42, s67_43, s67_44, s67_45, s67_48, s67_49, s67_52, s67_55, s67_56, gf0, gf1, gf2, gf3, gf4, gf5, gf6, gf7, gf8, gf9, gf10, gf11, gf12, gf13, gf14, pu0, pu1, pu2, pu3, pu4, pu5, pu6, pu7, pu8, pu9, pu10, pu11, pu12, pu13, pu14, rc_at, bK_some, Option.toList_some, Option.toList_none, List.cons_append, List.nil_append, hxx, NH_0, NH_2, c_hasReceiver, e1, bI_0, ite_in0, cp, cv, Bool.true_eq_false, if_false, if_true, al_nd, NH_n hj, NH_sn hj, r2, o3, and_self, not_false_eq_true, j3]
      · simp only [cv, cp, and_self, if_true, j3, k3, not_false_eq_true]; exact p2
      · simp only [cv, cp, and_self, if_true, j3, k3, not_false_eq_true]
        exact WB.begin (WB_beh hw.wb hj0 hj k2)
    · refine ⟨C, ?_, by simpa [cv, cp] using H, by simpa [cv, cp] using hw⟩
      simp (disch := omega) only [s67_0, s67_1, s67_4, s67_5, s67_8, s67_11, s67_12, s67_15, s67_16, s67_17, s67_20, s67_21, gf0, gf1, gf2, gf3, gf4, gf5, gf6, gf7, gf8, gf9, gf10, gf11, gf12, gf13, gf14, pu0, pu1, pu2, pu3, pu4, pu5, pu6, pu7, pu8, pu9, pu10, pu11, pu12, pu13, pu14, rc_at, bK_some, Option.toList_some, Option.toList_none, List.cons_append, List.nil_append, hxx, NH_0, c_hasReceiver, e1, bI_0, ite_in0, Bool.true_eq_false, if_false, cp, and_false]
      simp
  · have e1 : hrI v (C 0 0 2) = false := by
      rw [e0]
      cases q : inI v (nI 0) (nI (g 1 - 1))
      · rfl
      · rw [q] at cv
        simp at cv
        simp [cv]
    have cv' : ¬ (inI v (nI 0) (nI (g 1 - 1)) = true ∧ ¬ v = 0 ∧ inI p (nI 0) (nI 4) = true) := fun z => cv ⟨z.1, z.2.1⟩
    refine ⟨C, ?_, by rw [if_neg cv']; exact H, by rw [if_neg cv']; exact hw⟩
    rw [if_neg cv']
    simp (disch := omega) only [s67_0, s67_1, s67_4, s67_5, s67_8, s67_11, s67_12, s67_15, s67_16, s67_17, s67_20, s67_21, gf0, gf1, gf2, gf3, gf4, gf5, gf6, gf7, gf8, gf9, gf10, gf11, gf12, gf13, gf14, pu0, pu1, pu2, pu3, pu4, pu5, pu6, pu7, pu8, pu9, pu10, pu11, pu12, pu13, pu14, rc_at, bK_some, Option.toList_some, Option.toList_none, List.cons_append, List.nil_append, hxx, NH_0, c_hasReceiver, e1, bI_0, if_true]
end S2T
