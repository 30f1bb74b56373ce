/-! the class: questions -/
section AK
variable {h : aH} {x n : Nat} {g : Nat → Nat} {C : nC}
theorem c_rounds (hx : CH h x n) (H : Pic g C) : run 72 0 [.ref x] [] (NH h (x + 1) C) = some (some (.int (nI (g 3))), NH h (x + 1) C) := by
  simp only [s72_0, s72_1, s72_4, s72_7, gf0, gf1, gf2, gf3, gf4, gf5, gf6, gf7, gf8, gf9, gf10, gf11, gf12, gf13, gf14, pu0, pu1, pu2, pu3, pu4, pu5, pu6, pu7, pu8, pu9, pu10, pu11, pu12, pu13, pu14, rc_at, bK_some, Option.toList_some, Option.toList_none, List.cons_append, List.nil_append, hx.at, NH_0, H.1.2.2.2.2.2.1]
theorem c_nodes (hx : CH h x n) (H : Pic g C) : run 73 0 [.ref x] [] (NH h (x + 1) C) = some (some (.int (nI (g 1))), NH h (x + 1) C) := by
  simp only [s73_0, s73_1, s73_4, s73_7, gf0, gf1, gf2, gf3, gf4, gf5, gf6, gf7, gf8, gf9, gf10, gf11, gf12, gf13, gf14, pu0, pu1, pu2, pu3, pu4, pu5, pu6, pu7, pu8, pu9, pu10, pu11, pu12, pu13, pu14, rc_at, bK_some, Option.toList_some, Option.toList_none, List.cons_append, List.nil_append, hx.at, NH_0, H.1.2.1]
theorem c_links (hx : CH h x n) (H : Pic g C) : run 74 0 [.ref x] [] (NH h (x + 1) C) = some (some (.int (nI (g 2))), NH h (x + 1) C) := by
  simp only [s74_0, s74_1, s74_4, s74_7, gf0, gf1, gf2, gf3, gf4, gf5, gf6, gf7, gf8, gf9, gf10, gf11, gf12, gf13, gf14, pu0, pu1, pu2, pu3, pu4, pu5, pu6, pu7, pu8, pu9, pu10, pu11, pu12, pu13, pu14, rc_at, bK_some, Option.toList_some, Option.toList_none, List.cons_append, List.nil_append, hx.at, NH_0, H.1.2.2.1]
theorem Pic.node (H : Pic g C) (hw : WF g) (v : Int32) : hbI v (C 0 0 2) = lkB (g 1) v := by
  have := hw.2.1
  rw [H.1.2.1, hb_lk (by omega)]
theorem Pic.link (H : Pic g C) (hw : WF g) (v : Int32) : hbI v (C 0 0 4) = lkB (g 2) v := by
  have := hw.2.2.1
  rw [H.1.2.2.1, hb_lk (by omega)]
theorem Pic.packet (H : Pic g C) (hw : WF g) (v : Int32) : hbI v (C 0 0 0) = lkB (g 0) v := by
  have := hw.1
  rw [H.1.1, hb_lk (by omega)]
theorem c_link (hx : CH h x n) (H : Pic g C) (hw : WF g) (l w : Int32) : run 75 0 [.ref x, .int l, .int w, .null] [] (NH h (x + 1) C) = some (some (.int (qLink g l w)), NH h (x + 1) C) := by
  have h2 := hw.2.2.1
  have e0 := H.link hw l
  unfold qLink
  cases cl1 : lkB (g 2) l
  · rw [cl1] at e0
    simp only [s75_0, s75_1, s75_4, s75_5, s75_8, s75_11, s75_12, s75_15, s75_16, s75_17, s75_20, s75_21, gf0, gf1, gf2, gf3, gf4, gf5, gf6, gf7, gf8, gf9, gf10, gf11, gf12, gf13, gf14, pu0, pu1, pu2, pu3, pu4, pu5, pu6, pu7, pu8, pu9, pu10, pu11, pu12, pu13, pu14, rc_at, bK_some, Option.toList_some, Option.toList_none, List.cons_append, List.nil_append, hx.at, NH_0, c_hasLink, e0, bI_0, if_true, Bool.false_eq_true, false_and, if_false]
  · rw [cl1] at e0
    by_cases cw : inI w (nI 0) (nI 2) = true
    · obtain ⟨j, j1, rfl, j3⟩ := lkB_t (by omega) cl1
      obtain ⟨k, k1, k2, rfl, k3⟩ := inI_t (by decide) (by decide) cw
      have hj : j < 20 := by omega
      obtain ⟨a0, a1, a2⟩ := (H.2.2 j hj).1
      have z : k = 0 ∨ k = 1 ∨ k = 2 := by omega
      rcases z with rfl | rfl | rfl
      · simp (disch := omega) only [s75_0, s75_1, s75_4, s75_5, s75_8, s75_11, s75_12, s75_15, s75_16, s75_17, s75_20, s75_21, s75_22, s75_23, s75_26, s75_29, s75_30, s75_31, s75_32, s75_33, s75_36, s75_37, s75_40, s75_41, s75_42, s75_43, s75_46, s75_47, s75_50, s75_53, s75_54, s75_57, gf0, gf1, gf2, gf3, gf4, gf5, gf6, gf7, gf8, gf9, gf10, gf11, gf12, gf13, gf14, pu0, pu1, pu2, pu3, pu4, pu5, pu6, pu7, pu8, pu9, pu10, pu11, pu12, pu13, pu14, rc_at, bK_some, Option.toList_some, Option.toList_none, List.cons_append, List.nil_append, hx.at, NH_0, NH_93, c_hasLink, e0, bI_0, Bool.true_eq_false, if_false, ite_in0, cw, if_true, al_lk, NH_l hj, z0_0, a0, and_self, j3, k3, Nat.add_zero]
      · simp (disch := omega) only [s75_0, s75_1, s75_4, s75_5, s75_8, s75_11, s75_12, s75_15, s75_16, s75_17, s75_20, s75_21, s75_22, s75_23, s75_26, s75_29, s75_30, s75_31, s75_32, s75_33, s75_36, s75_37, s75_40, s75_41, s75_42, s75_43, s75_46, s75_47, s75_50, s75_53, s75_54, s75_57, gf0, gf1, gf2, gf3, gf4, gf5, gf6, gf7, gf8, gf9, gf10, gf11, gf12, gf13, gf14, pu0, pu1, pu2, pu3, pu4, pu5, pu6, pu7, pu8, pu9, pu10, pu11, pu12, pu13, pu14, rc_at, bK_some, Option.toList_some, Option.toList_none, List.cons_append, List.nil_append, hx.at, NH_0, NH_93, c_hasLink, e0, bI_0, Bool.true_eq_false, if_false, ite_in0, cw, if_true, al_lk, NH_l hj, z1_0, a1, and_self, j3, k3]
        rw [show 214 + 11 * j + 1 = 215 + 11 * j from by omega]
      · have z2 : (nI 2 = 0) = False := by decide
        have z3 : (nI 2 = nI 1) = False := by decide
        simp (disch := omega) only [s75_0, s75_1, s75_4, s75_5, s75_8, s75_11, s75_12, s75_15, s75_16, s75_17, s75_20, s75_21, s75_22, s75_23, s75_26, s75_29, s75_30, s75_31, s75_32, s75_33, s75_36, s75_37, s75_40, s75_41, s75_42, s75_43, s75_46, s75_47, s75_50, s75_53, s75_54, s75_57, gf0, gf1, gf2, gf3, gf4, gf5, gf6, gf7, gf8, gf9, gf10, gf11, gf12, gf13, gf14, pu0, pu1, pu2, pu3, pu4, pu5, pu6, pu7, pu8, pu9, pu10, pu11, pu12, pu13, pu14, rc_at, bK_some, Option.toList_some, Option.toList_none, List.cons_append, List.nil_append, hx.at, NH_0, NH_93, c_hasLink, e0, bI_0, Bool.true_eq_false, if_false, ite_in0, cw, if_true, al_lk, NH_l hj, z2, z3, a2, and_self, j3, k3]
        rw [show 214 + 11 * j + 2 = 216 + 11 * j from by omega]
    · simp only [s75_0, s75_1, s75_4, s75_5, s75_8, s75_11, s75_12, s75_15, s75_16, s75_17, s75_20, s75_21, gf0, gf1, gf2, gf3, gf4, gf5, gf6, gf7, gf8, gf9, gf10, gf11, gf12, gf13, gf14, pu0, pu1, pu2, pu3, pu4, pu5, pu6, pu7, pu8, pu9, pu10, pu11, pu12, pu13, pu14, rc_at, bK_some, Option.toList_some, Option.toList_none, List.cons_append, List.nil_append, hx.at, NH_0, c_hasLink, e0, bI_0, if_true, ite_in0, cw, Bool.true_eq_false, if_false, and_false]
      simp
theorem c_rank (hx : CH h x n) (H : Pic g C) (hw : WF g) (v : Int32) : run 76 0 [.ref x, .int v] [] (NH h (x + 1) C) = some (some (.int (qRank g v)), NH h (x + 1) C) := by
  have h1 := hw.2.1
  have e0 := H.node hw v
  unfold qRank
  cases c : lkB (g 1) v
  · rw [c] at e0
    simp only [s76_0, s76_1, s76_4, s76_5, s76_8, s76_11, s76_12, gf0, gf1, gf2, gf3, gf4, gf5, gf6, gf7, gf8, gf9, gf10, gf11, gf12, gf13, gf14, pu0, pu1, pu2, pu3, pu4, pu5, pu6, pu7, pu8, pu9, pu10, pu11, pu12, pu13, pu14, rc_at, bK_some, Option.toList_some, Option.toList_none, List.cons_append, List.nil_append, hx.at, NH_0, c_hasNode, e0, bI_0, if_true, Bool.false_eq_true, if_false]
  · rw [c] at e0
    obtain ⟨j, j1, rfl, j3⟩ := lkB_t (by omega) c
    have hj : j < 10 := by omega
    simp (disch := omega) only [s76_0, s76_1, s76_4, s76_5, s76_8, s76_11, s76_12, s76_13, s76_14, s76_17, s76_20, s76_21, s76_22, s76_25, s76_28, gf0, gf1, gf2, gf3, gf4, gf5, gf6, gf7, gf8, gf9, gf10, gf11, gf12, gf13, gf14, pu0, pu1, pu2, pu3, pu4, pu5, pu6, pu7, pu8, pu9, pu10, pu11, pu12, pu13, pu14, rc_at, bK_some, Option.toList_some, Option.toList_none, List.cons_append, List.nil_append, hx.at, NH_0, NH_2, c_hasNode, e0, bI_0, if_true, Bool.true_eq_false, if_false, al_nd, NH_n hj, NH_h0 hj, (H.2.1 j hj).2.2.2.1, j3]
theorem c_hasSum (H : Pic g C) (hw : WF g) (v i : Int32) : run 24 0 [.ref (x + 1), .int v, .int i] [] (NH h (x + 1) C) = some (some (.int (bI (sumB g v i))), NH h (x + 1) C) := by
  have h1 := hw.2.1
  have e0 := H.node hw v
  unfold sumB
  cases c : lkB (g 1) v
  · rw [c] at e0
    simp only [s24_0, s24_1, s24_2, s24_5, s24_8, s24_9, s24_12, s24_13, s24_14, s24_17, s24_18, s24_19, s24_22, s24_25, s24_28, s24_29, s24_32, s24_33, gf0, gf1, gf2, gf3, gf4, gf5, gf6, gf7, gf8, gf9, gf10, gf11, gf12, gf13, gf14, pu0, pu1, pu2, pu3, pu4, pu5, pu6, pu7, pu8, pu9, pu10, pu11, pu12, pu13, pu14, rc_at, bK_some, Option.toList_some, Option.toList_none, List.cons_append, List.nil_append, NH_0, c_hasNode, e0, bI_f, z0_0, true_or, if_true, Bool.false_and, z01_0]
  · rw [c] at e0
    obtain ⟨j, j1, rfl, j3⟩ := lkB_t (by omega) c
    have hj : j < 10 := by omega
    have hr := hw.r8 j hj
    rw [Bool.true_and, j3, ← hb_lk (by omega)]
    simp (disch := omega) only [s24_0, s24_1, s24_2, s24_5, s24_8, s24_9, s24_12, s24_13, s24_14, s24_17, s24_18, s24_19, s24_22, s24_25, s24_28, s24_29, s24_32, s24_33, gf0, gf1, gf2, gf3, gf4, gf5, gf6, gf7, gf8, gf9, gf10, gf11, gf12, gf13, gf14, pu0, pu1, pu2, pu3, pu4, pu5, pu6, pu7, pu8, pu9, pu10, pu11, pu12, pu13, pu14, rc_at, bK_some, Option.toList_some, Option.toList_none, List.cons_append, List.nil_append, NH_0, NH_2, c_hasNode, e0, bI_0, if_true, Bool.true_eq_false, if_false, al_nd, NH_n hj, NH_h0 hj, (H.2.1 j hj).2.2.2.1, z01_0, z01_1]
    unfold hbI
    by_cases d1 : i < 0 <;> by_cases d2 : i < nI (g (44 + j)) <;> simp [d1, d2, bI]
theorem c_vector (hx : CH h x n) (H : Pic g C) (hw : WF g) (v i : Int32) : run 77 0 [.ref x, .int v, .int i] [] (NH h (x + 1) C) = some (some (.int (qVector g v i)), NH h (x + 1) C) := by
  unfold qVector
  cases c : sumB g v i
  · simp only [s77_0, s77_1, s77_4, s77_5, s77_6, s77_9, s77_12, s77_13, gf0, gf1, gf2, gf3, gf4, gf5, gf6, gf7, gf8, gf9, gf10, gf11, gf12, gf13, gf14, pu0, pu1, pu2, pu3, pu4, pu5, pu6, pu7, pu8, pu9, pu10, pu11, pu12, pu13, pu14, rc_at, bK_some, Option.toList_some, Option.toList_none, List.cons_append, List.nil_append, hx.at, NH_0, c_hasSum H hw, c, bI_0, if_true, Bool.false_eq_true, if_false]
  · obtain ⟨j, k, hj, hk, k8, rfl, rfl, j3, k3⟩ := sumB_t hw c
    simp (disch := omega) only [s77_0, s77_1, s77_4, s77_5, s77_6, s77_9, s77_12, s77_13, s77_14, s77_15, s77_18, s77_21, s77_22, s77_23, s77_26, s77_27, s77_28, gf0, gf1, gf2, gf3, gf4, gf5, gf6, gf7, gf8, gf9, gf10, gf11, gf12, gf13, gf14, pu0, pu1, pu2, pu3, pu4, pu5, pu6, pu7, pu8, pu9, pu10, pu11, pu12, pu13, pu14, rc_at, bK_some, Option.toList_some, Option.toList_none, List.cons_append, List.nil_append, hx.at, NH_0, NH_2, c_hasSum H hw, c, bI_0, if_true, Bool.true_eq_false, if_false, al_nd, NH_n hj, NH_v hj, al_8, ((H.2.1 j hj).2.2.2.2.2.1 k hk).1, j3, k3]
    rfl
theorem c_payload (hx : CH h x n) (H : Pic g C) (hw : WF g) (v i : Int32) : run 78 0 [.ref x, .int v, .int i] [] (NH h (x + 1) C) = some (some (.int (qPayload g v i)), NH h (x + 1) C) := by
  unfold qPayload
  cases c : sumB g v i
  · simp only [s78_0, s78_1, s78_4, s78_5, s78_6, s78_9, s78_12, s78_13, gf0, gf1, gf2, gf3, gf4, gf5, gf6, gf7, gf8, gf9, gf10, gf11, gf12, gf13, gf14, pu0, pu1, pu2, pu3, pu4, pu5, pu6, pu7, pu8, pu9, pu10, pu11, pu12, pu13, pu14, rc_at, bK_some, Option.toList_some, Option.toList_none, List.cons_append, List.nil_append, hx.at, NH_0, c_hasSum H hw, c, bI_0, if_true, Bool.false_eq_true, if_false]
  · obtain ⟨j, k, hj, hk, k8, rfl, rfl, j3, k3⟩ := sumB_t hw c
    simp (disch := omega) only [s78_0, s78_1, s78_4, s78_5, s78_6, s78_9, s78_12, s78_13, s78_14, s78_15, s78_18, s78_21, s78_22, s78_23, s78_26, s78_27, s78_28, gf0, gf1, gf2, gf3, gf4, gf5, gf6, gf7, gf8, gf9, gf10, gf11, gf12, gf13, gf14, pu0, pu1, pu2, pu3, pu4, pu5, pu6, pu7, pu8, pu9, pu10, pu11, pu12, pu13, pu14, rc_at, bK_some, Option.toList_some, Option.toList_none, List.cons_append, List.nil_append, hx.at, NH_0, NH_2, c_hasSum H hw, c, bI_0, if_true, Bool.true_eq_false, if_false, al_nd, NH_n hj, NH_p hj, al_8, ((H.2.1 j hj).2.2.2.2.2.1 k hk).2, j3, k3]
    rfl
theorem c_fates (hx : CH h x n) (H : Pic g C) (hw : WF g) (l w : Int32) : run 79 0 [.ref x, .int l, .int w] [] (NH h (x + 1) C) = some (some (.int (qFates g l w)), NH h (x + 1) C) := by
  have h2 := hw.2.2.1
  have e0 := H.link hw l
  unfold qFates
  cases cl1 : lkB (g 2) l
  · rw [cl1] at e0
    simp only [s79_0, s79_1, s79_4, s79_5, s79_8, s79_11, s79_12, s79_15, s79_16, s79_17, s79_20, s79_21, gf0, gf1, gf2, gf3, gf4, gf5, gf6, gf7, gf8, gf9, gf10, gf11, gf12, gf13, gf14, pu0, pu1, pu2, pu3, pu4, pu5, pu6, pu7, pu8, pu9, pu10, pu11, pu12, pu13, pu14, rc_at, bK_some, Option.toList_some, Option.toList_none, List.cons_append, List.nil_append, hx.at, NH_0, c_hasLink, e0, bI_0, if_true, Bool.false_eq_true, false_and, if_false]
  · rw [cl1] at e0
    by_cases cw : inI w (nI 0) (nI 3) = true
    · obtain ⟨j, j1, rfl, j3⟩ := lkB_t (by omega) cl1
      obtain ⟨k, k1, k2, rfl, k3⟩ := inI_t (by decide) (by decide) cw
      have hj : j < 20 := by omega
      have a0 := (H.2.2 j hj).2.2.1 k (by omega)
      rw [if_neg (by simp), Nat.add_zero] at a0
      simp (disch := omega) only [s79_0, s79_1, s79_4, s79_5, s79_8, s79_11, s79_12, s79_15, s79_16, s79_17, s79_20, s79_21, s79_22, s79_23, s79_26, s79_29, s79_30, s79_31, s79_34, s79_35, s79_36, gf0, gf1, gf2, gf3, gf4, gf5, gf6, gf7, gf8, gf9, gf10, gf11, gf12, gf13, gf14, pu0, pu1, pu2, pu3, pu4, pu5, pu6, pu7, pu8, pu9, pu10, pu11, pu12, pu13, pu14, rc_at, bK_some, Option.toList_some, Option.toList_none, List.cons_append, List.nil_append, hx.at, NH_0, NH_93, c_hasLink, e0, bI_0, Bool.true_eq_false, if_false, ite_in0, cw, if_true, al_lk, NH_l hj, NH_f hj, al_N, a0, and_self, j3, k3]
    · simp only [s79_0, s79_1, s79_4, s79_5, s79_8, s79_11, s79_12, s79_15, s79_16, s79_17, s79_20, s79_21, gf0, gf1, gf2, gf3, gf4, gf5, gf6, gf7, gf8, gf9, gf10, gf11, gf12, gf13, gf14, pu0, pu1, pu2, pu3, pu4, pu5, pu6, pu7, pu8, pu9, pu10, pu11, pu12, pu13, pu14, rc_at, bK_some, Option.toList_some, Option.toList_none, List.cons_append, List.nil_append, hx.at, NH_0, c_hasLink, e0, bI_0, if_true, ite_in0, cw, Bool.true_eq_false, if_false, and_false]
      simp
theorem c_lastSent (hx : CH h x n) (H : Pic g C) (hw : WF g) (l : Int32) : run 80 0 [.ref x, .int l] [] (NH h (x + 1) C) = some (some (.int (qLast g l)), NH h (x + 1) C) := by
  have h2 := hw.2.2.1
  have e0 := H.link hw l
  unfold qLast
  cases c : lkB (g 2) l
  · rw [c] at e0
    simp only [s80_0, s80_1, s80_4, s80_5, s80_8, s80_11, s80_12, gf0, gf1, gf2, gf3, gf4, gf5, gf6, gf7, gf8, gf9, gf10, gf11, gf12, gf13, gf14, pu0, pu1, pu2, pu3, pu4, pu5, pu6, pu7, pu8, pu9, pu10, pu11, pu12, pu13, pu14, rc_at, bK_some, Option.toList_some, Option.toList_none, List.cons_append, List.nil_append, hx.at, NH_0, c_hasLink, e0, bI_0, if_true, Bool.false_eq_true, if_false]
  · rw [c] at e0
    obtain ⟨j, j1, rfl, j3⟩ := lkB_t (by omega) c
    have hj : j < 20 := by omega
    simp (disch := omega) only [s80_0, s80_1, s80_4, s80_5, s80_8, s80_11, s80_12, s80_13, s80_14, s80_17, s80_20, s80_21, s80_22, s80_25, gf0, gf1, gf2, gf3, gf4, gf5, gf6, gf7, gf8, gf9, gf10, gf11, gf12, gf13, gf14, pu0, pu1, pu2, pu3, pu4, pu5, pu6, pu7, pu8, pu9, pu10, pu11, pu12, pu13, pu14, rc_at, bK_some, Option.toList_some, Option.toList_none, List.cons_append, List.nil_append, hx.at, NH_0, NH_93, c_hasLink, e0, bI_0, if_true, Bool.true_eq_false, if_false, al_lk, NH_l hj, (H.2.2 j hj).2.1.2.1, j3]
theorem c_endSum (hx : CH h x n) (H : Pic g C) (hw : WF g) (l r : Int32) : run 81 0 [.ref x, .int l, .int r, .null] [] (NH h (x + 1) C) = some (some (.int (qEnd g l r)), NH h (x + 1) C) := by
  have h2 := hw.2.2.1
  have e0 := H.link hw l
  unfold qEnd
  cases c : lkB (g 2) l
  · rw [c] at e0
    simp only [s81_0, s81_1, s81_4, s81_5, s81_8, s81_11, s81_12, gf0, gf1, gf2, gf3, gf4, gf5, gf6, gf7, gf8, gf9, gf10, gf11, gf12, gf13, gf14, pu0, pu1, pu2, pu3, pu4, pu5, pu6, pu7, pu8, pu9, pu10, pu11, pu12, pu13, pu14, rc_at, bK_some, Option.toList_some, Option.toList_none, List.cons_append, List.nil_append, hx.at, NH_0, c_hasLink, e0, bI_0, if_true, Bool.false_eq_true, if_false]
  · rw [c] at e0
    obtain ⟨j, j1, rfl, j3⟩ := lkB_t (by omega) c
    have hj : j < 20 := by omega
    have a := (H.2.2 j hj).2.1
    simp (disch := omega) only [s81_0, s81_1, s81_4, s81_5, s81_8, s81_11, s81_12, s81_13, s81_14, s81_17, s81_20, s81_21, s81_22, s81_23, s81_24, s81_27, s81_28, s81_31, s81_34, s81_35, s81_38, gf0, gf1, gf2, gf3, gf4, gf5, gf6, gf7, gf8, gf9, gf10, gf11, gf12, gf13, gf14, pu0, pu1, pu2, pu3, pu4, pu5, pu6, pu7, pu8, pu9, pu10, pu11, pu12, pu13, pu14, rc_at, bK_some, Option.toList_some, Option.toList_none, List.cons_append, List.nil_append, hx.at, NH_0, NH_93, c_hasLink, e0, bI_0, if_true, Bool.true_eq_false, if_false, al_lk, NH_l hj, a.2.2.1, a.2.2.2, j3]
    by_cases z : r = 0 <;> simp [z]
theorem c_differing (hx : CH h x n) (H : Pic g C) (hw : WF g) : run 82 0 [.ref x, .null, .null] [] (NH h (x + 1) C) = some (some (.int (qDiff g)), NH h (x + 1) C) := by
  have h2 := hw.2.2.1
  have hxx := hx.at
  have o2 := H.1.2.2.1
  have key : ∀ m, m ≤ g 2 → run 82 4 [.ref x, .int (nI 0), .int (nI 0)] [] (NH h (x + 1) C) = run 82 4 [.ref x, .int (nI (cntN (fun l => decide (¬ nI (g (223 + 11 * l)) = nI (g (224 + 11 * l)))) m)), .int (nI m)] [] (NH h (x + 1) C) := by
    intro m
    induction m with
    | zero => intro _; rfl
    | succ m ih =>
      intro hm
      have hj : m < 20 := by omega
      have a := (H.2.2 m hj).2.1
      rw [ih (by omega), s82_4]
      simp (disch := omega) only [s82_5, s82_6, s82_9, s82_12, s82_15, s82_16, s82_19, s82_22, s82_23, s82_24, s82_27, s82_28, s82_31, s82_34, s82_35, s82_36, s82_39, gf0, gf1, gf2, gf3, gf4, gf5, gf6, gf7, gf8, gf9, gf10, gf11, gf12, gf13, gf14, pu0, pu1, pu2, pu3, pu4, pu5, pu6, pu7, pu8, pu9, pu10, pu11, pu12, pu13, pu14, rc_at, bK_some, Option.toList_some, Option.toList_none, List.cons_append, List.nil_append, hxx, NH_0, NH_93, al_lk, NH_l hj, o2, nI_lts, show m < g 2 from by omega, if_true, a.2.2.1, a.2.2.2]
      by_cases c : nI (g (223 + 11 * m)) = nI (g (224 + 11 * m))
      · simp only [c, if_true, s82_45, s82_48, nI_adds, cntN, not_true_eq_false, decide_false, Bool.false_eq_true, if_false, Nat.add_zero]
      · simp only [c, if_false, s82_42, s82_45, s82_48, nI_adds, cntN, not_false_eq_true, decide_true, if_true]
  simp only [s82_0, s82_1, s82_2, s82_3]
  rw [key _ (Nat.le_refl _), s82_4]
  simp (disch := omega) only [s82_5, s82_6, s82_9, s82_12, s82_51, s82_52, gf0, gf1, gf2, gf3, gf4, gf5, gf6, gf7, gf8, gf9, gf10, gf11, gf12, gf13, gf14, pu0, pu1, pu2, pu3, pu4, pu5, pu6, pu7, pu8, pu9, pu10, pu11, pu12, pu13, pu14, rc_at, bK_some, Option.toList_some, Option.toList_none, List.cons_append, List.nil_append, hxx, NH_0, o2, nI_lts, Nat.lt_irrefl, if_false, qDiff]
theorem c_marks (hx : CH h x n) (H : Pic g C) (hw : WF g) (v : Int32) : run 92 0 [.ref x, .int v] [] (NH h (x + 1) C) = some (some (.int (qMarks g v)), NH h (x + 1) C) := by
  have h1 := hw.2.1
  have e0 := H.node hw v
  unfold qMarks
  cases c : lkB (g 1) v
  · rw [c] at e0
    simp only [s92_0, s92_1, s92_4, s92_5, s92_8, s92_11, s92_12, gf0, gf1, gf2, gf3, gf4, gf5, gf6, gf7, gf8, gf9, gf10, gf11, gf12, gf13, gf14, pu0, pu1, pu2, pu3, pu4, pu5, pu6, pu7, pu8, pu9, pu10, pu11, pu12, pu13, pu14, rc_at, bK_some, Option.toList_some, Option.toList_none, List.cons_append, List.nil_append, hx.at, NH_0, c_hasNode, e0, bI_0, if_true, Bool.false_eq_true, if_false]
  · rw [c] at e0
    obtain ⟨j, j1, rfl, j3⟩ := lkB_t (by omega) c
    have hj : j < 10 := by omega
    simp (disch := omega) only [s92_0, s92_1, s92_4, s92_5, s92_8, s92_11, s92_12, s92_13, s92_14, s92_17, s92_20, s92_21, s92_22, s92_25, gf0, gf1, gf2, gf3, gf4, gf5, gf6, gf7, gf8, gf9, gf10, gf11, gf12, gf13, gf14, pu0, pu1, pu2, pu3, pu4, pu5, pu6, pu7, pu8, pu9, pu10, pu11, pu12, pu13, pu14, rc_at, bK_some, Option.toList_some, Option.toList_none, List.cons_append, List.nil_append, hx.at, NH_0, NH_2, c_hasNode, e0, bI_0, if_true, Bool.true_eq_false, if_false, al_nd, NH_n hj, (H.2.1 j hj).2.1, j3]
theorem c_isCutOff (hx : CH h x n) (H : Pic g C) (hw : WF g) (v : Int32) : run 93 0 [.ref x, .int v] [] (NH h (x + 1) C) = some (some (.int (qCut g v)), NH h (x + 1) C) := by
  have h1 := hw.2.1
  have e0 := H.node hw v
  unfold qCut
  cases c : lkB (g 1) v
  · rw [c] at e0
    simp only [s93_0, s93_1, s93_4, s93_5, s93_8, s93_11, s93_12, gf0, gf1, gf2, gf3, gf4, gf5, gf6, gf7, gf8, gf9, gf10, gf11, gf12, gf13, gf14, pu0, pu1, pu2, pu3, pu4, pu5, pu6, pu7, pu8, pu9, pu10, pu11, pu12, pu13, pu14, rc_at, bK_some, Option.toList_some, Option.toList_none, List.cons_append, List.nil_append, hx.at, NH_0, c_hasNode, e0, bI_0, if_true, Bool.false_eq_true, if_false]
  · rw [c] at e0
    obtain ⟨j, j1, rfl, j3⟩ := lkB_t (by omega) c
    have hj : j < 10 := by omega
    have h34 := (hw.2.2.2.2.2.2.1 j hj).2.1
    simp (disch := omega) only [s93_0, s93_1, s93_4, s93_5, s93_8, s93_11, s93_12, s93_13, s93_14, s93_17, s93_20, s93_21, s93_22, s93_25, s93_28, s93_29, s93_32, s93_33, gf0, gf1, gf2, gf3, gf4, gf5, gf6, gf7, gf8, gf9, gf10, gf11, gf12, gf13, gf14, pu0, pu1, pu2, pu3, pu4, pu5, pu6, pu7, pu8, pu9, pu10, pu11, pu12, pu13, pu14, rc_at, bK_some, Option.toList_some, Option.toList_none, List.cons_append, List.nil_append, hx.at, NH_0, NH_2, c_hasNode, e0, bI_0, if_true, Bool.true_eq_false, if_false, al_nd, NH_n hj, (H.2.1 j hj).2.2.1, j3, nI_eq0]
    by_cases z : g (34 + j) = 0
    · simp [z]
    · have : g (34 + j) = 1 := by omega
      simp [this]
/-- a node solves as the model does -/
theorem Pic.sf (H : Pic g C) {v a : Nat} (hv : v < 10) (ha : a < 256) : sfN g v a = rd (C 5 v) (C 6 v) 8 a 0 := (H.2.1 v hv).2.2.2.2.1.find ha
theorem Pic.lead (H : Pic g C) {v : Nat} (hv : v < 10) : ∀ i, i < 8 → C 5 v i < 256 := fun i hi => (H.2.1 v hv).2.2.2.2.1.1.lead_lt hi
theorem c_slv (H : Pic g C) (hw : WF g) {v k : Nat} (hv : v < 10) (hk : k < 8) : run 45 0 [.ref (ndA (x + 1) v), .int (nI k), .null] [] (NH h (x + 1) C) = some (some (.int (slv g v k)), NH h (x + 1) C) := by
  have hr := hw.r8 v hv
  have ha : 2 ^ k < 256 := (Nat.pow_lt_pow_right (by decide) hk : 2 ^ k < 2 ^ 8)
  have e := H.sf hv ha
  have e4 := (H.2.1 v hv).2.2.2.1
  rw [c_solved hv (by omega) (H.lead hv) (fun t ht => by rw [← e] at ht; have := sf_lt hr t ht; omega) hk]
  unfold slv
  rw [e]
  cases q : rd (C 5 v) (C 6 v) 8 (2 ^ k) 0 with
  | none => rfl
  | some t =>
    dsimp only
    rw [e4, xsN_congr (fun i hi => ((H.2.1 v hv).2.2.2.2.2.1 i hi).2)]
theorem slv_ne (hw : WF g) {v k : Nat} (hv : v < 10) (hp : ∀ t, xsN (pays g v) t (g (44 + v)) < 2 ^ 31) : (slv g v k = -4) = ((sfN g v (2 ^ k)).isSome = false) := by
  unfold slv
  cases sfN g v (2 ^ k) with
  | none => simp
  | some t =>
    dsimp only
    have : (nI (xsN (pays g v) t (g (44 + v))) = -4) = False := by
      rw [m4]
      apply eq_false
      intro e
      have z := NON_ne (hp t)
      rw [e] at z
      exact (z ▸ rfl : False)
    rw [this]
    simp
end AK
