/-! the class: several rounds; two settings -/
def CH (h : aH) (x n : Nat) : Prop := hget h x = some (.inr (6, [.ref (x + 1), .ref (x + 135), .ref (x + 136), .ref (x + 140), .ref (x + 143), .int (nI n), .ref (x + 144)]))
theorem CH.at {h : aH} {x n : Nat} (H : CH h x n) (C : nC) : hget (NH h (x + 1) C) x = some (.inr (6, [.ref (x + 1), .ref (x + 135), .ref (x + 136), .ref (x + 140), .ref (x + 143), .int (nI n), .ref (x + 144)])) := by
  rw [NH_out (Or.inl (by omega))]; exact H
theorem goes_keep {g : Nat → Nat} (hw : WF g) (hs : WS g) : WF (gGoes g) ∧ WS (gGoes g) ∧ (∀ j, j < 44 → j ≠ 3 → j ≠ 4 → gGoes g j = g j) := by
  have H : MX (0, 0, fun _ => some (.inr (7, .ref (0 + 1) :: .ref (0 + 2) :: .ref (0 + 3) :: .ref (0 + 4) :: .null :: .ref (0 + 5) :: .ref (0 + 6) :: .ref (0 + 7) :: .ref (0 + 8) :: []))) 0 .null [] := rfl
  obtain ⟨-, -, -, -, w2, s2, e2⟩ := m_goes H g (fun _ => 0) (fun _ => 0) (fun _ => 0) hw hs
  exact ⟨w2, s2, e2⟩
theorem gIt_keep {g : Nat → Nat} (hw : WF g) (hs : WS g) (n : Nat) : WF (gIt g n) ∧ WS (gIt g n) ∧ ∀ j, j < 44 → j ≠ 3 → j ≠ 4 → gIt g n j = g j := by
  induction n with
  | zero => exact ⟨hw, hs, fun _ _ _ _ => rfl⟩
  | succ n ih =>
    obtain ⟨w, s, e⟩ := ih
    obtain ⟨w2, s2, e2⟩ := goes_keep w s
    exact ⟨w2, s2, fun j h1 h2 h3 => (e2 j h1 h2 h3).trans (e j h1 h2 h3)⟩
theorem gRun_it (g : Nat → Nat) (n : Nat) : (gRun g n 0).2 = gIt g n := by
  induction n with
  | zero => rfl
  | succ n ih => simp only [gRun, gIt, ih]
theorem hb_lk {n : Nat} (hn : n < 2 ^ 31) (v : Int32) : hbI v n = lkB n v := by
  unfold hbI lkB
  by_cases c : v < 0
  · have e : inI v (nI 0) (nI n - nI 1) = false := by unfold inI; rw [n0]; simp [c]
    rw [e]; simp [c]
  · obtain ⟨j, hj, rfl⟩ := nI_of c
    by_cases z : n = 0
    · subst z
      have e : inI (nI j) (nI 0) (nI 0 - nI 1) = false := by
        unfold inI
        have : nI 0 - nI 1 < nI j := by
          rw [Int32.lt_iff_toInt_lt, nI_toInt hj]
          have : (nI 0 - nI 1).toInt = -1 := by decide
          omega
        simp [this]
      rw [e]
      simp [nI_lts hj (show 0 < 2 ^ 31 by decide)]
    · rw [nI_sub (by omega), inI_nI hj (by decide) (by omega)]
      simp only [nI_lt0 hj, nI_lts hj hn, not_false_eq_true, decide_true, Bool.true_and]
      exact decide_eq_decide.mpr (by omega)
theorem hr_lk {n : Nat} (hn : n < 2 ^ 31) (v : Int32) : hrI v n = (lkB n v && decide (¬ v = 0)) := by
  rw [← hb_lk hn]
  unfold hrI hbI
  by_cases c : v < 0
  · have : ¬ 0 < v := by
      rw [Int32.lt_iff_toInt_lt] at c ⊢
      have : (0 : Int32).toInt = 0 := rfl
      omega
    simp [c, this]
  · obtain ⟨j, hj, rfl⟩ := nI_of c
    simp only [nI_gt0 hj, nI_lt0 hj, nI_eq0 hj, nI_lts hj hn]
    by_cases z : j = 0
    · subst z; simp
    · simp [z, show 0 < j from by omega]
section RN
variable {h : aH} {x n : Nat}
theorem c_run {g : Nat → Nat} {C : nC} (hx : CH h x n) (H : Pic g C) (hw : WF g) (hs : WS g) (r : Int32) : ∃ C', run 70 0 [.ref x, .int r, .null, .null] [] (NH h (x + 1) C) = some (some (.int (oRun g r).1), NH h (x + 1) C') ∧ Pic (oRun g r).2 C' := by
  have hxx := hx.at
  simp only [s70_0, s70_1, s70_2, s70_5, s70_6, s70_8, s70_11, s70_12]
  unfold oRun inI
  by_cases c1 : r < nI 1
  · exact ⟨C, by simp [c1], by simpa [c1] using H⟩
  · by_cases c2 : nI 50 < r
    · exact ⟨C, by simp [c1, c2], by simpa [c1, c2] using H⟩
    · obtain ⟨j, h1, h2, rfl⟩ := arg_in (by decide) c1 c2 (by decide)
      have h3 : cl (nI j) = j := cl_nI (by omega)
      have key : ∀ m, m ≤ j → ∃ C', run 70 17 [.ref x, .int (nI j), .int (nI 0), .int (nI 0)] [] (NH h (x + 1) C) = run 70 17 [.ref x, .int (nI j), .int (nI (gRun g m 0).1), .int (nI m)] [] (NH h (x + 1) C') ∧ Pic (gRun g m 0).2 C' := by
        intro m
        induction m with
        | zero => intro _; exact ⟨C, rfl, H⟩
        | succ m ih =>
          intro hm
          obtain ⟨C1, e1, p1⟩ := ih (by omega)
          have K := gIt_keep hw hs m
          rw [← gRun_it] at K
          obtain ⟨C2, e2, p2⟩ := c_playRound (h := h) (b := x + 1) p1 K.1 K.2.1
          refine ⟨C2, ?_, p2⟩
          rw [e1, s70_17]
          simp (disch := omega) only [s70_18, s70_19, s70_22, s70_23, s70_24, s70_27, s70_30, s70_31, s70_32, s70_35, gf0, gf1, gf2, gf3, gf4, gf5, gf6, gf7, gf8, gf9, gf10, gf11, gf12, gf13, gf14, pu0, pu1, pu2, pu3, pu4, pu5, pu6, pu7, pu8, pu9, pu10, pu11, pu12, pu13, pu14, rc_at, bK_some, Option.toList_some, Option.toList_none, List.cons_append, List.nil_append, hxx, NH_0, nI_lts, show m < j from by omega, if_true, e2, nI_adds]
          rfl
      obtain ⟨C1, e1, p1⟩ := key j (Nat.le_refl j)
      refine ⟨C1, ?_, by simpa [c1, c2, h3] using p1⟩
      simp only [c1, c2, if_false, s70_13, s70_14, s70_15, s70_16]
      rw [e1, s70_17]
      simp (disch := omega) only [s70_18, s70_19, s70_22, s70_23, s70_24, s70_27, s70_30, s70_31, s70_32, s70_35, s70_38, s70_39, nI_lts, Nat.lt_irrefl, if_false, not_false_eq_true, decide_true, Bool.and_self, if_true, h3]
theorem c_runUntil {g : Nat → Nat} {C : nC} (hx : CH h x n) (H : Pic g C) (hw : WF g) (hs : WS g) (v : Int32) : ∃ C', run 71 0 [.ref x, .int v, .null] [] (NH h (x + 1) C) = some (some (.int (oRunUntil g v).1), NH h (x + 1) C') ∧ Pic (oRunUntil g v).2 C' := by
  have hxx := hx.at
  have hn := hw.2.1
  have gl := gIt_keep hw hs
  have hsu : nI (g 1) - nI 1 = nI (g 1 - 1) := nI_sub (by omega)
  have e0 : hbI v (C 0 0 2) = inI v (nI 0) (nI (g 1 - 1)) := by rw [H.1.2.1, hb_lk (by omega)]; unfold lkB; rw [hsu]
  simp only [s71_0, s71_1, s71_4, s71_5, s71_8, s71_11, s71_12, gf0, gf1, gf2, gf3, gf4, gf5, gf6, gf7, gf8, gf9, gf10, gf11, gf12, gf13, gf14, pu0, pu1, pu2, pu3, pu4, pu5, pu6, pu7, pu8, pu9, pu10, pu11, pu12, pu13, pu14, rc_at, bK_some, Option.toList_some, Option.toList_none, List.cons_append, List.nil_append, hxx, NH_0, c_hasNode, e0, bI_0]
  unfold oRunUntil
  cases hc : inI v (nI 0) (nI (g 1 - 1))
  · exact ⟨C, by simp, by simpa using H⟩
  · obtain ⟨j, h1, h2, rfl, h3⟩ := inI_t (by omega) (by decide) hc
    have hj : j < 10 := by omega
    have bnd : ∀ i, gIt g i (44 + j) ≤ gIt g i 0 ∧ gIt g i 0 ≤ 8 := fun i => ⟨((gl i).1.2.2.2.2.2.2.1 j hj).2.2, (gl i).1.1.2⟩
    have kn : ∀ i C, Pic (gIt g i) C → run 28 0 [.ref (x + 1), .int (nI j)] [] (NH h (x + 1) C) = some (some (.int (bI (kAll (gIt g i) j))), NH h (x + 1) C) := by
      intro i C p
      have e1 := (p.2.1 j hj).2.2.2.1
      have e2 := p.1.1
      have b := bnd i
      rw [c_knowsAll hj (by omega) (by omega)]
      have : decide (C 4 j 2 = C 0 0 0) = kAll (gIt g i) j := by
        unfold kAll
        exact decide_eq_decide.mpr (by omega)
      rw [this]
    have key : ∀ m, m ≤ 50 → (∀ i, i < m → kAll (gIt g i) j = false) → ∃ C', run 71 15 [.ref x, .int (nI j), .int (nI 0)] [] (NH h (x + 1) C) = run 71 15 [.ref x, .int (nI j), .int (nI m)] [] (NH h (x + 1) C') ∧ Pic (gIt g m) C' := by
      intro m
      induction m with
      | zero => intro _ _; exact ⟨C, rfl, H⟩
      | succ m ih =>
        intro hm hno
        obtain ⟨C1, e1, p1⟩ := ih (by omega) (fun i hi => hno i (by omega))
        obtain ⟨C2, e2, p2⟩ := c_playRound (h := h) (b := x + 1) p1 (gl m).1 (gl m).2.1
        refine ⟨C2, ?_, p2⟩
        rw [e1, s71_15]
        simp (disch := omega) only [s71_16, s71_18, s71_21, s71_22, s71_25, s71_26, s71_29, s71_32, s71_33, s71_34, s71_35, s71_38, s71_41, s71_42, s71_45, gf0, gf1, gf2, gf3, gf4, gf5, gf6, gf7, gf8, gf9, gf10, gf11, gf12, gf13, gf14, pu0, pu1, pu2, pu3, pu4, pu5, pu6, pu7, pu8, pu9, pu10, pu11, pu12, pu13, pu14, rc_at, bK_some, Option.toList_some, Option.toList_none, List.cons_append, List.nil_append, hxx, NH_0, nI_lts, show m < 50 from by omega, if_true, kn m C1 p1, hno m (by omega), bI_0, e2, nI_adds]
    have fin : ∀ m, m ≤ 50 → (m = 50 ∨ kAll (gIt g m) j = true) → (∀ i, i < m → kAll (gIt g i) j = false) → ∃ C', run 71 15 [.ref x, .int (nI j), .int (nI 0)] [] (NH h (x + 1) C) = some (some (.int (if kAll (gIt g m) j = true then nI m else -4)), NH h (x + 1) C') ∧ Pic (gIt g m) C' := by
      intro m hm hor hno
      obtain ⟨C1, e1, p1⟩ := key m hm hno
      refine ⟨C1, ?_, p1⟩
      rw [e1, s71_15]
      by_cases hk : kAll (gIt g m) j = true
      · by_cases h50 : m < 50
        · simp (disch := omega) only [s71_16, s71_18, s71_21, s71_22, s71_25, s71_26, s71_29, s71_32, s71_33, gf0, gf1, gf2, gf3, gf4, gf5, gf6, gf7, gf8, gf9, gf10, gf11, gf12, gf13, gf14, pu0, pu1, pu2, pu3, pu4, pu5, pu6, pu7, pu8, pu9, pu10, pu11, pu12, pu13, pu14, rc_at, bK_some, Option.toList_some, Option.toList_none, List.cons_append, List.nil_append, hxx, NH_0, nI_lts, h50, if_true, kn m C1 p1, hk, bI_0, Bool.true_eq_false, if_false]
        · have : m = 50 := by omega
          subst this
          simp (disch := omega) only [s71_16, s71_18, s71_48, s71_49, s71_52, s71_53, s71_56, s71_59, s71_61, s71_64, s71_66, gf0, gf1, gf2, gf3, gf4, gf5, gf6, gf7, gf8, gf9, gf10, gf11, gf12, gf13, gf14, pu0, pu1, pu2, pu3, pu4, pu5, pu6, pu7, pu8, pu9, pu10, pu11, pu12, pu13, pu14, rc_at, bK_some, Option.toList_some, Option.toList_none, List.cons_append, List.nil_append, hxx, NH_0, nI_lts, Nat.lt_irrefl, if_true, kn 50 C1 p1, hk, bI_0, Bool.true_eq_false, if_false]
      · have h50 : m = 50 := by
          rcases hor with q | q
          · exact q
          · exact absurd q hk
        subst h50
        have hk' : kAll (gIt g 50) j = false := by simpa using hk
        simp (disch := omega) only [s71_16, s71_18, s71_48, s71_49, s71_52, s71_53, s71_56, s71_59, s71_61, s71_64, s71_66, gf0, gf1, gf2, gf3, gf4, gf5, gf6, gf7, gf8, gf9, gf10, gf11, gf12, gf13, gf14, pu0, pu1, pu2, pu3, pu4, pu5, pu6, pu7, pu8, pu9, pu10, pu11, pu12, pu13, pu14, rc_at, bK_some, Option.toList_some, Option.toList_none, List.cons_append, List.nil_append, hxx, NH_0, nI_lts, Nat.lt_irrefl, if_true, kn 50 C1 p1, hk', bI_0, Bool.false_eq_true, if_false]
    have nU : nUntil g j ≤ 50 ∧ (nUntil g j = 50 ∨ kAll (gIt g (nUntil g j)) j = true) ∧ (∀ i, i < nUntil g j → kAll (gIt g i) j = false) := by
      unfold nUntil
      cases hf : firstN (fun i => kAll (gIt g i) j) 50 with
      | none => exact ⟨Nat.le_refl _, Or.inl rfl, firstN_none.mp hf⟩
      | some i =>
        obtain ⟨q1, q2, q3⟩ := firstN_some.mp hf
        exact ⟨by dsimp only; omega, Or.inr q2, q3⟩
    obtain ⟨C1, e1, p1⟩ := fin _ nU.1 nU.2.1 nU.2.2
    refine ⟨C1, ?_, ?_⟩
    · simp only [Bool.true_eq_false, if_false, s71_13, s71_14, if_true, h3]
      exact e1
    · simp only [if_true, h3]; exact p1
theorem Pic_lim {g : Nat → Nat} {C : nC} (H : Pic g C) (q y : Nat) (hr : ∀ u, u < 10 → g (44 + u) ≤ 8) : Pic (up (up g 4 q) 5 y) (upK C 0 0 (w9 (C 0 0 0) (C 0 0 2) (C 0 0 4) q y (C 0 0 8))) := by
  obtain ⟨⟨o0, o1, o2, o4, o5, o3, o6⟩, hN, hL⟩ := H
  have eG : ∀ j, j ≠ 4 → j ≠ 5 → up (up g 4 q) 5 y j = g j := fun j h4 h5 => by rw [up_ne h5, up_ne h4]
  refine ⟨⟨?_, ?_, ?_, ?_, ?_, ?_, ?_⟩, ?_, ?_⟩
  · rw [upK_same, eG _ (by decide) (by decide)]; exact o0
  · rw [upK_same, eG _ (by decide) (by decide)]; exact o1
  · rw [upK_same, eG _ (by decide) (by decide)]; exact o2
  · rw [upK_same]; rfl
  · rw [upK_same]; rfl
  · rw [upK_same, eG _ (by decide) (by decide)]; exact o3
  · intro i hi
    rw [upK_k (by decide), eG _ (by omega) (by omega)]; exact o6 i hi
  · intro u hu
    have X := hN u hu
    have h8 := hr u hu
    unfold PicN at X ⊢
    obtain ⟨a0, a1, a2, a3, a4, a5, a6⟩ := X
    simp only [upK_k (show (3 : Nat) ≠ 0 by decide), upK_k (show (4 : Nat) ≠ 0 by decide), upK_k (show (5 : Nat) ≠ 0 by decide), upK_k (show (6 : Nat) ≠ 0 by decide), upK_k (show (7 : Nat) ≠ 0 by decide), upK_k (show (8 : Nat) ≠ 0 by decide), upK_k (show (10 : Nat) ≠ 0 by decide), upK_k (show (11 : Nat) ≠ 0 by decide)]
    rw [eG (14 + u) (by omega) (by omega), eG (24 + u) (by omega) (by omega), eG (34 + u) (by omega) (by omega), eG (44 + u) (by omega) (by omega), eG 0 (by omega) (by omega)]
    refine ⟨a0, a1, a2, a3, a4.congr (fun i hi => eG _ (by omega) (by omega)), fun i hi => ?_, a6.congr (fun w => by unfold snt; rw [eG _ (by omega) (by omega)])⟩
    rw [show vecs (up (up g 4 q) 5 y) u i = vecs g u i from eG _ (by omega) (by omega), show pays (up (up g 4 q) 5 y) u i = pays g u i from eG _ (by omega) (by omega)]
    exact a5 i hi
  · intro l hl
    have X := hL l hl
    have el : lostN (up (up g 4 q) 5 y) l = lostN g l := by rw [lostN_los, lostN_los, eG _ (by omega) (by omega), eG _ (by omega) (by omega)]
    unfold PicL at X ⊢
    rw [upK_k (show (12 : Nat) ≠ 0 by decide), upK_k (show (13 : Nat) ≠ 0 by decide), el, eG (214 + 11 * l) (by omega) (by omega), eG (215 + 11 * l) (by omega) (by omega), eG (216 + 11 * l) (by omega) (by omega), eG (217 + 11 * l) (by omega) (by omega), eG (222 + 11 * l) (by omega) (by omega), eG (223 + 11 * l) (by omega) (by omega), eG (224 + 11 * l) (by omega) (by omega)]
    refine ⟨X.1, X.2.1, fun f hf => ?_, X.2.2.2⟩
    rw [eG _ (by omega) (by omega)]
    exact X.2.2.1 f hf
theorem WF.r8 {g : Nat → Nat} (hw : WF g) : ∀ u, u < 10 → g (44 + u) ≤ 8 := fun v hv => Nat.le_trans (hw.2.2.2.2.2.2.1 v hv).2.2 hw.1.2
theorem up_self (g : Nat → Nat) (i : Nat) : up g i (g i) = g := by
  funext j
  by_cases c : j = i
  · subst c; exact up_same _ _ _
  · exact up_ne c
theorem c_setState {g : Nat → Nat} {C : nC} (hx : CH h x n) (H : Pic g C) (hw : WF g) (s : Int32) : ∃ C', run 68 0 [.ref x, .int s, .null] [] (NH h (x + 1) C) = some (some (.int (oSetState g s).1), NH h (x + 1) C') ∧ Pic (oSetState g s).2 C' := by
  have hxx := hx.at
  unfold oSetState
  by_cases c : s < 0
  · exact ⟨C, by simp only [s68_0, s68_1, s68_4, s68_5, c, if_true], by simpa [c] using H⟩
  · obtain ⟨j, hj, rfl⟩ := nI_of c
    have h4 := hw.2.2.2.2.1
    have o4 := H.1.2.2.2.1
    refine ⟨upK C 0 0 (w9 (C 0 0 0) (C 0 0 2) (C 0 0 4) j (C 0 0 7) (C 0 0 8)), ?_, ?_⟩
    · rw [← o4] at h4 ⊢
      simp (disch := omega) only [s68_0, s68_1, s68_4, s68_5, s68_6, s68_7, s68_10, s68_13, s68_14, s68_15, s68_16, s68_19, s68_20, s68_21, s68_24, s68_25, gf0, gf1, gf2, gf3, gf4, gf5, gf6, gf7, gf8, gf9, gf10, gf11, gf12, gf13, gf14, pu0, pu1, pu2, pu3, pu4, pu5, pu6, pu7, pu8, pu9, pu10, pu11, pu12, pu13, pu14, rc_at, bK_some, Option.toList_some, Option.toList_none, List.cons_append, List.nil_append, hxx, NH_0, NH_so, c, if_false, lN_i, nI_l hj]
    · simp only [c, if_false, cl_nI hj]
      have := Pic_lim H j (g 5) hw.r8
      rw [show up (up g 4 j) 5 (g 5) = up g 4 j from by
        have := up_self (up g 4 j) 5
        rw [up_ne (by decide)] at this
        exact this] at this
      rw [H.1.2.2.2.2.1]
      exact this
theorem c_setLimit {g : Nat → Nat} {C : nC} (hx : CH h x n) (H : Pic g C) (hw : WF g) (s : Int32) : ∃ C', run 69 0 [.ref x, .int s, .null] [] (NH h (x + 1) C) = some (some (.int (oSetLimit g s).1), NH h (x + 1) C') ∧ Pic (oSetLimit g s).2 C' := by
  have hxx := hx.at
  unfold oSetLimit inI
  simp only [s69_0, s69_1, s69_2, s69_5, s69_6, s69_8, s69_11, s69_12]
  by_cases c1 : s < nI 1
  · exact ⟨C, by simp [c1], by simpa [c1] using H⟩
  · by_cases c2 : nI 9 < s
    · exact ⟨C, by simp [c1, c2], by simpa [c1, c2] using H⟩
    · obtain ⟨j, h1, h2, rfl⟩ := arg_in (by decide) c1 c2 (by decide)
      have h3 : cl (nI j) = j := cl_nI (by omega)
      refine ⟨upK C 0 0 (w9 (C 0 0 0) (C 0 0 2) (C 0 0 4) (C 0 0 6) j (C 0 0 8)), ?_, ?_⟩
      · simp (disch := omega) only [s69_13, s69_14, s69_17, s69_20, s69_21, s69_22, s69_25, s69_26, s69_29, s69_30, gf0, gf1, gf2, gf3, gf4, gf5, gf6, gf7, gf8, gf9, gf10, gf11, gf12, gf13, gf14, pu0, pu1, pu2, pu3, pu4, pu5, pu6, pu7, pu8, pu9, pu10, pu11, pu12, pu13, pu14, rc_at, bK_some, Option.toList_some, Option.toList_none, List.cons_append, List.nil_append, hxx, NH_0, NH_so, c1, c2, if_false, if_true, not_false_eq_true, decide_true, Bool.and_self, H.1.2.2.2.2.1]
      · simp only [c1, c2, not_false_eq_true, decide_true, Bool.and_self, if_true, h3]
        have := Pic_lim H (g 4) j hw.r8
        rw [up_self] at this
        rw [H.1.2.2.2.1]
        exact this
end RN
