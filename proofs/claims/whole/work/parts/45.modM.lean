/-! checks and flows -/
def gMark (g : Nat → Nat) (v : Nat) : Nat → Nat := up (up g (24 + v) (g (24 + v) + 1)) (34 + v) (if nI (g (24 + v) + 1) < nI (g 5) then 0 else 1)
def gChk (g : Nat → Nat) (v p : Nat) : Nat → Nat := if susN g v p = true then gMark g v else g
def oCheck (g : Nat → Nat) (v p : Int32) : Int32 × (Nat → Nat) :=
  if relN g v = true ∧ inI p (nI 1) (nI (2 ^ g 0 - 1)) = true then (if g (34 + cl v) = 1 then (-3, g) else (nI (gChk g (cl v) (cl p) (24 + cl v)), gChk g (cl v) (cl p))) else (-1, g)
def qMarks (g : Nat → Nat) (v : Int32) : Int32 := if lkB (g 1) v = true then nI (g (24 + cl v)) else -1
def qCut (g : Nat → Nat) (v : Int32) : Int32 := if lkB (g 1) v = true then nI (g (34 + cl v)) else -1
def unB (g : Nat → Nat) (v : Nat) : Bool := relN g (nI v) && decide (g (34 + v) = 0)
def unC (g : Nat → Nat) : Nat := cntN (fun i => unB g (1 + i)) (g 1 - 1)
def unF (g : Nat → Nat) (q : Nat) : Option Nat := firstN (fun i => unB g (1 + i) && decide (cntN (fun i => unB g (1 + i)) i = q)) (g 1 - 1)
theorem WF.mark {g : Nat → Nat} (hw : WF g) {v : Nat} (hv : v < 10) : WF (gMark g v) := by
  obtain ⟨w1, w2, w3, w4, w5, w6, w7, w8, w9, w10⟩ := hw
  have e : ∀ j, j ≠ 24 + v → j ≠ 34 + v → gMark g v j = g j := fun j h1 h2 => by unfold gMark; rw [up_ne h2, up_ne h1]
  have e0 := e 0 (by omega) (by omega)
  refine ⟨by rw [e0]; exact w1, by rw [e 1 (by omega) (by omega)]; exact w2, by rw [e 2 (by omega) (by omega)]; exact w3, fun l hl => ?_, by rw [e 4 (by omega) (by omega)]; exact w5, by rw [e 5 (by omega) (by omega)]; exact w6, fun u hu => ?_, fun u i hu hi => ?_, fun j hj => by rw [e _ (by omega) (by omega)]; exact w9 j hj, by rw [e 14 (by omega) (by omega)]; exact w10⟩
  · rw [e 2 (by omega) (by omega)] at hl
    rw [e (214 + 11 * l) (by omega) (by omega), e (215 + 11 * l) (by omega) (by omega), e (216 + 11 * l) (by omega) (by omega), e 1 (by omega) (by omega)]
    exact w4 l hl
  · rw [e (14 + u) (by omega) (by omega), e (44 + u) (by omega) (by omega), e0]
    refine ⟨(w7 u hu).1, ?_, (w7 u hu).2.2⟩
    unfold gMark
    by_cases huv : u = v
    · subst huv; rw [up_same]; split <;> omega
    · rw [up_ne (by omega), up_ne (by omega)]; exact (w7 u hu).2.1
  · rw [e (44 + u) (by omega) (by omega)] at hi
    have := (w7 u hu).2.2
    rw [e _ (by omega) (by omega), e0]
    exact w8 u i hu hi
theorem WS.mark {g : Nat → Nat} (hw : WF g) (hs : WS g) {v : Nat} (hv : v < 10) : WS (gMark g v) := by
  intro u hu
  obtain ⟨L, P, h⟩ := hs u hu
  have e : ∀ j, j ≠ 24 + v → j ≠ 34 + v → gMark g v j = g j := fun j h1 h2 => by unfold gMark; rw [up_ne h2, up_ne h1]
  rw [e (44 + u) (by omega) (by omega), e 0 (by omega) (by omega)]
  exact ⟨L, P, h.congr fun i hi => e _ (by omega) (by omega)⟩
section MM
variable {h : aH} {x : Nat} {r : List Value} {g : Nat → Nat}
theorem m_checks (H : MO h x r g) (hw : WF g) {v p : Nat} (hv : v < 10) (hp : p < 256) : run 162 0 [.ref x, .int (nI v), .int (nI p)] [] h = some (some (.int (bI (susN g v p))), hset h (x + 1) (mI (gChk g v p))) := by
  obtain ⟨H1, H2⟩ := id H
  simp only [s162_0, s162_1, s162_2, s162_3, s162_6, s162_9, s162_10, gf0, gf1, gf2, gf3, gf4, gf5, gf6, gf7, gf8, gf9, gf10, gf11, gf12, gf13, gf14, pu0, pu1, pu2, pu3, pu4, pu5, pu6, pu7, pu8, pu9, pu10, pu11, pu12, pu13, pu14, rc_at, bK_some, Option.toList_some, Option.toList_none, List.cons_append, List.nil_append, H1, m_isSuspect H hw hv hp, bI_0]
  unfold gChk
  cases susN g v p
  · simp [z01_0, bI, mI, H.eq2]
  · simp (disch := omega) only [Bool.true_eq_false, if_false, if_true, s162_11, s162_12, s162_15, s162_17, s162_18, s162_19, s162_20, s162_21, s162_22, s162_23, s162_24, s162_25, s162_28, s162_30, s162_31, s162_32, s162_33, s162_36, s162_38, s162_39, s162_40, s162_41, s162_42, s162_45, s162_46, gf0, gf1, gf2, gf3, gf4, gf5, gf6, gf7, gf8, gf9, gf10, gf11, gf12, gf13, gf14, pu0, pu1, pu2, pu3, pu4, pu5, pu6, pu7, pu8, pu9, pu10, pu11, pu12, pu13, pu14, rc_at, bK_some, Option.toList_some, Option.toList_none, List.cons_append, List.nil_append, H1, H2, hget_set, hget_ne, hset_set, mI, nI_mul, nI_adds, al_I, as_I, nf_at, upd_nf, up_same, up_ne]
    have e5 : up g (24 + v) (g (24 + v) + 1) 5 = g 5 := up_ne (by omega)
    by_cases c : nI (g (24 + v) + 1) < nI (g 5)
    · simp (disch := omega) only [s162_47, s162_50, s162_51, s162_54, s162_55, s162_56, s162_57, c, if_true, hget_set, hget_ne, hset_set, mI, nI_mul, nI_adds, al_I, as_I, nf_at, upd_nf, z01_1, bI, gMark]
    · simp (disch := omega) only [s162_47, s162_50, s162_51, s162_54, s162_55, s162_56, s162_57, c, if_false, if_true, hget_set, hget_ne, hset_set, mI, nI_mul, nI_adds, al_I, as_I, nf_at, upd_nf, z01_1, bI, gMark]
theorem m_check (H : MO h x r g) (hw : WF g) (v p : Int32) : run 163 0 [.ref x, .int v, .int p, .null] [] h = some (some (.int (oCheck g v p).1), hset h (x + 1) (mI (oCheck g v p).2)) := by
  have hn := hw.2.1
  have hk := hw.1
  have hpw := pow_8 hk.2
  have h20 := hw.2.2.1
  obtain ⟨H1, H2⟩ := id H
  simp (disch := omega) only [s163_0, s163_1, s163_2, s163_5, s163_8, s163_9, s163_10, s163_13, s163_16, s163_17, gf0, gf1, gf2, gf3, gf4, gf5, gf6, gf7, gf8, gf9, gf10, gf11, gf12, gf13, gf14, pu0, pu1, pu2, pu3, pu4, pu5, pu6, pu7, pu8, pu9, pu10, pu11, pu12, pu13, pu14, rc_at, bK_some, Option.toList_some, Option.toList_none, List.cons_append, List.nil_append, H1, m_isRelay H h20, m_isProjection H, bI_0]
  unfold oCheck
  cases c1 : relN g v
  · simp [mI, H.eq2]
  · cases c2 : inI p (nI 1) (nI (2 ^ g 0 - 1))
    · simp [mI, H.eq2]
    · obtain ⟨j, j0, j1, rfl, j3⟩ := relN_t hw c1
      obtain ⟨k, k1, k2, rfl, k3⟩ := inI_t (by omega) (by decide) c2
      have hc := (hw.2.2.2.2.2.2.1 j (by omega)).2.1
      simp (disch := omega) only [s163_18, s163_19, s163_22, s163_24, s163_25, s163_26, s163_27, s163_28, s163_31, s163_33, gf0, gf1, gf2, gf3, gf4, gf5, gf6, gf7, gf8, gf9, gf10, gf11, gf12, gf13, gf14, pu0, pu1, pu2, pu3, pu4, pu5, pu6, pu7, pu8, pu9, pu10, pu11, pu12, pu13, pu14, rc_at, bK_some, Option.toList_some, Option.toList_none, List.cons_append, List.nil_append, H1, H2, hget_set, hget_ne, hset_set, mI, nI_mul, nI_adds, al_I, as_I, nf_at, upd_nf, nI_eqs, Bool.true_eq_false, if_false, if_true, and_true, j3, k3]
      by_cases c3 : g (34 + j) = 1
      · simp only [c3, if_true, H.eq2]
      · have C := m_checks H hw (show j < 10 by omega) (show k < 256 by omega)
        simp only [mI] at C
        simp (disch := omega) only [c3, if_false, s163_34, s163_35, s163_36, s163_37, s163_40, s163_41, s163_42, s163_45, s163_47, s163_48, s163_49, s163_50, gf0, gf1, gf2, gf3, gf4, gf5, gf6, gf7, gf8, gf9, gf10, gf11, gf12, gf13, gf14, pu0, pu1, pu2, pu3, pu4, pu5, pu6, pu7, pu8, pu9, pu10, pu11, pu12, pu13, pu14, rc_at, bK_some, Option.toList_some, Option.toList_none, List.cons_append, List.nil_append, H1, C, hget_set, hget_ne, hset_set, mI, nI_mul, nI_adds, al_I, as_I, nf_at, upd_nf]
theorem m_marks (H : MO h x r g) (hw : WF g) (v : Int32) : run 166 0 [.ref x, .int v] [] h = some (some (.int (qMarks g v)), h) := by
  have hn := hw.2.1
  obtain ⟨H1, H2⟩ := id H
  simp only [s166_0, s166_1, s166_2, s166_5, gf0, gf1, gf2, gf3, gf4, gf5, gf6, gf7, gf8, gf9, gf10, gf11, gf12, gf13, gf14, pu0, pu1, pu2, pu3, pu4, pu5, pu6, pu7, pu8, pu9, pu10, pu11, pu12, pu13, pu14, rc_at, bK_some, Option.toList_some, Option.toList_none, List.cons_append, List.nil_append, H1, m_node H, bI_0]
  unfold qMarks
  cases c1 : lkB (g 1) v
  · simp [s166_8, s166_9, s166_12, s166_14, s166_15, s166_16, s166_17, s166_20, s166_21]
  · obtain ⟨j, j1, rfl, j3⟩ := lkB_t (by omega) c1
    simp (disch := omega) only [s166_8, s166_9, s166_12, s166_14, s166_15, s166_16, s166_17, s166_20, s166_21, gf0, gf1, gf2, gf3, gf4, gf5, gf6, gf7, gf8, gf9, gf10, gf11, gf12, gf13, gf14, pu0, pu1, pu2, pu3, pu4, pu5, pu6, pu7, pu8, pu9, pu10, pu11, pu12, pu13, pu14, rc_at, bK_some, Option.toList_some, Option.toList_none, List.cons_append, List.nil_append, H1, H2, hget_set, hget_ne, hset_set, mI, nI_mul, nI_adds, al_I, as_I, nf_at, upd_nf, Bool.true_eq_false, if_false, if_true, j3]
theorem m_isCutOff (H : MO h x r g) (hw : WF g) (v : Int32) : run 167 0 [.ref x, .int v] [] h = some (some (.int (qCut g v)), h) := by
  have hn := hw.2.1
  obtain ⟨H1, H2⟩ := id H
  simp only [s167_0, s167_1, s167_2, s167_5, gf0, gf1, gf2, gf3, gf4, gf5, gf6, gf7, gf8, gf9, gf10, gf11, gf12, gf13, gf14, pu0, pu1, pu2, pu3, pu4, pu5, pu6, pu7, pu8, pu9, pu10, pu11, pu12, pu13, pu14, rc_at, bK_some, Option.toList_some, Option.toList_none, List.cons_append, List.nil_append, H1, m_node H, bI_0]
  unfold qCut
  cases c1 : lkB (g 1) v
  · simp [s167_8, s167_9, s167_12, s167_14, s167_15, s167_16, s167_17, s167_20, s167_21]
  · obtain ⟨j, j1, rfl, j3⟩ := lkB_t (by omega) c1
    simp (disch := omega) only [s167_8, s167_9, s167_12, s167_14, s167_15, s167_16, s167_17, s167_20, s167_21, gf0, gf1, gf2, gf3, gf4, gf5, gf6, gf7, gf8, gf9, gf10, gf11, gf12, gf13, gf14, pu0, pu1, pu2, pu3, pu4, pu5, pu6, pu7, pu8, pu9, pu10, pu11, pu12, pu13, pu14, rc_at, bK_some, Option.toList_some, Option.toList_none, List.cons_append, List.nil_append, H1, H2, hget_set, hget_ne, hset_set, mI, nI_mul, nI_adds, al_I, as_I, nf_at, upd_nf, Bool.true_eq_false, if_false, if_true, j3]
theorem m_uncut_all (H : MO h x r g) (hw : WF g) : run 164 0 [.ref x, .int (-1), .null, .null] [] h = some (some (.int (nI (unC g))), h) := by
  have hn := hw.2.1
  have h20 := hw.2.2.1
  obtain ⟨H1, H2⟩ := id H
  simp only [s164_0, s164_1, s164_2, s164_3]
  obtain ⟨L, -⟩ := loop_inv (fun i (c : Nat) => run 164 4 [.ref x, .int (-1), .int (nI c), .int (nI (1 + i))] [] h) (fun i c => c + (if unB g (1 + i) = true then 1 else 0)) (fun i c => c ≤ i) (g 1 - 1) (by
    intro i c hi hci
    refine ⟨?_, by split <;> omega⟩
    have hcut := (hw.2.2.2.2.2.2.1 (1 + i) (by omega)).2.1
    have hc1 : (nI c = (-1 : Int32)) = False := by
      have : ∀ c, c < 10 → ¬ nI c = (-1 : Int32) := by decide +kernel
      exact eq_false (this c (by omega))
    rw [s164_4]
    simp (disch := omega) only [s164_5, s164_6, s164_9, s164_10, s164_11, s164_14, s164_15, s164_16, s164_19, gf0, gf1, gf2, gf3, gf4, gf5, gf6, gf7, gf8, gf9, gf10, gf11, gf12, gf13, gf14, pu0, pu1, pu2, pu3, pu4, pu5, pu6, pu7, pu8, pu9, pu10, pu11, pu12, pu13, pu14, rc_at, bK_some, Option.toList_some, Option.toList_none, List.cons_append, List.nil_append, H1, H2, hget_set, hget_ne, hset_set, mI, nI_mul, nI_adds, al_I, as_I, nf_at, upd_nf, nI_lts, show 1 + i < g 1 from by omega, if_true, m_isRelay H h20, bI_0]
    unfold unB
    cases relN g (nI (1 + i))
    · simp [s164_44, s164_47, nI_adds, Nat.add_assoc]
    · simp (disch := omega) only [Bool.true_eq_false, if_false, s164_22, s164_23, s164_26, s164_28, s164_29, s164_30, s164_31, gf0, gf1, gf2, gf3, gf4, gf5, gf6, gf7, gf8, gf9, gf10, gf11, gf12, gf13, gf14, pu0, pu1, pu2, pu3, pu4, pu5, pu6, pu7, pu8, pu9, pu10, pu11, pu12, pu13, pu14, rc_at, bK_some, Option.toList_some, Option.toList_none, List.cons_append, List.nil_append, H1, H2, hget_set, hget_ne, hset_set, mI, nI_mul, nI_adds, al_I, as_I, nf_at, upd_nf, nI_eq0, Bool.true_and]
      by_cases c3 : g (34 + (1 + i)) = 0
      · simp [c3, s164_34, s164_35, s164_36, s164_39, s164_40, s164_41, s164_44, s164_47, hc1, nI_adds, Nat.add_assoc]
      · simp [c3, s164_34, s164_35, s164_36, s164_39, s164_40, s164_41, s164_44, s164_47, nI_adds, Nat.add_assoc]) 0 (Nat.zero_le 0)
  simp only [Nat.add_zero] at L
  rw [fold_cnt, Nat.zero_add] at L
  rw [L, s164_4]
  simp (disch := omega) only [s164_5, s164_6, s164_9, s164_10, s164_11, s164_50, s164_51, gf0, gf1, gf2, gf3, gf4, gf5, gf6, gf7, gf8, gf9, gf10, gf11, gf12, gf13, gf14, pu0, pu1, pu2, pu3, pu4, pu5, pu6, pu7, pu8, pu9, pu10, pu11, pu12, pu13, pu14, rc_at, bK_some, Option.toList_some, Option.toList_none, List.cons_append, List.nil_append, H1, H2, hget_set, hget_ne, hset_set, mI, nI_mul, nI_adds, al_I, as_I, nf_at, upd_nf, nI_lts, show ¬ (1 + (g 1 - 1) < g 1) from by omega, if_false]
  rfl
theorem m_uncut (H : MO h x r g) (hw : WF g) {q i : Nat} (hf : unF g q = some i) : run 164 0 [.ref x, .int (nI q), .null, .null] [] h = some (some (.int (nI (1 + i))), h) := by
  have hn := hw.2.1
  have h20 := hw.2.2.1
  obtain ⟨H1, H2⟩ := id H
  obtain ⟨f1, f2, f3⟩ := firstN_some.mp hf
  simp only [Bool.and_eq_true, decide_eq_true_eq] at f2
  have hq : q < 10 := by
    have := cntN_le (fun i => unB g (1 + i)) i
    omega
  have key : ∀ m, m ≤ i → run 164 4 [.ref x, .int (nI q), .int (nI 0), .int (nI 1)] [] h = run 164 4 [.ref x, .int (nI q), .int (nI (cntN (fun i => unB g (1 + i)) m)), .int (nI (1 + m))] [] h := by
    intro m
    induction m with
    | zero => intro _; rfl
    | succ m ih =>
      intro hm
      have hcm := cntN_le (fun i => unB g (1 + i)) m
      have hno := f3 m (by omega)
      have hcut := (hw.2.2.2.2.2.2.1 (1 + m) (by omega)).2.1
      rw [ih (by omega), s164_4]
      simp (disch := omega) only [s164_5, s164_6, s164_9, s164_10, s164_11, s164_14, s164_15, s164_16, s164_19, gf0, gf1, gf2, gf3, gf4, gf5, gf6, gf7, gf8, gf9, gf10, gf11, gf12, gf13, gf14, pu0, pu1, pu2, pu3, pu4, pu5, pu6, pu7, pu8, pu9, pu10, pu11, pu12, pu13, pu14, rc_at, bK_some, Option.toList_some, Option.toList_none, List.cons_append, List.nil_append, H1, H2, hget_set, hget_ne, hset_set, mI, nI_mul, nI_adds, al_I, as_I, nf_at, upd_nf, nI_lts, show 1 + m < g 1 from by omega, if_true, m_isRelay H h20, bI_0, cntN]
      by_cases hu : unB g (1 + m) = true
      · have hne : ¬ cntN (fun i => unB g (1 + i)) m = q := by
          intro e
          simp [hu, e] at hno
        have hu2 := hu
        unfold unB at hu2
        simp only [Bool.and_eq_true, decide_eq_true_eq] at hu2
        simp (disch := omega) only [hu2.1, hu2.2, hu, Bool.true_eq_false, if_false, if_true, s164_22, s164_23, s164_26, s164_28, s164_29, s164_30, s164_31, s164_34, s164_35, s164_36, s164_39, s164_40, s164_41, s164_44, s164_47, gf0, gf1, gf2, gf3, gf4, gf5, gf6, gf7, gf8, gf9, gf10, gf11, gf12, gf13, gf14, pu0, pu1, pu2, pu3, pu4, pu5, pu6, pu7, pu8, pu9, pu10, pu11, pu12, pu13, pu14, rc_at, bK_some, Option.toList_some, Option.toList_none, List.cons_append, List.nil_append, H1, H2, hget_set, hget_ne, hset_set, mI, nI_mul, nI_adds, al_I, as_I, nf_at, upd_nf, nI_eq0, nI_eqs, hne, Nat.add_assoc]
      · have hu2 : unB g (1 + m) = false := by simpa using hu
        rw [if_neg hu]
        unfold unB at hu2
        cases hr : relN g (nI (1 + m))
        · simp [s164_44, s164_47, nI_adds, Nat.add_assoc]
        · rw [hr] at hu2
          have hc0 : ¬ g (34 + (1 + m)) = 0 := by simpa using hu2
          simp (disch := omega) only [Bool.true_eq_false, if_false, s164_22, s164_23, s164_26, s164_28, s164_29, s164_30, s164_31, gf0, gf1, gf2, gf3, gf4, gf5, gf6, gf7, gf8, gf9, gf10, gf11, gf12, gf13, gf14, pu0, pu1, pu2, pu3, pu4, pu5, pu6, pu7, pu8, pu9, pu10, pu11, pu12, pu13, pu14, rc_at, bK_some, Option.toList_some, Option.toList_none, List.cons_append, List.nil_append, H1, H2, hget_set, hget_ne, hset_set, mI, nI_mul, nI_adds, al_I, as_I, nf_at, upd_nf, nI_eq0, hc0, s164_44, s164_47, Nat.add_assoc, Bool.false_eq_true, Nat.add_zero]
  simp only [s164_0, s164_1, s164_2, s164_3]
  have hu2 := f2.1
  unfold unB at hu2
  simp only [Bool.and_eq_true, decide_eq_true_eq] at hu2
  rw [key i (Nat.le_refl i), f2.2, s164_4]
  simp (disch := omega) only [s164_5, s164_6, s164_9, s164_10, s164_11, s164_14, s164_15, s164_16, s164_19, s164_22, s164_23, s164_26, s164_28, s164_29, s164_30, s164_31, s164_34, s164_35, s164_36, s164_39, s164_40, gf0, gf1, gf2, gf3, gf4, gf5, gf6, gf7, gf8, gf9, gf10, gf11, gf12, gf13, gf14, pu0, pu1, pu2, pu3, pu4, pu5, pu6, pu7, pu8, pu9, pu10, pu11, pu12, pu13, pu14, rc_at, bK_some, Option.toList_some, Option.toList_none, List.cons_append, List.nil_append, H1, H2, hget_set, hget_ne, hset_set, mI, nI_mul, nI_adds, al_I, as_I, nf_at, upd_nf, nI_lts, show 1 + i < g 1 from by omega, if_true, m_isRelay H h20, bI_0, hu2.1, hu2.2, Bool.true_eq_false, if_false, nI_eq0]
end MM
