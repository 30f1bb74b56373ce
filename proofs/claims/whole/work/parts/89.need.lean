/-! the class: flow, neededLink -/
theorem SI.back {n : Nat} {op : Nat → Bool} {fm ot U0 R B ord : Nat → Nat} {s : Nat} (H : SI n op fm ot U0 s R B ord) {v : Nat} {U : Nat → Nat} (hv : v < 10) (hr : R v ≠ 0) (c : v ≠ s) (hag : ∀ u, u < 10 → R u ≠ 0 → u ≠ s → ord u ≤ ord v → U (B u) = U0 (B u)) : nrN fm ot U (B v) = nrN fm ot U0 (B v) ∧ ∀ u, u < 10 → R u ≠ 0 → u ≠ s → ord u ≤ ord (nrN fm ot U0 (B v)) → fpN U (B v) (B u) = U0 (B u) := by
  obtain ⟨a1, a2, a3, a4, a5⟩ := H.2.2.2 v hv hr c
  have e0 : U (B v) = U0 (B v) := hag v hv hr c (Nat.le_refl _)
  refine ⟨by unfold nrN; rw [e0], ?_⟩
  intro u hu ru us ho
  have q : B u ≠ B v := by
    intro e
    have := (H.2.2.2 u hu ru us).2.2.1
    rw [e, a3] at this
    subst this
    omega
  unfold fpN
  rw [up_ne q]
  exact hag u hu ru us (by omega)
theorem nI_m4 {l : Nat} (hl : l < 2 ^ 31) : ¬ nI l = -4 := by
  rw [m4]
  intro e
  have z := NON_ne hl
  rw [e] at z
  exact (z ▸ rfl : False)
section WN
variable {h : aH} {b y : Nat} {g : Nat → Nat} {C : nC} {U R B : Nat → Nat}
theorem c_turnBack {ord : Nat → Nat} (hWy : hget h y = some (.inr (5, [.ref (y + 1), .ref (y + 2), .ref (y + 3)]))) (hy : b + 134 ≤ y) (H : Pic g C) (hw : WF g) (hU : ∀ l, U l ≤ 1) (hS : SI (g 2) (opN g) (FM g) (OT g) U 0 R B ord) {t : Nat} (ht : t < 10) (hr : R t ≠ 0) : run 60 0 [.ref y, .ref b, .int (nI t), .null, .null, .null, .null] [] (NH (WH h y U R B) b C) = some (none, NH (WH h y (tbk (FM g) (OT g) B 0 10 t U) R B) b C) := by
  have h20 := hw.2.2.1
  have o2 := H.1.2.2.1
  have y0 : ∀ U R B, hget (NH (WH h y U R B) b C) y = some (.inr (5, [.ref (y + 1), .ref (y + 2), .ref (y + 3)])) := fun U R B => by rw [NW_0 hy]; exact hWy
  have key : ∀ k v V st w5 w6, st + k = 10 → v < 10 → R v ≠ 0 → ord v < k → (∀ l, V l ≤ 1) → (∀ u, u < 10 → R u ≠ 0 → u ≠ 0 → ord u ≤ ord v → V (B u) = U (B u)) → run 60 5 [.ref y, .ref b, .int (nI t), .int (nI v), .int (nI st), w5, w6] [] (NH (WH h y V R B) b C) = some (none, NH (WH h y (tbk (FM g) (OT g) B 0 k v V) R B) b C) := by
    intro k
    induction k with
    | zero => intro v V st w5 w6 _ _ _ z; omega
    | succ k ih =>
      intro v V st w5 w6 hk hv rv ov hV hag
      rw [s60_5]
      simp only [tbk]
      by_cases c : v = 0
      · subst c
        simp (disch := omega) only [s60_7, s60_9, s60_12, s60_13, s60_95, nI_lts, show st < 10 from by omega, if_true, z0_0]
      · obtain ⟨a1, a2, a3, a4, a5⟩ := hS.2.2.2 v hv rv c
        obtain ⟨b1, b2⟩ := hS.back hv rv c hag
        have l20 : B v < 20 := by omega
        have ends := hw.ends a1
        have nr := hw.nr (U := U) a1
        have hl : hbI (nI (B v)) (C 0 0 4) = true := by rw [H.link hw, lkB_nI (by omega) a1]
        have e0 : C 12 (B v) 0 = FM g (B v) := (H.2.2 _ l20).1.1
        have e1 : C 12 (B v) 1 = OT g (B v) := (H.2.2 _ l20).1.2.1
        have hVl := hV (B v)
        have I := ih (nrN (FM g) (OT g) U (B v)) (fpN V (B v)) (st + 1) (.int (nI (B v))) (.ref (lkA b (B v))) (by omega) nr.1 a4 (by omega) (fun l => by
          unfold fpN
          by_cases q : l = B v
          · subst q; rw [up_same]; split <;> decide
          · rw [up_ne q]; exact hV l) b2
        rw [← b1] at I
        simp only [c, if_false]
        rw [← I]
        unfold nrN fpN
        by_cases z : V (B v) = 0
        · simp (disch := omega) only [s60_7, s60_9, s60_12, s60_13, s60_16, s60_17, s60_20, s60_21, s60_22, s60_24, s60_25, s60_27, s60_30, s60_33, s60_34, s60_35, s60_38, s60_40, s60_41, s60_43, s60_44, s60_47, s60_49, s60_50, s60_53, s60_55, s60_58, s60_61, s60_63, s60_66, s60_67, s60_68, s60_71, s60_73, s60_74, s60_77, s60_79, s60_80, s60_83, s60_84, s60_87, s60_88, s60_89, s60_92, gf0, gf1, gf2, gf3, gf4, gf5, gf6, gf7, gf8, gf9, gf10, gf11, gf12, gf13, gf14, pu0, pu1, pu2, pu3, pu4, pu5, pu6, pu7, pu8, pu9, pu10, pu11, pu12, pu13, pu14, rc_at, bK_some, Option.toList_some, Option.toList_none, List.cons_append, List.nil_append, y0, NW_1 hy, NW_3 hy, NW_s1 hy, NH_0, NH_93, c_hasLink, hl, bI_t, z1_0, if_false, nI_lts, show st < 10 from by omega, if_true, nI_eq0, c, al_N, al_lk, NH_l l20, al_z, as_z, z, e0, e1, nar_1, nI_adds, Nat.one_ne_zero]
        · simp (disch := omega) only [s60_7, s60_9, s60_12, s60_13, s60_16, s60_17, s60_20, s60_21, s60_22, s60_24, s60_25, s60_27, s60_30, s60_33, s60_34, s60_35, s60_38, s60_40, s60_41, s60_43, s60_44, s60_47, s60_49, s60_50, s60_53, s60_55, s60_58, s60_61, s60_63, s60_66, s60_67, s60_68, s60_71, s60_73, s60_74, s60_77, s60_79, s60_80, s60_83, s60_84, s60_87, s60_88, s60_89, s60_92, gf0, gf1, gf2, gf3, gf4, gf5, gf6, gf7, gf8, gf9, gf10, gf11, gf12, gf13, gf14, pu0, pu1, pu2, pu3, pu4, pu5, pu6, pu7, pu8, pu9, pu10, pu11, pu12, pu13, pu14, rc_at, bK_some, Option.toList_some, Option.toList_none, List.cons_append, List.nil_append, y0, NW_1 hy, NW_3 hy, NW_s1 hy, NH_0, NH_93, c_hasLink, hl, bI_t, z1_0, if_false, nI_lts, show st < 10 from by omega, if_true, nI_eq0, c, al_N, al_lk, NH_l l20, al_z, as_z, z, e0, e1, nar_0, nI_adds, Nat.one_ne_zero]
  have o : ord t < 10 := by
    have := hS.2.2.1 t ht hr
    have : ctR R ≤ 10 := cntN_le _ _
    omega
  simp only [s60_0, s60_1, s60_2, s60_3]
  exact key 10 t U 0 .null .null rfl ht hr o hU (fun _ _ _ _ _ => rfl)
theorem fl_cut {ord : Nat → Nat} {s t f : Nat} (hw : WF g) (F : isFl g t f U) (hS : SI (g 2) (opN g) (FM g) (OT g) U s R B ord) (hC : CLo (g 2) (opN g) (FM g) (OT g) U R) : (f : Int) * (siZ (decide (R 0 ≠ 0)) - siZ (decide (R t ≠ 0))) = (ctS (g 2) (opN g) (FM g) (OT g) (fun _ => true) (fun v => decide (R v ≠ 0)) : Int) := by
  rw [← dS_eq (U := U) (g 2) (fun l _ z => ((F.1 l).2 z).2) (fun l hl ho z => decide_eq_true (hC l hl ho (of_decide_eq_true z)))]
  exact (F.2 (fun v => decide (R v ≠ 0))).symm
theorem c_findAll (hWy : hget h y = some (.inr (5, [.ref (y + 1), .ref (y + 2), .ref (y + 3)]))) (hy : b + 134 ≤ y) (H : Pic g C) (hw : WF g) (hUo : ∀ l, 20 ≤ l → U l = 0) {t : Nat} (ht : t < g 1) : ∃ U' R' B' f, run 56 0 [.ref y, .ref b, .int (nI t), .null] [] (NH (WH h y U R B) b C) = some (some (.int (nI f)), NH (WH h y U' R' B') b C) ∧ isFl g t f U' ∧ f ≤ 20 ∧ f = flW g t (-4) := by
  have h1 := hw.2.1
  have h20 := hw.2.2.1
  have t10 : t < 10 := by omega
  have y0 : ∀ U R B, hget (NH (WH h y U R B) b C) y = some (.inr (5, [.ref (y + 1), .ref (y + 2), .ref (y + 3)])) := fun U R B => by rw [NW_0 hy]; exact hWy
  have k1 : ∀ m, m ≤ 20 → ∃ U', run 56 2 [.ref y, .ref b, .int (nI t), .int (nI 0)] [] (NH (WH h y U R B) b C) = run 56 2 [.ref y, .ref b, .int (nI t), .int (nI m)] [] (NH (WH h y U' R B) b C) ∧ ∀ l, (l < m ∨ 20 ≤ l) → U' l = 0 := by
    intro m
    induction m with
    | zero => intro _; exact ⟨U, rfl, fun l hl => hUo l (by omega)⟩
    | succ m ih =>
      intro hm
      obtain ⟨U1, e1, e2⟩ := ih (by omega)
      refine ⟨up U1 m 0, ?_, fun l hl => ?_⟩
      · rw [e1, s56_2]
        simp (disch := omega) only [s56_3, s56_5, s56_8, s56_9, s56_12, s56_13, s56_14, s56_15, s56_18, gf0, gf1, gf2, gf3, gf4, gf5, gf6, gf7, gf8, gf9, gf10, gf11, gf12, gf13, gf14, pu0, pu1, pu2, pu3, pu4, pu5, pu6, pu7, pu8, pu9, pu10, pu11, pu12, pu13, pu14, rc_at, bK_some, Option.toList_some, Option.toList_none, List.cons_append, List.nil_append, y0, NW_1 hy, NW_s1 hy, nI_lts, show m < 20 from by omega, if_true, nar_0, as_z, nI_adds]
      · by_cases z : l = m
        · subst z; rw [up_same]
        · rw [up_ne z]; exact e2 l (by omega)
  obtain ⟨U1, e1, e2⟩ := k1 20 (Nat.le_refl _)
  have low : ∀ f U, isFl g t f U → f ≤ 20 → f ≤ flW g t (-4) := fun f U F hf => fl_low F hf (fun l z => nI_m4 (by have := ((F.1 l).2 z).1; omega))
  have key : ∀ j f U R B, f + j = 20 → isFl g t f U → ∃ U' R' B' f', run 56 23 [.ref y, .ref b, .int (nI t), .int (nI f)] [] (NH (WH h y U R B) b C) = some (some (.int (nI f')), NH (WH h y U' R' B') b C) ∧ isFl g t f' U' ∧ f' ≤ 20 ∧ f' = flW g t (-4) := by
    intro j
    induction j with
    | zero =>
      intro f U R B hf F
      have : f = 20 := by omega
      subst this
      refine ⟨U, R, B, 20, ?_, F, Nat.le_refl _, ?_⟩
      · rw [s56_23]
        simp (disch := omega) only [s56_24, s56_26, s56_58, s56_60, nI_lts, Nat.lt_irrefl, if_false]
      · have := low 20 U F (Nat.le_refl _)
        have := flW_le g t (-4)
        omega
    | succ j ih =>
      intro f U R B hf F
      have hU : ∀ l, U l ≤ 1 := fun l => (F.1 l).1
      obtain ⟨R', B', ord, r1, hS, hC⟩ := c_search (R := R) (B := B) hWy hy H hw hU (show 0 < 10 by decide)
      have hrt := hS.2.1 t t10
      by_cases z : R' t = 0
      · refine ⟨U, R', B', f, ?_, F, by omega, ?_⟩
        · rw [s56_23]
          simp (disch := omega) only [s56_24, s56_26, s56_29, s56_30, s56_31, s56_32, s56_35, s56_36, s56_39, s56_40, s56_41, s56_44, s56_45, gf0, gf1, gf2, gf3, gf4, gf5, gf6, gf7, gf8, gf9, gf10, gf11, gf12, gf13, gf14, pu0, pu1, pu2, pu3, pu4, pu5, pu6, pu7, pu8, pu9, pu10, pu11, pu12, pu13, pu14, rc_at, bK_some, Option.toList_some, Option.toList_none, List.cons_append, List.nil_append, y0, NW_2 hy, nI_lts, show f < 20 from by omega, if_true, r1, al_y, nI_eq0, z]
        · have L := low f U F (by omega)
          have X := fl_cut hw F hS hC
          have s0 : decide (R' 0 ≠ 0) = true := decide_eq_true hS.1
          have st : decide (R' t ≠ 0) = false := by simp [z]
          have G := fl_high (but := -4) (S := fun v => decide (R' v ≠ 0)) hw ht s0 st
          rw [s0, st] at X
          simp only [siZ, if_true, Bool.false_eq_true, if_false] at X
          have e : cntN (fun l => decide (¬ nI l = -4) && opN g l && (fun v => decide (R' v ≠ 0)) (g (214 + 11 * l)) && !(fun v => decide (R' v ≠ 0)) (g (215 + 11 * l))) (g 2) = ctS (g 2) (opN g) (FM g) (OT g) (fun _ => true) (fun v => decide (R' v ≠ 0)) := by
            unfold ctS
            refine cntN_congr (fun l hl => ?_)
            rw [decide_eq_true (nI_m4 (show l < 2 ^ 31 by omega))]
            rfl
          rw [e] at G
          omega
      · have T := TB hS (fun l hl => ⟨(hw.ends hl).1, (hw.ends hl).2.1⟩) 10 t U t10 z (by
          have := hS.2.2.1 t t10 z
          have : ctR R' ≤ 10 := cntN_le _ _
          omega) F.1 (fun _ _ _ _ _ => rfl)
        have tb := c_turnBack hWy hy H hw hU hS t10 z
        have F' : isFl g t (f + 1) (tbk (FM g) (OT g) B' 0 10 t U) := by
          refine ⟨T.2.1, fun S => ?_⟩
          have e1 := T.1 S
          have e2 := F.2 S
          have e3 : dS (FM g) (OT g) U S (g 2) = (f : Int) * (siZ (S 0) - siZ (S t)) := e2
          rw [e3] at e1
          refine Eq.trans e1 ?_
          rw [show ((f + 1 : Nat) : Int) = (f : Int) + 1 from by omega, Int.add_mul, Int.one_mul]
        obtain ⟨U', R2, B2, f', q1, q2⟩ := ih (f + 1) _ R' B' (by omega) F'
        refine ⟨U', R2, B2, f', ?_, q2⟩
        rw [s56_23]
        simp (disch := omega) only [s56_24, s56_26, s56_29, s56_30, s56_31, s56_32, s56_35, s56_36, s56_39, s56_40, s56_41, s56_44, s56_45, s56_46, s56_47, s56_48, s56_49, s56_52, s56_55, gf0, gf1, gf2, gf3, gf4, gf5, gf6, gf7, gf8, gf9, gf10, gf11, gf12, gf13, gf14, pu0, pu1, pu2, pu3, pu4, pu5, pu6, pu7, pu8, pu9, pu10, pu11, pu12, pu13, pu14, rc_at, bK_some, Option.toList_some, Option.toList_none, List.cons_append, List.nil_append, y0, NW_2 hy, nI_lts, show f < 20 from by omega, if_true, r1, al_y, nI_eq0, z, if_false, tb, nI_adds]
        exact q1
  have z : ∀ l, U1 l = 0 := fun l => e2 l (by omega)
  have F0 : isFl g t 0 U1 := by
    refine ⟨fun l => ⟨by rw [z l]; omega, fun q => absurd (z l) q⟩, fun S => ?_⟩
    have : ∀ m, dS (fun l => g (214 + 11 * l)) (fun l => g (215 + 11 * l)) U1 S m = 0 := by
      intro m
      induction m with
      | zero => rfl
      | succ m ih =>
        simp only [dS]
        rw [ih]
        simp [z m]
    rw [this]
    simp
  obtain ⟨U', R', B', f, q1, q2⟩ := key 20 0 U1 R B rfl F0
  refine ⟨U', R', B', f, ?_, q2⟩
  simp only [s56_0, s56_1]
  rw [e1, s56_2]
  simp (disch := omega) only [s56_3, s56_5, s56_21, s56_22, nI_lts, Nat.lt_irrefl, if_false]
  exact q1
theorem isFl.out {t f : Nat} (hw : WF g) (F : isFl g t f U) : ∀ l, 20 ≤ l → U l = 0 := by
  intro l hl
  by_cases z : U l = 0
  · exact z
  · have := ((F.1 l).2 z).1
    have := hw.2.2.1
    omega
/-- a link is needed -/
def ndB (g : Nat → Nat) (t l : Nat) : Bool := opN g l && decide (flW g t (nI l) < flW g t (-4))
theorem need_no {t f i : Nat} (hw : WF g) (hi : i < g 2) (F : isFl g t f U) (hf : f ≤ 20) (he : f = flW g t (-4)) (hz : U i = 0) : ndB g t i = false := by
  have h20 := hw.2.2.1
  have := fl_low (but := nI i) F hf (fun l z e => by
    have := ((F.1 l).2 z).1
    rw [nI_eqs (by omega) (by omega)] at e
    subst e
    exact z hz)
  unfold ndB
  rw [decide_eq_false (by omega), Bool.and_false]
theorem need_way {ord : Nat → Nat} {t f i : Nat} (hw : WF g) (hi : i < g 2) (F : isFl g t f U) (hf : f ≤ 20) (he : f = flW g t (-4)) (hz : U i ≠ 0) (hS : SI (g 2) (opN g) (FM g) (OT g) U (FM g i) R B ord) (hr : R (OT g i) ≠ 0) : ndB g t i = false := by
  obtain ⟨e1, e2, e3⟩ := hw.ends hi
  have T := TB hS (fun l hl => ⟨(hw.ends hl).1, (hw.ends hl).2.1⟩) 10 (OT g i) U e2 hr (by
    have := hS.2.2.1 _ e2 hr
    have : ctR R ≤ 10 := cntN_le _ _
    omega) F.1 (fun _ _ _ _ _ => rfl)
  obtain ⟨t1, t2, t3⟩ := T
  have ti := t3 i (fun u hu ru us e => by
    have := (hS.2.2.2 u hu ru us).2.2.1
    rw [← e] at this
    unfold faN at this
    rw [if_neg hz] at this
    exact us this.symm)
  generalize tbk (FM g) (OT g) B (FM g i) 10 (OT g i) U = V at t1 t2 ti
  have F' : isFl g t f (up V i 0) := by
    refine ⟨fun l => ?_, fun S => ?_⟩
    · by_cases q : l = i
      · subst q; rw [up_same]; exact ⟨by omega, fun z => absurd rfl z⟩
      · rw [up_ne q]; exact t2 l
    · have a := dS_up (fm := FM g) (ot := OT g) (U := V) (S := S) (l := i) (y := 0) (g 2)
      rw [if_pos hi, ti, if_pos hz, t1 S] at a
      have a2 : dS (FM g) (OT g) U S (g 2) = (f : Int) * (siZ (S 0) - siZ (S t)) := F.2 S
      rw [a2] at a
      refine Eq.trans a ?_
      simp
      omega
  have h20 := hw.2.2.1
  have := fl_low (but := nI i) F' hf (fun l z e => by
    have hl := ((F'.1 l).2 z).1
    rw [nI_eqs (by omega) (by omega)] at e
    subst e
    rw [up_same] at z
    exact z rfl)
  unfold ndB
  rw [decide_eq_false (by omega), Bool.and_false]
theorem need_yes {ord : Nat → Nat} {t f i : Nat} (hw : WF g) (ht : t < g 1) (hi : i < g 2) (F : isFl g t f U) (he : f = flW g t (-4)) (hz : U i ≠ 0) (hS : SI (g 2) (opN g) (FM g) (OT g) U (FM g i) R B ord) (hC : CLo (g 2) (opN g) (FM g) (OT g) U R) (hr : R (OT g i) = 0) : ndB g t i = true := by
  have h20 := hw.2.2.1
  have X := fl_cut hw F hS hC
  have ho := ((F.1 i).2 hz).2
  have c1 : ((fun _ => true : Nat → Bool) i && opN g i && (fun v => decide (R v ≠ 0)) (FM g i) && !(fun v => decide (R v ≠ 0)) (OT g i)) = true := by
    have a1 : decide (R (FM g i) ≠ 0) = true := decide_eq_true hS.1
    have a2 : decide (R (OT g i) ≠ 0) = false := by simp [hr]
    simp only [ho, a1, a2]
    rfl
  have pos : 0 < ctS (g 2) (opN g) (FM g) (OT g) (fun _ => true) (fun v => decide (R v ≠ 0)) := cntN_pos hi c1
  have hs : decide (R 0 ≠ 0) = true ∧ decide (R t ≠ 0) = false ∧ (f : Int) = (ctS (g 2) (opN g) (FM g) (OT g) (fun _ => true) (fun v => decide (R v ≠ 0)) : Int) := by
    generalize ctS (g 2) (opN g) (FM g) (OT g) (fun _ => true) (fun v => decide (R v ≠ 0)) = N at X pos
    cases a : decide (R 0 ≠ 0) <;> cases c : decide (R t ≠ 0) <;> rw [a, c] at X <;> simp [siZ] at X
    · omega
    · omega
    · exact ⟨rfl, rfl, by omega⟩
    · omega
  obtain ⟨s0, st, hf⟩ := hs
  have G := fl_high (but := nI i) (S := fun v => decide (R v ≠ 0)) hw ht s0 st
  have e1 : cntN (fun l => decide (¬ nI l = nI i) && opN g l && (fun v => decide (R v ≠ 0)) (g (214 + 11 * l)) && !(fun v => decide (R v ≠ 0)) (g (215 + 11 * l))) (g 2) = cntN (fun l => decide (l ≠ i) && (opN g l && decide (R (FM g l) ≠ 0) && !decide (R (OT g l) ≠ 0))) (g 2) := by
    refine cntN_congr (fun l hl => ?_)
    have : decide (¬ nI l = nI i) = decide (l ≠ i) := decide_eq_decide.mpr (by rw [nI_eqs (by omega) (by omega)])
    rw [this, Bool.and_assoc, Bool.and_assoc, Bool.and_assoc]
    rfl
  have e2 : ctS (g 2) (opN g) (FM g) (OT g) (fun _ => true) (fun v => decide (R v ≠ 0)) = cntN (fun l => decide (l ≠ i) && (opN g l && decide (R (FM g l) ≠ 0) && !decide (R (OT g l) ≠ 0))) (g 2) + 1 := by
    unfold ctS
    refine cntN_up hi (by simp) c1 (fun l hl => ?_)
    rw [decide_eq_true hl]
    simp only [Bool.true_and]
  rw [e1] at G
  unfold ndB
  rw [ho, decide_eq_true (by omega)]
  rfl
theorem c_firstWithout {t f : Nat} (hWy : hget h y = some (.inr (5, [.ref (y + 1), .ref (y + 2), .ref (y + 3)]))) (hy : b + 134 ≤ y) (H : Pic g C) (hw : WF g) (ht : t < g 1) (F : isFl g t f U) (hf : f ≤ 20) (he : f = flW g t (-4)) : ∃ R' B', run 57 0 [.ref y, .ref b, .null] [] (NH (WH h y U R B) b C) = some (some (.int (optI (firstN (ndB g t) (g 2)))), NH (WH h y U R' B') b C) := by
  have h20 := hw.2.2.1
  have o2 := H.1.2.2.1
  have hU : ∀ l, U l ≤ 1 := fun l => (F.1 l).1
  have y0 : ∀ U R B, hget (NH (WH h y U R B) b C) y = some (.inr (5, [.ref (y + 1), .ref (y + 2), .ref (y + 3)])) := fun U R B => by rw [NW_0 hy]; exact hWy
  have one : ∀ m R B, m < g 2 → ∃ R' B', run 57 2 [.ref y, .ref b, .int (nI m)] [] (NH (WH h y U R B) b C) = if ndB g t m = true then some (some (.int (nI m)), NH (WH h y U R' B') b C) else run 57 2 [.ref y, .ref b, .int (nI (m + 1))] [] (NH (WH h y U R' B') b C) := by
    intro m R B hm
    have m20 : m < 20 := by omega
    have hUm := hU m
    obtain ⟨n1', n2, n3⟩ := hw.ends hm
    have e0 : C 12 m 0 = FM g m := (H.2.2 m m20).1.1
    have e1 : C 12 m 1 = OT g m := (H.2.2 m m20).1.2.1
    by_cases z : U m = 0
    · refine ⟨R, B, ?_⟩
      rw [need_no hw hm F hf he z, s57_2]
      simp (disch := omega) only [s57_3, s57_4, s57_7, s57_10, s57_11, s57_14, s57_15, s57_16, s57_19, s57_55, s57_58, gf0, gf1, gf2, gf3, gf4, gf5, gf6, gf7, gf8, gf9, gf10, gf11, gf12, gf13, gf14, pu0, pu1, pu2, pu3, pu4, pu5, pu6, pu7, pu8, pu9, pu10, pu11, pu12, pu13, pu14, rc_at, bK_some, Option.toList_some, Option.toList_none, List.cons_append, List.nil_append, y0, NW_1 hy, NH_0, o2, nI_lts, hm, if_true, al_z, nI_eq0, z, nI_adds, Bool.false_eq_true, if_false]
    · obtain ⟨R', B', ord, r1, hS, hC⟩ := c_search (R := R) (B := B) hWy hy H hw hU n1'
      have hro := hS.2.1 _ n2
      refine ⟨R', B', ?_⟩
      by_cases q : R' (OT g m) = 0
      · rw [need_yes hw ht hm F he z hS hC q, s57_2]
        simp (disch := omega) only [s57_3, s57_4, s57_7, s57_10, s57_11, s57_14, s57_15, s57_16, s57_19, s57_22, s57_23, s57_24, s57_25, s57_28, s57_29, s57_30, s57_33, s57_36, s57_37, s57_40, s57_41, s57_44, s57_45, s57_46, s57_49, s57_50, s57_53, s57_54, gf0, gf1, gf2, gf3, gf4, gf5, gf6, gf7, gf8, gf9, gf10, gf11, gf12, gf13, gf14, pu0, pu1, pu2, pu3, pu4, pu5, pu6, pu7, pu8, pu9, pu10, pu11, pu12, pu13, pu14, rc_at, bK_some, Option.toList_some, Option.toList_none, List.cons_append, List.nil_append, y0, NW_1 hy, NW_2 hy, NH_0, NH_93, al_lk, NH_l m20, e0, e1, o2, nI_lts, hm, if_true, al_z, al_y, nI_eq0, z, if_false, r1, q]
      · rw [need_way hw hm F hf he z hS q, s57_2]
        simp (disch := omega) only [s57_3, s57_4, s57_7, s57_10, s57_11, s57_14, s57_15, s57_16, s57_19, s57_22, s57_23, s57_24, s57_25, s57_28, s57_29, s57_30, s57_33, s57_36, s57_37, s57_40, s57_41, s57_44, s57_45, s57_46, s57_49, s57_50, s57_53, s57_54, s57_55, s57_58, gf0, gf1, gf2, gf3, gf4, gf5, gf6, gf7, gf8, gf9, gf10, gf11, gf12, gf13, gf14, pu0, pu1, pu2, pu3, pu4, pu5, pu6, pu7, pu8, pu9, pu10, pu11, pu12, pu13, pu14, rc_at, bK_some, Option.toList_some, Option.toList_none, List.cons_append, List.nil_append, y0, NW_1 hy, NW_2 hy, NH_0, NH_93, al_lk, NH_l m20, e0, e1, o2, nI_lts, hm, if_true, al_z, al_y, nI_eq0, z, if_false, r1, q, nI_adds, Bool.false_eq_true]
  have key : ∀ m, m ≤ g 2 → (∀ i, i < m → ndB g t i = false) → ∃ R' B', run 57 2 [.ref y, .ref b, .int (nI 0)] [] (NH (WH h y U R B) b C) = run 57 2 [.ref y, .ref b, .int (nI m)] [] (NH (WH h y U R' B') b C) := by
    intro m
    induction m with
    | zero => intro _ _; exact ⟨R, B, rfl⟩
    | succ m ih =>
      intro hm hno
      obtain ⟨R1, B1, e1⟩ := ih (by omega) (fun i hi => hno i (by omega))
      obtain ⟨R2, B2, e2⟩ := one m R1 B1 (by omega)
      rw [hno m (by omega)] at e2
      exact ⟨R2, B2, by rw [e1, e2]; simp⟩
  simp only [s57_0, s57_1]
  cases q : firstN (ndB g t) (g 2) with
  | none =>
    obtain ⟨R1, B1, e1⟩ := key (g 2) (Nat.le_refl _) (firstN_none.mp q)
    refine ⟨R1, B1, ?_⟩
    rw [e1, s57_2]
    simp (disch := omega) only [s57_3, s57_4, s57_7, s57_61, s57_63, gf0, gf1, gf2, gf3, gf4, gf5, gf6, gf7, gf8, gf9, gf10, gf11, gf12, gf13, gf14, pu0, pu1, pu2, pu3, pu4, pu5, pu6, pu7, pu8, pu9, pu10, pu11, pu12, pu13, pu14, rc_at, bK_some, Option.toList_some, Option.toList_none, List.cons_append, List.nil_append, NH_0, o2, nI_lts, Nat.lt_irrefl, if_false, optI]
  | some i =>
    obtain ⟨i1, i2, i3⟩ := firstN_some.mp q
    obtain ⟨R1, B1, e1⟩ := key i (by omega) i3
    obtain ⟨R2, B2, e2⟩ := one i R1 B1 i1
    rw [i2] at e2
    exact ⟨R2, B2, by rw [e1, e2]; simp [optI]⟩
end WN
section FL89
variable {h : aH} {x n : Nat} {g : Nat → Nat} {C : nC} {U R B : Nat → Nat}
theorem CH.ways (hx : CH h x n) : hget (NH (WH h (x + 136) U R B) (x + 1) C) x = some (.inr (6, [.ref (x + 1), .ref (x + 135), .ref (x + 136), .ref (x + 140), .ref (x + 143), .int (nI n), .ref (x + 144)])) := by
  rw [NH_out (by omega), WH_o (by omega) (by omega) (by omega)]; exact hx
theorem c_flow (hx : CH h x n) (hWy : hget h (x + 136) = some (.inr (5, [.ref (x + 136 + 1), .ref (x + 136 + 2), .ref (x + 136 + 3)]))) (hUo : ∀ l, 20 ≤ l → U l = 0) (H : Pic g C) (hw : WF g) (v : Int32) : ∃ U' R' B', run 95 0 [.ref x, .int v] [] (NH (WH h (x + 136) U R B) (x + 1) C) = some (some (.int (qFlow g v)), NH (WH h (x + 136) U' R' B') (x + 1) C) ∧ ∀ l, 20 ≤ l → U' l = 0 := by
  have h1 := hw.2.1
  have hxx : ∀ U R B, hget (NH (WH h (x + 136) U R B) (x + 1) C) x = some (.inr (6, [.ref (x + 1), .ref (x + 135), .ref (x + 136), .ref (x + 140), .ref (x + 143), .int (nI n), .ref (x + 144)])) := fun U R B => hx.ways
  have y0 : hget (NH (WH h (x + 136) U R B) (x + 1) C) (x + 136) = some (.inr (5, [.ref (x + 136 + 1), .ref (x + 136 + 2), .ref (x + 136 + 3)])) := by rw [NW_0 (by omega)]; exact hWy
  have e0 : hrI v (C 0 0 2) = (lkB (g 1) v && decide (¬ v = 0)) := by rw [H.1.2.1, hr_lk (by omega)]
  unfold qFlow
  by_cases c : lkB (g 1) v = true ∧ ¬ v = 0
  · have e1 : hrI v (C 0 0 2) = true := by rw [e0, c.1]; simp [c.2]
    obtain ⟨j, j1, rfl, j3⟩ := lkB_t (by omega) c.1
    obtain ⟨U', R', B', f, r1, F, f20, fe⟩ := c_findAll (R := R) (B := B) hWy (show x + 1 + 134 ≤ x + 136 by omega) H hw hUo j1
    refine ⟨U', R', B', ?_, F.out hw⟩
    simp (disch := omega) only [s95_0, s95_1, s95_4, s95_5, s95_8, s95_11, s95_12, s95_13, s95_14, s95_17, s95_18, s95_21, s95_22, s95_25, gf0, gf1, gf2, gf3, gf4, gf5, gf6, gf7, gf8, gf9, gf10, gf11, gf12, gf13, gf14, pu0, pu1, pu2, pu3, pu4, pu5, pu6, pu7, pu8, pu9, pu10, pu11, pu12, pu13, pu14, rc_at, bK_some, Option.toList_some, Option.toList_none, List.cons_append, List.nil_append, hxx, y0, NH_0, c_hasReceiver, e1, bI_0, Bool.true_eq_false, if_false, r1]
    rw [if_pos c, j3, fe]
  · have e1 : hrI v (C 0 0 2) = false := by
      rw [e0]
      cases q : lkB (g 1) v
      · rfl
      · rw [q] at c
        simp at c
        simp [c]
    refine ⟨U, R, B, ?_, hUo⟩
    rw [if_neg c]
    simp (disch := omega) only [s95_0, s95_1, s95_4, s95_5, s95_8, s95_11, s95_12, gf0, gf1, gf2, gf3, gf4, gf5, gf6, gf7, gf8, gf9, gf10, gf11, gf12, gf13, gf14, pu0, pu1, pu2, pu3, pu4, pu5, pu6, pu7, pu8, pu9, pu10, pu11, pu12, pu13, pu14, rc_at, bK_some, Option.toList_some, Option.toList_none, List.cons_append, List.nil_append, hxx, NH_0, c_hasReceiver, e1, bI_0, if_true]
theorem c_needed (hx : CH h x n) (hWy : hget h (x + 136) = some (.inr (5, [.ref (x + 136 + 1), .ref (x + 136 + 2), .ref (x + 136 + 3)]))) (hUo : ∀ l, 20 ≤ l → U l = 0) (H : Pic g C) (hw : WF g) (v : Int32) : ∃ U' R' B', run 96 0 [.ref x, .int v] [] (NH (WH h (x + 136) U R B) (x + 1) C) = some (some (.int (qNeed g v)), NH (WH h (x + 136) U' R' B') (x + 1) C) ∧ ∀ l, 20 ≤ l → U' l = 0 := by
  have h1 := hw.2.1
  have hxx : ∀ U R B, hget (NH (WH h (x + 136) U R B) (x + 1) C) x = some (.inr (6, [.ref (x + 1), .ref (x + 135), .ref (x + 136), .ref (x + 140), .ref (x + 143), .int (nI n), .ref (x + 144)])) := fun U R B => hx.ways
  have y0 : ∀ U R B, hget (NH (WH h (x + 136) U R B) (x + 1) C) (x + 136) = some (.inr (5, [.ref (x + 136 + 1), .ref (x + 136 + 2), .ref (x + 136 + 3)])) := fun U R B => by rw [NW_0 (by omega)]; exact hWy
  have e0 : hrI v (C 0 0 2) = (lkB (g 1) v && decide (¬ v = 0)) := by rw [H.1.2.1, hr_lk (by omega)]
  unfold qNeed
  by_cases c : lkB (g 1) v = true ∧ ¬ v = 0
  · have e1 : hrI v (C 0 0 2) = true := by rw [e0, c.1]; simp [c.2]
    obtain ⟨j, j1, rfl, j3⟩ := lkB_t (by omega) c.1
    obtain ⟨U', R', B', f, r1, F, f20, fe⟩ := c_findAll (R := R) (B := B) hWy (show x + 1 + 134 ≤ x + 136 by omega) H hw hUo j1
    rw [if_pos c, j3]
    by_cases z : f = 0
    · refine ⟨U', R', B', ?_, F.out hw⟩
      have no : firstN (fun l => opN g l && decide (flW g j (nI l) < flW g j (-4))) (g 2) = none := by
        rw [firstN_none]
        intro i _
        rw [← fe, z, decide_eq_false (by omega), Bool.and_false]
      rw [no]
      simp (disch := omega) only [s96_0, s96_1, s96_4, s96_5, s96_8, s96_11, s96_12, s96_13, s96_14, s96_17, s96_18, s96_21, s96_22, s96_25, s96_28, s96_30, s96_31, s96_32, s96_35, s96_36, s96_39, s96_42, gf0, gf1, gf2, gf3, gf4, gf5, gf6, gf7, gf8, gf9, gf10, gf11, gf12, gf13, gf14, pu0, pu1, pu2, pu3, pu4, pu5, pu6, pu7, pu8, pu9, pu10, pu11, pu12, pu13, pu14, rc_at, bK_some, Option.toList_some, Option.toList_none, List.cons_append, List.nil_append, hxx, y0, NH_0, c_hasReceiver, e1, bI_0, Bool.true_eq_false, if_false, r1, nI_eq0, z, if_true, optI]
    · obtain ⟨R2, B2, r2⟩ := c_firstWithout (R := R') (B := B') hWy (show x + 1 + 134 ≤ x + 136 by omega) H hw j1 F f20 fe
      refine ⟨U', R2, B2, ?_, F.out hw⟩
      simp (disch := omega) only [s96_0, s96_1, s96_4, s96_5, s96_8, s96_11, s96_12, s96_13, s96_14, s96_17, s96_18, s96_21, s96_22, s96_25, s96_28, s96_30, s96_31, s96_32, s96_35, s96_36, s96_39, s96_42, gf0, gf1, gf2, gf3, gf4, gf5, gf6, gf7, gf8, gf9, gf10, gf11, gf12, gf13, gf14, pu0, pu1, pu2, pu3, pu4, pu5, pu6, pu7, pu8, pu9, pu10, pu11, pu12, pu13, pu14, rc_at, bK_some, Option.toList_some, Option.toList_none, List.cons_append, List.nil_append, hxx, y0, NH_0, c_hasReceiver, e1, bI_0, Bool.true_eq_false, if_false, r1, nI_eq0, z, r2]
      rfl
  · have e1 : hrI v (C 0 0 2) = false := by
      rw [e0]
      cases q : lkB (g 1) v
      · rfl
      · rw [q] at c
        simp at c
        simp [c]
    refine ⟨U, R, B, ?_, hUo⟩
    rw [if_neg c]
    simp (disch := omega) only [s96_0, s96_1, s96_4, s96_5, s96_8, s96_11, s96_12, gf0, gf1, gf2, gf3, gf4, gf5, gf6, gf7, gf8, gf9, gf10, gf11, gf12, gf13, gf14, pu0, pu1, pu2, pu3, pu4, pu5, pu6, pu7, pu8, pu9, pu10, pu11, pu12, pu13, pu14, rc_at, bK_some, Option.toList_some, Option.toList_none, List.cons_append, List.nil_append, hxx, NH_0, c_hasReceiver, e1, bI_0, if_true]
end FL89
