/-! payloads stay small -/
def WP (g : Nat → Nat) : Prop := (∀ i, i < 8 → g (6 + i) < 256) ∧ ∀ v i, v < 10 → i < g (44 + v) → pays g v i < 256
theorem WP.mono {g g' : Nat → Nat} (hp : WP g) (hr : ∀ v, v < 10 → g (44 + v) ≤ 8) (h1 : ∀ j, j < 214 → j ≠ 3 → j ≠ 4 → (j < 24 ∨ 34 ≤ j) → g' j = g j) : WP g' := by
  refine ⟨fun i hi => ?_, fun v i hv hi => ?_⟩
  · rw [h1 _ (by omega) (by omega) (by omega) (by omega)]; exact hp.1 i hi
  · rw [h1 _ (by omega) (by omega) (by omega) (by omega)] at hi
    have := hr v hv
    unfold pays
    rw [h1 _ (by omega) (by omega) (by omega) (by omega)]
    exact hp.2 v i hv hi
theorem WP.acc {g : Nat → Nat} {v a p : Nat} (hp : WP g) (hr : ∀ v, v < 10 → g (44 + v) ≤ 8) (hv : v < 10) (h8 : g (44 + v) < 8) (hpp : p < 256) : WP (gAcc g v a p) := by
  refine ⟨fun i hi => ?_, fun u i hu hi => ?_⟩
  · unfold gAcc
    rw [up_ne (by omega), up_ne (by omega), up_ne (by omega)]
    exact hp.1 i hi
  · have hru := hr u hu
    unfold pays
    by_cases z : u = v
    · subst z
      have e : gAcc g u a p (44 + u) = g (44 + u) + 1 := up_same _ _ _
      rw [e] at hi
      unfold gAcc
      rw [up_ne (by omega)]
      by_cases z2 : i = g (44 + u)
      · rw [z2, up_same]; exact hpp
      · rw [up_ne (by omega), up_ne (by omega)]; exact hp.2 u i hu (by omega)
    · have e : gAcc g v a p (44 + u) = g (44 + u) := by
        unfold gAcc
        rw [up_ne (by omega), up_ne (by omega), up_ne (by omega)]
      rw [e] at hi
      unfold gAcc
      rw [up_ne (by omega), up_ne (by omega), up_ne (by omega)]
      exact hp.2 u i hu hi
theorem sPay_lt {g : Nat → Nat} {v s : Nat} (hp : WP g) (hv : v < 10) : sPay g v s < 256 := by
  unfold sPay
  refine Nat.xor_lt_two_pow (n := 8) ?_ (xsN_lt (k := 8) (fun i hi => hp.2 v i hv hi))
  unfold altN
  split <;> decide
def WQ (s : RS) : Prop := WF s.1 ∧ WP s.1 ∧ ∀ q, s.2.2.2 q < 256
theorem WQ.send {v l : Nat} {s : RS} (h : WQ s) (hl : l < 20) (hv : v < 10) : WQ (rSend v l s) := by
  refine ⟨rSend_WF h.1 hv hl, h.2.1.mono h.1.r8 (fun j h1 _ h4 _ => (rSend_low hl hv h.1).1 j h1 h4), fun q => ?_⟩
  unfold rSend
  split
  · dsimp only
    by_cases z : q = l
    · subst z; rw [up_same]; exact sPay_lt h.2.1 hv
    · rw [up_ne z]; exact h.2.2 q
  · exact h.2.2 q
theorem WQ.all {v : Nat} {s : RS} (h : WQ s) (hv : v < 10) : WQ (rAll v s) := by
  unfold rAll
  split
  · exact h
  · unfold rFrom
    have h2 := h.1.2.2.1
    exact foldN_inv (I := fun _ t => WQ t) h (fun i t hi ht => ht.send (by omega) hv)
theorem WQ.sent {s : RS} (h : WQ s) : WQ (sentAll s) := by
  unfold sentAll
  have h2 := h.1.2.1
  exact foldN_inv (I := fun _ t => WQ t) h (fun i t hi ht => ht.all (by omega))
theorem WP_arr {g : Nat → Nat} {l a p : Nat} (hw : WF g) (hs : WS g) (hl : l < g 2) (ha : a < 2 ^ g 0) (hp : WP g) (hpp : p < 256) : WP (arrG g l a p) := by
  have W := (WFS_arr (p := p) hw hs hl ha).1.1
  have h20 := hw.2.2.1
  have hlk := hw.2.2.2.1 l hl
  have hn := hw.2.1
  have hv : g (215 + 11 * l) < 10 := by omega
  have e : ∀ j, j < 214 → gRecv g l a j = g j := fun j hj => up_ne (by omega)
  have er : gRecv g l a (44 + g (215 + 11 * l)) = g (44 + g (215 + 11 * l)) := e _ (by omega)
  have P1 : WP (gRecv g l a) := hp.mono hw.r8 (fun j hj _ _ _ => e j hj)
  have R1 : ∀ v, v < 10 → gRecv g l a (44 + v) ≤ 8 := fun v hv => by rw [e _ (by omega)]; exact hw.r8 v hv
  unfold arrG at W ⊢
  split
  · exact hp
  · rename_i z
    rw [if_neg z] at W
    cases q : sfN g (g (215 + 11 * l)) a with
    | none =>
      rw [q] at W
      dsimp only at W ⊢
      have w8 := W.r8 _ hv
      have e2 : gAcc (gRecv g l a) (g (215 + 11 * l)) a p (44 + g (215 + 11 * l)) = gRecv g l a (44 + g (215 + 11 * l)) + 1 := up_same _ _ _
      exact P1.acc R1 hv (by omega) hpp
    | some t => exact P1
theorem WP.goes {g : Nat → Nat} (hw : WF g) (hs : WS g) (hp : WP g) : WP (gGoes g) := by
  have K := sentAll_keep hw
  have h20 := hw.2.2.1
  have Q : WQ (sentAll (g, fun _ => 0, fun _ => 0, fun _ => 0)) := WQ.sent ⟨hw, hp, fun _ => by show 0 < 256; decide⟩
  have hI0 : rArrI g (0, sentAll (g, fun _ => 0, fun _ => 0, fun _ => 0)) := ⟨K.1, hs.mono hw.r8 (fun j h1 _ h4 _ => K.2.1 j h1 h4), K.2.2, fun j hj h4 => K.2.1 j (by omega) h4, K.1.2.2.2.2.1⟩
  have F : rArrI g (rndAll g) ∧ WP (rndAll g).2.1 ∧ ∀ q, (rndAll g).2.2.2.2 q < 256 := by
    unfold rndAll
    refine foldN_inv (I := fun _ t => rArrI g t ∧ WP t.2.1 ∧ ∀ q, t.2.2.2.2 q < 256) ⟨hI0, Q.2.1, Q.2.2⟩ (fun l t hl ht => ⟨rArr_keep hl ht.1, ?_, by rw [rArr_rest]; exact ht.2.2⟩)
    obtain ⟨i1, i2, i3⟩ := ht
    have h2 : t.2.1 2 = g 2 := i1.2.2.2.1 2 (by omega) (by omega)
    unfold rArr
    by_cases c : t.2.2.1 l = 0
    · rw [if_pos c]; exact i2
    · rw [if_neg c]
      have ha := (i1.2.2.1 l (by omega)).2 c
      have A := WP_arr (p := t.2.2.2.2 l) i1.1 i1.2.1 (show l < t.2.1 2 by omega) ha i2 (i3 l)
      have W := (WFS_arr (p := t.2.2.2.2 l) i1.1 i1.2.1 (show l < t.2.1 2 by omega) ha).1.1
      exact A.mono W.r8 (fun j hj _ _ _ => up_ne (by omega))
  unfold gGoes
  exact F.2.1.mono F.1.1.r8 (fun j _ h3 _ _ => up_ne h3)
theorem WP.it {g : Nat → Nat} (hw : WF g) (hs : WS g) (hp : WP g) (n : Nat) : WP (gIt g n) := by
  induction n with
  | zero => exact hp
  | succ n ih =>
    have K := gIt_keep hw hs n
    exact WP.goes K.1 K.2.1 ih
theorem WP.begin {g : Nat → Nat} (hk : g 0 ≤ 8) (hp : ∀ i, i < 8 → g (6 + i) < 256) : WP (gBegin g) := by
  refine ⟨fun i hi => ?_, fun v i hv hi => ?_⟩
  · rw [gBegin_same hk (by omega)]; exact hp i hi
  · by_cases z : v = 0
    · subst z
      rw [gBegin_44 hk] at hi
      unfold pays
      rw [← gB2_F hk, up_ne (by omega)]
      simp only [gB2]
      rw [if_pos (by omega), if_neg (by omega), show (55 + 16 * 0 + 2 * i - 54) / 2 = i from by omega, gF_same (by omega)]
      exact hp i (by omega)
    · rw [gBegin_0 hk (j := 44 + v) (by omega)] at hi
      omega
section PY
variable {h : aH} {x n : Nat} {g : Nat → Nat} {C : nC}
theorem WP.sum (hp : WP g) {v : Nat} (hv : v < 10) (t : Nat) : xsN (pays g v) t (g (44 + v)) < 2 ^ 31 := Nat.lt_trans (xsN_lt (k := 8) (fun i hi => hp.2 v i hv hi)) (by decide)
theorem c_knows (hx : CH h x n) (H : Pic g C) (hw : WF g) (hp : WP g) (v : Int32) : run 83 0 [.ref x, .int v, .null, .null] [] (NH h (x + 1) C) = some (some (.int (qKnows g v)), NH h (x + 1) C) := by
  have h1 := hw.2.1
  have h0 := hw.1
  have hxx := hx.at
  have e0 := H.node hw v
  have o0 := H.1.1
  unfold qKnows
  cases c : lkB (g 1) v
  · rw [c] at e0
    simp only [s83_0, s83_1, s83_4, s83_5, s83_8, s83_11, s83_12, gf0, gf1, gf2, gf3, gf4, gf5, gf6, gf7, gf8, gf9, gf10, gf11, gf12, gf13, gf14, pu0, pu1, pu2, pu3, pu4, pu5, pu6, pu7, pu8, pu9, pu10, pu11, pu12, pu13, pu14, rc_at, bK_some, Option.toList_some, Option.toList_none, List.cons_append, List.nil_append, hxx, NH_0, c_hasNode, e0, bI_0, if_true, Bool.false_eq_true, if_false]
  · rw [c] at e0
    obtain ⟨j, j1, rfl, j3⟩ := lkB_t (by omega) c
    have hj : j < 10 := by omega
    have key : ∀ m, m ≤ g 0 → run 83 17 [.ref x, .int (nI j), .int (nI 0), .int (nI 0)] [] (NH h (x + 1) C) = run 83 17 [.ref x, .int (nI j), .int (nI (foldN (fun i s => s ||| (if (sfN g j (2 ^ i)).isSome = true then 2 ^ i else 0)) m 0)), .int (nI m)] [] (NH h (x + 1) C) := by
      intro m
      induction m with
      | zero => intro _; rfl
      | succ m ih =>
        intro hm
        have z := slv_ne (k := m) hw hj (hp.sum hj)
        rw [ih (by omega), s83_17]
        simp (disch := omega) only [s83_18, s83_19, s83_22, s83_25, s83_28, s83_29, s83_32, s83_35, s83_36, s83_37, s83_38, s83_41, s83_43, gf0, gf1, gf2, gf3, gf4, gf5, gf6, gf7, gf8, gf9, gf10, gf11, gf12, gf13, gf14, pu0, pu1, pu2, pu3, pu4, pu5, pu6, pu7, pu8, pu9, pu10, pu11, pu12, pu13, pu14, rc_at, bK_some, Option.toList_some, Option.toList_none, List.cons_append, List.nil_append, hxx, NH_0, NH_2, al_nd, NH_n hj, o0, nI_lts, show m < g 0 from by omega, if_true, c_slv H hw hj (show m < 8 by omega), z]
        cases q : (sfN g j (2 ^ m)).isSome
        · simp only [if_true, s83_52, s83_55, nI_adds, foldN, q, Bool.false_eq_true, if_false, Nat.or_zero]
        · simp (disch := omega) only [Bool.true_eq_false, if_false, s83_46, s83_47, s83_48, s83_49, s83_50, s83_51, s83_52, s83_55, nI_adds, foldN, q, if_true, nI_shl1, nI_or]
    simp (disch := omega) only [s83_0, s83_1, s83_4, s83_5, s83_8, s83_11, s83_12, s83_13, s83_14, s83_15, s83_16, gf0, gf1, gf2, gf3, gf4, gf5, gf6, gf7, gf8, gf9, gf10, gf11, gf12, gf13, gf14, pu0, pu1, pu2, pu3, pu4, pu5, pu6, pu7, pu8, pu9, pu10, pu11, pu12, pu13, pu14, rc_at, bK_some, Option.toList_some, Option.toList_none, List.cons_append, List.nil_append, hxx, NH_0, c_hasNode, e0, bI_0, if_true, Bool.true_eq_false, if_false]
    rw [key _ (Nat.le_refl _), s83_17]
    simp (disch := omega) only [s83_18, s83_19, s83_22, s83_25, s83_58, s83_59, gf0, gf1, gf2, gf3, gf4, gf5, gf6, gf7, gf8, gf9, gf10, gf11, gf12, gf13, gf14, pu0, pu1, pu2, pu3, pu4, pu5, pu6, pu7, pu8, pu9, pu10, pu11, pu12, pu13, pu14, rc_at, bK_some, Option.toList_some, Option.toList_none, List.cons_append, List.nil_append, hxx, NH_0, o0, nI_lts, Nat.lt_irrefl, if_false, j3, knN]
theorem c_solve (hx : CH h x n) (H : Pic g C) (hw : WF g) (v i : Int32) : run 84 0 [.ref x, .int v, .int i] [] (NH h (x + 1) C) = some (some (.int (qSolve g v i)), NH h (x + 1) C) := by
  have h1 := hw.2.1
  have h0 := hw.1
  have e0 := H.node hw v
  have e1 := H.packet hw i
  unfold qSolve
  cases c : lkB (g 1) v
  · rw [c] at e0
    simp only [s84_0, s84_1, s84_4, s84_5, s84_8, s84_11, s84_12, s84_15, s84_16, s84_19, s84_22, s84_23, gf0, gf1, gf2, gf3, gf4, gf5, gf6, gf7, gf8, gf9, gf10, gf11, gf12, gf13, gf14, pu0, pu1, pu2, pu3, pu4, pu5, pu6, pu7, pu8, pu9, pu10, pu11, pu12, pu13, pu14, rc_at, bK_some, Option.toList_some, Option.toList_none, List.cons_append, List.nil_append, hx.at, NH_0, c_hasNode, e0, bI_0, if_true, Bool.false_eq_true, false_and, if_false]
  · rw [c] at e0
    cases d : lkB (g 0) i
    · rw [d] at e1
      simp only [s84_0, s84_1, s84_4, s84_5, s84_8, s84_11, s84_12, s84_15, s84_16, s84_19, s84_22, s84_23, gf0, gf1, gf2, gf3, gf4, gf5, gf6, gf7, gf8, gf9, gf10, gf11, gf12, gf13, gf14, pu0, pu1, pu2, pu3, pu4, pu5, pu6, pu7, pu8, pu9, pu10, pu11, pu12, pu13, pu14, rc_at, bK_some, Option.toList_some, Option.toList_none, List.cons_append, List.nil_append, hx.at, NH_0, c_hasNode, c_hasPacket, e0, e1, bI_0, if_true, Bool.true_eq_false, Bool.false_eq_true, and_false, if_false]
    · rw [d] at e1
      obtain ⟨j, j1, rfl, j3⟩ := lkB_t (by omega) c
      obtain ⟨k, k1, rfl, k3⟩ := lkB_t (by omega) d
      have hj : j < 10 := by omega
      simp (disch := omega) only [s84_0, s84_1, s84_4, s84_5, s84_8, s84_11, s84_12, s84_15, s84_16, s84_19, s84_22, s84_23, s84_24, s84_25, s84_28, s84_31, s84_32, s84_33, s84_34, s84_37, gf0, gf1, gf2, gf3, gf4, gf5, gf6, gf7, gf8, gf9, gf10, gf11, gf12, gf13, gf14, pu0, pu1, pu2, pu3, pu4, pu5, pu6, pu7, pu8, pu9, pu10, pu11, pu12, pu13, pu14, rc_at, bK_some, Option.toList_some, Option.toList_none, List.cons_append, List.nil_append, hx.at, NH_0, NH_2, c_hasNode, c_hasPacket, e0, e1, bI_0, if_true, Bool.true_eq_false, and_self, if_false, al_nd, NH_n hj, c_slv H hw hj (show k < 8 by omega), j3, k3]
theorem c_wrong (hx : CH h x n) (H : Pic g C) (hw : WF g) : run 85 0 [.ref x, .null, .null, .null, .null] [] (NH h (x + 1) C) = some (some (.int (nI (wrN g))), NH h (x + 1) C) := by
  have h1 := hw.2.1
  have h0 := hw.1
  have hxx := hx.at
  have o0 := H.1.1
  have o1 := H.1.2.1
  have inn : ∀ j c w3 w4, j < 10 → 0 < j → ∃ u4, run 85 15 [.ref x, .int (nI c), .int (nI j), w3, w4] [] (NH h (x + 1) C) = run 85 73 [.ref x, .int (nI (c + wrC g j)), .int (nI j), .int (nI (g 0)), u4] [] (NH h (x + 1) C) := by
    intro j c w3 w4 hj hj0
    have key : ∀ m, m ≤ g 0 → ∃ u4, run 85 17 [.ref x, .int (nI c), .int (nI j), .int (nI 0), w4] [] (NH h (x + 1) C) = run 85 17 [.ref x, .int (nI (c + cntN (fun i => decide (¬ slv g j i = -4) && decide (¬ slv g j i = nI (g (6 + i)))) m)), .int (nI j), .int (nI m), u4] [] (NH h (x + 1) C) := by
      intro m
      induction m with
      | zero => intro _; exact ⟨w4, rfl⟩
      | succ m ih =>
        intro hm
        obtain ⟨u4, e⟩ := ih (by omega)
        refine ⟨.int (slv g j m), ?_⟩
        have o6 := H.1.2.2.2.2.2.2 m (by omega)
        rw [e, s85_17]
        simp (disch := omega) only [s85_18, s85_19, s85_22, s85_25, s85_28, s85_29, s85_32, s85_35, s85_36, s85_37, s85_38, s85_41, s85_43, s85_45, s85_47, s85_50, s85_52, s85_53, s85_56, s85_59, s85_60, s85_61, gf0, gf1, gf2, gf3, gf4, gf5, gf6, gf7, gf8, gf9, gf10, gf11, gf12, gf13, gf14, pu0, pu1, pu2, pu3, pu4, pu5, pu6, pu7, pu8, pu9, pu10, pu11, pu12, pu13, pu14, rc_at, bK_some, Option.toList_some, Option.toList_none, List.cons_append, List.nil_append, hxx, NH_0, NH_1, NH_2, al_nd, NH_n hj, o0, nI_lts, show m < g 0 from by omega, if_true, c_slv H hw hj (show m < 8 by omega), al_8, o6]
        by_cases d1 : slv g j m = -4
        · simp only [d1, if_true, s85_67, s85_70, nI_adds, cntN, not_true_eq_false, decide_false, Bool.false_and, Bool.false_eq_true, if_false, Nat.add_zero]
        · by_cases d2 : slv g j m = nI (g (6 + m))
          · rw [if_neg d1, if_pos d2]
            simp only [s85_67, s85_70, nI_adds, cntN, d2, not_true_eq_false, decide_false, Bool.and_false, Bool.false_eq_true, if_false, Nat.add_zero]
          · simp only [d1, if_false, d2, if_true, s85_64, s85_67, s85_70, nI_adds, cntN, not_false_eq_true, decide_true, Bool.and_self, Nat.add_assoc]
    obtain ⟨u4, e⟩ := key _ (Nat.le_refl _)
    refine ⟨u4, ?_⟩
    simp only [s85_15, s85_16]
    rw [e, s85_17]
    simp (disch := omega) only [s85_18, s85_19, s85_22, s85_25, gf0, gf1, gf2, gf3, gf4, gf5, gf6, gf7, gf8, gf9, gf10, gf11, gf12, gf13, gf14, pu0, pu1, pu2, pu3, pu4, pu5, pu6, pu7, pu8, pu9, pu10, pu11, pu12, pu13, pu14, rc_at, bK_some, Option.toList_some, Option.toList_none, List.cons_append, List.nil_append, hxx, NH_0, o0, nI_lts, Nat.lt_irrefl, if_false, wrC]
  have out : ∀ m, m ≤ g 1 - 1 → ∃ u3 u4, run 85 4 [.ref x, .int (nI 0), .int (nI 1), .null, .null] [] (NH h (x + 1) C) = run 85 4 [.ref x, .int (nI (foldN (fun j c => c + wrC g (1 + j)) m 0)), .int (nI (1 + m)), u3, u4] [] (NH h (x + 1) C) := by
    intro m
    induction m with
    | zero => intro _; exact ⟨.null, .null, rfl⟩
    | succ m ih =>
      intro hm
      obtain ⟨u3, u4, e⟩ := ih (by omega)
      obtain ⟨w4, e2⟩ := inn (1 + m) (foldN (fun j c => c + wrC g (1 + j)) m 0) u3 u4 (by omega) (by omega)
      refine ⟨.int (nI (g 0)), w4, ?_⟩
      rw [e, s85_4]
      simp (disch := omega) only [s85_5, s85_6, s85_9, s85_12, gf0, gf1, gf2, gf3, gf4, gf5, gf6, gf7, gf8, gf9, gf10, gf11, gf12, gf13, gf14, pu0, pu1, pu2, pu3, pu4, pu5, pu6, pu7, pu8, pu9, pu10, pu11, pu12, pu13, pu14, rc_at, bK_some, Option.toList_some, Option.toList_none, List.cons_append, List.nil_append, hxx, NH_0, o1, nI_lts, show 1 + m < g 1 from by omega, if_true, e2, s85_73, s85_76, nI_adds, foldN, Nat.add_assoc]
  obtain ⟨u3, u4, e⟩ := out _ (Nat.le_refl _)
  simp only [s85_0, s85_1, s85_2, s85_3]
  rw [e, s85_4]
  simp (disch := omega) only [s85_5, s85_6, s85_9, s85_12, s85_79, s85_80, gf0, gf1, gf2, gf3, gf4, gf5, gf6, gf7, gf8, gf9, gf10, gf11, gf12, gf13, gf14, pu0, pu1, pu2, pu3, pu4, pu5, pu6, pu7, pu8, pu9, pu10, pu11, pu12, pu13, pu14, rc_at, bK_some, Option.toList_some, Option.toList_none, List.cons_append, List.nil_append, hxx, NH_0, o1, nI_lts, show ¬ 1 + (g 1 - 1) < g 1 from by omega, if_false, wrN]
theorem c_combination (hx : CH h x n) (H : Pic g C) (hw : WF g) (v a : Int32) : run 86 0 [.ref x, .int v, .int a] [] (NH h (x + 1) C) = some (some (.int (qComb g v a)), NH h (x + 1) C) := by
  have h1 := hw.2.1
  have h0 := hw.1
  have e0 := H.node hw v
  have o0 := H.1.1
  have e1 := c_allPackets (h := h) (b := x + 1) (C := C) (by omega)
  rw [o0] at e1
  have hp8 := pow_8 h0.2
  unfold qComb
  cases c : lkB (g 1) v
  · rw [c] at e0
    simp only [s86_0, s86_1, s86_4, s86_5, s86_8, s86_11, s86_12, s86_15, s86_16, s86_17, s86_20, s86_23, s86_26, s86_27, gf0, gf1, gf2, gf3, gf4, gf5, gf6, gf7, gf8, gf9, gf10, gf11, gf12, gf13, gf14, pu0, pu1, pu2, pu3, pu4, pu5, pu6, pu7, pu8, pu9, pu10, pu11, pu12, pu13, pu14, rc_at, bK_some, Option.toList_some, Option.toList_none, List.cons_append, List.nil_append, hx.at, NH_0, c_hasNode, e0, bI_0, if_true, Bool.false_eq_true, false_and, if_false]
  · rw [c] at e0
    by_cases d : inI a (nI 0) (nI (2 ^ g 0 - 1)) = true
    · obtain ⟨j, j1, rfl, j3⟩ := lkB_t (by omega) c
      obtain ⟨k, k1, k2, rfl, k3⟩ := inI_t (by omega) (by decide) d
      have hj : j < 10 := by omega
      have ha : k < 256 := by omega
      have S := c_partsOf (NH_h (h := h) (b := x + 1) (C := C) hj) (H.lead hj) ha
      rw [← H.sf hj ha] at S
      simp (disch := omega) only [s86_0, s86_1, s86_4, s86_5, s86_8, s86_11, s86_12, s86_15, s86_16, s86_17, s86_20, s86_23, s86_26, s86_27, s86_28, s86_29, s86_32, s86_35, s86_36, s86_37, s86_40, s86_41, s86_44, gf0, gf1, gf2, gf3, gf4, gf5, gf6, gf7, gf8, gf9, gf10, gf11, gf12, gf13, gf14, pu0, pu1, pu2, pu3, pu4, pu5, pu6, pu7, pu8, pu9, pu10, pu11, pu12, pu13, pu14, rc_at, bK_some, Option.toList_some, Option.toList_none, List.cons_append, List.nil_append, hx.at, NH_0, NH_2, c_hasNode, e0, e1, bI_0, if_true, Bool.true_eq_false, and_self, if_false, ite_in0, d, al_nd, NH_n hj, NH_h0 hj, S, j3, k3]
      unfold optI
      cases sfN g j k <;> rfl
    · simp only [s86_0, s86_1, s86_4, s86_5, s86_8, s86_11, s86_12, s86_15, s86_16, s86_17, s86_20, s86_23, s86_26, s86_27, gf0, gf1, gf2, gf3, gf4, gf5, gf6, gf7, gf8, gf9, gf10, gf11, gf12, gf13, gf14, pu0, pu1, pu2, pu3, pu4, pu5, pu6, pu7, pu8, pu9, pu10, pu11, pu12, pu13, pu14, rc_at, bK_some, Option.toList_some, Option.toList_none, List.cons_append, List.nil_append, hx.at, NH_0, c_hasNode, e0, e1, bI_0, if_true, ite_in0, d, Bool.true_eq_false, if_false, and_false]
      simp
end PY
