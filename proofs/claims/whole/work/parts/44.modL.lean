/-! solving and suspicion -/
def wrC (g : Nat → Nat) (v : Nat) : Nat := cntN (fun i => decide (¬ slv g v i = -4) && decide (¬ slv g v i = nI (g (6 + i)))) (g 0)
def wrN (g : Nat → Nat) : Nat := foldN (fun j c => c + wrC g (1 + j)) (g 1 - 1) 0
def qSus (g : Nat → Nat) (v p : Int32) : Int32 := if relN g v = true ∧ inI p (nI 1) (nI (2 ^ g 0 - 1)) = true then bI (susN g (cl v) (cl p)) else -1
def qSuss (g : Nat → Nat) (v : Int32) : Int32 := if relN g v = true then nI (cntN (fun i => susN g (cl v) (1 + i)) (2 ^ g 0 - 1)) else -1
theorem fold_cnt (p : Nat → Bool) (n c : Nat) : foldN (fun i c => c + (if p i = true then 1 else 0)) n c = c + cntN p n := by
  induction n with
  | zero => rfl
  | succ n ih => simp only [foldN, cntN, ih]; omega
theorem relN_t {g : Nat → Nat} (hw : WF g) {v : Int32} (h : relN g v = true) : ∃ j, 0 < j ∧ j < g 1 ∧ v = nI j ∧ cl v = j := by
  unfold relN at h
  simp only [Bool.and_eq_true, decide_eq_true_eq] at h
  obtain ⟨l, hl, h1⟩ := anyN_iff.mp h.1
  have h2 := of_decide_eq_true h1
  have h3 := hw.2.2.2.1 l hl
  have hn := hw.2.1
  have e : cl v = g (214 + 11 * l) := by rw [← h2]; exact cl_nI (by omega)
  refine ⟨g (214 + 11 * l), ?_, by omega, h2.symm, e⟩
  rcases Nat.eq_zero_or_pos (g (214 + 11 * l)) with z | z
  · rw [z] at h2; exact absurd h2.symm h.2
  · exact z
section ML
variable {h : aH} {x : Nat} {r : List Value} {g : Nat → Nat}
theorem m_sf (H : MO h x r g) (hw : WF g) {v : Nat} (hv : v < 10) {a : Nat} (ha : a < 2 ^ 31) : run 134 0 [.ref x, .int (nI v), .int (nI a), .null, .null, .null] [] h = some (some (.int (optI (sfN g v a))), h) :=
  m_setFor H hv (Nat.le_trans (hw.2.2.2.2.2.2.1 v hv).2.2 hw.1.2) (fun i hi => hw.vlt hv hi) ha
theorem sf_ne (hw : WF g) {v a : Nat} (hv : v < 10) : (optI (sfN g v a) = -4) = ((sfN g v a).isSome = false) :=
  opt_ne (sf_lt (Nat.le_trans (hw.2.2.2.2.2.2.1 v hv).2.2 hw.1.2))
theorem m_knows (H : MO h x r g) (hw : WF g) (v : Int32) : run 152 0 [.ref x, .int v, .null, .null] [] h = some (some (.int (qKnows g v)), h) := by
  have hn := hw.2.1
  have hk := hw.1
  obtain ⟨H1, H2⟩ := id H
  simp only [s152_0, s152_1, s152_2, s152_5, s152_8, s152_9, gf0, gf1, gf2, gf3, gf4, gf5, gf6, gf7, gf8, gf9, gf10, gf11, gf12, gf13, gf14, pu0, pu1, pu2, pu3, pu4, pu5, pu6, pu7, pu8, pu9, pu10, pu11, pu12, pu13, pu14, rc_at, bK_some, Option.toList_some, Option.toList_none, List.cons_append, List.nil_append, H1, m_node H, bI_0]
  unfold qKnows
  cases c1 : lkB (g 1) v
  · simp
  · obtain ⟨j, j1, rfl, j3⟩ := lkB_t (by omega) c1
    simp only [s152_10, s152_11, s152_12, s152_13, Bool.true_eq_false, if_false, if_true, j3]
    have L := loop_up (fun i (s : Nat) => run 152 14 [.ref x, .int (nI j), .int (nI s), .int (nI i)] [] h) (fun i s => s ||| (if (sfN g j (2 ^ i)).isSome = true then 2 ^ i else 0)) (g 0) (by
      intro i s hi
      have hp := pow_8 (show i ≤ 8 by omega)
      rw [s152_14]
      simp (disch := omega) only [s152_15, s152_16, s152_19, s152_20, s152_21, s152_24, s152_25, s152_26, s152_27, s152_28, s152_29, s152_30, s152_33, s152_35, s152_38, s152_39, s152_40, s152_41, s152_44, s152_45, s152_46, s152_47, s152_50, gf0, gf1, gf2, gf3, gf4, gf5, gf6, gf7, gf8, gf9, gf10, gf11, gf12, gf13, gf14, pu0, pu1, pu2, pu3, pu4, pu5, pu6, pu7, pu8, pu9, pu10, pu11, pu12, pu13, pu14, rc_at, bK_some, Option.toList_some, Option.toList_none, List.cons_append, List.nil_append, H1, H2, hget_set, hget_ne, hset_set, mI, nI_mul, nI_adds, al_I, as_I, nf_at, upd_nf, nI_lts, hi, if_true, nI_shl1, m_sf H hw (show j < 10 by omega), sf_ne hw (show j < 10 by omega)]
      cases (sfN g j (2 ^ i)).isSome <;> simp [nI_or]) 0
    rw [L, s152_14]
    simp (disch := omega) only [s152_15, s152_16, s152_19, s152_20, s152_21, s152_24, s152_25, s152_26, s152_27, s152_28, s152_29, s152_30, s152_33, s152_35, s152_38, s152_39, s152_40, s152_41, s152_44, s152_45, s152_46, s152_47, s152_50, s152_53, s152_54, gf0, gf1, gf2, gf3, gf4, gf5, gf6, gf7, gf8, gf9, gf10, gf11, gf12, gf13, gf14, pu0, pu1, pu2, pu3, pu4, pu5, pu6, pu7, pu8, pu9, pu10, pu11, pu12, pu13, pu14, rc_at, bK_some, Option.toList_some, Option.toList_none, List.cons_append, List.nil_append, H1, H2, hget_set, hget_ne, hset_set, mI, nI_mul, nI_adds, al_I, as_I, nf_at, upd_nf, nI_lts, Nat.lt_irrefl, if_false]
    rfl
theorem m_solved (H : MO h x r g) (hw : WF g) {v i : Nat} (hv : v < 10) (hi : i < 8) : run 153 0 [.ref x, .int (nI v), .int (nI i), .null] [] h = some (some (.int (slv g v i)), h) := by
  have hp := pow_8 (show i ≤ 8 by omega)
  have hr := Nat.le_trans (hw.2.2.2.2.2.2.1 v hv).2.2 hw.1.2
  have H1 := H.1
  simp (disch := omega) only [s153_0, s153_1, s153_2, s153_3, s153_4, s153_5, s153_8, s153_9, s153_10, s153_12, gf0, gf1, gf2, gf3, gf4, gf5, gf6, gf7, gf8, gf9, gf10, gf11, gf12, gf13, gf14, pu0, pu1, pu2, pu3, pu4, pu5, pu6, pu7, pu8, pu9, pu10, pu11, pu12, pu13, pu14, rc_at, bK_some, Option.toList_some, Option.toList_none, List.cons_append, List.nil_append, H1, nI_shl1, m_sf H hw hv, sf_ne hw hv]
  unfold slv
  cases hs : sfN g v (2 ^ i) with
  | none => simp [s153_15, s153_17, s153_20, s153_21, s153_22, s153_23, s153_26]
  | some s =>
    have := sf_lt hr s hs
    simp (disch := omega) only [Option.isSome_some, Bool.true_eq_false, if_false, s153_15, s153_17, s153_20, s153_21, s153_22, s153_23, s153_26, optI, gf0, gf1, gf2, gf3, gf4, gf5, gf6, gf7, gf8, gf9, gf10, gf11, gf12, gf13, gf14, pu0, pu1, pu2, pu3, pu4, pu5, pu6, pu7, pu8, pu9, pu10, pu11, pu12, pu13, pu14, rc_at, bK_some, Option.toList_some, Option.toList_none, List.cons_append, List.nil_append, H1, m_payloadFor H hv hr (show s < 2 ^ 31 by omega)]
theorem m_solve (H : MO h x r g) (hw : WF g) (v i : Int32) : run 154 0 [.ref x, .int v, .int i] [] h = some (some (.int (qSolve g v i)), h) := by
  have hn := hw.2.1
  have hk := hw.1
  obtain ⟨H1, H2⟩ := id H
  have eL : inI i (nI 0) (nI (g 0) - nI 1) = lkB (g 0) i := rfl
  simp (disch := omega) only [s154_0, s154_1, s154_2, s154_5, s154_8, s154_9, s154_10, s154_11, s154_14, s154_15, s154_16, s154_17, s154_18, s154_21, gf0, gf1, gf2, gf3, gf4, gf5, gf6, gf7, gf8, gf9, gf10, gf11, gf12, gf13, gf14, pu0, pu1, pu2, pu3, pu4, pu5, pu6, pu7, pu8, pu9, pu10, pu11, pu12, pu13, pu14, rc_at, bK_some, Option.toList_some, Option.toList_none, List.cons_append, List.nil_append, H1, H2, hget_set, hget_ne, hset_set, mI, nI_mul, nI_adds, al_I, as_I, nf_at, upd_nf, m_node H, m_in, eL, bI_0]
  unfold qSolve
  cases c1 : lkB (g 1) v
  · simp [s154_24, s154_25, s154_26, s154_27, s154_30, s154_33, s154_34]
  · cases c2 : lkB (g 0) i
    · simp [s154_24, s154_25, s154_26, s154_27, s154_30, s154_33, s154_34]
    · obtain ⟨j, j1, rfl, j3⟩ := lkB_t (by omega) c1
      obtain ⟨k, k1, rfl, k3⟩ := lkB_t (by omega) c2
      simp only [s154_24, s154_25, s154_26, s154_27, s154_30, s154_33, s154_34, gf0, gf1, gf2, gf3, gf4, gf5, gf6, gf7, gf8, gf9, gf10, gf11, gf12, gf13, gf14, pu0, pu1, pu2, pu3, pu4, pu5, pu6, pu7, pu8, pu9, pu10, pu11, pu12, pu13, pu14, rc_at, bK_some, Option.toList_some, Option.toList_none, List.cons_append, List.nil_append, H1, m_solved H hw (show j < 10 by omega) (show k < 8 by omega), Bool.true_eq_false, if_false, if_true, and_true, j3, k3]
theorem m_wrong (H : MO h x r g) (hw : WF g) : run 155 0 [.ref x, .null, .null, .null, .null] [] h = some (some (.int (nI (wrN g))), h) := by
  have hn := hw.2.1
  have hk := hw.1
  obtain ⟨H1, H2⟩ := id H
  simp only [s155_0, s155_1, s155_2, s155_3]
  obtain ⟨w', L⟩ := loop_upJ (fun i (c : Nat) (w : Value × Value) => run 155 4 [.ref x, .int (nI c), .int (nI (1 + i)), w.1, w.2] [] h) (fun i c => c + wrC g (1 + i)) (g 1 - 1) (by
    intro i c w hi
    rw [s155_4]
    simp (disch := omega) only [s155_5, s155_6, s155_9, s155_10, s155_11, s155_14, s155_15, gf0, gf1, gf2, gf3, gf4, gf5, gf6, gf7, gf8, gf9, gf10, gf11, gf12, gf13, gf14, pu0, pu1, pu2, pu3, pu4, pu5, pu6, pu7, pu8, pu9, pu10, pu11, pu12, pu13, pu14, rc_at, bK_some, Option.toList_some, Option.toList_none, List.cons_append, List.nil_append, H1, H2, hget_set, hget_ne, hset_set, mI, nI_mul, nI_adds, al_I, as_I, nf_at, upd_nf, nI_lts, show 1 + i < g 1 from by omega, if_true]
    obtain ⟨w1, L1⟩ := loop_upJ (fun k (c : Nat) (w : Value) => run 155 16 [.ref x, .int (nI c), .int (nI (1 + i)), .int (nI k), w] [] h) (fun k c => c + (if (decide (¬ slv g (1 + i) k = -4) && decide (¬ slv g (1 + i) k = nI (g (6 + k)))) = true then 1 else 0)) (g 0) (by
      intro k c w hk'
      refine ⟨.int (slv g (1 + i) k), ?_⟩
      rw [s155_16]
      simp (disch := omega) only [s155_17, s155_18, s155_21, s155_22, s155_23, s155_26, s155_27, s155_28, s155_29, s155_32, s155_34, s155_35, s155_37, s155_39, s155_42, s155_44, s155_45, s155_48, s155_50, s155_51, s155_52, s155_53, s155_56, s155_57, s155_60, s155_61, s155_62, s155_63, s155_66, gf0, gf1, gf2, gf3, gf4, gf5, gf6, gf7, gf8, gf9, gf10, gf11, gf12, gf13, gf14, pu0, pu1, pu2, pu3, pu4, pu5, pu6, pu7, pu8, pu9, pu10, pu11, pu12, pu13, pu14, rc_at, bK_some, Option.toList_some, Option.toList_none, List.cons_append, List.nil_append, H1, H2, hget_set, hget_ne, hset_set, mI, nI_mul, nI_adds, al_I, as_I, nf_at, upd_nf, nI_lts, hk', if_true, m_solved H hw (show 1 + i < 10 by omega) (show k < 8 by omega)]
      by_cases c1 : slv g (1 + i) k = -4
      · simp [c1, nI_adds]
      · by_cases c2 : slv g (1 + i) k = nI (g (6 + k)) <;> simp [c1, c2, nI_adds]) c w.2
    rw [fold_cnt] at L1
    refine ⟨(.int (nI (g 0)), w1), ?_⟩
    rw [L1, s155_16]
    simp (disch := omega) only [s155_17, s155_18, s155_21, s155_22, s155_23, s155_26, s155_27, s155_28, s155_29, s155_32, s155_34, s155_35, s155_37, s155_39, s155_42, s155_44, s155_45, s155_48, s155_50, s155_51, s155_52, s155_53, s155_56, s155_57, s155_60, s155_61, s155_62, s155_63, s155_66, s155_69, s155_72, gf0, gf1, gf2, gf3, gf4, gf5, gf6, gf7, gf8, gf9, gf10, gf11, gf12, gf13, gf14, pu0, pu1, pu2, pu3, pu4, pu5, pu6, pu7, pu8, pu9, pu10, pu11, pu12, pu13, pu14, rc_at, bK_some, Option.toList_some, Option.toList_none, List.cons_append, List.nil_append, H1, H2, hget_set, hget_ne, hset_set, mI, nI_mul, nI_adds, al_I, as_I, nf_at, upd_nf, nI_lts, Nat.lt_irrefl, if_false, Nat.add_assoc]
    rfl) 0 (.null, .null)
  simp only [Nat.add_zero] at L
  rw [L, s155_4]
  simp (disch := omega) only [s155_5, s155_6, s155_9, s155_10, s155_11, s155_75, s155_76, gf0, gf1, gf2, gf3, gf4, gf5, gf6, gf7, gf8, gf9, gf10, gf11, gf12, gf13, gf14, pu0, pu1, pu2, pu3, pu4, pu5, pu6, pu7, pu8, pu9, pu10, pu11, pu12, pu13, pu14, rc_at, bK_some, Option.toList_some, Option.toList_none, List.cons_append, List.nil_append, H1, H2, hget_set, hget_ne, hset_set, mI, nI_mul, nI_adds, al_I, as_I, nf_at, upd_nf, nI_lts, show ¬ (1 + (g 1 - 1) < g 1) from by omega, if_false]
  rfl
theorem m_combination (H : MO h x r g) (hw : WF g) (v a : Int32) : run 156 0 [.ref x, .int v, .int a] [] h = some (some (.int (qComb g v a)), h) := by
  have hn := hw.2.1
  have hk := hw.1
  have hp := pow_8 hk.2
  have H1 := H.1
  simp (disch := omega) only [s156_0, s156_1, s156_2, s156_5, s156_8, s156_9, s156_10, s156_11, s156_14, s156_17, gf0, gf1, gf2, gf3, gf4, gf5, gf6, gf7, gf8, gf9, gf10, gf11, gf12, gf13, gf14, pu0, pu1, pu2, pu3, pu4, pu5, pu6, pu7, pu8, pu9, pu10, pu11, pu12, pu13, pu14, rc_at, bK_some, Option.toList_some, Option.toList_none, List.cons_append, List.nil_append, H1, m_node H, m_all H, m_in, bI_0]
  unfold qComb
  cases c1 : lkB (g 1) v
  · simp [s156_20, s156_21, s156_22, s156_23, s156_26, s156_29, s156_30]
  · cases c2 : inI a (nI 0) (nI (2 ^ g 0 - 1))
    · simp [s156_20, s156_21, s156_22, s156_23, s156_26, s156_29, s156_30]
    · obtain ⟨j, j1, rfl, j3⟩ := lkB_t (by omega) c1
      obtain ⟨k, k1, k2, rfl, k3⟩ := inI_t (by omega) (by decide) c2
      simp (disch := omega) only [s156_20, s156_21, s156_22, s156_23, s156_26, s156_29, s156_30, gf0, gf1, gf2, gf3, gf4, gf5, gf6, gf7, gf8, gf9, gf10, gf11, gf12, gf13, gf14, pu0, pu1, pu2, pu3, pu4, pu5, pu6, pu7, pu8, pu9, pu10, pu11, pu12, pu13, pu14, rc_at, bK_some, Option.toList_some, Option.toList_none, List.cons_append, List.nil_append, H1, m_sf H hw (show j < 10 by omega), Bool.true_eq_false, if_false, if_true, and_true, j3, k3]
theorem m_logOf (h : aH) (a : Value) : ∀ n m c, m < 2 ^ n → n ≤ 30 → run 157 4 [a, .int (nI c), .int (nI m)] [] h = some (some (.int (nI (c + lgF n m))), h) := by
  intro n
  induction n with
  | zero =>
    intro m c hm _
    have : m = 0 := by simpa using hm
    subst this
    rw [s157_4]
    simp (disch := omega) only [s157_5, s157_6, s157_9, s157_12, s157_13, s157_14, s157_15, s157_16, s157_19, s157_20, nI_lts, show ¬ (1 < 0) from by decide, if_false, lgF, Nat.add_zero]
  | succ n ih =>
    intro m c hm hn
    have hp : 2 ^ (n + 1) ≤ 2 ^ 30 := Nat.pow_le_pow_right (by decide) hn
    rw [s157_4]
    unfold lgF
    by_cases c1 : 1 < m
    · simp (disch := omega) only [s157_5, s157_6, s157_9, s157_12, s157_13, s157_14, s157_15, s157_16, nI_lts, c1, if_true, nI_eq0, show (2 : Nat) ≠ 0 from by decide, if_false, nI_div, nI_adds]
      rw [ih (m / 2) (c + 1) (by rw [Nat.pow_succ] at hm; omega) (by omega), Nat.add_assoc]
    · simp (disch := omega) only [s157_5, s157_6, s157_9, s157_12, s157_13, s157_14, s157_15, s157_16, s157_19, s157_20, nI_lts, c1, if_false, Nat.add_zero]
theorem lgF_fuel : ∀ n m, m < 2 ^ n → lgF (n + 1) m = lgF n m := by
  intro n
  induction n with
  | zero => intro m hm; have : m = 0 := by simpa using hm
            subst this; rfl
  | succ n ih =>
    intro m hm
    show (if 1 < m then 1 + lgF (n + 1) (m / 2) else 0) = (if 1 < m then 1 + lgF n (m / 2) else 0)
    rw [ih (m / 2) (by rw [Nat.pow_succ] at hm; omega)]
theorem m_commonRank (H : MO h x r g) (hw : WF g) (a b : Int32) : run 158 0 [.ref x, .int a, .int b, .null, .null] [] h = some (some (.int (qCommon g a b)), h) := by
  have hn := hw.2.1
  have hk := hw.1
  have hp := pow_8 hk.2
  have hp1 : 1 ≤ 2 ^ g 0 := Nat.one_le_two_pow
  have H1 := H.1
  simp only [s158_0, s158_1, s158_2, s158_5, s158_8, s158_9, s158_10, s158_13, s158_16, s158_17, gf0, gf1, gf2, gf3, gf4, gf5, gf6, gf7, gf8, gf9, gf10, gf11, gf12, gf13, gf14, pu0, pu1, pu2, pu3, pu4, pu5, pu6, pu7, pu8, pu9, pu10, pu11, pu12, pu13, pu14, rc_at, bK_some, Option.toList_some, Option.toList_none, List.cons_append, List.nil_append, H1, m_node H, bI_0]
  unfold qCommon
  cases c1 : lkB (g 1) a
  · simp
  · cases c2 : lkB (g 1) b
    · simp
    · obtain ⟨j, j1, rfl, j3⟩ := lkB_t (by omega) c1
      obtain ⟨k, k1, rfl, k3⟩ := lkB_t (by omega) c2
      simp only [s158_18, s158_19, s158_20, s158_21, Bool.true_eq_false, if_false, if_true, and_true, j3, k3]
      have L := loop_up (fun i (c : Nat) => run 158 23 [.ref x, .int (nI j), .int (nI k), .int (nI c), .int (nI i)] [] h) (fun i c => c + (if ((sfN g j i).isSome && (sfN g k i).isSome) = true then 1 else 0)) (2 ^ g 0) (by
        intro i c hi
        rw [s158_23]
        simp (disch := omega) only [s158_25, s158_26, s158_29, s158_32, s158_33, s158_34, s158_35, s158_37, s158_40, s158_42, s158_45, s158_46, s158_47, s158_49, s158_52, s158_54, s158_57, s158_58, s158_61, s158_62, s158_63, s158_64, s158_67, gf0, gf1, gf2, gf3, gf4, gf5, gf6, gf7, gf8, gf9, gf10, gf11, gf12, gf13, gf14, pu0, pu1, pu2, pu3, pu4, pu5, pu6, pu7, pu8, pu9, pu10, pu11, pu12, pu13, pu14, rc_at, bK_some, Option.toList_some, Option.toList_none, List.cons_append, List.nil_append, H1, m_all H, nI_lts, show ¬ (2 ^ g 0 - 1 < i) from by omega, if_false, m_sf H hw (show j < 10 by omega), m_sf H hw (show k < 10 by omega), sf_ne hw (show j < 10 by omega), sf_ne hw (show k < 10 by omega)]
        cases (sfN g j i).isSome <;> cases (sfN g k i).isSome <;> simp [nI_adds]) 0
      rw [fold_cnt, Nat.zero_add] at L
      have hc : comN g j k ≤ 2 ^ g 0 := cntN_le _ _
      rw [L, s158_23]
      have e : cntN (fun w => (sfN g j w).isSome && (sfN g k w).isSome) (2 ^ g 0) = comN g j k := rfl
      have LG : run 157 0 [.int (nI (comN g j k)), .null, .null] [] h = some (some (.int (nI (lgF 9 (comN g j k)))), h) := by
        simp only [s157_0, s157_1, s157_2, s157_3]
        rw [m_logOf h _ 9 _ 0 (by omega) (by decide), Nat.zero_add]
      simp (disch := omega) only [s158_25, s158_26, s158_29, s158_70, s158_71, s158_74, gf0, gf1, gf2, gf3, gf4, gf5, gf6, gf7, gf8, gf9, gf10, gf11, gf12, gf13, gf14, pu0, pu1, pu2, pu3, pu4, pu5, pu6, pu7, pu8, pu9, pu10, pu11, pu12, pu13, pu14, rc_at, bK_some, Option.toList_some, Option.toList_none, List.cons_append, List.nil_append, H1, m_all H, nI_lts, show 2 ^ g 0 - 1 < 2 ^ g 0 from by omega, if_true, e, LG]
theorem m_isSuspect (H : MO h x r g) (hw : WF g) {v p : Nat} (hv : v < 10) (hp : p < 256) : run 159 0 [.ref x, .int (nI v), .int (nI p), .null, .null] [] h = some (some (.int (bI (susN g v p))), h) := by
  obtain ⟨H1, H2⟩ := id H
  have hr := Nat.le_trans (hw.2.2.2.2.2.2.1 v hv).2.2 hw.1.2
  simp only [s159_0, s159_1, s159_2, s159_3]
  have L := loop_up (fun i (b : Bool) => run 159 5 [.ref x, .int (nI v), .int (nI p), .int (bI b), .int (nI i)] [] h) (fun i b => b || oddN (vecs g v i) p) (g (44 + v)) (by
    intro i b hi
    have h8 : vecs g v i < 256 := hw.vlt hv hi
    have ev : g (54 + 16 * v + 2 * i) = vecs g v i := rfl
    rw [s159_5]
    simp (disch := omega) only [s159_7, s159_8, s159_11, s159_13, s159_14, s159_15, s159_16, s159_19, s159_20, s159_23, s159_24, s159_25, s159_27, s159_30, s159_31, s159_34, s159_37, s159_38, s159_41, s159_42, s159_43, s159_46, gf0, gf1, gf2, gf3, gf4, gf5, gf6, gf7, gf8, gf9, gf10, gf11, gf12, gf13, gf14, pu0, pu1, pu2, pu3, pu4, pu5, pu6, pu7, pu8, pu9, pu10, pu11, pu12, pu13, pu14, rc_at, bK_some, Option.toList_some, Option.toList_none, List.cons_append, List.nil_append, H1, H2, hget_set, hget_ne, hset_set, mI, nI_mul, nI_adds, al_I, as_I, nf_at, upd_nf, nI_lts, hi, if_true, m_vectorOf H hv (show i < 8 by omega), ev, m_isOdd h8, bI_0]
    cases b
    · cases oddN (vecs g v i) p <;> simp [bI, nI_adds]
    · simp [bI, nI_adds]) false
  have hF : ∀ n, foldN (fun i b => b || oddN (vecs g v i) p) n false = anyN (fun i => oddN (vecs g v i) p) n := by
    intro n
    induction n with
    | zero => rfl
    | succ n ih => simp only [foldN, anyN, ih]
  simp only [bI_f] at L
  rw [L, hF, s159_5]
  simp (disch := omega) only [s159_7, s159_8, s159_11, s159_13, s159_14, s159_15, s159_16, s159_49, s159_50, gf0, gf1, gf2, gf3, gf4, gf5, gf6, gf7, gf8, gf9, gf10, gf11, gf12, gf13, gf14, pu0, pu1, pu2, pu3, pu4, pu5, pu6, pu7, pu8, pu9, pu10, pu11, pu12, pu13, pu14, rc_at, bK_some, Option.toList_some, Option.toList_none, List.cons_append, List.nil_append, H1, H2, hget_set, hget_ne, hset_set, mI, nI_mul, nI_adds, al_I, as_I, nf_at, upd_nf, nI_lts, Nat.lt_irrefl, if_false]
  have L2 := loop_up (fun i (b : Bool) => run 159 52 [.ref x, .int (nI v), .int (nI p), .int (bI b), .int (nI i)] [] h) (fun w b => b && !(decide (g (434 + 256 * v + w) = 1) && oddN w p)) 256 (by
    intro i b hi
    have h1 := hw.2.2.2.2.2.2.2.2.1 (256 * v + i) (by omega)
    rw [← Nat.add_assoc] at h1
    rw [s159_52]
    simp (disch := omega) only [s159_54, s159_57, s159_60, s159_61, s159_64, s159_65, s159_68, s159_71, s159_74, s159_75, s159_76, s159_77, s159_79, s159_80, s159_81, s159_82, s159_85, s159_87, s159_88, s159_91, s159_94, s159_95, s159_98, s159_99, s159_100, s159_103, gf0, gf1, gf2, gf3, gf4, gf5, gf6, gf7, gf8, gf9, gf10, gf11, gf12, gf13, gf14, pu0, pu1, pu2, pu3, pu4, pu5, pu6, pu7, pu8, pu9, pu10, pu11, pu12, pu13, pu14, rc_at, bK_some, Option.toList_some, Option.toList_none, List.cons_append, List.nil_append, H1, H2, hget_set, hget_ne, hset_set, mI, nI_mul, nI_adds, al_I, as_I, nf_at, upd_nf, nI_lts, hi, if_true, m_isOdd hi, bI_0, nI_eqs]
    cases b
    · simp [bI, nI_adds]
    · by_cases c : g (434 + 256 * v + i) = 1
      · cases oddN i p <;> simp [c, bI, nI_adds]
      · simp [c, bI, nI_adds]) (anyN (fun i => oddN (vecs g v i) p) (g (44 + v)))
  have hF2 : ∀ n b, foldN (fun w b => b && !(decide (g (434 + 256 * v + w) = 1) && oddN w p)) n b = (b && !(anyN (fun w => decide (g (434 + 256 * v + w) = 1) && oddN w p) n)) := by
    intro n b
    induction n with
    | zero => simp [foldN, anyN]
    | succ n ih =>
      simp only [foldN, anyN, ih, Bool.not_or]
      rw [Bool.and_assoc]
  rw [L2, hF2, s159_52]
  simp (disch := omega) only [s159_54, s159_57, s159_106, s159_107, nI_lts, Nat.lt_irrefl, if_false, bI_01, if_true]
  rfl
theorem m_suspect (H : MO h x r g) (hw : WF g) (v p : Int32) : run 160 0 [.ref x, .int v, .int p] [] h = some (some (.int (qSus g v p)), h) := by
  have hn := hw.2.1
  have hk := hw.1
  have hp := pow_8 hk.2
  have h20 := hw.2.2.1
  have H1 := H.1
  simp (disch := omega) only [s160_0, s160_1, s160_2, s160_5, s160_8, s160_9, s160_10, s160_13, s160_16, s160_17, gf0, gf1, gf2, gf3, gf4, gf5, gf6, gf7, gf8, gf9, gf10, gf11, gf12, gf13, gf14, pu0, pu1, pu2, pu3, pu4, pu5, pu6, pu7, pu8, pu9, pu10, pu11, pu12, pu13, pu14, rc_at, bK_some, Option.toList_some, Option.toList_none, List.cons_append, List.nil_append, H1, m_isRelay H h20, m_isProjection H, bI_0]
  unfold qSus
  cases c1 : relN g v
  · simp
  · cases c2 : inI p (nI 1) (nI (2 ^ g 0 - 1))
    · simp
    · obtain ⟨j, j0, j1, rfl, j3⟩ := relN_t hw c1
      obtain ⟨k, k1, k2, rfl, k3⟩ := inI_t (by omega) (by decide) c2
      simp only [s160_18, s160_19, s160_20, s160_21, s160_24, s160_27, s160_28, s160_31, s160_32, gf0, gf1, gf2, gf3, gf4, gf5, gf6, gf7, gf8, gf9, gf10, gf11, gf12, gf13, gf14, pu0, pu1, pu2, pu3, pu4, pu5, pu6, pu7, pu8, pu9, pu10, pu11, pu12, pu13, pu14, rc_at, bK_some, Option.toList_some, Option.toList_none, List.cons_append, List.nil_append, H1, m_isSuspect H hw (show j < 10 by omega) (show k < 256 by omega), bI_0, Bool.true_eq_false, if_false, if_true, and_true, j3, k3]
      cases susN g j k <;> simp [bI]
theorem m_suspicions (H : MO h x r g) (hw : WF g) (v : Int32) : run 161 0 [.ref x, .int v, .null, .null] [] h = some (some (.int (qSuss g v)), h) := by
  have hn := hw.2.1
  have hk := hw.1
  have hp := pow_8 hk.2
  have hp1 : 1 ≤ 2 ^ g 0 := Nat.one_le_two_pow
  have h20 := hw.2.2.1
  have H1 := H.1
  simp only [s161_0, s161_1, s161_2, s161_5, s161_8, s161_9, gf0, gf1, gf2, gf3, gf4, gf5, gf6, gf7, gf8, gf9, gf10, gf11, gf12, gf13, gf14, pu0, pu1, pu2, pu3, pu4, pu5, pu6, pu7, pu8, pu9, pu10, pu11, pu12, pu13, pu14, rc_at, bK_some, Option.toList_some, Option.toList_none, List.cons_append, List.nil_append, H1, m_isRelay H h20, bI_0]
  unfold qSuss
  cases c1 : relN g v
  · simp
  · obtain ⟨j, j0, j1, rfl, j3⟩ := relN_t hw c1
    simp only [s161_10, s161_11, s161_12, s161_13, Bool.true_eq_false, if_false, if_true, j3]
    have L := loop_up (fun i (c : Nat) => run 161 14 [.ref x, .int (nI j), .int (nI c), .int (nI (1 + i))] [] h) (fun i c => c + (if susN g j (1 + i) = true then 1 else 0)) (2 ^ g 0 - 1) (by
      intro i c hi
      rw [s161_14]
      simp (disch := omega) only [s161_15, s161_16, s161_19, s161_22, s161_23, s161_24, s161_25, s161_26, s161_29, s161_32, s161_33, s161_36, s161_37, s161_38, s161_39, s161_42, gf0, gf1, gf2, gf3, gf4, gf5, gf6, gf7, gf8, gf9, gf10, gf11, gf12, gf13, gf14, pu0, pu1, pu2, pu3, pu4, pu5, pu6, pu7, pu8, pu9, pu10, pu11, pu12, pu13, pu14, rc_at, bK_some, Option.toList_some, Option.toList_none, List.cons_append, List.nil_append, H1, m_all H, nI_lts, show ¬ (2 ^ g 0 - 1 < 1 + i) from by omega, if_false, m_isSuspect H hw (show j < 10 by omega) (show 1 + i < 256 by omega), bI_0, Nat.add_assoc]
      cases susN g j (1 + i) <;> simp [nI_adds, Nat.add_assoc]) 0
    simp only [Nat.add_zero] at L
    rw [fold_cnt, Nat.zero_add] at L
    rw [L, s161_14]
    simp (disch := omega) only [s161_15, s161_16, s161_19, s161_45, s161_46, gf0, gf1, gf2, gf3, gf4, gf5, gf6, gf7, gf8, gf9, gf10, gf11, gf12, gf13, gf14, pu0, pu1, pu2, pu3, pu4, pu5, pu6, pu7, pu8, pu9, pu10, pu11, pu12, pu13, pu14, rc_at, bK_some, Option.toList_some, Option.toList_none, List.cons_append, List.nil_append, H1, m_all H, nI_lts, show 2 ^ g 0 - 1 < 1 + (2 ^ g 0 - 1) from by omega, if_true]
end ML
