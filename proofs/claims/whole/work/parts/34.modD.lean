/-! the settings -/
def cl (x : Int32) : Nat := x.toNatClampNeg
theorem cl_nI {n : Nat} (h : n < 2 ^ 31) : cl (nI n) = n := nI_clamp h
theorem inI_t {x : Int32} {a b : Nat} (hb : b < 2 ^ 31) (ha : a < 2 ^ 31) (h : inI x (nI a) (nI b) = true) : ∃ j, a ≤ j ∧ j ≤ b ∧ x = nI j ∧ cl x = j := by
  unfold inI at h
  simp only [Bool.and_eq_true, decide_eq_true_eq] at h
  obtain ⟨j, h1, h2, rfl⟩ := arg_in hb h.1 h.2 ha
  exact ⟨j, h1, h2, rfl, cl_nI (by omega)⟩
theorem inI_nI {j a b : Nat} (hj : j < 2 ^ 31) (ha : a < 2 ^ 31) (hb : b < 2 ^ 31) : inI (nI j) (nI a) (nI b) = decide (a ≤ j ∧ j ≤ b) := by
  simp only [inI, nI_lts hj ha, nI_lts hb hj]
  by_cases h1 : a ≤ j <;> by_cases h2 : j ≤ b <;> simp [h1, h2, Nat.not_lt]
theorem MO.eq2 {h : aH} {x : Nat} {r : List Value} {g : Nat → Nat} (H : MO h x r g) : hset h (x + 1) (.inl (0, 2994, .inl (nf g))) = h := hset_same H.2
/-- what a state keeps to -/
def WF (g : Nat → Nat) : Prop := (2 ≤ g 0 ∧ g 0 ≤ 8) ∧ (3 ≤ g 1 ∧ g 1 ≤ 10) ∧ g 2 ≤ 20 ∧ (∀ l, l < g 2 → g (214 + 11 * l) < g (215 + 11 * l) ∧ g (215 + 11 * l) < g 1 ∧ g (216 + 11 * l) ≤ 9) ∧ g 4 < 2 ^ 31 ∧ (1 ≤ g 5 ∧ g 5 ≤ 9) ∧ (∀ v, v < 10 → g (14 + v) ≤ 4 ∧ g (34 + v) ≤ 1 ∧ g (44 + v) ≤ g 0) ∧ (∀ v i, v < 10 → i < g (44 + v) → g (54 + 16 * v + 2 * i) < 2 ^ g 0) ∧ (∀ j, j < 2560 → g (434 + j) ≤ 1) ∧ g 14 = 0
def oSetPackets (g : Nat → Nat) (p : Int32) : Int32 × (Nat → Nat) := if inI p (nI 2) (nI 8) = true then (nI (g 0), gBegin (gFirst (up g 0 (cl p)))) else (-1, g)
def oSetPayload (g : Nat → Nat) (i p : Int32) : Int32 × (Nat → Nat) := if inI i (nI 0) (nI (g 0 - 1)) = true ∧ inI p (nI 0) (nI 255) = true then (nI (g (6 + cl i)), gBegin (up g (6 + cl i) (cl p))) else (-1, g)
def gHonest (g : Nat → Nat) : Nat → Nat := fun j => if 14 ≤ j ∧ j < 24 then 0 else g j
def oSetNodes (g : Nat → Nat) (n : Int32) : Int32 × (Nat → Nat) := if inI n (nI 3) (nI 10) = true then (nI (g 1), gBegin (gHonest (up (up g 1 (cl n)) 2 0))) else (-1, g)
def gLay (g : Nat → Nat) (a b c : Nat) : Nat → Nat := up (up (up (up g (214 + 11 * g 2) a) (215 + 11 * g 2) b) (216 + 11 * g 2) c) 2 (g 2 + 1)
def oAddLink (g : Nat → Nat) (a b c : Int32) : Int32 × (Nat → Nat) :=
  if inI a (nI 0) (nI (g 1 - 1)) = true ∧ inI b (nI 0) (nI (g 1 - 1)) = true ∧ a < b ∧ inI c (nI 0) (nI 9) = true then (if g 2 = 20 then (-2, g) else (nI (g 2), gBegin (gLay g (cl a) (cl b) (cl c)))) else (-1, g)
def oRemoveLink (g : Nat → Nat) : Int32 × (Nat → Nat) := if g 2 = 0 then (-3, g) else (nI (g 2 - 1), gBegin (up g 2 (g 2 - 1)))
def oSetBehavior (g : Nat → Nat) (v b : Int32) : Int32 × (Nat → Nat) := if inI v (nI 0) (nI (g 1 - 1)) = true ∧ ¬ v = 0 ∧ inI b (nI 0) (nI 4) = true then (nI (g (14 + cl v)), gBegin (up g (14 + cl v) (cl b))) else (-1, g)
def oSetState (g : Nat → Nat) (s : Int32) : Int32 × (Nat → Nat) := if s < 0 then (-1, g) else (nI (g 4), up g 4 (cl s))
def oSetLimit (g : Nat → Nat) (q : Int32) : Int32 × (Nat → Nat) := if inI q (nI 1) (nI 9) = true then (nI (g 5), up g 5 (cl q)) else (-1, g)
section MD
variable {h : aH} {x : Nat} {r : List Value} {g : Nat → Nat}
theorem m_setPackets (H : MO h x r g) (hw : WF g) (p : Int32) : run 122 0 [.ref x, .int p, .null] [] h = some (some (.int (oSetPackets g p).1), hset h (x + 1) (mI (oSetPackets g p).2)) := by
  obtain ⟨H1, H2⟩ := id H
  simp only [s122_0, s122_1, s122_2, s122_4, s122_7, s122_10, s122_11, gf0, gf1, gf2, gf3, gf4, gf5, gf6, gf7, gf8, gf9, gf10, gf11, gf12, gf13, gf14, pu0, pu1, pu2, pu3, pu4, pu5, pu6, pu7, pu8, pu9, pu10, pu11, pu12, pu13, pu14, rc_at, bK_some, Option.toList_some, Option.toList_none, List.cons_append, List.nil_append, m_in, bI_0]
  unfold oSetPackets
  cases hc : inI p (nI 2) (nI 8)
  · simp only [if_true, Bool.false_eq_true, if_false, ← H.eq]
  · obtain ⟨j, h1, h2, rfl, h3⟩ := inI_t (by decide) (by decide) hc
    have e := MO.set (g' := up g 0 j) H
    have e2 := MO.set (g' := gFirst (up g 0 j)) H
    have hk : gFirst (up g 0 j) 0 ≤ 8 := by simp [gFirst, up]; exact h2
    have A := m_firstPayloads e
    have B := m_begin e2 hk
    simp only [mI] at A B
    simp (disch := omega) only [s122_12, s122_13, s122_16, s122_17, s122_18, s122_19, s122_20, s122_23, s122_24, s122_25, s122_26, s122_27, s122_30, s122_31, s122_34, s122_35, gf0, gf1, gf2, gf3, gf4, gf5, gf6, gf7, gf8, gf9, gf10, gf11, gf12, gf13, gf14, pu0, pu1, pu2, pu3, pu4, pu5, pu6, pu7, pu8, pu9, pu10, pu11, pu12, pu13, pu14, rc_at, bK_some, Option.toList_some, Option.toList_none, List.cons_append, List.nil_append, H1, H2, hget_set, hget_ne, hset_set, mI, nI_mul, nI_adds, al_I, as_I, nf_at, upd_nf, A, B, if_false, if_true, h3, Bool.true_eq_false]
theorem m_setPayload (H : MO h x r g) (hw : WF g) (i p : Int32) : run 123 0 [.ref x, .int i, .int p, .null] [] h = some (some (.int (oSetPayload g i p).1), hset h (x + 1) (mI (oSetPayload g i p).2)) := by
  obtain ⟨H1, H2⟩ := id H
  have hk := hw.1
  simp (disch := omega) only [s123_0, s123_1, s123_2, s123_3, s123_6, s123_7, s123_8, s123_9, s123_10, s123_13, s123_16, s123_17, s123_18, s123_21, s123_24, s123_27, s123_28, gf0, gf1, gf2, gf3, gf4, gf5, gf6, gf7, gf8, gf9, gf10, gf11, gf12, gf13, gf14, pu0, pu1, pu2, pu3, pu4, pu5, pu6, pu7, pu8, pu9, pu10, pu11, pu12, pu13, pu14, rc_at, bK_some, Option.toList_some, Option.toList_none, List.cons_append, List.nil_append, H1, H2, hget_set, hget_ne, hset_set, mI, nI_mul, nI_adds, al_I, as_I, nf_at, upd_nf, nI_sub, m_in, bI_0]
  unfold oSetPayload
  cases hc : inI i (nI 0) (nI (g 0 - 1))
  · simp only [if_true, Bool.false_eq_true, if_false, false_and, mI, H.eq2]
  · cases hc2 : inI p (nI 0) (nI 255)
    · simp only [if_true, Bool.false_eq_true, Bool.true_eq_false, if_false, and_false, mI, H.eq2]
    · obtain ⟨j, h1, h2, rfl, h3⟩ := inI_t (by omega) (by decide) hc
      obtain ⟨q, q1, q2, rfl, q3⟩ := inI_t (by decide) (by decide) hc2
      have e := MO.set (g' := up g (6 + j) q) H
      have hk2 : up g (6 + j) q 0 ≤ 8 := by rw [up_ne (by omega)]; exact hk.2
      have B := m_begin e hk2
      simp only [mI] at B
      simp (disch := omega) only [s123_29, s123_30, s123_33, s123_35, s123_36, s123_37, s123_38, s123_39, s123_40, s123_43, s123_45, s123_46, s123_47, s123_48, s123_49, s123_50, s123_53, s123_54, gf0, gf1, gf2, gf3, gf4, gf5, gf6, gf7, gf8, gf9, gf10, gf11, gf12, gf13, gf14, pu0, pu1, pu2, pu3, pu4, pu5, pu6, pu7, pu8, pu9, pu10, pu11, pu12, pu13, pu14, rc_at, bK_some, Option.toList_some, Option.toList_none, List.cons_append, List.nil_append, H1, H2, hget_set, hget_ne, hset_set, mI, nI_mul, nI_adds, al_I, as_I, nf_at, upd_nf, B, if_false, if_true, h3, q3, Bool.true_eq_false, and_true]
theorem m_setNodes (H : MO h x r g) (hw : WF g) (n : Int32) : run 124 0 [.ref x, .int n, .null, .null] [] h = some (some (.int (oSetNodes g n).1), hset h (x + 1) (mI (oSetNodes g n).2)) := by
  obtain ⟨H1, H2⟩ := id H
  simp only [s124_0, s124_1, s124_2, s124_4, s124_7, s124_10, s124_11, gf0, gf1, gf2, gf3, gf4, gf5, gf6, gf7, gf8, gf9, gf10, gf11, gf12, gf13, gf14, pu0, pu1, pu2, pu3, pu4, pu5, pu6, pu7, pu8, pu9, pu10, pu11, pu12, pu13, pu14, rc_at, bK_some, Option.toList_some, Option.toList_none, List.cons_append, List.nil_append, m_in, bI_0]
  unfold oSetNodes
  cases hc : inI n (nI 3) (nI 10)
  · simp only [if_true, Bool.false_eq_true, if_false, ← H.eq]
  · obtain ⟨j, h1, h2, rfl, h3⟩ := inI_t (by decide) (by decide) hc
    simp (disch := omega) only [s124_12, s124_13, s124_16, s124_17, s124_18, s124_19, s124_20, s124_23, s124_24, s124_25, s124_26, s124_27, s124_30, s124_31, s124_32, s124_33, s124_34, gf0, gf1, gf2, gf3, gf4, gf5, gf6, gf7, gf8, gf9, gf10, gf11, gf12, gf13, gf14, pu0, pu1, pu2, pu3, pu4, pu5, pu6, pu7, pu8, pu9, pu10, pu11, pu12, pu13, pu14, rc_at, bK_some, Option.toList_some, Option.toList_none, List.cons_append, List.nil_append, H1, H2, hget_set, hget_ne, hset_set, mI, nI_mul, nI_adds, al_I, as_I, nf_at, upd_nf, if_false, if_true, h3, Bool.true_eq_false]
    have L := loop_up (fun i (g' : Nat → Nat) => run 124 35 [.ref x, .int (nI j), .int (nI (g 1)), .int (nI i)] [] (hset h (x + 1) (mI g'))) (fun i g => up g (14 + i) 0) 10 (by
      intro i g' hi
      rw [s124_35]
      simp (disch := omega) only [s124_36, s124_38, s124_41, s124_42, s124_45, s124_47, s124_48, s124_49, s124_50, s124_51, s124_54, gf0, gf1, gf2, gf3, gf4, gf5, gf6, gf7, gf8, gf9, gf10, gf11, gf12, gf13, gf14, pu0, pu1, pu2, pu3, pu4, pu5, pu6, pu7, pu8, pu9, pu10, pu11, pu12, pu13, pu14, rc_at, bK_some, Option.toList_some, Option.toList_none, List.cons_append, List.nil_append, H1, hget_set, hget_ne, hset_set, mI, nI_mul, nI_adds, al_I, as_I, nf_at, upd_nf, nI_lts, hi, if_true]) (up (up g 1 j) 2 0)
    simp only [mI] at L
    have hfold : foldN (fun i g => up g (14 + i) 0) 10 (up (up g 1 j) 2 0) = gHonest (up (up g 1 j) 2 0) := by rw [fold_lin]; rfl
    rw [L, s124_35, hfold]
    have e := MO.set (g' := gHonest (up (up g 1 j) 2 0)) H
    have hk2 : gHonest (up (up g 1 j) 2 0) 0 ≤ 8 := by simp [gHonest, up]; exact hw.1.2
    have B := m_begin e hk2
    simp only [mI] at B
    simp (disch := omega) only [s124_36, s124_38, s124_41, s124_42, s124_45, s124_47, s124_48, s124_49, s124_50, s124_51, s124_54, s124_57, s124_58, s124_61, s124_62, gf0, gf1, gf2, gf3, gf4, gf5, gf6, gf7, gf8, gf9, gf10, gf11, gf12, gf13, gf14, pu0, pu1, pu2, pu3, pu4, pu5, pu6, pu7, pu8, pu9, pu10, pu11, pu12, pu13, pu14, rc_at, bK_some, Option.toList_some, Option.toList_none, List.cons_append, List.nil_append, H1, hget_ne, hset_set, nI_lts, Nat.lt_irrefl, if_false, B, mI]
theorem m_layLink (H : MO h x r g) (h2 : g 2 < 20) (a b c : Nat) : run 125 0 [.ref x, .int (nI a), .int (nI b), .int (nI c)] [] h = some (none, hset h (x + 1) (mI (gLay g a b c))) := by
  obtain ⟨H1, H2⟩ := id H
  have p0 := m_put (w := 0) H h2 (by decide) a
  have p1 := m_put (w := 1) (MO.set (g' := up g (214 + 11 * g 2) a) H) h2 (by decide) b
  have p2 := m_put (w := 2) (MO.set (g' := up (up g (214 + 11 * g 2) a) (215 + 11 * g 2) b) H) h2 (by decide) c
  have e1 : 214 + 11 * g 2 + 1 = 215 + 11 * g 2 := by omega
  have e2 : 214 + 11 * g 2 + 2 = 216 + 11 * g 2 := by omega
  simp only [mI, Nat.add_zero, e1, e2, hset_set] at p0 p1 p2
  simp (disch := omega) only [s125_0, s125_1, s125_2, s125_5, s125_6, s125_7, s125_8, s125_9, s125_12, s125_13, s125_14, s125_17, s125_18, s125_19, s125_20, s125_21, s125_24, s125_25, s125_26, s125_29, s125_30, s125_31, s125_32, s125_33, s125_36, s125_37, s125_40, s125_41, s125_42, s125_43, s125_44, s125_45, s125_46, gf0, gf1, gf2, gf3, gf4, gf5, gf6, gf7, gf8, gf9, gf10, gf11, gf12, gf13, gf14, pu0, pu1, pu2, pu3, pu4, pu5, pu6, pu7, pu8, pu9, pu10, pu11, pu12, pu13, pu14, rc_at, bK_some, Option.toList_some, Option.toList_none, List.cons_append, List.nil_append, H1, H2, hget_set, hget_ne, hset_set, mI, nI_mul, nI_adds, al_I, as_I, nf_at, upd_nf, p0, p1, p2, up_ne, gLay]
theorem up_up_ne2 {g : Nat → Nat} {i v : Nat} (h : 2 ≠ i) : up g i v 2 = g 2 := up_ne h
theorem m_addLink (H : MO h x r g) (hw : WF g) (a b c : Int32) : run 126 0 [.ref x, .int a, .int b, .int c] [] h = some (some (.int (oAddLink g a b c).1), hset h (x + 1) (mI (oAddLink g a b c).2)) := by
  obtain ⟨H1, H2⟩ := id H
  have hn := hw.2.1
  have h20 := hw.2.2.1
  have hs : nI (g 1) - nI 1 = nI (g 1 - 1) := nI_sub (by omega)
  simp only [s126_0, s126_1, s126_2, s126_5, s126_8, s126_9, s126_10, s126_13, s126_16, s126_17, s126_18, s126_21, s126_22, s126_23, s126_25, s126_28, s126_31, s126_32, gf0, gf1, gf2, gf3, gf4, gf5, gf6, gf7, gf8, gf9, gf10, gf11, gf12, gf13, gf14, pu0, pu1, pu2, pu3, pu4, pu5, pu6, pu7, pu8, pu9, pu10, pu11, pu12, pu13, pu14, rc_at, bK_some, Option.toList_some, Option.toList_none, List.cons_append, List.nil_append, H1, m_isNode H, hs, m_in, bI_0]
  unfold oAddLink
  cases hc1 : inI a (nI 0) (nI (g 1 - 1))
  · simp only [if_true, Bool.false_eq_true, if_false, false_and, ← H.eq]
  · cases hc2 : inI b (nI 0) (nI (g 1 - 1))
    · simp only [if_true, Bool.false_eq_true, Bool.true_eq_false, if_false, false_and, and_false, ← H.eq]
    · by_cases hlt : a < b
      · cases hc3 : inI c (nI 0) (nI 9)
        · simp only [if_true, Bool.false_eq_true, Bool.true_eq_false, if_false, and_false, hlt, ← H.eq]
        · obtain ⟨a', a1, a2, rfl, a3⟩ := inI_t (by omega) (by decide) hc1
          obtain ⟨b', b1, b2, rfl, b3⟩ := inI_t (by omega) (by decide) hc2
          obtain ⟨c', c1, c2, rfl, c3⟩ := inI_t (by decide) (by decide) hc3
          simp (disch := omega) only [s126_33, s126_34, s126_37, s126_38, s126_39, s126_41, s126_44, s126_46, gf0, gf1, gf2, gf3, gf4, gf5, gf6, gf7, gf8, gf9, gf10, gf11, gf12, gf13, gf14, pu0, pu1, pu2, pu3, pu4, pu5, pu6, pu7, pu8, pu9, pu10, pu11, pu12, pu13, pu14, rc_at, bK_some, Option.toList_some, Option.toList_none, List.cons_append, List.nil_append, H1, H2, hget_set, hget_ne, hset_set, mI, nI_mul, nI_adds, al_I, as_I, nf_at, upd_nf, if_true, Bool.true_eq_false, if_false, and_true, hlt, nI_eqs, a3, b3, c3]
          by_cases hf : g 2 = 20
          · simp only [hf, if_true, mI, H.eq2]
          · have hl : g 2 < 20 := by omega
            have A := m_layLink H hl a' b' c'
            have e := MO.set (g' := gLay g a' b' c') H
            have hk2 : gLay g a' b' c' 0 ≤ 8 := by
              simp only [gLay]
              rw [up_ne (by omega), up_ne (by omega), up_ne (by omega), up_ne (by omega)]
              exact hw.1.2
            have B := m_begin e hk2
            have e2 : gBegin (gLay g a' b' c') 2 = g 2 + 1 := by
              simp [gBegin, gB3, gB2, gB1, gLay, up]
            simp only [mI] at A B
            simp (disch := omega) only [s126_47, s126_48, s126_49, s126_50, s126_51, s126_54, s126_55, s126_58, s126_59, s126_62, s126_63, s126_64, s126_65, s126_66, gf0, gf1, gf2, gf3, gf4, gf5, gf6, gf7, gf8, gf9, gf10, gf11, gf12, gf13, gf14, pu0, pu1, pu2, pu3, pu4, pu5, pu6, pu7, pu8, pu9, pu10, pu11, pu12, pu13, pu14, rc_at, bK_some, Option.toList_some, Option.toList_none, List.cons_append, List.nil_append, H1, hget_set, hget_ne, hset_set, mI, nI_mul, nI_adds, al_I, as_I, nf_at, upd_nf, A, B, hf, if_false, e2, nI_sub, Nat.add_sub_cancel]
      · simp only [if_true, Bool.false_eq_true, Bool.true_eq_false, if_false, and_false, false_and, hlt, ← H.eq]
theorem m_removeLink (H : MO h x r g) (hw : WF g) : run 127 0 [.ref x] [] h = some (some (.int (oRemoveLink g).1), hset h (x + 1) (mI (oRemoveLink g).2)) := by
  obtain ⟨H1, H2⟩ := id H
  have h20 := hw.2.2.1
  simp (disch := omega) only [s127_0, s127_1, s127_4, s127_5, s127_6, s127_9, s127_11, gf0, gf1, gf2, gf3, gf4, gf5, gf6, gf7, gf8, gf9, gf10, gf11, gf12, gf13, gf14, pu0, pu1, pu2, pu3, pu4, pu5, pu6, pu7, pu8, pu9, pu10, pu11, pu12, pu13, pu14, rc_at, bK_some, Option.toList_some, Option.toList_none, List.cons_append, List.nil_append, H1, H2, hget_set, hget_ne, hset_set, mI, nI_mul, nI_adds, al_I, as_I, nf_at, upd_nf, nI_eq0]
  unfold oRemoveLink
  by_cases hf : g 2 = 0
  · simp only [hf, if_true, mI, H.eq2]
  · have e := MO.set (g' := up g 2 (g 2 - 1)) H
    have hk2 : up g 2 (g 2 - 1) 0 ≤ 8 := by rw [up_ne (by omega)]; exact hw.1.2
    have B := m_begin e hk2
    have e2 : gBegin (up g 2 (g 2 - 1)) 2 = g 2 - 1 := by simp [gBegin, gB3, gB2, gB1, up]
    simp only [mI] at B
    simp (disch := omega) only [s127_12, s127_13, s127_16, s127_17, s127_18, s127_19, s127_20, s127_21, s127_22, s127_23, s127_26, s127_27, s127_30, s127_31, s127_32, gf0, gf1, gf2, gf3, gf4, gf5, gf6, gf7, gf8, gf9, gf10, gf11, gf12, gf13, gf14, pu0, pu1, pu2, pu3, pu4, pu5, pu6, pu7, pu8, pu9, pu10, pu11, pu12, pu13, pu14, rc_at, bK_some, Option.toList_some, Option.toList_none, List.cons_append, List.nil_append, H1, H2, hget_set, hget_ne, hset_set, mI, nI_mul, nI_adds, al_I, as_I, nf_at, upd_nf, B, hf, if_false, nI_sub, e2]
theorem m_setBehavior (H : MO h x r g) (hw : WF g) (v b : Int32) : run 128 0 [.ref x, .int v, .int b, .null] [] h = some (some (.int (oSetBehavior g v b).1), hset h (x + 1) (mI (oSetBehavior g v b).2)) := by
  obtain ⟨H1, H2⟩ := id H
  have hn := hw.2.1
  have hs : nI (g 1) - nI 1 = nI (g 1 - 1) := nI_sub (by omega)
  simp only [s128_0, s128_1, s128_2, s128_5, s128_8, s128_9, s128_12, s128_13, s128_14, s128_15, s128_18, s128_21, s128_22, gf0, gf1, gf2, gf3, gf4, gf5, gf6, gf7, gf8, gf9, gf10, gf11, gf12, gf13, gf14, pu0, pu1, pu2, pu3, pu4, pu5, pu6, pu7, pu8, pu9, pu10, pu11, pu12, pu13, pu14, rc_at, bK_some, Option.toList_some, Option.toList_none, List.cons_append, List.nil_append, H1, m_isNode H, hs, m_in, bI_0]
  unfold oSetBehavior
  cases hc1 : inI v (nI 0) (nI (g 1 - 1))
  · simp only [if_true, Bool.false_eq_true, if_false, false_and, ← H.eq]
  · by_cases hv : v = 0
    · simp only [if_true, Bool.false_eq_true, Bool.true_eq_false, if_false, not_true_eq_false, false_and, and_false, hv, ← H.eq]
    · cases hc2 : inI b (nI 0) (nI 4)
      · simp only [if_true, Bool.false_eq_true, Bool.true_eq_false, if_false, and_false, hv, ← H.eq]
      · obtain ⟨a', a1, a2, rfl, a3⟩ := inI_t (by omega) (by decide) hc1
        obtain ⟨b', b1, b2, rfl, b3⟩ := inI_t (by decide) (by decide) hc2
        have e := MO.set (g' := up g (14 + a') b') H
        have hk2 : up g (14 + a') b' 0 ≤ 8 := by rw [up_ne (by omega)]; exact hw.1.2
        have B := m_begin e hk2
        simp only [mI] at B
        simp (disch := omega) only [s128_23, s128_24, s128_27, s128_29, s128_30, s128_31, s128_32, s128_33, s128_34, s128_37, s128_39, s128_40, s128_41, s128_42, s128_43, s128_44, s128_47, s128_48, gf0, gf1, gf2, gf3, gf4, gf5, gf6, gf7, gf8, gf9, gf10, gf11, gf12, gf13, gf14, pu0, pu1, pu2, pu3, pu4, pu5, pu6, pu7, pu8, pu9, pu10, pu11, pu12, pu13, pu14, rc_at, bK_some, Option.toList_some, Option.toList_none, List.cons_append, List.nil_append, H1, H2, hget_set, hget_ne, hset_set, mI, nI_mul, nI_adds, al_I, as_I, nf_at, upd_nf, B, if_true, Bool.true_eq_false, if_false, not_false_eq_true, and_true, hv, a3, b3]
theorem m_setState (H : MO h x r g) (hw : WF g) (s : Int32) : run 129 0 [.ref x, .int s, .null] [] h = some (some (.int (oSetState g s).1), hset h (x + 1) (mI (oSetState g s).2)) := by
  obtain ⟨H1, H2⟩ := id H
  simp (disch := omega) only [s129_0, s129_1, s129_4, s129_5]
  unfold oSetState
  by_cases hs : s < 0
  · simp only [hs, if_true, ← H.eq]
  · obtain ⟨j, hj, rfl⟩ := nI_of hs
    simp (disch := omega) only [s129_6, s129_7, s129_10, s129_11, s129_12, s129_13, s129_14, s129_17, s129_18, s129_19, s129_20, s129_21, gf0, gf1, gf2, gf3, gf4, gf5, gf6, gf7, gf8, gf9, gf10, gf11, gf12, gf13, gf14, pu0, pu1, pu2, pu3, pu4, pu5, pu6, pu7, pu8, pu9, pu10, pu11, pu12, pu13, pu14, rc_at, bK_some, Option.toList_some, Option.toList_none, List.cons_append, List.nil_append, H1, H2, hget_set, hget_ne, hset_set, mI, nI_mul, nI_adds, al_I, as_I, nf_at, upd_nf, hs, if_false, cl_nI]
theorem m_setLimit (H : MO h x r g) (hw : WF g) (q : Int32) : run 130 0 [.ref x, .int q, .null] [] h = some (some (.int (oSetLimit g q).1), hset h (x + 1) (mI (oSetLimit g q).2)) := by
  obtain ⟨H1, H2⟩ := id H
  simp only [s130_0, s130_1, s130_2, s130_4, s130_7, s130_10, s130_11, gf0, gf1, gf2, gf3, gf4, gf5, gf6, gf7, gf8, gf9, gf10, gf11, gf12, gf13, gf14, pu0, pu1, pu2, pu3, pu4, pu5, pu6, pu7, pu8, pu9, pu10, pu11, pu12, pu13, pu14, rc_at, bK_some, Option.toList_some, Option.toList_none, List.cons_append, List.nil_append, m_in, bI_0]
  unfold oSetLimit
  cases hc : inI q (nI 1) (nI 9)
  · simp only [if_true, Bool.false_eq_true, if_false, ← H.eq]
  · obtain ⟨j, h1, h2, rfl, h3⟩ := inI_t (by decide) (by decide) hc
    simp (disch := omega) only [s130_12, s130_13, s130_16, s130_17, s130_18, s130_19, s130_20, s130_23, s130_24, s130_25, s130_26, s130_27, gf0, gf1, gf2, gf3, gf4, gf5, gf6, gf7, gf8, gf9, gf10, gf11, gf12, gf13, gf14, pu0, pu1, pu2, pu3, pu4, pu5, pu6, pu7, pu8, pu9, pu10, pu11, pu12, pu13, pu14, rc_at, bK_some, Option.toList_some, Option.toList_none, List.cons_append, List.nil_append, H1, H2, hget_set, hget_ne, hset_set, mI, nI_mul, nI_adds, al_I, as_I, nf_at, upd_nf, if_false, if_true, h3, Bool.true_eq_false]
end MD
