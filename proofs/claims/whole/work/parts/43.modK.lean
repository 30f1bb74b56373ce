/-! questions -/
def lkB (n : Nat) (l : Int32) : Bool := inI l (nI 0) (nI n - nI 1)
theorem lkB_t {n : Nat} {l : Int32} (hn : n < 2 ^ 31) (h : lkB n l = true) : ∃ j, j < n ∧ l = nI j ∧ cl l = j := by
  unfold lkB at h
  by_cases h0 : n = 0
  · subst h0
    exfalso
    unfold inI at h
    simp only [Bool.and_eq_true, decide_eq_true_eq] at h
    obtain ⟨h1, h2⟩ := h
    apply h2
    have e : (nI 0 - nI 1).toInt = -1 := by decide
    have e0 : (nI 0).toInt = 0 := by decide
    rw [Int32.lt_iff_toInt_lt] at h1 ⊢
    omega
  · rw [nI_sub (by omega)] at h
    obtain ⟨j, h1, h2, h3, h4⟩ := inI_t (by omega) (by decide) h
    exact ⟨j, by omega, h3, h4⟩
theorem lkB_nI {n j : Nat} (hn : n < 2 ^ 31) (hj : j < n) : lkB n (nI j) = true := by
  unfold lkB
  rw [nI_sub (by omega), inI_nI (by omega) (by decide) (by omega)]
  simp
  omega
def qLink (g : Nat → Nat) (l w : Int32) : Int32 := if lkB (g 2) l = true ∧ inI w (nI 0) (nI 2) = true then nI (g (214 + 11 * cl l + cl w)) else -1
def qRank (g : Nat → Nat) (v : Int32) : Int32 := if lkB (g 1) v = true then nI (g (44 + cl v)) else -1
def sumB (g : Nat → Nat) (v i : Int32) : Bool := lkB (g 1) v && lkB (g (44 + cl v)) i
def qVector (g : Nat → Nat) (v i : Int32) : Int32 := if sumB g v i = true then nI (g (54 + 16 * cl v + 2 * cl i)) else -1
def qPayload (g : Nat → Nat) (v i : Int32) : Int32 := if sumB g v i = true then nI (g (55 + 16 * cl v + 2 * cl i)) else -1
def qFates (g : Nat → Nat) (l f : Int32) : Int32 := if lkB (g 2) l = true ∧ inI f (nI 0) (nI 3) = true then nI (g (218 + 11 * cl l + cl f)) else -1
def qLast (g : Nat → Nat) (l : Int32) : Int32 := if lkB (g 2) l = true then nI (g (222 + 11 * cl l)) else -1
def qEnd (g : Nat → Nat) (l b : Int32) : Int32 := if lkB (g 2) l = true then (if b = 0 then nI (g (223 + 11 * cl l)) else nI (g (224 + 11 * cl l))) else -1
def qDiff (g : Nat → Nat) : Int32 := nI (cntN (fun l => decide (¬ nI (g (223 + 11 * l)) = nI (g (224 + 11 * l)))) (g 2))
def knN (g : Nat → Nat) (v : Nat) : Nat := foldN (fun i s => s ||| (if (sfN g v (2 ^ i)).isSome = true then 2 ^ i else 0)) (g 0) 0
def qKnows (g : Nat → Nat) (v : Int32) : Int32 := if lkB (g 1) v = true then nI (knN g (cl v)) else -1
def slv (g : Nat → Nat) (v i : Nat) : Int32 := match sfN g v (2 ^ i) with
  | none => -4
  | some s => nI (xsN (pays g v) s (g (44 + v)))
def qSolve (g : Nat → Nat) (v i : Int32) : Int32 := if lkB (g 1) v = true ∧ lkB (g 0) i = true then slv g (cl v) (cl i) else -1
def qComb (g : Nat → Nat) (v a : Int32) : Int32 := if lkB (g 1) v = true ∧ inI a (nI 0) (nI (2 ^ g 0 - 1)) = true then optI (sfN g (cl v) (cl a)) else -1
def lgF : Nat → Nat → Nat
  | 0, _ => 0
  | n + 1, m => if 1 < m then 1 + lgF n (m / 2) else 0
def comN (g : Nat → Nat) (a b : Nat) : Nat := cntN (fun w => (sfN g a w).isSome && (sfN g b w).isSome) (2 ^ g 0)
def qCommon (g : Nat → Nat) (a b : Int32) : Int32 := if lkB (g 1) a = true ∧ lkB (g 1) b = true then nI (lgF 9 (comN g (cl a) (cl b))) else -1
def susN (g : Nat → Nat) (v p : Nat) : Bool := anyN (fun i => oddN (vecs g v i) p) (g (44 + v)) && !(anyN (fun w => decide (g (434 + 256 * v + w) = 1) && oddN w p) 256)
theorem opt_ne {o : Option Nat} (h : ∀ s, o = some s → s < 256) : (optI o = -4) = (o.isSome = false) := by
  cases o with
  | none => simp [optI]
  | some s =>
    have : ∀ s, s < 256 → ¬ nI s = (-4 : Int32) := by decide +kernel
    have := this s (h s rfl)
    simp [optI, this]
section MK
variable {h : aH} {x : Nat} {r : List Value} {g : Nat → Nat}
theorem sf_lt {v a : Nat} (hr : g (44 + v) ≤ 8) : ∀ s, sfN g v a = some s → s < 256 := fun s hs => Nat.lt_of_lt_of_le (firstN_some.mp hs).1 (pow_8 hr)
theorem m_node (H : MO h x r g) (v : Int32) : run 109 0 [.ref x, .int v] [] h = some (some (.int (bI (lkB (g 1) v))), h) := m_isNode H v
theorem m_lnk (H : MO h x r g) (v : Int32) : run 110 0 [.ref x, .int v] [] h = some (some (.int (bI (lkB (g 2) v))), h) := m_isLink H v
theorem m_rounds (H : MO h x r g) : run 140 0 [.ref x] [] h = some (some (.int (nI (g 3))), h) := by
  obtain ⟨H1, H2⟩ := H
  simp (disch := omega) only [s140_0, s140_1, s140_4, s140_5, s140_6, gf0, gf1, gf2, gf3, gf4, gf5, gf6, gf7, gf8, gf9, gf10, gf11, gf12, gf13, gf14, pu0, pu1, pu2, pu3, pu4, pu5, pu6, pu7, pu8, pu9, pu10, pu11, pu12, pu13, pu14, rc_at, bK_some, Option.toList_some, Option.toList_none, List.cons_append, List.nil_append, H1, H2, hget_set, hget_ne, hset_set, mI, nI_mul, nI_adds, al_I, as_I, nf_at, upd_nf]
theorem m_nodes (H : MO h x r g) : run 141 0 [.ref x] [] h = some (some (.int (nI (g 1))), h) := by
  obtain ⟨H1, H2⟩ := H
  simp (disch := omega) only [s141_0, s141_1, s141_4, s141_5, s141_6, gf0, gf1, gf2, gf3, gf4, gf5, gf6, gf7, gf8, gf9, gf10, gf11, gf12, gf13, gf14, pu0, pu1, pu2, pu3, pu4, pu5, pu6, pu7, pu8, pu9, pu10, pu11, pu12, pu13, pu14, rc_at, bK_some, Option.toList_some, Option.toList_none, List.cons_append, List.nil_append, H1, H2, hget_set, hget_ne, hset_set, mI, nI_mul, nI_adds, al_I, as_I, nf_at, upd_nf]
theorem m_links (H : MO h x r g) : run 142 0 [.ref x] [] h = some (some (.int (nI (g 2))), h) := by
  obtain ⟨H1, H2⟩ := H
  simp (disch := omega) only [s142_0, s142_1, s142_4, s142_5, s142_6, gf0, gf1, gf2, gf3, gf4, gf5, gf6, gf7, gf8, gf9, gf10, gf11, gf12, gf13, gf14, pu0, pu1, pu2, pu3, pu4, pu5, pu6, pu7, pu8, pu9, pu10, pu11, pu12, pu13, pu14, rc_at, bK_some, Option.toList_some, Option.toList_none, List.cons_append, List.nil_append, H1, H2, hget_set, hget_ne, hset_set, mI, nI_mul, nI_adds, al_I, as_I, nf_at, upd_nf]
theorem m_link (H : MO h x r g) (hw : WF g) (l w : Int32) : run 143 0 [.ref x, .int l, .int w] [] h = some (some (.int (qLink g l w)), h) := by
  have h20 := hw.2.2.1
  have H1 := H.1
  simp only [s143_0, s143_1, s143_2, s143_5, s143_8, s143_9, s143_10, s143_11, s143_14, s143_17, s143_18, s143_19, s143_20, s143_23, s143_26, s143_27, gf0, gf1, gf2, gf3, gf4, gf5, gf6, gf7, gf8, gf9, gf10, gf11, gf12, gf13, gf14, pu0, pu1, pu2, pu3, pu4, pu5, pu6, pu7, pu8, pu9, pu10, pu11, pu12, pu13, pu14, rc_at, bK_some, Option.toList_some, Option.toList_none, List.cons_append, List.nil_append, H1, m_lnk H, m_in, bI_0]
  unfold qLink
  cases c1 : lkB (g 2) l
  · simp
  · cases c2 : inI w (nI 0) (nI 2)
    · simp
    · obtain ⟨j, j1, rfl, j3⟩ := lkB_t (by omega) c1
      obtain ⟨k, k1, k2, rfl, k3⟩ := inI_t (by decide) (by decide) c2
      simp (disch := omega) only [s143_0, s143_1, s143_2, s143_5, s143_8, s143_9, s143_10, s143_11, s143_14, s143_17, s143_18, s143_19, s143_20, s143_23, s143_26, s143_27, H1, m_of H, gf0, gf1, gf2, gf3, gf4, gf5, gf6, gf7, gf8, gf9, gf10, gf11, gf12, gf13, gf14, pu0, pu1, pu2, pu3, pu4, pu5, pu6, pu7, pu8, pu9, pu10, pu11, pu12, pu13, pu14, rc_at, bK_some, Option.toList_some, Option.toList_none, List.cons_append, List.nil_append, Bool.true_eq_false, if_false, if_true, and_true, j3, k3]
theorem m_rank (H : MO h x r g) (hw : WF g) (v : Int32) : run 144 0 [.ref x, .int v] [] h = some (some (.int (qRank g v)), h) := by
  have hn := hw.2.1
  obtain ⟨H1, H2⟩ := id H
  simp only [s144_0, s144_1, s144_2, s144_5, gf0, gf1, gf2, gf3, gf4, gf5, gf6, gf7, gf8, gf9, gf10, gf11, gf12, gf13, gf14, pu0, pu1, pu2, pu3, pu4, pu5, pu6, pu7, pu8, pu9, pu10, pu11, pu12, pu13, pu14, rc_at, bK_some, Option.toList_some, Option.toList_none, List.cons_append, List.nil_append, H1, m_node H, bI_0]
  unfold qRank
  cases c1 : lkB (g 1) v
  · simp [s144_8, s144_9, s144_12, s144_14, s144_15, s144_16, s144_17, s144_20, s144_21]
  · obtain ⟨j, j1, rfl, j3⟩ := lkB_t (by omega) c1
    simp (disch := omega) only [s144_8, s144_9, s144_12, s144_14, s144_15, s144_16, s144_17, s144_20, s144_21, gf0, gf1, gf2, gf3, gf4, gf5, gf6, gf7, gf8, gf9, gf10, gf11, gf12, gf13, gf14, pu0, pu1, pu2, pu3, pu4, pu5, pu6, pu7, pu8, pu9, pu10, pu11, pu12, pu13, pu14, rc_at, bK_some, Option.toList_some, Option.toList_none, List.cons_append, List.nil_append, H1, H2, hget_set, hget_ne, hset_set, mI, nI_mul, nI_adds, al_I, as_I, nf_at, upd_nf, Bool.true_eq_false, if_false, if_true, j3]
theorem m_isSum (H : MO h x r g) (hw : WF g) (v i : Int32) : run 145 0 [.ref x, .int v, .int i] [] h = some (some (.int (bI (sumB g v i))), h) := by
  have hn := hw.2.1
  obtain ⟨H1, H2⟩ := id H
  simp only [s145_0, s145_1, s145_2, s145_5, gf0, gf1, gf2, gf3, gf4, gf5, gf6, gf7, gf8, gf9, gf10, gf11, gf12, gf13, gf14, pu0, pu1, pu2, pu3, pu4, pu5, pu6, pu7, pu8, pu9, pu10, pu11, pu12, pu13, pu14, rc_at, bK_some, Option.toList_some, Option.toList_none, List.cons_append, List.nil_append, H1, m_node H, bI_0]
  unfold sumB
  cases c1 : lkB (g 1) v
  · simp [s145_8, s145_9, s145_12, s145_13, s145_14, s145_17, s145_19, s145_20, s145_21, s145_22, s145_25, s145_26, s145_29, s145_30, z01_0, bI]
  · obtain ⟨j, j1, rfl, j3⟩ := lkB_t (by omega) c1
    have hr := (hw.2.2.2.2.2.2.1 j (by omega)).2.2
    have hk := hw.1
    simp (disch := omega) only [s145_8, s145_9, s145_12, s145_13, s145_14, s145_17, s145_19, s145_20, s145_21, s145_22, gf0, gf1, gf2, gf3, gf4, gf5, gf6, gf7, gf8, gf9, gf10, gf11, gf12, gf13, gf14, pu0, pu1, pu2, pu3, pu4, pu5, pu6, pu7, pu8, pu9, pu10, pu11, pu12, pu13, pu14, rc_at, bK_some, Option.toList_some, Option.toList_none, List.cons_append, List.nil_append, H1, H2, hget_set, hget_ne, hset_set, mI, nI_mul, nI_adds, al_I, as_I, nf_at, upd_nf, Bool.true_eq_false, if_false, j3, Bool.true_and]
    by_cases c2 : i < 0
    · have : lkB (g (44 + j)) i = false := by
        cases hq : lkB (g (44 + j)) i
        · rfl
        · obtain ⟨q, q1, rfl, -⟩ := lkB_t (by omega) hq
          rw [nI_lt0 (by omega)] at c2
          exact c2.elim
      simp [c2, this, s145_25, s145_26, s145_29, s145_30, z01_0, bI]
    · obtain ⟨q, q1, rfl⟩ := nI_of c2
      simp only [nI_lt0 q1, if_false, nI_lts q1 (show g (44 + j) < 2 ^ 31 by omega)]
      by_cases c3 : q < g (44 + j)
      · simp [c3, lkB_nI (show g (44 + j) < 2 ^ 31 by omega) c3, s145_25, s145_26, s145_29, s145_30, z01_1, bI]
      · have : lkB (g (44 + j)) (nI q) = false := by
          cases hq : lkB (g (44 + j)) (nI q)
          · rfl
          · obtain ⟨q', q1', e, -⟩ := lkB_t (by omega) hq
            rw [nI_eqs q1 (by omega)] at e
            omega
        simp [c3, this, s145_25, s145_26, s145_29, s145_30, z01_0, bI]
theorem sumB_t (hw : WF g) {v i : Int32} (c : sumB g v i = true) : ∃ j k, j < 10 ∧ k < g (44 + j) ∧ k < 8 ∧ v = nI j ∧ i = nI k ∧ cl v = j ∧ cl i = k := by
  have hn := hw.2.1
  have hk := hw.1
  unfold sumB at c
  simp only [Bool.and_eq_true] at c
  obtain ⟨j, j1, rfl, j3⟩ := lkB_t (by omega) c.1
  have hr := (hw.2.2.2.2.2.2.1 j (by omega)).2.2
  rw [j3] at c
  obtain ⟨k, k1, rfl, k3⟩ := lkB_t (by omega) c.2
  exact ⟨j, k, by omega, k1, by omega, rfl, rfl, j3, k3⟩
theorem m_vector (H : MO h x r g) (hw : WF g) (v i : Int32) : run 146 0 [.ref x, .int v, .int i] [] h = some (some (.int (qVector g v i)), h) := by
  have H1 := H.1
  simp only [s146_0, s146_1, s146_2, s146_3, s146_6, s146_9, s146_10, s146_11, s146_12, s146_15, s146_18, s146_19, gf0, gf1, gf2, gf3, gf4, gf5, gf6, gf7, gf8, gf9, gf10, gf11, gf12, gf13, gf14, pu0, pu1, pu2, pu3, pu4, pu5, pu6, pu7, pu8, pu9, pu10, pu11, pu12, pu13, pu14, rc_at, bK_some, Option.toList_some, Option.toList_none, List.cons_append, List.nil_append, H1, m_isSum H hw, bI_0]
  unfold qVector
  cases c : sumB g v i
  · simp
  · obtain ⟨j, k, h1, h2, h3, rfl, rfl, h4, h5⟩ := sumB_t hw c
    simp only [s146_0, s146_1, s146_2, s146_3, s146_6, s146_9, s146_10, s146_11, s146_12, s146_15, s146_18, s146_19, H1, m_vectorOf H h1 h3, gf0, gf1, gf2, gf3, gf4, gf5, gf6, gf7, gf8, gf9, gf10, gf11, gf12, gf13, gf14, pu0, pu1, pu2, pu3, pu4, pu5, pu6, pu7, pu8, pu9, pu10, pu11, pu12, pu13, pu14, rc_at, bK_some, Option.toList_some, Option.toList_none, List.cons_append, List.nil_append, Bool.true_eq_false, if_false, if_true, h4, h5]
theorem m_payload (H : MO h x r g) (hw : WF g) (v i : Int32) : run 147 0 [.ref x, .int v, .int i] [] h = some (some (.int (qPayload g v i)), h) := by
  have H1 := H.1
  simp only [s147_0, s147_1, s147_2, s147_3, s147_6, s147_9, s147_10, s147_11, s147_12, s147_15, s147_18, s147_19, gf0, gf1, gf2, gf3, gf4, gf5, gf6, gf7, gf8, gf9, gf10, gf11, gf12, gf13, gf14, pu0, pu1, pu2, pu3, pu4, pu5, pu6, pu7, pu8, pu9, pu10, pu11, pu12, pu13, pu14, rc_at, bK_some, Option.toList_some, Option.toList_none, List.cons_append, List.nil_append, H1, m_isSum H hw, bI_0]
  unfold qPayload
  cases c : sumB g v i
  · simp
  · obtain ⟨j, k, h1, h2, h3, rfl, rfl, h4, h5⟩ := sumB_t hw c
    simp only [s147_0, s147_1, s147_2, s147_3, s147_6, s147_9, s147_10, s147_11, s147_12, s147_15, s147_18, s147_19, H1, m_payloadOf H h1 h3, gf0, gf1, gf2, gf3, gf4, gf5, gf6, gf7, gf8, gf9, gf10, gf11, gf12, gf13, gf14, pu0, pu1, pu2, pu3, pu4, pu5, pu6, pu7, pu8, pu9, pu10, pu11, pu12, pu13, pu14, rc_at, bK_some, Option.toList_some, Option.toList_none, List.cons_append, List.nil_append, Bool.true_eq_false, if_false, if_true, h4, h5]
theorem m_fates (H : MO h x r g) (hw : WF g) (l f : Int32) : run 148 0 [.ref x, .int l, .int f] [] h = some (some (.int (qFates g l f)), h) := by
  have h20 := hw.2.2.1
  have H1 := H.1
  simp only [s148_0, s148_1, s148_2, s148_5, s148_8, s148_9, s148_10, s148_11, s148_14, gf0, gf1, gf2, gf3, gf4, gf5, gf6, gf7, gf8, gf9, gf10, gf11, gf12, gf13, gf14, pu0, pu1, pu2, pu3, pu4, pu5, pu6, pu7, pu8, pu9, pu10, pu11, pu12, pu13, pu14, rc_at, bK_some, Option.toList_some, Option.toList_none, List.cons_append, List.nil_append, H1, m_lnk H, m_in, bI_0]
  unfold qFates
  cases c1 : lkB (g 2) l
  · simp [s148_17, s148_18, s148_19, s148_20, s148_21, s148_22, s148_25, s148_28, s148_29]
  · cases c2 : inI f (nI 0) (nI 3)
    · simp [s148_17, s148_18, s148_19, s148_20, s148_21, s148_22, s148_25, s148_28, s148_29]
    · obtain ⟨j, j1, rfl, j3⟩ := lkB_t (by omega) c1
      obtain ⟨k, k1, k2, rfl, k3⟩ := inI_t (by decide) (by decide) c2
      have e : 214 + 11 * j + (4 + k) = 218 + 11 * j + k := by omega
      simp (disch := omega) only [s148_17, s148_18, s148_19, s148_20, s148_21, s148_22, s148_25, s148_28, s148_29, H1, nI_adds, m_of H, e, gf0, gf1, gf2, gf3, gf4, gf5, gf6, gf7, gf8, gf9, gf10, gf11, gf12, gf13, gf14, pu0, pu1, pu2, pu3, pu4, pu5, pu6, pu7, pu8, pu9, pu10, pu11, pu12, pu13, pu14, rc_at, bK_some, Option.toList_some, Option.toList_none, List.cons_append, List.nil_append, Bool.true_eq_false, if_false, if_true, and_true, j3, k3]
theorem m_lastSent (H : MO h x r g) (hw : WF g) (l : Int32) : run 149 0 [.ref x, .int l] [] h = some (some (.int (qLast g l)), h) := by
  have h20 := hw.2.2.1
  have H1 := H.1
  simp only [s149_0, s149_1, s149_2, s149_5, s149_8, s149_9, s149_10, s149_12, s149_15, s149_18, s149_19, gf0, gf1, gf2, gf3, gf4, gf5, gf6, gf7, gf8, gf9, gf10, gf11, gf12, gf13, gf14, pu0, pu1, pu2, pu3, pu4, pu5, pu6, pu7, pu8, pu9, pu10, pu11, pu12, pu13, pu14, rc_at, bK_some, Option.toList_some, Option.toList_none, List.cons_append, List.nil_append, H1, m_lnk H, bI_0]
  unfold qLast
  cases c1 : lkB (g 2) l
  · simp
  · obtain ⟨j, j1, rfl, j3⟩ := lkB_t (by omega) c1
    have e : 214 + 11 * j + 8 = 222 + 11 * j := by omega
    simp (disch := omega) only [s149_0, s149_1, s149_2, s149_5, s149_8, s149_9, s149_10, s149_12, s149_15, s149_18, s149_19, H1, m_of H, e, gf0, gf1, gf2, gf3, gf4, gf5, gf6, gf7, gf8, gf9, gf10, gf11, gf12, gf13, gf14, pu0, pu1, pu2, pu3, pu4, pu5, pu6, pu7, pu8, pu9, pu10, pu11, pu12, pu13, pu14, rc_at, bK_some, Option.toList_some, Option.toList_none, List.cons_append, List.nil_append, Bool.true_eq_false, if_false, if_true, j3]
theorem m_endSum (H : MO h x r g) (hw : WF g) (l b : Int32) : run 150 0 [.ref x, .int l, .int b] [] h = some (some (.int (qEnd g l b)), h) := by
  have h20 := hw.2.2.1
  have H1 := H.1
  simp only [s150_0, s150_1, s150_2, s150_5, s150_8, s150_9, s150_10, s150_11, s150_14, s150_16, s150_19, s150_21, s150_24, s150_27, s150_28, gf0, gf1, gf2, gf3, gf4, gf5, gf6, gf7, gf8, gf9, gf10, gf11, gf12, gf13, gf14, pu0, pu1, pu2, pu3, pu4, pu5, pu6, pu7, pu8, pu9, pu10, pu11, pu12, pu13, pu14, rc_at, bK_some, Option.toList_some, Option.toList_none, List.cons_append, List.nil_append, H1, m_lnk H, bI_0]
  unfold qEnd
  cases c1 : lkB (g 2) l
  · simp
  · obtain ⟨j, j1, rfl, j3⟩ := lkB_t (by omega) c1
    have e : 214 + 11 * j + 9 = 223 + 11 * j := by omega
    have e2 : 214 + 11 * j + 10 = 224 + 11 * j := by omega
    by_cases c : b = 0
    · simp (disch := omega) only [s150_0, s150_1, s150_2, s150_5, s150_8, s150_9, s150_10, s150_11, s150_14, s150_16, s150_19, s150_21, s150_24, s150_27, s150_28, H1, m_of H, e, gf0, gf1, gf2, gf3, gf4, gf5, gf6, gf7, gf8, gf9, gf10, gf11, gf12, gf13, gf14, pu0, pu1, pu2, pu3, pu4, pu5, pu6, pu7, pu8, pu9, pu10, pu11, pu12, pu13, pu14, rc_at, bK_some, Option.toList_some, Option.toList_none, List.cons_append, List.nil_append, Bool.true_eq_false, if_false, if_true, j3, c]
    · simp (disch := omega) only [s150_0, s150_1, s150_2, s150_5, s150_8, s150_9, s150_10, s150_11, s150_14, s150_16, s150_19, s150_21, s150_24, s150_27, s150_28, H1, m_of H, e2, gf0, gf1, gf2, gf3, gf4, gf5, gf6, gf7, gf8, gf9, gf10, gf11, gf12, gf13, gf14, pu0, pu1, pu2, pu3, pu4, pu5, pu6, pu7, pu8, pu9, pu10, pu11, pu12, pu13, pu14, rc_at, bK_some, Option.toList_some, Option.toList_none, List.cons_append, List.nil_append, Bool.true_eq_false, if_false, if_true, j3, c]
theorem m_differing (H : MO h x r g) (hw : WF g) : run 151 0 [.ref x, .null, .null] [] h = some (some (.int (qDiff g)), h) := by
  have h20 := hw.2.2.1
  obtain ⟨H1, H2⟩ := id H
  simp only [s151_0, s151_1, s151_2, s151_3]
  have L := loop_up (fun i (c : Nat) => run 151 4 [.ref x, .int (nI c), .int (nI i)] [] h) (fun i c => c + (if decide (¬ nI (g (223 + 11 * i)) = nI (g (224 + 11 * i))) = true then 1 else 0)) (g 2) (by
    intro i c hi
    have e : 214 + 11 * i + 9 = 223 + 11 * i := by omega
    have e2 : 214 + 11 * i + 10 = 224 + 11 * i := by omega
    rw [s151_4]
    simp (disch := omega) only [s151_5, s151_6, s151_9, s151_10, s151_11, s151_14, s151_15, s151_16, s151_17, s151_19, s151_22, s151_23, s151_24, s151_26, s151_29, s151_32, s151_33, s151_36, s151_37, s151_38, s151_39, s151_42, gf0, gf1, gf2, gf3, gf4, gf5, gf6, gf7, gf8, gf9, gf10, gf11, gf12, gf13, gf14, pu0, pu1, pu2, pu3, pu4, pu5, pu6, pu7, pu8, pu9, pu10, pu11, pu12, pu13, pu14, rc_at, bK_some, Option.toList_some, Option.toList_none, List.cons_append, List.nil_append, H1, H2, hget_set, hget_ne, hset_set, mI, nI_mul, nI_adds, al_I, as_I, nf_at, upd_nf, nI_lts, hi, if_true, m_of H, e, e2]
    by_cases c : nI (g (223 + 11 * i)) = nI (g (224 + 11 * i)) <;> simp [c, nI_adds]) 0
  have hF : ∀ n, foldN (fun i c => c + (if decide (¬ nI (g (223 + 11 * i)) = nI (g (224 + 11 * i))) = true then 1 else 0)) n 0 = cntN (fun l => decide (¬ nI (g (223 + 11 * l)) = nI (g (224 + 11 * l)))) n := by
    intro n
    induction n with
    | zero => rfl
    | succ n ih => simp only [foldN, cntN, ih]
  rw [L, hF, s151_4]
  simp (disch := omega) only [s151_5, s151_6, s151_9, s151_10, s151_11, s151_14, s151_15, s151_16, s151_17, s151_19, s151_22, s151_23, s151_24, s151_26, s151_29, s151_32, s151_33, s151_36, s151_37, s151_38, s151_39, s151_42, s151_45, s151_46, gf0, gf1, gf2, gf3, gf4, gf5, gf6, gf7, gf8, gf9, gf10, gf11, gf12, gf13, gf14, pu0, pu1, pu2, pu3, pu4, pu5, pu6, pu7, pu8, pu9, pu10, pu11, pu12, pu13, pu14, rc_at, bK_some, Option.toList_some, Option.toList_none, List.cons_append, List.nil_append, H1, H2, hget_set, hget_ne, hset_set, mI, nI_mul, nI_adds, al_I, as_I, nf_at, upd_nf, nI_lts, Nat.lt_irrefl, if_false]
  rfl
end MK
