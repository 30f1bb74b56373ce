/-! slots, and a new model -/
def slI (S : Nat → Nat) : aC := .inl (0, 5988, .inl (nf S))
def kpI (K : Nat → Nat) : aC := .inl (1, 2, .inl (nf K))
theorem al_s {G : Nat → Nat} {i : Nat} {α : Type} {K : Int32 → Option α} (hi : i < 5988) : alK (nI i) (some (slI G)) (fun t => t == 0 || t == 9) K = K (nI (G i)) := by
  unfold slI; rw [al_I hi (by decide)]; rfl
theorem as_s {G : Nat → Nat} {i v : Nat} {α : Type} {K : aC → Option α} (hi : i < 5988) : asK (nI i) (some (slI G)) 0 (nI v) K = K (slI (up G i v)) := by
  unfold slI; rw [as_I hi (by decide), upd_nf]
theorem al_k {G : Nat → Nat} {i : Nat} {α : Type} {K : Int32 → Option α} (hi : i < 2) : alK (nI i) (some (kpI G)) (fun t => t == 1) K = K (nI (G i)) := by
  unfold kpI; rw [al_Z hi (by decide)]; rfl
theorem as_k {G : Nat → Nat} {i v : Nat} {α : Type} {K : aC → Option α} (hi : i < 2) : asK (nI i) (some (kpI G)) 1 (nI v) K = K (kpI (up G i v)) := by
  unfold kpI; rw [as_I hi (by decide), upd_nf]
/-- a row copied to a place of another -/
def cpN (S g : Nat → Nat) (b n : Nat) : Nat → Nat := fun q => if b ≤ q ∧ q < b + n then g (q - b) else S q
theorem cpN_fold (S g : Nat → Nat) (b n : Nat) : foldN (fun i S => up S (b + i) (g i)) n S = cpN S g b n := by
  induction n with
  | zero => funext q; simp only [foldN, cpN]; rw [if_neg (by omega)]
  | succ n ih =>
    funext q
    simp only [foldN, ih]
    by_cases c : q = b + n
    · subst c; rw [up_same]; unfold cpN; rw [if_pos (by omega)]; congr 1; omega
    · rw [up_ne c]
      unfold cpN
      by_cases c2 : b ≤ q ∧ q < b + n
      · rw [if_pos c2, if_pos (by omega)]
      · rw [if_neg c2, if_neg (by omega)]
section MS51
variable {h : aH} {x : Nat} {g S K : Nat → Nat} {tl : Value} {rest : List Value}
def oKeep (g : Nat → Nat) (s : Int32) : Int32 := if inI s (nI 0) (nI 1) = true then nI (g 3) else -1
def sKeep (S g : Nat → Nat) (s : Int32) : Nat → Nat := if inI s (nI 0) (nI 1) = true then cpN S g (2994 * cl s) 2994 else S
def kKeep (K : Nat → Nat) (s : Int32) : Nat → Nat := if inI s (nI 0) (nI 1) = true then up K (cl s) 1 else K
theorem m_keep (H : MX h x tl rest) (hm : hget h (x + 1) = some (mI g)) (hS : hget h (x + 2) = some (slI S)) (hK : hget h (x + 3) = some (kpI K)) (s : Int32) : run 183 0 [.ref x, .int s, .null] [] h = some (some (.int (oKeep g s)), hset (hset h (x + 2) (slI (sKeep S g s))) (x + 3) (kpI (kKeep K s))) := by
  unfold MX at H
  simp only [s183_0, s183_1, s183_2, s183_3, s183_6, s183_9, s183_10, s183_11, s183_12, gf0, gf1, gf2, gf3, gf4, gf5, gf6, gf7, gf8, gf9, gf10, gf11, gf12, gf13, gf14, pu0, pu1, pu2, pu3, pu4, pu5, pu6, pu7, pu8, pu9, pu10, pu11, pu12, pu13, pu14, rc_at, bK_some, Option.toList_some, Option.toList_none, List.cons_append, List.nil_append, m_in, bI_0]
  unfold oKeep sKeep kKeep
  cases hc : inI s (nI 0) (nI 1)
  · simp only [if_true, Bool.false_eq_true, if_false]
    rw [hset_same hS, hset_same hK]
  · obtain ⟨j, h1, h2, rfl, h3⟩ := inI_t (by decide) (by decide) hc
    simp only [if_true, Bool.true_eq_false, if_false, h3]
    have L := loop_up (fun i (S : Nat → Nat) => run 183 13 [.ref x, .int (nI j), .int (nI i)] [] (hset h (x + 2) (slI S))) (fun i S => up S (2994 * j + i) (g i)) 2994 (by
      intro i S hi
      rw [s183_13]
      simp (disch := omega) only [s183_14, s183_17, s183_20, s183_21, s183_24, s183_27, s183_28, s183_29, s183_30, s183_31, s183_32, s183_35, s183_36, s183_37, s183_38, s183_41, gf0, gf1, gf2, gf3, gf4, gf5, gf6, gf7, gf8, gf9, gf10, gf11, gf12, gf13, gf14, pu0, pu1, pu2, pu3, pu4, pu5, pu6, pu7, pu8, pu9, pu10, pu11, pu12, pu13, pu14, rc_at, bK_some, Option.toList_some, Option.toList_none, List.cons_append, List.nil_append, hget_ne, hget_set, hset_set, H, hm, nI_lts, hi, if_true, nI_mul, nI_adds, al_m, as_s]) S
    try dsimp only at L
    rw [hset_same hS, cpN_fold] at L
    rw [L, s183_13]
    simp (disch := omega) only [s183_14, s183_17, s183_44, s183_45, s183_48, s183_49, s183_50, s183_51, s183_52, s183_55, s183_56, s183_57, gf0, gf1, gf2, gf3, gf4, gf5, gf6, gf7, gf8, gf9, gf10, gf11, gf12, gf13, gf14, pu0, pu1, pu2, pu3, pu4, pu5, pu6, pu7, pu8, pu9, pu10, pu11, pu12, pu13, pu14, rc_at, bK_some, Option.toList_some, Option.toList_none, List.cons_append, List.nil_append, hget_ne, hget_set, H, hm, hK, nI_lts, Nat.lt_irrefl, if_false, as_k, nar_1, al_m]
def oRest (g K : Nat → Nat) (s : Int32) : Bool := decide (inI s (nI 0) (nI 1) = true ∧ K (cl s) ≠ 0)
theorem m_restore (H : MX h x tl rest) (hm : hget h (x + 1) = some (mI g)) (hS : hget h (x + 2) = some (slI S)) (hK : hget h (x + 3) = some (kpI K)) (hk : ∀ j, j < 2 → K j < 2 ^ 31) (s : Int32) : run 184 0 [.ref x, .int s, .null] [] h = if inI s (nI 0) (nI 1) = true then (if K (cl s) = 0 then some (some (.int (-3)), h) else some (some (.int (nI (S (2994 * cl s + 3)))), hset h (x + 1) (mI (cpN g (fun i => S (2994 * cl s + i)) 0 2994)))) else some (some (.int (-1)), h) := by
  unfold MX at H
  simp only [s184_0, s184_1, s184_2, s184_3, s184_6, s184_9, s184_10, gf0, gf1, gf2, gf3, gf4, gf5, gf6, gf7, gf8, gf9, gf10, gf11, gf12, gf13, gf14, pu0, pu1, pu2, pu3, pu4, pu5, pu6, pu7, pu8, pu9, pu10, pu11, pu12, pu13, pu14, rc_at, bK_some, Option.toList_some, Option.toList_none, List.cons_append, List.nil_append, m_in, bI_0]
  cases hc : inI s (nI 0) (nI 1)
  · simp only [if_true, Bool.false_eq_true, if_false]
  · obtain ⟨j, h1, h2, rfl, h3⟩ := inI_t (by decide) (by decide) hc
    have hkj := hk j (by omega)
    simp only [if_true, Bool.true_eq_false, if_false, h3]
    by_cases c : K j = 0
    · simp (disch := omega) only [s184_11, s184_12, s184_15, s184_16, s184_17, s184_20, s184_22, gf0, gf1, gf2, gf3, gf4, gf5, gf6, gf7, gf8, gf9, gf10, gf11, gf12, gf13, gf14, pu0, pu1, pu2, pu3, pu4, pu5, pu6, pu7, pu8, pu9, pu10, pu11, pu12, pu13, pu14, rc_at, bK_some, Option.toList_some, Option.toList_none, List.cons_append, List.nil_append, H, hK, al_k, nI_eq0, c, if_true]
    · have L := loop_up (fun i (g : Nat → Nat) => run 184 25 [.ref x, .int (nI j), .int (nI i)] [] (hset h (x + 1) (mI g))) (fun i g => up g (0 + i) (S (2994 * j + i))) 2994 (by
        intro i g hi
        rw [s184_25]
        simp (disch := omega) only [s184_26, s184_29, s184_32, s184_33, s184_36, s184_37, s184_38, s184_41, s184_44, s184_45, s184_46, s184_47, s184_48, s184_49, s184_50, s184_53, gf0, gf1, gf2, gf3, gf4, gf5, gf6, gf7, gf8, gf9, gf10, gf11, gf12, gf13, gf14, pu0, pu1, pu2, pu3, pu4, pu5, pu6, pu7, pu8, pu9, pu10, pu11, pu12, pu13, pu14, rc_at, bK_some, Option.toList_some, Option.toList_none, List.cons_append, List.nil_append, hget_ne, hget_set, hset_set, H, hS, nI_lts, hi, if_true, nI_mul, nI_adds, al_s, as_m, Nat.zero_add]) g
      try dsimp only at L
      rw [hset_same hm, cpN_fold g (fun i => S (2994 * j + i))] at L
      simp (disch := omega) only [s184_11, s184_12, s184_15, s184_16, s184_17, s184_20, s184_22, s184_23, s184_24, gf0, gf1, gf2, gf3, gf4, gf5, gf6, gf7, gf8, gf9, gf10, gf11, gf12, gf13, gf14, pu0, pu1, pu2, pu3, pu4, pu5, pu6, pu7, pu8, pu9, pu10, pu11, pu12, pu13, pu14, rc_at, bK_some, Option.toList_some, Option.toList_none, List.cons_append, List.nil_append, H, hK, al_k, nI_eq0, c, if_false]
      rw [L, s184_25]
      have e3 : cpN g (fun i => S (2994 * j + i)) 0 2994 3 = S (2994 * j + 3) := by unfold cpN; rw [if_pos (by omega)]
      simp (disch := omega) only [s184_26, s184_29, s184_56, s184_57, s184_60, s184_61, s184_62, gf0, gf1, gf2, gf3, gf4, gf5, gf6, gf7, gf8, gf9, gf10, gf11, gf12, gf13, gf14, pu0, pu1, pu2, pu3, pu4, pu5, pu6, pu7, pu8, pu9, pu10, pu11, pu12, pu13, pu14, rc_at, bK_some, Option.toList_some, Option.toList_none, List.cons_append, List.nil_append, hget_ne, hget_set, H, nI_lts, Nat.lt_irrefl, if_false, al_m, e3]
end MS51
theorem hget_newa {h : aH} {n b : Nat} {c : aC} (hb : b = h.1) : hget (hnew h n c) b = some c := by subst hb; exact hget_new h n c
/-- the state of a new object -/
def gNew : Nat → Nat := gBegin (gFirst (up (up (up (up (fun _ => 0) 0 4) 1 5) 4 1) 5 3))
theorem m_new {h : aH} {x : Nat} (hx : h.1 = x + 1) (H : hget h x = some (.inr (7, [.null, .null, .null, .null, .int 0, .null, .null, .null, .null, .int 0, .int 0, .int 0, .int 0, .null, .long 0]))) : ∃ h', run 105 0 [.ref x] [] h = some (none, h') ∧ h'.1 = x + 10 ∧ h'.2.1 = h.2.1 + 9500 ∧ (∀ q, q < x → hget h' q = hget h q) ∧ hget h' x = some (PO x 0 0 0 0 0 0) ∧ hget h' (x + 1) = some (mI gNew) ∧ hget h' (x + 2) = some (slI (fun _ => 0)) ∧ hget h' (x + 3) = some (kpI (fun _ => 0)) ∧ hget h' (x + 4) = some (dI (fun _ => 0)) ∧ hget h' (x + 5) = some (zI (fun _ => 0)) ∧ hget h' (x + 6) = some (vI (fun _ => 0)) ∧ hget h' (x + 7) = some (vI (fun _ => 0)) ∧ hget h' (x + 8) = some (rI (fun _ => 0)) ∧ hget h' (x + 9) = some (dI (fun _ => 0)) := by
  have st : ∃ h1, run 105 0 [.ref x] [] h = run 105 78 [.ref x] [] h1 ∧ h1.1 = x + 10 ∧ h1.2.1 = h.2.1 + 9500 ∧ (∀ q, q < x → hget h1 q = hget h q) ∧ hget h1 x = some (PO x 0 0 0 0 0 0) ∧ hget h1 (x + 1) = some (mI (fun _ => 0)) ∧ hget h1 (x + 2) = some (slI (fun _ => 0)) ∧ hget h1 (x + 3) = some (kpI (fun _ => 0)) ∧ hget h1 (x + 4) = some (dI (fun _ => 0)) ∧ hget h1 (x + 5) = some (zI (fun _ => 0)) ∧ hget h1 (x + 6) = some (vI (fun _ => 0)) ∧ hget h1 (x + 7) = some (vI (fun _ => 0)) ∧ hget h1 (x + 8) = some (rI (fun _ => 0)) ∧ hget h1 (x + 9) = some (dI (fun _ => 0)) := by
    simp (disch := first | omega | (simp only [hset_1, hnew_1, hx]; omega)) only [s105_0, s105_1, s105_4, s105_5, s105_8, s105_10, s105_13, s105_14, s105_17, s105_19, s105_22, s105_23, s105_24, s105_26, s105_29, s105_30, s105_32, s105_34, s105_37, s105_38, s105_40, s105_42, s105_45, s105_46, s105_48, s105_50, s105_53, s105_54, s105_56, s105_58, s105_61, s105_62, s105_65, s105_67, s105_70, s105_71, s105_73, s105_75, gf0, gf1, gf2, gf3, gf4, gf5, gf6, gf7, gf8, gf9, gf10, gf11, gf12, gf13, gf14, pu0, pu1, pu2, pu3, pu4, pu5, pu6, pu7, pu8, pu9, pu10, pu11, pu12, pu13, pu14, rc_at, bK_some, Option.toList_some, Option.toList_none, List.cons_append, List.nil_append, hget_set, hget_ne, hget_newn, hset_1, hnew_1, hx, H, Nat.add_assoc, nf_0]
    refine ⟨_, rfl, ?_, ?_, ?_, ?_, ?_, ?_, ?_, ?_, ?_, ?_, ?_, ?_, ?_⟩
    · simp only [hset_1, hnew_1, hx]
    · simp only [hset_2, hnew_2, Nat.add_assoc]
    · intro q hq
      simp (disch := first | omega | (simp only [hset_1, hnew_1, hx]; omega)) only [hget_ne, hget_newn]
    · rw [hget_set]; rfl
    all_goals
      simp (disch := first | omega | (simp only [hset_1, hnew_1, hx]; done) | (simp only [hset_1, hnew_1, hx]; omega)) only [hget_ne, hget_newn, hget_newa]
      rfl
  obtain ⟨h1, e1, e2, e3, e4, c0, c1, c2, c3, c4, c5, c6, c7, c8, c9⟩ := st
  unfold PO at c0
  have HM : ∀ g', MO (hset h1 (x + 1) (mI g')) x [.ref (x + 2), .ref (x + 3), .ref (x + 4), .int (nI 0), .ref (x + 5), .ref (x + 6), .ref (x + 7), .ref (x + 8), .int (nI 0), .int (nI 0), .int (nI 0), .int (nI 0), .ref (x + 9), .long 0] g' := fun g' => ⟨by rw [hget_ne (by omega)]; exact c0, hget_set _ _ _⟩
  have F := m_firstPayloads (HM (up (up (up (up (fun _ => 0) 0 4) 1 5) 4 1) 5 3))
  have B := m_begin (HM (gFirst (up (up (up (up (fun _ => 0) 0 4) 1 5) 4 1) 5 3))) (by decide)
  rw [hset_set] at F B
  refine ⟨hset h1 (x + 1) (mI gNew), ?_, ?_, ?_, ?_, ?_, ?_, ?_, ?_, ?_, ?_, ?_, ?_, ?_, ?_⟩
  · rw [e1]
    simp (disch := omega) only [s105_78, s105_79, s105_82, s105_83, s105_84, s105_85, s105_86, s105_89, s105_90, s105_91, s105_92, s105_93, s105_96, s105_97, s105_98, s105_99, s105_100, s105_103, s105_104, s105_105, s105_106, s105_107, s105_110, s105_111, s105_114, gf0, gf1, gf2, gf3, gf4, gf5, gf6, gf7, gf8, gf9, gf10, gf11, gf12, gf13, gf14, pu0, pu1, pu2, pu3, pu4, pu5, pu6, pu7, pu8, pu9, pu10, pu11, pu12, pu13, pu14, rc_at, bK_some, Option.toList_some, Option.toList_none, List.cons_append, List.nil_append, hget_ne, hget_set, hset_set, c0, c1, as_m, F, B, gNew]
  · rw [hset_1, e2]
  · rw [hset_2, e3]
  · intro q hq
    rw [hget_ne (by omega), e4 q hq]
  · rw [hget_ne (by omega), c0]; rfl
  · rw [hget_set]
  all_goals (rw [hget_ne (by omega)]; assumption)
