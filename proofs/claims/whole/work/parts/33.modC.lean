/-! begin, and the settings -/
/-- a loop that leaves something in a local that nobody reads -/
theorem loop_upJ {σ τ : Type} (R : Nat → σ → τ → Option aR) (F : Nat → σ → σ) (n : Nat) (hs : ∀ i s w, i < n → ∃ w', R i s w = R (i + 1) (F i s) w') (s : σ) (w : τ) : ∃ w', R 0 s w = R n (foldN F n s) w' := by
  have key : ∀ m, m ≤ n → ∃ w', R 0 s w = R m (foldN F m s) w' := by
    intro m
    induction m with
    | zero => intro _; exact ⟨w, rfl⟩
    | succ m ih =>
      intro hm
      obtain ⟨w1, h1⟩ := ih (by omega)
      obtain ⟨w2, h2⟩ := hs m (foldN F m s) w1 (by omega)
      exact ⟨w2, h1.trans h2⟩
  exact key n (Nat.le_refl n)
theorem fold_lin (c : Nat) (b : Nat → Nat) (g : Nat → Nat) (n : Nat) : foldN (fun i g => up g (c + i) (b i)) n g = fun j => if c ≤ j ∧ j < c + n then b (j - c) else g j := by
  induction n with
  | zero => funext j; simp [foldN]; omega
  | succ n ih =>
    simp only [foldN, ih]
    funext j
    unfold up
    by_cases h : j = c + n
    · subst h; rw [if_pos rfl, if_pos (by omega)]; congr 1; omega
    · rw [if_neg h]
      dsimp only
      by_cases h2 : c ≤ j ∧ j < c + n
      · rw [if_pos h2, if_pos (by omega)]
      · rw [if_neg h2, if_neg (by omega)]
def NON : Nat := 4294967292
theorem m4 : (-4 : Int32) = nI NON := by decide
def gB1 (n : Nat) (g : Nat → Nat) : Nat → Nat := fun j => if (24 ≤ j ∧ j < 24 + n) ∨ (34 ≤ j ∧ j < 34 + n) ∨ (44 ≤ j ∧ j < 44 + n) then 0 else g j
theorem gB1_fold (g : Nat → Nat) (n : Nat) (hn : n ≤ 10) : foldN (fun i g => up (up (up g (24 + i) 0) (34 + i) 0) (44 + i) 0) n g = gB1 n g := by
  induction n with
  | zero => funext j; simp [foldN, gB1]; omega
  | succ n ih =>
    simp only [foldN, ih (by omega)]
    funext j
    unfold up gB1
    by_cases h1 : j = 44 + n
    · rw [if_pos h1, if_pos (by omega)]
    · rw [if_neg h1]
      by_cases h2 : j = 34 + n
      · rw [if_pos h2, if_pos (by omega)]
      · rw [if_neg h2]
        by_cases h3 : j = 24 + n
        · rw [if_pos h3, if_pos (by omega)]
        · rw [if_neg h3]
          by_cases h4 : (24 ≤ j ∧ j < 24 + n) ∨ (34 ≤ j ∧ j < 34 + n) ∨ (44 ≤ j ∧ j < 44 + n)
          · rw [if_pos h4, if_pos (by omega)]
          · rw [if_neg h4, if_neg (by omega)]
def gB2 (n : Nat) (g : Nat → Nat) : Nat → Nat := fun j => if 54 ≤ j ∧ j < 54 + 2 * n then (if (j - 54) % 2 = 0 then 2 ^ ((j - 54) / 2) else g (6 + (j - 54) / 2)) else if j = 44 then n else g j
theorem gB2_fold (g : Nat → Nat) (h44 : g 44 = 0) (n : Nat) (hn : n ≤ 8) : foldN (fun i g => gAcc g 0 (2 ^ i) (g (6 + i))) n g = gB2 n g := by
  induction n with
  | zero =>
    funext j
    simp only [foldN, gB2]
    rw [if_neg (by omega)]
    by_cases h : j = 44
    · rw [if_pos h, h]; exact h44
    · rw [if_neg h]
  | succ n ih =>
    simp only [foldN, ih (by omega)]
    have e44 : gB2 n g 44 = n := by simp [gB2]
    have e6 : gB2 n g (6 + n) = g (6 + n) := by
      unfold gB2
      rw [if_neg (by omega), if_neg (by omega)]
    simp only [gAcc, Nat.mul_zero, Nat.add_zero, e44, e6]
    funext j
    unfold up gB2
    by_cases h1 : j = 44
    · rw [if_pos h1, if_neg (by omega), if_pos h1]
    · rw [if_neg h1]
      by_cases h2 : j = 55 + 2 * n
      · rw [if_pos h2, if_pos (by omega), if_neg (by omega)]; congr 1; omega
      · rw [if_neg h2]
        by_cases h3 : j = 54 + 2 * n
        · rw [if_pos h3, if_pos (by omega), if_pos (by omega)]; congr 1; omega
        · rw [if_neg h3]
          by_cases h4 : 54 ≤ j ∧ j < 54 + 2 * n
          · rw [if_pos h4, if_pos (show 54 ≤ j ∧ j < 54 + 2 * (n + 1) by omega)]
          · rw [if_neg h4, if_neg h1, if_neg (show ¬ (54 ≤ j ∧ j < 54 + 2 * (n + 1)) by omega), if_neg h1]
def gB3 (n : Nat) (g : Nat → Nat) : Nat → Nat := fun j => if 214 ≤ j ∧ j < 214 + 11 * n ∧ 3 ≤ (j - 214) % 11 then (if (j - 214) % 11 = 8 then NON else 0) else g j
theorem gB3_fold (g : Nat → Nat) (n : Nat) : foldN (fun l g => up (foldN (fun i g => up g (217 + 11 * l + i) 0) 8 g) (222 + 11 * l) NON) n g = gB3 n g := by
  induction n with
  | zero => funext j; simp only [foldN, gB3]; rw [if_neg (by omega)]
  | succ n ih =>
    show up (foldN (fun i g => up g (217 + 11 * n + i) 0) 8 (foldN (fun l g => up (foldN (fun i g => up g (217 + 11 * l + i) 0) 8 g) (222 + 11 * l) NON) n g)) (222 + 11 * n) NON = _
    rw [ih, fold_lin]
    funext j
    unfold up gB3
    by_cases h1 : j = 222 + 11 * n
    · rw [if_pos h1, if_pos (by omega), if_pos (by omega)]
    · rw [if_neg h1]
      dsimp only
      by_cases h2 : 217 + 11 * n ≤ j ∧ j < 217 + 11 * n + 8
      · rw [if_pos h2, if_pos (by omega), if_neg (by omega)]
      · rw [if_neg h2]
        by_cases h3 : 214 ≤ j ∧ j < 214 + 11 * n ∧ 3 ≤ (j - 214) % 11
        · rw [if_pos h3, if_pos (show 214 ≤ j ∧ j < 214 + 11 * (n + 1) ∧ 3 ≤ (j - 214) % 11 by omega)]
        · rw [if_neg h3, if_neg (show ¬ (214 ≤ j ∧ j < 214 + 11 * (n + 1) ∧ 3 ≤ (j - 214) % 11) by omega)]
/-- a generation begins -/
def gBegin (g : Nat → Nat) : Nat → Nat := fun j => if 434 ≤ j ∧ j < 2994 then 0 else gB3 20 (gB2 (g 0) (gB1 10 (up g 3 0))) j
section MC
variable {h : aH} {x : Nat} {r : List Value} {g : Nat → Nat}
theorem m_begin (H : MO h x r g) (hk : g 0 ≤ 8) : run 120 0 [.ref x, .null, .null] [] h = some (none, hset h (x + 1) (mI (gBegin g))) := by
  obtain ⟨H1, H2⟩ := id H
  simp (disch := omega) only [s120_0, s120_1, s120_4, s120_5, s120_6, s120_7, s120_8, gf0, gf1, gf2, gf3, gf4, gf5, gf6, gf7, gf8, gf9, gf10, gf11, gf12, gf13, gf14, pu0, pu1, pu2, pu3, pu4, pu5, pu6, pu7, pu8, pu9, pu10, pu11, pu12, pu13, pu14, rc_at, bK_some, Option.toList_some, Option.toList_none, List.cons_append, List.nil_append, H1, H2, hget_set, hget_ne, hset_set, mI, nI_mul, nI_adds, al_I, as_I, nf_at, upd_nf]
  have L1 := loop_up (fun i (g : Nat → Nat) => run 120 9 [.ref x, .int (nI i), .null] [] (hset h (x + 1) (mI g))) (fun i g => up (up (up g (24 + i) 0) (34 + i) 0) (44 + i) 0) 10 (by
    intro i g hi
    rw [s120_9]
    simp (disch := omega) only [s120_10, s120_12, s120_15, s120_16, s120_19, s120_21, s120_22, s120_23, s120_24, s120_25, s120_26, s120_29, s120_31, s120_32, s120_33, s120_34, s120_35, s120_36, s120_39, s120_41, s120_42, s120_43, s120_44, s120_45, s120_48, gf0, gf1, gf2, gf3, gf4, gf5, gf6, gf7, gf8, gf9, gf10, gf11, gf12, gf13, gf14, pu0, pu1, pu2, pu3, pu4, pu5, pu6, pu7, pu8, pu9, pu10, pu11, pu12, pu13, pu14, rc_at, bK_some, Option.toList_some, Option.toList_none, List.cons_append, List.nil_append, H1, hget_set, hget_ne, hset_set, mI, nI_mul, nI_adds, al_I, as_I, nf_at, upd_nf, nI_lts, hi, if_true]) (up g 3 0)
  simp only [mI] at L1
  rw [L1, s120_9, gB1_fold _ _ (by omega)]
  simp (disch := omega) only [s120_10, s120_12, s120_15, s120_16, s120_19, s120_21, s120_22, s120_23, s120_24, s120_25, s120_26, s120_29, s120_31, s120_32, s120_33, s120_34, s120_35, s120_36, s120_39, s120_41, s120_42, s120_43, s120_44, s120_45, s120_48, s120_51, s120_52, nI_lts, Nat.lt_irrefl, if_false]
  have e0 : gB1 10 (up g 3 0) 0 = g 0 := by simp [gB1, up]
  have L2 := loop_inv (fun i (g : Nat → Nat) => run 120 53 [.ref x, .int (nI i), .null] [] (hset h (x + 1) (mI g))) (fun i g => gAcc g 0 (2 ^ i) (g (6 + i))) (fun i g' => g' 44 = i ∧ g' 0 = g 0) (g 0) (by
    intro i g' hi hI
    have hM : MO (hset h (x + 1) (mI g')) x r g' := H.set
    have hr : g' (44 + 0) < 8 := by rw [Nat.add_zero, hI.1]; omega
    constructor
    · rw [s120_53]
      simp (disch := omega) only [s120_54, s120_55, s120_58, s120_59, s120_60, s120_63, s120_64, s120_65, s120_66, s120_67, s120_68, s120_69, s120_72, s120_74, s120_75, s120_76, s120_77, s120_80, s120_83, gf0, gf1, gf2, gf3, gf4, gf5, gf6, gf7, gf8, gf9, gf10, gf11, gf12, gf13, gf14, pu0, pu1, pu2, pu3, pu4, pu5, pu6, pu7, pu8, pu9, pu10, pu11, pu12, pu13, pu14, rc_at, bK_some, Option.toList_some, Option.toList_none, List.cons_append, List.nil_append, H1, hget_set, hget_ne, hset_set, mI, nI_mul, nI_adds, al_I, as_I, nf_at, upd_nf, hI.2, nI_lts, hi, if_true, nI_shl1]
      simp only [mI] at hM
      have A := m_accept (v := 0) hM (by omega) hr (2 ^ i) (g' (6 + i))
      simp only [mI] at A
      rw [A]
      simp only [s120_80, s120_83, gf0, gf1, gf2, gf3, gf4, gf5, gf6, gf7, gf8, gf9, gf10, gf11, gf12, gf13, gf14, pu0, pu1, pu2, pu3, pu4, pu5, pu6, pu7, pu8, pu9, pu10, pu11, pu12, pu13, pu14, rc_at, bK_some, Option.toList_some, Option.toList_none, List.cons_append, List.nil_append, hset_set, nI_adds]
    · simp only [gAcc, Nat.add_zero]
      refine ⟨by rw [up_same, hI.1], ?_⟩
      rw [up_ne (by omega), up_ne (by omega), up_ne (by omega)]
      exact hI.2) (gB1 10 (up g 3 0)) ⟨by simp [gB1], e0⟩
  simp only [mI] at L2
  rw [L2.1, s120_53, gB2_fold _ (by simp [gB1]) _ hk]
  have e1 : gB2 (g 0) (gB1 10 (up g 3 0)) 0 = g 0 := by simp [gB2, e0]
  simp (disch := omega) only [s120_54, s120_55, s120_58, s120_59, s120_60, s120_63, s120_64, s120_65, s120_66, s120_67, s120_68, s120_69, s120_72, s120_74, s120_75, s120_76, s120_77, s120_80, s120_83, s120_86, s120_87, gf0, gf1, gf2, gf3, gf4, gf5, gf6, gf7, gf8, gf9, gf10, gf11, gf12, gf13, gf14, pu0, pu1, pu2, pu3, pu4, pu5, pu6, pu7, pu8, pu9, pu10, pu11, pu12, pu13, pu14, rc_at, bK_some, Option.toList_some, Option.toList_none, List.cons_append, List.nil_append, H1, hget_set, hget_ne, hset_set, mI, nI_mul, nI_adds, al_I, as_I, nf_at, upd_nf, e1, nI_lts, Nat.lt_irrefl, if_false]
  obtain ⟨w3, L3⟩ := loop_upJ (fun i (g : Nat → Nat) w => run 120 88 [.ref x, .int (nI i), w] [] (hset h (x + 1) (mI g))) (fun l g => up (foldN (fun i g => up g (217 + 11 * l + i) 0) 8 g) (222 + 11 * l) NON) 20 (by
    intro l g' w hl
    refine ⟨.int (nI 11), ?_⟩
    rw [s120_88]
    simp (disch := omega) only [s120_89, s120_91, s120_94, s120_95, nI_lts, hl, if_true]
    have L4 := loop_up (fun i (g : Nat → Nat) => run 120 96 [.ref x, .int (nI l), .int (nI (3 + i))] [] (hset h (x + 1) (mI g))) (fun i g => up g (217 + 11 * l + i) 0) 8 (by
      intro i g' hi
      rw [s120_96]
      have e5 : 214 + 11 * l + (3 + i) = 217 + 11 * l + i := by omega
      simp (disch := omega) only [s120_97, s120_99, s120_102, s120_103, s120_104, s120_105, s120_106, s120_109, s120_112, gf0, gf1, gf2, gf3, gf4, gf5, gf6, gf7, gf8, gf9, gf10, gf11, gf12, gf13, gf14, pu0, pu1, pu2, pu3, pu4, pu5, pu6, pu7, pu8, pu9, pu10, pu11, pu12, pu13, pu14, rc_at, bK_some, Option.toList_some, Option.toList_none, List.cons_append, List.nil_append, H1, hget_ne, nI_lts, nI_adds, show 3 + i < 11 from by omega, if_true, m_put H.set, hset_set, e5, Nat.add_assoc]) g'
    simp only [Nat.add_zero] at L4
    rw [L4, s120_96]
    have e6 : 214 + 11 * l + 8 = 222 + 11 * l := by omega
    simp (disch := omega) only [s120_97, s120_99, s120_102, s120_103, s120_104, s120_105, s120_106, s120_109, s120_112, s120_115, s120_116, s120_117, s120_119, s120_121, s120_124, s120_127, gf0, gf1, gf2, gf3, gf4, gf5, gf6, gf7, gf8, gf9, gf10, gf11, gf12, gf13, gf14, pu0, pu1, pu2, pu3, pu4, pu5, pu6, pu7, pu8, pu9, pu10, pu11, pu12, pu13, pu14, rc_at, bK_some, Option.toList_some, Option.toList_none, List.cons_append, List.nil_append, H1, hget_ne, nI_lts, show ¬ (3 + 8 < 11) from by decide, if_false, m4, m_put H.set, hset_set, nI_adds, e6]) (gB2 (g 0) (gB1 10 (up g 3 0))) .null
  simp only [mI] at L3
  rw [L3, s120_88, gB3_fold]
  simp (disch := omega) only [s120_89, s120_91, s120_94, s120_95, s120_96, s120_97, s120_99, s120_102, s120_103, s120_104, s120_105, s120_106, s120_109, s120_112, s120_115, s120_116, s120_117, s120_119, s120_121, s120_124, s120_127, s120_130, s120_133, nI_lts, Nat.lt_irrefl, if_false]
  have L5 := loop_up (fun i (g : Nat → Nat) => run 120 134 [.ref x, .int (nI (434 + i)), w3] [] (hset h (x + 1) (mI g))) (fun i g => up g (434 + i) 0) 2560 (by
    intro i g' hi
    rw [s120_134]
    simp (disch := omega) only [s120_135, s120_138, s120_141, s120_142, s120_145, s120_146, s120_147, s120_148, s120_151, gf0, gf1, gf2, gf3, gf4, gf5, gf6, gf7, gf8, gf9, gf10, gf11, gf12, gf13, gf14, pu0, pu1, pu2, pu3, pu4, pu5, pu6, pu7, pu8, pu9, pu10, pu11, pu12, pu13, pu14, rc_at, bK_some, Option.toList_some, Option.toList_none, List.cons_append, List.nil_append, H1, hget_set, hget_ne, hset_set, mI, nI_mul, nI_adds, al_I, as_I, nf_at, upd_nf, nI_lts, show 434 + i < 2994 from by omega, if_true, Nat.add_assoc]) (gB3 20 (gB2 (g 0) (gB1 10 (up g 3 0))))
  simp only [mI, Nat.add_zero] at L5
  rw [L5, s120_134, fold_lin]
  simp (disch := omega) only [s120_135, s120_138, s120_141, s120_142, s120_145, s120_146, s120_147, s120_148, s120_151, s120_154, nI_lts, show ¬ (434 + 2560 < 2994) from by decide, if_false]
  rfl
end MC
