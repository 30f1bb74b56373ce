/-! reading, the text, slots, checksum -/
theorem PH_so {h : aH} {x n i d e k q : Nat} {c : Int64} {D : Nat → Nat} {C : aC} (h1 : q ≠ x) (h2 : q ≠ x + 9) : hset (PH h x n i d e k c D) q C = PH (hset h q C) x n i d e k c D := by
  unfold PH hset
  dsimp only
  congr 2
  funext p
  by_cases c1 : p = q
  · subst c1; simp [h1, h2]
  · simp [c1]
def gEnt (g : Nat → Nat) (E : pE) : Nat → Nat := if E.1 = 1 then gLay g E.2.1 E.2.2.1 E.2.2.2 else up g (14 + E.2.1) E.2.2.1
def oRead (g T : Nat → Nat) (n : Nat) : Int32 × (Nat → Nat) := match pTxt g T n with
  | .inl _ => (-3, g)
  | .inr es => (nI es.length, gBegin (es.foldl gEnt g))
theorem gEnt_0 (g : Nat → Nat) {E : pE} {N : Nat} (hE : pOK N E) (hN : N ≤ 10) : gEnt g E 0 = g 0 := by
  unfold gEnt
  split
  · unfold gLay
    rw [up_ne (by omega), up_ne (by omega), up_ne (by omega), up_ne (by omega)]
  · rw [up_ne (by omega)]
theorem gEnt_2 (g : Nat → Nat) {E : pE} {N : Nat} (hE : pOK N E) (hN : N ≤ 10) : gEnt g E 2 = g 2 + E.1 := by
  unfold gEnt
  split
  · rename_i q
    unfold gLay
    rw [up_same, q]
  · rename_i q
    have := pOK_1 hE
    rw [up_ne (by omega)]; omega
theorem gEnts_0 {N : Nat} (hN : N ≤ 10) : ∀ (es : List pE) (g : Nat → Nat), (∀ E, E ∈ es → pOK N E) → es.foldl gEnt g 0 = g 0 := by
  intro es
  induction es with
  | nil => intro g _; rfl
  | cons E es ih =>
    intro g hE
    rw [List.foldl_cons, ih _ (fun F hF => hE F (List.mem_cons_of_mem _ hF)), gEnt_0 g (hE E List.mem_cons_self) hN]
section MR50
variable {h : aH} {x n i d e k : Nat} {c : Int64} {D T g : Nat → Nat}
theorem m_readDo {N ln : Nat} (hN : N ≤ 10) (hl : 4 * ln ≤ 100) : ∀ (es : List pE) (t : Nat) (g : Nat → Nat), hget h (x + 1) = some (mI g) → drL D (4 * t) es → t + es.length = ln → g 2 + lnkN es ≤ 20 → (∀ E, E ∈ es → pOK N E) → run 182 12 [.ref x, .int (nI t)] [] (PH h x n i d ln k c D) = run 182 12 [.ref x, .int (nI ln)] [] (PH (hset h (x + 1) (mI (es.foldl gEnt g))) x n i d ln k c D) := by
  intro es
  induction es generalizing h with
  | nil =>
    intro t g hm _ ht _ _
    have : t = ln := by simpa using ht
    subst this
    rw [List.foldl_nil, hset_same hm]
  | cons E es ih =>
    intro t g hm hd ht h2 hE
    rw [List.length_cons] at ht
    have hOK := hE E List.mem_cons_self
    obtain ⟨⟨d0, d1, d2, d3⟩, hd⟩ := hd
    have h2' : g 2 + E.1 + lnkN es ≤ 20 := by
      simp only [lnkN, List.map_cons, List.sum_cons] at h2 ⊢
      omega
    have h1 : hget (PH h x n i d ln k c D) (x + 1) = some (mI g) := by rw [PH_o (by omega) (by omega)]; exact hm
    have st : run 182 12 [.ref x, .int (nI t)] [] (PH h x n i d ln k c D) = run 182 12 [.ref x, .int (nI (t + 1))] [] (PH (hset h (x + 1) (mI (gEnt g E))) x n i d ln k c D) := by
      rw [s182_12]
      rcases hOK with ⟨e1, e2, e3, e4⟩ | ⟨e1, e2, e3, e4⟩
      · have Y := m_layLink (PH_MO (n := n) (i := i) (d := d) (e := ln) (k := k) (c := c) (D := D) hm) (show g 2 < 20 by omega) E.2.1 E.2.2.1 E.2.2.2
        rw [PH_so (by omega) (by omega)] at Y
        have dd : D (4 * t) = 1 := by rw [d0, e1]
        have d3 := d3 e1
        have eg : gEnt g E = gLay g E.2.1 E.2.2.1 E.2.2.2 := by unfold gEnt; rw [if_pos e1]
        rw [eg]
        simp (disch := omega) only [s182_13, s182_14, s182_17, s182_20, s182_21, s182_24, s182_25, s182_26, s182_27, s182_28, s182_29, s182_32, s182_33, s182_34, s182_37, s182_38, s182_39, s182_40, s182_41, s182_42, s182_43, s182_44, s182_47, s182_48, s182_49, s182_50, s182_51, s182_52, s182_53, s182_54, s182_57, s182_58, s182_59, s182_60, s182_61, s182_62, s182_63, s182_66, s182_97, s182_100, gf0, gf1, gf2, gf3, gf4, gf5, gf6, gf7, gf8, gf9, gf10, gf11, gf12, gf13, gf14, pu0, pu1, pu2, pu3, pu4, pu5, pu6, pu7, pu8, pu9, pu10, pu11, pu12, pu13, pu14, rc_at, bK_some, Option.toList_some, Option.toList_none, List.cons_append, List.nil_append, PH_x, PH_9, nI_lts, show t < ln from by omega, if_true, nI_mul, nI_adds, al_d, dd, d1, d2, d3, Y]
      · have dd : D (4 * t) = 0 := by rw [d0, e1]
        have eg : gEnt g E = up g (14 + E.2.1) E.2.2.1 := by unfold gEnt; rw [if_neg (by omega)]
        rw [eg]
        have z : (nI 0 = nI 1) = False := by decide
        simp (disch := omega) only [s182_13, s182_14, s182_17, s182_20, s182_21, s182_24, s182_25, s182_26, s182_27, s182_28, s182_29, s182_69, s182_70, s182_73, s182_75, s182_76, s182_79, s182_80, s182_81, s182_82, s182_83, s182_84, s182_85, s182_86, s182_87, s182_90, s182_91, s182_92, s182_93, s182_94, s182_95, s182_96, s182_97, s182_100, gf0, gf1, gf2, gf3, gf4, gf5, gf6, gf7, gf8, gf9, gf10, gf11, gf12, gf13, gf14, pu0, pu1, pu2, pu3, pu4, pu5, pu6, pu7, pu8, pu9, pu10, pu11, pu12, pu13, pu14, rc_at, bK_some, Option.toList_some, Option.toList_none, List.cons_append, List.nil_append, PH_x, PH_9, h1, nI_lts, show t < ln from by omega, if_true, nI_mul, nI_adds, al_d, dd, d1, d2, z, if_false, as_m, PH_so]
    rw [st, ih (t + 1) (gEnt g E) (hget_set _ _ _) (by rw [show 4 * (t + 1) = 4 * t + 4 from by omega]; exact hd) (by omega) (by rw [gEnt_2 g hOK hN]; exact h2') (fun F hF => hE F (List.mem_cons_of_mem _ hF)), hset_set, List.foldl_cons]
theorem m_read (hX : hget h (x + 4) = some (dI T)) (hT : ∀ i, i < n → T i < 2 ^ 31) (hn : n ≤ 100) (hm : hget h (x + 1) = some (mI g)) (hw : WF g) : ∃ i' d' e' k' D', run 182 0 [.ref x, .null] [] (PH h x n i d e k c D) = some (some (.int (oRead g T n).1), PH (hset h (x + 1) (mI (oRead g T n).2)) x n i' d' e' k' c D') := by
  have L := m_readAll (i := i) (d := d) (e := e) (k := k) (c := c) (D := D) hX hT hn hm hw
  have h20 := hw.2.2.1
  unfold oRead
  cases q : pTxt g T n with
  | inl j =>
    rw [q] at L
    obtain ⟨d', e', k', D', L⟩ := L
    refine ⟨j, d', e', k', D', ?_⟩
    dsimp only
    rw [hset_same hm]
    simp (disch := omega) only [s182_0, s182_1, s182_4, s182_7, s182_9, gf0, gf1, gf2, gf3, gf4, gf5, gf6, gf7, gf8, gf9, gf10, gf11, gf12, gf13, gf14, pu0, pu1, pu2, pu3, pu4, pu5, pu6, pu7, pu8, pu9, pu10, pu11, pu12, pu13, pu14, rc_at, bK_some, Option.toList_some, Option.toList_none, List.cons_append, List.nil_append, PH_x, L, nI_eq0, if_true]
  | inr es =>
    rw [q] at L
    obtain ⟨d', k', D', L, l2⟩ := L
    obtain ⟨a1, a2, a3⟩ := pAll_inr hw.2.1.1 n 0 0 es (by omega) (by omega) q
    have Y := m_readDo (i := n) (d := d') (k := k') (c := c) (n := n) hw.2.1.2 (show 4 * es.length ≤ 100 by omega) es 0 g hm l2 (by omega) (by omega) a1
    refine ⟨n, d', es.length, k', D', ?_⟩
    have st : run 182 0 [.ref x, .null] [] (PH h x n i d e k c D) = run 182 12 [.ref x, .int (nI 0)] [] (PH h x n n d' es.length k' c D') := by
      simp (disch := omega) only [s182_0, s182_1, s182_4, s182_7, s182_9, s182_10, s182_11, gf0, gf1, gf2, gf3, gf4, gf5, gf6, gf7, gf8, gf9, gf10, gf11, gf12, gf13, gf14, pu0, pu1, pu2, pu3, pu4, pu5, pu6, pu7, pu8, pu9, pu10, pu11, pu12, pu13, pu14, rc_at, bK_some, Option.toList_some, Option.toList_none, List.cons_append, List.nil_append, PH_x, L, nI_eq0, Nat.one_ne_zero, if_false]
    have B := m_begin (PH_MO (n := n) (i := n) (d := d') (e := es.length) (k := k') (c := c) (D := D') (hget_set h (x + 1) (mI (es.foldl gEnt g)))) (by rw [gEnts_0 hw.2.1.2 es g a1]; exact hw.1.2)
    rw [PH_so (by omega) (by omega), hset_set] at B
    rw [st, Y, s182_12]
    simp (disch := omega) only [s182_13, s182_14, s182_17, s182_103, s182_104, s182_107, s182_108, s182_111, gf0, gf1, gf2, gf3, gf4, gf5, gf6, gf7, gf8, gf9, gf10, gf11, gf12, gf13, gf14, pu0, pu1, pu2, pu3, pu4, pu5, pu6, pu7, pu8, pu9, pu10, pu11, pu12, pu13, pu14, rc_at, bK_some, Option.toList_some, Option.toList_none, List.cons_append, List.nil_append, PH_x, nI_lts, Nat.lt_irrefl, if_false, B]
/-- a character more -/
def oApp (T : Nat → Nat) (n : Nat) (v : Int32) : Int32 × (Nat → Nat) × Nat := if inI v (nI 32) (nI 126) = true then (if n = 100 then (-2, T, n) else (nI (n + 1), up T n (cl v), n + 1)) else (-1, T, n)
theorem m_append (hX : hget h (x + 4) = some (dI T)) (hn : n ≤ 100) (v : Int32) : run 173 0 [.ref x, .int v] [] (PH h x n i d e k c D) = some (some (.int (oApp T n v).1), PH (hset h (x + 4) (dI (oApp T n v).2.1)) x (oApp T n v).2.2 i d e k c D) := by
  have h4 : hget (PH h x n i d e k c D) (x + 4) = some (dI T) := by rw [PH_o (by omega) (by omega)]; exact hX
  simp only [s173_0, s173_1, s173_3, s173_5, s173_8, gf0, gf1, gf2, gf3, gf4, gf5, gf6, gf7, gf8, gf9, gf10, gf11, gf12, gf13, gf14, pu0, pu1, pu2, pu3, pu4, pu5, pu6, pu7, pu8, pu9, pu10, pu11, pu12, pu13, pu14, rc_at, bK_some, Option.toList_some, Option.toList_none, List.cons_append, List.nil_append, m_in, bI_0]
  unfold oApp
  cases hc : inI v (nI 32) (nI 126)
  · simp [s173_11, s173_12, hset_same hX]
  · obtain ⟨j, h1, h2, rfl, h3⟩ := inI_t (by decide) (by decide) hc
    by_cases q : n = 100
    · simp (disch := omega) only [s173_13, s173_14, s173_17, s173_19, s173_22, s173_24, gf0, gf1, gf2, gf3, gf4, gf5, gf6, gf7, gf8, gf9, gf10, gf11, gf12, gf13, gf14, pu0, pu1, pu2, pu3, pu4, pu5, pu6, pu7, pu8, pu9, pu10, pu11, pu12, pu13, pu14, rc_at, bK_some, Option.toList_some, Option.toList_none, List.cons_append, List.nil_append, PH_x, nI_eqs, q, if_true, Bool.true_eq_false, if_false, hset_same hX]
    · simp (disch := omega) only [s173_13, s173_14, s173_17, s173_19, s173_22, s173_24, s173_25, s173_26, s173_29, s173_30, s173_33, s173_34, s173_35, s173_36, s173_37, s173_40, s173_41, s173_42, s173_45, s173_46, s173_49, gf0, gf1, gf2, gf3, gf4, gf5, gf6, gf7, gf8, gf9, gf10, gf11, gf12, gf13, gf14, pu0, pu1, pu2, pu3, pu4, pu5, pu6, pu7, pu8, pu9, pu10, pu11, pu12, pu13, pu14, rc_at, bK_some, Option.toList_some, Option.toList_none, List.cons_append, List.nil_append, PH_x, h4, nI_eqs, q, if_true, Bool.true_eq_false, if_false, h3, as_d, PH_so, PH_sx, nI_adds]
theorem m_clearText : run 174 0 [.ref x, .null] [] (PH h x n i d e k c D) = some (some (.int (nI n)), PH h x 0 i d e k c D) := by
  simp (disch := omega) only [s174_0, s174_1, s174_4, s174_5, s174_6, s174_7, s174_10, s174_11, gf0, gf1, gf2, gf3, gf4, gf5, gf6, gf7, gf8, gf9, gf10, gf11, gf12, gf13, gf14, pu0, pu1, pu2, pu3, pu4, pu5, pu6, pu7, pu8, pu9, pu10, pu11, pu12, pu13, pu14, rc_at, bK_some, Option.toList_some, Option.toList_none, List.cons_append, List.nil_append, PH_x, PH_sx]
/-- the checksum's steps -/
def ckM (c : Int64) (v : Nat) : Int64 := 31 * c + (nI v).toInt64
def ckN (g : Nat → Nat) (v : Nat) (c : Int64) : Int64 := ckM (ckM (foldN (fun i c => ckM c (g (54 + 16 * v + i))) (2 * g (44 + v)) (ckM c (g (44 + v)))) (g (24 + v))) (g (34 + v))
def ckL (g : Nat → Nat) (l : Nat) (c : Int64) : Int64 := foldN (fun i c => ckM c (g (214 + 11 * l + (4 + i)))) 7 c
def qCk (g : Nat → Nat) : Int64 := foldN (ckL g) (g 2) (foldN (ckN g) (g 1) (ckM (ckM (ckM (ckM 61 (g 1)) (g 2)) (g 3)) (g 4)))
theorem m_mix (v : Nat) : run 185 0 [.ref x, .long (nI v).toInt64, .retAddr 0] [] (PH h x n i d e k c D) = some (none, PH h x n i d e k (ckM c v) D) := by
  simp (disch := omega) only [s185_0, s185_1, s185_4, s185_5, s185_8, s185_9, s185_10, s185_11, s185_14, gf0, gf1, gf2, gf3, gf4, gf5, gf6, gf7, gf8, gf9, gf10, gf11, gf12, gf13, gf14, pu0, pu1, pu2, pu3, pu4, pu5, pu6, pu7, pu8, pu9, pu10, pu11, pu12, pu13, pu14, rc_at, bK_some, Option.toList_some, Option.toList_none, List.cons_append, List.nil_append, PH_x, PH_sx, ckM]
theorem m_checksum (hm : hget h (x + 1) = some (mI g)) (hw : WF g) : ∃ c', run 186 0 [.ref x, .null, .null] [] (PH h x n i d e k c D) = some (some (.long (qCk g)), PH h x n i d e k c' D) := by
  have hn := hw.2.1
  have h20 := hw.2.2.1
  have h1 : ∀ c, hget (PH h x n i d e k c D) (x + 1) = some (mI g) := fun _ => by rw [PH_o (by omega) (by omega)]; exact hm
  have st : run 186 0 [.ref x, .null, .null] [] (PH h x n i d e k c D) = run 186 53 [.ref x, .int (nI 0), .null] [] (PH h x n i d e k (ckM (ckM (ckM (ckM 61 (g 1)) (g 2)) (g 3)) (g 4)) D) := by
    simp (disch := omega) only [s186_0, s186_1, s186_4, s186_7, s186_8, s186_9, s186_12, s186_13, s186_14, s186_15, s186_18, s186_19, s186_20, s186_23, s186_24, s186_25, s186_26, s186_29, s186_30, s186_31, s186_34, s186_35, s186_36, s186_37, s186_40, s186_41, s186_42, s186_45, s186_46, s186_47, s186_48, s186_51, s186_52, gf0, gf1, gf2, gf3, gf4, gf5, gf6, gf7, gf8, gf9, gf10, gf11, gf12, gf13, gf14, pu0, pu1, pu2, pu3, pu4, pu5, pu6, pu7, pu8, pu9, pu10, pu11, pu12, pu13, pu14, rc_at, bK_some, Option.toList_some, Option.toList_none, List.cons_append, List.nil_append, PH_x, PH_sx, h1, al_m, m_mix]
  obtain ⟨w1, L1⟩ := loop_upJ (fun v (c : Int64) w => run 186 53 [.ref x, .int (nI v), w] [] (PH h x n i d e k c D)) (ckN g) (g 1) (by
    intro v c w hv
    have hr := (hw.2.2.2.2.2.2.1 v (by omega)).2.2
    have hk := hw.1.2
    have L := loop_up (fun i2 (c : Int64) => run 186 79 [.ref x, .int (nI v), .int (nI i2)] [] (PH h x n i d e k c D)) (fun i2 c => ckM c (g (54 + 16 * v + i2))) (2 * g (44 + v)) (by
      intro i2 c hi2
      rw [s186_79]
      simp (disch := omega) only [s186_80, s186_81, s186_82, s186_85, s186_87, s186_88, s186_89, s186_90, s186_91, s186_94, s186_95, s186_96, s186_99, s186_101, s186_103, s186_104, s186_105, s186_106, s186_107, s186_108, s186_109, s186_110, s186_113, s186_116, gf0, gf1, gf2, gf3, gf4, gf5, gf6, gf7, gf8, gf9, gf10, gf11, gf12, gf13, gf14, pu0, pu1, pu2, pu3, pu4, pu5, pu6, pu7, pu8, pu9, pu10, pu11, pu12, pu13, pu14, rc_at, bK_some, Option.toList_some, Option.toList_none, List.cons_append, List.nil_append, PH_x, h1, al_m, m_mix, nI_mul, nI_adds, nI_lts, hi2, if_true]) (ckM c (g (44 + v)))
    refine ⟨.int (nI (2 * g (44 + v))), ?_⟩
    rw [s186_53]
    simp (disch := omega) only [s186_54, s186_55, s186_58, s186_59, s186_60, s186_63, s186_64, s186_65, s186_68, s186_70, s186_71, s186_72, s186_73, s186_74, s186_77, s186_78, gf0, gf1, gf2, gf3, gf4, gf5, gf6, gf7, gf8, gf9, gf10, gf11, gf12, gf13, gf14, pu0, pu1, pu2, pu3, pu4, pu5, pu6, pu7, pu8, pu9, pu10, pu11, pu12, pu13, pu14, rc_at, bK_some, Option.toList_some, Option.toList_none, List.cons_append, List.nil_append, PH_x, h1, al_m, m_mix, nI_mul, nI_adds, nI_lts, hv, if_true]
    try dsimp only at L
    rw [L, s186_79]
    simp (disch := omega) only [s186_80, s186_81, s186_82, s186_85, s186_87, s186_88, s186_89, s186_90, s186_91, s186_119, s186_120, s186_121, s186_124, s186_126, s186_127, s186_128, s186_129, s186_130, s186_133, s186_134, s186_135, s186_138, s186_140, s186_141, s186_142, s186_143, s186_144, s186_147, s186_150, gf0, gf1, gf2, gf3, gf4, gf5, gf6, gf7, gf8, gf9, gf10, gf11, gf12, gf13, gf14, pu0, pu1, pu2, pu3, pu4, pu5, pu6, pu7, pu8, pu9, pu10, pu11, pu12, pu13, pu14, rc_at, bK_some, Option.toList_some, Option.toList_none, List.cons_append, List.nil_append, PH_x, h1, al_m, m_mix, nI_mul, nI_adds, nI_lts, Nat.lt_irrefl, if_false, ckN]) (ckM (ckM (ckM (ckM 61 (g 1)) (g 2)) (g 3)) (g 4)) .null
  try dsimp only at L1
  have HM : ∀ c, MO (PH h x n i d e k c D) x _ g := fun _ => PH_MO hm
  obtain ⟨w2, L2⟩ := loop_upJ (fun l (c : Int64) w => run 186 155 [.ref x, .int (nI l), w] [] (PH h x n i d e k c D)) (ckL g) (g 2) (by
    intro l c w hl
    have L := loop_up (fun i2 (c : Int64) => run 186 167 [.ref x, .int (nI l), .int (nI (4 + i2))] [] (PH h x n i d e k c D)) (fun i2 c => ckM c (g (214 + 11 * l + (4 + i2)))) 7 (by
      intro i2 c hi2
      rw [s186_167]
      simp (disch := omega) only [s186_168, s186_170, s186_173, s186_174, s186_175, s186_176, s186_177, s186_180, s186_181, s186_184, s186_187, gf0, gf1, gf2, gf3, gf4, gf5, gf6, gf7, gf8, gf9, gf10, gf11, gf12, gf13, gf14, pu0, pu1, pu2, pu3, pu4, pu5, pu6, pu7, pu8, pu9, pu10, pu11, pu12, pu13, pu14, rc_at, bK_some, Option.toList_some, Option.toList_none, List.cons_append, List.nil_append, PH_x, m_of (HM _), m_mix, nI_adds, nI_lts, show 4 + i2 < 11 from by omega, if_true, Nat.add_assoc]) c
    refine ⟨.int (nI 11), ?_⟩
    rw [s186_155]
    simp (disch := omega) only [s186_156, s186_157, s186_160, s186_161, s186_162, s186_165, s186_166, gf0, gf1, gf2, gf3, gf4, gf5, gf6, gf7, gf8, gf9, gf10, gf11, gf12, gf13, gf14, pu0, pu1, pu2, pu3, pu4, pu5, pu6, pu7, pu8, pu9, pu10, pu11, pu12, pu13, pu14, rc_at, bK_some, Option.toList_some, Option.toList_none, List.cons_append, List.nil_append, PH_x, h1, al_m, nI_lts, hl, if_true]
    try dsimp only at L
    rw [Nat.add_zero] at L
    rw [L, s186_167]
    simp (disch := omega) only [s186_168, s186_170, s186_190, s186_193, nI_adds, nI_lts, Nat.lt_irrefl, show ¬ (4 + 7 < 11) from by omega, if_false, ckL]) (foldN (ckN g) (g 1) (ckM (ckM (ckM (ckM 61 (g 1)) (g 2)) (g 3)) (g 4))) w1
  try dsimp only at L2
  refine ⟨qCk g, ?_⟩
  rw [st, L1, s186_53]
  simp (disch := omega) only [s186_54, s186_55, s186_58, s186_59, s186_60, s186_153, s186_154, gf0, gf1, gf2, gf3, gf4, gf5, gf6, gf7, gf8, gf9, gf10, gf11, gf12, gf13, gf14, pu0, pu1, pu2, pu3, pu4, pu5, pu6, pu7, pu8, pu9, pu10, pu11, pu12, pu13, pu14, rc_at, bK_some, Option.toList_some, Option.toList_none, List.cons_append, List.nil_append, PH_x, h1, al_m, nI_lts, Nat.lt_irrefl, if_false]
  rw [L2, s186_155]
  simp (disch := omega) only [s186_156, s186_157, s186_160, s186_161, s186_162, s186_196, s186_197, s186_200, gf0, gf1, gf2, gf3, gf4, gf5, gf6, gf7, gf8, gf9, gf10, gf11, gf12, gf13, gf14, pu0, pu1, pu2, pu3, pu4, pu5, pu6, pu7, pu8, pu9, pu10, pu11, pu12, pu13, pu14, rc_at, bK_some, Option.toList_some, Option.toList_none, List.cons_append, List.nil_append, PH_x, h1, al_m, nI_lts, Nat.lt_irrefl, if_false, qCk]
end MR50
