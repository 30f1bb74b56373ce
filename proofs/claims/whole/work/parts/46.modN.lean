/-! random checks; the rank of what was sent; flows -/
/-- one random check -/
def crF (g : Nat → Nat) : Nat → Nat := if unC g = 0 then g else match unF g (rndV g (unC g)) with
  | some i => gChk (gRnd (gRnd g)) (1 + i) (rndV (gRnd g) (2 ^ g 0 - 1) + 1)
  | none => g
def crB (g : Nat → Nat) : Bool := if unC g = 0 then false else match unF g (rndV g (unC g)) with
  | some i => susN (gRnd (gRnd g)) (1 + i) (rndV (gRnd g) (2 ^ g 0 - 1) + 1)
  | none => false
def crI (g : Nat → Nat) : Nat → (Nat → Nat)
  | 0 => g
  | n + 1 => crF (crI g n)
def oChkR (g : Nat → Nat) (n : Int32) : Int32 × (Nat → Nat) := if inI n (nI 1) (nI 50) = true then (nI (cntN (fun i => crB (crI g i)) (cl n)), crI g (cl n)) else (-1, g)
theorem firstN_nth {p : Nat → Bool} : ∀ n q, q < cntN p n → ∃ i, firstN (fun i => p i && decide (cntN p i = q)) n = some i := by
  intro n
  induction n with
  | zero => intro q hq; exact absurd hq (Nat.not_lt_zero q)
  | succ n ih =>
    intro q hq
    unfold firstN
    by_cases h : q < cntN p n
    · obtain ⟨i, hi⟩ := ih q h
      rw [hi]
      exact ⟨i, rfl⟩
    · simp only [cntN] at hq
      by_cases hp : p n = true
      · rw [if_pos hp] at hq
        have hq2 : cntN p n = q := by omega
        cases hf : firstN (fun i => p i && decide (cntN p i = q)) n with
        | some i => exact ⟨i, rfl⟩
        | none => exact ⟨n, by simp [hp, hq2]⟩
      · rw [if_neg hp] at hq; omega
theorem relN_congr {g g' : Nat → Nat} (h2 : g' 2 = g 2) (h : ∀ l, l < g 2 → g' (214 + 11 * l) = g (214 + 11 * l)) (v : Int32) : relN g' v = relN g v := by
  unfold relN
  rw [h2, anyN_congr (fun l hl => by rw [h l hl])]
theorem unF_rnd (g : Nat → Nat) (q : Nat) : unF (gRnd g) q = unF g q := by
  have e : ∀ j, j ≠ 4 → gRnd g j = g j := fun j hj => up_ne hj
  have hu : ∀ v, unB (gRnd g) v = unB g v := by
    intro v
    unfold unB
    rw [relN_congr (e 2 (by omega)) (fun l _ => e _ (by omega)), e (34 + v) (by omega)]
  unfold unF
  rw [e 1 (by omega)]
  simp only [hu]
theorem WFS_chk {g : Nat → Nat} {v p : Nat} (hw : WF g) (hs : WS g) (hv : v < 10) : WF (gChk g v p) ∧ WS (gChk g v p) := by
  unfold gChk
  split
  · exact ⟨hw.mark hv, WS.mark hw hs hv⟩
  · exact ⟨hw, hs⟩
theorem WS.rnd {g : Nat → Nat} (hw : WF g) (hs : WS g) : WS (gRnd g) :=
  hs.mono (fun v hv => Nat.le_trans (hw.2.2.2.2.2.2.1 v hv).2.2 hw.1.2) (fun j _ _ h4 _ => up_ne h4)
theorem WFS_cr {g : Nat → Nat} (hw : WF g) (hs : WS g) : WF (crF g) ∧ WS (crF g) := by
  have hn := hw.2.1
  unfold crF
  by_cases h0 : unC g = 0
  · simp only [h0, if_true]; exact ⟨hw, hs⟩
  · simp only [h0, if_false]
    cases hf : unF g (rndV g (unC g)) with
    | none => exact ⟨hw, hs⟩
    | some i =>
      have := (firstN_some.mp hf).1
      exact WFS_chk hw.rnd.rnd (WS.rnd hw.rnd (WS.rnd hw hs)) (by omega)
theorem WFS_crI {g : Nat → Nat} (hw : WF g) (hs : WS g) (n : Nat) : WF (crI g n) ∧ WS (crI g n) := by
  induction n with
  | zero => exact ⟨hw, hs⟩
  | succ n ih => exact WFS_cr ih.1 ih.2
section MN
variable {h : aH} {x : Nat} {r : List Value} {g : Nat → Nat}
theorem m_checkRandomly (H : MO h x r g) (hw : WF g) (hs : WS g) (n : Int32) : run 165 0 [.ref x, .int n, .null, .null, .null, .null, .null] [] h = some (some (.int (oChkR g n).1), hset h (x + 1) (mI (oChkR g n).2)) := by
  obtain ⟨H1, H2⟩ := id H
  simp only [s165_0, s165_1, s165_2, s165_4, s165_7, s165_10, s165_11, gf0, gf1, gf2, gf3, gf4, gf5, gf6, gf7, gf8, gf9, gf10, gf11, gf12, gf13, gf14, pu0, pu1, pu2, pu3, pu4, pu5, pu6, pu7, pu8, pu9, pu10, pu11, pu12, pu13, pu14, rc_at, bK_some, Option.toList_some, Option.toList_none, List.cons_append, List.nil_append, m_in, bI_0]
  unfold oChkR
  cases hc : inI n (nI 1) (nI 50)
  · simp [mI, H.eq2]
  · obtain ⟨j, h1, h2, rfl, h3⟩ := inI_t (by decide) (by decide) hc
    simp only [Bool.true_eq_false, if_false, if_true, h3, s165_12, s165_13, s165_14, s165_15]
    have key : ∀ m, m ≤ j → ∃ w1 w2 w3, run 165 16 [.ref x, .int (nI j), .int (nI 0), .int (nI 0), .null, .null, .null] [] h = run 165 16 [.ref x, .int (nI j), .int (nI (cntN (fun i => crB (crI g i)) m)), .int (nI m), w1, w2, w3] [] (hset h (x + 1) (mI (crI g m))) := by
      intro m
      induction m with
      | zero => intro _; exact ⟨.null, .null, .null, by rw [show crI g 0 = g from rfl, ← H.eq]; rfl⟩
      | succ m ih =>
        intro hm
        obtain ⟨w1, w2, w3, e1⟩ := ih (by omega)
        obtain ⟨hw', hs'⟩ := WFS_crI hw hs m
        have ec : cntN (fun i => crB (crI g i)) (m + 1) = cntN (fun i => crB (crI g i)) m + (if crB (crI g m) = true then 1 else 0) := rfl
        have eg : crI g (m + 1) = crF (crI g m) := rfl
        rw [ec, eg]
        generalize crI g m = G at e1 hw' hs' ⊢
        have hn := hw'.2.1
        have hk := hw'.1
        have hG : ∀ G', MO (hset h (x + 1) (mI G')) x r G' := fun _ => H.set
        have hcnt := cntN_le (fun i => unB G (1 + i)) (G 1 - 1)
        have hcl : unC G < 10 := by unfold unC; omega
        rw [e1, s165_16]
        unfold crF crB
        by_cases h0 : unC G = 0
        · refine ⟨.int (nI 0), w2, w3, ?_⟩
          simp (disch := omega) only [s165_17, s165_18, s165_21, s165_22, s165_23, s165_26, s165_28, s165_30, gf0, gf1, gf2, gf3, gf4, gf5, gf6, gf7, gf8, gf9, gf10, gf11, gf12, gf13, gf14, pu0, pu1, pu2, pu3, pu4, pu5, pu6, pu7, pu8, pu9, pu10, pu11, pu12, pu13, pu14, rc_at, bK_some, Option.toList_some, Option.toList_none, List.cons_append, List.nil_append, H1, hget_ne, nI_lts, show m < j from by omega, if_true, m_uncut_all (hG G) hw', h0, nI_gt0, Nat.lt_irrefl, if_false, s165_76, s165_79, nI_adds, Bool.false_eq_true, Nat.add_zero]
        · have hrv : rndV G (unC G) < unC G := Nat.mod_lt _ (by omega)
          obtain ⟨i, hf⟩ := firstN_nth (p := fun i => unB G (1 + i)) (G 1 - 1) _ hrv
          have hf' : unF G (rndV G (unC G)) = some i := hf
          have hi : i < G 1 - 1 := (firstN_some.mp hf).1
          have hf2 : unF (gRnd G) (rndV G (unC G)) = some i := by rw [unF_rnd]; exact hf'
          have hp := pow_8 hk.2
          have hp1 : 4 ≤ 2 ^ G 0 := (Nat.pow_le_pow_right (by decide) hk.1 : 2 ^ 2 ≤ 2 ^ G 0)
          have e0 : gRnd G 0 = G 0 := up_ne (by omega)
          have R1 := m_random (hG G) hw'.2.2.2.2.1 (show 0 < unC G by omega) (show unC G < 2 ^ 31 by omega)
          have U := m_uncut (hG (gRnd G)) hw'.rnd hf2
          have A := m_all (hG (gRnd G)) (by rw [e0]; omega)
          rw [e0] at A
          have R2 := m_random (hG (gRnd G)) hw'.rnd.2.2.2.2.1 (show 0 < 2 ^ G 0 - 1 by omega) (show 2 ^ G 0 - 1 < 2 ^ 31 by omega)
          have hrv2 : rndV (gRnd G) (2 ^ G 0 - 1) < 2 ^ G 0 - 1 := Nat.mod_lt _ (by omega)
          have C := m_checks (hG (gRnd (gRnd G))) hw'.rnd.rnd (show 1 + i < 10 by omega) (show rndV (gRnd G) (2 ^ G 0 - 1) + 1 < 256 by omega)
          rw [hset_set] at R1 R2 C
          refine ⟨.int (nI (unC G)), .int (nI (1 + i)), .int (nI (rndV (gRnd G) (2 ^ G 0 - 1) + 1)), ?_⟩
          simp (disch := omega) only [s165_17, s165_18, s165_21, s165_22, s165_23, s165_26, s165_28, s165_30, s165_33, s165_34, s165_35, s165_37, s165_40, s165_43, s165_45, s165_46, s165_47, s165_50, s165_53, s165_54, s165_55, s165_57, s165_58, s165_59, s165_61, s165_63, s165_66, gf0, gf1, gf2, gf3, gf4, gf5, gf6, gf7, gf8, gf9, gf10, gf11, gf12, gf13, gf14, pu0, pu1, pu2, pu3, pu4, pu5, pu6, pu7, pu8, pu9, pu10, pu11, pu12, pu13, pu14, rc_at, bK_some, Option.toList_some, Option.toList_none, List.cons_append, List.nil_append, H1, hget_ne, nI_lts, show m < j from by omega, if_true, m_uncut_all (hG G) hw', nI_gt0, show 0 < unC G from by omega, R1, U, A, R2, C, nI_adds, bI_0, h0, if_false, hf']
          cases susN (gRnd (gRnd G)) (1 + i) (rndV (gRnd G) (2 ^ G 0 - 1) + 1) <;> simp [s165_69, s165_70, s165_73, s165_74, s165_75, s165_76, s165_79, nI_adds]
    obtain ⟨w1, w2, w3, e1⟩ := key j (Nat.le_refl j)
    rw [e1, s165_16]
    simp (disch := omega) only [s165_17, s165_18, s165_82, s165_83, nI_lts, Nat.lt_irrefl, if_false]
/-- the links that lead out of a set, but one -/
def cutN (g : Nat → Nat) (set : Nat) (but : Int32) : Nat := cntN (fun l => decide (¬ nI l = but) && opN g l && hasN set (g (214 + 11 * l)) && !hasN set (g (215 + 11 * l))) (g 2)
def valN (g : Nat → Nat) (v set : Nat) (but : Int32) : Nat := (if hasN set v = true then 20 else 0) + cutN g set but
def flW (g : Nat → Nat) (v : Nat) (but : Int32) : Nat := foldN (fun i m => if valN g v (1 + 2 * i) but < m then valN g v (1 + 2 * i) but else m) (2 ^ (g 1 - 1)) 20
def qFlow (g : Nat → Nat) (v : Int32) : Int32 := if lkB (g 1) v = true ∧ ¬ v = 0 then nI (flW g (cl v) (-4)) else -1
def qNeed (g : Nat → Nat) (v : Int32) : Int32 := if lkB (g 1) v = true ∧ ¬ v = 0 then optI (firstN (fun l => opN g l && decide (flW g (cl v) (nI l) < flW g (cl v) (-4))) (g 2)) else -1
theorem flW_le (g : Nat → Nat) (v : Nat) (but : Int32) : flW g v but ≤ 20 := by
  unfold flW
  generalize 2 ^ (g 1 - 1) = n
  induction n with
  | zero => exact Nat.le_refl 20
  | succ n ih =>
    simp only [foldN]
    split <;> omega
theorem m_flowWithout (H : MO h x r g) (hw : WF g) {v : Nat} (hv : v < 10) (but : Int32) : run 170 0 [.ref x, .int (nI v), .int but, .null, .null, .null, .null] [] h = some (some (.int (nI (flW g v but))), h) := by
  have hn := hw.2.1
  have h20 := hw.2.2.1
  obtain ⟨H1, H2⟩ := id H
  have hpow : 2 ^ g 1 = 2 * 2 ^ (g 1 - 1) := by
    rw [← Nat.pow_succ']
    congr 1
    omega
  have hpb : 2 ^ (g 1 - 1) ≤ 2 ^ 9 := Nat.pow_le_pow_right (by decide) (by omega)
  simp only [s170_0, s170_2, s170_3, s170_4]
  obtain ⟨⟨w', L⟩, -⟩ := loop_invJ (fun i (m : Nat) (w : Value × Value) => run 170 6 [.ref x, .int (nI v), .int but, .int (nI m), .int (nI (1 + 2 * i)), w.1, w.2] [] h) (fun i m => if valN g v (1 + 2 * i) but < m then valN g v (1 + 2 * i) but else m) (fun _ m => m ≤ 20) (2 ^ (g 1 - 1)) (by
    intro i m w hi hm
    refine ⟨?_, by split <;> omega⟩
    have hset : 1 + 2 * i < 2 ^ 31 := by omega
    rw [s170_6]
    simp (disch := omega) only [s170_8, s170_9, s170_10, s170_13, s170_14, s170_15, s170_16, s170_19, s170_21, s170_22, s170_25, gf0, gf1, gf2, gf3, gf4, gf5, gf6, gf7, gf8, gf9, gf10, gf11, gf12, gf13, gf14, pu0, pu1, pu2, pu3, pu4, pu5, pu6, pu7, pu8, pu9, pu10, pu11, pu12, pu13, pu14, rc_at, bK_some, Option.toList_some, Option.toList_none, List.cons_append, List.nil_append, H1, H2, hget_set, hget_ne, hset_set, mI, nI_mul, nI_adds, al_I, as_I, nf_at, upd_nf, nI_shl1, nI_lts, show 1 + 2 * i < 2 ^ g 1 from by omega, if_true, m_has, bI_0]
    have L2 : ∀ c0, run 170 39 [.ref x, .int (nI v), .int but, .int (nI m), .int (nI (1 + 2 * i)), .int (nI c0), .int (nI 0)] [] h = run 170 39 [.ref x, .int (nI v), .int but, .int (nI m), .int (nI (1 + 2 * i)), .int (nI (c0 + cutN g (1 + 2 * i) but)), .int (nI (g 2))] [] h := by
      intro c0
      have L3 := loop_up (fun l (c : Nat) => run 170 39 [.ref x, .int (nI v), .int but, .int (nI m), .int (nI (1 + 2 * i)), .int (nI c), .int (nI l)] [] h) (fun l c => c + (if (decide (¬ nI l = but) && opN g l && hasN (1 + 2 * i) (g (214 + 11 * l)) && !hasN (1 + 2 * i) (g (215 + 11 * l))) = true then 1 else 0)) (g 2) (by
        intro l c hl
        have hlk := hw.2.2.2.1 l hl
        have q1 : 214 + 11 * l + 1 = 215 + 11 * l := by omega
        have hf := (hw.2.2.2.2.2.2.1 (g (214 + 11 * l)) (by omega)).2.1
        have ht := (hw.2.2.2.2.2.2.1 (g (215 + 11 * l)) (by omega)).2.1
        rw [s170_39]
        simp (disch := omega) only [s170_41, s170_42, s170_45, s170_46, s170_47, s170_50, s170_52, s170_54, s170_55, s170_58, s170_59, s170_61, s170_64, s170_67, s170_69, s170_70, s170_72, s170_73, s170_76, s170_79, s170_82, s170_84, s170_85, s170_87, s170_88, s170_91, s170_94, s170_97, s170_98, s170_101, s170_102, s170_103, s170_105, s170_108, gf0, gf1, gf2, gf3, gf4, gf5, gf6, gf7, gf8, gf9, gf10, gf11, gf12, gf13, gf14, pu0, pu1, pu2, pu3, pu4, pu5, pu6, pu7, pu8, pu9, pu10, pu11, pu12, pu13, pu14, rc_at, bK_some, Option.toList_some, Option.toList_none, List.cons_append, List.nil_append, H1, H2, hget_set, hget_ne, hset_set, mI, nI_mul, nI_adds, al_I, as_I, nf_at, upd_nf, nI_lts, hl, if_true, m_of H, Nat.add_zero, q1, m_isOpen H, m_has, bI_0]
        by_cases c1 : nI l = but
        · simp [c1, nI_adds]
        · cases opN g l
          · simp [c1, nI_adds]
          · cases hasN (1 + 2 * i) (g (214 + 11 * l))
            · simp [c1, nI_adds]
            · cases hasN (1 + 2 * i) (g (215 + 11 * l)) <;> simp [c1, nI_adds]) c0
      rw [fold_cnt] at L3
      exact L3
    have hcl := cntN_le (fun l => decide (¬ nI l = but) && opN g l && hasN (1 + 2 * i) (g (214 + 11 * l)) && !hasN (1 + 2 * i) (g (215 + 11 * l))) (g 2)
    have hcl2 : cutN g (1 + 2 * i) but ≤ 20 := by unfold cutN; omega
    refine ⟨(.int (nI (valN g v (1 + 2 * i) but)), .int (nI (g 2))), ?_⟩
    have e2i : 1 + 2 * i + 2 = 1 + 2 * (i + 1) := by omega
    have fin : ∀ c0, c0 ≤ 20 → run 170 39 [.ref x, .int (nI v), .int but, .int (nI m), .int (nI (1 + 2 * i)), .int (nI (c0 + cutN g (1 + 2 * i) but)), .int (nI (g 2))] [] h = run 170 6 [.ref x, .int (nI v), .int but, .int (nI (if c0 + cutN g (1 + 2 * i) but < m then c0 + cutN g (1 + 2 * i) but else m)), .int (nI (1 + 2 * (i + 1))), .int (nI (c0 + cutN g (1 + 2 * i) but)), .int (nI (g 2))] [] h := by
      intro c0 hc0
      rw [s170_39]
      simp (disch := omega) only [s170_41, s170_42, s170_45, s170_46, s170_47, s170_111, s170_113, s170_114, s170_117, s170_119, s170_122, s170_123, s170_124, s170_127, gf0, gf1, gf2, gf3, gf4, gf5, gf6, gf7, gf8, gf9, gf10, gf11, gf12, gf13, gf14, pu0, pu1, pu2, pu3, pu4, pu5, pu6, pu7, pu8, pu9, pu10, pu11, pu12, pu13, pu14, rc_at, bK_some, Option.toList_some, Option.toList_none, List.cons_append, List.nil_append, H1, H2, hget_set, hget_ne, hset_set, mI, nI_mul, nI_adds, al_I, as_I, nf_at, upd_nf, nI_lts, Nat.lt_irrefl, if_false, e2i]
      by_cases c : c0 + cutN g (1 + 2 * i) but < m <;> simp [c]
    unfold valN
    cases hasN (1 + 2 * i) v
    · simp only [if_true, s170_28, s170_30, s170_33, s170_34, s170_36, s170_37, Bool.false_eq_true, if_false]
      rw [L2 0, fin 0 (by decide)]
    · simp only [Bool.true_eq_false, if_false, s170_28, s170_30, s170_33, s170_34, s170_36, s170_37, if_true]
      rw [L2 20, fin 20 (by decide)]) 20 (.null, .null) (Nat.le_refl 20)
  simp only [Nat.mul_zero, Nat.add_zero] at L
  rw [L, s170_6]
  simp (disch := omega) only [s170_8, s170_9, s170_10, s170_13, s170_14, s170_15, s170_16, s170_130, s170_131, gf0, gf1, gf2, gf3, gf4, gf5, gf6, gf7, gf8, gf9, gf10, gf11, gf12, gf13, gf14, pu0, pu1, pu2, pu3, pu4, pu5, pu6, pu7, pu8, pu9, pu10, pu11, pu12, pu13, pu14, rc_at, bK_some, Option.toList_some, Option.toList_none, List.cons_append, List.nil_append, H1, H2, hget_set, hget_ne, hset_set, mI, nI_mul, nI_adds, al_I, as_I, nf_at, upd_nf, nI_shl1, nI_lts, show ¬ (1 + 2 * 2 ^ (g 1 - 1) < 2 ^ g 1) from by omega, if_false]
  rfl
theorem m_flow (H : MO h x r g) (hw : WF g) (v : Int32) : run 171 0 [.ref x, .int v] [] h = some (some (.int (qFlow g v)), h) := by
  have hn := hw.2.1
  have H1 := H.1
  simp only [s171_0, s171_1, s171_2, s171_5, s171_8, s171_9, gf0, gf1, gf2, gf3, gf4, gf5, gf6, gf7, gf8, gf9, gf10, gf11, gf12, gf13, gf14, pu0, pu1, pu2, pu3, pu4, pu5, pu6, pu7, pu8, pu9, pu10, pu11, pu12, pu13, pu14, rc_at, bK_some, Option.toList_some, Option.toList_none, List.cons_append, List.nil_append, H1, m_node H, bI_0]
  unfold qFlow
  cases c1 : lkB (g 1) v
  · simp [s171_12, s171_13, s171_14, s171_16, s171_19, s171_22, s171_23]
  · obtain ⟨j, j1, rfl, j3⟩ := lkB_t (by omega) c1
    by_cases c2 : nI j = 0
    · simp [c2, s171_12, s171_13, s171_14, s171_16, s171_19, s171_22, s171_23]
    · simp only [Bool.true_eq_false, if_false, c2, s171_12, s171_13, s171_14, s171_16, s171_19, s171_22, s171_23, gf0, gf1, gf2, gf3, gf4, gf5, gf6, gf7, gf8, gf9, gf10, gf11, gf12, gf13, gf14, pu0, pu1, pu2, pu3, pu4, pu5, pu6, pu7, pu8, pu9, pu10, pu11, pu12, pu13, pu14, rc_at, bK_some, Option.toList_some, Option.toList_none, List.cons_append, List.nil_append, H1, m_flowWithout H hw (show j < 10 by omega), not_false_eq_true, and_true, if_true, j3]
theorem m_neededLink (H : MO h x r g) (hw : WF g) (v : Int32) : run 172 0 [.ref x, .int v, .null, .null] [] h = some (some (.int (qNeed g v)), h) := by
  have hn := hw.2.1
  have h20 := hw.2.2.1
  obtain ⟨H1, H2⟩ := id H
  simp only [s172_0, s172_1, s172_2, s172_5, s172_8, s172_9, s172_12, s172_13, gf0, gf1, gf2, gf3, gf4, gf5, gf6, gf7, gf8, gf9, gf10, gf11, gf12, gf13, gf14, pu0, pu1, pu2, pu3, pu4, pu5, pu6, pu7, pu8, pu9, pu10, pu11, pu12, pu13, pu14, rc_at, bK_some, Option.toList_some, Option.toList_none, List.cons_append, List.nil_append, H1, m_node H, bI_0]
  unfold qNeed
  cases c1 : lkB (g 1) v
  · simp
  · obtain ⟨j, j1, rfl, j3⟩ := lkB_t (by omega) c1
    by_cases c2 : nI j = 0
    · simp [c2]
    · simp only [Bool.true_eq_false, if_false, c2, s172_14, s172_15, s172_16, s172_18, s172_21, s172_22, s172_23, gf0, gf1, gf2, gf3, gf4, gf5, gf6, gf7, gf8, gf9, gf10, gf11, gf12, gf13, gf14, pu0, pu1, pu2, pu3, pu4, pu5, pu6, pu7, pu8, pu9, pu10, pu11, pu12, pu13, pu14, rc_at, bK_some, Option.toList_some, Option.toList_none, List.cons_append, List.nil_append, H1, m_flowWithout H hw (show j < 10 by omega), not_false_eq_true, and_true, if_true, j3]
      have hall := flW_le g j (-4)
      have key : ∀ d l, l + d = g 2 → (∀ k, k < l → (opN g k && decide (flW g j (nI k) < flW g j (-4))) = false) → run 172 24 [.ref x, .int (nI j), .int (nI (flW g j (-4))), .int (nI l)] [] h = some (some (.int (optI (firstN (fun l => opN g l && decide (flW g j (nI l) < flW g j (-4))) (g 2)))), h) := by
        intro d
        induction d with
        | zero =>
          intro l hl hno
          rw [s172_24]
          simp (disch := omega) only [s172_25, s172_26, s172_29, s172_30, s172_31, s172_60, s172_62, gf0, gf1, gf2, gf3, gf4, gf5, gf6, gf7, gf8, gf9, gf10, gf11, gf12, gf13, gf14, pu0, pu1, pu2, pu3, pu4, pu5, pu6, pu7, pu8, pu9, pu10, pu11, pu12, pu13, pu14, rc_at, bK_some, Option.toList_some, Option.toList_none, List.cons_append, List.nil_append, H1, H2, hget_set, hget_ne, hset_set, mI, nI_mul, nI_adds, al_I, as_I, nf_at, upd_nf, nI_lts, show ¬ (l < g 2) from by omega, if_false]
          rw [firstN_none.mpr (fun k hk => hno k (by omega))]
          rfl
        | succ d ih =>
          intro l hl hno
          have hlk := hw.2.2.2.1 l (by omega)
          have hf := (hw.2.2.2.2.2.2.1 (g (214 + 11 * l)) (by omega)).2.1
          have ht := (hw.2.2.2.2.2.2.1 (g (215 + 11 * l)) (by omega)).2.1
          have hle := flW_le g j (nI l)
          rw [s172_24]
          simp (disch := omega) only [s172_25, s172_26, s172_29, s172_30, s172_31, s172_34, s172_35, s172_36, s172_39, s172_42, s172_43, s172_44, s172_45, s172_48, s172_49, s172_52, s172_53, s172_54, s172_57, gf0, gf1, gf2, gf3, gf4, gf5, gf6, gf7, gf8, gf9, gf10, gf11, gf12, gf13, gf14, pu0, pu1, pu2, pu3, pu4, pu5, pu6, pu7, pu8, pu9, pu10, pu11, pu12, pu13, pu14, rc_at, bK_some, Option.toList_some, Option.toList_none, List.cons_append, List.nil_append, H1, H2, hget_set, hget_ne, hset_set, mI, nI_mul, nI_adds, al_I, as_I, nf_at, upd_nf, nI_lts, show l < g 2 from by omega, if_true, m_isOpen H, bI_0, m_flowWithout H hw (show j < 10 by omega)]
          by_cases c3 : (opN g l && decide (flW g j (nI l) < flW g j (-4))) = true
          · have c4 := c3
            simp only [Bool.and_eq_true, decide_eq_true_eq] at c4
            simp only [c4.1, c4.2, Bool.true_eq_false, if_false, if_true]
            rw [firstN_some.mpr ⟨by omega, c3, hno⟩]
            rfl
          · have hih := ih (l + 1) (by omega) (fun k hk => by
              by_cases hkl : k = l
              · subst hkl; simpa using c3
              · exact hno k (by omega))
            cases ho : opN g l
            · simp only [if_true]; exact hih
            · rw [ho] at c3
              have c5 : ¬ flW g j (nI l) < flW g j (-4) := by simpa using c3
              simp only [Bool.true_eq_false, if_false, c5]; exact hih
      exact key (g 2) 0 (Nat.zero_add _) (fun k hk => absurd hk (Nat.not_lt_zero k))
end MN
