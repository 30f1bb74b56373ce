/-! the class: a new network -/
theorem NH_hold {h : aH} {b : Nat} {C : nC} (H : ∀ o, o < 134 → hget h (b + o) = some (cell b (kO o).1 (b + o) (C (kO o).1 (kO o).2))) : NH h b C = h := by
  refine aH_ext rfl rfl ?_
  funext q
  unfold NH
  dsimp only
  by_cases z : b ≤ q ∧ q < b + 134
  · rw [if_pos z]
    have := H (q - b) (by omega)
    rw [show b + (q - b) = q from by omega] at this
    exact this.symm
  · rw [if_neg z]
def nC0 : nC := fun k _ => if k = 12 then w10 0 0 0 0 NON 0 0 0 0 else if k = 0 then w9 4 5 0 1 3 0 else fun _ => 0
section NN
variable {h : aH} {b : Nat}
theorem n_start (hb : h.1 = b + 1) (H : hget h b = some (.inr (2, [.int 0, .null, .int 0, .null, .int 0, .null, .long 0, .int 0, .int 0]))) : ∃ h1, run 13 0 [.ref b, .null] [] h = run 13 33 [.ref b, .int (nI 0)] [] h1 ∧ h1.1 = b + 3 ∧ h1.2.1 = h.2.1 + 18 ∧ (∀ q, q < b → hget h1 q = hget h q) ∧ hget h1 b = some (.inr (2, [.int (nI 4), .ref (b + 1), .int (nI 5), .ref (b + 2), .int 0, .null, .long 0, .int 0, .int 0])) ∧ hget h1 (b + 1) = some (r8 (fun _ => 0)) ∧ hget h1 (b + 2) = some (.inl (3, 10, .inr (fun _ => none))) := by
  simp (disch := first | omega | (simp only [hset_1, hnew_1, hb]; omega)) only [s13_0, s13_1, s13_4, s13_5, s13_6, s13_9, s13_10, s13_12, s13_14, s13_17, s13_18, s13_19, s13_22, s13_23, s13_25, s13_28, s13_31, s13_32, gf0, gf1, gf2, gf3, gf4, gf5, gf6, gf7, gf8, gf9, gf10, gf11, gf12, gf13, gf14, pu0, pu1, pu2, pu3, pu4, pu5, pu6, pu7, pu8, pu9, pu10, pu11, pu12, pu13, pu14, rc_at, bK_some, Option.toList_some, Option.toList_none, List.cons_append, List.nil_append, hget_set, hget_ne, hget_newn, hset_1, hnew_1, hb, H, Nat.add_assoc, nf_0]
  refine ⟨_, rfl, ?_, ?_, ?_, ?_, ?_, ?_⟩
  · simp only [hset_1, hnew_1, hb]
  · simp only [hset_2, hnew_2, Nat.add_assoc]
  · intro q hq
    simp (disch := first | omega | (simp only [hset_1, hnew_1, hb]; omega)) only [hget_ne, hget_newn]
  · rw [hget_set]
  all_goals
    simp (disch := first | omega | (simp only [hset_1, hnew_1, hb]; done) | (simp only [hset_1, hnew_1, hb]; omega)) only [hget_ne, hget_newn, hget_newa]
    first | done | rfl
theorem n_nodes {h1 : aH} (n1' : h1.1 = b + 3) (o1 : hget h1 b = some (.inr (2, [.int (nI 4), .ref (b + 1), .int (nI 5), .ref (b + 2), .int 0, .null, .long 0, .int 0, .int 0]))) (p2 : hget h1 (b + 2) = some (.inl (3, 10, .inr (fun _ => none)))) : ∀ v, v ≤ 10 → ∃ h2, run 13 33 [.ref b, .int (nI 0)] [] h1 = run 13 33 [.ref b, .int (nI v)] [] h2 ∧ h2.1 = b + 3 + 9 * v ∧ h2.2.1 = h1.2.1 + 61 * v ∧ (∀ q, q < b + 2 → hget h2 q = hget h1 q) ∧ hget h2 (b + 2) = some (.inl (3, 10, .inr (fun i => if i < v then some (ndA b i) else none))) ∧ ∀ o, 3 ≤ o → o < 3 + 9 * v → hget h2 (b + o) = some (cell 0 (kO o).1 (b + o) (fun _ => 0)) := by
  intro v
  induction v with
  | zero =>
    intro _
    refine ⟨h1, rfl, n1', rfl, fun _ _ => rfl, ?_, fun o h3 ho => by omega⟩
    rw [p2]
    simp
  | succ v ih =>
    intro hv
    obtain ⟨h2, e1, e2, e3, e4, e5, e6⟩ := ih (by omega)
    have ea : h2.1 = ndA b v := by unfold ndA; exact e2
    obtain ⟨h3, f1, f2, f3, f4, f5⟩ := c_newN (h := hnew h2 7 (.inr (3, [.null, .null, .null, .null, .int 0, .int 0, .int 0]))) (a := ndA b v) (by rw [hnew_1, ea]) (by rw [← ea]; exact hget_new _ _ _)
    have old : ∀ q, q < ndA b v → hget h3 q = hget h2 q := fun q hq => by rw [f4 q hq, hget_newn (by omega)]
    have a2 : b + 2 < ndA b v := by unfold ndA; omega
    have g0 := f5 0 (by decide)
    have g0' : hget h3 (ndA b v) = some (.inr (3, [.ref (ndA b v + 1), .ref (ndA b v + 4), .ref (ndA b v + 7), .ref (ndA b v + 8), .int (nI 0), .int (nI 0), .int (nI 0)])) := g0
    have b0 : hget h2 b = some (.inr (2, [.int (nI 4), .ref (b + 1), .int (nI 5), .ref (b + 2), .int 0, .null, .long 0, .int 0, .int 0])) := by rw [e4 b (by omega)]; exact o1
    have c2 : hget h3 (b + 2) = some (.inl (3, 10, .inr (fun i => if i < v then some (ndA b i) else none))) := by rw [old _ a2]; exact e5
    have fu : va_up (fun i => if i < v then some (ndA b i) else none) v (some (ndA b v)) = fun i => if i < v + 1 then some (ndA b i) else none := by
      funext i
      unfold va_up
      by_cases z : i = v
      · subst z; simp
      · rw [if_neg z]
        dsimp only
        by_cases y : i < v
        · rw [if_pos y, if_pos (by omega)]
        · rw [if_neg y, if_neg (by omega)]
    refine ⟨hset h3 (b + 2) (.inl (3, 10, .inr (fun i => if i < v + 1 then some (ndA b i) else none))), ?_, ?_, ?_, fun q hq => ?_, hget_set _ _ _, fun o h3' ho => ?_⟩
    · rw [e1, s13_33]
      simp (disch := first | omega | decide) only [s13_34, s13_36, s13_39, s13_40, s13_43, s13_44, s13_47, s13_48, s13_51, s13_52, s13_55, gf0, gf1, gf2, gf3, gf4, gf5, gf6, gf7, gf8, gf9, gf10, gf11, gf12, gf13, gf14, pu0, pu1, pu2, pu3, pu4, pu5, pu6, pu7, pu8, pu9, pu10, pu11, pu12, pu13, pu14, rc_at, bK_some, Option.toList_some, Option.toList_none, List.cons_append, List.nil_append, b0, ea, nI_lts, show v < 10 from by omega, if_true, f1, c2, g0', as_Q (t := 3) (Or.inl rfl) (show 3 = arC 3 from rfl) (show v < 10 by omega) (show 10 < 2 ^ 31 by decide), fu, nI_adds]
    · rw [hset_1, f2]; unfold ndA; omega
    · rw [hset_2, f3, hnew_2, e3]; omega
    · rw [hget_ne (by omega), old q (by omega), e4 q hq]
    · rw [hget_ne (by omega)]
      by_cases z : o < 3 + 9 * v
      · rw [old _ (by unfold ndA; omega)]; exact e6 o h3' z
      · obtain ⟨r, rfl⟩ : ∃ r, o = 3 + 9 * v + r := ⟨o - (3 + 9 * v), by omega⟩
        have := f5 r (by omega)
        rw [kO_n (by omega) (by omega)]
        rw [show ndA b v + r = b + (3 + 9 * v + r) from by unfold ndA; omega] at this
        exact this
theorem n_mid {h1 : aH} (n1' : h1.1 = b + 93) (o1 : hget h1 b = some (.inr (2, [.int (nI 4), .ref (b + 1), .int (nI 5), .ref (b + 2), .int 0, .null, .long 0, .int 0, .int 0]))) : ∃ h2, run 13 33 [.ref b, .int (nI 10)] [] h1 = run 13 74 [.ref b, .int (nI 0)] [] h2 ∧ h2.1 = b + 94 ∧ h2.2.1 = h1.2.1 + 20 ∧ (∀ q, q < b + 93 → q ≠ b → hget h2 q = hget h1 q) ∧ hget h2 b = some (.inr (2, [.int (nI 4), .ref (b + 1), .int (nI 5), .ref (b + 2), .int (nI 0), .ref (b + 93), .long 0, .int 0, .int 0])) ∧ hget h2 (b + 93) = some (.inl (4, 20, .inr (fun _ => none))) := by
  rw [s13_33]
  simp (disch := first | omega | (simp only [hset_1, hnew_1, n1']; omega)) only [s13_34, s13_36, s13_58, s13_59, s13_60, s13_63, s13_64, s13_66, s13_69, s13_72, s13_73, gf0, gf1, gf2, gf3, gf4, gf5, gf6, gf7, gf8, gf9, gf10, gf11, gf12, gf13, gf14, pu0, pu1, pu2, pu3, pu4, pu5, pu6, pu7, pu8, pu9, pu10, pu11, pu12, pu13, pu14, rc_at, bK_some, Option.toList_some, Option.toList_none, List.cons_append, List.nil_append, nI_lts, Nat.lt_irrefl, if_false, hget_set, hget_ne, hget_newn, hset_1, hnew_1, n1', o1, Nat.add_assoc, hset_set]
  refine ⟨_, rfl, ?_, ?_, ?_, ?_, ?_⟩
  · simp only [hset_1, hnew_1, n1']
  · simp only [hset_2, hnew_2, Nat.add_assoc]
  · intro q hq hqb
    simp (disch := first | omega | (simp only [hset_1, hnew_1, n1']; omega)) only [hget_ne, hget_newn]
  · rw [hget_set]
  · simp (disch := first | omega | (simp only [hset_1, hnew_1, n1']; done) | (simp only [hset_1, hnew_1, n1']; omega)) only [hget_ne, hget_newn, hget_newa]
theorem n_links {h1 : aH} (n1' : h1.1 = b + 94) (o1 : hget h1 b = some (.inr (2, [.int (nI 4), .ref (b + 1), .int (nI 5), .ref (b + 2), .int (nI 0), .ref (b + 93), .long 0, .int 0, .int 0]))) (p2 : hget h1 (b + 93) = some (.inl (4, 20, .inr (fun _ => none)))) : ∀ v, v ≤ 20 → ∃ h2, run 13 74 [.ref b, .int (nI 0)] [] h1 = run 13 74 [.ref b, .int (nI v)] [] h2 ∧ h2.1 = b + 94 + 2 * v ∧ h2.2.1 = h1.2.1 + 14 * v ∧ (∀ q, q < b + 93 → hget h2 q = hget h1 q) ∧ hget h2 (b + 93) = some (.inl (4, 20, .inr (fun i => if i < v then some (lkA b i) else none))) ∧ ∀ o, 94 ≤ o → o < 94 + 2 * v → hget h2 (b + o) = some (cell 0 (kO o).1 (b + o) (nC0 (kO o).1 (kO o).2)) := by
  intro v
  induction v with
  | zero =>
    intro _
    refine ⟨h1, rfl, n1', rfl, fun _ _ => rfl, ?_, fun o h3 ho => by omega⟩
    rw [p2]
    simp
  | succ v ih =>
    intro hv
    obtain ⟨h2, e1, e2, e3, e4, e5, e6⟩ := ih (by omega)
    have ea : h2.1 = lkA b v := by unfold lkA; exact e2
    obtain ⟨h3, f1, f2, f3, f4, f5, f6⟩ := c_newL (h := hnew h2 10 (.inr (1, [.int 0, .int 0, .int 0, .null, .int 0, .int 0, .int 0, .int 0, .int 0, .int 0]))) (a := lkA b v) (by rw [hnew_1, ea]) (by rw [← ea]; exact hget_new _ _ _)
    have old : ∀ q, q < lkA b v → hget h3 q = hget h2 q := fun q hq => by rw [f4 q hq, hget_newn (by omega)]
    have a2 : b + 93 < lkA b v := by unfold lkA; omega
    have g0' : hget h3 (lkA b v) = some (.inr (1, [.int (nI 0), .int (nI 0), .int (nI 0), .ref (lkA b v + 1), .int (nI 0), .int (nI NON), .int (nI 0), .int (nI 0), .int (nI 0), .int (nI 0)])) := f5
    have b0 : hget h2 b = some (.inr (2, [.int (nI 4), .ref (b + 1), .int (nI 5), .ref (b + 2), .int (nI 0), .ref (b + 93), .long 0, .int 0, .int 0])) := by rw [e4 b (by omega)]; exact o1
    have c2 : hget h3 (b + 93) = some (.inl (4, 20, .inr (fun i => if i < v then some (lkA b i) else none))) := by rw [old _ a2]; exact e5
    have fu : va_up (fun i => if i < v then some (lkA b i) else none) v (some (lkA b v)) = fun i => if i < v + 1 then some (lkA b i) else none := by
      funext i
      unfold va_up
      by_cases z : i = v
      · subst z; simp
      · rw [if_neg z]
        dsimp only
        by_cases y : i < v
        · rw [if_pos y, if_pos (by omega)]
        · rw [if_neg y, if_neg (by omega)]
    refine ⟨hset h3 (b + 93) (.inl (4, 20, .inr (fun i => if i < v + 1 then some (lkA b i) else none))), ?_, ?_, ?_, fun q hq => ?_, hget_set _ _ _, fun o h3' ho => ?_⟩
    · rw [e1, s13_74]
      simp (disch := first | omega | decide) only [s13_75, s13_77, s13_80, s13_81, s13_84, s13_85, s13_88, s13_89, s13_92, s13_93, s13_96, gf0, gf1, gf2, gf3, gf4, gf5, gf6, gf7, gf8, gf9, gf10, gf11, gf12, gf13, gf14, pu0, pu1, pu2, pu3, pu4, pu5, pu6, pu7, pu8, pu9, pu10, pu11, pu12, pu13, pu14, rc_at, bK_some, Option.toList_some, Option.toList_none, List.cons_append, List.nil_append, b0, ea, nI_lts, show v < 20 from by omega, if_true, f1, c2, g0', as_Q (t := 4) (Or.inr (Or.inl rfl)) (show 1 = arC 4 from rfl) (show v < 20 by omega) (show 20 < 2 ^ 31 by decide), fu, nI_adds]
    · rw [hset_1, f2]; unfold lkA; omega
    · rw [hset_2, f3, hnew_2, e3]; omega
    · rw [hget_ne (by omega), old q (by omega), e4 q hq]
    · rw [hget_ne (by omega)]
      by_cases z : o < 94 + 2 * v
      · rw [old _ (by unfold lkA; omega)]; exact e6 o h3' z
      · obtain ⟨r, rfl⟩ : ∃ r, o = 94 + 2 * v + r := ⟨o - (94 + 2 * v), by omega⟩
        rw [kO_l (by omega) (by omega)]
        have cs : r = 0 ∨ r = 1 := by omega
        rcases cs with rfl | rfl
        · rw [show b + (94 + 2 * v + 0) = lkA b v from by unfold lkA; omega]; exact f5
        · rw [show b + (94 + 2 * v + 1) = lkA b v + 1 from by unfold lkA; omega]; exact f6
theorem c_newNet (hb : h.1 = b + 1) (H : hget h b = some (.inr (2, [.int 0, .null, .int 0, .null, .int 0, .null, .long 0, .int 0, .int 0]))) : ∃ h' C', run 13 0 [.ref b, .null] [] h = some (none, NH h' b C') ∧ Pic gNew C' ∧ h'.1 = b + 134 ∧ h'.2.1 = h.2.1 + 928 ∧ ∀ q, q < b → hget h' q = hget h q := by
  obtain ⟨h1, e1, n1', m1, q1, o1, p1, p2⟩ := n_start hb H
  obtain ⟨h2, e2, n2, m2, q2, o2, c2⟩ := n_nodes n1' o1 p2 10 (Nat.le_refl _)
  have o2' := o1
  rw [← q2 b (by omega)] at o2'
  obtain ⟨h3, e3, n3, m3, q3, o3, p3⟩ := n_mid (by omega) o2'
  obtain ⟨h4, e4, n4, m4', q4, o4, c4⟩ := n_links n3 o3 p3 20 (Nat.le_refl _)
  have b4 : hget h4 b = some (.inr (2, [.int (nI 4), .ref (b + 1), .int (nI 5), .ref (b + 2), .int (nI 0), .ref (b + 93), .long 0, .int 0, .int 0])) := by rw [q4 b (by omega)]; exact o3
  let h5 : aH := hset h4 b (.inr (2, [.int (nI 4), .ref (b + 1), .int (nI 5), .ref (b + 2), .int (nI 0), .ref (b + 93), .long 1, .int (nI 3), .int 0]))
  have hold : NH h5 b nC0 = h5 := by
    refine NH_hold (fun o ho => ?_)
    show hget (hset h4 b _) (b + o) = _
    by_cases z0 : o = 0
    · subst z0
      rw [show b + 0 = b from rfl, hget_set]
      rfl
    · rw [hget_ne (by omega)]
      by_cases z93 : o = 93
      · subst z93
        rw [o4]
        rfl
      · by_cases z94 : 94 ≤ o
        · rw [c4 o z94 (by omega)]
          have hk : (kO o).1 = 12 ∨ (kO o).1 = 13 := by
            unfold kO
            rw [if_neg (by omega), if_neg (by omega), if_neg z93]
            dsimp only
            omega
          rw [cell_b (b := 0) (b' := b) (by omega) (by omega) (by omega)]
        · rw [q4 _ (by omega), q3 _ (by omega) (by omega)]
          by_cases z2 : o = 2
          · subst z2
            rw [o2]
            rfl
          · by_cases z1 : o = 1
            · subst z1
              rw [q2 _ (by omega), p1]
              rfl
            · rw [c2 o (by omega) (by omega)]
              have hk : 3 ≤ (kO o).1 ∧ (kO o).1 < 12 := by
                unfold kO
                rw [if_neg (by omega), if_pos (by omega)]
                dsimp only
                omega
              rw [cell_b (b := 0) (b' := b) (by omega) (by omega) (by omega)]
              unfold nC0
              rw [if_neg (by omega), if_neg (by omega)]
  obtain ⟨F, r1, f1⟩ := c_resetPayloads (h := h5) (b := b) (C := nC0)
  have PB : PicB (gFirst (up (up (up (up (fun _ => 0) 0 4) 1 5) 4 1) 5 3)) (upK nC0 1 0 F) := by
    have u0 : upK nC0 1 0 F 0 0 = w9 4 5 0 1 3 0 := by rw [upK_k (by decide)]; rfl
    refine ⟨⟨?_, ?_, ?_, ?_, ?_, ?_, fun i hi => ?_⟩, fun v hv => ?_, fun l hl => ?_⟩
    · rw [u0]; rfl
    · rw [u0]; rfl
    · rw [u0]; rfl
    · rw [u0]; rfl
    · rw [u0]; rfl
    · rw [u0]; rfl
    · rw [upK_same, f1 i hi]
      unfold gFirst
      rw [if_pos (by omega)]
      omega
    · rw [upK_k (by decide)]
      unfold gFirst
      rw [if_neg (by omega), up_ne (by omega), up_ne (by omega), up_ne (by omega), up_ne (by omega)]
      rfl
    · rw [upK_k (by decide)]
      unfold gFirst
      rw [if_neg (by omega), if_neg (by omega), if_neg (by omega), up_ne (by omega), up_ne (by omega), up_ne (by omega), up_ne (by omega), up_ne (by omega), up_ne (by omega), up_ne (by omega), up_ne (by omega), up_ne (by omega), up_ne (by omega), up_ne (by omega), up_ne (by omega)]
      exact ⟨rfl, rfl, rfl⟩
  obtain ⟨C', r2, p⟩ := c_begin (h := h5) (b := b) PB (by decide)
  refine ⟨h5, C', ?_, p, ?_, ?_, fun q hq => ?_⟩
  · have fin : run 13 74 [.ref b, .int (nI 20)] [] h4 = run 13 109 [.ref b, .int (nI 20)] [] h5 := by
      rw [s13_74]
      simp (disch := omega) only [s13_75, s13_77, s13_99, s13_100, s13_101, s13_104, s13_105, s13_106, gf0, gf1, gf2, gf3, gf4, gf5, gf6, gf7, gf8, gf9, gf10, gf11, gf12, gf13, gf14, pu0, pu1, pu2, pu3, pu4, pu5, pu6, pu7, pu8, pu9, pu10, pu11, pu12, pu13, pu14, rc_at, bK_some, Option.toList_some, Option.toList_none, List.cons_append, List.nil_append, nI_lts, Nat.lt_irrefl, if_false, b4, hget_set, hset_set, h5]
    have fin2 : run 13 109 [.ref b, .int (nI 20)] [] (NH h5 b nC0) = some (none, NH h5 b C') := by
      simp (disch := omega) only [s13_109, s13_110, s13_113, s13_114, s13_117, gf0, gf1, gf2, gf3, gf4, gf5, gf6, gf7, gf8, gf9, gf10, gf11, gf12, gf13, gf14, pu0, pu1, pu2, pu3, pu4, pu5, pu6, pu7, pu8, pu9, pu10, pu11, pu12, pu13, pu14, rc_at, bK_some, Option.toList_some, Option.toList_none, List.cons_append, List.nil_append, NH_0, r1, r2]
    rw [hold] at fin2
    rw [e1, e2, e3, e4, fin, fin2]
  · show h4.1 = _; omega
  · show h4.2.1 = _; omega
  · show hget (hset h4 b _) q = _
    rw [hget_ne (by omega), q4 q (by omega), q3 q (by omega) (by omega), q2 q (by omega), q1 q hq]
end NN
