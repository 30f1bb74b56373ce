/-! the class: new nodes, links, networks -/
theorem cell_b {b b' k a : Nat} {f : Nat → Nat} (h0 : k ≠ 0) (h2 : k ≠ 2) (h14 : k ≠ 14) : cell b k a f = cell b' k a f := by
  unfold cell
  simp only [h0, h2, h14, if_false]
section NE
theorem c_newN {h : aH} {a : Nat} (ha : h.1 = a + 1) (H : hget h a = some (.inr (3, [.null, .null, .null, .null, .int 0, .int 0, .int 0]))) : ∃ h', run 37 0 [.ref a] [] h = some (none, h') ∧ h'.1 = a + 9 ∧ h'.2.1 = h.2.1 + 54 ∧ (∀ q, q < a → hget h' q = hget h q) ∧ ∀ r, r < 9 → hget h' (a + r) = some (cell 0 (3 + r) (a + r) (fun _ => 0)) := by
  -- the first span
  have s1 : ∃ h1, run 37 0 [.ref a] [] h = run 37 15 [.ref a] [] h1 ∧ h1.1 = a + 4 ∧ h1.2.1 = h.2.1 + 19 ∧ (∀ q, q < a → hget h1 q = hget h q) ∧ hget h1 a = some (.inr (3, [.ref (a + 1), .null, .null, .null, .int 0, .int 0, .int 0])) ∧ SP h1 (a + 1) 0 (fun _ => 0) (fun _ => 0) := by
    have N := c_newS (h := hnew h 3 (.inr (4, [.null, .null, .int 0]))) (y := a + 1) (by rw [hnew_1, ha]) (by rw [← ha]; exact hget_new _ _ _)
    have X : hget (sSet ((hnew h 3 (.inr (4, [.null, .null, .int 0]))).1 + 2, (hnew h 3 (.inr (4, [.null, .null, .int 0]))).2.1 + 16, (hnew h 3 (.inr (4, [.null, .null, .int 0]))).2.2) (a + 1) 0 (fun _ => 0) (fun _ => 0)) a = some (.inr (3, [.null, .null, .null, .null, .int 0, .int 0, .int 0])) := by
      rw [sSet_o (by omega)]
      show hget (hnew h 3 _) a = _
      rw [hget_newn (by omega)]; exact H
    refine ⟨hset (sSet ((hnew h 3 (.inr (4, [.null, .null, .int 0]))).1 + 2, (hnew h 3 (.inr (4, [.null, .null, .int 0]))).2.1 + 16, (hnew h 3 (.inr (4, [.null, .null, .int 0]))).2.2) (a + 1) 0 (fun _ => 0) (fun _ => 0)) a (.inr (3, [.ref (a + 1), .null, .null, .null, .int 0, .int 0, .int 0])), ?_, ?_, ?_, fun q hq => ?_, hget_set _ _ _, ?_⟩
    · simp (disch := omega) only [s37_0, s37_1, s37_4, s37_5, s37_8, s37_9, s37_12, ha, gf0, gf1, gf2, gf3, gf4, gf5, gf6, gf7, gf8, gf9, gf10, gf11, gf12, gf13, gf14, pu0, pu1, pu2, pu3, pu4, pu5, pu6, pu7, pu8, pu9, pu10, pu11, pu12, pu13, pu14, rc_at, bK_some, Option.toList_some, Option.toList_none, List.cons_append, List.nil_append, N, X]
    · rw [hset_1]; show h.1 + 1 + 2 = a + 4; omega
    · rw [hset_2]; show h.2.1 + 3 + 16 = _; omega
    · rw [hget_ne (by omega), sSet_o (by omega)]
      show hget (hnew h 3 _) q = _
      rw [hget_newn (by omega)]
    · have := SP.set ((hnew h 3 (.inr (4, [.null, .null, .int 0]))).1 + 2, (hnew h 3 (.inr (4, [.null, .null, .int 0]))).2.1 + 16, (hnew h 3 (.inr (4, [.null, .null, .int 0]))).2.2) (a + 1) 0 (fun _ => 0) (fun _ => 0)
      exact ⟨by rw [hget_ne (by omega)]; exact this.1, by rw [hget_ne (by omega)]; exact this.2.1, by rw [hget_ne (by omega)]; exact this.2.2⟩
  obtain ⟨h1, e1, n1', m1, q1, o1, p1⟩ := s1
  have s2 : ∃ h2, run 37 15 [.ref a] [] h1 = run 37 26 [.ref a] [] h2 ∧ h2.1 = a + 7 ∧ h2.2.1 = h1.2.1 + 19 ∧ (∀ q, q < a → hget h2 q = hget h1 q) ∧ hget h2 a = some (.inr (3, [.ref (a + 1), .ref (a + 4), .null, .null, .int 0, .int 0, .int 0])) ∧ SP h2 (a + 1) 0 (fun _ => 0) (fun _ => 0) ∧ SP h2 (a + 4) 0 (fun _ => 0) (fun _ => 0) := by
    have N := c_newS (h := hnew h1 3 (.inr (4, [.null, .null, .int 0]))) (y := a + 4) (by rw [hnew_1, n1']) (by rw [← n1']; exact hget_new _ _ _)
    have X : ∀ q, q < a + 4 → hget (sSet ((hnew h1 3 (.inr (4, [.null, .null, .int 0]))).1 + 2, (hnew h1 3 (.inr (4, [.null, .null, .int 0]))).2.1 + 16, (hnew h1 3 (.inr (4, [.null, .null, .int 0]))).2.2) (a + 4) 0 (fun _ => 0) (fun _ => 0)) q = hget h1 q := by
      intro q hq
      rw [sSet_o (by omega)]
      show hget (hnew h1 3 _) q = _
      rw [hget_newn (by omega)]
    refine ⟨hset (sSet ((hnew h1 3 (.inr (4, [.null, .null, .int 0]))).1 + 2, (hnew h1 3 (.inr (4, [.null, .null, .int 0]))).2.1 + 16, (hnew h1 3 (.inr (4, [.null, .null, .int 0]))).2.2) (a + 4) 0 (fun _ => 0) (fun _ => 0)) a (.inr (3, [.ref (a + 1), .ref (a + 4), .null, .null, .int 0, .int 0, .int 0])), ?_, ?_, ?_, fun q hq => ?_, hget_set _ _ _, ?_, ?_⟩
    · simp (disch := omega) only [s37_15, s37_16, s37_19, s37_20, s37_23, n1', gf0, gf1, gf2, gf3, gf4, gf5, gf6, gf7, gf8, gf9, gf10, gf11, gf12, gf13, gf14, pu0, pu1, pu2, pu3, pu4, pu5, pu6, pu7, pu8, pu9, pu10, pu11, pu12, pu13, pu14, rc_at, bK_some, Option.toList_some, Option.toList_none, List.cons_append, List.nil_append, N, X a (by omega), o1]
    · rw [hset_1]; show h1.1 + 1 + 2 = a + 7; omega
    · rw [hset_2]; show h1.2.1 + 3 + 16 = _; omega
    · rw [hget_ne (by omega), X q (by omega)]
    · exact ⟨by rw [hget_ne (by omega), X _ (by omega)]; exact p1.1, by rw [hget_ne (by omega), X _ (by omega)]; exact p1.2.1, by rw [hget_ne (by omega), X _ (by omega)]; exact p1.2.2⟩
    · have := SP.set ((hnew h1 3 (.inr (4, [.null, .null, .int 0]))).1 + 2, (hnew h1 3 (.inr (4, [.null, .null, .int 0]))).2.1 + 16, (hnew h1 3 (.inr (4, [.null, .null, .int 0]))).2.2) (a + 4) 0 (fun _ => 0) (fun _ => 0)
      exact ⟨by rw [hget_ne (by omega)]; exact this.1, by rw [hget_ne (by omega)]; exact this.2.1, by rw [hget_ne (by omega)]; exact this.2.2⟩
  obtain ⟨h2, e2, n2, m2, q2, o2, p2, p3⟩ := s2
  have s3 : ∃ h3, run 37 26 [.ref a] [] h2 = some (none, h3) ∧ h3.1 = a + 9 ∧ h3.2.1 = h2.2.1 + 16 ∧ (∀ q, q < a + 7 → q ≠ a → hget h3 q = hget h2 q) ∧ hget h3 a = some (.inr (3, [.ref (a + 1), .ref (a + 4), .ref (a + 7), .ref (a + 8), .int (nI 0), .int (nI 0), .int (nI 0)])) ∧ hget h3 (a + 7) = some (r8 (fun _ => 0)) ∧ hget h3 (a + 8) = some (r8 (fun _ => 0)) := by
    simp (disch := first | omega | (simp only [hset_1, hnew_1, n2]; omega)) only [s37_26, s37_27, s37_29, s37_31, s37_34, s37_35, s37_37, s37_39, s37_42, s37_43, s37_44, s37_47, s37_48, s37_49, s37_52, s37_53, s37_54, s37_57, gf0, gf1, gf2, gf3, gf4, gf5, gf6, gf7, gf8, gf9, gf10, gf11, gf12, gf13, gf14, pu0, pu1, pu2, pu3, pu4, pu5, pu6, pu7, pu8, pu9, pu10, pu11, pu12, pu13, pu14, rc_at, bK_some, Option.toList_some, Option.toList_none, List.cons_append, List.nil_append, hget_set, hget_ne, hget_newn, hset_1, hnew_1, n2, o2, Nat.add_assoc, nf_0, pf36_0]
    refine ⟨_, rfl, ?_, ?_, ?_, ?_, ?_, ?_⟩
    · simp only [hset_1, hnew_1, n2]
    · simp only [hset_2, hnew_2, Nat.add_assoc]
    · intro q hq hqa
      simp (disch := first | omega | (simp only [hset_1, hnew_1, n2]; omega)) only [hget_ne, hget_newn]
    · rw [hget_set]
    all_goals
      simp (disch := first | omega | (simp only [hset_1, hnew_1, n2]; done) | (simp only [hset_1, hnew_1, n2]; omega)) only [hget_ne, hget_newn, hget_newa]
      rfl
  obtain ⟨h3, e3, n3, m3, q3, o3, p7, p8⟩ := s3
  refine ⟨h3, by rw [e1, e2, e3], n3, by omega, fun q hq => ?_, fun r hr => ?_⟩
  · rw [q3 q (by omega) (by omega), q2 q hq, q1 q hq]
  · have cs : r = 0 ∨ r = 1 ∨ r = 2 ∨ r = 3 ∨ r = 4 ∨ r = 5 ∨ r = 6 ∨ r = 7 ∨ r = 8 := by omega
    rcases cs with rfl | rfl | rfl | rfl | rfl | rfl | rfl | rfl | rfl
    · exact o3
    · rw [q3 _ (by omega) (by omega)]; exact p2.1
    · rw [q3 _ (by omega) (by omega)]; exact p2.2.1
    · rw [q3 _ (by omega) (by omega)]; exact p2.2.2
    · rw [q3 _ (by omega) (by omega)]; exact p3.1
    · rw [q3 _ (by omega) (by omega)]; exact p3.2.1
    · rw [q3 _ (by omega) (by omega)]; exact p3.2.2
    · exact p7
    · exact p8
theorem c_newL {h : aH} {a : Nat} (ha : h.1 = a + 1) (H : hget h a = some (.inr (1, [.int 0, .int 0, .int 0, .null, .int 0, .int 0, .int 0, .int 0, .int 0, .int 0]))) : ∃ h', run 7 0 [.ref a] [] h = some (none, h') ∧ h'.1 = a + 2 ∧ h'.2.1 = h.2.1 + 4 ∧ (∀ q, q < a → hget h' q = hget h q) ∧ hget h' a = some (cell 0 12 a (w10 0 0 0 0 NON 0 0 0 0)) ∧ hget h' (a + 1) = some (cell 0 13 (a + 1) (fun _ => 0)) := by
  have s1 : ∃ h1, run 7 0 [.ref a] [] h = run 7 26 [.ref a] [] h1 ∧ h1.1 = a + 2 ∧ h1.2.1 = h.2.1 + 4 ∧ (∀ q, q < a → hget h1 q = hget h q) ∧ hget h1 a = some (.inr (1, [.int (nI 0), .int (nI 0), .int (nI 0), .ref (a + 1), .int 0, .int 0, .int 0, .int 0, .int 0, .int 0])) ∧ hget h1 (a + 1) = some (rN 4 (fun _ => 0)) := by
    simp (disch := first | omega | (simp only [hset_1, hnew_1, ha]; omega)) only [s7_0, s7_1, s7_4, s7_5, s7_6, s7_9, s7_10, s7_11, s7_14, s7_15, s7_16, s7_19, s7_20, s7_21, s7_23, gf0, gf1, gf2, gf3, gf4, gf5, gf6, gf7, gf8, gf9, gf10, gf11, gf12, gf13, gf14, pu0, pu1, pu2, pu3, pu4, pu5, pu6, pu7, pu8, pu9, pu10, pu11, pu12, pu13, pu14, rc_at, bK_some, Option.toList_some, Option.toList_none, List.cons_append, List.nil_append, hget_set, hget_ne, hget_newn, hset_1, hnew_1, ha, H, Nat.add_assoc, nf_0]
    refine ⟨_, rfl, ?_, ?_, ?_, ?_, ?_⟩
    · simp only [hset_1, hnew_1, ha]
    · simp only [hset_2, hnew_2, Nat.add_assoc]
    · intro q hq
      simp (disch := first | omega | (simp only [hset_1, hnew_1, ha]; omega)) only [hget_ne, hget_newn]
    · rw [hget_set]
    · simp (disch := first | omega | (simp only [hset_1, hnew_1, ha]; done) | (simp only [hset_1, hnew_1, ha]; omega)) only [hget_ne, hget_newn, hget_newa]
      rfl
  obtain ⟨h1, e1, n1', m1, q1, o1, p1⟩ := s1
  have F := k_fill p1 (by decide) 0
  have z : cp8 4 (fun _ => 0) (fun _ => 0) = (fun _ => 0) := by funext j; unfold cp8; split <;> rfl
  rw [z, hset_same p1] at F
  refine ⟨hset h1 a (cell 0 12 a (w10 0 0 0 0 NON 0 0 0 0)), ?_, by rw [hset_1]; exact n1', by rw [hset_2]; exact m1, fun q hq => by rw [hget_ne (by omega)]; exact q1 q hq, hget_set _ _ _, by rw [hget_ne (by omega)]; exact p1⟩
  rw [e1]
  simp (disch := omega) only [s7_26, s7_27, s7_30, s8_0, s8_1, s8_4, s8_5, s8_8, s8_9, s8_10, s8_13, s8_14, s8_16, s8_19, s8_20, s8_21, s8_24, s8_25, s8_26, s8_29, s8_30, s8_31, s8_34, s8_35, s8_36, s8_39, gf0, gf1, gf2, gf3, gf4, gf5, gf6, gf7, gf8, gf9, gf10, gf11, gf12, gf13, gf14, pu0, pu1, pu2, pu3, pu4, pu5, pu6, pu7, pu8, pu9, pu10, pu11, pu12, pu13, pu14, rc_at, bK_some, Option.toList_some, Option.toList_none, List.cons_append, List.nil_append, hget_set, hset_set, o1, F, m4, pf19_0]
  rfl
end NE
