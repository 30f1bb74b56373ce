/-! the class: a new object -/
section CN
variable {h : aH} {x : Nat}
theorem c_newWays {a : Nat} (ha : h.1 = a + 1) (H : hget h a = some (.inr (5, [.null, .null, .null]))) : ∃ h', run 55 0 [.ref a] [] h = some (none, h') ∧ h'.1 = a + 4 ∧ h'.2.1 = h.2.1 + 40 ∧ (∀ q, q < a → hget h' q = hget h q) ∧ hget h' a = some (.inr (5, [.ref (a + 1), .ref (a + 2), .ref (a + 3)])) ∧ HW h' a (fun _ => 0) (fun _ => 0) (fun _ => 0) := by
  simp (disch := first | omega | (simp only [hset_1, hnew_1, ha]; omega)) only [s55_0, s55_1, s55_4, s55_5, s55_7, s55_9, s55_12, s55_13, s55_15, s55_17, s55_20, s55_21, s55_23, s55_25, s55_28, gf0, gf1, gf2, gf3, gf4, gf5, gf6, gf7, gf8, gf9, gf10, gf11, gf12, gf13, gf14, pu0, pu1, pu2, pu3, pu4, pu5, pu6, pu7, pu8, pu9, pu10, pu11, pu12, pu13, pu14, rc_at, bK_some, Option.toList_some, Option.toList_none, List.cons_append, List.nil_append, hget_set, hget_ne, hget_newn, hset_1, hnew_1, ha, H, Nat.add_assoc, nf_0]
  refine ⟨_, rfl, ?_, ?_, ?_, ?_, ?_, ?_, ?_⟩
  · simp only [hset_1, hnew_1, ha]
  · simp only [hset_2, hnew_2, Nat.add_assoc]
  · intro q hq
    simp (disch := first | omega | (simp only [hset_1, hnew_1, ha]; omega)) only [hget_ne, hget_newn]
  · rw [hget_set]
  all_goals
    simp (disch := first | omega | (simp only [hset_1, hnew_1, ha]; done) | (simp only [hset_1, hnew_1, ha]; omega)) only [hget_ne, hget_newn, hget_newa]
    rfl
theorem cn_a (hx : h.1 = x + 1) (H : hget h x = some (.inr (6, [.null, .null, .null, .null, .null, .int 0, .null]))) : ∃ h1, run 61 0 [.ref x] [] h = run 61 23 [.ref x] [] h1 ∧ h1.1 = x + 136 ∧ h1.2.1 = h.2.1 + 939 ∧ (∀ q, q < x → hget h1 q = hget h q) ∧ hget h1 x = some (.inr (6, [.ref (x + 1), .ref (x + 135), .null, .null, .null, .int 0, .null])) ∧ (∃ C, HN h1 (x + 1) C ∧ Pic gNew C) ∧ hget h1 (x + 135) = some (.inl (5, 2, .inr (fun _ => none))) := by
  obtain ⟨h', C, N, p, n1', m1, o1⟩ := c_newNet (h := hnew h 9 (.inr (2, [.int 0, .null, .int 0, .null, .int 0, .null, .long 0, .int 0, .int 0]))) (b := x + 1) (by rw [hnew_1, hx]) (by rw [← hx]; exact hget_new _ _ _)
  have gx : hget (NH h' (x + 1) C) x = some (.inr (6, [.null, .null, .null, .null, .null, .int 0, .null])) := by rw [NH_out (by omega), o1 x (by omega), hget_newn (by omega)]; exact H
  have g1 : (NH h' (x + 1) C).1 = x + 135 := n1'
  refine ⟨hset (hnew (hset (NH h' (x + 1) C) x (.inr (6, [.ref (x + 1), .null, .null, .null, .null, .int 0, .null]))) 2 (.inl (5, 2, .inr (fun _ => none)))) x (.inr (6, [.ref (x + 1), .ref (x + 135), .null, .null, .null, .int 0, .null])), ?_, ?_, ?_, fun q hq => ?_, hget_set _ _ _, ⟨C, ?_, p⟩, ?_⟩
  · simp (disch := first | omega | (simp only [hset_1, hnew_1, g1]; omega)) only [s61_0, s61_1, s61_4, s61_5, s61_8, s61_9, s61_12, s61_15, s61_16, s61_17, s61_20, gf0, gf1, gf2, gf3, gf4, gf5, gf6, gf7, gf8, gf9, gf10, gf11, gf12, gf13, gf14, pu0, pu1, pu2, pu3, pu4, pu5, pu6, pu7, pu8, pu9, pu10, pu11, pu12, pu13, pu14, rc_at, bK_some, Option.toList_some, Option.toList_none, List.cons_append, List.nil_append, hx, N, gx, hget_set, hset_1, g1, hget_newn]
  · rw [hset_1, hnew_1, hset_1, g1]
  · rw [hset_2, hnew_2, hset_2]
    show h'.2.1 + 2 = _
    rw [m1, hnew_2]
  · rw [hget_ne (by omega), hget_newn (by rw [hset_1, g1]; omega), hget_ne (by omega), NH_out (by omega), o1 q (by omega), hget_newn (by omega)]
  · refine (HN.of h' (x + 1) C).fr (fun q h1 h2 => ?_)
    rw [hget_ne (by omega), hget_newn (by rw [hset_1, g1]; omega), hget_ne (by omega)]
  · rw [hget_ne (by omega), hget_newa (by rw [hset_1, g1])]
theorem cn_b {h1 : aH} (n1' : h1.1 = x + 136) (o1 : hget h1 x = some (.inr (6, [.ref (x + 1), .ref (x + 135), .null, .null, .null, .int 0, .null]))) : ∃ h2, run 61 23 [.ref x] [] h1 = run 61 34 [.ref x] [] h2 ∧ h2.1 = x + 140 ∧ h2.2.1 = h1.2.1 + 43 ∧ (∀ q, q < x + 136 → q ≠ x → hget h2 q = hget h1 q) ∧ hget h2 x = some (.inr (6, [.ref (x + 1), .ref (x + 135), .ref (x + 136), .null, .null, .int 0, .null])) ∧ hget h2 (x + 136) = some (.inr (5, [.ref (x + 136 + 1), .ref (x + 136 + 2), .ref (x + 136 + 3)])) ∧ HW h2 (x + 136) (fun _ => 0) (fun _ => 0) (fun _ => 0) := by
  obtain ⟨h', N, n2, m2, q2, a0, w⟩ := c_newWays (h := hnew h1 3 (.inr (5, [.null, .null, .null]))) (a := x + 136) (by rw [hnew_1, n1']) (by rw [← n1']; exact hget_new _ _ _)
  have gx : hget h' x = some (.inr (6, [.ref (x + 1), .ref (x + 135), .null, .null, .null, .int 0, .null])) := by rw [q2 x (by omega), hget_newn (by omega)]; exact o1
  refine ⟨hset h' x (.inr (6, [.ref (x + 1), .ref (x + 135), .ref (x + 136), .null, .null, .int 0, .null])), ?_, n2, ?_, fun q hq hqx => ?_, hget_set _ _ _, by rw [hget_ne (by omega)]; exact a0, by rw [hget_ne (by omega)]; exact w.1, by rw [hget_ne (by omega)]; exact w.2.1, by rw [hget_ne (by omega)]; exact w.2.2⟩
  · simp (disch := omega) only [s61_23, s61_24, s61_27, s61_28, s61_31, gf0, gf1, gf2, gf3, gf4, gf5, gf6, gf7, gf8, gf9, gf10, gf11, gf12, gf13, gf14, pu0, pu1, pu2, pu3, pu4, pu5, pu6, pu7, pu8, pu9, pu10, pu11, pu12, pu13, pu14, rc_at, bK_some, Option.toList_some, Option.toList_none, List.cons_append, List.nil_append, n1', N, gx]
  · rw [hset_2, m2, hnew_2]
  · rw [hget_ne hqx, q2 q hq, hget_newn (by omega)]
theorem cn_c {h1 : aH} (n1' : h1.1 = x + 140) (o1 : hget h1 x = some (.inr (6, [.ref (x + 1), .ref (x + 135), .ref (x + 136), .null, .null, .int 0, .null]))) : ∃ h2, run 61 34 [.ref x] [] h1 = run 61 45 [.ref x] [] h2 ∧ h2.1 = x + 143 ∧ h2.2.1 = h1.2.1 + 19 ∧ (∀ q, q < x + 140 → q ≠ x → hget h2 q = hget h1 q) ∧ hget h2 x = some (.inr (6, [.ref (x + 1), .ref (x + 135), .ref (x + 136), .ref (x + 140), .null, .int 0, .null])) ∧ SP h2 (x + 140) 0 (fun _ => 0) (fun _ => 0) := by
  have N := c_newS (h := hnew h1 3 (.inr (4, [.null, .null, .int 0]))) (y := x + 140) (by rw [hnew_1, n1']) (by rw [← n1']; exact hget_new _ _ _)
  have X : ∀ q, q < x + 140 → hget (sSet ((hnew h1 3 (.inr (4, [.null, .null, .int 0]))).1 + 2, (hnew h1 3 (.inr (4, [.null, .null, .int 0]))).2.1 + 16, (hnew h1 3 (.inr (4, [.null, .null, .int 0]))).2.2) (x + 140) 0 (fun _ => 0) (fun _ => 0)) q = hget h1 q := by
    intro q hq
    rw [sSet_o (by omega)]
    show hget (hnew h1 3 _) q = _
    rw [hget_newn (by omega)]
  refine ⟨hset (sSet ((hnew h1 3 (.inr (4, [.null, .null, .int 0]))).1 + 2, (hnew h1 3 (.inr (4, [.null, .null, .int 0]))).2.1 + 16, (hnew h1 3 (.inr (4, [.null, .null, .int 0]))).2.2) (x + 140) 0 (fun _ => 0) (fun _ => 0)) x (.inr (6, [.ref (x + 1), .ref (x + 135), .ref (x + 136), .ref (x + 140), .null, .int 0, .null])), ?_, ?_, ?_, fun q hq hqx => ?_, hget_set _ _ _, ?_⟩
  · simp (disch := omega) only [s61_34, s61_35, s61_38, s61_39, s61_42, n1', gf0, gf1, gf2, gf3, gf4, gf5, gf6, gf7, gf8, gf9, gf10, gf11, gf12, gf13, gf14, pu0, pu1, pu2, pu3, pu4, pu5, pu6, pu7, pu8, pu9, pu10, pu11, pu12, pu13, pu14, rc_at, bK_some, Option.toList_some, Option.toList_none, List.cons_append, List.nil_append, N, X x (by omega), o1]
  · rw [hset_1]; show h1.1 + 1 + 2 = x + 143; omega
  · rw [hset_2]; show h1.2.1 + 3 + 16 = _; omega
  · rw [hget_ne hqx, X q hq]
  · have := SP.set ((hnew h1 3 (.inr (4, [.null, .null, .int 0]))).1 + 2, (hnew h1 3 (.inr (4, [.null, .null, .int 0]))).2.1 + 16, (hnew h1 3 (.inr (4, [.null, .null, .int 0]))).2.2) (x + 140) 0 (fun _ => 0) (fun _ => 0)
    exact ⟨by rw [hget_ne (by omega)]; exact this.1, by rw [hget_ne (by omega)]; exact this.2.1, by rw [hget_ne (by omega)]; exact this.2.2⟩
theorem c_newR {z : Nat} {h : aH} : run 0 0 [.ref z] [] h = some (none, h) := by
  simp only [s0_0, s0_1, s0_4]
theorem cn_d {h1 : aH} (n1' : h1.1 = x + 143) (o1 : hget h1 x = some (.inr (6, [.ref (x + 1), .ref (x + 135), .ref (x + 136), .ref (x + 140), .null, .int 0, .null]))) : ∃ h2, run 61 45 [.ref x] [] h1 = some (none, h2) ∧ h2.1 = x + 145 ∧ h2.2.1 = h1.2.1 + 108 ∧ (∀ q, q < x + 143 → q ≠ x → hget h2 q = hget h1 q) ∧ CH h2 x 0 ∧ hget h2 (x + 143) = some (tI (fun _ => 0)) ∧ hget h2 (x + 144) = some (eC 0 (0, 0, 0, 0, 0, 0, 0)) := by
  unfold CH
  simp (disch := first | omega | (simp only [hset_1, hnew_1, n1']; omega)) only [s61_45, s61_46, s61_48, s61_50, s61_53, s61_54, s61_55, s61_58, s61_59, s61_62, s61_63, s61_66, s61_69, gf0, gf1, gf2, gf3, gf4, gf5, gf6, gf7, gf8, gf9, gf10, gf11, gf12, gf13, gf14, pu0, pu1, pu2, pu3, pu4, pu5, pu6, pu7, pu8, pu9, pu10, pu11, pu12, pu13, pu14, rc_at, bK_some, Option.toList_some, Option.toList_none, List.cons_append, List.nil_append, hget_set, hget_ne, hget_newn, hset_1, hnew_1, n1', o1, Nat.add_assoc, nf_0, c_newR]
  refine ⟨_, rfl, ?_, ?_, ?_, ?_, ?_, ?_⟩
  · simp only [hset_1, hnew_1, n1']
  · simp only [hset_2, hnew_2, Nat.add_assoc]
  · intro q hq hqx
    simp (disch := first | omega | (simp only [hset_1, hnew_1, n1']; omega)) only [hget_ne, hget_newn]
  · rw [hget_set]
  all_goals
    simp (disch := first | omega | (simp only [hset_1, hnew_1, n1']; done) | (simp only [hset_1, hnew_1, n1']; omega)) only [hget_ne, hget_newn, hget_newa]
    rfl
theorem c_new (hx : h.1 = x + 1) (H : hget h x = some (.inr (6, [.null, .null, .null, .null, .null, .int 0, .null]))) : ∃ h', run 61 0 [.ref x] [] h = some (none, h') ∧ h'.1 = x + 145 ∧ h'.2.1 = h.2.1 + 1109 ∧ (∀ q, q < x → hget h' q = hget h q) ∧ CH h' x 0 ∧ (∃ C, HN h' (x + 1) C ∧ Pic gNew C) ∧ hget h' (x + 135) = some (.inl (5, 2, .inr (fun _ => none))) ∧ hget h' (x + 136) = some (.inr (5, [.ref (x + 136 + 1), .ref (x + 136 + 2), .ref (x + 136 + 3)])) ∧ HW h' (x + 136) (fun _ => 0) (fun _ => 0) (fun _ => 0) ∧ SP h' (x + 140) 0 (fun _ => 0) (fun _ => 0) ∧ hget h' (x + 143) = some (tI (fun _ => 0)) ∧ hget h' (x + 144) = some (eC 0 (0, 0, 0, 0, 0, 0, 0)) := by
  obtain ⟨h1, e1, n1', m1, q1, o1, ⟨C, c1, p1⟩, s1⟩ := cn_a hx H
  obtain ⟨h2, e2, n2, m2, q2, o2, s2, w2'⟩ := cn_b n1' o1
  obtain ⟨h3, e3, n3, m3, q3, o3, s3⟩ := cn_c n2 o2
  obtain ⟨h4, e4, n4, m4', q4, o4, s4, s5⟩ := cn_d n3 o3
  refine ⟨h4, by rw [e1, e2, e3, e4], n4, by omega, fun q hq => ?_, o4, ⟨C, c1.fr (fun q h1 h2 => ?_), p1⟩, ?_, ?_, ⟨?_, ?_, ?_⟩, ⟨?_, ?_, ?_⟩, s4, s5⟩
  · rw [q4 q (by omega) (by omega), q3 q (by omega) (by omega), q2 q (by omega) (by omega), q1 q hq]
  · rw [q4 q (by omega) (by omega), q3 q (by omega) (by omega), q2 q (by omega) (by omega)]
  · rw [q4 _ (by omega) (by omega), q3 _ (by omega) (by omega), q2 _ (by omega) (by omega)]; exact s1
  · rw [q4 _ (by omega) (by omega), q3 _ (by omega) (by omega)]; exact s2
  · rw [q4 _ (by omega) (by omega), q3 _ (by omega) (by omega)]; exact w2'.1
  · rw [q4 _ (by omega) (by omega), q3 _ (by omega) (by omega)]; exact w2'.2.1
  · rw [q4 _ (by omega) (by omega), q3 _ (by omega) (by omega)]; exact w2'.2.2
  · rw [q4 _ (by omega) (by omega)]; exact s3.1
  · rw [q4 _ (by omega) (by omega)]; exact s3.2.1
  · rw [q4 _ (by omega) (by omega)]; exact s3.2.2
end CN
