/-! the class: the reader of texts -/
/-- place, links, whether a link; first, second, loss, behaviour -/
abbrev eS : Type := Nat × Nat × Nat × Int32 × Int32 × Int32 × Int32
def eC (N : Nat) (s : eS) : aC := .inr (0, [.int (nI s.1), .int (nI N), .int (nI s.2.1), .int (nI s.2.2.1), .int s.2.2.2.1, .int s.2.2.2.2.1, .int s.2.2.2.2.2.1, .int s.2.2.2.2.2.2])
def dgI (c : Nat) : Int32 := if 48 ≤ c ∧ c ≤ 57 then nI (c - 48) else -1
def tk (N : Nat) (s : eS) (c : Nat) : Bool × eS := match s with
  | (pl, L, il, fi, se, lo, be) =>
    if pl = 0 then (if c = 98 then (true, (6, L, 0, fi, se, lo, be)) else if dgI c < 0 ∨ ¬ dgI c < nI N ∨ ¬ L < 20 then (false, (0, L, 1, dgI c, se, nI 0, be)) else (true, (1, L + 1, 1, dgI c, se, nI 0, be)))
    else if pl = 1 then (if c = 62 then (true, (2, L, il, fi, se, lo, be)) else (false, (1, L, il, fi, se, lo, be)))
    else if pl = 2 then (if fi < dgI c ∧ dgI c < nI N then (true, (3, L, il, fi, dgI c, lo, be)) else (false, (2, L, il, fi, dgI c, lo, be)))
    else if pl = 3 then (if c = 47 then (true, (4, L, il, fi, se, lo, be)) else if c = 59 then (true, (0, L, il, fi, se, lo, be)) else (false, (3, L, il, fi, se, lo, be)))
    else if pl = 4 then (if dgI c < 0 then (false, (4, L, il, fi, se, dgI c, be)) else (true, (5, L, il, fi, se, dgI c, be)))
    else if pl = 5 then (if c = 59 then (true, (0, L, il, fi, se, lo, be)) else (false, (5, L, il, fi, se, lo, be)))
    else if pl = 6 then (if 0 < dgI c ∧ dgI c < nI N then (true, (7, L, il, dgI c, se, lo, be)) else (false, (6, L, il, dgI c, se, lo, be)))
    else if pl = 7 then (if c = 61 then (true, (8, L, il, fi, se, lo, be)) else (false, (7, L, il, fi, se, lo, be)))
    else (if ¬ dgI c < 0 ∧ ¬ nI 4 < dgI c then (true, (5, L, il, fi, se, lo, dgI c)) else (false, (8, L, il, fi, se, lo, dgI c)))
theorem tk_pl {N : Nat} {s : eS} {c : Nat} (h : s.1 ≤ 8) : (tk N s c).2.1 ≤ 8 := by
  obtain ⟨pl, L, il, fi, se, lo, be⟩ := s
  unfold tk
  dsimp only
  repeat' split
  all_goals (dsimp only; omega)
section TK
variable {h : aH} {z N : Nat}
theorem c_digit {c : Nat} (hc : c < 2 ^ 31) : run 6 0 [.int (nI c)] [] h = some (some (.int (dgI c)), h) := by
  unfold dgI
  by_cases c1 : c < 48
  · simp (disch := omega) only [s6_0, s6_1, s6_3, s6_6, s6_7, s6_9, s6_12, s6_13, s6_15, s6_16, s6_19, s6_20, nI_lts, c1, if_true, show ¬ (48 ≤ c ∧ c ≤ 57) from by omega, if_false]
  · by_cases c2 : 57 < c
    · simp (disch := omega) only [s6_0, s6_1, s6_3, s6_6, s6_7, s6_9, s6_12, s6_13, s6_15, s6_16, s6_19, s6_20, nI_lts, c1, c2, if_true, show ¬ (48 ≤ c ∧ c ≤ 57) from by omega, if_false]
    · simp (disch := omega) only [s6_0, s6_1, s6_3, s6_6, s6_7, s6_9, s6_12, s6_13, s6_15, s6_16, s6_19, s6_20, nI_lts, c1, c2, if_true, show (48 ≤ c ∧ c ≤ 57) from by omega, if_false, nI_sub, and_self]
theorem c_goOn1 {s : eS} {q : Nat} : run 5 0 [.ref z, .int (nI 1), .int (nI q)] [] (hset h z (eC N s)) = some (some (.int (nI 1)), hset h z (eC N (q, s.2))) := by
  unfold eC
  simp only [s5_0, s5_1, s5_4, s5_5, s5_6, s5_9, s5_10, gf0, gf1, gf2, gf3, gf4, gf5, gf6, gf7, gf8, gf9, gf10, gf11, gf12, gf13, gf14, pu0, pu1, pu2, pu3, pu4, pu5, pu6, pu7, pu8, pu9, pu10, pu11, pu12, pu13, pu14, rc_at, bK_some, Option.toList_some, Option.toList_none, List.cons_append, List.nil_append, hget_set, hset_set, z1_0, if_false, z11, or_true, if_true]
theorem c_goOn0 {s : eS} {q : Nat} : run 5 0 [.ref z, .int (nI 0), .int (nI q)] [] (hset h z (eC N s)) = some (some (.int (nI 0)), hset h z (eC N s)) := by
  unfold eC
  simp only [s5_0, s5_1, s5_4, s5_5, s5_6, s5_9, s5_10, gf0, gf1, gf2, gf3, gf4, gf5, gf6, gf7, gf8, gf9, gf10, gf11, gf12, gf13, gf14, pu0, pu1, pu2, pu3, pu4, pu5, pu6, pu7, pu8, pu9, pu10, pu11, pu12, pu13, pu14, rc_at, bK_some, Option.toList_some, Option.toList_none, List.cons_append, List.nil_append, z0_0, if_true, true_or]
theorem c_go1 {pl L il q : Nat} {fi se lo be : Int32} : run 5 0 [.ref z, .int (nI 1), .int (nI q)] [] (hset h z (.inr (0, [.int (nI pl), .int (nI N), .int (nI L), .int (nI il), .int fi, .int se, .int lo, .int be]))) = some (some (.int (nI 1)), hset h z (.inr (0, [.int (nI q), .int (nI N), .int (nI L), .int (nI il), .int fi, .int se, .int lo, .int be]))) := c_goOn1 (s := (pl, L, il, fi, se, lo, be))
theorem c_go0 {pl L il q : Nat} {fi se lo be : Int32} : run 5 0 [.ref z, .int (nI 0), .int (nI q)] [] (hset h z (.inr (0, [.int (nI pl), .int (nI N), .int (nI L), .int (nI il), .int fi, .int se, .int lo, .int be]))) = some (some (.int (nI 0)), hset h z (.inr (0, [.int (nI pl), .int (nI N), .int (nI L), .int (nI il), .int fi, .int se, .int lo, .int be]))) := c_goOn0 (s := (pl, L, il, fi, se, lo, be))
theorem c_take1 {L il c : Nat} {fi se lo be : Int32} (hc : c < 2 ^ 31) : run 3 0 [.ref z, .int (nI c)] [] (hset h z (.inr (0, [.int (nI 1), .int (nI N), .int (nI L), .int (nI il), .int fi, .int se, .int lo, .int be]))) = some (some (.int (bI (tk N (1, L, il, fi, se, lo, be) c).1)), hset h z (eC N (tk N (1, L, il, fi, se, lo, be) c).2)) := by
  rw [show tk N (1, L, il, fi, se, lo, be) c = if c = 62 then (true, (2, L, il, fi, se, lo, be)) else (false, (1, L, il, fi, se, lo, be)) from rfl]
  by_cases c1 : c = 62
  · rw [if_pos c1]
    simp (disch := omega) only [s3_0, s3_1, s3_4_1, s3_62, s3_63, s3_64, s3_66, s3_69, s3_70, s3_73, s3_74, s3_75, s3_78, gf0, gf1, gf2, gf3, gf4, gf5, gf6, gf7, gf8, gf9, gf10, gf11, gf12, gf13, gf14, pu0, pu1, pu2, pu3, pu4, pu5, pu6, pu7, pu8, pu9, pu10, pu11, pu12, pu13, pu14, rc_at, bK_some, Option.toList_some, Option.toList_none, List.cons_append, List.nil_append, hget_set, hset_set, c_digit hc, c_go1, bI_t, z11, or_true, if_true, if_false, eC, nI_eqs, c1]
  · rw [if_neg c1]
    simp (disch := omega) only [s3_0, s3_1, s3_4_1, s3_62, s3_63, s3_64, s3_66, s3_69, s3_70, s3_73, s3_74, s3_75, s3_78, gf0, gf1, gf2, gf3, gf4, gf5, gf6, gf7, gf8, gf9, gf10, gf11, gf12, gf13, gf14, pu0, pu1, pu2, pu3, pu4, pu5, pu6, pu7, pu8, pu9, pu10, pu11, pu12, pu13, pu14, rc_at, bK_some, Option.toList_some, Option.toList_none, List.cons_append, List.nil_append, hget_set, hset_set, c_digit hc, c_go0, bI_f, z0_0, true_or, if_true, if_false, eC, nI_eqs, c1]
theorem c_take2 {L il c : Nat} {fi se lo be : Int32} (hc : c < 2 ^ 31) : run 3 0 [.ref z, .int (nI c)] [] (hset h z (.inr (0, [.int (nI 2), .int (nI N), .int (nI L), .int (nI il), .int fi, .int se, .int lo, .int be]))) = some (some (.int (bI (tk N (2, L, il, fi, se, lo, be) c).1)), hset h z (eC N (tk N (2, L, il, fi, se, lo, be) c).2)) := by
  rw [show tk N (2, L, il, fi, se, lo, be) c = if fi < dgI c ∧ dgI c < nI N then (true, (3, L, il, fi, dgI c, lo, be)) else (false, (2, L, il, fi, dgI c, lo, be)) from rfl]
  by_cases d1 : fi < dgI c
  · by_cases d2 : dgI c < nI N
    · rw [if_pos ⟨d1, d2⟩]
      simp (disch := omega) only [s3_0, s3_1, s3_4_2, s3_79, s3_80, s3_81, s3_84, s3_87, s3_88, s3_89, s3_92, s3_93, s3_96, s3_99, s3_100, s3_103, s3_104, s3_107, s3_110, s3_111, s3_114, s3_115, s3_116, s3_119, gf0, gf1, gf2, gf3, gf4, gf5, gf6, gf7, gf8, gf9, gf10, gf11, gf12, gf13, gf14, pu0, pu1, pu2, pu3, pu4, pu5, pu6, pu7, pu8, pu9, pu10, pu11, pu12, pu13, pu14, rc_at, bK_some, Option.toList_some, Option.toList_none, List.cons_append, List.nil_append, hget_set, hset_set, c_digit hc, c_go1, bI_t, z11, or_true, if_true, if_false, eC, d1, d2]
    · rw [if_neg (fun q => d2 q.2)]
      simp (disch := omega) only [s3_0, s3_1, s3_4_2, s3_79, s3_80, s3_81, s3_84, s3_87, s3_88, s3_89, s3_92, s3_93, s3_96, s3_99, s3_100, s3_103, s3_104, s3_107, s3_110, s3_111, s3_114, s3_115, s3_116, s3_119, gf0, gf1, gf2, gf3, gf4, gf5, gf6, gf7, gf8, gf9, gf10, gf11, gf12, gf13, gf14, pu0, pu1, pu2, pu3, pu4, pu5, pu6, pu7, pu8, pu9, pu10, pu11, pu12, pu13, pu14, rc_at, bK_some, Option.toList_some, Option.toList_none, List.cons_append, List.nil_append, hget_set, hset_set, c_digit hc, c_go0, bI_f, z0_0, true_or, if_true, if_false, eC, d1, d2]
  · rw [if_neg (fun q => d1 q.1)]
    simp (disch := omega) only [s3_0, s3_1, s3_4_2, s3_79, s3_80, s3_81, s3_84, s3_87, s3_88, s3_89, s3_92, s3_93, s3_96, s3_99, s3_100, s3_103, s3_104, s3_107, s3_110, s3_111, s3_114, s3_115, s3_116, s3_119, gf0, gf1, gf2, gf3, gf4, gf5, gf6, gf7, gf8, gf9, gf10, gf11, gf12, gf13, gf14, pu0, pu1, pu2, pu3, pu4, pu5, pu6, pu7, pu8, pu9, pu10, pu11, pu12, pu13, pu14, rc_at, bK_some, Option.toList_some, Option.toList_none, List.cons_append, List.nil_append, hget_set, hset_set, c_digit hc, c_go0, bI_f, z0_0, true_or, if_true, if_false, eC, d1]
theorem c_take3 {L il c : Nat} {fi se lo be : Int32} (hc : c < 2 ^ 31) : run 3 0 [.ref z, .int (nI c)] [] (hset h z (.inr (0, [.int (nI 3), .int (nI N), .int (nI L), .int (nI il), .int fi, .int se, .int lo, .int be]))) = some (some (.int (bI (tk N (3, L, il, fi, se, lo, be) c).1)), hset h z (eC N (tk N (3, L, il, fi, se, lo, be) c).2)) := by
  rw [show tk N (3, L, il, fi, se, lo, be) c = if c = 47 then (true, (4, L, il, fi, se, lo, be)) else if c = 59 then (true, (0, L, il, fi, se, lo, be)) else (false, (3, L, il, fi, se, lo, be)) from rfl]
  by_cases c1 : c = 47
  · rw [if_pos c1]
    simp (disch := omega) only [s3_0, s3_1, s3_4_3, s3_120, s3_121, s3_123, s3_126, s3_127, s3_128, s3_129, s3_132, s3_133, s3_134, s3_135, s3_137, s3_140, s3_141, s3_144, s3_145, s3_146, s3_149, gf0, gf1, gf2, gf3, gf4, gf5, gf6, gf7, gf8, gf9, gf10, gf11, gf12, gf13, gf14, pu0, pu1, pu2, pu3, pu4, pu5, pu6, pu7, pu8, pu9, pu10, pu11, pu12, pu13, pu14, rc_at, bK_some, Option.toList_some, Option.toList_none, List.cons_append, List.nil_append, hget_set, hset_set, c_digit hc, c_go1, bI_t, z11, or_true, if_true, if_false, eC, nI_eqs, c1]
  · rw [if_neg c1]
    by_cases c2 : c = 59
    · rw [if_pos c2]
      simp (disch := omega) only [s3_0, s3_1, s3_4_3, s3_120, s3_121, s3_123, s3_126, s3_127, s3_128, s3_129, s3_132, s3_133, s3_134, s3_135, s3_137, s3_140, s3_141, s3_144, s3_145, s3_146, s3_149, gf0, gf1, gf2, gf3, gf4, gf5, gf6, gf7, gf8, gf9, gf10, gf11, gf12, gf13, gf14, pu0, pu1, pu2, pu3, pu4, pu5, pu6, pu7, pu8, pu9, pu10, pu11, pu12, pu13, pu14, rc_at, bK_some, Option.toList_some, Option.toList_none, List.cons_append, List.nil_append, hget_set, hset_set, c_digit hc, c_go1, bI_t, z11, or_true, if_true, if_false, eC, nI_eqs, c1, c2, show ¬ (59 : Nat) = 47 from by decide]
    · rw [if_neg c2]
      simp (disch := omega) only [s3_0, s3_1, s3_4_3, s3_120, s3_121, s3_123, s3_126, s3_127, s3_128, s3_129, s3_132, s3_133, s3_134, s3_135, s3_137, s3_140, s3_141, s3_144, s3_145, s3_146, s3_149, gf0, gf1, gf2, gf3, gf4, gf5, gf6, gf7, gf8, gf9, gf10, gf11, gf12, gf13, gf14, pu0, pu1, pu2, pu3, pu4, pu5, pu6, pu7, pu8, pu9, pu10, pu11, pu12, pu13, pu14, rc_at, bK_some, Option.toList_some, Option.toList_none, List.cons_append, List.nil_append, hget_set, hset_set, c_digit hc, c_go0, bI_f, z0_0, true_or, if_true, if_false, eC, nI_eqs, c1, c2]
theorem c_take4 {L il c : Nat} {fi se lo be : Int32} (hc : c < 2 ^ 31) : run 3 0 [.ref z, .int (nI c)] [] (hset h z (.inr (0, [.int (nI 4), .int (nI N), .int (nI L), .int (nI il), .int fi, .int se, .int lo, .int be]))) = some (some (.int (bI (tk N (4, L, il, fi, se, lo, be) c).1)), hset h z (eC N (tk N (4, L, il, fi, se, lo, be) c).2)) := by
  rw [show tk N (4, L, il, fi, se, lo, be) c = if dgI c < 0 then (false, (4, L, il, fi, se, dgI c, be)) else (true, (5, L, il, fi, se, dgI c, be)) from rfl]
  by_cases d1 : dgI c < 0
  · rw [if_pos d1]
    simp (disch := omega) only [s3_0, s3_1, s3_4_4, s3_150, s3_151, s3_152, s3_155, s3_158, s3_159, s3_160, s3_163, s3_166, s3_167, s3_170, s3_171, s3_172, s3_175, gf0, gf1, gf2, gf3, gf4, gf5, gf6, gf7, gf8, gf9, gf10, gf11, gf12, gf13, gf14, pu0, pu1, pu2, pu3, pu4, pu5, pu6, pu7, pu8, pu9, pu10, pu11, pu12, pu13, pu14, rc_at, bK_some, Option.toList_some, Option.toList_none, List.cons_append, List.nil_append, hget_set, hset_set, c_digit hc, c_go0, bI_f, z0_0, true_or, if_true, if_false, eC, d1]
  · rw [if_neg d1]
    simp (disch := omega) only [s3_0, s3_1, s3_4_4, s3_150, s3_151, s3_152, s3_155, s3_158, s3_159, s3_160, s3_163, s3_166, s3_167, s3_170, s3_171, s3_172, s3_175, gf0, gf1, gf2, gf3, gf4, gf5, gf6, gf7, gf8, gf9, gf10, gf11, gf12, gf13, gf14, pu0, pu1, pu2, pu3, pu4, pu5, pu6, pu7, pu8, pu9, pu10, pu11, pu12, pu13, pu14, rc_at, bK_some, Option.toList_some, Option.toList_none, List.cons_append, List.nil_append, hget_set, hset_set, c_digit hc, c_go1, bI_t, z11, or_true, if_true, if_false, eC, d1]
theorem c_take5 {L il c : Nat} {fi se lo be : Int32} (hc : c < 2 ^ 31) : run 3 0 [.ref z, .int (nI c)] [] (hset h z (.inr (0, [.int (nI 5), .int (nI N), .int (nI L), .int (nI il), .int fi, .int se, .int lo, .int be]))) = some (some (.int (bI (tk N (5, L, il, fi, se, lo, be) c).1)), hset h z (eC N (tk N (5, L, il, fi, se, lo, be) c).2)) := by
  rw [show tk N (5, L, il, fi, se, lo, be) c = if c = 59 then (true, (0, L, il, fi, se, lo, be)) else (false, (5, L, il, fi, se, lo, be)) from rfl]
  by_cases c1 : c = 59
  · rw [if_pos c1]
    simp (disch := omega) only [s3_0, s3_1, s3_4_5, s3_176, s3_177, s3_178, s3_180, s3_183, s3_184, s3_187, s3_188, s3_189, s3_192, gf0, gf1, gf2, gf3, gf4, gf5, gf6, gf7, gf8, gf9, gf10, gf11, gf12, gf13, gf14, pu0, pu1, pu2, pu3, pu4, pu5, pu6, pu7, pu8, pu9, pu10, pu11, pu12, pu13, pu14, rc_at, bK_some, Option.toList_some, Option.toList_none, List.cons_append, List.nil_append, hget_set, hset_set, c_digit hc, c_go1, bI_t, z11, or_true, if_true, if_false, eC, nI_eqs, c1]
  · rw [if_neg c1]
    simp (disch := omega) only [s3_0, s3_1, s3_4_5, s3_176, s3_177, s3_178, s3_180, s3_183, s3_184, s3_187, s3_188, s3_189, s3_192, gf0, gf1, gf2, gf3, gf4, gf5, gf6, gf7, gf8, gf9, gf10, gf11, gf12, gf13, gf14, pu0, pu1, pu2, pu3, pu4, pu5, pu6, pu7, pu8, pu9, pu10, pu11, pu12, pu13, pu14, rc_at, bK_some, Option.toList_some, Option.toList_none, List.cons_append, List.nil_append, hget_set, hset_set, c_digit hc, c_go0, bI_f, z0_0, true_or, if_true, if_false, eC, nI_eqs, c1]
theorem c_take6 {L il c : Nat} {fi se lo be : Int32} (hc : c < 2 ^ 31) : run 3 0 [.ref z, .int (nI c)] [] (hset h z (.inr (0, [.int (nI 6), .int (nI N), .int (nI L), .int (nI il), .int fi, .int se, .int lo, .int be]))) = some (some (.int (bI (tk N (6, L, il, fi, se, lo, be) c).1)), hset h z (eC N (tk N (6, L, il, fi, se, lo, be) c).2)) := by
  rw [show tk N (6, L, il, fi, se, lo, be) c = if 0 < dgI c ∧ dgI c < nI N then (true, (7, L, il, dgI c, se, lo, be)) else (false, (6, L, il, dgI c, se, lo, be)) from rfl]
  by_cases d1 : 0 < dgI c
  · by_cases d2 : dgI c < nI N
    · rw [if_pos ⟨d1, d2⟩]
      simp (disch := omega) only [s3_0, s3_1, s3_4_6, s3_193, s3_194, s3_195, s3_198, s3_201, s3_202, s3_203, s3_206, s3_209, s3_210, s3_213, s3_214, s3_217, s3_220, s3_221, s3_224, s3_225, s3_227, s3_230, gf0, gf1, gf2, gf3, gf4, gf5, gf6, gf7, gf8, gf9, gf10, gf11, gf12, gf13, gf14, pu0, pu1, pu2, pu3, pu4, pu5, pu6, pu7, pu8, pu9, pu10, pu11, pu12, pu13, pu14, rc_at, bK_some, Option.toList_some, Option.toList_none, List.cons_append, List.nil_append, hget_set, hset_set, c_digit hc, c_go1, bI_t, z11, or_true, if_true, if_false, eC, d1, d2]
    · rw [if_neg (fun q => d2 q.2)]
      simp (disch := omega) only [s3_0, s3_1, s3_4_6, s3_193, s3_194, s3_195, s3_198, s3_201, s3_202, s3_203, s3_206, s3_209, s3_210, s3_213, s3_214, s3_217, s3_220, s3_221, s3_224, s3_225, s3_227, s3_230, gf0, gf1, gf2, gf3, gf4, gf5, gf6, gf7, gf8, gf9, gf10, gf11, gf12, gf13, gf14, pu0, pu1, pu2, pu3, pu4, pu5, pu6, pu7, pu8, pu9, pu10, pu11, pu12, pu13, pu14, rc_at, bK_some, Option.toList_some, Option.toList_none, List.cons_append, List.nil_append, hget_set, hset_set, c_digit hc, c_go0, bI_f, z0_0, true_or, if_true, if_false, eC, d1, d2]
  · rw [if_neg (fun q => d1 q.1)]
    simp (disch := omega) only [s3_0, s3_1, s3_4_6, s3_193, s3_194, s3_195, s3_198, s3_201, s3_202, s3_203, s3_206, s3_209, s3_210, s3_213, s3_214, s3_217, s3_220, s3_221, s3_224, s3_225, s3_227, s3_230, gf0, gf1, gf2, gf3, gf4, gf5, gf6, gf7, gf8, gf9, gf10, gf11, gf12, gf13, gf14, pu0, pu1, pu2, pu3, pu4, pu5, pu6, pu7, pu8, pu9, pu10, pu11, pu12, pu13, pu14, rc_at, bK_some, Option.toList_some, Option.toList_none, List.cons_append, List.nil_append, hget_set, hset_set, c_digit hc, c_go0, bI_f, z0_0, true_or, if_true, if_false, eC, d1]
theorem c_take7 {L il c : Nat} {fi se lo be : Int32} (hc : c < 2 ^ 31) : run 3 0 [.ref z, .int (nI c)] [] (hset h z (.inr (0, [.int (nI 7), .int (nI N), .int (nI L), .int (nI il), .int fi, .int se, .int lo, .int be]))) = some (some (.int (bI (tk N (7, L, il, fi, se, lo, be) c).1)), hset h z (eC N (tk N (7, L, il, fi, se, lo, be) c).2)) := by
  rw [show tk N (7, L, il, fi, se, lo, be) c = if c = 61 then (true, (8, L, il, fi, se, lo, be)) else (false, (7, L, il, fi, se, lo, be)) from rfl]
  by_cases c1 : c = 61
  · rw [if_pos c1]
    simp (disch := omega) only [s3_0, s3_1, s3_4_7, s3_231, s3_232, s3_233, s3_235, s3_238, s3_239, s3_242, s3_243, s3_245, s3_248, gf0, gf1, gf2, gf3, gf4, gf5, gf6, gf7, gf8, gf9, gf10, gf11, gf12, gf13, gf14, pu0, pu1, pu2, pu3, pu4, pu5, pu6, pu7, pu8, pu9, pu10, pu11, pu12, pu13, pu14, rc_at, bK_some, Option.toList_some, Option.toList_none, List.cons_append, List.nil_append, hget_set, hset_set, c_digit hc, c_go1, bI_t, z11, or_true, if_true, if_false, eC, nI_eqs, c1]
  · rw [if_neg c1]
    simp (disch := omega) only [s3_0, s3_1, s3_4_7, s3_231, s3_232, s3_233, s3_235, s3_238, s3_239, s3_242, s3_243, s3_245, s3_248, gf0, gf1, gf2, gf3, gf4, gf5, gf6, gf7, gf8, gf9, gf10, gf11, gf12, gf13, gf14, pu0, pu1, pu2, pu3, pu4, pu5, pu6, pu7, pu8, pu9, pu10, pu11, pu12, pu13, pu14, rc_at, bK_some, Option.toList_some, Option.toList_none, List.cons_append, List.nil_append, hget_set, hset_set, c_digit hc, c_go0, bI_f, z0_0, true_or, if_true, if_false, eC, nI_eqs, c1]
theorem c_take8 {L il c : Nat} {fi se lo be : Int32} (hc : c < 2 ^ 31) : run 3 0 [.ref z, .int (nI c)] [] (hset h z (.inr (0, [.int (nI 8), .int (nI N), .int (nI L), .int (nI il), .int fi, .int se, .int lo, .int be]))) = some (some (.int (bI (tk N (8, L, il, fi, se, lo, be) c).1)), hset h z (eC N (tk N (8, L, il, fi, se, lo, be) c).2)) := by
  rw [show tk N (8, L, il, fi, se, lo, be) c = if ¬ dgI c < 0 ∧ ¬ nI 4 < dgI c then (true, (5, L, il, fi, se, lo, dgI c)) else (false, (8, L, il, fi, se, lo, dgI c)) from rfl]
  by_cases d1 : dgI c < 0
  · rw [if_neg (fun q => q.1 d1)]
    simp (disch := omega) only [s3_0, s3_1, s3_4_8, s3_249, s3_250, s3_251, s3_254, s3_257, s3_258, s3_259, s3_262, s3_265, s3_266, s3_269, s3_270, s3_273, s3_274, s3_277, s3_278, s3_279, s3_282, gf0, gf1, gf2, gf3, gf4, gf5, gf6, gf7, gf8, gf9, gf10, gf11, gf12, gf13, gf14, pu0, pu1, pu2, pu3, pu4, pu5, pu6, pu7, pu8, pu9, pu10, pu11, pu12, pu13, pu14, rc_at, bK_some, Option.toList_some, Option.toList_none, List.cons_append, List.nil_append, hget_set, hset_set, c_digit hc, c_go0, bI_f, z0_0, true_or, if_true, if_false, eC, d1]
  · by_cases d2 : nI 4 < dgI c
    · rw [if_neg (fun q => q.2 d2)]
      simp (disch := omega) only [s3_0, s3_1, s3_4_8, s3_249, s3_250, s3_251, s3_254, s3_257, s3_258, s3_259, s3_262, s3_265, s3_266, s3_269, s3_270, s3_273, s3_274, s3_277, s3_278, s3_279, s3_282, gf0, gf1, gf2, gf3, gf4, gf5, gf6, gf7, gf8, gf9, gf10, gf11, gf12, gf13, gf14, pu0, pu1, pu2, pu3, pu4, pu5, pu6, pu7, pu8, pu9, pu10, pu11, pu12, pu13, pu14, rc_at, bK_some, Option.toList_some, Option.toList_none, List.cons_append, List.nil_append, hget_set, hset_set, c_digit hc, c_go0, bI_f, z0_0, true_or, if_true, if_false, eC, d1, d2]
    · rw [if_pos ⟨d1, d2⟩]
      simp (disch := omega) only [s3_0, s3_1, s3_4_8, s3_249, s3_250, s3_251, s3_254, s3_257, s3_258, s3_259, s3_262, s3_265, s3_266, s3_269, s3_270, s3_273, s3_274, s3_277, s3_278, s3_279, s3_282, gf0, gf1, gf2, gf3, gf4, gf5, gf6, gf7, gf8, gf9, gf10, gf11, gf12, gf13, gf14, pu0, pu1, pu2, pu3, pu4, pu5, pu6, pu7, pu8, pu9, pu10, pu11, pu12, pu13, pu14, rc_at, bK_some, Option.toList_some, Option.toList_none, List.cons_append, List.nil_append, hget_set, hset_set, c_digit hc, c_go1, bI_t, z11, or_true, if_true, if_false, eC, d1, d2]
theorem c_take0 {L il c : Nat} {fi se lo be : Int32} (hc : c < 2 ^ 31) (hL : L < 2 ^ 31) : run 3 0 [.ref z, .int (nI c)] [] (hset h z (.inr (0, [.int (nI 0), .int (nI N), .int (nI L), .int (nI il), .int fi, .int se, .int lo, .int be]))) = some (some (.int (bI (tk N (0, L, il, fi, se, lo, be) c).1)), hset h z (eC N (tk N (0, L, il, fi, se, lo, be) c).2)) := by
  rw [show tk N (0, L, il, fi, se, lo, be) c = if c = 98 then (true, (6, L, 0, fi, se, lo, be)) else if dgI c < 0 ∨ ¬ dgI c < nI N ∨ ¬ L < 20 then (false, (0, L, 1, dgI c, se, nI 0, be)) else (true, (1, L + 1, 1, dgI c, se, nI 0, be)) from rfl]
  by_cases c1 : c = 98
  · rw [if_pos c1]
    simp (disch := omega) only [s3_0, s3_1, s3_4_0, s3_56, s3_57, s3_58, s3_61, s4_0, s4_1, s4_2, s4_4, s4_7, s4_8, s4_11, s4_12, s4_15, s4_16, s4_19, s4_22, s4_23, s4_24, s4_26, s4_29, s4_30, s4_31, s4_32, s4_35, s4_38, s4_39, s4_40, s4_43, s4_44, s4_47, s4_50, s4_51, s4_54, s4_55, s4_58, s4_61, s4_62, s4_65, s4_67, s4_70, s4_71, s4_72, s4_73, s4_74, s4_77, s4_78, s4_79, s4_82, s4_83, s4_84, s4_85, s4_88, gf0, gf1, gf2, gf3, gf4, gf5, gf6, gf7, gf8, gf9, gf10, gf11, gf12, gf13, gf14, pu0, pu1, pu2, pu3, pu4, pu5, pu6, pu7, pu8, pu9, pu10, pu11, pu12, pu13, pu14, rc_at, bK_some, Option.toList_some, Option.toList_none, List.cons_append, List.nil_append, hget_set, hset_set, c_go1, bI_t, z0_0, z11, or_true, if_true, eC, nI_eqs, c1, pf03_0]
  · rw [if_neg c1]
    by_cases d1 : dgI c < 0
    · rw [if_pos (Or.inl d1)]
      simp (disch := omega) only [s3_0, s3_1, s3_4_0, s3_56, s3_57, s3_58, s3_61, s4_0, s4_1, s4_2, s4_4, s4_7, s4_8, s4_11, s4_12, s4_15, s4_16, s4_19, s4_22, s4_23, s4_24, s4_26, s4_29, s4_30, s4_31, s4_32, s4_35, s4_38, s4_39, s4_40, s4_43, s4_44, s4_47, s4_50, s4_51, s4_54, s4_55, s4_58, s4_61, s4_62, s4_65, s4_67, s4_70, s4_71, s4_72, s4_73, s4_74, s4_77, s4_78, s4_79, s4_82, s4_83, s4_84, s4_85, s4_88, gf0, gf1, gf2, gf3, gf4, gf5, gf6, gf7, gf8, gf9, gf10, gf11, gf12, gf13, gf14, pu0, pu1, pu2, pu3, pu4, pu5, pu6, pu7, pu8, pu9, pu10, pu11, pu12, pu13, pu14, rc_at, bK_some, Option.toList_some, Option.toList_none, List.cons_append, List.nil_append, hget_set, hset_set, c_digit hc, bI_f, z1_0, z0_0, true_or, if_true, if_false, eC, nI_eqs, nI_lts, c1, pf03_1, d1]
    · by_cases d2 : dgI c < nI N
      · by_cases d3 : L < 20
        · rw [if_neg (fun q => by rcases q with q | q | q; exact d1 q; exact q d2; exact q d3)]
          simp (disch := omega) only [s3_0, s3_1, s3_4_0, s3_56, s3_57, s3_58, s3_61, s4_0, s4_1, s4_2, s4_4, s4_7, s4_8, s4_11, s4_12, s4_15, s4_16, s4_19, s4_22, s4_23, s4_24, s4_26, s4_29, s4_30, s4_31, s4_32, s4_35, s4_38, s4_39, s4_40, s4_43, s4_44, s4_47, s4_50, s4_51, s4_54, s4_55, s4_58, s4_61, s4_62, s4_65, s4_67, s4_70, s4_71, s4_72, s4_73, s4_74, s4_77, s4_78, s4_79, s4_82, s4_83, s4_84, s4_85, s4_88, gf0, gf1, gf2, gf3, gf4, gf5, gf6, gf7, gf8, gf9, gf10, gf11, gf12, gf13, gf14, pu0, pu1, pu2, pu3, pu4, pu5, pu6, pu7, pu8, pu9, pu10, pu11, pu12, pu13, pu14, rc_at, bK_some, Option.toList_some, Option.toList_none, List.cons_append, List.nil_append, hget_set, hset_set, c_digit hc, c_go1, bI_t, z1_0, z11, or_true, if_true, if_false, eC, nI_eqs, nI_lts, nI_adds, c1, pf03_1, d1, d2, d3]
        · rw [if_pos (Or.inr (Or.inr d3))]
          simp (disch := omega) only [s3_0, s3_1, s3_4_0, s3_56, s3_57, s3_58, s3_61, s4_0, s4_1, s4_2, s4_4, s4_7, s4_8, s4_11, s4_12, s4_15, s4_16, s4_19, s4_22, s4_23, s4_24, s4_26, s4_29, s4_30, s4_31, s4_32, s4_35, s4_38, s4_39, s4_40, s4_43, s4_44, s4_47, s4_50, s4_51, s4_54, s4_55, s4_58, s4_61, s4_62, s4_65, s4_67, s4_70, s4_71, s4_72, s4_73, s4_74, s4_77, s4_78, s4_79, s4_82, s4_83, s4_84, s4_85, s4_88, gf0, gf1, gf2, gf3, gf4, gf5, gf6, gf7, gf8, gf9, gf10, gf11, gf12, gf13, gf14, pu0, pu1, pu2, pu3, pu4, pu5, pu6, pu7, pu8, pu9, pu10, pu11, pu12, pu13, pu14, rc_at, bK_some, Option.toList_some, Option.toList_none, List.cons_append, List.nil_append, hget_set, hset_set, c_digit hc, bI_f, z1_0, z0_0, true_or, if_true, if_false, eC, nI_eqs, nI_lts, c1, pf03_1, d1, d2, d3]
      · rw [if_pos (Or.inr (Or.inl d2))]
        simp (disch := omega) only [s3_0, s3_1, s3_4_0, s3_56, s3_57, s3_58, s3_61, s4_0, s4_1, s4_2, s4_4, s4_7, s4_8, s4_11, s4_12, s4_15, s4_16, s4_19, s4_22, s4_23, s4_24, s4_26, s4_29, s4_30, s4_31, s4_32, s4_35, s4_38, s4_39, s4_40, s4_43, s4_44, s4_47, s4_50, s4_51, s4_54, s4_55, s4_58, s4_61, s4_62, s4_65, s4_67, s4_70, s4_71, s4_72, s4_73, s4_74, s4_77, s4_78, s4_79, s4_82, s4_83, s4_84, s4_85, s4_88, gf0, gf1, gf2, gf3, gf4, gf5, gf6, gf7, gf8, gf9, gf10, gf11, gf12, gf13, gf14, pu0, pu1, pu2, pu3, pu4, pu5, pu6, pu7, pu8, pu9, pu10, pu11, pu12, pu13, pu14, rc_at, bK_some, Option.toList_some, Option.toList_none, List.cons_append, List.nil_append, hget_set, hset_set, c_digit hc, bI_f, z1_0, z0_0, true_or, if_true, if_false, eC, nI_eqs, nI_lts, c1, pf03_1, d1, d2]
theorem c_take {s : eS} {c : Nat} (hc : c < 2 ^ 31) (hp : s.1 ≤ 8) (hL : s.2.1 < 2 ^ 31) : run 3 0 [.ref z, .int (nI c)] [] (hset h z (eC N s)) = some (some (.int (bI (tk N s c).1)), hset h z (eC N (tk N s c).2)) := by
  obtain ⟨pl, L, il, fi, se, lo, be⟩ := s
  dsimp only at hp hL
  have cs : pl = 0 ∨ pl = 1 ∨ pl = 2 ∨ pl = 3 ∨ pl = 4 ∨ pl = 5 ∨ pl = 6 ∨ pl = 7 ∨ pl = 8 := by omega
  rcases cs with rfl | rfl | rfl | rfl | rfl | rfl | rfl | rfl | rfl
  · exact c_take0 hc hL
  · exact c_take1 hc
  · exact c_take2 hc
  · exact c_take3 hc
  · exact c_take4 hc
  · exact c_take5 hc
  · exact c_take6 hc
  · exact c_take7 hc
  · exact c_take8 hc
end TK
