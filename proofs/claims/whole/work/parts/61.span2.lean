/-! the class: spans cleared, copied, joined, made -/
def rN (n : Nat) (G : Nat → Nat) : aC := .inl (0, n, .inl (nf G))
theorem r8_N (G : Nat → Nat) : r8 G = rN 8 G := rfl
theorem al_N {n : Nat} {G : Nat → Nat} {i : Nat} {α : Type} {K : Int32 → Option α} (hi : i < n) (hn : n < 2 ^ 31) : alK (nI i) (some (rN n G)) (fun t => t == 0 || t == 9) K = K (nI (G i)) := by
  unfold rN; rw [al_I hi hn]; rfl
theorem as_N {n : Nat} {G : Nat → Nat} {i v : Nat} {α : Type} {K : aC → Option α} (hi : i < n) (hn : n < 2 ^ 31) : asK (nI i) (some (rN n G)) 0 (nI v) K = K (rN n (up G i v)) := by
  unfold rN; rw [as_I hi hn, upd_nf]
theorem len_N {n : Nat} {G : Nat → Nat} {α : Type} {K : Nat → Option α} : lenK (some (rN n G)) K = K n := rfl
theorem cc_N {n : Nat} {G F : Nat → Nat} {α : Type} {K : aC → Option α} (hn : n < 2 ^ 31) : ccK (nI 0) (nI 0) (nI n) (some (rN n G)) (some (rN n F)) K = K (rN n (cp8 n G F)) := by
  unfold rN
  rw [cc_all hn]
  congr 5
  funext j
  unfold nf cp8
  split <;> rfl
theorem cp8_fold (G F : Nat → Nat) (n : Nat) : foldN (fun i F => up F i (G i)) n F = cp8 n G F := by
  induction n with
  | zero => funext j; simp [foldN, cp8]
  | succ n ih =>
    funext j
    simp only [foldN, ih]
    by_cases c : j = n
    · subst c; rw [up_same]; unfold cp8; rw [if_pos (by omega)]
    · rw [up_ne c]
      unfold cp8
      by_cases c2 : j < n
      · rw [if_pos c2, if_pos (by omega)]
      · rw [if_neg c2, if_neg (by omega)]
theorem k_fill {h : aH} {y n : Nat} {G : Nat → Nat} (H : hget h y = some (rN n G)) (hn : n < 2 ^ 31) (v : Nat) : run 187 0 [.ref y, .int (nI v), .null, .null] [] h = some (none, hset h y (rN n (cp8 n (fun _ => v) G))) := by
  have L := loop_up (fun i (G : Nat → Nat) => run 187 5 [.ref y, .int (nI v), .int (nI i), .int (nI n)] [] (hset h y (rN n G))) (fun i G => up G i v) n (by
    intro i G hi
    rw [s187_5]
    simp (disch := omega) only [s187_6, s187_7, s187_10, s187_11, s187_12, s187_13, s187_14, s187_17, gf0, gf1, gf2, gf3, gf4, gf5, gf6, gf7, gf8, gf9, gf10, gf11, gf12, gf13, gf14, pu0, pu1, pu2, pu3, pu4, pu5, pu6, pu7, pu8, pu9, pu10, pu11, pu12, pu13, pu14, rc_at, bK_some, Option.toList_some, Option.toList_none, List.cons_append, List.nil_append, hget_set, hset_set, nI_lts, hi, if_true, as_N, nI_adds]) G
  try dsimp only at L
  rw [hset_same H, cp8_fold (fun _ => v)] at L
  simp (disch := omega) only [s187_0, s187_1, s187_2, s187_3, s187_4, gf0, gf1, gf2, gf3, gf4, gf5, gf6, gf7, gf8, gf9, gf10, gf11, gf12, gf13, gf14, pu0, pu1, pu2, pu3, pu4, pu5, pu6, pu7, pu8, pu9, pu10, pu11, pu12, pu13, pu14, rc_at, bK_some, Option.toList_some, Option.toList_none, List.cons_append, List.nil_append, H, len_N]
  rw [L, s187_5]
  simp (disch := omega) only [s187_6, s187_7, s187_20, nI_lts, Nat.lt_irrefl, if_false]
section SP2
variable {h : aH} {y s : Nat} {L P : Nat → Nat}
theorem c_clear (H : SP h y s L P) : run 49 0 [.ref y] [] h = some (none, sSet h y 0 (cp8 8 (fun _ => 0) L) (cp8 8 (fun _ => 0) P)) := by
  obtain ⟨H0, H1, H2⟩ := H
  unfold spO at H0
  rw [r8_N] at H1 H2
  have F1 := k_fill H1 (by decide) 0
  have F2 := k_fill (h := hset h (y + 1) (rN 8 (cp8 8 (fun _ => 0) L))) (y := y + 2) (G := P) (n := 8) (by rw [hget_ne (by omega)]; exact H2) (by decide) 0
  simp (disch := omega) only [s49_0, s49_1, s49_4, s49_5, s49_8, s49_9, s49_12, s49_13, s49_16, s49_17, s49_18, s49_21, gf0, gf1, gf2, gf3, gf4, gf5, gf6, gf7, gf8, gf9, gf10, gf11, gf12, gf13, gf14, pu0, pu1, pu2, pu3, pu4, pu5, pu6, pu7, pu8, pu9, pu10, pu11, pu12, pu13, pu14, rc_at, bK_some, Option.toList_some, Option.toList_none, List.cons_append, List.nil_append, H0, hget_ne, F1, F2]
  unfold sSet spO
  rw [hset_comm (a := y + 2) (b := y) (by omega), hset_comm (a := y + 1) (b := y) (by omega)]
  rfl
theorem c_copyS {z s' : Nat} {L' P' : Nat → Nat} (H : SP h y s L P) (Z : SP h z s' L' P') (hd : y + 2 < z ∨ z + 2 < y) : run 50 0 [.ref y, .ref z] [] h = some (none, sSet h y s' (cp8 8 L' L) (cp8 8 P' P)) := by
  obtain ⟨H0, H1, H2⟩ := H
  obtain ⟨Z0, Z1, Z2⟩ := Z
  unfold spO at H0 Z0
  simp (disch := omega) only [s50_0, s50_1, s50_4, s50_5, s50_6, s50_9, s50_10, s50_12, s50_15, s50_16, s50_19, s50_20, s50_21, s50_24, s50_25, s50_27, s50_30, s50_31, s50_32, s50_35, s50_38, gf0, gf1, gf2, gf3, gf4, gf5, gf6, gf7, gf8, gf9, gf10, gf11, gf12, gf13, gf14, pu0, pu1, pu2, pu3, pu4, pu5, pu6, pu7, pu8, pu9, pu10, pu11, pu12, pu13, pu14, rc_at, bK_some, Option.toList_some, Option.toList_none, List.cons_append, List.nil_append, H0, H1, H2, Z0, Z1, Z2, hget_ne, cc_8]
  unfold sSet spO
  rw [hset_comm (a := y + 2) (b := y) (by omega), hset_comm (a := y + 1) (b := y) (by omega)]
theorem SP.set (h : aH) (y s : Nat) (L P : Nat → Nat) : SP (sSet h y s L P) y s L P := by
  unfold sSet
  refine ⟨?_, ?_, ?_⟩
  · rw [hget_ne (by omega), hget_ne (by omega), hget_set]
  · rw [hget_ne (by omega), hget_set]
  · rw [hget_set]
theorem sSet_o {q : Nat} (h1 : q < y ∨ y + 2 < q) : hget (sSet h y s L P) q = hget h q := by
  unfold sSet
  rw [hget_ne (by omega), hget_ne (by omega), hget_ne (by omega)]
theorem sSet_sSet {s' : Nat} {L' P' : Nat → Nat} : sSet (sSet h y s L P) y s' L' P' = sSet h y s' L' P' := by
  unfold sSet
  rw [hset_comm (a := y + 2) (b := y) (by omega), hset_comm (a := y + 1) (b := y) (by omega), hset_set, hset_comm (a := y + 2) (b := y + 1) (by omega), hset_set, hset_set]
/-- a span joined with the leads of another -/
def adA (L' : Nat → Nat) : Nat → Nat × (Nat → Nat) × (Nat → Nat) → Nat × (Nat → Nat) × (Nat → Nat)
  | 0, t => t
  | n + 1, t => let t := adA L' n t; adS t.1 t.2.1 t.2.2 (L' n)
theorem aH_ext {a b : aH} (h1 : a.1 = b.1) (h2 : a.2.1 = b.2.1) (h3 : a.2.2 = b.2.2) : a = b := by
  obtain ⟨a1, a2, a3⟩ := a
  obtain ⟨b1, b2, b3⟩ := b
  dsimp only at h1 h2 h3
  rw [h1, h2, h3]
/-- a span new -/
theorem c_newS {h : aH} {y : Nat} (hy : h.1 = y + 1) (H : hget h y = some (.inr (4, [.null, .null, .int 0]))) : run 48 0 [.ref y] [] h = some (none, sSet (h.1 + 2, h.2.1 + 16, h.2.2) y 0 (fun _ => 0) (fun _ => 0)) := by
  simp (disch := first | omega | (simp only [hset_1, hnew_1, hy]; omega)) only [s48_0, s48_1, s48_4, s48_5, s48_7, s48_9, s48_12, s48_13, s48_15, s48_17, s48_20, s48_21, s48_22, s48_25, gf0, gf1, gf2, gf3, gf4, gf5, gf6, gf7, gf8, gf9, gf10, gf11, gf12, gf13, gf14, pu0, pu1, pu2, pu3, pu4, pu5, pu6, pu7, pu8, pu9, pu10, pu11, pu12, pu13, pu14, rc_at, bK_some, Option.toList_some, Option.toList_none, List.cons_append, List.nil_append, hget_set, hget_ne, hget_newn, hset_1, hnew_1, hy, H, Nat.add_assoc, nf_0]
  refine congrArg (fun H => some (none, H)) (aH_ext ?_ ?_ ?_)
  · simp only [sSet, hset_1, hnew_1]; omega
  · simp only [sSet, hset_2, hnew_2, Nat.add_assoc]
  · funext q
    unfold sSet hset hnew spO r8
    simp only [hy]
    by_cases c0 : q = y
    · subst c0; simp [n0]
    · by_cases c1 : q = y + 1
      · subst c1; simp
      · by_cases c2 : q = y + 2
        · subst c2; simp
        · simp [c0, c1, c2]
end SP2
