/-! a generation begins; odd vectors; relays -/
def kc : Nat → Nat → Nat
  | 0, _ => 0
  | n + 1, c => if c = 0 then 0 else 1 + kc n (c &&& (c - 1))
def pcn (c : Nat) : Nat := kc c c
def oddN (a b : Nat) : Bool := decide (pcn (a &&& b) % 2 = 1)
theorem and_pred_lt {c : Nat} (h : c ≠ 0) : c &&& (c - 1) < c := by
  have : c &&& (c - 1) ≤ c - 1 := Nat.and_le_right
  omega
theorem kc_fuel : ∀ c n, c ≤ n → kc n c = kc c c := by
  intro c
  induction c using Nat.strongRecOn with
  | ind c ih =>
    intro n hn
    by_cases h0 : c = 0
    · subst h0
      cases n <;> simp [kc]
    · obtain ⟨n', rfl⟩ : ∃ n', n = n' + 1 := ⟨n - 1, by omega⟩
      obtain ⟨c', rfl⟩ : ∃ c', c = c' + 1 := ⟨c - 1, by omega⟩
      have hl := and_pred_lt h0
      show (if c' + 1 = 0 then 0 else 1 + kc n' _) = (if c' + 1 = 0 then 0 else 1 + kc c' _)
      rw [if_neg h0, if_neg h0, ih _ hl n' (by omega), ih _ hl c' (by omega)]
theorem pcn_step {c : Nat} (h0 : c ≠ 0) : pcn c = 1 + pcn (c &&& (c - 1)) := by
  obtain ⟨c', rfl⟩ : ∃ c', c = c' + 1 := ⟨c - 1, by omega⟩
  have hl := and_pred_lt h0
  unfold pcn
  show (if c' + 1 = 0 then 0 else 1 + kc c' _) = _
  rw [if_neg h0, kc_fuel _ c' (by omega)]
theorem m_isOdd_loop (a b : Value) (h : aH) : ∀ c, c < 256 → ∀ cnt, cnt + c < 600 → run 108 6 [a, b, .int (nI cnt), .int (nI c)] [] h = some (some (.int (bI (decide ((cnt + pcn c) % 2 = 1)))), h) := by
  intro c
  induction c using Nat.strongRecOn with
  | ind c ih =>
    intro hc cnt hcnt
    by_cases h0 : c = 0
    · subst h0
      have hlt : cnt % 2 < 2 ^ 31 := by omega
      rw [s108_6]
      simp (disch := omega) only [s108_0, s108_1, s108_2, s108_3, s108_4, s108_5, s108_7, s108_10, s108_13, s108_14, s108_15, s108_16, s108_17, s108_18, s108_19, s108_22, s108_23, s108_24, s108_25, s108_26, s108_29, s108_30, s108_33, s108_34, z0_0, if_true, nI_eq0, show (2 : Nat) ≠ 0 from by decide, if_false, nI_rem, nI_eqs hlt (show 1 < 2 ^ 31 by decide)]
      have e : pcn 0 = 0 := rfl
      rcases Nat.mod_two_eq_zero_or_one cnt with h1 | h1 <;> simp [h1, e, bI, n0, n1]
    · have hl := and_pred_lt h0
      rw [s108_6]
      simp (disch := omega) only [s108_0, s108_1, s108_2, s108_3, s108_4, s108_5, s108_7, s108_10, s108_13, s108_14, s108_15, s108_16, s108_17, s108_18, s108_19, s108_22, s108_23, s108_24, s108_25, s108_26, s108_29, s108_30, s108_33, s108_34, nI_eq0, h0, if_false, nI_sub, nI_and, nI_adds]
      rw [ih _ hl (by omega) _ (by omega), pcn_step h0]
      rw [Nat.add_assoc]
theorem m_isOdd {a b : Nat} (ha : a < 256) (h : aH) : run 108 0 [.int (nI a), .int (nI b), .null, .null] [] h = some (some (.int (bI (oddN a b))), h) := by
  have hc : a &&& b < 256 := Nat.lt_of_le_of_lt Nat.and_le_left ha
  simp only [s108_0, s108_1, s108_2, s108_3, s108_4, s108_5, nI_and]
  rw [m_isOdd_loop _ _ _ _ hc 0 (by omega)]
  simp only [oddN, Nat.zero_add]
section MB
variable {h : aH} {x : Nat} {r : List Value} {g : Nat → Nat}
/-- a relay -/
def relN (g : Nat → Nat) (v : Int32) : Bool := anyN (fun l => decide (nI (g (214 + 11 * l)) = v)) (g 2) && decide (¬ v = 0)
theorem m_isRelay (H : MO h x r g) (h2 : g 2 ≤ 20) (v : Int32) : run 114 0 [.ref x, .int v, .null, .null] [] h = some (some (.int (bI (relN g v))), h) := by
  obtain ⟨H1, H2⟩ := id H
  simp only [s114_0, s114_1, s114_2, s114_3]
  have L := loop_up (fun i (b : Bool) => run 114 4 [.ref x, .int v, .int (bI b), .int (nI i)] [] h) (fun i b => b || decide (nI (g (214 + 11 * i)) = v)) (g 2) (by
    intro i b hi
    rw [s114_4]
    simp (disch := omega) only [s114_0, s114_1, s114_2, s114_3, s114_5, s114_6, s114_9, s114_10, s114_11, s114_14, s114_15, s114_18, s114_19, s114_20, s114_21, s114_24, s114_25, s114_28, s114_29, s114_32, s114_33, s114_34, s114_37, s114_40, s114_41, s114_44, s114_45, s114_48, s114_49, s114_52, s114_53, gf0, gf1, gf2, gf3, gf4, gf5, gf6, gf7, gf8, gf9, gf10, gf11, gf12, gf13, gf14, pu0, pu1, pu2, pu3, pu4, pu5, pu6, pu7, pu8, pu9, pu10, pu11, pu12, pu13, pu14, rc_at, bK_some, Option.toList_some, Option.toList_none, List.cons_append, List.nil_append, H1, H2, hget_set, hget_ne, hset_set, mI, nI_mul, nI_adds, al_I, as_I, nf_at, upd_nf, nI_lts, hi, if_true, m_of H, Nat.add_zero]
    cases b
    · by_cases c : nI (g (214 + 11 * i)) = v <;> simp [c, bI, n0, n1]
    · simp [bI, n1]) false
  simp only [bI_f] at L
  rw [L, s114_4]
  have hF : ∀ n, foldN (fun i b => b || decide (nI (g (214 + 11 * i)) = v)) n false = anyN (fun l => decide (nI (g (214 + 11 * l)) = v)) n := by
    intro n
    induction n with
    | zero => rfl
    | succ n ih => simp only [foldN, anyN, ih]
  rw [hF]
  simp (disch := omega) only [s114_0, s114_1, s114_2, s114_3, s114_5, s114_6, s114_9, s114_10, s114_11, s114_14, s114_15, s114_18, s114_19, s114_20, s114_21, s114_24, s114_25, s114_28, s114_29, s114_32, s114_33, s114_34, s114_37, s114_40, s114_41, s114_44, s114_45, s114_48, s114_49, s114_52, s114_53, gf0, gf1, gf2, gf3, gf4, gf5, gf6, gf7, gf8, gf9, gf10, gf11, gf12, gf13, gf14, pu0, pu1, pu2, pu3, pu4, pu5, pu6, pu7, pu8, pu9, pu10, pu11, pu12, pu13, pu14, rc_at, bK_some, Option.toList_some, Option.toList_none, List.cons_append, List.nil_append, H1, H2, hget_set, hget_ne, hset_set, mI, nI_mul, nI_adds, al_I, as_I, nf_at, upd_nf, nI_lts, Nat.lt_irrefl, if_false, bI_0]
  unfold relN
  cases anyN (fun l => decide (nI (g (214 + 11 * l)) = v)) (g 2)
  · simp [bI, n0]
  · by_cases c : v = 0 <;> simp [c, bI, n0, n1]
def gFirst (g : Nat → Nat) : Nat → Nat := fun j => if 6 ≤ j ∧ j < 14 then 17 * (j - 5) else g j
theorem m_firstPayloads (H : MO h x r g) : run 121 0 [.ref x, .null] [] h = some (none, hset h (x + 1) (mI (gFirst g))) := by
  simp only [s121_0, s121_1]
  have L := loop_up (fun i (g : Nat → Nat) => run 121 2 [.ref x, .int (nI i)] [] (hset h (x + 1) (mI g))) (fun i g => up g (6 + i) (17 * (i + 1))) 8 (by
    intro i g hi
    obtain ⟨H1, H2⟩ := H
    rw [s121_2]
    simp (disch := omega) only [s121_0, s121_1, s121_3, s121_5, s121_8, s121_9, s121_12, s121_14, s121_15, s121_16, s121_18, s121_19, s121_20, s121_21, s121_22, s121_23, s121_26, s121_29, gf0, gf1, gf2, gf3, gf4, gf5, gf6, gf7, gf8, gf9, gf10, gf11, gf12, gf13, gf14, pu0, pu1, pu2, pu3, pu4, pu5, pu6, pu7, pu8, pu9, pu10, pu11, pu12, pu13, pu14, rc_at, bK_some, Option.toList_some, Option.toList_none, List.cons_append, List.nil_append, H1, hget_set, hget_ne, hset_set, mI, nI_mul, nI_adds, al_I, as_I, nf_at, upd_nf, nI_lts, hi, if_true]) g
  simp only [← H.eq] at L
  rw [L, s121_2]
  simp (disch := omega) only [s121_0, s121_1, s121_3, s121_5, s121_8, s121_9, s121_12, s121_14, s121_15, s121_16, s121_18, s121_19, s121_20, s121_21, s121_22, s121_23, s121_26, s121_29, nI_lts, Nat.lt_irrefl, if_false]
  congr 4
  have hF : ∀ n, n ≤ 8 → foldN (fun i g => up g (6 + i) (17 * (i + 1))) n g = fun j => if 6 ≤ j ∧ j < 6 + n then 17 * (j - 5) else g j := by
    intro n
    induction n with
    | zero => intro _; funext j; simp [foldN]; omega
    | succ n ih =>
      intro hn
      simp only [foldN, ih (by omega)]
      funext j
      unfold up
      by_cases c : j = 6 + n
      · subst c; rw [if_pos rfl, if_pos (by omega)]; congr 1; omega
      · rw [if_neg c]
        dsimp only
        by_cases c2 : 6 ≤ j ∧ j < 6 + n
        · rw [if_pos c2, if_pos (by omega)]
        · rw [if_neg c2, if_neg (by omega)]
  rw [hF 8 (by omega)]
  rfl
end MB
