/-! the text: its reader in the model -/
def dI (G : Nat → Nat) : aC := .inl (0, 100, .inl (nf G))
theorem al_d {G : Nat → Nat} {i : Nat} {α : Type} {K : Int32 → Option α} (hi : i < 100) : alK (nI i) (some (dI G)) (fun t => t == 0 || t == 9) K = K (nI (G i)) := by
  unfold dI; rw [al_I hi (by decide)]; rfl
theorem as_d {G : Nat → Nat} {i v : Nat} {α : Type} {K : aC → Option α} (hi : i < 100) : asK (nI i) (some (dI G)) 0 (nI v) K = K (dI (up G i v)) := by
  unfold dI; rw [as_I hi (by decide), upd_nf]
/-- the numbers of a reader: length, place, digit, entries, new links -/
def PO (x n i d e k : Nat) (c : Int64) : aC := .inr (7, [.ref (x + 1), .ref (x + 2), .ref (x + 3), .ref (x + 4), .int (nI n), .ref (x + 5), .ref (x + 6), .ref (x + 7), .ref (x + 8), .int (nI i), .int (nI d), .int (nI e), .int (nI k), .ref (x + 9), .long c])
def PH (h : aH) (x n i d e k : Nat) (c : Int64) (D : Nat → Nat) : aH := (h.1, h.2.1, fun q => if q = x then some (PO x n i d e k c) else if q = x + 9 then some (dI D) else h.2.2 q)
section PH
variable {h : aH} {x n i d e k : Nat} {c : Int64} {D : Nat → Nat}
theorem PH_x : hget (PH h x n i d e k c D) x = some (.inr (7, [.ref (x + 1), .ref (x + 2), .ref (x + 3), .ref (x + 4), .int (nI n), .ref (x + 5), .ref (x + 6), .ref (x + 7), .ref (x + 8), .int (nI i), .int (nI d), .int (nI e), .int (nI k), .ref (x + 9), .long c])) := by simp [PH, hget, PO]
theorem PH_9 : hget (PH h x n i d e k c D) (x + 9) = some (dI D) := by simp [PH, hget]
theorem PH_o {q : Nat} (h1 : q ≠ x) (h2 : q ≠ x + 9) : hget (PH h x n i d e k c D) q = hget h q := by simp [PH, hget, h1, h2]
theorem PH_sx {n' i' d' e' k' : Nat} {c' : Int64} : hset (PH h x n i d e k c D) x (.inr (7, [.ref (x + 1), .ref (x + 2), .ref (x + 3), .ref (x + 4), .int (nI n'), .ref (x + 5), .ref (x + 6), .ref (x + 7), .ref (x + 8), .int (nI i'), .int (nI d'), .int (nI e'), .int (nI k'), .ref (x + 9), .long c'])) = PH h x n' i' d' e' k' c' D := by
  unfold PH hset PO
  dsimp only
  congr 2
  funext q
  by_cases h1 : q = x <;> simp [h1]
theorem PH_s9 {D' : Nat → Nat} : hset (PH h x n i d e k c D) (x + 9) (dI D') = PH h x n i d e k c D' := by
  unfold PH hset
  dsimp only
  congr 2
  funext q
  by_cases h1 : q = x
  · subst h1; simp
  · by_cases h2 : q = x + 9 <;> simp [h1, h2]
theorem PH_MO {g : Nat → Nat} (hm : hget h (x + 1) = some (mI g)) : MO (PH h x n i d e k c D) x [.ref (x + 2), .ref (x + 3), .ref (x + 4), .int (nI n), .ref (x + 5), .ref (x + 6), .ref (x + 7), .ref (x + 8), .int (nI i), .int (nI d), .int (nI e), .int (nI k), .ref (x + 9), .long c] g := ⟨PH_x, by rw [PH_o (by omega) (by omega)]; exact hm⟩
end PH
/-- what stands at a place of the text -/
def hrN (T : Nat → Nat) (n i : Nat) : Nat := if i < n then T i else NON
/-- a digit within bounds -/
def pDig (T : Nat → Nat) (n i a b : Nat) : Option Nat := if i < n ∧ 48 + a ≤ T i ∧ T i ≤ 48 + b then some (T i - 48) else none
def pCh (T : Nat → Nat) (n i c : Nat) : Bool := decide (i < n ∧ T i = c)
theorem NON_ne {c : Nat} (hc : c < 2 ^ 31) : (nI NON = nI c) = False := by
  apply eq_false
  intro q
  have h1 : nI NON < 0 := by decide
  rw [q] at h1
  exact nI_pos hc h1
theorem NON_in {a b : Nat} (ha : a < 2 ^ 31) : inI (nI NON) (nI a) (nI b) = false := by
  have h1 : nI NON < 0 := by decide
  have : nI NON < nI a := by
    rw [Int32.lt_iff_toInt_lt] at h1 ⊢
    rw [nI_toInt ha]
    have : (0 : Int32).toInt = 0 := rfl
    omega
  simp [inI, this]
theorem hr_eq {T : Nat → Nat} {n i c : Nat} (hT : ∀ i, i < n → T i < 2 ^ 31) (hc : c < 2 ^ 31) : (nI (hrN T n i) = nI c) = (pCh T n i c = true) := by
  unfold hrN pCh
  by_cases q : i < n
  · simp [q, nI_eqs (hT i q) hc]
  · simp [q, NON_ne hc]
theorem hr_in {T : Nat → Nat} {n i a b : Nat} (hT : ∀ i, i < n → T i < 2 ^ 31) (ha : 48 + a < 2 ^ 31) (hb : 48 + b < 2 ^ 31) : inI (nI (hrN T n i)) (nI (48 + a)) (nI (48 + b)) = (pDig T n i a b).isSome := by
  unfold hrN pDig
  by_cases q : i < n
  · simp only [q, if_true, true_and, inI_nI (hT i q) ha hb]
    by_cases q2 : 48 + a ≤ T i ∧ T i ≤ 48 + b <;> simp [q2]
  · simp [q, NON_in ha]
section MP
variable {h : aH} {x n i d e k : Nat} {c : Int64} {D T g : Nat → Nat}
theorem m_here (hX : hget h (x + 4) = some (dI T)) (hn : n ≤ 100) (hi : i ≤ n) : run 175 0 [.ref x] [] (PH h x n i d e k c D) = some (some (.int (nI (hrN T n i))), PH h x n i d e k c D) := by
  have h4 : hget (PH h x n i d e k c D) (x + 4) = some (dI T) := by rw [PH_o (by omega) (by omega)]; exact hX
  unfold hrN
  by_cases q : i < n
  · simp (disch := omega) only [s175_0, s175_1, s175_4, s175_5, s175_8, s175_11, s175_12, s175_15, s175_16, s175_19, s175_20, s175_23, s175_25, gf0, gf1, gf2, gf3, gf4, gf5, gf6, gf7, gf8, gf9, gf10, gf11, gf12, gf13, gf14, pu0, pu1, pu2, pu3, pu4, pu5, pu6, pu7, pu8, pu9, pu10, pu11, pu12, pu13, pu14, rc_at, bK_some, Option.toList_some, Option.toList_none, List.cons_append, List.nil_append, PH_x, h4, nI_lts, q, if_true, al_d]
  · simp (disch := omega) only [s175_0, s175_1, s175_4, s175_5, s175_8, s175_11, s175_12, s175_15, s175_16, s175_19, s175_20, s175_23, s175_25, gf0, gf1, gf2, gf3, gf4, gf5, gf6, gf7, gf8, gf9, gf10, gf11, gf12, gf13, gf14, pu0, pu1, pu2, pu3, pu4, pu5, pu6, pu7, pu8, pu9, pu10, pu11, pu12, pu13, pu14, rc_at, bK_some, Option.toList_some, Option.toList_none, List.cons_append, List.nil_append, PH_x, h4, nI_lts, q, if_false, m4]
theorem m_passes (hX : hget h (x + 4) = some (dI T)) (hT : ∀ i, i < n → T i < 2 ^ 31) (hn : n ≤ 100) (hi : i ≤ n) {y : Nat} (hy : y < 2 ^ 31) : run 176 0 [.ref x, .int (nI y), .null] [] (PH h x n i d e k c D) = some (some (.int (bI (pCh T n i y))), PH h x n (i + nB (pCh T n i y)) d e k c D) := by
  have A := m_here (d := d) (e := e) (k := k) (c := c) (D := D) hX hn hi
  simp (disch := omega) only [s176_0, s176_1, s176_4, s176_5, gf0, gf1, gf2, gf3, gf4, gf5, gf6, gf7, gf8, gf9, gf10, gf11, gf12, gf13, gf14, pu0, pu1, pu2, pu3, pu4, pu5, pu6, pu7, pu8, pu9, pu10, pu11, pu12, pu13, pu14, rc_at, bK_some, Option.toList_some, Option.toList_none, List.cons_append, List.nil_append, PH_x, A, hr_eq hT hy]
  cases pCh T n i y <;> simp [s176_8, s176_9, s176_12, s176_13, s176_14, s176_15, s176_16, s176_19, s176_20, s176_23, s176_24, s176_27, s176_28, s176_29, s176_32, s176_33, gf0, gf1, gf2, gf3, gf4, gf5, gf6, gf7, gf8, gf9, gf10, gf11, gf12, gf13, gf14, pu0, pu1, pu2, pu3, pu4, pu5, pu6, pu7, pu8, pu9, pu10, pu11, pu12, pu13, pu14, rc_at, bK_some, Option.toList_some, Option.toList_none, List.cons_append, List.nil_append, PH_x, PH_sx, nI_adds, nB, bI, z01_1, z01_0, z1_0, z0_0] <;> rfl
theorem m_readDigit (hX : hget h (x + 4) = some (dI T)) (hT : ∀ i, i < n → T i < 2 ^ 31) (hn : n ≤ 100) (hi : i ≤ n) {a b : Nat} (ha : a < 100) (hb : b < 100) : run 177 0 [.ref x, .int (nI a), .int (nI b), .null] [] (PH h x n i d e k c D) = some (some (.int (bI (pDig T n i a b).isSome)), PH h x n (i + nB (pDig T n i a b).isSome) ((pDig T n i a b).getD 0) e k c D) := by
  have A := m_here (d := d) (e := e) (k := k) (c := c) (D := D) hX hn hi
  simp (disch := omega) only [s177_0, s177_1, s177_4, s177_6, s177_7, s177_8, s177_10, s177_11, s177_12, s177_15, s177_16, s177_17, s177_18, gf0, gf1, gf2, gf3, gf4, gf5, gf6, gf7, gf8, gf9, gf10, gf11, gf12, gf13, gf14, pu0, pu1, pu2, pu3, pu4, pu5, pu6, pu7, pu8, pu9, pu10, pu11, pu12, pu13, pu14, rc_at, bK_some, Option.toList_some, Option.toList_none, List.cons_append, List.nil_append, PH_x, A, nI_adds, m_in, hr_in hT, bI_0]
  by_cases q : i < n ∧ 48 + a ≤ T i ∧ T i ≤ 48 + b
  · have e1 : pDig T n i a b = some (T i - 48) := by simp [pDig, q]
    have e2 : hrN T n i = T i := by simp [hrN, q]
    simp (disch := omega) only [e1, Option.isSome_some, Bool.true_eq_false, if_false, s177_21, s177_22, s177_25, s177_27, s177_28, s177_31, s177_32, s177_35, s177_36, s177_37, s177_40, s177_41, s177_44, s177_45, s177_48, s177_49, s177_50, s177_53, s177_54, gf0, gf1, gf2, gf3, gf4, gf5, gf6, gf7, gf8, gf9, gf10, gf11, gf12, gf13, gf14, pu0, pu1, pu2, pu3, pu4, pu5, pu6, pu7, pu8, pu9, pu10, pu11, pu12, pu13, pu14, rc_at, bK_some, Option.toList_some, Option.toList_none, List.cons_append, List.nil_append, PH_x, A, PH_sx, nI_adds, e2, nI_sub, bI_0, bI_1, bI_01, if_true, nB, Option.getD_some, false_or]
  · have e1 : pDig T n i a b = none := by simp only [pDig, q, if_false]
    simp (disch := omega) only [e1, Option.isSome_none, if_true, s177_21, s177_22, s177_25, s177_27, s177_28, s177_31, s177_32, s177_35, s177_36, s177_37, s177_40, s177_41, s177_44, s177_45, s177_48, s177_49, s177_50, s177_53, s177_54, gf0, gf1, gf2, gf3, gf4, gf5, gf6, gf7, gf8, gf9, gf10, gf11, gf12, gf13, gf14, pu0, pu1, pu2, pu3, pu4, pu5, pu6, pu7, pu8, pu9, pu10, pu11, pu12, pu13, pu14, rc_at, bK_some, Option.toList_some, Option.toList_none, List.cons_append, List.nil_append, PH_x, PH_sx, nI_adds, bI_0, bI_1, bI_01, nB, Option.getD_none, Bool.false_eq_true, if_false, true_or]
/-- an entry of a behaviour: where it fails, or where it ends, and what it says -/
def pBeh (T : Nat → Nat) (n N i : Nat) : Nat ⊕ (Nat × Nat × Nat) := match pDig T n (i + 1) 1 (N - 1) with
  | none => .inl (i + 1)
  | some a => if pCh T n (i + 2) 61 = true then (match pDig T n (i + 3) 0 4 with
    | none => .inl (i + 3)
    | some b => .inr (i + 4, a, b)) else .inl (i + 2)
/-- an entry of a link -/
def pLnk (T : Nat → Nat) (n N : Nat) (f : Bool) (i : Nat) : Nat ⊕ (Nat × Nat × Nat × Nat) := if f = true then .inl i else match pDig T n i 0 (N - 1) with
  | none => .inl i
  | some a => if pCh T n (i + 1) 62 = true then (match pDig T n (i + 2) (a + 1) (N - 1) with
    | none => .inl (i + 2)
    | some b => if pCh T n (i + 3) 47 = true then (match pDig T n (i + 4) 0 9 with
      | none => .inl (i + 4)
      | some l => .inr (i + 5, a, b, l)) else .inr (i + 3, a, b, 0)) else .inl (i + 1)
theorem pDig_some {a b v : Nat} (q : pDig T n i a b = some v) : i < n ∧ a ≤ v ∧ v ≤ b := by
  unfold pDig at q
  split at q
  · rename_i w
    injection q with q
    omega
  · cases q
theorem pCh_t {y : Nat} (q : pCh T n i y = true) : i < n := by
  unfold pCh at q
  exact (of_decide_eq_true q).1
theorem m_readBehavior (hX : hget h (x + 4) = some (dI T)) (hT : ∀ i, i < n → T i < 2 ^ 31) (hn : n ≤ 100) (hi : i < n) (hm : hget h (x + 1) = some (mI g)) (hN : 3 ≤ g 1 ∧ g 1 ≤ 10) {y : Nat} (hy : y + 3 < 100) : match pBeh T n (g 1) i with
    | .inl j => ∃ d' D', run 178 0 [.ref x, .int (nI y)] [] (PH h x n i d e k c D) = some (some (.int (nI 0)), PH h x n j d' e k c D')
    | .inr (j, a, b) => ∃ d' D', run 178 0 [.ref x, .int (nI y)] [] (PH h x n i d e k c D) = some (some (.int (nI 1)), PH h x n j d' e k c D') ∧ D' y = 0 ∧ D' (y + 1) = a ∧ D' (y + 2) = b ∧ ∀ q, q < y → D' q = D q := by
  have h1 : ∀ i d e k c D, hget (PH h x n i d e k c D) (x + 1) = some (mI g) := fun _ _ _ _ _ _ => by rw [PH_o (by omega) (by omega)]; exact hm
  have R1 := m_readDigit (i := i + 1) (d := d) (e := e) (k := k) (c := c) (D := D) hX hT hn (by omega) (show 1 < 100 by omega) (show g 1 - 1 < 100 by omega)
  unfold pBeh
  cases q1 : pDig T n (i + 1) 1 (g 1 - 1) with
  | none =>
    rw [q1] at R1
    refine ⟨0, D, ?_⟩
    simp (disch := omega) only [s178_0, s178_1, s178_2, s178_5, s178_6, s178_7, s178_10, s178_11, s178_12, s178_13, s178_16, s178_17, s178_18, s178_19, s178_20, s178_23, s178_26, s178_27, gf0, gf1, gf2, gf3, gf4, gf5, gf6, gf7, gf8, gf9, gf10, gf11, gf12, gf13, gf14, pu0, pu1, pu2, pu3, pu4, pu5, pu6, pu7, pu8, pu9, pu10, pu11, pu12, pu13, pu14, rc_at, bK_some, Option.toList_some, Option.toList_none, List.cons_append, List.nil_append, PH_x, h1, PH_sx, al_m, nI_adds, nI_sub, R1, Option.isSome_none, bI_0, if_true, z01_0, Option.getD_none, nB, Bool.false_eq_true, if_false, Nat.add_zero]
  | some a =>
    rw [q1] at R1
    have w1 := pDig_some q1
    have P2 := m_passes (i := i + 2) (d := a) (e := e) (k := k) (c := c) (D := up (up D y 0) (y + 1) a) hX hT hn (by omega) (show 61 < 2 ^ 31 by omega)
    simp only [Option.isSome_some, Option.getD_some, nB, if_true, show i + 1 + 1 = i + 2 from rfl] at R1
    have st : run 178 0 [.ref x, .int (nI y)] [] (PH h x n i d e k c D) = run 178 53 [.ref x, .int (nI y)] [.int (bI (pCh T n (i + 2) 61))] (PH h x n (i + 2 + nB (pCh T n (i + 2) 61)) a e k c (up (up D y 0) (y + 1) a)) := by
      simp (disch := omega) only [s178_0, s178_1, s178_2, s178_5, s178_6, s178_7, s178_10, s178_11, s178_12, s178_13, s178_16, s178_17, s178_18, s178_19, s178_20, s178_23, s178_26, s178_27, s178_28, s178_29, s178_32, s178_33, s178_34, s178_35, s178_36, s178_39, s178_40, s178_41, s178_42, s178_43, s178_46, s178_47, s178_48, s178_50, gf0, gf1, gf2, gf3, gf4, gf5, gf6, gf7, gf8, gf9, gf10, gf11, gf12, gf13, gf14, pu0, pu1, pu2, pu3, pu4, pu5, pu6, pu7, pu8, pu9, pu10, pu11, pu12, pu13, pu14, rc_at, bK_some, Option.toList_some, Option.toList_none, List.cons_append, List.nil_append, PH_x, h1, PH_9, PH_s9, PH_sx, al_m, as_d, nI_adds, nI_sub, R1, bI_0, Bool.true_eq_false, if_false, P2]
    dsimp only
    rw [st]
    cases q2 : pCh T n (i + 2) 61
    · exact ⟨a, up (up D y 0) (y + 1) a, by simp (disch := omega) only [s178_53, s178_56, s178_57, s178_58, s178_59, s178_62, s178_65, s178_66, bI_0, if_true, z01_0, nB, Bool.false_eq_true, if_false, Nat.add_zero]⟩
    · have w2 := pCh_t q2
      have R3 := m_readDigit (i := i + 3) (d := a) (e := e) (k := k) (c := c) (D := up (up D y 0) (y + 1) a) hX hT hn (by omega) (show 0 < 100 by omega) (show 4 < 100 by omega)
      simp only [if_true]
      cases q3 : pDig T n (i + 3) 0 4 with
      | none =>
        rw [q3] at R3
        exact ⟨0, up (up D y 0) (y + 1) a, by simp (disch := omega) only [s178_53, s178_56, s178_57, s178_58, s178_59, s178_62, s178_65, s178_66, gf0, gf1, gf2, gf3, gf4, gf5, gf6, gf7, gf8, gf9, gf10, gf11, gf12, gf13, gf14, pu0, pu1, pu2, pu3, pu4, pu5, pu6, pu7, pu8, pu9, pu10, pu11, pu12, pu13, pu14, rc_at, bK_some, Option.toList_some, Option.toList_none, List.cons_append, List.nil_append, PH_x, R3, bI_0, if_true, z01_0, nB, Bool.false_eq_true, Bool.true_eq_false, if_false, Nat.add_zero, Option.isSome_none, Option.getD_none, show i + 2 + 1 = i + 3 from rfl]⟩
      | some b =>
        rw [q3] at R3
        refine ⟨b, up (up (up D y 0) (y + 1) a) (y + 2) b, ?_, ?_, ?_, ?_, ?_⟩
        · simp (disch := omega) only [s178_53, s178_56, s178_57, s178_58, s178_59, s178_62, s178_65, s178_66, s178_67, s178_68, s178_71, s178_72, s178_73, s178_74, s178_75, s178_78, s178_79, s178_80, gf0, gf1, gf2, gf3, gf4, gf5, gf6, gf7, gf8, gf9, gf10, gf11, gf12, gf13, gf14, pu0, pu1, pu2, pu3, pu4, pu5, pu6, pu7, pu8, pu9, pu10, pu11, pu12, pu13, pu14, rc_at, bK_some, Option.toList_some, Option.toList_none, List.cons_append, List.nil_append, PH_x, PH_9, PH_s9, as_d, nI_adds, R3, bI_0, if_true, z01_1, nB, Bool.true_eq_false, if_false, Option.isSome_some, Option.getD_some, show i + 2 + 1 = i + 3 from rfl]
        · rw [up_ne (by omega), up_ne (by omega), up_same]
        · rw [up_ne (by omega), up_same]
        · rw [up_same]
        · intro q hq
          rw [up_ne (by omega), up_ne (by omega), up_ne (by omega)]
theorem m_readLink (hX : hget h (x + 4) = some (dI T)) (hT : ∀ i, i < n → T i < 2 ^ 31) (hn : n ≤ 100) (hi : i < n) (hm : hget h (x + 1) = some (mI g)) (hN : 3 ≤ g 1 ∧ g 1 ≤ 10) (hk : g 2 + k ≤ 20) {y : Nat} (hy : y + 3 < 100) : match pLnk T n (g 1) (decide (g 2 + k = 20)) i with
    | .inl j => ∃ d' D', run 179 0 [.ref x, .int (nI y)] [] (PH h x n i d e k c D) = some (some (.int (nI 0)), PH h x n j d' e k c D')
    | .inr (j, a, b, l) => ∃ d' D', run 179 0 [.ref x, .int (nI y)] [] (PH h x n i d e k c D) = some (some (.int (nI 1)), PH h x n j d' e (k + 1) c D') ∧ D' y = 1 ∧ D' (y + 1) = a ∧ D' (y + 2) = b ∧ D' (y + 3) = l ∧ ∀ q, q < y → D' q = D q := by
  have h1 : ∀ i d e k c D, hget (PH h x n i d e k c D) (x + 1) = some (mI g) := fun _ _ _ _ _ _ => by rw [PH_o (by omega) (by omega)]; exact hm
  have R1 := m_readDigit (i := i) (d := d) (e := e) (k := k) (c := c) (D := D) hX hT hn (by omega) (show 0 < 100 by omega) (show g 1 - 1 < 100 by omega)
  unfold pLnk
  by_cases q0 : g 2 + k = 20
  · simp only [q0, decide_true, if_true]
    exact ⟨d, D, by simp (disch := omega) only [s179_0, s179_1, s179_4, s179_5, s179_6, s179_7, s179_10, s179_11, s179_13, s179_16, s179_17, s179_18, s179_19, s179_22, s179_23, s179_24, s179_25, s179_26, s179_29, s179_32, s179_33, gf0, gf1, gf2, gf3, gf4, gf5, gf6, gf7, gf8, gf9, gf10, gf11, gf12, gf13, gf14, pu0, pu1, pu2, pu3, pu4, pu5, pu6, pu7, pu8, pu9, pu10, pu11, pu12, pu13, pu14, rc_at, bK_some, Option.toList_some, Option.toList_none, List.cons_append, List.nil_append, PH_x, h1, al_m, nI_adds, q0, if_true, z01_0]⟩
  simp only [q0, decide_false, Bool.false_eq_true, if_false]
  have q0' : (nI (g 2 + k) = nI 20) = False := by rw [nI_eqs (by omega) (by decide)]; exact eq_false q0
  cases q1 : pDig T n i 0 (g 1 - 1) with
  | none =>
    rw [q1] at R1
    refine ⟨0, D, ?_⟩
    simp (disch := omega) only [s179_0, s179_1, s179_4, s179_5, s179_6, s179_7, s179_10, s179_11, s179_13, s179_16, s179_17, s179_18, s179_19, s179_22, s179_23, s179_24, s179_25, s179_26, s179_29, s179_32, s179_33, gf0, gf1, gf2, gf3, gf4, gf5, gf6, gf7, gf8, gf9, gf10, gf11, gf12, gf13, gf14, pu0, pu1, pu2, pu3, pu4, pu5, pu6, pu7, pu8, pu9, pu10, pu11, pu12, pu13, pu14, rc_at, bK_some, Option.toList_some, Option.toList_none, List.cons_append, List.nil_append, PH_x, h1, PH_sx, al_m, nI_adds, nI_sub, q0', if_false, R1, Option.isSome_none, bI_0, if_true, z01_0, Option.getD_none, nB, Bool.false_eq_true, Nat.add_zero]
  | some a =>
    rw [q1] at R1
    have w1 := pDig_some q1
    have P2 := m_passes (i := i + 1) (d := a) (e := e) (k := k) (c := c) (D := up (up D y 1) (y + 1) a) hX hT hn (by omega) (show 62 < 2 ^ 31 by omega)
    simp only [Option.isSome_some, Option.getD_some, nB, if_true] at R1
    have st : run 179 0 [.ref x, .int (nI y)] [] (PH h x n i d e k c D) = run 179 59 [.ref x, .int (nI y)] [.int (bI (pCh T n (i + 1) 62))] (PH h x n (i + 1 + nB (pCh T n (i + 1) 62)) a e k c (up (up D y 1) (y + 1) a)) := by
      simp (disch := omega) only [s179_0, s179_1, s179_4, s179_5, s179_6, s179_7, s179_10, s179_11, s179_13, s179_16, s179_17, s179_18, s179_19, s179_22, s179_23, s179_24, s179_25, s179_26, s179_29, s179_32, s179_33, s179_34, s179_35, s179_38, s179_39, s179_40, s179_41, s179_42, s179_45, s179_46, s179_47, s179_48, s179_49, s179_52, s179_53, s179_54, s179_56, gf0, gf1, gf2, gf3, gf4, gf5, gf6, gf7, gf8, gf9, gf10, gf11, gf12, gf13, gf14, pu0, pu1, pu2, pu3, pu4, pu5, pu6, pu7, pu8, pu9, pu10, pu11, pu12, pu13, pu14, rc_at, bK_some, Option.toList_some, Option.toList_none, List.cons_append, List.nil_append, PH_x, h1, PH_9, PH_s9, PH_sx, al_m, as_d, nI_adds, nI_sub, q0', R1, bI_0, Bool.true_eq_false, if_false, P2]
    dsimp only
    rw [st]
    cases q2 : pCh T n (i + 1) 62
    · exact ⟨a, up (up D y 1) (y + 1) a, by simp (disch := omega) only [s179_59, s179_62, s179_63, s179_64, s179_67, s179_68, s179_69, s179_70, s179_71, s179_72, s179_73, s179_74, s179_77, s179_78, s179_79, s179_80, s179_81, s179_84, s179_87, s179_88, bI_0, if_true, z01_0, nB, Bool.false_eq_true, if_false, Nat.add_zero]⟩
    · have w2 := pCh_t q2
      have R3 := m_readDigit (i := i + 2) (d := a) (e := e) (k := k) (c := c) (D := up (up D y 1) (y + 1) a) hX hT hn (by omega) (show a + 1 < 100 by omega) (show g 1 - 1 < 100 by omega)
      simp only [if_true]
      cases q3 : pDig T n (i + 2) (a + 1) (g 1 - 1) with
      | none =>
        rw [q3] at R3
        exact ⟨0, up (up D y 1) (y + 1) a, by simp (disch := omega) only [s179_59, s179_62, s179_63, s179_64, s179_67, s179_68, s179_69, s179_70, s179_71, s179_72, s179_73, s179_74, s179_77, s179_78, s179_79, s179_80, s179_81, s179_84, s179_87, s179_88, gf0, gf1, gf2, gf3, gf4, gf5, gf6, gf7, gf8, gf9, gf10, gf11, gf12, gf13, gf14, pu0, pu1, pu2, pu3, pu4, pu5, pu6, pu7, pu8, pu9, pu10, pu11, pu12, pu13, pu14, rc_at, bK_some, Option.toList_some, Option.toList_none, List.cons_append, List.nil_append, PH_x, h1, PH_9, al_m, al_d, up_same, nI_adds, nI_sub, R3, bI_0, if_true, z01_0, nB, Bool.false_eq_true, Bool.true_eq_false, if_false, Nat.add_zero, Option.isSome_none, Option.getD_none, show i + 1 + 1 = i + 2 from rfl]⟩
      | some b =>
        rw [q3] at R3
        have w3 := pDig_some q3
        generalize hD : up (up (up (up D y 1) (y + 1) a) (y + 2) b) (y + 3) 0 = D3
        have P4 := m_passes (i := i + 3) (d := b) (e := e) (k := k) (c := c) (D := D3) hX hT hn (by omega) (show 47 < 2 ^ 31 by omega)
        simp only [Option.isSome_some, Option.getD_some, nB, if_true] at R3
        have st2 : run 179 59 [.ref x, .int (nI y)] [.int (bI true)] (PH h x n (i + 1 + nB true) a e k c (up (up D y 1) (y + 1) a)) = run 179 116 [.ref x, .int (nI y)] [.int (bI (pCh T n (i + 3) 47))] (PH h x n (i + 3 + nB (pCh T n (i + 3) 47)) b e k c D3) := by
          simp (disch := omega) only [s179_59, s179_62, s179_63, s179_64, s179_67, s179_68, s179_69, s179_70, s179_71, s179_72, s179_73, s179_74, s179_77, s179_78, s179_79, s179_80, s179_81, s179_84, s179_87, s179_88, s179_89, s179_90, s179_93, s179_94, s179_95, s179_96, s179_97, s179_100, s179_101, s179_102, s179_105, s179_106, s179_107, s179_108, s179_109, s179_110, s179_111, s179_113, gf0, gf1, gf2, gf3, gf4, gf5, gf6, gf7, gf8, gf9, gf10, gf11, gf12, gf13, gf14, pu0, pu1, pu2, pu3, pu4, pu5, pu6, pu7, pu8, pu9, pu10, pu11, pu12, pu13, pu14, rc_at, bK_some, Option.toList_some, Option.toList_none, List.cons_append, List.nil_append, PH_x, h1, PH_9, PH_s9, al_m, al_d, as_d, up_same, nI_adds, nI_sub, R3, bI_0, if_true, nB, Bool.true_eq_false, if_false, show i + 1 + 1 = i + 2 from rfl, show i + 2 + 1 = i + 3 from rfl, hD, P4]
        dsimp only
        rw [st2]
        have f0 : D3 y = 1 := by rw [← hD, up_ne (by omega), up_ne (by omega), up_ne (by omega), up_same]
        have f1 : D3 (y + 1) = a := by rw [← hD, up_ne (by omega), up_ne (by omega), up_same]
        have f2 : D3 (y + 2) = b := by rw [← hD, up_ne (by omega), up_same]
        have f3 : D3 (y + 3) = 0 := by rw [← hD, up_same]
        have f4 : ∀ q, q < y → D3 q = D q := fun q hq => by rw [← hD, up_ne (by omega), up_ne (by omega), up_ne (by omega), up_ne (by omega)]
        cases q4 : pCh T n (i + 3) 47
        · refine ⟨b, D3, ?_, f0, f1, f2, f3, f4⟩
          simp (disch := omega) only [s179_116, s179_143, s179_144, s179_145, s179_148, s179_149, s179_150, s179_153, s179_154, gf0, gf1, gf2, gf3, gf4, gf5, gf6, gf7, gf8, gf9, gf10, gf11, gf12, gf13, gf14, pu0, pu1, pu2, pu3, pu4, pu5, pu6, pu7, pu8, pu9, pu10, pu11, pu12, pu13, pu14, rc_at, bK_some, Option.toList_some, Option.toList_none, List.cons_append, List.nil_append, PH_x, PH_sx, nI_adds, bI_0, if_true, z01_1, nB, Bool.false_eq_true, if_false, Nat.add_zero]
        · have w4 := pCh_t q4
          have R5 := m_readDigit (i := i + 4) (d := b) (e := e) (k := k) (c := c) (D := D3) hX hT hn (by omega) (show 0 < 100 by omega) (show 9 < 100 by omega)
          simp only [if_true]
          cases q5 : pDig T n (i + 4) 0 9 with
          | none =>
            rw [q5] at R5
            exact ⟨0, D3, by simp (disch := omega) only [s179_116, s179_119, s179_120, s179_121, s179_123, s179_126, s179_129, s179_130, gf0, gf1, gf2, gf3, gf4, gf5, gf6, gf7, gf8, gf9, gf10, gf11, gf12, gf13, gf14, pu0, pu1, pu2, pu3, pu4, pu5, pu6, pu7, pu8, pu9, pu10, pu11, pu12, pu13, pu14, rc_at, bK_some, Option.toList_some, Option.toList_none, List.cons_append, List.nil_append, PH_x, R5, bI_0, if_true, z01_0, nB, Bool.false_eq_true, Bool.true_eq_false, if_false, Nat.add_zero, Option.isSome_none, Option.getD_none, show i + 3 + 1 = i + 4 from rfl]⟩
          | some l =>
            rw [q5] at R5
            refine ⟨l, up D3 (y + 3) l, ?_, ?_, ?_, ?_, ?_, ?_⟩
            · simp (disch := omega) only [s179_116, s179_119, s179_120, s179_121, s179_123, s179_126, s179_129, s179_130, s179_131, s179_132, s179_135, s179_136, s179_137, s179_138, s179_139, s179_142, s179_143, s179_144, s179_145, s179_148, s179_149, s179_150, s179_153, s179_154, gf0, gf1, gf2, gf3, gf4, gf5, gf6, gf7, gf8, gf9, gf10, gf11, gf12, gf13, gf14, pu0, pu1, pu2, pu3, pu4, pu5, pu6, pu7, pu8, pu9, pu10, pu11, pu12, pu13, pu14, rc_at, bK_some, Option.toList_some, Option.toList_none, List.cons_append, List.nil_append, PH_x, PH_9, PH_s9, PH_sx, as_d, nI_adds, R5, bI_0, if_true, z01_1, nB, Bool.true_eq_false, if_false, Option.isSome_some, Option.getD_some, show i + 3 + 1 = i + 4 from rfl, show i + 4 + 1 = i + 5 from rfl]
            · rw [up_ne (by omega), f0]
            · rw [up_ne (by omega), f1]
            · rw [up_ne (by omega), f2]
            · rw [up_same]
            · intro q hq
              rw [up_ne (by omega), f4 q hq]
end MP
