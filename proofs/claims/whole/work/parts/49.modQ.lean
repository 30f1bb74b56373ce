/-! the whole text -/
/-- an entry: 1 and a link, or 0 and a behaviour -/
abbrev pE := Nat × Nat × Nat × Nat
def pOne (T : Nat → Nat) (n N : Nat) (f : Bool) (i : Nat) : Nat ⊕ (Nat × pE) := if pCh T n i 98 = true then (match pBeh T n N i with
  | .inl j => .inl j
  | .inr (j, a, b) => .inr (j, 0, a, b, 0)) else (match pLnk T n N f i with
  | .inl j => .inl j
  | .inr (j, a, b, l) => .inr (j, 1, a, b, l))
def pEnt (T : Nat → Nat) (n N : Nat) (f : Bool) (i : Nat) : Nat ⊕ (Nat × pE) := match pOne T n N f i with
  | .inl j => .inl j
  | .inr (j, E) => if pCh T n j 59 = true then .inr (j + 1, E) else .inl j
def pAll (T : Nat → Nat) (n N L : Nat) : Nat → Nat → Nat → Nat ⊕ List pE
  | 0, _, _ => .inr []
  | m + 1, i, k => if i < n then (match pEnt T n N (decide (L + k = 20)) i with
    | .inl j => .inl j
    | .inr (j, E) => match pAll T n N L m j (k + E.1) with
      | .inl q => .inl q
      | .inr es => .inr (E :: es)) else .inr []
/-- an entry that can be -/
def pOK (N : Nat) (E : pE) : Prop := (E.1 = 1 ∧ E.2.1 < E.2.2.1 ∧ E.2.2.1 < N ∧ E.2.2.2 ≤ 9) ∨ (E.1 = 0 ∧ 1 ≤ E.2.1 ∧ E.2.1 < N ∧ E.2.2.1 ≤ 4)
theorem pBeh_inr {T : Nat → Nat} {n N i j a b : Nat} (hN : 3 ≤ N) (q : pBeh T n N i = .inr (j, a, b)) : j = i + 4 ∧ j ≤ n ∧ 1 ≤ a ∧ a < N ∧ b ≤ 4 := by
  unfold pBeh at q
  cases q1 : pDig T n (i + 1) 1 (N - 1) with
  | none => rw [q1] at q; cases q
  | some v =>
    rw [q1] at q
    cases q2 : pCh T n (i + 2) 61
    · simp [q2] at q
    · cases q3 : pDig T n (i + 3) 0 4 with
      | none => simp [q2, q3] at q
      | some w =>
        simp [q2, q3] at q
        have w1 := pDig_some q1
        have w3 := pDig_some q3
        obtain ⟨rfl, rfl, rfl⟩ := q
        omega
theorem pLnk_inr {T : Nat → Nat} {n N i j a b l : Nat} {f : Bool} (hN : 3 ≤ N) (q : pLnk T n N f i = .inr (j, a, b, l)) : i + 3 ≤ j ∧ j ≤ n ∧ a < b ∧ b < N ∧ l ≤ 9 ∧ f = false := by
  unfold pLnk at q
  cases f
  · simp only [Bool.false_eq_true, if_false] at q
    cases q1 : pDig T n i 0 (N - 1) with
    | none => rw [q1] at q; cases q
    | some v =>
      rw [q1] at q
      cases q2 : pCh T n (i + 1) 62
      · simp [q2] at q
      · cases q3 : pDig T n (i + 2) (v + 1) (N - 1) with
        | none => simp [q2, q3] at q
        | some w =>
          have w1 := pDig_some q1
          have w3 := pDig_some q3
          cases q4 : pCh T n (i + 3) 47
          · simp [q2, q3, q4] at q
            obtain ⟨rfl, rfl, rfl, rfl⟩ := q
            refine ⟨by omega, by omega, by omega, by omega, by omega, rfl⟩
          · cases q5 : pDig T n (i + 4) 0 9 with
            | none => simp [q2, q3, q4, q5] at q
            | some u =>
              simp [q2, q3, q4, q5] at q
              have w5 := pDig_some q5
              obtain ⟨rfl, rfl, rfl, rfl⟩ := q
              refine ⟨by omega, by omega, by omega, by omega, by omega, rfl⟩
  · simp at q
theorem pOne_inr {T : Nat → Nat} {n N i j : Nat} {f : Bool} {E : pE} (hN : 3 ≤ N) (q : pOne T n N f i = .inr (j, E)) : i + 3 ≤ j ∧ j ≤ n ∧ pOK N E ∧ (E.1 = 1 → f = false) := by
  unfold pOne at q
  split at q
  · cases q1 : pBeh T n N i with
    | inl v => rw [q1] at q; cases q
    | inr v =>
      obtain ⟨j', a, b⟩ := v
      rw [q1] at q
      have w := pBeh_inr hN q1
      injection q with q
      injection q with qa qb
      subst qb
      exact ⟨by omega, by omega, Or.inr ⟨rfl, w.2.2.1, w.2.2.2.1, w.2.2.2.2⟩, fun z => absurd (show (0 : Nat) = 1 from z) (by decide)⟩
  · cases q1 : pLnk T n N f i with
    | inl v => rw [q1] at q; cases q
    | inr v =>
      obtain ⟨j', a, b, l⟩ := v
      rw [q1] at q
      have w := pLnk_inr hN q1
      injection q with q
      injection q with qa qb
      subst qb
      exact ⟨by omega, by omega, Or.inl ⟨rfl, w.2.2.1, w.2.2.2.1, w.2.2.2.2.1⟩, fun _ => w.2.2.2.2.2⟩
theorem pEnt_inr {T : Nat → Nat} {n N i j : Nat} {f : Bool} {E : pE} (hN : 3 ≤ N) (q : pEnt T n N f i = .inr (j, E)) : i + 4 ≤ j ∧ j ≤ n ∧ pOK N E ∧ (E.1 = 1 → f = false) := by
  unfold pEnt at q
  cases q1 : pOne T n N f i with
  | inl v => rw [q1] at q; cases q
  | inr v =>
    obtain ⟨j', E'⟩ := v
    rw [q1] at q
    have w := pOne_inr hN q1
    dsimp only at q
    split at q
    · rename_i w2
      have w2 := pCh_t w2
      injection q with q
      injection q with qa qb
      subst qb
      exact ⟨by omega, by omega, w.2.2⟩
    · cases q
theorem pOK_1 {N : Nat} {E : pE} (h : pOK N E) : E.1 ≤ 1 := by
  rcases h with h | h <;> omega
def lnkN (es : List pE) : Nat := (es.map (fun E => E.1)).sum
theorem pAll_inr {T : Nat → Nat} {n N L : Nat} (hN : 3 ≤ N) : ∀ m i k es, L + k ≤ 20 → i ≤ n → pAll T n N L m i k = .inr es → (∀ E, E ∈ es → pOK N E) ∧ L + k + lnkN es ≤ 20 ∧ i + 4 * es.length ≤ n := by
  intro m
  induction m with
  | zero =>
    intro i k es hk hi q
    injection q with q
    subst q
    exact ⟨fun E h => absurd h (by simp), by simpa [lnkN] using hk, by simpa using hi⟩
  | succ m ih =>
    intro i k es hk hi q
    unfold pAll at q
    split at q
    · cases q1 : pEnt T n N (decide (L + k = 20)) i with
      | inl v => rw [q1] at q; cases q
      | inr v =>
        obtain ⟨j, E⟩ := v
        rw [q1] at q
        have w := pEnt_inr hN q1
        have w1 := pOK_1 w.2.2.1
        dsimp only at q
        have hk' : L + (k + E.1) ≤ 20 := by
          by_cases z : E.1 = 1
          · have := of_decide_eq_false (w.2.2.2 z); omega
          · omega
        cases q2 : pAll T n N L m j (k + E.1) with
        | inl v => rw [q2] at q; cases q
        | inr es' =>
          rw [q2] at q
          injection q with q
          subst q
          obtain ⟨a1, a2, a3⟩ := ih j (k + E.1) es' hk' w.2.1 q2
          refine ⟨?_, ?_, ?_⟩
          · intro F hF
            rcases List.mem_cons.mp hF with rfl | hF
            · exact w.2.2.1
            · exact a1 F hF
          · simp only [lnkN, List.map_cons, List.sum_cons] at a2 ⊢
            omega
          · rw [List.length_cons]; omega
    · injection q with q
      subst q
      exact ⟨fun E h => absurd h (by simp), by simpa [lnkN] using hk, by simpa using hi⟩
/-- a draft holds an entry at y -/
def drE (D : Nat → Nat) (y : Nat) (E : pE) : Prop := D y = E.1 ∧ D (y + 1) = E.2.1 ∧ D (y + 2) = E.2.2.1 ∧ (E.1 = 1 → D (y + 3) = E.2.2.2)
def drL (D : Nat → Nat) : Nat → List pE → Prop
  | _, [] => True
  | y, E :: es => drE D y E ∧ drL D (y + 4) es
section MQ
variable {h : aH} {x n i d e k : Nat} {c : Int64} {D T g : Nat → Nat}
/-- an entry, by the loop of readAll -/
theorem m_one (hX : hget h (x + 4) = some (dI T)) (hT : ∀ i, i < n → T i < 2 ^ 31) (hn : n ≤ 100) (hi : i < n) (hm : hget h (x + 1) = some (mI g)) (hN : 3 ≤ g 1 ∧ g 1 ≤ 10) (hk : g 2 + k ≤ 20) (hy : 4 * e + 3 < 100) (w : Value) : match pEnt T n (g 1) (decide (g 2 + k = 20)) i with
    | .inl j => ∃ d' e' k' D', run 180 15 [.ref x, w] [] (PH h x n i d e k c D) = some (some (.int (nI 0)), PH h x n j d' e' k' c D')
    | .inr (j, E) => ∃ w' d' D', run 180 15 [.ref x, w] [] (PH h x n i d e k c D) = run 180 15 [.ref x, w'] [] (PH h x n j d' (e + 1) (k + E.1) c D') ∧ drE D' (4 * e) E ∧ ∀ q, q < 4 * e → D' q = D q := by
  have A := m_here (d := d) (e := e) (k := k) (c := c) (D := D) hX hn (show i ≤ n by omega)
  have st : run 180 15 [.ref x, w] [] (PH h x n i d e k c D) = if pCh T n i 98 = true then run 180 35 [.ref x, w] [] (PH h x n i d e k c D) else run 180 48 [.ref x, w] [] (PH h x n i d e k c D) := by
    rw [s180_15]
    simp (disch := omega) only [s180_16, s180_19, s180_20, s180_23, s180_26, s180_27, s180_30, s180_32, gf0, gf1, gf2, gf3, gf4, gf5, gf6, gf7, gf8, gf9, gf10, gf11, gf12, gf13, gf14, pu0, pu1, pu2, pu3, pu4, pu5, pu6, pu7, pu8, pu9, pu10, pu11, pu12, pu13, pu14, rc_at, bK_some, Option.toList_some, Option.toList_none, List.cons_append, List.nil_append, PH_x, nI_lts, hi, if_true, A, hr_eq hT]
  have fin : ∀ j d' k' D' (w : Value), j ≤ n → (pCh T n j 59 = false → run 180 58 [.ref x, w] [.int (nI 1)] (PH h x n j d' e k' c D') = some (some (.int (nI 0)), PH h x n j d' e k' c D')) ∧ (pCh T n j 59 = true → run 180 58 [.ref x, w] [.int (nI 1)] (PH h x n j d' e k' c D') = run 180 15 [.ref x, .int (nI 1)] [] (PH h x n (j + 1) d' (e + 1) k' c D')) := by
    intro j d' k' D' w hj
    have P := m_passes (i := j) (d := d') (e := e) (k := k') (c := c) (D := D') hX hT hn hj (show 59 < 2 ^ 31 by omega)
    constructor
    · intro q
      rw [q] at P
      simp (disch := omega) only [s180_58, s180_59, s180_60, s180_63, s180_64, s180_66, s180_69, s180_72, s180_73, gf0, gf1, gf2, gf3, gf4, gf5, gf6, gf7, gf8, gf9, gf10, gf11, gf12, gf13, gf14, pu0, pu1, pu2, pu3, pu4, pu5, pu6, pu7, pu8, pu9, pu10, pu11, pu12, pu13, pu14, rc_at, bK_some, Option.toList_some, Option.toList_none, List.cons_append, List.nil_append, PH_x, nI_eq0, Nat.one_ne_zero, if_false, P, bI_0, if_true, z01_0, true_or, nB, Bool.false_eq_true, Nat.add_zero]
    · intro q
      rw [q] at P
      simp (disch := omega) only [s180_58, s180_59, s180_60, s180_63, s180_64, s180_66, s180_69, s180_72, s180_73, s180_74, s180_75, s180_76, s180_79, s180_80, s180_81, s180_84, gf0, gf1, gf2, gf3, gf4, gf5, gf6, gf7, gf8, gf9, gf10, gf11, gf12, gf13, gf14, pu0, pu1, pu2, pu3, pu4, pu5, pu6, pu7, pu8, pu9, pu10, pu11, pu12, pu13, pu14, rc_at, bK_some, Option.toList_some, Option.toList_none, List.cons_append, List.nil_append, PH_x, PH_sx, nI_adds, nI_eq0, Nat.one_ne_zero, if_false, P, bI_0, Bool.true_eq_false, nB, if_true]
  have bad : ∀ j d' k' D' (w : Value), run 180 58 [.ref x, w] [.int (nI 0)] (PH h x n j d' e k' c D') = some (some (.int (nI 0)), PH h x n j d' e k' c D') := by
    intro j d' k' D' w
    simp (disch := omega) only [s180_58, s180_59, s180_60, s180_63, s180_64, s180_66, s180_69, s180_72, s180_73, nI_eq0, if_true, z01_0, true_or]
  rw [st]
  unfold pEnt pOne
  cases q0 : pCh T n i 98
  · have B := m_readLink (d := d) (e := e) (c := c) (D := D) hX hT hn hi hm hN hk hy
    simp only [Bool.false_eq_true, if_false]
    cases q1 : pLnk T n (g 1) (decide (g 2 + k = 20)) i with
    | inl j =>
      rw [q1] at B
      obtain ⟨d', D', B⟩ := B
      refine ⟨d', e, k, D', ?_⟩
      simp (disch := omega) only [s180_48, s180_49, s180_50, s180_51, s180_54, s180_55, gf0, gf1, gf2, gf3, gf4, gf5, gf6, gf7, gf8, gf9, gf10, gf11, gf12, gf13, gf14, pu0, pu1, pu2, pu3, pu4, pu5, pu6, pu7, pu8, pu9, pu10, pu11, pu12, pu13, pu14, rc_at, bK_some, Option.toList_some, Option.toList_none, List.cons_append, List.nil_append, PH_x, nI_mul, B, bad]
    | inr v =>
      obtain ⟨j, a, b, l⟩ := v
      rw [q1] at B
      obtain ⟨d', D', B, b0, b1, b2, b3, b4⟩ := B
      have w1 := pLnk_inr hN.1 q1
      dsimp only
      have st2 : run 180 48 [.ref x, w] [] (PH h x n i d e k c D) = run 180 58 [.ref x, w] [.int (nI 1)] (PH h x n j d' e (k + 1) c D') := by
        simp (disch := omega) only [s180_48, s180_49, s180_50, s180_51, s180_54, s180_55, gf0, gf1, gf2, gf3, gf4, gf5, gf6, gf7, gf8, gf9, gf10, gf11, gf12, gf13, gf14, pu0, pu1, pu2, pu3, pu4, pu5, pu6, pu7, pu8, pu9, pu10, pu11, pu12, pu13, pu14, rc_at, bK_some, Option.toList_some, Option.toList_none, List.cons_append, List.nil_append, PH_x, nI_mul, B]
      rw [st2]
      cases q2 : pCh T n j 59
      · exact ⟨d', e, k + 1, D', (fin j d' (k + 1) D' w w1.2.1).1 q2⟩
      · exact ⟨_, d', D', (fin j d' (k + 1) D' w w1.2.1).2 q2, ⟨b0, b1, b2, fun _ => b3⟩, b4⟩
  · have B := m_readBehavior (d := d) (e := e) (k := k) (c := c) (D := D) hX hT hn hi hm hN hy
    simp only [if_true]
    cases q1 : pBeh T n (g 1) i with
    | inl j =>
      rw [q1] at B
      obtain ⟨d', D', B⟩ := B
      refine ⟨d', e, k, D', ?_⟩
      simp (disch := omega) only [s180_35, s180_36, s180_37, s180_38, s180_41, s180_42, s180_45, gf0, gf1, gf2, gf3, gf4, gf5, gf6, gf7, gf8, gf9, gf10, gf11, gf12, gf13, gf14, pu0, pu1, pu2, pu3, pu4, pu5, pu6, pu7, pu8, pu9, pu10, pu11, pu12, pu13, pu14, rc_at, bK_some, Option.toList_some, Option.toList_none, List.cons_append, List.nil_append, PH_x, nI_mul, B, bad]
    | inr v =>
      obtain ⟨j, a, b⟩ := v
      rw [q1] at B
      obtain ⟨d', D', B, b0, b1, b2, b4⟩ := B
      have w1 := pBeh_inr hN.1 q1
      dsimp only
      have st2 : run 180 35 [.ref x, w] [] (PH h x n i d e k c D) = run 180 58 [.ref x, w] [.int (nI 1)] (PH h x n j d' e k c D') := by
        simp (disch := omega) only [s180_35, s180_36, s180_37, s180_38, s180_41, s180_42, s180_45, gf0, gf1, gf2, gf3, gf4, gf5, gf6, gf7, gf8, gf9, gf10, gf11, gf12, gf13, gf14, pu0, pu1, pu2, pu3, pu4, pu5, pu6, pu7, pu8, pu9, pu10, pu11, pu12, pu13, pu14, rc_at, bK_some, Option.toList_some, Option.toList_none, List.cons_append, List.nil_append, PH_x, nI_mul, B]
      rw [st2]
      cases q2 : pCh T n j 59
      · exact ⟨d', e, k, D', (fin j d' k D' w w1.2.1).1 q2⟩
      · exact ⟨_, d', D', (fin j d' k D' w w1.2.1).2 q2, ⟨b0, b1, b2, fun z => absurd (show (0 : Nat) = 1 from z) (by decide)⟩, b4⟩
theorem m_readLoop (hX : hget h (x + 4) = some (dI T)) (hT : ∀ i, i < n → T i < 2 ^ 31) (hn : n ≤ 100) (hm : hget h (x + 1) = some (mI g)) (hN : 3 ≤ g 1 ∧ g 1 ≤ 10) : ∀ m i d e k D w, i ≤ n → n - i ≤ m → 4 * e ≤ i → g 2 + k ≤ 20 → match pAll T n (g 1) (g 2) m i k with
    | .inl j => ∃ d' e' k' D', run 180 15 [.ref x, w] [] (PH h x n i d e k c D) = some (some (.int (nI 0)), PH h x n j d' e' k' c D')
    | .inr es => ∃ d' k' D', run 180 15 [.ref x, w] [] (PH h x n i d e k c D) = some (some (.int (nI 1)), PH h x n n d' (e + es.length) k' c D') ∧ drL D' (4 * e) es ∧ ∀ q, q < 4 * e → D' q = D q := by
  have stop : ∀ d e k D w, run 180 15 [.ref x, w] [] (PH h x n n d e k c D) = some (some (.int (nI 1)), PH h x n n d e k c D) := by
    intro d e k D w
    rw [s180_15]
    simp (disch := omega) only [s180_16, s180_19, s180_20, s180_23, s180_87, s180_88, gf0, gf1, gf2, gf3, gf4, gf5, gf6, gf7, gf8, gf9, gf10, gf11, gf12, gf13, gf14, pu0, pu1, pu2, pu3, pu4, pu5, pu6, pu7, pu8, pu9, pu10, pu11, pu12, pu13, pu14, rc_at, bK_some, Option.toList_some, Option.toList_none, List.cons_append, List.nil_append, PH_x, nI_lts, Nat.lt_irrefl, if_false, z01_1, if_true]
  intro m
  induction m with
  | zero =>
    intro i d e k D w hi hm2 he hk
    have : i = n := by omega
    subst this
    exact ⟨d, k, D, stop d e k D w, trivial, fun _ _ => rfl⟩
  | succ m ih =>
    intro i d e k D w hi hm2 he hk
    unfold pAll
    by_cases c1 : i < n
    · rw [if_pos c1]
      have O := m_one (d := d) (c := c) (D := D) hX hT hn c1 hm hN hk (show 4 * e + 3 < 100 by omega) w
      cases q1 : pEnt T n (g 1) (decide (g 2 + k = 20)) i with
      | inl j =>
        rw [q1] at O
        exact O
      | inr v =>
        obtain ⟨j, E⟩ := v
        rw [q1] at O
        obtain ⟨w', d', D', o1, o2, o3⟩ := O
        have w1 := pEnt_inr hN.1 q1
        have w2 := pOK_1 w1.2.2.1
        have hk' : g 2 + (k + E.1) ≤ 20 := by
          by_cases z : E.1 = 1
          · have := of_decide_eq_false (w1.2.2.2 z); omega
          · omega
        have I := ih j d' (e + 1) (k + E.1) D' w' w1.2.1 (by omega) (by omega) hk'
        dsimp only
        cases q2 : pAll T n (g 1) (g 2) m j (k + E.1) with
        | inl q =>
          rw [q2] at I
          obtain ⟨d2, e2, k2, D2, I⟩ := I
          exact ⟨d2, e2, k2, D2, by rw [o1, I]⟩
        | inr es =>
          rw [q2] at I
          obtain ⟨d2, k2, D2, I, i2, i3⟩ := I
          refine ⟨d2, k2, D2, ?_, ⟨?_, i2⟩, ?_⟩
          · rw [o1, I, List.length_cons]
            rw [show e + 1 + es.length = e + (es.length + 1) from by omega]
          · obtain ⟨a0, a1, a2, a3⟩ := o2
            exact ⟨by rw [i3 _ (by omega)]; exact a0, by rw [i3 _ (by omega)]; exact a1, by rw [i3 _ (by omega)]; exact a2, fun z => by rw [i3 _ (by omega)]; exact a3 z⟩
          · intro q hq
            rw [i3 q (by omega), o3 q hq]
    · rw [if_neg c1]
      have : i = n := by omega
      subst this
      exact ⟨d, k, D, stop d e k D w, trivial, fun _ _ => rfl⟩
/-- what a text says -/
def pTxt (g T : Nat → Nat) (n : Nat) : Nat ⊕ List pE := pAll T n (g 1) (g 2) n 0 0
theorem m_readAll (hX : hget h (x + 4) = some (dI T)) (hT : ∀ i, i < n → T i < 2 ^ 31) (hn : n ≤ 100) (hm : hget h (x + 1) = some (mI g)) (hw : WF g) : match pTxt g T n with
    | .inl j => ∃ d' e' k' D', run 180 0 [.ref x, .null] [] (PH h x n i d e k c D) = some (some (.int (nI 0)), PH h x n j d' e' k' c D')
    | .inr es => ∃ d' k' D', run 180 0 [.ref x, .null] [] (PH h x n i d e k c D) = some (some (.int (nI 1)), PH h x n n d' es.length k' c D') ∧ drL D' 0 es := by
  have L := m_readLoop (c := c) hX hT hn hm hw.2.1 n 0 d 0 0 D .null (by omega) (by omega) (by omega) (by have := hw.2.2.1; omega)
  have st : run 180 0 [.ref x, .null] [] (PH h x n i d e k c D) = run 180 15 [.ref x, .null] [] (PH h x n 0 d 0 0 c D) := by
    simp (disch := omega) only [s180_0, s180_1, s180_2, s180_5, s180_6, s180_7, s180_10, s180_11, s180_12, gf0, gf1, gf2, gf3, gf4, gf5, gf6, gf7, gf8, gf9, gf10, gf11, gf12, gf13, gf14, pu0, pu1, pu2, pu3, pu4, pu5, pu6, pu7, pu8, pu9, pu10, pu11, pu12, pu13, pu14, rc_at, bK_some, Option.toList_some, Option.toList_none, List.cons_append, List.nil_append, PH_x, PH_sx]
  rw [st]
  unfold pTxt
  cases q : pAll T n (g 1) (g 2) n 0 0 with
  | inl j => rw [q] at L; exact L
  | inr es =>
    rw [q] at L
    obtain ⟨d', k', D', l1, l2, _⟩ := L
    exact ⟨d', k', D', by rw [l1, Nat.zero_add], l2⟩
def qFault (g T : Nat → Nat) (n : Nat) : Int32 := match pTxt g T n with
  | .inl j => nI j
  | .inr _ => -4
theorem m_faultPosition (hX : hget h (x + 4) = some (dI T)) (hT : ∀ i, i < n → T i < 2 ^ 31) (hn : n ≤ 100) (hm : hget h (x + 1) = some (mI g)) (hw : WF g) : ∃ i' d' e' k' D', run 181 0 [.ref x] [] (PH h x n i d e k c D) = some (some (.int (qFault g T n)), PH h x n i' d' e' k' c D') := by
  have L := m_readAll (i := i) (d := d) (e := e) (k := k) (c := c) (D := D) hX hT hn hm hw
  unfold qFault
  cases q : pTxt g T n with
  | inl j =>
    rw [q] at L
    obtain ⟨d', e', k', D', L⟩ := L
    exact ⟨j, d', e', k', D', by simp (disch := omega) only [s181_0, s181_1, s181_4, s181_7, s181_9, s181_12, s181_13, s181_16, gf0, gf1, gf2, gf3, gf4, gf5, gf6, gf7, gf8, gf9, gf10, gf11, gf12, gf13, gf14, pu0, pu1, pu2, pu3, pu4, pu5, pu6, pu7, pu8, pu9, pu10, pu11, pu12, pu13, pu14, rc_at, bK_some, Option.toList_some, Option.toList_none, List.cons_append, List.nil_append, PH_x, L, nI_eq0, if_true]⟩
  | inr es =>
    rw [q] at L
    obtain ⟨d', k', D', L, _⟩ := L
    exact ⟨n, d', es.length, k', D', by simp (disch := omega) only [s181_0, s181_1, s181_4, s181_7, s181_9, s181_12, s181_13, s181_16, gf0, gf1, gf2, gf3, gf4, gf5, gf6, gf7, gf8, gf9, gf10, gf11, gf12, gf13, gf14, pu0, pu1, pu2, pu3, pu4, pu5, pu6, pu7, pu8, pu9, pu10, pu11, pu12, pu13, pu14, rc_at, bK_some, Option.toList_some, Option.toList_none, List.cons_append, List.nil_append, PH_x, L, nI_eq0, Nat.one_ne_zero, if_false]⟩
end MQ
