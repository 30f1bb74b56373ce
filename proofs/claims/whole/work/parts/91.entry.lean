/-! a text's entry, character by character -/
def itS (T : Nat → Nat) (N i : Nat) (s : eS) : Nat → eS
  | 0 => s
  | d + 1 => (tk N (itS T N i s d) (T (i + d))).2
def Cn (T : Nat → Nat) (N i : Nat) (s : eS) (d : Nat) (s' : eS) : Prop := itS T N i s d = s' ∧ (∀ e, e < d → (tk N (itS T N i s e) (T (i + e))).1 = true) ∧ (∀ e, 0 < e → e < d → (itS T N i s e).1 ≠ 0)
theorem Cn.zero (T : Nat → Nat) (N i : Nat) (s : eS) : Cn T N i s 0 s := ⟨rfl, fun e he => absurd he (Nat.not_lt_zero _), fun e _ he => absurd he (Nat.not_lt_zero _)⟩
theorem Cn.step {T : Nat → Nat} {N i d : Nat} {s s' s'' : eS} (H : Cn T N i s d s') (h0 : d = 0 ∨ s'.1 ≠ 0) (e : tk N s' (T (i + d)) = (true, s'')) : Cn T N i s (d + 1) s'' := by
  obtain ⟨a1, a2, a3⟩ := H
  refine ⟨?_, fun k hk => ?_, fun k k0 hk => ?_⟩
  · show (tk N (itS T N i s d) (T (i + d))).2 = s''
    rw [a1, e]
  · by_cases z : k = d
    · subst z; rw [a1, e]
    · exact a2 k (by omega)
  · by_cases z : k = d
    · subst z
      rw [a1]
      rcases h0 with h0 | h0
      · omega
      · exact h0
    · exact a3 k k0 (by omega)
/-- where a text can't go on -/
def Cf (T : Nat → Nat) (n N i : Nat) (s : eS) (j : Nat) : Prop := ∃ d s', j = i + d ∧ j ≤ n ∧ Cn T N i s d s' ∧ ((j < n ∧ (tk N s' (T j)).1 = false) ∨ (j = n ∧ s'.1 ≠ 0))
theorem Cn.fail {T : Nat → Nat} {n N i d : Nat} {s s' : eS} (H : Cn T N i s d s') (hj : i + d ≤ n) (h0 : i + d < n ∨ s'.1 ≠ 0) (e : i + d < n → (tk N s' (T (i + d))).1 = false) : Cf T n N i s (i + d) := by
  refine ⟨d, s', rfl, hj, H, ?_⟩
  by_cases z : i + d < n
  · exact Or.inl ⟨z, e z⟩
  · refine Or.inr ⟨by omega, ?_⟩
    rcases h0 with h0 | h0
    · exact absurd h0 z
    · exact h0
/-- an entry taken -/
def FE (s : eS) (L : Nat) (E : pE) : Prop := s.1 = 0 ∧ s.2.1 = L + E.1 ∧ s.2.2.1 = E.1 ∧ s.2.2.2.1 = nI E.2.1 ∧ (E.1 = 1 → s.2.2.2.2.1 = nI E.2.2.1 ∧ s.2.2.2.2.2.1 = nI E.2.2.2) ∧ (E.1 = 0 → s.2.2.2.2.2.2 = nI E.2.2.1)
theorem dg_some {T : Nat → Nat} {n i a b v : Nat} (hb : b ≤ 9) (q : pDig T n i a b = some v) : dgI (T i) = nI v ∧ a ≤ v ∧ v ≤ b ∧ i < n := by
  unfold pDig at q
  split at q
  · rename_i c
    cases q
    unfold dgI
    rw [if_pos (by omega)]
    exact ⟨rfl, by omega, by omega, c.1⟩
  · cases q
theorem dg_none {T : Nat → Nat} {n i a b : Nat} (hi : i < n) (q : pDig T n i a b = none) : dgI (T i) = -1 ∨ ∃ w, w ≤ 9 ∧ dgI (T i) = nI w ∧ (w < a ∨ b < w) := by
  unfold pDig at q
  split at q
  · cases q
  · rename_i c
    unfold dgI
    by_cases z : 48 ≤ T i ∧ T i ≤ 57
    · rw [if_pos z]
      exact Or.inr ⟨T i - 48, by omega, rfl, by omega⟩
    · rw [if_neg z]; exact Or.inl rfl
theorem pCh_f {T : Nat → Nat} {n i c : Nat} (q : pCh T n i c = false) (hi : i < n) : T i ≠ c := by
  unfold pCh at q
  simp [hi] at q
  exact q
theorem pCh_e {T : Nat → Nat} {n i c : Nat} (q : pCh T n i c = true) : i < n ∧ T i = c := by
  unfold pCh at q
  exact of_decide_eq_true q
theorem m1_lt0 : ((-1 : Int32) < 0) = True := by decide
theorem m1_gt {a : Nat} (ha : a < 2 ^ 31) : (nI a < (-1 : Int32)) = False := by
  apply eq_false
  rw [Int32.lt_iff_toInt_lt, nI_toInt ha]
  have : (-1 : Int32).toInt = -1 := by decide
  omega
theorem m1_0 : ((0 : Int32) < -1) = False := by decide
section TT
variable {N L il c : Nat} {fi se lo be : Int32}
theorem tk1t (h : c = 62) : tk N (1, L, il, fi, se, lo, be) c = (true, (2, L, il, fi, se, lo, be)) := if_pos h
theorem tk1f (h : c ≠ 62) : (tk N (1, L, il, fi, se, lo, be) c).1 = false := by
  rw [show tk N (1, L, il, fi, se, lo, be) c = if c = 62 then (true, (2, L, il, fi, se, lo, be)) else (false, (1, L, il, fi, se, lo, be)) from rfl, if_neg h]
theorem tk5t (h : c = 59) : tk N (5, L, il, fi, se, lo, be) c = (true, (0, L, il, fi, se, lo, be)) := if_pos h
theorem tk5f (h : c ≠ 59) : (tk N (5, L, il, fi, se, lo, be) c).1 = false := by
  rw [show tk N (5, L, il, fi, se, lo, be) c = if c = 59 then (true, (0, L, il, fi, se, lo, be)) else (false, (5, L, il, fi, se, lo, be)) from rfl, if_neg h]
theorem tk7t (h : c = 61) : tk N (7, L, il, fi, se, lo, be) c = (true, (8, L, il, fi, se, lo, be)) := if_pos h
theorem tk7f (h : c ≠ 61) : (tk N (7, L, il, fi, se, lo, be) c).1 = false := by
  rw [show tk N (7, L, il, fi, se, lo, be) c = if c = 61 then (true, (8, L, il, fi, se, lo, be)) else (false, (7, L, il, fi, se, lo, be)) from rfl, if_neg h]
theorem tk2t (h : fi < dgI c ∧ dgI c < nI N) : tk N (2, L, il, fi, se, lo, be) c = (true, (3, L, il, fi, dgI c, lo, be)) := if_pos h
theorem tk2f (h : ¬ (fi < dgI c ∧ dgI c < nI N)) : (tk N (2, L, il, fi, se, lo, be) c).1 = false := by
  rw [show tk N (2, L, il, fi, se, lo, be) c = if fi < dgI c ∧ dgI c < nI N then (true, (3, L, il, fi, dgI c, lo, be)) else (false, (2, L, il, fi, dgI c, lo, be)) from rfl, if_neg h]
theorem tk6t (h : 0 < dgI c ∧ dgI c < nI N) : tk N (6, L, il, fi, se, lo, be) c = (true, (7, L, il, dgI c, se, lo, be)) := if_pos h
theorem tk6f (h : ¬ (0 < dgI c ∧ dgI c < nI N)) : (tk N (6, L, il, fi, se, lo, be) c).1 = false := by
  rw [show tk N (6, L, il, fi, se, lo, be) c = if 0 < dgI c ∧ dgI c < nI N then (true, (7, L, il, dgI c, se, lo, be)) else (false, (6, L, il, dgI c, se, lo, be)) from rfl, if_neg h]
theorem tk8t (h : ¬ dgI c < 0 ∧ ¬ nI 4 < dgI c) : tk N (8, L, il, fi, se, lo, be) c = (true, (5, L, il, fi, se, lo, dgI c)) := if_pos h
theorem tk8f (h : ¬ (¬ dgI c < 0 ∧ ¬ nI 4 < dgI c)) : (tk N (8, L, il, fi, se, lo, be) c).1 = false := by
  rw [show tk N (8, L, il, fi, se, lo, be) c = if ¬ dgI c < 0 ∧ ¬ nI 4 < dgI c then (true, (5, L, il, fi, se, lo, dgI c)) else (false, (8, L, il, fi, se, lo, dgI c)) from rfl, if_neg h]
theorem tk4t (h : ¬ dgI c < 0) : tk N (4, L, il, fi, se, lo, be) c = (true, (5, L, il, fi, se, dgI c, be)) := if_neg h
theorem tk4f (h : dgI c < 0) : (tk N (4, L, il, fi, se, lo, be) c).1 = false := by
  rw [show tk N (4, L, il, fi, se, lo, be) c = if dgI c < 0 then (false, (4, L, il, fi, se, dgI c, be)) else (true, (5, L, il, fi, se, dgI c, be)) from rfl, if_pos h]
theorem tk3e (c : Nat) : tk N (3, L, il, fi, se, lo, be) c = if c = 47 then (true, (4, L, il, fi, se, lo, be)) else if c = 59 then (true, (0, L, il, fi, se, lo, be)) else (false, (3, L, il, fi, se, lo, be)) := rfl
theorem tk0e (c : Nat) : tk N (0, L, il, fi, se, lo, be) c = if c = 98 then (true, (6, L, 0, fi, se, lo, be)) else if dgI c < 0 ∨ ¬ dgI c < nI N ∨ ¬ L < 20 then (false, (0, L, 1, dgI c, se, nI 0, be)) else (true, (1, L + 1, 1, dgI c, se, nI 0, be)) := rfl
end TT
theorem entry {T : Nat → Nat} {n N L i : Nat} {s : eS} (hN : 3 ≤ N ∧ N ≤ 10) (hL : L ≤ 20) (hs : s.1 = 0) (hsL : s.2.1 = L) (hi : i < n) : match pEnt T n N (decide (L = 20)) i with | .inl j => Cf T n N i s j | .inr (j, E) => ∃ d s', j = i + d ∧ Cn T N i s d s' ∧ FE s' L E := by
  obtain ⟨pl, L', il, fi, se, lo, be⟩ := s
  dsimp only at hs hsL
  subst hs
  subst hsL
  have c0 := Cn.zero T N i (0, L', il, fi, se, lo, be)
  unfold pEnt pOne
  cases qb : pCh T n i 98
  · -- a link
    have hb := pCh_f qb hi
    simp only [Bool.false_eq_true, if_false]
    unfold pLnk
    have e0 := tk0e (N := N) (L := L') (il := il) (fi := fi) (se := se) (lo := lo) (be := be) (T i)
    rw [if_neg hb] at e0
    by_cases f : L' = 20
    · rw [if_pos (Or.inr (Or.inr (by omega)))] at e0
      simp only [f, decide_true, if_true]
      rw [f] at c0 e0
      exact c0.fail (d := 0) (by omega) (Or.inl hi) (fun _ => by show (tk N _ (T i)).1 = false; rw [e0])
    · simp only [f, decide_false, Bool.false_eq_true, if_false]
      cases q1 : pDig T n i 0 (N - 1) with
      | none =>
        dsimp only
        refine c0.fail (d := 0) (by omega) (Or.inl hi) (fun _ => ?_)
        show (tk N _ (T i)).1 = false
        rw [e0, if_pos]
        rcases dg_none hi q1 with e | ⟨w, w1, e, w2⟩
        · rw [e]; exact Or.inl (by decide)
        · rw [e]
          refine Or.inr (Or.inl ?_)
          rw [nI_lts (by omega) (by omega)]
          omega
      | some a =>
        dsimp only
        obtain ⟨d1, d2, d3, d4⟩ := dg_some (by omega) q1
        rw [if_neg (by
          rw [d1, nI_lt0 (by omega), nI_lts (by omega) (by omega)]
          rintro (q | q | q)
          · exact q
          · exact q (by omega)
          · exact q (by omega)), d1] at e0
        have c1 := c0.step (Or.inl rfl) e0
        cases q2 : pCh T n (i + 1) 62
        · simp only [Bool.false_eq_true, if_false]
          exact c1.fail (by omega) (Or.inr (by simp)) (fun z => tk1f (pCh_f q2 z))
        · simp only [if_true]
          obtain ⟨p1, p2⟩ := pCh_e q2
          have c2 := c1.step (Or.inr (by simp)) (tk1t p2)
          cases q3 : pDig T n (i + 2) (a + 1) (N - 1) with
          | none =>
            dsimp only
            refine c2.fail (by omega) (Or.inr (by simp)) (fun z => tk2f ?_)
            show ¬ (_ < dgI (T (i + 2)) ∧ dgI (T (i + 2)) < _)
            rcases dg_none z q3 with e | ⟨w, w1, e, w2⟩
            · rw [e, m1_gt (by omega)]; simp
            · rw [e, nI_lts (by omega) (by omega), nI_lts (by omega) (by omega)]
              omega
          | some b =>
            dsimp only
            obtain ⟨g1, g2, g3, g4⟩ := dg_some (by omega) q3
            have c3 := c2.step (Or.inr (by simp)) (tk2t (by
              show _ < dgI (T (i + 2)) ∧ dgI (T (i + 2)) < _
              rw [g1, nI_lts (by omega) (by omega), nI_lts (by omega) (by omega)]
              omega))
            rw [show dgI (T (i + (1 + 1))) = nI b from g1] at c3
            have e3 := tk3e (N := N) (L := L' + 1) (il := 1) (fi := nI a) (se := nI b) (lo := nI 0) (be := be) (T (i + 3))
            cases q4 : pCh T n (i + 3) 47
            · simp only [Bool.false_eq_true, if_false]
              cases q5 : pCh T n (i + 3) 59
              · simp only [Bool.false_eq_true, if_false]
                refine c3.fail (by omega) (Or.inr (by simp)) (fun z => ?_)
                show (tk N _ (T (i + 3))).1 = false
                rw [e3, if_neg (pCh_f q4 z), if_neg (pCh_f q5 z)]
              · simp only [if_true]
                obtain ⟨r1, r2⟩ := pCh_e q5
                rw [if_neg (pCh_f q4 r1), if_pos r2] at e3
                exact ⟨_, _, rfl, c3.step (Or.inr (by simp)) e3, rfl, rfl, rfl, rfl, fun _ => ⟨rfl, rfl⟩, fun z => by simp at z⟩
            · simp only [if_true]
              obtain ⟨r1, r2⟩ := pCh_e q4
              rw [if_pos r2] at e3
              have c4 := c3.step (Or.inr (by simp)) e3
              cases q6 : pDig T n (i + 4) 0 9 with
              | none =>
                dsimp only
                refine c4.fail (by omega) (Or.inr (by simp)) (fun z => tk4f ?_)
                show dgI (T (i + 4)) < 0
                rcases dg_none z q6 with e | ⟨w, w1, e, w2⟩
                · rw [e]; decide
                · omega
              | some l =>
                dsimp only
                obtain ⟨k1, k2, k3, k4⟩ := dg_some (by omega) q6
                have c5 := c4.step (Or.inr (by simp)) (tk4t (by
                  show ¬ dgI (T (i + 4)) < 0
                  rw [k1, nI_lt0 (by omega)]
                  simp))
                rw [show dgI (T (i + (1 + 1 + 1 + 1))) = nI l from k1] at c5
                cases q7 : pCh T n (i + 5) 59
                · simp only [Bool.false_eq_true, if_false]
                  exact c5.fail (by omega) (Or.inr (by simp)) (fun z => tk5f (pCh_f q7 z))
                · simp only [if_true]
                  obtain ⟨t1, t2⟩ := pCh_e q7
                  exact ⟨_, _, rfl, c5.step (Or.inr (by simp)) (tk5t t2), rfl, rfl, rfl, rfl, fun _ => ⟨rfl, rfl⟩, fun z => by simp at z⟩
  · -- a behaviour
    obtain ⟨b1, b2⟩ := pCh_e qb
    simp only [if_true]
    unfold pBeh
    have e0 := tk0e (N := N) (L := L') (il := il) (fi := fi) (se := se) (lo := lo) (be := be) (T i)
    rw [if_pos b2] at e0
    have c1 := c0.step (Or.inl rfl) e0
    cases q1 : pDig T n (i + 1) 1 (N - 1) with
    | none =>
      dsimp only
      refine c1.fail (by omega) (Or.inr (by simp)) (fun z => tk6f ?_)
      show ¬ (0 < dgI (T (i + 1)) ∧ dgI (T (i + 1)) < _)
      rcases dg_none z q1 with e | ⟨w, w1, e, w2⟩
      · rw [e, m1_0]; simp
      · rw [e, nI_gt0 (by omega), nI_lts (by omega) (by omega)]
        omega
    | some a =>
      dsimp only
      obtain ⟨g1, g2, g3, g4⟩ := dg_some (by omega) q1
      have c2 := c1.step (Or.inr (by simp)) (tk6t (by
        show 0 < dgI (T (i + 1)) ∧ dgI (T (i + 1)) < _
        rw [g1, nI_gt0 (by omega), nI_lts (by omega) (by omega)]
        omega))
      rw [show dgI (T (i + (0 + 1))) = nI a from g1] at c2
      cases q2 : pCh T n (i + 2) 61
      · simp only [Bool.false_eq_true, if_false]
        exact c2.fail (by omega) (Or.inr (by simp)) (fun z => tk7f (pCh_f q2 z))
      · simp only [if_true]
        obtain ⟨p1, p2⟩ := pCh_e q2
        have c3 := c2.step (Or.inr (by simp)) (tk7t p2)
        cases q3 : pDig T n (i + 3) 0 4 with
        | none =>
          dsimp only
          refine c3.fail (by omega) (Or.inr (by simp)) (fun z => tk8f ?_)
          show ¬ (¬ dgI (T (i + 3)) < 0 ∧ ¬ nI 4 < dgI (T (i + 3)))
          rcases dg_none z q3 with e | ⟨w, w1, e, w2⟩
          · rw [e]; decide
          · rw [e, nI_lts (by omega) (by omega)]
            rintro ⟨_, q⟩
            omega
        | some b =>
          dsimp only
          obtain ⟨k1, k2, k3, k4⟩ := dg_some (by omega) q3
          have c4 := c3.step (Or.inr (by simp)) (tk8t (by
            show ¬ dgI (T (i + 3)) < 0 ∧ ¬ nI 4 < dgI (T (i + 3))
            rw [k1, nI_lt0 (by omega), nI_lts (by omega) (by omega)]
            exact ⟨id, by omega⟩))
          rw [show dgI (T (i + (0 + 1 + 1 + 1))) = nI b from k1] at c4
          cases q7 : pCh T n (i + 4) 59
          · simp only [Bool.false_eq_true, if_false]
            exact c4.fail (by omega) (Or.inr (by simp)) (fun z => tk5f (pCh_f q7 z))
          · simp only [if_true]
            obtain ⟨t1, t2⟩ := pCh_e q7
            exact ⟨_, _, rfl, c4.step (Or.inr (by simp)) (tk5t t2), rfl, rfl, rfl, rfl, fun z => by simp at z, fun _ => rfl⟩
