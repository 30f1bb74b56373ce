/-! the class: texts -/
def tI (T : Nat → Nat) : aC := .inl (2, 100, .inl (nf T))
def CO (x n : Nat) : aC := .inr (6, [.ref (x + 1), .ref (x + 135), .ref (x + 136), .ref (x + 140), .ref (x + 143), .int (nI n), .ref (x + 144)])
theorem al_t {T : Nat → Nat} {i : Nat} {α : Type} {K : Int32 → Option α} (hi : i < 100) : alK (nI i) (some (tI T)) (fun t => t == 2) K = K (nI (T i)) := by
  unfold tI; rw [al_C hi (by decide)]; rfl
theorem as_t {T : Nat → Nat} {i v : Nat} {α : Type} {K : aC → Option α} (hi : i < 100) : asK (nI i) (some (tI T)) 2 (nI v) K = K (tI (up T i v)) := by
  unfold tI; rw [as_I hi (by decide), upd_nf]
theorem nar_c : ∀ j, j < 127 → vp_nar .char ((nI j).toUInt32 % 65536).toInt32 = nI j := by decide +kernel
def SOK (s : eS) : Prop := s.1 ≤ 8 ∧ s.2.1 ≤ 20
theorem SOK.nxt {N : Nat} {s : eS} {c : Nat} (h : SOK s) : SOK (tk N s c).2 := by
  refine ⟨tk_pl h.1, ?_⟩
  obtain ⟨pl, L, il, fi, se, lo, be⟩ := s
  have h2 : L ≤ 20 := h.2
  unfold tk
  dsimp only
  repeat' split
  all_goals (dsimp only; omega)
theorem SOK.it {T : Nat → Nat} {N i : Nat} {s : eS} (h : SOK s) : ∀ d, SOK (itS T N i s d) := by
  intro d
  induction d with
  | zero => exact h
  | succ d ih => exact ih.nxt
section TX
variable {h : aH} {x n : Nat} {g T : Nat → Nat} {C : nC}
theorem c_append (hx : CH h x n) (hT : hget h (x + 143) = some (tI T)) (hn : n ≤ 100) (v : Int32) : run 97 0 [.ref x, .int v] [] (NH h (x + 1) C) = some (some (.int (oApp T n v).1), NH (hset (hset h (x + 143) (tI (oApp T n v).2.1)) x (CO x (oApp T n v).2.2)) (x + 1) C) := by
  have hxx := hx.at
  have same : hset (hset h (x + 143) (tI T)) x (CO x n) = h := by rw [hset_same hT]; exact hset_same hx
  have t0 : hget (NH h (x + 1) C) (x + 143) = some (tI T) := by rw [NH_out (by omega)]; exact hT
  unfold oApp
  by_cases c : inI v (nI 32) (nI 126) = true
  · obtain ⟨j, h1, h2, rfl, h3⟩ := inI_t (by decide) (by decide) c
    by_cases c2 : n = 100
    · simp only [c, c2, if_true]
      rw [← c2, same]
      simp (disch := omega) only [s97_0, s97_1, s97_3, s97_6, s97_7, s97_9, s97_12, s97_13, s97_14, s97_15, s97_18, s97_20, s97_23, s97_25, gf0, gf1, gf2, gf3, gf4, gf5, gf6, gf7, gf8, gf9, gf10, gf11, gf12, gf13, gf14, pu0, pu1, pu2, pu3, pu4, pu5, pu6, pu7, pu8, pu9, pu10, pu11, pu12, pu13, pu14, rc_at, bK_some, Option.toList_some, Option.toList_none, List.cons_append, List.nil_append, hxx, ite_in, c, if_true, nI_lts, show ¬ n < 100 from by omega, show ¬ j < 32 from by omega, show ¬ 126 < j from by omega, if_false]
    · simp only [c, c2, if_true, if_false, h3]
      have x1 : ∀ c, hget (hset (NH h (x + 1) C) (x + 143) c) x = some (.inr (6, [.ref (x + 1), .ref (x + 135), .ref (x + 136), .ref (x + 140), .ref (x + 143), .int (nI n), .ref (x + 144)])) := fun c => by rw [hget_ne (by omega)]; exact hxx C
      simp (disch := omega) only [s97_0, s97_1, s97_3, s97_6, s97_7, s97_9, s97_12, s97_13, s97_14, s97_15, s97_18, s97_20, s97_23, s97_25, s97_26, s97_27, s97_30, s97_31, s97_34, s97_35, s97_36, s97_37, s97_38, s97_39, s97_42, s97_43, s97_44, s97_47, s97_48, s97_51, gf0, gf1, gf2, gf3, gf4, gf5, gf6, gf7, gf8, gf9, gf10, gf11, gf12, gf13, gf14, pu0, pu1, pu2, pu3, pu4, pu5, pu6, pu7, pu8, pu9, pu10, pu11, pu12, pu13, pu14, rc_at, bK_some, Option.toList_some, Option.toList_none, List.cons_append, List.nil_append, hxx, x1, t0, ite_in, c, if_true, nI_lts, show n < 100 from by omega, show ¬ j < 32 from by omega, show ¬ 126 < j from by omega, if_false, nar_c j (by omega), as_t, nI_adds, hget_set]
      rw [NH_set (by omega), NH_set (by omega)]
      rfl
  · have c' : inI v (nI 32) (nI 126) = false := by simpa using c
    simp only [c', Bool.false_eq_true, if_false]
    rw [same]
    simp only [s97_0, s97_1, s97_3, s97_6, s97_7, s97_9, s97_12, s97_13, ite_in, c', Bool.false_eq_true, if_false]
theorem c_clearText (hx : CH h x n) : run 98 0 [.ref x, .null] [] (NH h (x + 1) C) = some (some (.int (nI n)), NH (hset h x (CO x 0)) (x + 1) C) := by
  have hxx := hx.at
  simp (disch := omega) only [s98_0, s98_1, s98_4, s98_5, s98_6, s98_7, s98_10, s98_11, gf0, gf1, gf2, gf3, gf4, gf5, gf6, gf7, gf8, gf9, gf10, gf11, gf12, gf13, gf14, pu0, pu1, pu2, pu3, pu4, pu5, pu6, pu7, pu8, pu9, pu10, pu11, pu12, pu13, pu14, rc_at, bK_some, Option.toList_some, Option.toList_none, List.cons_append, List.nil_append, hxx]
  rw [NH_set (by omega)]
  rfl
theorem c_rbegin {h : aH} {z N0 N L : Nat} {s : eS} : run 1 0 [.ref z, .int (nI N), .int (nI L)] [] (hset h z (eC N0 s)) = some (none, hset h z (eC N (0, L, s.2.2))) := by
  unfold eC
  simp only [s1_0, s1_1, s1_2, s1_5, s1_6, s1_7, s1_10, s1_11, s1_12, s1_15, gf0, gf1, gf2, gf3, gf4, gf5, gf6, gf7, gf8, gf9, gf10, gf11, gf12, gf13, gf14, pu0, pu1, pu2, pu3, pu4, pu5, pu6, pu7, pu8, pu9, pu10, pu11, pu12, pu13, pu14, rc_at, bK_some, Option.toList_some, Option.toList_none, List.cons_append, List.nil_append, hget_set, hset_set]
theorem c_between {h : aH} {z N : Nat} {s : eS} (hp : s.1 ≤ 8) : run 2 0 [.ref z] [] (hset h z (eC N s)) = some (some (.int (bI (decide (s.1 = 0)))), hset h z (eC N s)) := by
  unfold eC
  simp (disch := omega) only [s2_0, s2_1, s2_4, s2_7, s2_8, s2_11, s2_12, gf0, gf1, gf2, gf3, gf4, gf5, gf6, gf7, gf8, gf9, gf10, gf11, gf12, gf13, gf14, pu0, pu1, pu2, pu3, pu4, pu5, pu6, pu7, pu8, pu9, pu10, pu11, pu12, pu13, pu14, rc_at, bK_some, Option.toList_some, Option.toList_none, List.cons_append, List.nil_append, hget_set, nI_eq0, z01_0, z01_1, if_true]
  by_cases c : s.1 = 0 <;> simp [c, bI, n1]
/-- the heap with the reader at work -/
def RHp (h : aH) (x : Nat) (C : nC) (N : Nat) (s : eS) : aH := NH (hset h (x + 144) (eC N s)) (x + 1) C
theorem RHp_eq {N : Nat} {s : eS} : RHp h x C N s = hset (NH h (x + 1) C) (x + 144) (eC N s) := by unfold RHp; rw [NH_set (by omega)]
theorem c_tk {N c : Nat} {s : eS} (hc : c < 2 ^ 31) (hs : SOK s) : run 3 0 [.ref (x + 144), .int (nI c)] [] (RHp h x C N s) = some (some (.int (bI (tk N s c).1)), RHp h x C N (tk N s c).2) := by
  have := hs.2
  rw [RHp_eq, c_take hc hs.1 (by omega), RHp_eq]
theorem c_bt {N : Nat} {s : eS} (hs : SOK s) : run 2 0 [.ref (x + 144)] [] (RHp h x C N s) = some (some (.int (bI (decide (s.1 = 0)))), RHp h x C N s) := by
  rw [RHp_eq, c_between hs.1]
theorem RHp_x {N : Nat} {s : eS} (hx : CH h x n) : hget (RHp h x C N s) x = some (.inr (6, [.ref (x + 1), .ref (x + 135), .ref (x + 136), .ref (x + 140), .ref (x + 143), .int (nI n), .ref (x + 144)])) := by
  unfold RHp; rw [NH_out (by omega), hget_ne (by omega)]; exact hx
theorem RHp_t {N : Nat} {s : eS} (hT : hget h (x + 143) = some (tI T)) : hget (RHp h x C N s) (x + 143) = some (tI T) := by
  unfold RHp; rw [NH_out (by omega), hget_ne (by omega)]; exact hT
theorem RHp_r {N : Nat} {s : eS} : hget (RHp h x C N s) (x + 144) = some (.inr (0, [.int (nI s.1), .int (nI N), .int (nI s.2.1), .int (nI s.2.2.1), .int s.2.2.2.1, .int s.2.2.2.2.1, .int s.2.2.2.2.2.1, .int s.2.2.2.2.2.2])) := by
  rw [RHp_eq, hget_set]; rfl
theorem f_step {N i : Nat} {s : eS} (hx : CH h x n) (hT : hget h (x + 143) = some (tI T)) (hn : n ≤ 100) (ht : ∀ i, i < n → T i < 2 ^ 31) (hs : SOK s) (hi : i < n) : run 99 23 [.ref x, .int (nI i)] [] (RHp h x C N s) = if (tk N s (T i)).1 = true then run 99 23 [.ref x, .int (nI (i + 1))] [] (RHp h x C N (tk N s (T i)).2) else some (some (.int (nI i)), RHp h x C N (tk N s (T i)).2) := by
  have K := c_tk (h := h) (x := x) (C := C) (N := N) (ht i hi) hs
  rw [s99_23]
  simp (disch := omega) only [s99_24, s99_25, s99_28, s99_31, s99_32, s99_35, s99_36, s99_39, s99_40, s99_41, gf0, gf1, gf2, gf3, gf4, gf5, gf6, gf7, gf8, gf9, gf10, gf11, gf12, gf13, gf14, pu0, pu1, pu2, pu3, pu4, pu5, pu6, pu7, pu8, pu9, pu10, pu11, pu12, pu13, pu14, rc_at, bK_some, Option.toList_some, Option.toList_none, List.cons_append, List.nil_append, RHp_x hx, RHp_t hT, RHp_r, nI_lts, hi, if_true, al_t, K]
  cases q : (tk N s (T i)).1
  · simp only [s99_44, s99_47, s99_48, s99_49, s99_52, bI_f, z0_0, if_true, Bool.false_eq_true, if_false]
  · simp only [s99_44, s99_47, s99_48, s99_49, s99_52, bI_t, z1_0, if_true, if_false, nI_adds]
theorem f_chain {N i d : Nat} {s s' : eS} (hx : CH h x n) (hT : hget h (x + 143) = some (tI T)) (hn : n ≤ 100) (ht : ∀ i, i < n → T i < 2 ^ 31) (hs : SOK s) (H : Cn T N i s d s') (hd : i + d ≤ n) : run 99 23 [.ref x, .int (nI i)] [] (RHp h x C N s) = run 99 23 [.ref x, .int (nI (i + d))] [] (RHp h x C N s') ∧ SOK s' := by
  obtain ⟨a1, a2, _⟩ := H
  have key : ∀ e, e ≤ d → run 99 23 [.ref x, .int (nI i)] [] (RHp h x C N s) = run 99 23 [.ref x, .int (nI (i + e))] [] (RHp h x C N (itS T N i s e)) := by
    intro e
    induction e with
    | zero => intro _; rfl
    | succ e ih =>
      intro he
      rw [ih (by omega), f_step hx hT hn ht (hs.it e) (show i + e < n by omega), if_pos (a2 e (by omega))]
      rfl
  rw [key d (Nat.le_refl _), a1]
  refine ⟨rfl, ?_⟩
  rw [← a1]
  exact hs.it d
theorem f_end {N : Nat} {s : eS} (hx : CH h x n) (hn : n ≤ 100) (hs : SOK s) : run 99 23 [.ref x, .int (nI n)] [] (RHp h x C N s) = some (some (.int (if s.1 = 0 then -4 else nI n)), RHp h x C N s) := by
  have K := c_bt (h := h) (x := x) (C := C) (N := N) hs
  rw [s99_23]
  simp (disch := omega) only [s99_24, s99_25, s99_28, s99_55, s99_56, s99_59, s99_62, gf0, gf1, gf2, gf3, gf4, gf5, gf6, gf7, gf8, gf9, gf10, gf11, gf12, gf13, gf14, pu0, pu1, pu2, pu3, pu4, pu5, pu6, pu7, pu8, pu9, pu10, pu11, pu12, pu13, pu14, rc_at, bK_some, Option.toList_some, Option.toList_none, List.cons_append, List.nil_append, RHp_x hx, RHp_r, nI_lts, Nat.lt_irrefl, if_false, K]
  by_cases c : s.1 = 0
  · simp only [c, decide_true, bI_t, z1_0, if_false, s99_65, s99_67, s99_70, s99_71, s99_74, if_true]
  · simp only [c, decide_false, bI_f, z0_0, if_false, s99_65, s99_67, s99_70, s99_71, s99_74, gf0, gf1, gf2, gf3, gf4, gf5, gf6, gf7, gf8, gf9, gf10, gf11, gf12, gf13, gf14, pu0, pu1, pu2, pu3, pu4, pu5, pu6, pu7, pu8, pu9, pu10, pu11, pu12, pu13, pu14, rc_at, bK_some, Option.toList_some, Option.toList_none, List.cons_append, List.nil_append, RHp_x hx, if_true]
theorem f_all {N L : Nat} (hx : CH h x n) (hT : hget h (x + 143) = some (tI T)) (hn : n ≤ 100) (ht : ∀ i, i < n → T i < 2 ^ 31) (hN : 3 ≤ N ∧ N ≤ 10) : ∀ m i k s, n - i ≤ m → i ≤ n → s.1 = 0 → s.2.1 = L + k → L + k ≤ 20 → match pAll T n N L m i k with | .inl j => j ≤ n ∧ ∃ s', run 99 23 [.ref x, .int (nI i)] [] (RHp h x C N s) = some (some (.int (nI j)), RHp h x C N s') | .inr _ => ∃ s', run 99 23 [.ref x, .int (nI i)] [] (RHp h x C N s) = some (some (.int (-4)), RHp h x C N s') := by
  intro m
  induction m with
  | zero =>
    intro i k s h1 h2 hs hL hk
    have : i = n := by omega
    subst this
    have hS : SOK s := ⟨by omega, by omega⟩
    simp only [pAll]
    refine ⟨s, ?_⟩
    rw [f_end hx hn hS, if_pos hs]
  | succ m ih =>
    intro i k s h1 h2 hs hL hk
    have hS : SOK s := ⟨by omega, by omega⟩
    simp only [pAll]
    by_cases c : i < n
    · have E := entry (T := T) (n := n) (N := N) (L := L + k) (i := i) (s := s) hN hk hs hL c
      simp only [c, if_true]
      cases q : pEnt T n N (decide (L + k = 20)) i with
      | inl j =>
        rw [q] at E
        dsimp only at E ⊢
        obtain ⟨d, s', rfl, hj, e1, e2⟩ := E
        obtain ⟨f1, f2⟩ := f_chain (C := C) hx hT hn ht hS e1 hj
        refine ⟨hj, ?_⟩
        rcases e2 with ⟨e2, e3⟩ | ⟨e2, e3⟩
        · refine ⟨(tk N s' (T (i + d))).2, ?_⟩
          rw [f1, f_step hx hT hn ht f2 e2, e3]
          simp
        · refine ⟨s', ?_⟩
          rw [f1, e2, f_end hx hn f2, if_neg e3]
      | inr je =>
        obtain ⟨j, E'⟩ := je
        rw [q] at E
        dsimp only at E ⊢
        obtain ⟨p1, p2, p3, p4⟩ := pEnt_inr hN.1 q
        obtain ⟨d, s', rfl, e1, e2⟩ := E
        obtain ⟨f1, f2⟩ := f_chain (C := C) hx hT hn ht hS e1 p2
        have k1 := pOK_1 p3
        have hk' : L + (k + E'.1) ≤ 20 := by
          by_cases z : E'.1 = 1
          · have := p4 z
            rw [decide_eq_false_iff_not] at this
            omega
          · omega
        have I := ih (i + d) (k + E'.1) s' (by omega) p2 e2.1 (by rw [e2.2.1]; omega) hk'
        cases q2 : pAll T n N L m (i + d) (k + E'.1) with
        | inl j2 =>
          rw [q2] at I
          dsimp only at I ⊢
          obtain ⟨i1, s2, i2⟩ := I
          exact ⟨i1, s2, by rw [f1]; exact i2⟩
        | inr es =>
          rw [q2] at I
          dsimp only at I ⊢
          obtain ⟨s2, i2⟩ := I
          exact ⟨s2, by rw [f1]; exact i2⟩
    · have : i = n := by omega
      subst this
      simp only [c, if_false]
      refine ⟨s, ?_⟩
      rw [f_end hx hn hS, if_pos hs]
theorem c_fault {N0 : Nat} {s0 : eS} (hx : CH h x n) (hT : hget h (x + 143) = some (tI T)) (hr : hget h (x + 144) = some (eC N0 s0)) (hn : n ≤ 100) (ht : ∀ i, i < n → T i < 2 ^ 31) (H : Pic g C) (hw : WF g) : ∃ s', run 99 0 [.ref x, .null] [] (NH h (x + 1) C) = some (some (.int (qFault g T n)), RHp h x C (g 1) s') ∧ ∀ j, pTxt g T n = .inl j → j ≤ n := by
  have e0 : NH h (x + 1) C = RHp h x C N0 s0 := by unfold RHp; rw [hset_same hr]
  have hb : run 1 0 [.ref (x + 144), .int (nI (g 1)), .int (nI (g 2))] [] (RHp h x C N0 s0) = some (none, RHp h x C (g 1) (0, g 2, s0.2.2)) := by rw [RHp_eq, c_rbegin, RHp_eq]
  have n0' : hget (RHp h x C N0 s0) (x + 1) = some (.inr (2, [.int (nI (C 0 0 0)), .ref (x + 1 + 1), .int (nI (C 0 0 2)), .ref (x + 1 + 2), .int (nI (C 0 0 4)), .ref (x + 1 + 93), .long (lN (C 0 0 6)), .int (nI (C 0 0 7)), .int (nI (C 0 0 8))])) := NH_0
  have st : run 99 0 [.ref x, .null] [] (NH h (x + 1) C) = run 99 23 [.ref x, .int (nI 0)] [] (RHp h x C (g 1) (0, g 2, s0.2.2)) := by
    rw [e0]
    simp (disch := omega) only [s99_0, s99_1, s99_4, s99_5, s99_8, s99_11, s99_12, s99_15, s99_18, s99_21, s99_22, gf0, gf1, gf2, gf3, gf4, gf5, gf6, gf7, gf8, gf9, gf10, gf11, gf12, gf13, gf14, pu0, pu1, pu2, pu3, pu4, pu5, pu6, pu7, pu8, pu9, pu10, pu11, pu12, pu13, pu14, rc_at, bK_some, Option.toList_some, Option.toList_none, List.cons_append, List.nil_append, RHp_x hx, RHp_r, n0', H.1.2.1, H.1.2.2.1, hb]
  have A := f_all (C := C) (L := g 2) hx hT hn ht hw.2.1 n 0 0 (0, g 2, s0.2.2) (by omega) (by omega) rfl (by simp) (by have := hw.2.2.1; omega)
  have pe : pAll T n (g 1) (g 2) n 0 0 = pTxt g T n := rfl
  rw [pe] at A
  rw [st]
  unfold qFault
  cases q : pTxt g T n with
  | inl j =>
    rw [q] at A
    dsimp only at A ⊢
    obtain ⟨a1, s', a2⟩ := A
    exact ⟨s', a2, fun j' e => by cases e; exact a1⟩
  | inr es =>
    rw [q] at A
    dsimp only at A ⊢
    obtain ⟨s', a2⟩ := A
    exact ⟨s', a2, fun j' e => by cases e⟩
end TX
