/-! the class: a text is read -/
section RDx
variable {h : aH} {x n : Nat} {T : Nat → Nat}
/-- an entry carried out -/
def cyE (C : nC) (E : pE) : nC := if E.1 = 1 then plC C E.2.1 E.2.2.1 E.2.2.2 else upK C 3 E.2.1 (w3 E.2.2.1 (C 3 E.2.1 5) (C 3 E.2.1 6))
theorem c_carryOut {N L : Nat} {s : eS} {E : pE} {g : Nat → Nat} {C : nC} (hx : CH h x n) (F : FE s L E) (hE : pOK N E) (hN : N ≤ 10) (H : PicB g C) (h1 : g 1 = N) (h2 : E.1 = 1 → g 2 < 20) : run 101 0 [.ref x] [] (RHp h x C N s) = some (none, RHp h x (cyE C E) N s) := by
  obtain ⟨f0, f1, f2, f3, f4, f5⟩ := F
  have n0' : hget (RHp h x C N s) (x + 1) = some (.inr (2, [.int (nI (C 0 0 0)), .ref (x + 1 + 1), .int (nI (C 0 0 2)), .ref (x + 1 + 2), .int (nI (C 0 0 4)), .ref (x + 1 + 93), .long (lN (C 0 0 6)), .int (nI (C 0 0 7)), .int (nI (C 0 0 8))])) := NH_0
  have n2' : hget (RHp h x C N s) (x + 1 + 2) = some (.inl (3, 10, .inr (fun i => if i < 10 then some (ndA (x + 1) i) else none))) := NH_2
  have o1 : C 0 0 2 = N := by rw [H.1.2.1, h1]
  have o2 := H.1.2.2.1
  unfold cyE
  rcases hE with ⟨e1, e2, e3, e4⟩ | ⟨e1, e2, e3, e4⟩
  · have h20 := h2 e1
    obtain ⟨f6, f7⟩ := f4 e1
    have P : run 18 0 [.ref (x + 1), .int (nI E.2.1), .int (nI E.2.2.1), .int (nI E.2.2.2), .null] [] (RHp h x C N s) = some (none, RHp h x (plC C E.2.1 E.2.2.1 E.2.2.2) N s) := c_putLink (by omega)
    rw [e1] at f2
    simp (disch := omega) only [s101_0, s101_1, s101_4, s101_7, s101_10, s101_11, s101_14, s101_15, s101_18, s101_21, s101_22, s101_25, s101_28, s101_29, s101_32, s101_35, s101_38, s101_41, s101_42, s101_45, s101_46, s101_49, s101_52, s101_55, s101_58, s101_59, s101_62, s101_65, s101_66, s101_69, s101_72, s101_73, s101_74, s101_77, s101_80, s101_83, gf0, gf1, gf2, gf3, gf4, gf5, gf6, gf7, gf8, gf9, gf10, gf11, gf12, gf13, gf14, pu0, pu1, pu2, pu3, pu4, pu5, pu6, pu7, pu8, pu9, pu10, pu11, pu12, pu13, pu14, rc_at, bK_some, Option.toList_some, Option.toList_none, List.cons_append, List.nil_append, RHp_x hx, RHp_r, n0', f2, f3, f6, f7, z1_0, if_false, P, e1, if_true]
  · have f6 := f5 e1
    rw [e1] at f2
    have hr : hrI (nI E.2.1) (C 0 0 2) = true := by
      unfold hrI
      rw [o1]
      simp only [nI_gt0 (show E.2.1 < 2 ^ 31 by omega), nI_lts (show E.2.1 < 2 ^ 31 by omega) (show N < 2 ^ 31 by omega)]
      simp
      omega
    have P : run 21 0 [.ref (x + 1), .int (nI E.2.1)] [] (RHp h x C N s) = some (some (.int (bI (hrI (nI E.2.1) (C 0 0 2)))), RHp h x C N s) := c_hasReceiver _
    have hv : E.2.1 < 10 := by omega
    have nv : hget (RHp h x C N s) (ndA (x + 1) E.2.1) = some (.inr (3, [.ref (ndA (x + 1) E.2.1 + 1), .ref (ndA (x + 1) E.2.1 + 4), .ref (ndA (x + 1) E.2.1 + 7), .ref (ndA (x + 1) E.2.1 + 8), .int (nI (C 3 E.2.1 4)), .int (nI (C 3 E.2.1 5)), .int (nI (C 3 E.2.1 6))])) := NH_n hv
    have ns : ∀ k y z, hset (RHp h x C N s) (ndA (x + 1) E.2.1) (.inr (3, [.ref (ndA (x + 1) E.2.1 + 1), .ref (ndA (x + 1) E.2.1 + 4), .ref (ndA (x + 1) E.2.1 + 7), .ref (ndA (x + 1) E.2.1 + 8), .int (nI k), .int (nI y), .int (nI z)])) = RHp h x (upK C 3 E.2.1 (w3 k y z)) N s := fun k y z => NH_sn hv
    have z01 : (0 : Nat) ≠ 1 := by decide
    simp (disch := omega) only [s101_0, s101_1, s101_4, s101_7, s101_10, s101_11, s101_14, s101_15, s101_18, s101_21, s101_22, s101_25, s101_28, s101_29, s101_32, s101_35, s101_38, s101_41, s101_42, s101_45, s101_46, s101_49, s101_52, s101_55, s101_58, s101_59, s101_62, s101_65, s101_66, s101_69, s101_72, s101_73, s101_74, s101_77, s101_80, s101_83, gf0, gf1, gf2, gf3, gf4, gf5, gf6, gf7, gf8, gf9, gf10, gf11, gf12, gf13, gf14, pu0, pu1, pu2, pu3, pu4, pu5, pu6, pu7, pu8, pu9, pu10, pu11, pu12, pu13, pu14, rc_at, bK_some, Option.toList_some, Option.toList_none, List.cons_append, List.nil_append, RHp_x hx, RHp_r, n0', n2', f2, f3, f6, z0_0, if_true, P, hr, bI_t, z1_0, if_false, al_nd, nv, ns, e1, z01]
theorem PicB_ent {N : Nat} {E : pE} {g : Nat → Nat} {C : nC} (hE : pOK N E) (hN : N ≤ 10) (H : PicB g C) (h2 : E.1 = 1 → g 2 < 20) : PicB (gEnt g E) (cyE C E) := by
  unfold gEnt cyE
  rcases hE with ⟨e1, e2, e3, e4⟩ | ⟨e1, e2, e3, e4⟩
  · rw [if_pos e1, if_pos e1]
    exact PicB_lay H (h2 e1) _ _ _
  · rw [if_neg (by omega), if_neg (by omega)]
    exact PicB_beh H (by omega)
theorem WB_ent {N : Nat} {E : pE} {g : Nat → Nat} (hE : pOK N E) (hN : N ≤ 10) (hw : WB g) (h1 : g 1 = N) (h2 : E.1 = 1 → g 2 < 20) : WB (gEnt g E) := by
  unfold gEnt
  rcases hE with ⟨e1, e2, e3, e4⟩ | ⟨e1, e2, e3, e4⟩
  · rw [if_pos e1]
    exact WB_lay hw (h2 e1) e2 (by omega) e4
  · rw [if_neg (by omega)]
    exact WB_beh hw (by omega) (by omega) e4
theorem gEnt_1 (g : Nat → Nat) {E : pE} {N : Nat} (hE : pOK N E) (hN : N ≤ 10) : gEnt g E 1 = g 1 := by
  unfold gEnt gLay
  rcases hE with ⟨e1, e2, e3, e4⟩ | ⟨e1, e2, e3, e4⟩
  · rw [if_pos e1, up_ne (by omega), up_ne (by omega), up_ne (by omega), up_ne (by omega)]
  · rw [if_neg (by omega), up_ne (by omega)]
theorem r_step {N i e : Nat} {s : eS} {C : nC} (hx : CH h x n) (hT : hget h (x + 143) = some (tI T)) (hn : n ≤ 100) (ht : ∀ i, i < n → T i < 2 ^ 31) (hs : SOK s) (hi : i < n) : run 100 37 [.ref x, .int (nI e), .int (nI i)] [] (RHp h x C N s) = if (tk N s (T i)).2.1 = 0 then bK (run 101 0 [.ref x] [] (RHp h x C N (tk N s (T i)).2)) (fun v h1 => run 100 37 [.ref x, .int (nI (e + 1)), .int (nI (i + 1))] (v.toList ++ []) h1) else run 100 37 [.ref x, .int (nI e), .int (nI (i + 1))] [] (RHp h x C N (tk N s (T i)).2) := by
  have K := c_tk (h := h) (x := x) (C := C) (N := N) (ht i hi) hs
  have B := c_bt (h := h) (x := x) (C := C) (N := N) (hs.nxt (N := N) (c := T i))
  rw [s100_37]
  simp (disch := omega) only [s100_38, s100_39, s100_42, s100_45, s100_46, s100_49, s100_50, s100_53, s100_54, s100_55, s100_58, s100_59, s100_60, s100_63, gf0, gf1, gf2, gf3, gf4, gf5, gf6, gf7, gf8, gf9, gf10, gf11, gf12, gf13, gf14, pu0, pu1, pu2, pu3, pu4, pu5, pu6, pu7, pu8, pu9, pu10, pu11, pu12, pu13, pu14, rc_at, bK_some, Option.toList_some, Option.toList_none, List.cons_append, List.nil_append, RHp_x hx, RHp_t hT, RHp_r, nI_lts, hi, if_true, al_t, K, B]
  by_cases q : (tk N s (T i)).2.1 = 0
  · simp only [q, decide_true, bI_t, s100_66, s100_69, s100_70, z1_0, if_false, if_true, gf0, gf1, gf2, gf3, gf4, gf5, gf6, gf7, gf8, gf9, gf10, gf11, gf12, gf13, gf14, pu0, pu1, pu2, pu3, pu4, pu5, pu6, pu7, pu8, pu9, pu10, pu11, pu12, pu13, pu14, rc_at, bK_some, Option.toList_some, Option.toList_none, List.cons_append, List.nil_append, RHp_x hx]
    congr 1
    funext v h1
    cases v <;> simp only [Option.toList_some, Option.toList_none, s100_73, s100_76, s100_79, nI_adds, gf0, gf1, gf2, gf3, gf4, gf5, gf6, gf7, gf8, gf9, gf10, gf11, gf12, gf13, gf14, pu0, pu1, pu2, pu3, pu4, pu5, pu6, pu7, pu8, pu9, pu10, pu11, pu12, pu13, pu14, rc_at, bK_some, Option.toList_some, Option.toList_none, List.cons_append, List.nil_append]
  · simp only [q, decide_false, bI_f, s100_66, s100_69, s100_70, s100_73, s100_76, s100_79, z0_0, if_false, if_true, nI_adds]
theorem r_entry {N i e d L : Nat} {s s' : eS} {E : pE} {g : Nat → Nat} {C : nC} (hx : CH h x n) (hT : hget h (x + 143) = some (tI T)) (hn : n ≤ 100) (ht : ∀ i, i < n → T i < 2 ^ 31) (hs : SOK s) (K : Cn T N i s d s') (hd0 : 0 < d) (hd : i + d ≤ n) (F : FE s' L E) (hE : pOK N E) (hN : N ≤ 10) (H : PicB g C) (h1 : g 1 = N) (h2 : E.1 = 1 → g 2 < 20) : run 100 37 [.ref x, .int (nI e), .int (nI i)] [] (RHp h x C N s) = run 100 37 [.ref x, .int (nI (e + 1)), .int (nI (i + d))] [] (RHp h x (cyE C E) N s') := by
  obtain ⟨a1, a2, a3⟩ := K
  have key : ∀ t, t < d → run 100 37 [.ref x, .int (nI e), .int (nI i)] [] (RHp h x C N s) = run 100 37 [.ref x, .int (nI e), .int (nI (i + t))] [] (RHp h x C N (itS T N i s t)) := by
    intro t
    induction t with
    | zero => intro _; rfl
    | succ t ih =>
      intro htd
      rw [ih (by omega), r_step hx hT hn ht (hs.it t) (show i + t < n by omega)]
      have := a3 (t + 1) (by omega) htd
      rw [if_neg (show ¬ (tk N (itS T N i s t) (T (i + t))).2.1 = 0 from this)]
      rfl
  obtain ⟨t, rfl⟩ : ∃ t, d = t + 1 := ⟨d - 1, by omega⟩
  have e' : (tk N (itS T N i s t) (T (i + t))).2 = s' := a1
  rw [key t (by omega), r_step hx hT hn ht (hs.it t) (show i + t < n by omega), e', if_pos F.1, c_carryOut hx F hE hN H h1 h2, bK_some]
  rfl
theorem r_all {N L : Nat} (hx : CH h x n) (hT : hget h (x + 143) = some (tI T)) (hn : n ≤ 100) (ht : ∀ i, i < n → T i < 2 ^ 31) (hN : 3 ≤ N ∧ N ≤ 10) : ∀ m i k s C e es g, pAll T n N L m i k = .inr es → n - i ≤ m → i ≤ n → s.1 = 0 → s.2.1 = L + k → L + k ≤ 20 → PicB g C → WB g → g 1 = N → g 2 = L + k → ∃ s' C', run 100 37 [.ref x, .int (nI e), .int (nI i)] [] (RHp h x C N s) = run 100 37 [.ref x, .int (nI (e + es.length)), .int (nI n)] [] (RHp h x C' N s') ∧ PicB (es.foldl gEnt g) C' ∧ WB (es.foldl gEnt g) := by
  intro m
  induction m with
  | zero =>
    intro i k s C e es g q h1 h2 hs hL hk P W g1 g2
    simp only [pAll] at q
    cases q
    have : i = n := by omega
    subst this
    exact ⟨s, C, rfl, P, W⟩
  | succ m ih =>
    intro i k s C e es g q h1 h2 hs hL hk P W g1 g2
    have hS : SOK s := ⟨by omega, by omega⟩
    simp only [pAll] at q
    by_cases c : i < n
    · have E := entry (T := T) (n := n) (N := N) (L := L + k) (i := i) (s := s) hN hk hs hL c
      simp only [c, if_true] at q
      cases q1 : pEnt T n N (decide (L + k = 20)) i with
      | inl j => rw [q1] at q; cases q
      | inr je =>
        obtain ⟨j, E'⟩ := je
        rw [q1] at E q
        dsimp only at E q
        obtain ⟨p1, p2, p3, p4⟩ := pEnt_inr hN.1 q1
        obtain ⟨d, s', rfl, e1, e2⟩ := E
        have k1 := pOK_1 p3
        have hz : E'.1 = 1 → L + k ≠ 20 := fun z => by
          have := p4 z
          rw [decide_eq_false_iff_not] at this
          exact this
        have hk' : L + (k + E'.1) ≤ 20 := by
          by_cases z : E'.1 = 1
          · have := hz z; omega
          · omega
        have h2' : E'.1 = 1 → g 2 < 20 := fun z => by have := hz z; omega
        have R := r_entry (e := e) hx hT hn ht hS e1 (by omega) p2 e2 p3 hN.2 P g1 h2'
        cases q2 : pAll T n N L m (i + d) (k + E'.1) with
        | inl j2 => rw [q2] at q; cases q
        | inr es2 =>
          rw [q2] at q
          cases q
          obtain ⟨s2, C2, r2, P2, W2⟩ := ih (i + d) (k + E'.1) s' (cyE C E') (e + 1) es2 (gEnt g E') q2 (by omega) p2 e2.1 (by rw [e2.2.1]; omega) hk' (PicB_ent p3 hN.2 P h2') (WB_ent p3 hN.2 W g1 h2') (by rw [gEnt_1 g p3 hN.2]; exact g1) (by rw [gEnt_2 g p3 hN.2, g2]; omega)
          refine ⟨s2, C2, ?_, P2, W2⟩
          rw [R, r2]
          simp only [List.length_cons]
          rw [show e + 1 + es2.length = e + (es2.length + 1) from by omega]
    · have : i = n := by omega
      subst this
      simp only [c, if_false] at q
      cases q
      exact ⟨s, C, rfl, P, W⟩
theorem c_read {N0 : Nat} {s0 : eS} {g : Nat → Nat} {C : nC} (hx : CH h x n) (hT : hget h (x + 143) = some (tI T)) (hr : hget h (x + 144) = some (eC N0 s0)) (hn : n ≤ 100) (ht : ∀ i, i < n → T i < 2 ^ 31) (H : Pic g C) (hw : WF g) : ∃ s' C', run 100 0 [.ref x, .null, .null] [] (NH h (x + 1) C) = some (some (.int (oRead g T n).1), RHp h x C' (g 1) s') ∧ Pic (oRead g T n).2 C' ∧ WF (oRead g T n).2 := by
  obtain ⟨s1, r1, b1⟩ := c_fault hx hT hr hn ht H hw
  have hxx := hx.at
  unfold oRead
  unfold qFault at r1
  cases q : pTxt g T n with
  | inl j =>
    rw [q] at r1
    have := b1 j q
    refine ⟨s1, C, ?_, H, hw⟩
    simp (disch := omega) only [s100_0, s100_1, s100_4, s100_6, s100_9, s100_11, gf0, gf1, gf2, gf3, gf4, gf5, gf6, gf7, gf8, gf9, gf10, gf11, gf12, gf13, gf14, pu0, pu1, pu2, pu3, pu4, pu5, pu6, pu7, pu8, pu9, pu10, pu11, pu12, pu13, pu14, rc_at, bK_some, Option.toList_some, Option.toList_none, List.cons_append, List.nil_append, hxx, r1, nI_m4 (show j < 2 ^ 31 by omega), if_false]
  | inr es =>
    rw [q] at r1
    dsimp only at r1 ⊢
    have hb : run 1 0 [.ref (x + 144), .int (nI (g 1)), .int (nI (g 2))] [] (RHp h x C (g 1) s1) = some (none, RHp h x C (g 1) (0, g 2, s1.2.2)) := by rw [RHp_eq, c_rbegin, RHp_eq]
    have n0' : hget (RHp h x C (g 1) s1) (x + 1) = some (.inr (2, [.int (nI (C 0 0 0)), .ref (x + 1 + 1), .int (nI (C 0 0 2)), .ref (x + 1 + 2), .int (nI (C 0 0 4)), .ref (x + 1 + 93), .long (lN (C 0 0 6)), .int (nI (C 0 0 7)), .int (nI (C 0 0 8))])) := NH_0
    have h20 := hw.2.2.1
    obtain ⟨s2, C2, r2, P2, W2⟩ := r_all (L := g 2) hx hT hn ht hw.2.1 n 0 0 (0, g 2, s1.2.2) C 0 es g q (by omega) (by omega) rfl rfl (by omega) H.b hw.wb rfl rfl
    obtain ⟨C3, r3, P3⟩ := c_begin (h := hset h (x + 144) (eC (g 1) s2)) (b := x + 1) P2 W2.1.2
    have r3' : run 17 0 [.ref (x + 1), .null] [] (RHp h x C2 (g 1) s2) = some (none, RHp h x C3 (g 1) s2) := r3
    have n2' : hget (RHp h x C2 (g 1) s2) (x + 1) = some (.inr (2, [.int (nI (C2 0 0 0)), .ref (x + 1 + 1), .int (nI (C2 0 0 2)), .ref (x + 1 + 2), .int (nI (C2 0 0 4)), .ref (x + 1 + 93), .long (lN (C2 0 0 6)), .int (nI (C2 0 0 7)), .int (nI (C2 0 0 8))])) := NH_0
    refine ⟨s2, C3, ?_, P3, W2.begin⟩
    simp (disch := omega) only [s100_0, s100_1, s100_4, s100_6, s100_9, s100_11, s100_12, s100_13, s100_14, s100_15, s100_18, s100_19, s100_22, s100_25, s100_26, s100_29, s100_32, s100_35, s100_36, gf0, gf1, gf2, gf3, gf4, gf5, gf6, gf7, gf8, gf9, gf10, gf11, gf12, gf13, gf14, pu0, pu1, pu2, pu3, pu4, pu5, pu6, pu7, pu8, pu9, pu10, pu11, pu12, pu13, pu14, rc_at, bK_some, Option.toList_some, Option.toList_none, List.cons_append, List.nil_append, hxx, r1, if_true, RHp_x hx, RHp_r, n0', H.1.2.1, H.1.2.2.1, hb]
    rw [r2, s100_37]
    simp (disch := omega) only [s100_38, s100_39, s100_42, s100_82, s100_83, s100_86, s100_89, s100_90, gf0, gf1, gf2, gf3, gf4, gf5, gf6, gf7, gf8, gf9, gf10, gf11, gf12, gf13, gf14, pu0, pu1, pu2, pu3, pu4, pu5, pu6, pu7, pu8, pu9, pu10, pu11, pu12, pu13, pu14, rc_at, bK_some, Option.toList_some, Option.toList_none, List.cons_append, List.nil_append, RHp_x hx, n2', nI_lts, Nat.lt_irrefl, if_false, r3', Nat.zero_add]
theorem gEnts_6 {N : Nat} (hN : N ≤ 10) {i : Nat} (hi : i < 8) : ∀ (es : List pE) (g : Nat → Nat), (∀ E, E ∈ es → pOK N E) → es.foldl gEnt g (6 + i) = g (6 + i) := by
  intro es
  induction es with
  | nil => intro g _; rfl
  | cons E es ih =>
    intro g h
    show es.foldl gEnt (gEnt g E) (6 + i) = _
    rw [ih (gEnt g E) (fun F hF => h F (List.mem_cons_of_mem _ hF))]
    have hE := h E (List.mem_cons_self)
    unfold gEnt gLay
    rcases hE with ⟨e1, e2, e3, e4⟩ | ⟨e1, e2, e3, e4⟩
    · rw [if_pos e1, up_ne (by omega), up_ne (by omega), up_ne (by omega), up_ne (by omega)]
    · rw [if_neg (by omega), up_ne (by omega)]
end RDx
