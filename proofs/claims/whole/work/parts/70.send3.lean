/-! sending from a node -/
def PicS (s : RS) (C : nC) : Prop := PicR s.1 (fun l => decide (s.2.1 l ≠ 0)) s.2.2.2 C
theorem WF_rG {g : Nat → Nat} (hw : WF g) (v : Nat) : WF (rG g v) := by
  unfold rG
  split
  · exact hw
  · exact hw.rnd
theorem rSend_from {v l q : Nat} {s : RS} (hl : l < 20) (hq : q < 20) (hv : v < 10) : (rSend v l s).1 (214 + 11 * q) = s.1 (214 + 11 * q) := by
  unfold rSend
  split
  · unfold gSend
    dsimp only
    rw [up_ne (by omega), up_ne (by omega), up_ne (by omega), up_ne (by omega)]
    unfold rG
    split
    · rfl
    · exact up_ne (by omega)
  · rfl
theorem rSend_is {v l : Nat} {s : RS} : ∀ q, (rSend v l s).2.1 q ≠ 0 → s.2.1 q ≠ 0 ∨ (q = l ∧ s.1 (214 + 11 * l) = v) := by
  intro q h
  unfold rSend at h
  split at h
  · rename_i c
    by_cases z : q = l
    · exact Or.inr ⟨z, c.1⟩
    · dsimp only at h
      rw [up_ne z] at h
      exact Or.inl h
  · exact Or.inl h
theorem PicS_send {v l : Nat} {s : RS} {C : nC} (H : PicS s C) (hw : WF s.1) (hv : v < 10) (hl : l < s.1 2) (h4 : s.1 (14 + v) ≠ 4) (hi : s.1 (214 + 11 * l) = v → s.2.1 l = 0) : PicS (rSend v l s) (if C 12 l 0 = v ∧ opC C l = true then sdC C v l else C) := by
  have HH := H
  obtain ⟨_, hN, hL⟩ := H
  have h20 := hw.2.2.1
  have hn := hw.2.1
  obtain ⟨⟨a0, a1, a2⟩, _⟩ := hL l (by omega)
  have hf := hw.2.2.2.1 l hl
  have eo : opC C l = opN s.1 l := by
    unfold opC opN
    rw [a0, a1, (hN _ (show s.1 (214 + 11 * l) < 10 by omega)).2.2.1, (hN _ (show s.1 (215 + 11 * l) < 10 by omega)).2.2.1]
  rw [a0, eo]
  by_cases c : s.1 (214 + 11 * l) = v ∧ opN s.1 l = true
  · rw [if_pos c]
    have X := PicR_send HH hw hv (show l < 20 by omega) (show decide (s.2.1 l ≠ 0) = false by simp [hi c.1])
    unfold PicS rSend
    rw [if_pos ⟨c.1, c.2, h4⟩]
    have ef : (fun q => decide (up s.2.1 l 1 q ≠ 0)) = (fun q => if q = l then true else decide (s.2.1 q ≠ 0)) := by
      funext q
      by_cases z : q = l
      · subst z; rw [up_same]; simp
      · rw [up_ne z, if_neg z]
    dsimp only
    rw [ef]
    exact X
  · rw [if_neg c]
    unfold PicS rSend
    rw [if_neg (fun z => c ⟨z.1, z.2.1⟩)]
    exact HH
theorem rFrom_4 {v : Nat} {s : RS} (h4 : s.1 (14 + v) = 4) (n : Nat) : foldN (rSend v) n s = s := by
  induction n with
  | zero => rfl
  | succ n ih =>
    simp only [foldN, ih]
    unfold rSend
    rw [if_neg (fun z => z.2.2 h4)]
theorem rSend_WF {v l : Nat} {s : RS} (hw : WF s.1) (hv : v < 10) (hl : l < 20) : WF (rSend v l s).1 := by
  unfold rSend
  split
  · exact (WF_rG hw v).send hl hv (xsN_lt fun i hi => hw.vlt hv hi)
  · exact hw
section S3
variable {h : aH} {b : Nat}
theorem c_sendFrom {v : Nat} {s : RS} {C : nC} (H : PicS s C) (hw : WF s.1) (hv : v < 10) (hi : ∀ l, l < 20 → s.2.1 l ≠ 0 → s.1 (214 + 11 * l) < v) : ∃ C', run 32 0 [.ref b, .int (nI v), .null, .null, .null, .null, .null, .null] [] (NH h b C) = some (none, NH h b C') ∧ PicS (rAll v s) C' ∧ WF (rAll v s).1 ∧ (∀ l, l < 20 → (rAll v s).2.1 l ≠ 0 → (rAll v s).1 (214 + 11 * l) < v + 1) ∧ (∀ j, j < 214 → j ≠ 4 → (rAll v s).1 j = s.1 j) := by
  have h20 := hw.2.2.1
  have hv7 := hw.2.2.2.2.2.2.1 v hv
  have hk := hw.1.2
  have n3 := (H.2.1 v hv).2.2.2.1
  have n0 := (H.2.1 v hv).1
  have oo2 := H.1.2.2.1
  unfold rAll
  by_cases c0 : s.1 (44 + v) = 0
  · rw [if_pos c0]
    refine ⟨C, ?_, H, hw, fun l hl z => by have := hi l hl z; omega, fun _ _ _ => rfl⟩
    rw [c0] at n3
    simp (disch := omega) only [s32_0, s32_1, s32_4, s32_5, s32_6, s32_7, s32_8, s32_11, s32_14, s32_17, s32_18, s32_21, s32_22, s32_25, gf0, gf1, gf2, gf3, gf4, gf5, gf6, gf7, gf8, gf9, gf10, gf11, gf12, gf13, gf14, pu0, pu1, pu2, pu3, pu4, pu5, pu6, pu7, pu8, pu9, pu10, pu11, pu12, pu13, pu14, rc_at, bK_some, Option.toList_some, Option.toList_none, List.cons_append, List.nil_append, NH_0, NH_2, al_nd, NH_n hv, NH_h0 hv, n3, nI_eq0, if_true]
  · rw [if_neg c0]
    unfold rFrom
    by_cases c4 : s.1 (14 + v) = 4
    · rw [rFrom_4 c4]
      refine ⟨C, ?_, H, hw, fun l hl z => by have := hi l hl z; omega, fun _ _ _ => rfl⟩
      rw [c4] at n0
      simp (disch := omega) only [s32_0, s32_1, s32_4, s32_5, s32_6, s32_7, s32_8, s32_11, s32_14, s32_17, s32_18, s32_21, s32_22, s32_25, gf0, gf1, gf2, gf3, gf4, gf5, gf6, gf7, gf8, gf9, gf10, gf11, gf12, gf13, gf14, pu0, pu1, pu2, pu3, pu4, pu5, pu6, pu7, pu8, pu9, pu10, pu11, pu12, pu13, pu14, rc_at, bK_some, Option.toList_some, Option.toList_none, List.cons_append, List.nil_append, NH_0, NH_2, al_nd, NH_n hv, NH_h0 hv, n3, nI_eq0, c0, if_false, n0, if_true]
    · have key : ∀ m, m ≤ s.1 2 → ∃ C' w5 w6 w7, run 32 43 [.ref b, .int (nI v), .ref (ndA b v), .int (nI (chN C v)), .int (nI 0), .null, .null, .null] [] (NH h b C) = run 32 43 [.ref b, .int (nI v), .ref (ndA b v), .int (nI (chN C v)), .int (nI m), w5, w6, w7] [] (NH h b C') ∧ PicS (foldN (rSend v) m s) C' ∧ WF (foldN (rSend v) m s).1 ∧ (∀ l, l < 20 → (foldN (rSend v) m s).2.1 l ≠ 0 → s.1 (214 + 11 * l) < v ∨ (s.1 (214 + 11 * l) = v ∧ l < m)) ∧ (∀ j, j < 214 → j ≠ 4 → (foldN (rSend v) m s).1 j = s.1 j) ∧ (∀ q, q < 20 → (foldN (rSend v) m s).1 (214 + 11 * q) = s.1 (214 + 11 * q)) := by
        intro m
        induction m with
        | zero => intro _; exact ⟨C, .null, .null, .null, rfl, H, hw, fun l hl z => Or.inl (hi l hl z), fun _ _ _ => rfl, fun _ _ => rfl⟩
        | succ m ih =>
          intro hm
          obtain ⟨C', w5, w6, w7, e1, e2, e3, e4, e5, e6⟩ := ih (by omega)
          simp only [foldN]
          generalize foldN (rSend v) m s = t at e2 e3 e4 e5 e6 ⊢
          have t2 : t.1 2 = s.1 2 := e5 2 (by omega) (by omega)
          have t44 : t.1 (44 + v) = s.1 (44 + v) := e5 _ (by omega) (by omega)
          have t14 : t.1 (14 + v) = s.1 (14 + v) := e5 _ (by omega) (by omega)
          have ech : chN C v = chN C' v := by
            unfold chN
            rw [n0, (e2.2.1 v hv).1, t14]
          have o2 : C' 0 0 4 = t.1 2 := e2.1.2.2.1
          obtain ⟨u5, u6, u7, f1⟩ := c_sendStep (h := h) (b := b) (l := m) hv (by rw [o2]; omega) (e2.ok e3 hv (by omega)) w5 w6 w7
          rw [← ech] at f1
          refine ⟨_, u5, u6, u7, e1.trans f1, PicS_send e2 e3 hv (by omega) (by rw [t14]; exact c4) ?_, rSend_WF e3 hv (by omega), ?_, ?_, ?_⟩
          · intro z
            rw [e6 m (by omega)] at z
            cases hz : t.2.1 m with
            | zero => rfl
            | succ k =>
              have := e4 m (by omega) (by omega)
              omega
          · intro l hl z
            rcases rSend_is l z with z | ⟨z1, z2⟩
            · have := e4 l hl z; omega
            · rw [e6 m (by omega)] at z2
              subst z1
              omega
          · intro j j1 j2
            rw [(rSend_low (by omega) hv e3).1 j j1 j2, e5 j j1 j2]
          · intro q hq
            rw [rSend_from (by omega) hq hv, e6 q hq]
      obtain ⟨C', w5, w6, w7, e1, e2, e3, e4, e5, e6⟩ := key _ (Nat.le_refl _)
      refine ⟨C', ?_, e2, e3, ?_, e5⟩
      · have o2 : C' 0 0 4 = s.1 2 := by rw [e2.1.2.2.1]; exact e5 2 (by omega) (by omega)
        have st : run 32 0 [.ref b, .int (nI v), .null, .null, .null, .null, .null, .null] [] (NH h b C) = run 32 43 [.ref b, .int (nI v), .ref (ndA b v), .int (nI (chN C v)), .int (nI 0), .null, .null, .null] [] (NH h b C) := by
          unfold chN
          rw [n0]
          by_cases c3 : s.1 (14 + v) = 3
          · have z34 : (3 : Nat) ≠ 4 := by decide
            simp (disch := omega) only [s32_0, s32_1, s32_4, s32_5, s32_6, s32_7, s32_8, s32_11, s32_14, s32_17, s32_18, s32_21, s32_22, s32_25, s32_26, s32_27, s32_30, s32_31, s32_34, s32_35, s32_38, s32_39, s32_40, s32_41, gf0, gf1, gf2, gf3, gf4, gf5, gf6, gf7, gf8, gf9, gf10, gf11, gf12, gf13, gf14, pu0, pu1, pu2, pu3, pu4, pu5, pu6, pu7, pu8, pu9, pu10, pu11, pu12, pu13, pu14, rc_at, bK_some, Option.toList_some, Option.toList_none, List.cons_append, List.nil_append, NH_0, NH_2, al_nd, NH_n hv, NH_h0 hv, n3, n0, nI_eq0, c0, if_false, nI_eqs, c4, c3, if_true, z34]
          · simp (disch := omega) only [s32_0, s32_1, s32_4, s32_5, s32_6, s32_7, s32_8, s32_11, s32_14, s32_17, s32_18, s32_21, s32_22, s32_25, s32_26, s32_27, s32_30, s32_31, s32_34, s32_35, s32_38, s32_39, s32_40, s32_41, gf0, gf1, gf2, gf3, gf4, gf5, gf6, gf7, gf8, gf9, gf10, gf11, gf12, gf13, gf14, pu0, pu1, pu2, pu3, pu4, pu5, pu6, pu7, pu8, pu9, pu10, pu11, pu12, pu13, pu14, rc_at, bK_some, Option.toList_some, Option.toList_none, List.cons_append, List.nil_append, NH_0, NH_2, al_nd, NH_n hv, NH_h0 hv, n3, n0, nI_eq0, c0, if_false, nI_eqs, c4, c3]
        rw [st, e1, s32_43]
        simp (disch := omega) only [s32_45, s32_46, s32_49, s32_127, gf0, gf1, gf2, gf3, gf4, gf5, gf6, gf7, gf8, gf9, gf10, gf11, gf12, gf13, gf14, pu0, pu1, pu2, pu3, pu4, pu5, pu6, pu7, pu8, pu9, pu10, pu11, pu12, pu13, pu14, rc_at, bK_some, Option.toList_some, Option.toList_none, List.cons_append, List.nil_append, NH_0, o2, nI_lts, Nat.lt_irrefl, if_false]
      · intro l hl z
        rw [e6 l hl]
        have := e4 l hl z
        omega
end S3
