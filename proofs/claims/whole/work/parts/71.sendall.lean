/-! all nodes send -/
/-- what is under way was sent last -/
def Last (s : RS) : Prop := ∀ l, l < 20 → s.2.1 l ≠ 0 → s.1 (222 + 11 * l) = s.2.2.1 l
theorem Last_send {v l : Nat} {s : RS} (H : Last s) (hl : l < 20) : Last (rSend v l s) := by
  unfold rSend
  split
  · intro q hq z
    dsimp only at z ⊢
    by_cases c : q = l
    · subst c
      rw [up_same]
      unfold gSend
      rw [up_ne (by omega), up_ne (by omega), up_same]
    · rw [up_ne c] at z ⊢
      unfold gSend
      rw [up_ne (by omega), up_ne (by omega), up_ne (by omega), up_ne (by omega), ← H q hq z]
      unfold rG
      split
      · rfl
      · exact up_ne (by omega)
  · exact H
theorem Last_fold {v : Nat} {s : RS} (H : Last s) : ∀ n, n ≤ 20 → Last (foldN (rSend v) n s) := by
  intro n
  induction n with
  | zero => intro _; exact H
  | succ n ih => intro hn; exact Last_send (ih (by omega)) (by omega)
theorem Last_all {v : Nat} {s : RS} (H : Last s) (h2 : s.1 2 ≤ 20) : Last (rAll v s) := by
  unfold rAll
  split
  · exact H
  · exact Last_fold H _ h2
section S4
variable {h : aH} {b : Nat}
theorem c_sendAll {s : RS} {C : nC} (H : PicS s C) (hw : WF s.1) (hL : Last s) (hi : ∀ l, l < 20 → s.2.1 l = 0) : ∃ C', run 31 0 [.ref b, .null, .null] [] (NH h b C) = run 31 21 [.ref b, .int (nI (s.1 1)), .null] [] (NH h b C') ∧ PicS (sentAll s) C' ∧ WF (sentAll s).1 ∧ Last (sentAll s) ∧ (∀ j, j < 214 → j ≠ 4 → (sentAll s).1 j = s.1 j) := by
  have hn := hw.2.1
  have key : ∀ m, m ≤ s.1 1 → ∃ C', run 31 2 [.ref b, .int (nI 0), .null] [] (NH h b C) = run 31 2 [.ref b, .int (nI m), .null] [] (NH h b C') ∧ PicS (foldN rAll m s) C' ∧ WF (foldN rAll m s).1 ∧ Last (foldN rAll m s) ∧ (∀ l, l < 20 → (foldN rAll m s).2.1 l ≠ 0 → (foldN rAll m s).1 (214 + 11 * l) < m) ∧ (∀ j, j < 214 → j ≠ 4 → (foldN rAll m s).1 j = s.1 j) := by
    intro m
    induction m with
    | zero => intro _; exact ⟨C, rfl, H, hw, hL, fun l hl z => absurd (hi l hl) z, fun _ _ _ => rfl⟩
    | succ m ih =>
      intro hm
      obtain ⟨C', e1, e2, e3, e4, e5, e6⟩ := ih (by omega)
      simp only [foldN]
      generalize foldN rAll m s = t at e2 e3 e4 e5 e6 ⊢
      obtain ⟨C2, f1, f2, f3, f4, f5⟩ := c_sendFrom (h := h) (b := b) e2 e3 (show m < 10 by omega) e5
      have o1 : C' 0 0 2 = s.1 1 := by rw [e2.1.2.1]; exact e6 1 (by omega) (by omega)
      refine ⟨C2, ?_, f2, f3, Last_all e4 e3.2.2.1, f4, fun j j1 j2 => by rw [f5 j j1 j2, e6 j j1 j2]⟩
      rw [e1, s31_2]
      simp (disch := omega) only [s31_3, s31_4, s31_7, s31_10, s31_11, s31_12, s31_15, s31_18, gf0, gf1, gf2, gf3, gf4, gf5, gf6, gf7, gf8, gf9, gf10, gf11, gf12, gf13, gf14, pu0, pu1, pu2, pu3, pu4, pu5, pu6, pu7, pu8, pu9, pu10, pu11, pu12, pu13, pu14, rc_at, bK_some, Option.toList_some, Option.toList_none, List.cons_append, List.nil_append, NH_0, o1, nI_lts, show m < s.1 1 from by omega, if_true, f1, nI_adds]
  obtain ⟨C', e1, e2, e3, e4, e5, e6⟩ := key _ (Nat.le_refl _)
  refine ⟨C', ?_, e2, e3, e4, e6⟩
  have o1 : C' 0 0 2 = s.1 1 := by rw [e2.1.2.1]; exact e6 1 (by omega) (by omega)
  simp only [s31_0, s31_1]
  rw [e1, s31_2]
  simp (disch := omega) only [s31_3, s31_4, s31_7, gf0, gf1, gf2, gf3, gf4, gf5, gf6, gf7, gf8, gf9, gf10, gf11, gf12, gf13, gf14, pu0, pu1, pu2, pu3, pu4, pu5, pu6, pu7, pu8, pu9, pu10, pu11, pu12, pu13, pu14, rc_at, bK_some, Option.toList_some, Option.toList_none, List.cons_append, List.nil_append, NH_0, o1, nI_lts, Nat.lt_irrefl, if_false]
end S4
