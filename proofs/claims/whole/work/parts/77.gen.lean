/-! the class: a generation begins -/
/-- what a generation begins with -/
def PicB (g : Nat → Nat) (C : nC) : Prop := PicO g C ∧ (∀ v, v < 10 → C 3 v 4 = g (14 + v)) ∧ ∀ l, l < 20 → C 12 l 0 = g (214 + 11 * l) ∧ C 12 l 1 = g (215 + 11 * l) ∧ C 12 l 2 = g (216 + 11 * l)
theorem Pic.b {g : Nat → Nat} {C : nC} (H : Pic g C) : PicB g C := ⟨H.1, fun v hv => (H.2.1 v hv).1, fun l hl => (H.2.2 l hl).1⟩
theorem Pic.ws {g : Nat → Nat} {C : nC} (H : Pic g C) : WS g := fun v hv => ⟨C 5 v, C 6 v, (H.2.1 v hv).2.2.2.2.1⟩
theorem SpOK.zero {L P : Nat → Nat} (f : Nat → Nat) (k : Nat) (hL : ∀ b, b < 8 → L b = 0) (hP : ∀ b, b < 8 → P b = 0) : SpOK L P f 0 k := by
  refine ⟨fun b hb => Or.inl (hL b hb), fun b _ hb => hL b hb, fun b hb z => absurd (hL b hb) z, fun b hb _ => hP b hb, fun i hi => absurd hi (Nat.not_lt_zero _), ?_, ?_⟩
  · unfold nz
    rw [cntN_congr (q := fun _ => false) (fun i hi => by simp [hL i hi])]
    rfl
  · intro s hs _
    have : s < 1 := hs
    omega
theorem SpG.zero {p : Nat → Prop} {L : Nat → Nat} (hp : ∀ w, ¬ p w) (hL : ∀ b, b < 8 → L b = 0) : SpG p 0 L := by
  refine ⟨fun b hb => Or.inl (hL b hb), ?_, fun w hw => absurd hw (hp w), fun b hb Q h0 _ _ => ?_⟩
  · unfold nz
    rw [cntN_congr (q := fun _ => false) (fun i hi => by simp [hL i hi])]
    rfl
  · rw [hL b hb]; exact h0
def gF (g : Nat → Nat) : Nat → Nat := fun j => if 434 ≤ j ∧ j < 2994 then 0 else gB3 20 (gB1 10 g) j
theorem gF_same {g : Nat → Nat} {j : Nat} (h : j < 24 ∨ (54 ≤ j ∧ j < 214) ∨ (214 ≤ j ∧ j < 434 ∧ (j - 214) % 11 < 3)) : gF g j = g j := by
  simp only [gF, gB3, gB1]
  repeat' split
  all_goals first | omega | rfl
theorem gF_0 {g : Nat → Nat} {j : Nat} (h : (24 ≤ j ∧ j < 54) ∨ (214 ≤ j ∧ j < 434 ∧ 3 ≤ (j - 214) % 11 ∧ (j - 214) % 11 ≠ 8) ∨ (434 ≤ j ∧ j < 2994)) : gF g j = 0 := by
  simp only [gF, gB3, gB1]
  repeat' split
  all_goals first | omega | rfl
theorem gF_n {g : Nat → Nat} {l : Nat} (hl : l < 20) : gF g (222 + 11 * l) = NON := by
  simp only [gF, gB3, gB1]
  repeat' split
  all_goals first | omega | rfl
theorem gB2_F {g : Nat → Nat} (hk : g 0 ≤ 8) : up (gB2 (g 0) (gF g)) 3 0 = gBegin g := by
  funext j
  by_cases c3 : j = 3
  · subst c3
    rw [up_same]
    simp [gBegin, gB3, gB2, gB1, up]
  · rw [up_ne c3]
    by_cases c5 : 54 ≤ j ∧ j < 54 + 2 * g 0
    · have e : gF g (6 + (j - 54) / 2) = g (6 + (j - 54) / 2) := gF_same (by omega)
      simp only [gBegin, gB3, gB2, gB1, up, c5, and_self, if_true, e]
      repeat' split
      all_goals first | omega | rfl
    · simp only [gB2, c5, if_false]
      simp only [gBegin, gF, gB3, gB2, gB1, up, c5, if_false]
      repeat' split
      all_goals first | omega | rfl
section BG
variable {h : aH} {b : Nat}
def FG (C D : nC) (v : Nat) : Prop := D 3 v 4 = C 3 v 4 ∧ D 3 v 5 = 0 ∧ D 3 v 6 = 0 ∧ D 4 v 2 = 0 ∧ D 7 v 2 = 0 ∧ ∀ i, i < 8 → D 5 v i = 0 ∧ D 6 v i = 0 ∧ D 8 v i = 0
theorem FG_fg (C : nC) (v : Nat) : FG C (fgC C v) v := by
  unfold FG fgC
  refine ⟨?_, ?_, ?_, ?_, ?_, ?_⟩
  · rw [upK_same]; rfl
  · rw [upK_same]; rfl
  · rw [upK_same]; rfl
  · simp [upK, w2]
  · simp [upK, w2]
  · intro i hi
    simp [upK, cp8, hi]
theorem fgC_o (C : nC) {v k u : Nat} (hk : k < 3 ∨ 10 ≤ k ∨ u ≠ v) : fgC C v k u = C k u := by
  unfold fgC
  rcases hk with hk | hk | hk
  · rw [upK_k (by omega), upK_k (by omega), upK_k (by omega), upK_k (by omega), upK_k (by omega), upK_k (by omega), upK_k (by omega)]
  · rw [upK_k (by omega), upK_k (by omega), upK_k (by omega), upK_k (by omega), upK_k (by omega), upK_k (by omega), upK_k (by omega)]
  · rw [upK_v hk, upK_v hk, upK_v hk, upK_v hk, upK_v hk, upK_v hk, upK_v hk]
def FL (C D : nC) (l : Nat) : Prop := D 12 l 0 = C 12 l 0 ∧ D 12 l 1 = C 12 l 1 ∧ D 12 l 2 = C 12 l 2 ∧ D 12 l 4 = 0 ∧ D 12 l 5 = NON ∧ D 12 l 7 = 0 ∧ D 12 l 8 = 0 ∧ D 12 l 9 = 0 ∧ ∀ f, f < 4 → D 13 l f = 0
theorem FL_fg (C : nC) (l : Nat) : FL C (fgL C l) l := by
  unfold FL fgL
  rw [upK_same, upK_k (by decide), upK_same]
  refine ⟨rfl, rfl, rfl, rfl, rfl, rfl, rfl, rfl, fun f hf => ?_⟩
  simp [cp8, hf]
theorem fgL_o (C : nC) {l k u : Nat} (hk : (k ≠ 12 ∧ k ≠ 13) ∨ u ≠ l) : fgL C l k u = C k u := by
  unfold fgL
  rcases hk with hk | hk
  · rw [upK_k hk.1, upK_k hk.2]
  · rw [upK_v hk, upK_v hk]
theorem c_forget {C : nC} : ∃ C', run 17 0 [.ref b, .null] [] (NH h b C) = run 17 48 [.ref b, .int (nI 0)] [] (NH h b C') ∧ (∀ k u, k < 3 → C' k u = C k u) ∧ (∀ v, v < 10 → FG C C' v) ∧ (∀ l, l < 20 → FL C C' l) := by
  have k1 : ∀ m, m ≤ 10 → ∃ C', run 17 2 [.ref b, .int (nI 0)] [] (NH h b C) = run 17 2 [.ref b, .int (nI m)] [] (NH h b C') ∧ (∀ k u, (k < 3 ∨ 10 ≤ k ∨ m ≤ u) → C' k u = C k u) ∧ (∀ v, v < m → FG C C' v) := by
    intro m
    induction m with
    | zero => intro _; exact ⟨C, rfl, fun _ _ _ => rfl, fun v hv => absurd hv (Nat.not_lt_zero _)⟩
    | succ m ih =>
      intro hm
      obtain ⟨C1, e1, e2, e3⟩ := ih (by omega)
      refine ⟨fgC C1 m, ?_, ?_, ?_⟩
      · rw [e1, s17_2]
        simp (disch := omega) only [s17_3, s17_5, s17_8, s17_9, s17_12, s17_13, s17_14, s17_17, s17_20, gf0, gf1, gf2, gf3, gf4, gf5, gf6, gf7, gf8, gf9, gf10, gf11, gf12, gf13, gf14, pu0, pu1, pu2, pu3, pu4, pu5, pu6, pu7, pu8, pu9, pu10, pu11, pu12, pu13, pu14, rc_at, bK_some, Option.toList_some, Option.toList_none, List.cons_append, List.nil_append, NH_0, NH_2, al_nd, NH_n (show m < 10 by omega), nI_lts, show m < 10 from by omega, if_true, c_forgetN (show m < 10 by omega), nI_adds]
      · intro k u hk
        rw [fgC_o C1 (by omega)]
        exact e2 k u (by omega)
      · intro v hv
        by_cases z : v = m
        · subst z
          have := FG_fg C1 v
          unfold FG at this ⊢
          rw [e2 3 v (Or.inr (Or.inr (Nat.le_refl _)))] at this
          exact this
        · have := e3 v (by omega)
          unfold FG at this ⊢
          simp only [fgC_o C1 (show _ < 3 ∨ _ ∨ v ≠ m from Or.inr (Or.inr z))]
          exact this
  obtain ⟨C1, e1, e2, e3⟩ := k1 10 (Nat.le_refl _)
  have k2 : ∀ m, m ≤ 20 → ∃ C', run 17 25 [.ref b, .int (nI 0)] [] (NH h b C1) = run 17 25 [.ref b, .int (nI m)] [] (NH h b C') ∧ (∀ k u, ((k ≠ 12 ∧ k ≠ 13) ∨ m ≤ u) → C' k u = C1 k u) ∧ (∀ l, l < m → FL C1 C' l) := by
    intro m
    induction m with
    | zero => intro _; exact ⟨C1, rfl, fun _ _ _ => rfl, fun v hv => absurd hv (Nat.not_lt_zero _)⟩
    | succ m ih =>
      intro hm
      obtain ⟨C2, f1, f2, f3⟩ := ih (by omega)
      refine ⟨fgL C2 m, ?_, ?_, ?_⟩
      · rw [f1, s17_25]
        simp (disch := omega) only [s17_26, s17_28, s17_31, s17_32, s17_35, s17_36, s17_37, s17_40, s17_43, gf0, gf1, gf2, gf3, gf4, gf5, gf6, gf7, gf8, gf9, gf10, gf11, gf12, gf13, gf14, pu0, pu1, pu2, pu3, pu4, pu5, pu6, pu7, pu8, pu9, pu10, pu11, pu12, pu13, pu14, rc_at, bK_some, Option.toList_some, Option.toList_none, List.cons_append, List.nil_append, NH_0, NH_93, al_lk, NH_l (show m < 20 by omega), nI_lts, show m < 20 from by omega, if_true, c_forgetL (show m < 20 by omega), nI_adds]
      · intro k u hk
        rw [fgL_o C2 (by omega)]
        exact f2 k u (by omega)
      · intro v hv
        by_cases z : v = m
        · subst z
          have := FL_fg C2 v
          unfold FL at this ⊢
          rw [f2 12 v (Or.inr (Nat.le_refl _))] at this
          exact this
        · have := f3 v (by omega)
          unfold FL at this ⊢
          simp only [fgL_o C2 (show _ ∨ v ≠ m from Or.inr z)]
          exact this
  obtain ⟨C2, f1, f2, f3⟩ := k2 20 (Nat.le_refl _)
  refine ⟨C2, ?_, ?_, ?_, ?_⟩
  · simp only [s17_0, s17_1]
    rw [e1, s17_2]
    simp (disch := omega) only [s17_3, s17_5, s17_23, s17_24, nI_lts, Nat.lt_irrefl, if_false]
    rw [f1, s17_25]
    simp (disch := omega) only [s17_26, s17_28, s17_46, s17_47, nI_lts, Nat.lt_irrefl, if_false]
  · intro k u hk
    rw [f2 k u (Or.inl ⟨by omega, by omega⟩)]
    exact e2 k u (Or.inl hk)
  · intro v hv
    have := e3 v hv
    unfold FG at this ⊢
    rw [f2 3 v (Or.inl (by decide)), f2 4 v (Or.inl (by decide)), f2 7 v (Or.inl (by decide)), f2 5 v (Or.inl (by decide)), f2 6 v (Or.inl (by decide)), f2 8 v (Or.inl (by decide))]
    exact this
  · intro l hl
    have := f3 l hl
    unfold FL at this ⊢
    rw [e2 12 l (by omega)] at this
    exact this
theorem Pic_gF {g : Nat → Nat} {C D : nC} (H : PicB g C) (e2 : ∀ k u, k < 3 → D k u = C k u) (e3 : ∀ v, v < 10 → FG C D v) (e4 : ∀ l, l < 20 → FL C D l) : Pic (gF g) D := by
  obtain ⟨⟨o0, o1, o2, o4, o5, o3, o6⟩, hN, hL⟩ := H
  have z0 := e2 0 0 (by decide)
  have z1 := e2 1 0 (by decide)
  refine ⟨⟨?_, ?_, ?_, ?_, ?_, ?_, ?_⟩, ?_, ?_⟩
  · rw [z0, gF_same (by omega)]; exact o0
  · rw [z0, gF_same (by omega)]; exact o1
  · rw [z0, gF_same (by omega)]; exact o2
  · rw [z0, gF_same (by omega)]; exact o4
  · rw [z0, gF_same (by omega)]; exact o5
  · rw [z0, gF_same (by omega)]; exact o3
  · intro i hi
    rw [z1, gF_same (by omega)]; exact o6 i hi
  · intro v hv
    obtain ⟨a4, a5, a6, a2, a7, a8⟩ := e3 v hv
    have r0 : gF g (44 + v) = 0 := gF_0 (by omega)
    unfold PicN
    rw [r0, gF_same (j := 14 + v) (by omega), gF_0 (j := 24 + v) (by omega), gF_0 (j := 34 + v) (by omega), a7]
    refine ⟨by rw [a4]; exact hN v hv, a5, a6, a2, SpOK.zero _ _ (fun i hi => (a8 i hi).1) (fun i hi => (a8 i hi).2.1), fun i hi => absurd hi (Nat.not_lt_zero _), SpG.zero ?_ (fun i hi => (a8 i hi).2.2)⟩
    rintro w ⟨w1, w2⟩
    rw [gF_0 (by omega)] at w2
    omega
  · intro l hl
    obtain ⟨b0, b1, b2, b4, b5, b7, b8, b9, bf⟩ := e4 l hl
    obtain ⟨c0, c1, c2⟩ := hL l hl
    unfold PicL
    rw [gF_same (j := 214 + 11 * l) (by omega), gF_same (j := 215 + 11 * l) (by omega), gF_same (j := 216 + 11 * l) (by omega), gF_0 (j := 217 + 11 * l) (by omega), gF_n hl, gF_0 (j := 223 + 11 * l) (by omega), gF_0 (j := 224 + 11 * l) (by omega)]
    refine ⟨⟨by rw [b0]; exact c0, by rw [b1]; exact c1, by rw [b2]; exact c2⟩, ⟨b4, b5, b7, b8⟩, fun f hf => ?_, ?_, fun z => absurd (show false = true from z) (by decide)⟩
    · rw [gF_0 (j := 218 + 11 * l + f) (by omega), bf f hf]
      simp
    · rw [b9]
      simp
theorem c_begin {g : Nat → Nat} {C : nC} (H : PicB g C) (hk : g 0 ≤ 8) : ∃ C', run 17 0 [.ref b, .null] [] (NH h b C) = some (none, NH h b C') ∧ Pic (gBegin g) C' := by
  obtain ⟨D, r1, e2, e3, e4⟩ := c_forget (h := h) (b := b) (C := C)
  have P0 := Pic_gF H e2 e3 e4
  have f0 : gF g 0 = g 0 := gF_same (by omega)
  have key : ∀ m, m ≤ g 0 → ∃ C', run 17 48 [.ref b, .int (nI 0)] [] (NH h b D) = run 17 48 [.ref b, .int (nI m)] [] (NH h b C') ∧ Pic (gB2 m (gF g)) C' := by
    intro m
    induction m with
    | zero =>
      intro _
      refine ⟨D, rfl, ?_⟩
      have : gB2 0 (gF g) = gF g := by
        funext j
        simp only [gB2]
        repeat' split
        · omega
        · omega
        · subst_vars; exact (gF_0 (by omega)).symm
        · rfl
      rw [this]
      exact P0
    | succ m ih =>
      intro hm
      obtain ⟨C1, f1, f2⟩ := ih (by omega)
      have h44 : gF g 44 = 0 := gF_0 (by omega)
      have hstep : gB2 (m + 1) (gF g) = gAcc (gB2 m (gF g)) 0 (2 ^ m) (gB2 m (gF g) (6 + m)) := by
        rw [← gB2_fold (gF g) h44 (m + 1) (by omega), ← gB2_fold (gF g) h44 m (by omega)]
        rfl
      have g0 : gB2 m (gF g) 0 = g 0 := by rw [← f0]; simp [gB2]
      have r0 : gB2 m (gF g) (44 + 0) = m := by simp [gB2]
      have ru : ∀ u, u < 10 → gB2 m (gF g) (44 + u) ≤ 8 := by
        intro u hu
        by_cases z : u = 0
        · subst z; omega
        · have : gB2 m (gF g) (44 + u) = 0 := by
            simp only [gB2]
            rw [if_neg (by omega), if_neg (by omega)]
            exact gF_0 (by omega)
          omega
      have hm2 : 2 ^ m < 2 ^ g 0 := Nat.pow_lt_pow_right (by decide) (by omega)
      have hm8 : 2 ^ m < 256 := (Nat.pow_lt_pow_right (by decide) (by omega) : 2 ^ m < 2 ^ 8)
      have X := f2.2.1 0 (by decide)
      have hnew : rd (C1 5 0) (C1 6 0) 8 (2 ^ m) 0 = none := by
        rw [← X.2.2.2.2.1.find hm8, firstN_none]
        intro s _
        rw [decide_eq_false_iff_not]
        have : xsN (vecs (gB2 m (gF g)) 0) s (gB2 m (gF g) (44 + 0)) < 2 ^ m := by
          rw [r0]
          refine xsN_lt (fun i hi => ?_)
          have e : vecs (gB2 m (gF g)) 0 i = 2 ^ i := by
            unfold vecs
            simp only [gB2]
            rw [if_pos (by omega), if_pos (by omega)]
            congr 1
            omega
          rw [e]
          exact Nat.pow_lt_pow_right (by decide) hi
        omega
      have A := PicR_acc (gB2 m (gF g) (6 + m)) f2 (by omega) ru (by decide) (by rw [g0]; exact hm2) hnew
      have o6 := f2.1.2.2.2.2.2.2 m (by omega)
      have o0 : C1 0 0 0 = g 0 := by rw [f2.1.1]; exact g0
      refine ⟨accC C1 0 (2 ^ m) (gB2 m (gF g) (6 + m)), ?_, by rw [hstep]; exact A.1⟩
      have hs8 : C1 4 0 2 < 8 := by rw [X.2.2.2.1, r0]; omega
      have hL : ∀ i, i < 8 → C1 5 0 i < 256 := fun i hi => X.2.2.2.2.1.1.lead_lt hi
      have AC := c_accept (h := h) (b := b) (C := C1) (v := 0) (p := gB2 m (gF g) (6 + m)) (by decide) hs8 hL hm8
      rw [f1, s17_48]
      simp (disch := omega) only [s17_49, s17_50, s17_53, s17_56, s17_57, s17_60, s17_61, s17_62, s17_63, s17_64, s17_65, s17_66, s17_69, s17_70, s17_71, s17_74, s17_77, gf0, gf1, gf2, gf3, gf4, gf5, gf6, gf7, gf8, gf9, gf10, gf11, gf12, gf13, gf14, pu0, pu1, pu2, pu3, pu4, pu5, pu6, pu7, pu8, pu9, pu10, pu11, pu12, pu13, pu14, rc_at, bK_some, Option.toList_some, Option.toList_none, List.cons_append, List.nil_append, NH_0, NH_1, NH_2, al_nd, NH_n (show 0 < 10 by omega), o0, nI_lts, show m < g 0 from by omega, if_true, al_8, nI_shl1, o6, AC, nI_adds]
  obtain ⟨C1, f1, f2⟩ := key _ (Nat.le_refl _)
  have g0 : gB2 (g 0) (gF g) 0 = g 0 := by rw [← f0]; simp [gB2]
  have o0 : C1 0 0 0 = g 0 := by rw [f2.1.1]; exact g0
  have ru : ∀ u, u < 10 → gB2 (g 0) (gF g) (44 + u) ≤ 8 := by
    intro u hu
    by_cases z : u = 0
    · subst z
      have : gB2 (g 0) (gF g) (44 + 0) = g 0 := by simp [gB2]
      omega
    · have : gB2 (g 0) (gF g) (44 + u) = 0 := by
        simp only [gB2]
        rw [if_neg (by omega), if_neg (by omega)]
        exact gF_0 (by omega)
      omega
  have R := PicR_round 0 f2 ru
  rw [gB2_F hk] at R
  refine ⟨_, ?_, R⟩
  rw [r1, f1, s17_48]
  simp (disch := omega) only [s17_49, s17_50, s17_53, s17_80, s17_81, s17_82, s17_85, gf0, gf1, gf2, gf3, gf4, gf5, gf6, gf7, gf8, gf9, gf10, gf11, gf12, gf13, gf14, pu0, pu1, pu2, pu3, pu4, pu5, pu6, pu7, pu8, pu9, pu10, pu11, pu12, pu13, pu14, rc_at, bK_some, Option.toList_some, Option.toList_none, List.cons_append, List.nil_append, NH_0, NH_so, o0, nI_lts, Nat.lt_irrefl, if_false]
end BG
