/-! what arrives keeps the picture -/
/-- states and networks that differ in one link only -/
theorem PicR_one {g G : Nat → Nat} {pd : Nat → Bool} {sp : Nat → Nat} {C D : nC} {l : Nat} (H : PicR g pd sp C) (hr : ∀ u, u < 10 → g (44 + u) ≤ 8) (eG : ∀ j, (j < 214 + 11 * l ∨ 225 + 11 * l ≤ j) → G j = g j) (hl : l < 20) (kk : ∀ k u, (k ≠ 12 ∧ k ≠ 13) ∨ u ≠ l → D k u = C k u) (X : PicL G (fun q => if q = l then false else pd q) sp D l) : PicR G (fun q => if q = l then false else pd q) sp D := by
  obtain ⟨⟨o0, o1, o2, o4, o5, o3, o6⟩, hN, hL⟩ := H
  have lo : ∀ j, j < 214 → G j = g j := fun j hj => eG j (by omega)
  have k0 : ∀ k u, k ≠ 12 → k ≠ 13 → D k u = C k u := fun k u h1 h2 => kk k u (Or.inl ⟨h1, h2⟩)
  refine ⟨⟨?_, ?_, ?_, ?_, ?_, ?_, ?_⟩, ?_, ?_⟩
  · rw [k0 0 0 (by decide) (by decide), lo _ (by omega)]; exact o0
  · rw [k0 0 0 (by decide) (by decide), lo _ (by omega)]; exact o1
  · rw [k0 0 0 (by decide) (by decide), lo _ (by omega)]; exact o2
  · rw [k0 0 0 (by decide) (by decide), lo _ (by omega)]; exact o4
  · rw [k0 0 0 (by decide) (by decide), lo _ (by omega)]; exact o5
  · rw [k0 0 0 (by decide) (by decide), lo _ (by omega)]; exact o3
  · intro i hi
    rw [k0 1 0 (by decide) (by decide), lo _ (by omega)]; exact o6 i hi
  · intro u hu
    refine (hN u hu).same (hr u hu) hu (fun k h3 h11 _ _ _ => k0 k u (by omega) (by omega)) (fun j j1 _ _ => lo j j1) ?_
    rw [k0 7 u (by decide) (by decide), k0 8 u (by decide) (by decide)]
    exact (hN u hu).2.2.2.2.2.2.congr (fun w => by unfold snt; rw [eG _ (by omega)])
  · intro q hq
    by_cases c : q = l
    · subst c; exact X
    · obtain ⟨⟨a0, a1, a2⟩, ⟨b4, b5, b7, b8⟩, hf, b9, b6⟩ := hL q hq
      have far : ∀ j, 214 + 11 * q ≤ j → j < 225 + 11 * q → G j = g j := fun j j1 j2 => eG j (by omega)
      have el : lostN G q = lostN g q := by rw [lostN_los, lostN_los, far _ (by omega) (by omega), far _ (by omega) (by omega)]
      unfold PicL
      rw [kk 12 q (Or.inr c), kk 13 q (Or.inr c), el]
      simp only [c, if_false]
      refine ⟨⟨by rw [far _ (by omega) (by omega)]; exact a0, by rw [far _ (by omega) (by omega)]; exact a1, by rw [far _ (by omega) (by omega)]; exact a2⟩, ⟨by rw [far _ (by omega) (by omega)]; exact b4, by rw [far _ (by omega) (by omega)]; exact b5, by rw [far _ (by omega) (by omega)]; exact b7, by rw [far _ (by omega) (by omega)]; exact b8⟩, ?_, b9, b6⟩
      intro f hf4
      rw [far _ (by omega) (by omega)]
      exact hf f hf4
theorem PicR_lost {g : Nat → Nat} {pd : Nat → Bool} {sp : Nat → Nat} {C : nC} {l : Nat} (H : PicR g pd sp C) (hr : ∀ u, u < 10 → g (44 + u) ≤ 8) (hl : l < 20) (hp : pd l = true) (hlo : lostN g l = true) : PicR (gFate g l 0) (fun q => if q = l then false else pd q) sp C := by
  have eG : ∀ j, j ≠ 218 + 11 * l → gFate g l 0 j = g j := fun j hj => up_ne hj
  have e218 : gFate g l 0 (218 + 11 * l) = g (218 + 11 * l) + 1 := up_same _ _ _
  refine PicR_one H hr (fun j hj => eG j (by omega)) hl (fun _ _ _ => rfl) ?_
  obtain ⟨⟨a0, a1, a2⟩, ⟨b4, b5, b7, b8⟩, hf, b9, b6⟩ := H.2.2 l hl
  generalize gFate g l 0 = G at eG e218 ⊢
  unfold PicL
  simp only [if_true, Bool.false_eq_true, false_and, and_false, if_false, Nat.add_zero, false_implies, and_true]
  refine ⟨⟨by rw [eG _ (by omega)]; exact a0, by rw [eG _ (by omega)]; exact a1, by rw [eG _ (by omega)]; exact a2⟩, ⟨by rw [eG _ (by omega)]; exact b4, by rw [eG _ (by omega)]; exact b5, by rw [eG _ (by omega)]; exact b7, by rw [eG _ (by omega)]; exact b8⟩, ?_, ?_⟩
  · intro f hf4
    rw [hf f hf4]
    by_cases c : f = 0
    · subst c
      simp [hp, hlo]
      exact e218.symm
    · simp [c]
      exact (eG _ (by omega)).symm
  · rw [b9, hp, hlo]; simp
theorem PicR_recv {g : Nat → Nat} {pd : Nat → Bool} {sp : Nat → Nat} {C : nC} {l f : Nat} (H : PicR g pd sp C) (hr : ∀ u, u < 10 → g (44 + u) ≤ 8) (hl : l < 20) (hp : pd l = true) (hlo : lostN g l = false) (hf1 : f ≤ 3) : PicR (gFate (gRecv g l (g (222 + 11 * l))) l f) (fun q => if q = l then false else pd q) sp (upK (dvL C l) 13 l (up (C 13 l) f (C 13 l f + 1))) := by
  have eG : ∀ j, j ≠ 218 + 11 * l + f → j ≠ 224 + 11 * l → gFate (gRecv g l (g (222 + 11 * l))) l f j = g j := fun j h1 h2 => by
    unfold gFate gRecv
    rw [up_ne h1, up_ne h2]
  have eF : gFate (gRecv g l (g (222 + 11 * l))) l f (218 + 11 * l + f) = g (218 + 11 * l + f) + 1 := by
    unfold gFate gRecv
    rw [up_same, up_ne (by omega)]
  have eR : gFate (gRecv g l (g (222 + 11 * l))) l f (224 + 11 * l) = g (224 + 11 * l) ^^^ g (222 + 11 * l) := by
    unfold gFate gRecv
    rw [up_ne (by omega), up_same]
  refine PicR_one H hr (fun j hj => eG j (by omega) (by omega)) hl ?_ ?_
  · intro k u hku
    unfold dvL
    rcases hku with ⟨h1, h2⟩ | h
    · rw [upK_k h2, upK_k h1]
    · rw [upK_v h, upK_v h]
  · obtain ⟨⟨a0, a1, a2⟩, ⟨b4, b5, b7, b8⟩, hf, b9, b6⟩ := H.2.2 l hl
    generalize gFate (gRecv g l (g (222 + 11 * l))) l f = G at eG eF eR ⊢
    have e12 : upK (dvL C l) 13 l (up (C 13 l) f (C 13 l f + 1)) 12 l = w10 (C 12 l 0) (C 12 l 1) (C 12 l 2) (C 12 l 4) (C 12 l 5) (C 12 l 6) (C 12 l 7) (C 12 l 8 ^^^ C 12 l 5) 0 := by
      rw [upK_k (by decide)]
      exact upK_same _ _ _ _
    have e13 : upK (dvL C l) 13 l (up (C 13 l) f (C 13 l f + 1)) 13 l = up (C 13 l) f (C 13 l f + 1) := upK_same _ _ _ _
    unfold PicL
    rw [e12, e13]
    simp only [if_true, Bool.false_eq_true, false_and, and_false, if_false, Nat.add_zero, false_implies, and_true, w10_0, w10_1, w10_2, w10_4, w10_5, w10_7, w10_8, w10_9]
    refine ⟨⟨by rw [eG _ (by omega) (by omega)]; exact a0, by rw [eG _ (by omega) (by omega)]; exact a1, by rw [eG _ (by omega) (by omega)]; exact a2⟩, ⟨by rw [eG _ (by omega) (by omega)]; exact b4, by rw [eG _ (by omega) (by omega)]; exact b5, by rw [eG _ (by omega) (by omega)]; exact b7, by rw [eR, b8, b5]⟩, ?_⟩
    intro f' hf4
    have hff : C 13 l f' = g (218 + 11 * l + f') := by rw [hf f' hf4, hlo]; simp
    by_cases c : f' = f
    · subst c; rw [up_same, eF, hff]
    · rw [up_ne c, eG _ (by omega) (by omega), hff]
