/-! accepting keeps the picture -/
theorem PicR_acc {g : Nat → Nat} {pd : Nat → Bool} {sp : Nat → Nat} {C : nC} {v a : Nat} (p : Nat) (H : PicR g pd sp C) (hk : g 0 ≤ 8) (hr : ∀ u, u < 10 → g (44 + u) ≤ 8) (hv : v < 10) (ha : a < 2 ^ g 0) (hnew : rd (C 5 v) (C 6 v) 8 a 0 = none) : PicR (gAcc g v a p) pd sp (accC C v a p) ∧ g (44 + v) < g 0 := by
  obtain ⟨⟨o0, o1, o2, o4, o5, o3, o6⟩, hN, hL⟩ := H
  obtain ⟨n0, n1, n2, n3, n4, n5, n6⟩ := hN v hv
  obtain ⟨r, hr1⟩ := (rd_ad 8 a 0 (2 ^ g (44 + v))).mp hnew
  obtain ⟨b, w, q⟩ := r
  obtain ⟨s1, s2⟩ := n4.add hk ha hr1
  have hrv := hr v hv
  refine ⟨?_, s2⟩
  have eS : adS (C 4 v 2) (C 5 v) (C 6 v) a = (g (44 + v) + 1, up (C 5 v) b w, up (C 6 v) b q) := by
    unfold adS
    rw [n3, hr1]
  unfold accC
  rw [eS, n3]
  dsimp only
  have eG : ∀ j, j ≠ 44 + v → j ≠ 54 + 16 * v + 2 * g (44 + v) → j ≠ 55 + 16 * v + 2 * g (44 + v) → gAcc g v a p j = g j := by
    intro j j1 j2 j3
    unfold gAcc
    rw [up_ne j1, up_ne j3, up_ne j2]
  have g44 : gAcc g v a p (44 + v) = g (44 + v) + 1 := by
    unfold gAcc
    rw [up_same]
  have g54 : gAcc g v a p (54 + 16 * v + 2 * g (44 + v)) = a := by
    unfold gAcc
    rw [up_ne (by omega), up_ne (by omega), up_same]
  have g55 : gAcc g v a p (55 + 16 * v + 2 * g (44 + v)) = p := by
    unfold gAcc
    rw [up_ne (by omega), up_same]
  generalize gAcc g v a p = G at eG g44 g54 g55 ⊢
  have hi : ∀ j, 214 ≤ j → G j = g j := fun j hj => eG j (by omega) (by omega) (by omega)
  have lo : ∀ j, j < 44 → G j = g j := fun j hj => eG j (by omega) (by omega) (by omega)
  have hsn : ∀ u x, snt G u x ↔ snt g u x := fun u x => by unfold snt; rw [hi _ (by omega)]
  generalize hD : upK (upK (upK (upK (upK C 10 v (up (C 10 v) (g (44 + v)) a)) 11 v (up (C 11 v) (g (44 + v)) p)) 4 v (w2 (g (44 + v) + 1))) 5 v (up (C 5 v) b w)) 6 v (up (C 6 v) b q) = D
  have kk : ∀ k u, (k ≠ 4 ∧ k ≠ 5 ∧ k ≠ 6 ∧ k ≠ 10 ∧ k ≠ 11) ∨ u ≠ v → D k u = C k u := by
    intro k u hku
    rw [← hD]
    rcases hku with ⟨k4, k5, k6, k10, k11⟩ | hu
    · rw [upK_k k6, upK_k k5, upK_k k4, upK_k k11, upK_k k10]
    · rw [upK_v hu, upK_v hu, upK_v hu, upK_v hu, upK_v hu]
  have d4 : D 4 v = w2 (g (44 + v) + 1) := by rw [← hD, upK_k (by decide), upK_k (by decide), upK_same]
  have d5 : D 5 v = up (C 5 v) b w := by rw [← hD, upK_k (by decide), upK_same]
  have d6 : D 6 v = up (C 6 v) b q := by rw [← hD, upK_same]
  have d10 : D 10 v = up (C 10 v) (g (44 + v)) a := by rw [← hD, upK_k (by decide), upK_k (by decide), upK_k (by decide), upK_k (by decide), upK_same]
  have d11 : D 11 v = up (C 11 v) (g (44 + v)) p := by rw [← hD, upK_k (by decide), upK_k (by decide), upK_k (by decide), upK_same]
  refine ⟨⟨?_, ?_, ?_, ?_, ?_, ?_, ?_⟩, ?_, ?_⟩
  · rw [kk 0 0 (Or.inl (by decide)), lo _ (by omega)]; exact o0
  · rw [kk 0 0 (Or.inl (by decide)), lo _ (by omega)]; exact o1
  · rw [kk 0 0 (Or.inl (by decide)), lo _ (by omega)]; exact o2
  · rw [kk 0 0 (Or.inl (by decide)), lo _ (by omega)]; exact o4
  · rw [kk 0 0 (Or.inl (by decide)), lo _ (by omega)]; exact o5
  · rw [kk 0 0 (Or.inl (by decide)), lo _ (by omega)]; exact o3
  · intro i hi8
    rw [kk 1 0 (Or.inl (by decide)), lo _ (by omega)]; exact o6 i hi8
  · intro u hu
    obtain ⟨m0, m1, m2, m3, m4, m5, m6⟩ := hN u hu
    have hru := hr u hu
    by_cases c : u = v
    · subst c
      refine ⟨?_, ?_, ?_, ?_, ?_, ?_, ?_⟩
      · rw [kk 3 u (Or.inl (by decide)), lo _ (by omega)]; exact m0
      · rw [kk 3 u (Or.inl (by decide)), lo _ (by omega)]; exact m1
      · rw [kk 3 u (Or.inl (by decide)), lo _ (by omega)]; exact m2
      · rw [d4, g44]; rfl
      · rw [d5, d6]
        refine s1.same g44 (lo 0 (by omega)) ?_
        intro i hi1
        by_cases z : i = g (44 + u)
        · subst z; rw [up_same]; exact g54
        · rw [up_ne z]; exact eG _ (by omega) (by omega) (by omega)
      · intro i hi1
        rw [g44] at hi1
        rw [d10, d11]
        by_cases z : i = g (44 + u)
        · subst z; rw [up_same, up_same]; exact ⟨g54.symm, g55.symm⟩
        · rw [up_ne z, up_ne z]
          have := m5 i (by omega)
          exact ⟨this.1.trans (eG _ (by omega) (by omega) (by omega)).symm, this.2.trans (eG _ (by omega) (by omega) (by omega)).symm⟩
      · rw [kk 7 u (Or.inl (by decide)), kk 8 u (Or.inl (by decide))]
        exact m6.congr (fun x => (hsn u x).symm)
    · refine ⟨?_, ?_, ?_, ?_, ?_, ?_, ?_⟩
      · rw [kk 3 u (Or.inr c), lo _ (by omega)]; exact m0
      · rw [kk 3 u (Or.inr c), lo _ (by omega)]; exact m1
      · rw [kk 3 u (Or.inr c), lo _ (by omega)]; exact m2
      · rw [kk 4 u (Or.inr c), eG (44 + u) (by omega) (by omega) (by omega)]; exact m3
      · rw [kk 5 u (Or.inr c), kk 6 u (Or.inr c)]
        refine m4.same (eG (44 + u) (by omega) (by omega) (by omega)) (lo 0 (by omega)) ?_
        intro i hi1
        exact eG _ (by omega) (by omega) (by omega)
      · intro i hi1
        rw [eG (44 + u) (by omega) (by omega) (by omega)] at hi1
        rw [kk 10 u (Or.inr c), kk 11 u (Or.inr c)]
        have := m5 i hi1
        exact ⟨this.1.trans (eG _ (by omega) (by omega) (by omega)).symm, this.2.trans (eG _ (by omega) (by omega) (by omega)).symm⟩
      · rw [kk 7 u (Or.inr c), kk 8 u (Or.inr c)]
        exact m6.congr (fun x => (hsn u x).symm)
  · intro l hl
    obtain ⟨⟨a0, a1, a2⟩, ⟨b4, b5, b7, b8⟩, hf, b9, b6⟩ := hL l hl
    have el : lostN G l = lostN g l := by rw [lostN_los, lostN_los, hi _ (by omega), hi _ (by omega)]
    unfold PicL
    rw [kk 12 l (Or.inl (by decide)), kk 13 l (Or.inl (by decide)), el]
    refine ⟨⟨by rw [hi _ (by omega)]; exact a0, by rw [hi _ (by omega)]; exact a1, by rw [hi _ (by omega)]; exact a2⟩, ⟨by rw [hi _ (by omega)]; exact b4, by rw [hi _ (by omega)]; exact b5, by rw [hi _ (by omega)]; exact b7, by rw [hi _ (by omega)]; exact b8⟩, ?_, b9, b6⟩
    intro f hf4
    rw [hi _ (by omega)]
    exact hf f hf4
