/-! an arrival -/
theorem gFate_acc (g : Nat → Nat) {l f v : Nat} (a p : Nat) (hv : v < 10) (hr : g (44 + v) ≤ 8) : gFate (gAcc g v a p) l f = gAcc (gFate g l f) v a p := by
  have e44 : gFate g l f (44 + v) = g (44 + v) := up_ne (by omega)
  have eA : gAcc g v a p (218 + 11 * l + f) = g (218 + 11 * l + f) := by
    unfold gAcc
    rw [up_ne (by omega), up_ne (by omega), up_ne (by omega)]
  funext j
  unfold gFate
  rw [eA]
  unfold gAcc
  rw [show up g (218 + 11 * l + f) (g (218 + 11 * l + f) + 1) (44 + v) = g (44 + v) from e44]
  by_cases c : j = 218 + 11 * l + f
  · subst c
    rw [up_same, up_ne (by omega), up_ne (by omega), up_ne (by omega), up_same]
  · rw [up_ne c]
    unfold up
    simp [c]
section AR
variable {h : aH} {b : Nat}
theorem c_arrive {q : Nat × RS} {pd : Nat → Bool} {C : nC} {l : Nat} (H : PicR q.2.1 pd q.2.2.2.2 C) (hw : WF q.2.1) (hl : l < q.2.1 2) (hp : pd l = decide (q.2.2.1 l ≠ 0)) (hL : q.2.2.1 l ≠ 0 → q.2.1 (222 + 11 * l) = q.2.2.2.1 l ∧ q.2.2.2.1 l < 2 ^ q.2.1 0) : ∃ r C', run 11 0 [.ref (lkA b l), .ref (ndA b (C 12 l 1)), .null] [] (NH h b C) = some (some (.int (bI r)), NH h b C') ∧ PicR (rArr l q).2.1 (fun u => if u = l then false else pd u) q.2.2.2.2 C' ∧ (rArr l q).1 = q.1 + (if r = true then 1 else 0) := by
  have h20 := hw.2.2.1
  have hl2 : l < 20 := by omega
  have hn := hw.2.1
  have hf := hw.2.2.2.1 l hl
  have hk := hw.1.2
  have hr : ∀ u, u < 10 → q.2.1 (44 + u) ≤ 8 := fun u hu => by have := (hw.2.2.2.2.2.2.1 u hu).2.2; omega
  obtain ⟨⟨a0, a1, a2⟩, ⟨b4, b5, b7, b8⟩, hff, b9, b6⟩ := H.2.2 l hl2
  have hv : C 12 l 1 < 10 := by rw [a1]; omega
  obtain ⟨n0, n1, n2, n3, n4, n5, n6⟩ := H.2.1 _ hv
  have h9 : C 12 l 9 < 2 ^ 31 := by rw [b9]; split <;> decide
  have hp8 : 2 ^ q.2.1 0 ≤ 2 ^ 8 := Nat.pow_le_pow_right (by decide) hk
  have hP : ∀ a, a < 256 → ∀ t, rd (C 5 (C 12 l 1)) (C 6 (C 12 l 1)) 8 a 0 = some t → t < 2 ^ 31 := by
    intro a ha t ht
    rw [← n4.find ha] at ht
    have := (firstN_some.mp ht).1
    have h2 : 2 ^ q.2.1 (44 + C 12 l 1) ≤ 2 ^ 8 := Nat.pow_le_pow_right (by decide) (hr _ hv)
    omega
  have h5 : C 12 l 9 ≠ 0 → C 12 l 5 < 256 := by
    intro z
    have hpd : pd l = true := by
      cases hz : pd l
      · rw [b9, hz] at z; simp at z
      · rfl
    rw [hp] at hpd
    have := hL (of_decide_eq_true hpd)
    rw [b5]; omega
  have hnew : ∀ a, a < 2 ^ q.2.1 0 → rd (C 5 (C 12 l 1)) (C 6 (C 12 l 1)) 8 a 0 = none → C 4 (C 12 l 1) 2 < 8 := by
    intro a ha z
    have := (PicR_acc 0 H hk hr hv ha z).2
    rw [n3]; omega
  have D := c_deliver (h := h) (b := b) hl2 hv h9 (by rw [n3]; exact hr _ hv) (by
    intro z z1
    have hpd : pd l = true := by
      cases hz : pd l
      · rw [b9, hz] at z; simp at z
      · rfl
    rw [hp] at hpd
    have := hL (of_decide_eq_true hpd)
    refine hnew (C 12 l 5) (by rw [b5]; omega) ?_
    unfold dvN fateN at z1
    cases hz : rd (C 5 (C 12 l 1)) (C 6 (C 12 l 1)) 8 (C 12 l 5) 0 with
    | none => rfl
    | some t =>
      rw [hz] at z1
      dsimp only at z1
      split at z1 <;> omega) (fun i hi => n4.1.lead_lt hi) (fun z => hP _ (h5 z)) h5
  unfold rArr
  cases hpd : pd l
  · have hi0 : q.2.2.1 l = 0 := by
      rw [hpd] at hp
      have := of_decide_eq_false hp.symm
      omega
    have c9 : C 12 l 9 = 0 := by rw [b9, hpd]; simp
    refine ⟨false, C, ?_, ?_, ?_⟩
    · rw [D]
      simp [dvB, dvC, c9]
    · rw [if_pos hi0]
      have e : (fun u => if u = l then false else pd u) = pd := by
        funext u
        by_cases z : u = l
        · subst z; simp [hpd]
        · simp [z]
      rw [e]
      exact H
    · rw [if_pos hi0]; simp
  · have hi1 : q.2.2.1 l ≠ 0 := by rw [hpd] at hp; exact of_decide_eq_true hp.symm
    obtain ⟨hl1, hlt⟩ := hL hi1
    rw [if_neg hi1]
    dsimp only
    rw [← hl1] at hlt ⊢
    cases hlo : lostN q.2.1 l
    · have c9 : C 12 l 9 = 1 := by rw [b9, hpd, hlo]; simp
      have e6 : C 12 l 6 = q.2.2.2.2 l := b6 hpd
      have es : sfN q.2.1 (q.2.1 (215 + 11 * l)) (q.2.1 (222 + 11 * l)) = rd (C 5 (C 12 l 1)) (C 6 (C 12 l 1)) 8 (C 12 l 5) 0 := by
        rw [b5, ← n4.find (show q.2.1 (222 + 11 * l) < 256 by omega), a1]
        rfl
      have eN : dvN C l = arrF q.2.1 l (q.2.1 (222 + 11 * l)) (q.2.2.2.2 l) := by
        unfold dvN fateN arrF
        rw [hlo, es]
        simp only [Bool.false_eq_true, if_false]
        cases hz : rd (C 5 (C 12 l 1)) (C 6 (C 12 l 1)) 8 (C 12 l 5) 0 with
        | none => rfl
        | some t =>
          dsimp only
          rw [e6, n3, a1, xsN_congr (f := C 11 (q.2.1 (215 + 11 * l))) (f' := pays q.2.1 (q.2.1 (215 + 11 * l))) (fun i hi => by rw [← a1]; exact (n5 i (by rw [a1]; exact hi)).2)]
      have X := PicR_recv (f := dvN C l) H hr hl2 hpd hlo (fateN_le _ _ _ _).2
      rw [← eN]
      cases hz : rd (C 5 (C 12 l 1)) (C 6 (C 12 l 1)) 8 (C 12 l 5) 0 with
      | none =>
        have e1 : dvN C l = 1 := by unfold dvN fateN; rw [hz]
        refine ⟨true, accC (dvF C l) (C 12 l 1) (C 12 l 5) (C 12 l 6), ?_, ?_, ?_⟩
        · rw [D]; simp [dvB, dvC, c9, e1]
        · have eG : arrG q.2.1 l (q.2.1 (222 + 11 * l)) (q.2.2.2.2 l) = gAcc (gRecv q.2.1 l (q.2.1 (222 + 11 * l))) (q.2.1 (215 + 11 * l)) (q.2.1 (222 + 11 * l)) (q.2.2.2.2 l) := by
            unfold arrG
            rw [hlo, es, hz]
            rfl
          have e44 : ∀ u, u < 10 → gFate (gRecv q.2.1 l (q.2.1 (222 + 11 * l))) l (dvN C l) (44 + u) = q.2.1 (44 + u) := fun u hu => by
            unfold gFate gRecv
            rw [up_ne (by omega), up_ne (by omega)]
          have e0 : gFate (gRecv q.2.1 l (q.2.1 (222 + 11 * l))) l (dvN C l) 0 = q.2.1 0 := by
            unfold gFate gRecv
            rw [up_ne (by omega), up_ne (by omega)]
          have eR44 : gRecv q.2.1 l (q.2.1 (222 + 11 * l)) (44 + q.2.1 (215 + 11 * l)) ≤ 8 := by
            unfold gRecv
            rw [up_ne (by omega)]
            exact hr _ (by omega)
          rw [eG, gFate_acc _ _ _ (by omega) eR44]
          have k5 : ∀ k, k ≠ 12 → k ≠ 13 → dvF C l k = C k := fun k h1 h2 => by
            funext u
            unfold dvF dvL
            rw [upK_k h2, upK_k h1]
          have Y := (PicR_acc (v := C 12 l 1) (a := C 12 l 5) (C 12 l 6) X (by rw [e0]; exact hk) (fun u hu => by rw [e44 u hu]; exact hr u hu) hv (by rw [e0, b5]; exact hlt) (by
            show rd (dvF C l 5 (C 12 l 1)) (dvF C l 6 (C 12 l 1)) 8 (C 12 l 5) 0 = none
            rw [k5 5 (by decide) (by decide), k5 6 (by decide) (by decide)]
            exact hz)).1
          rw [← a1, ← e6, ← b5]
          rw [← b5] at Y
          exact Y
        · rw [e1]; simp
      | some t =>
        have e1 : dvN C l ≠ 1 := by
          unfold dvN fateN
          rw [hz]
          dsimp only
          split <;> decide
        refine ⟨false, dvF C l, ?_, ?_, ?_⟩
        · rw [D]; simp [dvB, dvC, c9, e1]
        · have eG : arrG q.2.1 l (q.2.1 (222 + 11 * l)) (q.2.2.2.2 l) = gRecv q.2.1 l (q.2.1 (222 + 11 * l)) := by
            unfold arrG
            rw [hlo, es, hz]
            rfl
          rw [eG]
          exact X
        · simp [e1]
    · have c9 : C 12 l 9 = 0 := by rw [b9, hpd, hlo]; simp
      have eF : arrF q.2.1 l (q.2.1 (222 + 11 * l)) (q.2.2.2.2 l) = 0 := by unfold arrF; rw [hlo]; rfl
      have eG : arrG q.2.1 l (q.2.1 (222 + 11 * l)) (q.2.2.2.2 l) = q.2.1 := by unfold arrG; rw [hlo]; rfl
      refine ⟨false, C, ?_, ?_, ?_⟩
      · rw [D]
        simp [dvB, dvC, c9]
      · rw [eF, eG]
        exact PicR_lost H hr hl2 hpd hlo
      · rw [eF]; simp
end AR
