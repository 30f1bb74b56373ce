/-! sending keeps the picture -/
theorem snt_eq {g G : Nat → Nat} {v u a : Nat} (ha : a < 256) (e1 : ∀ j, 434 ≤ j → j ≠ 434 + 256 * v + a → G j = g j) (e2 : G (434 + 256 * v + a) = 1) : ∀ w, snt G u w ↔ (snt g u w ∨ (u = v ∧ w = a)) := by
  intro w
  unfold snt
  by_cases c : u = v ∧ w = a
  · obtain ⟨rfl, rfl⟩ := c
    simp [e2, ha]
  · by_cases hw : w < 256
    · rw [e1 (434 + 256 * u + w) (by omega) (by intro z; apply c; omega)]
      simp [c]
    · simp [hw, c]
theorem SpOK.same {L P f f' : Nat → Nat} {n n' k k' : Nat} (h : SpOK L P f n k) (hn : n' = n) (hk : k' = k) (e : ∀ i, i < n → f' i = f i) : SpOK L P f' n' k' := by
  subst hn hk
  exact h.congr e
theorem PicN.same {g G : Nat → Nat} {C D : nC} {u : Nat} (H : PicN g C u) (hr : g (44 + u) ≤ 8) (hu : u < 10) (hk : ∀ k, 3 ≤ k → k ≤ 11 → k ≠ 7 → k ≠ 8 → k ≠ 9 → D k u = C k u) (e : ∀ j, j < 214 → j ≠ 4 → j ≠ 3 → G j = g j) (hs : SpG (snt G u) (D 7 u 2) (D 8 u)) : PicN G D u := by
  obtain ⟨n0, n1, n2, n3, n4, n5, n6⟩ := H
  refine ⟨?_, ?_, ?_, ?_, ?_, ?_, hs⟩
  · rw [hk 3 (by decide) (by decide) (by decide) (by decide) (by decide), e _ (by omega) (by omega) (by omega)]; exact n0
  · rw [hk 3 (by decide) (by decide) (by decide) (by decide) (by decide), e _ (by omega) (by omega) (by omega)]; exact n1
  · rw [hk 3 (by decide) (by decide) (by decide) (by decide) (by decide), e _ (by omega) (by omega) (by omega)]; exact n2
  · rw [hk 4 (by decide) (by decide) (by decide) (by decide) (by decide), e _ (by omega) (by omega) (by omega)]; exact n3
  · rw [hk 5 (by decide) (by decide) (by decide) (by decide) (by decide), hk 6 (by decide) (by decide) (by decide) (by decide) (by decide)]
    refine n4.same (e _ (by omega) (by omega) (by omega)) (e _ (by omega) (by omega) (by omega)) ?_
    intro i hi
    exact e _ (by omega) (by omega) (by omega)
  · intro i hi
    rw [e _ (by omega) (by omega) (by omega)] at hi
    rw [hk 10 (by decide) (by decide) (by decide) (by decide) (by decide), hk 11 (by decide) (by decide) (by decide) (by decide) (by decide)]
    refine ⟨(n5 i hi).1.trans (e _ (by omega) (by omega) (by omega)).symm, (n5 i hi).2.trans (e _ (by omega) (by omega) (by omega)).symm⟩
section S2
variable {g : Nat → Nat} {pd : Nat → Bool} {sp : Nat → Nat} {C : nC} {v l : Nat}
theorem PicR_ps (H : PicR g pd sp C) (hv : v < 10) : psN C v = rSet g v := by
  obtain ⟨⟨o0, o1, o2, o4, o5, o3, _⟩, hN, hL⟩ := H
  obtain ⟨n0, n1, n2, n3, n4, n5, n6⟩ := hN v hv
  unfold psN rSet amg rndV
  rw [n0, n3, o4]
  have e : rndS g = rsN (g 4) := rfl
  rw [e]
  by_cases c1 : g (14 + v) = 1
  · rw [if_pos c1, if_pos c1]
  · rw [if_neg c1, if_neg c1]
    by_cases c2 : g (14 + v) = 2
    · rw [if_pos c2, if_pos c2]
    · rw [if_neg c2, if_neg c2]
theorem PicR_sv (H : PicR g pd sp C) (hv : v < 10) : sdV C v = sVec g v (rSet g v) := by
  have e := PicR_ps H hv
  obtain ⟨_, hN, _⟩ := H
  obtain ⟨n0, n1, n2, n3, n4, n5, n6⟩ := hN v hv
  show xsN (C 10 v) (psN C v) (C 4 v 2) = _
  rw [e, n3]
  exact xsN_congr fun i hi => (n5 i hi).1
theorem PicR_sp (H : PicR g pd sp C) (hv : v < 10) : sdP C v = sPay g v (rSet g v) := by
  have e := PicR_ps H hv
  obtain ⟨_, hN, _⟩ := H
  obtain ⟨n0, n1, n2, n3, n4, n5, n6⟩ := hN v hv
  show xsN (C 11 v) (psN C v) (C 4 v 2) ^^^ chN C v = _
  rw [e, n3, Nat.xor_comm]
  unfold sPay altN chN
  rw [n0]
  congr 1
  exact xsN_congr fun i hi => (n5 i hi).2
theorem PicR_send (H : PicR g pd sp C) (hw : WF g) (hv : v < 10) (hl : l < 20) (hp : pd l = false) : PicR (gSend (rG g v) l v (sVec g v (rSet g v))) (fun q => if q = l then true else pd q) (up sp l (sPay g v (rSet g v))) (sdC C v l) := by
  have eV := PicR_sv H hv
  have eP := PicR_sp H hv
  have ha : sVec g v (rSet g v) < 256 := xsN_lt fun i hi => hw.vlt hv hi
  unfold sdC
  rw [eV, eP]
  generalize sVec g v (rSet g v) = a at ha ⊢
  generalize sPay g v (rSet g v) = p
  obtain ⟨⟨o0, o1, o2, o4, o5, o3, o6⟩, hN, hL⟩ := H
  have eG0 : ∀ j, j ≠ 4 → rG g v j = g j := by
    intro j hj
    unfold rG
    split
    · rfl
    · exact up_ne hj
  have eG : ∀ j, j ≠ 4 → j ≠ 217 + 11 * l → j ≠ 222 + 11 * l → j ≠ 223 + 11 * l → j ≠ 434 + 256 * v + a → gSend (rG g v) l v a j = g j := by
    intro j j0 j1 j2 j3 j4
    unfold gSend
    rw [up_ne j4, up_ne j3, up_ne j2, up_ne j1, eG0 j j0]
  have g4 : gSend (rG g v) l v a 4 = rG g v 4 := by
    unfold gSend
    rw [up_ne (by omega), up_ne (by omega), up_ne (by omega), up_ne (by omega)]
  have g217 : gSend (rG g v) l v a (217 + 11 * l) = g (217 + 11 * l) + 1 := by
    unfold gSend
    rw [up_ne (by omega), up_ne (by omega), up_ne (by omega), up_same, eG0 _ (by omega)]
  have g222 : gSend (rG g v) l v a (222 + 11 * l) = a := by
    unfold gSend
    rw [up_ne (by omega), up_ne (by omega), up_same]
  have g223 : gSend (rG g v) l v a (223 + 11 * l) = g (223 + 11 * l) ^^^ a := by
    unfold gSend
    rw [up_ne (by omega), up_same, eG0 _ (by omega)]
  have gS : gSend (rG g v) l v a (434 + 256 * v + a) = 1 := by
    unfold gSend
    rw [up_same]
  generalize hG : gSend (rG g v) l v a = G at eG g4 g217 g222 g223 gS ⊢
  have k0 : adC (cyL (psC C v) l a p) v a 0 0 = psC C v 0 0 := by
    unfold adC
    rw [upK_k (by decide), upK_k (by decide), upK_k (by decide), cyL_k (by decide) (by decide)]
  have kk : ∀ k, k ≠ 0 → k ≠ 7 → k ≠ 8 → k ≠ 9 → k ≠ 12 → k ≠ 13 → adC (cyL (psC C v) l a p) v a k = C k := by
    intro k h0 h7 h8 h9 h12 h13
    funext u
    unfold adC
    rw [upK_k h9, upK_k h8, upK_k h7, cyL_k h12 h13, psC_k h0]
  have kL : ∀ k, k = 12 ∨ k = 13 → adC (cyL (psC C v) l a p) v a k = cyL (psC C v) l a p k := by
    intro k hk
    funext u
    unfold adC
    rw [upK_k (by omega), upK_k (by omega), upK_k (by omega)]
  have e7 : cyL (psC C v) l a p 7 = C 7 := by rw [cyL_k (by decide) (by decide), psC_k (by decide)]
  have e8 : cyL (psC C v) l a p 8 = C 8 := by rw [cyL_k (by decide) (by decide), psC_k (by decide)]
  have e9 : cyL (psC C v) l a p 9 = C 9 := by rw [cyL_k (by decide) (by decide), psC_k (by decide)]
  have hsn := fun u => snt_eq (u := u) ha (fun j j1 j2 => eG j (by omega) (by omega) (by omega) (by omega) j2) gS
  refine ⟨?_, ?_, ?_⟩
  · have lo : ∀ j, j < 200 → j ≠ 4 → G j = g j := fun j j1 j2 => eG j j2 (by omega) (by omega) (by omega) (by omega)
    have p0 : ∀ i, i ≠ 6 → i = 0 ∨ i = 2 ∨ i = 4 ∨ i = 7 ∨ i = 8 → psC C v 0 0 i = C 0 0 i := by
      intro i h6 hi
      unfold psC rnC
      split
      · rfl
      · rw [upK_same]
        rcases hi with rfl | rfl | rfl | rfl | rfl <;> rfl
    refine ⟨?_, ?_, ?_, ?_, ?_, ?_, ?_⟩
    · rw [k0, p0 0 (by decide) (by decide), lo 0 (by omega) (by omega)]; exact o0
    · rw [k0, p0 2 (by decide) (by decide), lo 1 (by omega) (by omega)]; exact o1
    · rw [k0, p0 4 (by decide) (by decide), lo 2 (by omega) (by omega)]; exact o2
    · rw [k0, g4]
      unfold psC rG
      rw [(hN v hv).1]
      split
      · exact o4
      · show rsN (C 0 0 6) = _
        rw [o4]
        exact (up_same _ _ _).symm
    · rw [k0, p0 7 (by decide) (by decide), lo 5 (by omega) (by omega)]; exact o5
    · rw [k0, p0 8 (by decide) (by decide), lo 3 (by omega) (by omega)]; exact o3
    · intro i hi
      rw [kk 1 (by decide) (by decide) (by decide) (by decide) (by decide) (by decide), lo _ (by omega) (by omega)]
      exact o6 i hi
  · intro u hu
    refine (hN u hu).same (by have := (hw.2.2.2.2.2.2.1 u hu).2.2; have := hw.1.2; omega) hu ?_ (fun j j1 j2 _ => eG j j2 (by omega) (by omega) (by omega) (by omega)) ?_
    · intro k h3 h11 h7 h8 h9
      rw [kk k (by omega) h7 h8 h9 (by omega) (by omega)]
    · have hs := (hN u hu).2.2.2.2.2.2
      unfold adC
      rw [e7, e8, e9]
      by_cases c : u = v
      · subst c
        have := hs.add (P := C 9 u) (q := snt G u) ha (fun w => by rw [hsn u w]; simp)
        rw [upK_k (by decide), upK_k (by decide), upK_same, upK_k (by decide), upK_same]
        exact this
      · simp only [upK, c, and_false, if_false, e7, e8]
        exact hs.congr (fun w => by rw [hsn u w]; simp [c])
  · intro q hq
    obtain ⟨⟨a0, a1, a2⟩, ⟨b4, b5, b7, b8⟩, hf, b9, b6⟩ := hL q hq
    unfold PicL
    rw [kL 12 (Or.inl rfl), kL 13 (Or.inr rfl), lostN_los]
    have e12 : psC C v 12 = C 12 := psC_k (by decide)
    have e13 : psC C v 13 = C 13 := psC_k (by decide)
    by_cases c : q = l
    · subst c
      have arr : arrN (psC C v) q = if lostN G q = true then 0 else 1 := by
        unfold arrN
        rw [e12, b4, a2, lostN_los, g217, eG (216 + 11 * q) (by omega) (by omega) (by omega) (by omega) (by omega)]
      have c12 : cyL (psC C v) q a p 12 q = w10 (C 12 q 0) (C 12 q 1) (C 12 q 2) (C 12 q 4 + 1) a p (C 12 q 7 ^^^ a) (C 12 q 8) (arrN (psC C v) q) := by
        unfold cyL
        rw [e12]
        split
        · rw [upK_k (by decide), upK_same]
        · rw [upK_same]
      rw [c12, ← lostN_los, arr]
      refine ⟨⟨?_, ?_, ?_⟩, ⟨?_, ?_, ?_, ?_⟩, ?_, ?_, ?_⟩
      · rw [w10_0, a0, eG _ (by omega) (by omega) (by omega) (by omega) (by omega)]
      · rw [w10_1, a1, eG _ (by omega) (by omega) (by omega) (by omega) (by omega)]
      · rw [w10_2, a2, eG _ (by omega) (by omega) (by omega) (by omega) (by omega)]
      · rw [w10_4, b4, g217]
      · rw [w10_5, g222]
      · rw [w10_7, b7, g223]
      · rw [w10_8, b8, eG _ (by omega) (by omega) (by omega) (by omega) (by omega)]
      · intro f hf4
        have hff := hf f hf4
        rw [hp] at hff
        simp only [Bool.false_eq_true, false_and, and_false, if_false, Nat.add_zero] at hff
        rw [eG (218 + 11 * q + f) (by omega) (by omega) (by omega) (by omega) (by omega), ← hff]
        unfold cyL
        rw [arr, e13]
        cases lostN G q
        · simp [upK_k]
          rw [e13]
        · simp only [if_true, true_and, and_true, upK_same]
          by_cases f0 : f = 0
          · subst f0; rw [up_same]; simp
          · rw [up_ne f0]; simp [f0]
      · rw [w10_9]
        cases lostN G q <;> simp
      · intro _
        rw [w10_6, up_same]
    · have c12 : cyL (psC C v) l a p 12 q = C 12 q := by
        unfold cyL
        split
        · rw [upK_v c, upK_v c, e12]
        · rw [upK_v c, e12]
      have c13 : cyL (psC C v) l a p 13 q = C 13 q := by
        unfold cyL
        split
        · rw [upK_v c, upK_v c, e13]
        · rw [upK_v c, e13]
      have far : ∀ r, r < 11 → G (214 + 11 * q + r) = g (214 + 11 * q + r) := fun r hr => eG _ (by omega) (by omega) (by omega) (by omega) (by omega)
      have far' : ∀ j, 214 + 11 * q ≤ j → j < 225 + 11 * q → G j = g j := fun j j1 j2 => eG _ (by omega) (by omega) (by omega) (by omega) (by omega)
      rw [c12, c13, far' _ (by omega) (by omega), far' _ (by omega) (by omega), far' (216 + 11 * q) (by omega) (by omega), far' (217 + 11 * q) (by omega) (by omega), far' (222 + 11 * q) (by omega) (by omega), far' (223 + 11 * q) (by omega) (by omega), far' (224 + 11 * q) (by omega) (by omega), ← lostN_los]
      simp only [c, if_false, up_ne (show q ≠ l from c)]
      refine ⟨⟨a0, a1, a2⟩, ⟨b4, b5, b7, b8⟩, ?_, b9, b6⟩
      intro f hf4
      rw [far' _ (by omega) (by omega)]
      exact hf f hf4
end S2
