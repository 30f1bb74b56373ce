/-! random checks; the rank of what was sent -/
theorem cntN_mono (p : Nat → Bool) {m n : Nat} (h : m ≤ n) : cntN p m ≤ cntN p n := by
  induction n with
  | zero => have : m = 0 := by omega
            subst this; exact Nat.le_refl _
  | succ n ih =>
    by_cases z : m = n + 1
    · subst z; exact Nat.le_refl _
    · have := ih (by omega)
      simp only [cntN]
      omega
section RC
variable {h : aH} {x n : Nat} {g : Nat → Nat} {C : nC}
theorem unB_rnd (g : Nat → Nat) (v : Nat) : unB (gRnd g) v = unB g v := by
  have e : ∀ j, j ≠ 4 → gRnd g j = g j := fun j hj => up_ne hj
  unfold unB
  rw [relN_congr (e 2 (by omega)) (fun l _ => e _ (by omega)), e (34 + v) (by omega)]
theorem c_checkable (H : Pic g C) (hw : WF g) {v : Nat} (hv : v < 10) : run 36 0 [.ref (x + 1), .int (nI v)] [] (NH h (x + 1) C) = some (some (.int (bI (unB g v))), NH h (x + 1) C) := by
  have h34 := (hw.2.2.2.2.2.2.1 v hv).2.1
  unfold unB
  simp (disch := omega) only [s36_0, s36_1, s36_2, s36_5, s36_8, s36_9, s36_12, s36_13, s36_14, s36_17, s36_20, s36_21, s36_24, s36_25, gf0, gf1, gf2, gf3, gf4, gf5, gf6, gf7, gf8, gf9, gf10, gf11, gf12, gf13, gf14, pu0, pu1, pu2, pu3, pu4, pu5, pu6, pu7, pu8, pu9, pu10, pu11, pu12, pu13, pu14, rc_at, bK_some, Option.toList_some, Option.toList_none, List.cons_append, List.nil_append, NH_0, NH_2, c_rel H hw, al_nd, NH_n hv, (H.2.1 v hv).2.2.1, bI_0, nI_eq0, z01_1, z01_0, if_true]
  cases relN g (nI v)
  · simp [bI]
  · by_cases z : g (34 + v) = 0 <;> simp [z, bI, n1]
theorem Pic_rnd (H : Pic g C) (hw : WF g) : Pic (gRnd g) (rnC C) := by
  have := Pic_lim H (rndS g) (g 5) hw.r8
  rw [show up (up g 4 (rndS g)) 5 (g 5) = gRnd g from by
    have := up_self (up g 4 (rndS g)) 5
    rw [up_ne (by decide)] at this
    exact this] at this
  unfold rnC
  rw [show rsN (C 0 0 6) = rndS g from by rw [H.1.2.2.2.1]; rfl, H.1.2.2.2.2.1]
  exact this
theorem c_rnd (H : Pic g C) (hw : WF g) {m : Nat} (hm : 0 < m) (hm2 : m < 2 ^ 31) : run 29 0 [.ref (x + 1), .int (nI m)] [] (NH h (x + 1) C) = some (some (.int (nI (rndV g m))), NH h (x + 1) (rnC C)) := by
  have o4 := H.1.2.2.2.1
  rw [c_random (by rw [o4]; exact hw.2.2.2.2.1) hm hm2, o4]
  rfl
theorem c_randomSpot (H : Pic g C) (hw : WF g) : ∃ C', run 35 0 [.ref (x + 1), .null, .null, .null, .null] [] (NH h (x + 1) C) = some (some (.int (bI (crB g))), NH h (x + 1) C') ∧ Pic (crF g) C' := by
  have h1 := hw.2.1
  have o1 := H.1.2.1
  have k1 : ∀ m, m ≤ g 1 - 1 → run 35 4 [.ref (x + 1), .int (nI 0), .int (nI 1), .null, .null] [] (NH h (x + 1) C) = run 35 4 [.ref (x + 1), .int (nI (cntN (fun i => unB g (1 + i)) m)), .int (nI (1 + m)), .null, .null] [] (NH h (x + 1) C) := by
    intro m
    induction m with
    | zero => intro _; rfl
    | succ m ih =>
      intro hm
      rw [ih (by omega), s35_4]
      simp (disch := omega) only [s35_5, s35_6, s35_9, s35_12, s35_13, s35_14, s35_17, gf0, gf1, gf2, gf3, gf4, gf5, gf6, gf7, gf8, gf9, gf10, gf11, gf12, gf13, gf14, pu0, pu1, pu2, pu3, pu4, pu5, pu6, pu7, pu8, pu9, pu10, pu11, pu12, pu13, pu14, rc_at, bK_some, Option.toList_some, Option.toList_none, List.cons_append, List.nil_append, NH_0, o1, nI_lts, show 1 + m < g 1 from by omega, if_true, c_checkable H hw (show 1 + m < 10 by omega), bI_0]
      cases q : unB g (1 + m)
      · simp only [if_true, s35_23, s35_26, nI_adds, cntN, q, Bool.false_eq_true, if_false, Nat.add_zero, Nat.add_assoc]
      · simp only [Bool.true_eq_false, if_false, s35_20, s35_23, s35_26, nI_adds, cntN, q, if_true, Nat.add_assoc]
  have st : run 35 0 [.ref (x + 1), .null, .null, .null, .null] [] (NH h (x + 1) C) = run 35 29 [.ref (x + 1), .int (nI (unC g)), .int (nI (g 1)), .null, .null] [] (NH h (x + 1) C) := by
    simp only [s35_0, s35_1, s35_2, s35_3]
    rw [k1 _ (Nat.le_refl _), s35_4]
    simp (disch := omega) only [s35_5, s35_6, s35_9, gf0, gf1, gf2, gf3, gf4, gf5, gf6, gf7, gf8, gf9, gf10, gf11, gf12, gf13, gf14, pu0, pu1, pu2, pu3, pu4, pu5, pu6, pu7, pu8, pu9, pu10, pu11, pu12, pu13, pu14, rc_at, bK_some, Option.toList_some, Option.toList_none, List.cons_append, List.nil_append, NH_0, o1, nI_lts, show ¬ 1 + (g 1 - 1) < g 1 from by omega, if_false, unC]
    rw [show 1 + (g 1 - 1) = g 1 from by omega]
  have hu : unC g < 2 ^ 31 := by
    have := cntN_le (fun i => unB g (1 + i)) (g 1 - 1)
    unfold unC
    omega
  rw [st]
  unfold crB crF
  by_cases c : unC g = 0
  · refine ⟨C, ?_, by simpa [c] using H⟩
    simp (disch := omega) only [s35_29, s35_30, s35_33, s35_34, nI_eq0, c, if_true, z01_0, bI_f, true_or]
  · have hc : 0 < unC g := by omega
    have P1 := Pic_rnd H hw
    have W1 := hw.rnd
    have P2 := Pic_rnd P1 W1
    have W2 := W1.rnd
    have hk := hw.1
    have hp8 := pow_8 hk.2
    have hp2 : 2 ^ 1 ≤ 2 ^ g 0 := Nat.pow_le_pow_right (by decide) (by omega)
    have r1 := c_rnd (h := h) (x := x) H hw hc hu
    have g0 : gRnd g 0 = g 0 := up_ne (by decide)
    have ea := c_allPackets (h := h) (b := x + 1) (C := rnC C) (by rw [P1.1.1, g0]; omega)
    rw [P1.1.1, g0] at ea
    have r2 := c_rnd (h := h) (x := x) P1 W1 (m := 2 ^ g 0 - 1) (by omega) (by omega)
    have hq : rndV g (unC g) < unC g := Nat.mod_lt _ hc
    obtain ⟨i, hi⟩ := firstN_nth (p := fun i => unB g (1 + i)) (g 1 - 1) (rndV g (unC g)) hq
    have hi' : unF g (rndV g (unC g)) = some i := hi
    rw [hi']
    obtain ⟨i1, i2, i3⟩ := firstN_some.mp hi
    simp only [Bool.and_eq_true, decide_eq_true_iff] at i2
    obtain ⟨i2, i4⟩ := i2
    have cut : gRnd (gRnd g) (34 + (1 + i)) = 0 := by
      have e : gRnd (gRnd g) (34 + (1 + i)) = g (34 + (1 + i)) := by unfold gRnd; rw [up_ne (by omega), up_ne (by omega)]
      rw [e]
      unfold unB at i2
      simp at i2
      exact i2.2
    have o1' : rnC (rnC C) 0 0 2 = g 1 := by rw [P2.1.2.1]; unfold gRnd; rw [up_ne (by omega), up_ne (by omega)]
    obtain ⟨C', r3, p3⟩ := c_spotCheck (h := h) (x := x) (p := rndV (gRnd g) (2 ^ g 0 - 1) + 1) P2 W2 (show 1 + i < 10 by omega) cut
    have ck : ∀ m, m < 9 → run 36 0 [.ref (x + 1), .int (nI (1 + m))] [] (NH h (x + 1) (rnC (rnC C))) = some (some (.int (bI (unB g (1 + m)))), NH h (x + 1) (rnC (rnC C))) := fun m hm => by
      rw [c_checkable P2 W2 (show 1 + m < 10 by omega), unB_rnd, unB_rnd]
    refine ⟨C', ?_, by simp only [c, if_false]; exact p3⟩
    generalize rndV (gRnd g) (2 ^ g 0 - 1) = pj at r2 r3
    generalize rndV g (unC g) = q0 at r1 hq hi hi' i3 i4
    have hq9 : q0 < 2 ^ 31 := by omega
    have k2 : ∀ m, m ≤ i → run 35 55 [.ref (x + 1), .int (nI (unC g)), .int (nI q0), .int (nI (pj + 1)), .int (nI 1)] [] (NH h (x + 1) (rnC (rnC C))) = run 35 55 [.ref (x + 1), .int (nI (unC g)), .int (nI (q0 - cntN (fun i => unB g (1 + i)) m)), .int (nI (pj + 1)), .int (nI (1 + m))] [] (NH h (x + 1) (rnC (rnC C))) := by
      intro m
      induction m with
      | zero => intro _; rfl
      | succ m ih =>
        intro hm
        have mono := cntN_mono (fun i => unB g (1 + i)) (show m + 1 ≤ i by omega)
        have no := i3 m (by omega)
        rw [ih (by omega), s35_55]
        simp (disch := omega) only [s35_57, s35_58, s35_61, s35_64, s35_65, s35_67, s35_70, gf0, gf1, gf2, gf3, gf4, gf5, gf6, gf7, gf8, gf9, gf10, gf11, gf12, gf13, gf14, pu0, pu1, pu2, pu3, pu4, pu5, pu6, pu7, pu8, pu9, pu10, pu11, pu12, pu13, pu14, rc_at, bK_some, Option.toList_some, Option.toList_none, List.cons_append, List.nil_append, NH_0, o1', nI_lts, show 1 + m < g 1 from by omega, if_true, ck m (by omega), bI_0]
        cases q : unB g (1 + m)
        · simp only [if_true, s35_73, s35_91, s35_94, nI_adds, cntN, q, Bool.false_eq_true, if_false, Nat.add_zero, Nat.add_assoc]
        · rw [q] at no
          have hne : cntN (fun i => unB g (1 + i)) m ≠ q0 := by simpa using no
          have hs : cntN (fun i => unB g (1 + i)) (m + 1) = cntN (fun i => unB g (1 + i)) m + 1 := by simp [cntN, q]
          have e : q0 - cntN (fun i => unB g (1 + i)) m = (q0 - cntN (fun i => unB g (1 + i)) (m + 1)) + 1 := by omega
          simp (disch := omega) only [Bool.true_eq_false, if_false, s35_76, s35_77, nI_eq0, show ¬ q0 - cntN (fun i => unB g (1 + i)) m = 0 from by omega]
          rw [e]
          simp (disch := omega) only [s35_88, s35_91, s35_94, nI_m1, nI_adds, Nat.add_assoc]
    simp (disch := omega) only [s35_29, s35_30, s35_33, s35_34, s35_35, s35_36, s35_37, s35_40, s35_41, s35_42, s35_43, s35_46, s35_49, s35_50, s35_51, s35_52, s35_53, gf0, gf1, gf2, gf3, gf4, gf5, gf6, gf7, gf8, gf9, gf10, gf11, gf12, gf13, gf14, pu0, pu1, pu2, pu3, pu4, pu5, pu6, pu7, pu8, pu9, pu10, pu11, pu12, pu13, pu14, rc_at, bK_some, Option.toList_some, Option.toList_none, List.cons_append, List.nil_append, NH_0, nI_eq0, c, if_false, r1, ea, r2, nI_adds]
    rw [k2 i (Nat.le_refl _), i4, Nat.sub_self, s35_55]
    simp (disch := omega) only [s35_57, s35_58, s35_61, s35_64, s35_65, s35_67, s35_70, s35_73, s35_76, s35_77, s35_80, s35_81, s35_83, s35_84, s35_87, gf0, gf1, gf2, gf3, gf4, gf5, gf6, gf7, gf8, gf9, gf10, gf11, gf12, gf13, gf14, pu0, pu1, pu2, pu3, pu4, pu5, pu6, pu7, pu8, pu9, pu10, pu11, pu12, pu13, pu14, rc_at, bK_some, Option.toList_some, Option.toList_none, List.cons_append, List.nil_append, NH_0, o1', nI_lts, show 1 + i < g 1 from by omega, if_true, ck i (by omega), i2, bI_0, Bool.true_eq_false, if_false, z0_0, r3]
    cases susN (gRnd (gRnd g)) (1 + i) (pj + 1) <;> simp [bI, n1]
theorem c_checkRandomly (hx : CH h x n) (H : Pic g C) (hw : WF g) (r : Int32) : ∃ C', run 91 0 [.ref x, .int r, .null, .null] [] (NH h (x + 1) C) = some (some (.int (oChkR g r).1), NH h (x + 1) C') ∧ Pic (oChkR g r).2 C' := by
  have hxx := hx.at
  unfold oChkR
  by_cases c : inI r (nI 1) (nI 50) = true
  · obtain ⟨j, h1, h2, rfl, h3⟩ := inI_t (by decide) (by decide) c
    have key : ∀ m, m ≤ j → ∃ C', run 91 17 [.ref x, .int (nI j), .int (nI 0), .int (nI 0)] [] (NH h (x + 1) C) = run 91 17 [.ref x, .int (nI j), .int (nI (cntN (fun i => crB (crI g i)) m)), .int (nI m)] [] (NH h (x + 1) C') ∧ Pic (crI g m) C' := by
      intro m
      induction m with
      | zero => intro _; exact ⟨C, rfl, H⟩
      | succ m ih =>
        intro hm
        obtain ⟨C1, e1, p1⟩ := ih (by omega)
        obtain ⟨C2, e2, p2⟩ := c_randomSpot (h := h) (x := x) p1 (WFS_crI hw H.ws m).1
        refine ⟨C2, ?_, p2⟩
        rw [e1, s91_17]
        simp (disch := omega) only [s91_18, s91_19, s91_22, s91_23, s91_26, s91_29, gf0, gf1, gf2, gf3, gf4, gf5, gf6, gf7, gf8, gf9, gf10, gf11, gf12, gf13, gf14, pu0, pu1, pu2, pu3, pu4, pu5, pu6, pu7, pu8, pu9, pu10, pu11, pu12, pu13, pu14, rc_at, bK_some, Option.toList_some, Option.toList_none, List.cons_append, List.nil_append, hxx, NH_0, nI_lts, show m < j from by omega, if_true, e2, bI_0]
        cases q : crB (crI g m)
        · simp only [if_true, s91_35, s91_38, nI_adds, cntN, q, Bool.false_eq_true, if_false, Nat.add_zero]
        · simp only [Bool.true_eq_false, if_false, s91_32, s91_35, s91_38, nI_adds, cntN, q, if_true]
    obtain ⟨C1, e1, p1⟩ := key j (Nat.le_refl j)
    refine ⟨C1, ?_, by simpa [c, h3] using p1⟩
    simp only [s91_0, s91_1, s91_2, s91_5, s91_6, s91_8, s91_11, s91_12, s91_13, s91_14, s91_15, s91_16, ite_in, c, if_true]
    rw [e1, s91_17]
    simp (disch := omega) only [s91_18, s91_19, s91_41, s91_42, nI_lts, Nat.lt_irrefl, if_false, h3]
  · refine ⟨C, ?_, by simpa [c] using H⟩
    simp only [s91_0, s91_1, s91_2, s91_5, s91_6, s91_8, s91_11, s91_12, ite_in, c, if_false]
    simp
end RC
/-! the rank of what was sent -/
theorem SpG.mem {p : Nat → Prop} {s : Nat} {L : Nat → Nat} (H : SpG p s L) (y : Nat) : inS L y ↔ GenQ p y := by
  constructor
  · rintro ⟨T, rfl⟩ Q q0 q1 q2
    exact clo_xs q0 q1 T 8 (fun i hi => H.2.2.2 i hi Q q0 q1 q2)
  · intro hy
    exact hy (inS L) (inS_0 L) (fun a c ha hc => inS_xor ha hc) H.2.2.1
theorem nz_eq {L L' : Nat → Nat} (h : Ech L) (h' : Ech L') (e : ∀ y, inS L y ↔ inS L' y) : nz L = nz L' := by
  have one : ∀ {L L' : Nat → Nat}, Ech L → Ech L' → (∀ y, inS L y → inS L' y) → ∀ b, b < 8 → L b ≠ 0 → L' b ≠ 0 := by
    intro L L' h h' e b hb z
    rcases h b hb with q | ⟨q1, q2⟩
    · exact absurd q z
    · exact h'.top hb (e _ (inS_lead hb)) q2 (bit_top q1 q2)
  unfold nz
  refine cntN_congr (fun b hb => decide_eq_decide.mpr ⟨one h h' (fun y => (e y).mp) b hb, one h' h (fun y => (e y).mpr) b hb⟩)
theorem SpG.size {p q : Nat → Prop} {s s' : Nat} {L L' : Nat → Nat} (H : SpG p s L) (H' : SpG q s' L') (e : ∀ y, GenQ p y ↔ GenQ q y) : s = s' := by
  rw [← H.2.1, ← H'.2.1]
  exact nz_eq H.1 H'.1 (fun y => by rw [H.mem, H'.mem]; exact e y)
theorem GenQ_add {p q : Nat → Prop} {a : Nat} (hq : ∀ w, q w ↔ (p w ∨ w = a)) (y : Nat) : GenQ q y ↔ (GenQ p y ∨ GenQ p (y ^^^ a)) := by
  constructor
  · intro hy
    refine hy (fun y => GenQ p y ∨ GenQ p (y ^^^ a)) (Or.inl (fun Q q0 _ _ => q0)) ?_ ?_
    · have X : ∀ u v, GenQ p u → GenQ p v → GenQ p (u ^^^ v) := fun u v hu hv Q q0 q1 q2 => q1 _ _ (hu Q q0 q1 q2) (hv Q q0 q1 q2)
      rintro u v (hu | hu) (hv | hv)
      · exact Or.inl (X _ _ hu hv)
      · refine Or.inr ?_
        have := X _ _ hu hv
        rw [← Nat.xor_assoc] at this
        exact this
      · refine Or.inr ?_
        have := X _ _ hu hv
        rw [Nat.xor_assoc, Nat.xor_comm a v, ← Nat.xor_assoc] at this
        exact this
      · refine Or.inl ?_
        have := X _ _ hu hv
        rw [show u ^^^ a ^^^ (v ^^^ a) = u ^^^ v from by rw [Nat.xor_assoc, Nat.xor_comm v a, xor_x]] at this
        exact this
    · intro w hw
      rcases (hq w).mp hw with h | rfl
      · exact Or.inl (fun Q _ _ q2 => q2 w h)
      · refine Or.inr ?_
        rw [Nat.xor_self]
        exact fun Q q0 _ _ => q0
  · rintro (hy | hy)
    · exact hy.mono (fun w hw => (hq w).mpr (Or.inl hw))
    · intro Q q0 q1 q2
      have h1 := hy Q q0 q1 (fun w hw => q2 w ((hq w).mpr (Or.inl hw)))
      have h2 := q1 _ _ h1 (q2 a ((hq a).mpr (Or.inr rfl)))
      rw [Nat.xor_assoc, Nat.xor_self, Nat.xor_zero] at h2
      exact h2

