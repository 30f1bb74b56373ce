/-! the class: keep, restore -/
def rsA (S K : Nat → Nat) (s : Int32) : Int32 := if inI s (nI 0) (nI 1) = true then (if K (cl s) = 0 then -3 else nI (S (2994 * cl s + 3))) else -1
def rsG (g S K : Nat → Nat) (s : Int32) : Nat → Nat := if inI s (nI 0) (nI 1) = true ∧ K (cl s) ≠ 0 then cpN g (slt S (cl s)) 0 2994 else g
theorem al_sl {z : Nat → Option Nat} {j : Nat} {α : Type} {K : Value → Option α} (hj : j < 2) : alQ (nI j) (some (.inl (5, 2, .inr z))) K = K (va_rf (z j)) := by
  rw [al_Q (Or.inr (Or.inr rfl)) hj (by decide)]
theorem out_slot {s : Int32} (c : inI s (nI 0) (nI 1) = false) : s < 0 ∨ (¬ s < 0 ∧ ¬ s < nI 2) := by
  by_cases z : s < 0
  · exact Or.inl z
  · obtain ⟨j, hj, rfl⟩ := nI_of z
    refine Or.inr ⟨z, ?_⟩
    rw [inI_nI hj (by decide) (by decide)] at c
    rw [nI_lts hj (by decide)]
    simp at c
    omega
theorem Pic.b1 {g : Nat → Nat} {C : nC} (H : Pic g C) (hw : WF g) : (∀ v, v < 10 → C 3 v 6 ≤ 1) ∧ ∀ l, l < 20 → C 12 l 9 ≤ 1 := by
  refine ⟨fun v hv => ?_, fun l hl => ?_⟩
  · rw [(H.2.1 v hv).2.2.1]; exact (hw.2.2.2.2.2.2.1 v hv).2.1
  · rw [(H.2.2 l hl).2.2.2.1]; split <;> omega
section SLx
variable {hh : aH} {x s0 n : Nat} {g S K T : Nat → Nat}
theorem cpN_in {g r : Nat → Nat} {j : Nat} (hj : j < 2994) : cpN g r 0 2994 j = r j := by
  unfold cpN
  rw [if_pos (by omega)]
  rfl
theorem w_restore (H : CW hh x s0 g S K T n) (hw : WF g) (hp : WP g) (s : Int32) : ∃ hh', run 103 0 [.ref x, .int s] [] hh = some (some (.int (rsA S K s)), hh') ∧ CW hh' x s0 (rsG g S K s) S K T n ∧ Fr x hh hh' ∧ WF (rsG g S K s) ∧ WP (rsG g S K s) := by
  have H' := H
  obtain ⟨z, c0, ⟨C, c1, c2⟩, c3, c4, c5, c7, c8, c9, c10, c11, c12, c13⟩ := H
  unfold rsA rsG
  cases c : inI s (nI 0) (nI 1)
  · refine ⟨hh, ?_, by simpa using H', fun _ _ => rfl, by simpa using hw, by simpa using hp⟩
    rcases out_slot c with q | ⟨q1, q2⟩
    · simp only [s103_0, s103_1, s103_4, s103_5, s103_6, s103_9, s103_10, q, if_true, Bool.false_eq_true, if_false]
    · simp only [s103_0, s103_1, s103_4, s103_5, s103_6, s103_9, s103_10, q1, q2, Bool.false_eq_true, if_false]
  · obtain ⟨j, j0, j1, rfl, j3⟩ := inI_t (by decide) (by decide) c
    have j2 : j < 2 := by omega
    have x0 : hget hh x = some (.inr (6, [.ref (x + 1), .ref (x + 135), .ref (x + 136), .ref (x + 140), .ref (x + 143), .int (nI n), .ref (x + 144)])) := c0
    rw [j3]
    cases q : z j with
    | none =>
      have k0 := (c10.1 j j2).1 q
      refine ⟨hh, ?_, by simpa [k0] using H', fun _ _ => rfl, by simpa [k0] using hw, by simpa [k0] using hp⟩
      simp (disch := omega) only [s103_0, s103_1, s103_4, s103_5, s103_6, s103_9, s103_10, s103_11, s103_12, s103_15, s103_16, s103_17, s103_17n, s103_20, s103_22, s103_17n, gf0, gf1, gf2, gf3, gf4, gf5, gf6, gf7, gf8, gf9, gf10, gf11, gf12, gf13, gf14, pu0, pu1, pu2, pu3, pu4, pu5, pu6, pu7, pu8, pu9, pu10, pu11, pu12, pu13, pu14, rc_at, bK_some, Option.toList_some, Option.toList_none, List.cons_append, List.nil_append, x0, nI_lt0, nI_lts, show j < 2 from j2, if_true, if_false, c3, al_sl j2, q, va_rf, k0]
    | some a =>
      obtain ⟨k0, a1, a2, ⟨Ca, a3, a4⟩, a5, a6⟩ := (c10.1 j j2).2 a q
      have b1 := a4.b1 a5
      obtain ⟨D, r, ag⟩ := c_copyNet (h := hh) (b := x + 1) (b' := a) (C := C) (C' := Ca) (by omega) b1.1 b1.2
      rw [a3.eq, c1.eq] at r
      have e : ∀ i, i < 2994 → cpN g (slt S j) 0 2994 i = slt S j i := fun i hi => cpN_in hi
      have pD := (a4.ag a5.r8 ag).gg a5.r8 e
      simp only [k0, ne_eq, not_false_eq_true, and_self, if_true, if_false]
      obtain ⟨m1, m2⟩ := CW.mk (h2 := hh) (C' := D) H' pD (fun _ _ _ => rfl) rfl rfl c0 c4 c5 c7 c8 c9 c11
      refine ⟨_, ?_, m1, m2, a5.gg e, a6.gg a5.r8 e⟩
      have xD : hget (NH hh (x + 1) D) x = some (.inr (6, [.ref (x + 1), .ref (x + 135), .ref (x + 136), .ref (x + 140), .ref (x + 143), .int (nI n), .ref (x + 144)])) := by rw [NH_out (by omega)]; exact c0
      have rD : D 0 0 8 = S (2994 * j + 3) := by
        have := pD.1.2.2.2.2.2.1
        rw [this, e 3 (by decide)]
        rfl
      have n0' : hget hh (x + 1) = some (.inr (2, [.int (nI (C 0 0 0)), .ref (x + 1 + 1), .int (nI (C 0 0 2)), .ref (x + 1 + 2), .int (nI (C 0 0 4)), .ref (x + 1 + 93), .long (lN (C 0 0 6)), .int (nI (C 0 0 7)), .int (nI (C 0 0 8))])) := c1 0 (by decide)
      simp (disch := omega) only [s103_0, s103_1, s103_4, s103_5, s103_6, s103_9, s103_10, s103_11, s103_12, s103_15, s103_16, s103_17, s103_17n, s103_20, s103_22, s103_23, s103_24, s103_27, s103_28, s103_31, s103_32, s103_33, s103_36, s103_37, s103_40, s103_43, gf0, gf1, gf2, gf3, gf4, gf5, gf6, gf7, gf8, gf9, gf10, gf11, gf12, gf13, gf14, pu0, pu1, pu2, pu3, pu4, pu5, pu6, pu7, pu8, pu9, pu10, pu11, pu12, pu13, pu14, rc_at, bK_some, Option.toList_some, Option.toList_none, List.cons_append, List.nil_append, x0, xD, n0', NH_0, nI_lt0, nI_lts, show j < 2 from j2, if_true, if_false, c3, al_sl j2, q, va_rf, r, rD]
theorem k_pre (H : CW hh x s0 g S K T n) {j : Nat} (j2 : j < 2) : ∃ z h0 a z', hget hh (x + 135) = some (.inl (5, 2, .inr z)) ∧ SL hh x S K z ∧ hh.1 = x + 155 + 134 * cz z ∧ run 102 0 [.ref x, .int (nI j)] [] hh = run 102 33 [.ref x, .int (nI j)] [] h0 ∧ z' j = some a ∧ (∀ i, i ≠ j → z' i = z i) ∧ (∃ Ca, HN h0 a Ca) ∧ (∀ q, q < hh.1 → q ≠ x + 135 → hget h0 q = hget hh q) ∧ hget h0 (x + 135) = some (.inl (5, 2, .inr z')) ∧ h0.1 = x + 155 + 134 * cz z' ∧ h0.2.1 = s0 + 937 * cz z' ∧ x + 155 ≤ a ∧ a + 134 ≤ h0.1 ∧ hh.1 ≤ h0.1 ∧ ∀ i a', i < 2 → i ≠ j → z i = some a' → a + 134 ≤ a' ∨ a' + 134 ≤ a := by
  obtain ⟨z, c0, ⟨C, c1, c2⟩, c3, c4, c5, c7, c8, c9, c10, c11, c12, c13⟩ := H
  have x0 : hget hh x = some (.inr (6, [.ref (x + 1), .ref (x + 135), .ref (x + 136), .ref (x + 140), .ref (x + 143), .int (nI n), .ref (x + 144)])) := c0
  cases q : z j with
  | some a =>
    obtain ⟨k0, a1, a2, ⟨Ca, a3, a4⟩, a5, a6⟩ := (c10.1 j j2).2 a q
    refine ⟨z, hh, a, z, c3, c10, c12, ?_, q, fun _ _ => rfl, ⟨Ca, a3⟩, fun _ _ _ => rfl, c3, c12, c13, a1, a2, Nat.le_refl _, fun i a' hi hij hz => ?_⟩
    · simp (disch := omega) only [s102_0, s102_1, s102_4, s102_5, s102_6, s102_9, s102_10, s102_11, s102_12, s102_15, s102_16, s102_17, s102_17n, gf0, gf1, gf2, gf3, gf4, gf5, gf6, gf7, gf8, gf9, gf10, gf11, gf12, gf13, gf14, pu0, pu1, pu2, pu3, pu4, pu5, pu6, pu7, pu8, pu9, pu10, pu11, pu12, pu13, pu14, rc_at, bK_some, Option.toList_some, Option.toList_none, List.cons_append, List.nil_append, x0, nI_lt0, nI_lts, show j < 2 from j2, if_true, if_false, c3, al_sl j2, q, va_rf]
    · have cs : (i = 0 ∧ j = 1) ∨ (i = 1 ∧ j = 0) := by omega
      rcases cs with ⟨rfl, rfl⟩ | ⟨rfl, rfl⟩
      · have := c10.2 a' a hz q; omega
      · have := c10.2 a a' q hz; omega
  | none =>
    have hx1 : x + 155 ≤ hh.1 := by omega
    obtain ⟨h', Cn, r, _, n1', m1, o1⟩ := c_newNet (h := hnew hh 9 (.inr (2, [.int 0, .null, .int 0, .null, .int 0, .null, .long 0, .int 0, .int 0]))) (b := hh.1) rfl (hget_new _ _ _)
    have old : ∀ q, q < hh.1 → hget (NH h' hh.1 Cn) q = hget hh q := fun q hq => by rw [NH_out (by omega), o1 q hq, hget_newn (by omega)]
    have cz' : cz (va_up z j (some hh.1)) = cz z + 1 := by
      unfold cz va_up
      have cs : j = 0 ∨ j = 1 := by omega
      rcases cs with rfl | rfl
      · rw [q]; simp; omega
      · rw [q]; simp
    refine ⟨z, NH (hset h' (x + 135) (.inl (5, 2, .inr (va_up z j (some hh.1))))) hh.1 Cn, hh.1, va_up z j (some hh.1), c3, c10, c12, ?_, ?_, fun i hi => ?_, ⟨Cn, HN.of _ _ _⟩, fun p hp hne => ?_, ?_, ?_, ?_, hx1, ?_, ?_, fun i a' hi hij hz => ?_⟩
    · have s3 : hget (NH h' hh.1 Cn) (x + 135) = some (.inl (5, 2, .inr z)) := by rw [old _ (by omega)]; exact c3
      have xn : hget (hnew hh 9 (.inr (2, [.int 0, .null, .int 0, .null, .int 0, .null, .long 0, .int 0, .int 0]))) x = some (.inr (6, [.ref (x + 1), .ref (x + 135), .ref (x + 136), .ref (x + 140), .ref (x + 143), .int (nI n), .ref (x + 144)])) := by rw [hget_newn (by omega)]; exact c0
      rw [← NH_set (by omega)]
      simp (disch := first | omega | decide) only [s102_0, s102_1, s102_4, s102_5, s102_6, s102_9, s102_10, s102_11, s102_12, s102_15, s102_16, s102_17, s102_17n, s102_20, s102_21, s102_24, s102_25, s102_28, s102_29, s102_32, s102_17n, gf0, gf1, gf2, gf3, gf4, gf5, gf6, gf7, gf8, gf9, gf10, gf11, gf12, gf13, gf14, pu0, pu1, pu2, pu3, pu4, pu5, pu6, pu7, pu8, pu9, pu10, pu11, pu12, pu13, pu14, rc_at, bK_some, Option.toList_some, Option.toList_none, List.cons_append, List.nil_append, x0, nI_lt0, nI_lts, show j < 2 from j2, if_true, if_false, c3, al_sl j2, q, va_rf, r, s3, NH_0, as_Q (t := 5) (Or.inr (Or.inr rfl)) (show 2 = arC 5 from rfl) j2 (show 2 < 2 ^ 31 by decide)]
    · unfold va_up; rw [if_pos rfl]
    · unfold va_up; rw [if_neg hi]
    · rw [NH_out (by omega), hget_ne hne, o1 p hp, hget_newn (by omega)]
    · rw [NH_out (by omega), hget_set]
    · show h'.1 = _; rw [n1', cz']; omega
    · show h'.2.1 = _; rw [m1, hnew_2, cz', c13]; omega
    · show _ ≤ h'.1; omega
    · show _ ≤ h'.1; omega
    · have := ((c10.1 i hi).2 a' hz).2.2.1; omega
theorem w_keep (H : CW hh x s0 g S K T n) (hw : WF g) (hp : WP g) (s : Int32) : ∃ hh', run 102 0 [.ref x, .int s] [] hh = some (some (.int (oKeep g s)), hh') ∧ CW hh' x s0 g (sKeep S g s) (kKeep K s) T n ∧ Fr x hh hh' := by
  unfold oKeep sKeep kKeep
  cases c : inI s (nI 0) (nI 1)
  · refine ⟨hh, ?_, by simpa using H, fun _ _ => rfl⟩
    rcases out_slot c with q | ⟨q1, q2⟩
    · simp only [s102_0, s102_1, s102_4, s102_5, s102_6, s102_9, s102_10, q, if_true, Bool.false_eq_true, if_false]
    · simp only [s102_0, s102_1, s102_4, s102_5, s102_6, s102_9, s102_10, q1, q2, Bool.false_eq_true, if_false]
  · obtain ⟨j, j0, j1, rfl, j3⟩ := inI_t (by decide) (by decide) c
    have j2 : j < 2 := by omega
    obtain ⟨z, h0, a, z', y1, y2, y3, st, zj, zo, ⟨Ca, hCa⟩, old, arr, n0, m0, a1, a2, a3, dj⟩ := k_pre H j2
    obtain ⟨zz, c0, ⟨C, c1, c2⟩, c3, c4, ⟨U, R, B, c5, c6⟩, ⟨sj, L, P, c7⟩, c8, ⟨N, s', c9⟩, c10, c11, c12, c13⟩ := H
    have hx1 : x + 155 ≤ hh.1 := by omega
    have hN0 : HN h0 (x + 1) C := c1.fr (fun q h1 h2 => old q (by omega) (by omega))
    have b1 := c2.b1 hw
    obtain ⟨D, r, ag⟩ := c_copyNet (h := h0) (b := a) (b' := x + 1) (C := Ca) (C' := C) (by omega) b1.1 b1.2
    rw [hN0.eq, hCa.eq] at r
    have pD := c2.ag hw.r8 ag
    have x0 : hget h0 x = some (.inr (6, [.ref (x + 1), .ref (x + 135), .ref (x + 136), .ref (x + 140), .ref (x + 143), .int (nI n), .ref (x + 144)])) := by rw [old x (by omega) (by omega)]; exact c0
    have x1 : hget (NH h0 a D) x = some (.inr (6, [.ref (x + 1), .ref (x + 135), .ref (x + 136), .ref (x + 140), .ref (x + 143), .int (nI n), .ref (x + 144)])) := by rw [NH_out (by omega)]; exact x0
    have na : hget h0 a = some (.inr (2, [.int (nI (Ca 0 0 0)), .ref (a + 1), .int (nI (Ca 0 0 2)), .ref (a + 2), .int (nI (Ca 0 0 4)), .ref (a + 93), .long (lN (Ca 0 0 6)), .int (nI (Ca 0 0 7)), .int (nI (Ca 0 0 8))])) := hCa 0 (by decide)
    have nb : hget (NH h0 a D) (x + 1) = some (.inr (2, [.int (nI (C 0 0 0)), .ref (x + 1 + 1), .int (nI (C 0 0 2)), .ref (x + 1 + 2), .int (nI (C 0 0 4)), .ref (x + 1 + 93), .long (lN (C 0 0 6)), .int (nI (C 0 0 7)), .int (nI (C 0 0 8))])) := by rw [NH_out (by omega)]; exact hN0 0 (by decide)
    have o : ∀ q, q < hh.1 → q ≠ x + 135 → (q < a ∨ a + 134 ≤ q) → hget (NH h0 a D) q = hget hh q := fun q h1 h2 h3 => by rw [NH_out h3, old q h1 h2]
    refine ⟨NH h0 a D, ?_, ⟨z', ?_, ⟨C, hN0.fr (fun q h1 h2 => NH_out (by omega)), c2⟩, ?_, ?_, ⟨U, R, B, ⟨?_, ?_, ?_⟩, c6⟩, ⟨sj, L, P, ?_, ?_, ?_⟩, ?_, ⟨N, s', ?_⟩, ⟨fun t ht => ⟨fun hz => ?_, fun a' hz => ?_⟩, fun b0 b1' hz0 hz1 => ?_⟩, c11, n0, m0⟩, fun q hq => ?_⟩
    · rw [st]
      simp (disch := omega) only [s102_33, s102_34, s102_37, s102_38, s102_39, s102_40, s102_43, s102_46, s102_47, s102_50, s102_53, gf0, gf1, gf2, gf3, gf4, gf5, gf6, gf7, gf8, gf9, gf10, gf11, gf12, gf13, gf14, pu0, pu1, pu2, pu3, pu4, pu5, pu6, pu7, pu8, pu9, pu10, pu11, pu12, pu13, pu14, rc_at, bK_some, Option.toList_some, Option.toList_none, List.cons_append, List.nil_append, x0, x1, arr, al_sl j2, zj, va_rf, na, nb, r, c2.1.2.2.2.2.2.1, if_true]
    · exact x1
    · rw [NH_out (by omega)]; exact arr
    · rw [o _ (by omega) (by omega) (by omega)]; exact c4
    · rw [o _ (by omega) (by omega) (by omega)]; exact c5.1
    · rw [o _ (by omega) (by omega) (by omega)]; exact c5.2.1
    · rw [o _ (by omega) (by omega) (by omega)]; exact c5.2.2
    · rw [o _ (by omega) (by omega) (by omega)]; exact c7.1
    · rw [o _ (by omega) (by omega) (by omega)]; exact c7.2.1
    · rw [o _ (by omega) (by omega) (by omega)]; exact c7.2.2
    · rw [o _ (by omega) (by omega) (by omega)]; exact c8
    · rw [o _ (by omega) (by omega) (by omega)]; exact c9
    · simp only [if_true, j3]
      have htj : t ≠ j := fun e => by rw [e, zj] at hz; cases hz
      rw [zo t htj] at hz
      rw [up_ne htj]
      exact (y2.1 t ht).1 hz
    · simp only [if_true, j3]
      by_cases htj : t = j
      · subst htj
        rw [zj] at hz
        cases hz
        have e : ∀ i, i < 2994 → slt (cpN S g (2994 * t) 2994) t i = g i := fun i hi => by
          unfold slt cpN
          rw [if_pos (by omega)]
          congr 1
          omega
        refine ⟨by rw [up_same]; decide, a1, a2, ⟨D, HN.of _ _ _, pD.gg hw.r8 e⟩, hw.gg e, hp.gg hw.r8 e⟩
      · rw [zo t htj] at hz
        obtain ⟨k0, d1, d2, ⟨C1, d3, d4⟩, d5, d6⟩ := (y2.1 t ht).2 a' hz
        have dd := dj t a' ht htj hz
        have e : ∀ i, i < 2994 → slt (cpN S g (2994 * j) 2994) t i = slt S t i := fun i hi => by
          unfold slt cpN
          rw [if_neg (by omega)]
        refine ⟨by rw [up_ne htj]; exact k0, d1, by show a' + 134 ≤ h0.1; omega, ⟨C1, d3.fr (fun q h1 h2 => o q (by omega) (by omega) (by omega)), d4.gg d5.r8 e⟩, d5.gg e, d6.gg d5.r8 e⟩
    · have cs : j = 0 ∨ j = 1 := by omega
      rcases cs with rfl | rfl
      · rw [zj] at hz0
        cases hz0
        rw [zo 1 (by decide)] at hz1
        exact dj 1 b1' (by decide) (by decide) hz1
      · rw [zj] at hz1
        cases hz1
        rw [zo 0 (by decide)] at hz0
        have := dj 0 b0 (by decide) (by decide) hz0
        omega
    · rw [o q (by omega) (by omega) (by omega)]
end SLx
