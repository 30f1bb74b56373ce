/-! the class: commonRank -/
theorem NH_set {h : aH} {b q : Nat} {C : nC} {c : aC} (hq : q < b ∨ b + 134 ≤ q) : hset (NH h b C) q c = NH (hset h q c) b C := by
  refine aH_ext rfl rfl ?_
  funext p
  unfold NH hset
  dsimp only
  by_cases z : p = q
  · subst z
    rw [if_pos rfl, if_neg (by omega), if_pos rfl]
  · rw [if_neg z]
    by_cases y : b ≤ p ∧ p < b + 134
    · rw [if_pos y, if_pos y]
    · rw [if_neg y, if_neg y, if_neg z]
theorem NH_sSet {h : aH} {b y s : Nat} {C : nC} {L P : Nat → Nat} (hq : y + 2 < b ∨ b + 134 ≤ y) : sSet (NH h b C) y s L P = NH (sSet h y s L P) b C := by
  unfold sSet
  rw [NH_set (by omega), NH_set (by omega), NH_set (by omega)]
theorem SpG.to8 {p : Nat → Prop} {s : Nat} {L L' : Nat → Nat} (H : SpG p s L) (e : ∀ b, b < 8 → L' b = L b) : SpG p s L' := by
  obtain ⟨h1, h2, h3, h4⟩ := H
  refine ⟨fun b hb => by rw [e b hb]; exact h1 b hb, ?_, fun w hw => ?_, fun b hb => by rw [e b hb]; exact h4 b hb⟩
  · rw [← h2]; unfold nz; exact cntN_congr (fun b hb => by rw [e b hb])
  · obtain ⟨T, hT⟩ := h3 w hw
    exact ⟨T, by rw [xsN_congr (fun i hi => e i hi)]; exact hT⟩
section CM
variable {h : aH} {x n : Nat} {g : Nat → Nat} {C : nC}
theorem c_addAll {h : aH} {y z s s' : Nat} {L P L' P' : Nat → Nat} (Hy : SP h y s L P) (Hz : SP h z s' L' P') (hd : y + 2 < z ∨ z + 2 < y) (hL' : ∀ b, b < 8 → L' b < 256) (hI : ∀ m, m ≤ 8 → (∀ b, b < 8 → (adA L' m (s, L, P)).2.1 b < 256) ∧ (adA L' m (s, L, P)).1 ≤ 8) : run 52 0 [.ref y, .ref z, .null] [] h = some (none, sSet h y (adA L' 8 (s, L, P)).1 (adA L' 8 (s, L, P)).2.1 (adA L' 8 (s, L, P)).2.2) := by
  have key : ∀ m, m ≤ 8 → run 52 2 [.ref y, .ref z, .int (nI 0)] [] h = run 52 2 [.ref y, .ref z, .int (nI m)] [] (sSet h y (adA L' m (s, L, P)).1 (adA L' m (s, L, P)).2.1 (adA L' m (s, L, P)).2.2) := by
    intro m
    induction m with
    | zero => intro _; show _ = run 52 2 _ [] (sSet h y s L P); rw [Hy.same]
    | succ m ih =>
      intro hm
      rw [ih (by omega), s52_2]
      obtain ⟨i1, i2⟩ := hI m (by omega)
      have Z0 : hget (sSet h y (adA L' m (s, L, P)).1 (adA L' m (s, L, P)).2.1 (adA L' m (s, L, P)).2.2) z = some (.inr (4, [.ref (z + 1), .ref (z + 2), .int (nI s')])) := by rw [sSet_o (by omega)]; exact Hz.1
      have Z1 : hget (sSet h y (adA L' m (s, L, P)).1 (adA L' m (s, L, P)).2.1 (adA L' m (s, L, P)).2.2) (z + 1) = some (r8 L') := by rw [sSet_o (by omega)]; exact Hz.2.1
      have Y0 : hget (sSet h y (adA L' m (s, L, P)).1 (adA L' m (s, L, P)).2.1 (adA L' m (s, L, P)).2.2) y = some (.inr (4, [.ref (y + 1), .ref (y + 2), .int (nI (adA L' m (s, L, P)).1)])) := (SP.set h y _ _ _).1
      have A := c_add (SP.set h y (adA L' m (s, L, P)).1 (adA L' m (s, L, P)).2.1 (adA L' m (s, L, P)).2.2) i1 i2 (hL' m (by omega))
      rw [sSet_sSet] at A
      simp (disch := omega) only [s52_3, s52_5, s52_8, s52_9, s52_10, s52_13, s52_14, s52_15, s52_18, s52_21, gf0, gf1, gf2, gf3, gf4, gf5, gf6, gf7, gf8, gf9, gf10, gf11, gf12, gf13, gf14, pu0, pu1, pu2, pu3, pu4, pu5, pu6, pu7, pu8, pu9, pu10, pu11, pu12, pu13, pu14, rc_at, bK_some, Option.toList_some, Option.toList_none, List.cons_append, List.nil_append, nI_lts, show m < 8 from by omega, if_true, Z0, Z1, Y0, al_8, A, nI_adds]
      rfl
  simp only [s52_0, s52_1]
  rw [key 8 (Nat.le_refl _), s52_2]
  simp (disch := omega) only [s52_3, s52_5, s52_24, nI_lts, Nat.lt_irrefl, if_false]
theorem Pic.in (H : Pic g C) {v a : Nat} (hv : v < 10) (ha : a < 256) : (sfN g v a).isSome = spB (C 5 v) a := by
  rw [H.sf hv ha, Bool.eq_iff_iff, rd_in _ (H.2.1 v hv).2.2.2.2.1.1 ha, spB_iff (H.2.1 v hv).2.2.2.2.1.1 ha]
theorem com_rank (H : Pic g C) (hw : WF g) {a b : Nat} (ha : a < 10) (hb : b < 10) {JL JP : Nat → Nat} (eL : ∀ i, i < 8 → JL i = C 5 a i) : lgF 9 (comN g a b) + (adA (C 5 b) 8 (g (44 + a), JL, JP)).1 = g (44 + a) + g (44 + b) ∧ ∀ m, m ≤ 8 → (∀ i, i < 8 → (adA (C 5 b) m (g (44 + a), JL, JP)).2.1 i < 256) ∧ (adA (C 5 b) m (g (44 + a), JL, JP)).1 ≤ 8 := by
  have SA := (H.2.1 a ha).2.2.2.2.1
  have SB := (H.2.1 b hb).2.2.2.2.1
  have hk := hw.1
  have eJ : Ech JL := fun i hi => by rw [eL i hi]; exact SA.1 i hi
  have nJ : nz JL = g (44 + a) := by rw [← SA.2.2.2.2.2.1]; unfold nz; exact cntN_congr (fun i hi => by rw [eL i hi])
  have W := com_walk (PA := JP) eJ SB.1 nJ
  refine ⟨?_, fun m hm => ⟨fun i hi => (W m hm).1.1.lead_lt hi, (W m hm).1.le⟩⟩
  obtain ⟨G, d, hc, hd⟩ := W 8 (Nat.le_refl _)
  have n8 : nz (tr (C 5 b) 8) = g (44 + b) := by
    rw [← SB.2.2.2.2.2.1]
    unfold nz
    exact cntN_congr (fun i hi => by unfold tr; rw [if_pos hi])
  rw [n8] at hd
  have e8 : comN g a b = 2 ^ d := by
    rw [← hc]
    unfold comN
    have s1 : cntN (fun w => (sfN g a w).isSome && (sfN g b w).isSome) (2 ^ 8) = cntN (fun w => (sfN g a w).isSome && (sfN g b w).isSome) (2 ^ g 0) := by
      refine cntN_split (Nat.pow_le_pow_right (by decide) hk.2) (fun i h1 h2 => ?_)
      have : (sfN g a i).isSome = false := by
        cases q : (sfN g a i).isSome
        · rfl
        · rw [H.in ha h2, spB_iff SA.1 h2] at q
          obtain ⟨T, hT⟩ := q
          have := SA.leads_lt T
          omega
      rw [this]; rfl
    rw [← s1]
    refine cntN_congr (fun w hw => ?_)
    rw [H.in ha hw, H.in hb hw]
    have q1 : spB JL w = spB (C 5 a) w := by
      rw [Bool.eq_iff_iff, spB_iff eJ hw, spB_iff SA.1 hw]
      unfold inS
      simp only [xsN_congr (f := JL) (f' := C 5 a) (fun i hi => eL i hi)]
    have q2 : spB (tr (C 5 b) 8) w = spB (C 5 b) w := by
      rw [Bool.eq_iff_iff, spB_iff (tr_ech SB.1 8) hw, spB_iff SB.1 hw]
      unfold inS
      simp only [xsN_congr (f := tr (C 5 b) 8) (f' := C 5 b) (fun i hi => by unfold tr; rw [if_pos hi])]
    rw [q1, q2]
  have hle : (adA (C 5 b) 8 (g (44 + a), JL, JP)).1 ≤ 8 := G.le
  have ha8 := hw.r8 a ha
  have hb8 := hw.r8 b hb
  have hd9 : d < 9 := by
    by_cases z : d < 9
    · exact z
    · have : cntN (fun w => spB JL w && spB (tr (C 5 b) 8) w) (2 ^ 8) ≤ 2 ^ 8 := cntN_le _ _
      rw [hc] at this
      have h9 : 2 ^ 9 ≤ 2 ^ d := Nat.pow_le_pow_right (by decide) (by omega)
      omega
  rw [e8, lgF_pow d hd9]
  exact hd
theorem c_commonRank {sj : Nat} {Lj Pj : Nat → Nat} (hx : CH h x n) (hJ : SP h (x + 140) sj Lj Pj) (H : Pic g C) (hw : WF g) (a b : Int32) : ∃ s' L' P', run 87 0 [.ref x, .int a, .int b, .null, .null] [] (NH h (x + 1) C) = some (some (.int (qCommon g a b)), NH (sSet h (x + 140) s' L' P') (x + 1) C) := by
  have h1 := hw.2.1
  have hxx := hx.at
  have e0 := H.node hw a
  have e1 := H.node hw b
  unfold qCommon
  cases c : lkB (g 1) a
  · refine ⟨sj, Lj, Pj, ?_⟩
    rw [c] at e0
    rw [hJ.same]
    simp only [s87_0, s87_1, s87_4, s87_5, s87_8, s87_11, s87_12, s87_15, s87_16, s87_19, s87_22, s87_23, gf0, gf1, gf2, gf3, gf4, gf5, gf6, gf7, gf8, gf9, gf10, gf11, gf12, gf13, gf14, pu0, pu1, pu2, pu3, pu4, pu5, pu6, pu7, pu8, pu9, pu10, pu11, pu12, pu13, pu14, rc_at, bK_some, Option.toList_some, Option.toList_none, List.cons_append, List.nil_append, hxx, NH_0, c_hasNode, e0, bI_0, if_true, Bool.false_eq_true, false_and, if_false]
  · rw [c] at e0
    cases d : lkB (g 1) b
    · refine ⟨sj, Lj, Pj, ?_⟩
      rw [d] at e1
      rw [hJ.same]
      simp only [s87_0, s87_1, s87_4, s87_5, s87_8, s87_11, s87_12, s87_15, s87_16, s87_19, s87_22, s87_23, gf0, gf1, gf2, gf3, gf4, gf5, gf6, gf7, gf8, gf9, gf10, gf11, gf12, gf13, gf14, pu0, pu1, pu2, pu3, pu4, pu5, pu6, pu7, pu8, pu9, pu10, pu11, pu12, pu13, pu14, rc_at, bK_some, Option.toList_some, Option.toList_none, List.cons_append, List.nil_append, hxx, NH_0, c_hasNode, e0, e1, bI_0, if_true, Bool.true_eq_false, Bool.false_eq_true, and_false, if_false]
    · rw [d] at e1
      obtain ⟨j, j1, rfl, j3⟩ := lkB_t (by omega) c
      obtain ⟨k, k1, rfl, k3⟩ := lkB_t (by omega) d
      have hj : j < 10 := by omega
      have hk : k < 10 := by omega
      have hJ' : SP (NH h (x + 1) C) (x + 140) sj Lj Pj := ⟨by rw [NH_out (by omega)]; exact hJ.1, by rw [NH_out (by omega)]; exact hJ.2.1, by rw [NH_out (by omega)]; exact hJ.2.2⟩
      have r1 := c_copyS hJ' (NH_h hj) (by unfold ndA; omega)
      rw [NH_sSet (by omega), (H.2.1 j hj).2.2.2.1] at r1
      have eL : ∀ i, i < 8 → cp8 8 (C 5 j) Lj i = C 5 j i := fun i hi => by unfold cp8; rw [if_pos hi]
      obtain ⟨f1, f2⟩ := com_rank H hw hj hk (JP := cp8 8 (C 6 j) Pj) eL
      have hJ2 : SP (NH (sSet h (x + 140) (g (44 + j)) (cp8 8 (C 5 j) Lj) (cp8 8 (C 6 j) Pj)) (x + 1) C) (x + 140) (g (44 + j)) (cp8 8 (C 5 j) Lj) (cp8 8 (C 6 j) Pj) := by
        have := SP.set h (x + 140) (g (44 + j)) (cp8 8 (C 5 j) Lj) (cp8 8 (C 6 j) Pj)
        exact ⟨by rw [NH_out (by omega)]; exact this.1, by rw [NH_out (by omega)]; exact this.2.1, by rw [NH_out (by omega)]; exact this.2.2⟩
      have r2 := c_addAll hJ2 (NH_h hk) (by unfold ndA; omega) (H.lead hk) f2
      rw [NH_sSet (by omega), sSet_sSet] at r2
      have xx : ∀ s L P, hget (NH (sSet h (x + 140) s L P) (x + 1) C) x = some (.inr (6, [.ref (x + 1), .ref (x + 135), .ref (x + 136), .ref (x + 140), .ref (x + 143), .int (nI n), .ref (x + 144)])) := fun s L P => by
        rw [NH_out (by omega), sSet_o (by omega)]; exact hx
      have yy : ∀ s L P, hget (NH (sSet h (x + 140) s L P) (x + 1) C) (x + 140) = some (.inr (4, [.ref (x + 140 + 1), .ref (x + 140 + 2), .int (nI s)])) := fun s L P => by
        rw [NH_out (by omega)]; exact (SP.set h (x + 140) s L P).1
      have y0 : hget (NH h (x + 1) C) (x + 140) = some (.inr (4, [.ref (x + 140 + 1), .ref (x + 140 + 2), .int (nI sj)])) := hJ'.1
      generalize hA : adA (C 5 k) 8 (g (44 + j), cp8 8 (C 5 j) Lj, cp8 8 (C 6 j) Pj) = A at f1 r2
      have fin : nI (g (44 + j)) + nI (g (44 + k)) - nI A.1 = nI (lgF 9 (comN g j k)) := by
        rw [nI_adds, nI_sub (by omega)]
        congr 1
        omega
      refine ⟨A.1, A.2.1, A.2.2, ?_⟩
      simp (disch := omega) only [s87_0, s87_1, s87_4, s87_5, s87_8, s87_11, s87_12, s87_15, s87_16, s87_19, s87_22, s87_23, s87_24, s87_25, s87_28, s87_31, s87_32, s87_33, s87_36, s87_37, s87_38, s87_41, s87_44, s87_45, s87_46, s87_49, s87_51, s87_52, s87_55, s87_56, s87_59, s87_60, s87_63, s87_65, s87_68, s87_69, s87_72, s87_74, s87_77, s87_78, s87_79, s87_82, s87_85, s87_86, gf0, gf1, gf2, gf3, gf4, gf5, gf6, gf7, gf8, gf9, gf10, gf11, gf12, gf13, gf14, pu0, pu1, pu2, pu3, pu4, pu5, pu6, pu7, pu8, pu9, pu10, pu11, pu12, pu13, pu14, rc_at, bK_some, Option.toList_some, Option.toList_none, List.cons_append, List.nil_append, hxx, xx, yy, y0, NH_0, NH_2, c_hasNode, e0, e1, bI_0, if_true, Bool.true_eq_false, if_false, al_nd, NH_n hj, NH_n hk, NH_h0 hj, NH_h0 hk, r1, r2, (H.2.1 j hj).2.2.2.1, (H.2.1 k hk).2.2.2.1, fin, and_self, j3, k3]
end CM
