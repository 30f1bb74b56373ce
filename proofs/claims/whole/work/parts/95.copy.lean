/-! the class: a network copied -/
def AGn (C D : nC) (v : Nat) : Prop := D 3 v 4 = C 3 v 4 ∧ D 3 v 5 = C 3 v 5 ∧ D 3 v 6 = C 3 v 6 ∧ D 4 v 2 = C 4 v 2 ∧ D 7 v 2 = C 7 v 2 ∧ ∀ i, i < 8 → D 5 v i = C 5 v i ∧ D 6 v i = C 6 v i ∧ D 8 v i = C 8 v i ∧ D 10 v i = C 10 v i ∧ D 11 v i = C 11 v i
def AGl (C D : nC) (l : Nat) : Prop := (D 12 l 0 = C 12 l 0 ∧ D 12 l 1 = C 12 l 1 ∧ D 12 l 2 = C 12 l 2) ∧ (D 12 l 4 = C 12 l 4 ∧ D 12 l 5 = C 12 l 5 ∧ D 12 l 6 = C 12 l 6 ∧ D 12 l 7 = C 12 l 7 ∧ D 12 l 8 = C 12 l 8 ∧ D 12 l 9 = C 12 l 9) ∧ ∀ f, f < 4 → D 13 l f = C 13 l f
def AG (C D : nC) : Prop := (D 0 0 0 = C 0 0 0 ∧ D 0 0 2 = C 0 0 2 ∧ D 0 0 4 = C 0 0 4 ∧ D 0 0 6 = C 0 0 6 ∧ D 0 0 7 = C 0 0 7 ∧ D 0 0 8 = C 0 0 8) ∧ (∀ i, i < 8 → D 1 0 i = C 1 0 i) ∧ (∀ v, v < 10 → AGn C D v) ∧ ∀ l, l < 20 → AGl C D l
theorem SpOK.to8 {L P L' P' f : Nat → Nat} {n k : Nat} (H : SpOK L P f n k) (e : ∀ b, b < 8 → L' b = L b) (e' : ∀ b, b < 8 → P' b = P b) : SpOK L' P' f n k := by
  obtain ⟨h1, h2, h3, h4, h5, h6, h7⟩ := H
  refine ⟨fun b hb => by rw [e b hb]; exact h1 b hb, fun b hk hb => by rw [e b hb]; exact h2 b hk hb, fun b hb => by rw [e b hb, e' b hb]; exact h3 b hb, fun b hb => by rw [e b hb, e' b hb]; exact h4 b hb, fun i hi => ?_, ?_, h7⟩
  · obtain ⟨T, hT⟩ := h5 i hi
    exact ⟨T, by rw [xsN_congr (fun i hi => e i hi)]; exact hT⟩
  · rw [← h6]; unfold nz; exact cntN_congr (fun b hb => by rw [e b hb])
theorem Pic.ag {g : Nat → Nat} {C D : nC} (H : Pic g C) (hr : ∀ u, u < 10 → g (44 + u) ≤ 8) (A : AG C D) : Pic g D := by
  obtain ⟨⟨o0, o1, o2, o4, o5, o3, o6⟩, hN, hL⟩ := H
  obtain ⟨⟨a0, a2, a4, a6, a7, a8⟩, aP, aN, aL⟩ := A
  refine ⟨⟨a0.trans o0, a2.trans o1, a4.trans o2, a6.trans o4, a7.trans o5, a8.trans o3, fun i hi => (aP i hi).trans (o6 i hi)⟩, fun v hv => ?_, fun l hl => ?_⟩
  · obtain ⟨b4, b5, b6, b2, b7, bi⟩ := aN v hv
    obtain ⟨c0, c1, c2, c3, c4, c5, c6⟩ := hN v hv
    have h8 := hr v hv
    refine ⟨b4.trans c0, b5.trans c1, b6.trans c2, b2.trans c3, c4.to8 (fun i hi => (bi i hi).1) (fun i hi => (bi i hi).2.1), fun i hi => ?_, ?_⟩
    · have := bi i (by omega)
      rw [this.2.2.2.1, this.2.2.2.2]
      exact c5 i hi
    · rw [b7]
      exact c6.to8 (fun i hi => (bi i hi).2.2.1)
  · obtain ⟨⟨b0, b1, b2⟩, ⟨b4, b5, b6, b7, b8, b9⟩, bf⟩ := aL l hl
    obtain ⟨⟨c0, c1, c2⟩, ⟨c4, c5, c7, c8⟩, cf, c9, c6⟩ := hL l hl
    exact ⟨⟨b0.trans c0, b1.trans c1, b2.trans c2⟩, ⟨b4.trans c4, b5.trans c5, b7.trans c7, b8.trans c8⟩, fun f hf => (bf f hf).trans (cf f hf), b9.trans c9, fun z => b6.trans (c6 z)⟩
theorem Pic.gg {g g' : Nat → Nat} {C : nC} (H : Pic g C) (hr : ∀ u, u < 10 → g (44 + u) ≤ 8) (e : ∀ j, j < 2994 → g' j = g j) : Pic g' C := by
  obtain ⟨⟨o0, o1, o2, o4, o5, o3, o6⟩, hN, hL⟩ := H
  refine ⟨?_, fun v hv => ?_, fun l hl => ?_⟩
  · unfold PicO
    rw [e 0 (by omega), e 1 (by omega), e 2 (by omega), e 3 (by omega), e 4 (by omega), e 5 (by omega)]
    exact ⟨o0, o1, o2, o4, o5, o3, fun i hi => by rw [e _ (by omega)]; exact o6 i hi⟩
  · obtain ⟨c0, c1, c2, c3, c4, c5, c6⟩ := hN v hv
    have h8 := hr v hv
    unfold PicN
    rw [e (14 + v) (by omega), e (24 + v) (by omega), e (34 + v) (by omega), e (44 + v) (by omega), e 0 (by omega)]
    refine ⟨c0, c1, c2, c3, c4.congr (fun i hi => e _ (by omega)), fun i hi => ?_, c6.congr (fun w => ?_)⟩
    · rw [show vecs g' v i = vecs g v i from e _ (by omega), show pays g' v i = pays g v i from e _ (by omega)]
      exact c5 i hi
    · unfold snt
      by_cases z : w < 256
      · rw [e _ (by omega)]
      · simp [z]
  · have X := hL l hl
    have el : lostN g' l = lostN g l := by rw [lostN_los, lostN_los, e _ (by omega), e _ (by omega)]
    unfold PicL at X ⊢
    rw [el, e (214 + 11 * l) (by omega), e (215 + 11 * l) (by omega), e (216 + 11 * l) (by omega), e (217 + 11 * l) (by omega), e (222 + 11 * l) (by omega), e (223 + 11 * l) (by omega), e (224 + 11 * l) (by omega)]
    refine ⟨X.1, X.2.1, fun f hf => ?_, X.2.2.2⟩
    rw [e _ (by omega)]
    exact X.2.2.1 f hf
theorem WF.gg {g g' : Nat → Nat} (hw : WF g) (e : ∀ j, j < 2994 → g' j = g j) : WF g' := by
  have hr := hw.r8
  obtain ⟨h0, h1, h2, h3, h4, h5, h6, h7, h8, h9⟩ := hw
  unfold WF
  rw [e 0 (by omega), e 1 (by omega), e 2 (by omega), e 4 (by omega), e 5 (by omega), e 14 (by omega)]
  refine ⟨h0, h1, h2, fun l hl => ?_, h4, h5, fun v hv => ?_, fun v i hv hi => ?_, fun j hj => ?_, h9⟩
  · rw [e (214 + 11 * l) (by omega), e (215 + 11 * l) (by omega), e (216 + 11 * l) (by omega)]; exact h3 l hl
  · rw [e (14 + v) (by omega), e (34 + v) (by omega), e (44 + v) (by omega)]; exact h6 v hv
  · rw [e (44 + v) (by omega)] at hi
    have := hr v hv
    rw [e _ (by omega)]
    exact h7 v i hv hi
  · rw [e _ (by omega)]; exact h8 j hj
theorem WP.gg {g g' : Nat → Nat} (hp : WP g) (hr : ∀ u, u < 10 → g (44 + u) ≤ 8) (e : ∀ j, j < 2994 → g' j = g j) : WP g' := hp.mono hr (fun j hj _ _ _ => e j (by omega))
section CP
variable {h : aH} {b b' : Nat} {C C' : nC}
theorem c_copyN {v : Nat} (hd : b' + 134 ≤ b ∨ b + 134 ≤ b') (hv : v < 10) (h6 : C' 3 v 6 ≤ 1) : ∃ D, run 39 0 [.ref (ndA b v), .ref (ndA b' v)] [] (NH (NH h b' C') b C) = some (none, NH (NH h b' C') b D) ∧ AGn C' D v ∧ ∀ k u, (u ≠ v ∨ k < 3 ∨ 12 ≤ k) → D k u = C k u := by
  have r0 : ∀ D : nC, hget (NH (NH h b' C') b D) (ndA b' v) = some (.inr (3, [.ref (ndA b' v + 1), .ref (ndA b' v + 4), .ref (ndA b' v + 7), .ref (ndA b' v + 8), .int (nI (C' 3 v 4)), .int (nI (C' 3 v 5)), .int (nI (C' 3 v 6))])) := fun D => by rw [NH_out (by unfold ndA; omega)]; exact NH_n hv
  have rh : ∀ D : nC, SP (NH (NH h b' C') b D) (ndA b' v + 1) (C' 4 v 2) (C' 5 v) (C' 6 v) := fun D => by
    have := NH_h (h := h) (b := b') (C := C') hv
    exact ⟨by rw [NH_out (by unfold ndA; omega)]; exact this.1, by rw [NH_out (by unfold ndA; omega)]; exact this.2.1, by rw [NH_out (by unfold ndA; omega)]; exact this.2.2⟩
  have rs : ∀ D : nC, SP (NH (NH h b' C') b D) (ndA b' v + 4) (C' 7 v 2) (C' 8 v) (C' 9 v) := fun D => by
    have := NH_s (h := h) (b := b') (C := C') hv
    exact ⟨by rw [NH_out (by unfold ndA; omega)]; exact this.1, by rw [NH_out (by unfold ndA; omega)]; exact this.2.1, by rw [NH_out (by unfold ndA; omega)]; exact this.2.2⟩
  have rv : ∀ D : nC, hget (NH (NH h b' C') b D) (ndA b' v + 7) = some (r8 (C' 10 v)) := fun D => by rw [NH_out (by unfold ndA; omega)]; exact NH_v hv
  have rp : ∀ D : nC, hget (NH (NH h b' C') b D) (ndA b' v + 8) = some (r8 (C' 11 v)) := fun D => by rw [NH_out (by unfold ndA; omega)]; exact NH_p hv
  have S1 := c_copyS (NH_h (h := NH h b' C') (b := b) (C := C) hv) (rh C) (by unfold ndA; omega)
  rw [NH_sh hv] at S1
  generalize hC1 : upK (upK (upK C 4 v (w2 (C' 4 v 2))) 5 v (cp8 8 (C' 5 v) (C 5 v))) 6 v (cp8 8 (C' 6 v) (C 6 v)) = C1 at S1
  have S2 := c_copyS (NH_s (h := NH h b' C') (b := b) (C := C1) hv) (rs C1) (by unfold ndA; omega)
  rw [NH_ss hv] at S2
  generalize hC2 : upK (upK (upK C1 7 v (w2 (C' 7 v 2))) 8 v (cp8 8 (C' 8 v) (C1 8 v))) 9 v (cp8 8 (C' 9 v) (C1 9 v)) = C2 at S2
  refine ⟨upK (upK (upK C2 10 v (cp8 8 (C' 10 v) (C2 10 v))) 11 v (cp8 8 (C' 11 v) (C2 11 v))) 3 v (w3 (C' 3 v 4) (C' 3 v 5) (C' 3 v 6)), ?_, ?_, ?_⟩
  · have e11 : upK C2 10 v (cp8 8 (C' 10 v) (C2 10 v)) 11 v = C2 11 v := upK_k (by decide)
    have hz : C' 3 v 6 = 0 ∨ C' 3 v 6 = 1 := by omega
    have rh0 : ∀ D : nC, hget (NH (NH h b' C') b D) (ndA b' v + 1) = some (.inr (4, [.ref (ndA b' v + 1 + 1), .ref (ndA b' v + 1 + 2), .int (nI (C' 4 v 2))])) := fun D => (rh D).1
    have rs0 : ∀ D : nC, hget (NH (NH h b' C') b D) (ndA b' v + 4) = some (.inr (4, [.ref (ndA b' v + 4 + 1), .ref (ndA b' v + 4 + 2), .int (nI (C' 7 v 2))])) := fun D => (rs D).1
    rcases hz with hz | hz
    · simp (disch := omega) only [s39_0, s39_1, s39_4, s39_5, s39_8, s39_11, s39_12, s39_15, s39_16, s39_19, s39_22, s39_23, s39_26, s39_27, s39_28, s39_31, s39_32, s39_34, s39_37, s39_38, s39_41, s39_42, s39_43, s39_46, s39_47, s39_49, s39_52, s39_53, s39_54, s39_57, s39_60, s39_61, s39_62, s39_65, s39_68, s39_69, s39_70, s39_73, s39_76, gf0, gf1, gf2, gf3, gf4, gf5, gf6, gf7, gf8, gf9, gf10, gf11, gf12, gf13, gf14, pu0, pu1, pu2, pu3, pu4, pu5, pu6, pu7, pu8, pu9, pu10, pu11, pu12, pu13, pu14, rc_at, bK_some, Option.toList_some, Option.toList_none, List.cons_append, List.nil_append, r0, rh0, rs0, rv, rp, NH_n hv, NH_h0 hv, NH_s0 hv, NH_v hv, NH_p hv, S1, S2, cc_8, NH_sv hv, NH_sp hv, e11, NH_sn hv, upK_same, upK_upK, w3_4, w3_5, w3_6, hz, pf36_0]
    · simp (disch := omega) only [s39_0, s39_1, s39_4, s39_5, s39_8, s39_11, s39_12, s39_15, s39_16, s39_19, s39_22, s39_23, s39_26, s39_27, s39_28, s39_31, s39_32, s39_34, s39_37, s39_38, s39_41, s39_42, s39_43, s39_46, s39_47, s39_49, s39_52, s39_53, s39_54, s39_57, s39_60, s39_61, s39_62, s39_65, s39_68, s39_69, s39_70, s39_73, s39_76, gf0, gf1, gf2, gf3, gf4, gf5, gf6, gf7, gf8, gf9, gf10, gf11, gf12, gf13, gf14, pu0, pu1, pu2, pu3, pu4, pu5, pu6, pu7, pu8, pu9, pu10, pu11, pu12, pu13, pu14, rc_at, bK_some, Option.toList_some, Option.toList_none, List.cons_append, List.nil_append, r0, rh0, rs0, rv, rp, NH_n hv, NH_h0 hv, NH_s0 hv, NH_v hv, NH_p hv, S1, S2, cc_8, NH_sv hv, NH_sp hv, e11, NH_sn hv, upK_same, upK_upK, w3_4, w3_5, w3_6, hz, pf36_1]
  · unfold AGn
    rw [← hC2, ← hC1]
    refine ⟨?_, ?_, ?_, ?_, ?_, fun i hi => ?_⟩
    · rw [upK_same]; rfl
    · rw [upK_same]; rfl
    · rw [upK_same]; rfl
    · simp [upK, w2]
    · simp [upK, w2]
    · simp [upK, cp8, hi]
  · intro k u hk
    rw [← hC2, ← hC1]
    rcases hk with hk | hk | hk
    · rw [upK_v hk, upK_v hk, upK_v hk, upK_v hk, upK_v hk, upK_v hk, upK_v hk, upK_v hk, upK_v hk]
    · rw [upK_k (by omega), upK_k (by omega), upK_k (by omega), upK_k (by omega), upK_k (by omega), upK_k (by omega), upK_k (by omega), upK_k (by omega), upK_k (by omega)]
    · rw [upK_k (by omega), upK_k (by omega), upK_k (by omega), upK_k (by omega), upK_k (by omega), upK_k (by omega), upK_k (by omega), upK_k (by omega), upK_k (by omega)]
theorem c_copyL {l : Nat} (hd : b' + 134 ≤ b ∨ b + 134 ≤ b') (hl : l < 20) (h9 : C' 12 l 9 ≤ 1) : ∃ D, run 9 0 [.ref (lkA b l), .ref (lkA b' l)] [] (NH (NH h b' C') b C) = some (none, NH (NH h b' C') b D) ∧ AGl C' D l ∧ ∀ k u, (u ≠ l ∨ (k ≠ 12 ∧ k ≠ 13)) → D k u = C k u := by
  have r0 : ∀ D : nC, hget (NH (NH h b' C') b D) (lkA b' l) = some (.inr (1, [.int (nI (C' 12 l 0)), .int (nI (C' 12 l 1)), .int (nI (C' 12 l 2)), .ref (lkA b' l + 1), .int (nI (C' 12 l 4)), .int (nI (C' 12 l 5)), .int (nI (C' 12 l 6)), .int (nI (C' 12 l 7)), .int (nI (C' 12 l 8)), .int (nI (C' 12 l 9))])) := fun D => by rw [NH_out (by unfold lkA; omega)]; exact NH_l hl
  have rf : ∀ D : nC, hget (NH (NH h b' C') b D) (lkA b' l + 1) = some (rN 4 (C' 13 l)) := fun D => by rw [NH_out (by unfold lkA; omega)]; exact NH_f hl
  refine ⟨upK (upK C 13 l (cp8 4 (C' 13 l) (C 13 l))) 12 l (w10 (C' 12 l 0) (C' 12 l 1) (C' 12 l 2) (C' 12 l 4) (C' 12 l 5) (C' 12 l 6) (C' 12 l 7) (C' 12 l 8) (C' 12 l 9)), ?_, ?_, ?_⟩
  · have e1 : ∀ f g, upK (upK C 12 l f) 13 l g = upK (upK C 13 l g) 12 l f := by
      intro f g
      funext k u
      unfold upK
      by_cases z : k = 12 ∧ u = l
      · have : ¬ (k = 13 ∧ u = l) := by omega
        simp only [z, and_self, if_true]
        simp
      · simp only [z, if_false]
    have e13 : ∀ f, upK C 12 l f 13 l = C 13 l := fun f => upK_k (by decide)
    have e12 : ∀ f g, upK (upK C 12 l f) 13 l g 12 l = f := fun f g => by rw [upK_k (by decide), upK_same]
    have hz : C' 12 l 9 = 0 ∨ C' 12 l 9 = 1 := by omega
    rw [← e1]
    have e3 : ∀ f g f', upK (upK (upK C 12 l f) 13 l g) 12 l f' = upK (upK C 12 l f') 13 l g := fun f g f' => by rw [e1, upK_upK, e1]
    rcases hz with hz | hz
    · simp (disch := omega) only [s9_0, s9_1, s9_2, s9_5, s9_8, s9_9, s9_10, s9_13, s9_16, s9_17, s9_18, s9_21, s9_24, s9_25, s9_28, s9_29, s9_30, s9_33, s9_34, s9_35, s9_38, s9_39, s9_40, s9_43, s9_46, s9_47, s9_48, s9_51, s9_54, s9_55, s9_56, s9_59, s9_62, s9_63, s9_64, s9_67, s9_70, s9_71, s9_72, s9_75, s9_78, s9_79, s9_80, s9_83, s9_86, gf0, gf1, gf2, gf3, gf4, gf5, gf6, gf7, gf8, gf9, gf10, gf11, gf12, gf13, gf14, pu0, pu1, pu2, pu3, pu4, pu5, pu6, pu7, pu8, pu9, pu10, pu11, pu12, pu13, pu14, rc_at, bK_some, Option.toList_some, Option.toList_none, List.cons_append, List.nil_append, r0, rf, NH_l hl, NH_f hl, NH_sl hl, NH_sf hl, cc_N, upK_same, upK_upK, w10_0, w10_1, w10_2, w10_4, w10_5, w10_6, w10_7, w10_8, w10_9, e13, e12, e3, hz, pf19_0]
    · simp (disch := omega) only [s9_0, s9_1, s9_2, s9_5, s9_8, s9_9, s9_10, s9_13, s9_16, s9_17, s9_18, s9_21, s9_24, s9_25, s9_28, s9_29, s9_30, s9_33, s9_34, s9_35, s9_38, s9_39, s9_40, s9_43, s9_46, s9_47, s9_48, s9_51, s9_54, s9_55, s9_56, s9_59, s9_62, s9_63, s9_64, s9_67, s9_70, s9_71, s9_72, s9_75, s9_78, s9_79, s9_80, s9_83, s9_86, gf0, gf1, gf2, gf3, gf4, gf5, gf6, gf7, gf8, gf9, gf10, gf11, gf12, gf13, gf14, pu0, pu1, pu2, pu3, pu4, pu5, pu6, pu7, pu8, pu9, pu10, pu11, pu12, pu13, pu14, rc_at, bK_some, Option.toList_some, Option.toList_none, List.cons_append, List.nil_append, r0, rf, NH_l hl, NH_f hl, NH_sl hl, NH_sf hl, cc_N, upK_same, upK_upK, w10_0, w10_1, w10_2, w10_4, w10_5, w10_6, w10_7, w10_8, w10_9, e13, e12, e3, hz, pf19_1]
  · unfold AGl
    rw [upK_same, upK_k (by decide), upK_same]
    exact ⟨⟨rfl, rfl, rfl⟩, ⟨rfl, rfl, rfl, rfl, rfl, rfl⟩, fun f hf => by unfold cp8; rw [if_pos hf]⟩
  · intro k u hk
    rcases hk with hk | hk
    · rw [upK_v hk, upK_v hk]
    · rw [upK_k hk.1, upK_k hk.2]
theorem c_copyNet (hd : b' + 134 ≤ b ∨ b + 134 ≤ b') (h6 : ∀ v, v < 10 → C' 3 v 6 ≤ 1) (h9 : ∀ l, l < 20 → C' 12 l 9 ≤ 1) : ∃ D, run 14 0 [.ref b, .ref b', .null] [] (NH (NH h b' C') b C) = some (none, NH (NH h b' C') b D) ∧ AG C' D := by
  have r0 : ∀ D : nC, hget (NH (NH h b' C') b D) b' = some (.inr (2, [.int (nI (C' 0 0 0)), .ref (b' + 1), .int (nI (C' 0 0 2)), .ref (b' + 2), .int (nI (C' 0 0 4)), .ref (b' + 93), .long (lN (C' 0 0 6)), .int (nI (C' 0 0 7)), .int (nI (C' 0 0 8))])) := fun D => by rw [NH_out (by omega)]; exact NH_0
  have r1 : ∀ D : nC, hget (NH (NH h b' C') b D) (b' + 1) = some (r8 (C' 1 0)) := fun D => by rw [NH_out (by omega)]; exact NH_1
  have r2 : ∀ D : nC, hget (NH (NH h b' C') b D) (b' + 2) = some (.inl (3, 10, .inr (fun i => if i < 10 then some (ndA b' i) else none))) := fun D => by rw [NH_out (by omega)]; exact NH_2
  have r3 : ∀ D : nC, hget (NH (NH h b' C') b D) (b' + 93) = some (.inl (4, 20, .inr (fun i => if i < 20 then some (lkA b' i) else none))) := fun D => by rw [NH_out (by omega)]; exact NH_93
  let C1 : nC := upK (upK C 0 0 (w9 (C' 0 0 0) (C' 0 0 2) (C 0 0 4) (C 0 0 6) (C 0 0 7) (C 0 0 8))) 1 0 (cp8 8 (C' 1 0) (C 1 0))
  have st : run 14 0 [.ref b, .ref b', .null] [] (NH (NH h b' C') b C) = run 14 33 [.ref b, .ref b', .int (nI 0)] [] (NH (NH h b' C') b C1) := by
    have e1 : ∀ f, upK C 0 0 f 1 0 = C 1 0 := fun f => upK_k (by decide)
    have e0 : ∀ f g, upK (upK C 0 0 f) 1 0 g 0 0 = f := fun f g => by rw [upK_k (by decide), upK_same]
    have e3 : ∀ f g f', upK (upK (upK C 0 0 f) 1 0 g) 0 0 f' = upK (upK C 0 0 f') 1 0 g := by
      intro f g f'
      funext k u
      unfold upK
      by_cases z : k = 0 ∧ u = 0
      · have : ¬ (k = 1 ∧ u = 0) := by omega
        simp [z]
      · simp only [z, if_false]
    simp (disch := omega) only [s14_0, s14_1, s14_2, s14_5, s14_8, s14_9, s14_12, s14_13, s14_14, s14_17, s14_18, s14_20, s14_23, s14_24, s14_25, s14_28, s14_31, s14_32, gf0, gf1, gf2, gf3, gf4, gf5, gf6, gf7, gf8, gf9, gf10, gf11, gf12, gf13, gf14, pu0, pu1, pu2, pu3, pu4, pu5, pu6, pu7, pu8, pu9, pu10, pu11, pu12, pu13, pu14, rc_at, bK_some, Option.toList_some, Option.toList_none, List.cons_append, List.nil_append, r0, r1, NH_0, NH_1, NH_so, NH_s1, cc_8, upK_same, upK_upK, w9_0, w9_2, w9_4, w9_6, w9_7, w9_8, e1, e0, e3, C1]
  have k1 : ∀ m, m ≤ 10 → ∃ D, run 14 33 [.ref b, .ref b', .int (nI 0)] [] (NH (NH h b' C') b C1) = run 14 33 [.ref b, .ref b', .int (nI m)] [] (NH (NH h b' C') b D) ∧ (∀ v, v < m → AGn C' D v) ∧ ∀ k u, (m ≤ u ∨ k < 3 ∨ 12 ≤ k) → D k u = C1 k u := by
    intro m
    induction m with
    | zero => intro _; exact ⟨C1, rfl, fun v hv => absurd hv (Nat.not_lt_zero _), fun _ _ _ => rfl⟩
    | succ m ih =>
      intro hm
      obtain ⟨D, e1, e2, e3⟩ := ih (by omega)
      have m10 : m < 10 := by omega
      obtain ⟨D2, f1, f2, f3⟩ := c_copyN (h := h) (C := D) hd m10 (h6 m m10)
      have rn : hget (NH (NH h b' C') b D) (ndA b' m) = some (.inr (3, [.ref (ndA b' m + 1), .ref (ndA b' m + 4), .ref (ndA b' m + 7), .ref (ndA b' m + 8), .int (nI (C' 3 m 4)), .int (nI (C' 3 m 5)), .int (nI (C' 3 m 6))])) := by rw [NH_out (by unfold ndA; omega)]; exact NH_n m10
      refine ⟨D2, ?_, fun v hv => ?_, fun k u hk => ?_⟩
      · rw [e1, s14_33]
        simp (disch := omega) only [s14_34, s14_36, s14_39, s14_40, s14_43, s14_44, s14_45, s14_46, s14_49, s14_50, s14_51, s14_54, s14_57, gf0, gf1, gf2, gf3, gf4, gf5, gf6, gf7, gf8, gf9, gf10, gf11, gf12, gf13, gf14, pu0, pu1, pu2, pu3, pu4, pu5, pu6, pu7, pu8, pu9, pu10, pu11, pu12, pu13, pu14, rc_at, bK_some, Option.toList_some, Option.toList_none, List.cons_append, List.nil_append, r0, r2, NH_0, NH_2, al_nd, NH_n m10, rn, nI_lts, m10, if_true, f1, nI_adds]
      · by_cases z : v = m
        · subst z; exact f2
        · have := e2 v (by omega)
          unfold AGn at this ⊢
          rw [f3 3 v (Or.inl z), f3 4 v (Or.inl z), f3 5 v (Or.inl z), f3 6 v (Or.inl z), f3 7 v (Or.inl z), f3 8 v (Or.inl z), f3 10 v (Or.inl z), f3 11 v (Or.inl z)]
          exact this
      · rw [f3 k u (by omega)]; exact e3 k u (by omega)
  obtain ⟨D, e1, e2, e3⟩ := k1 10 (Nat.le_refl _)
  let D1 : nC := upK D 0 0 (w9 (D 0 0 0) (D 0 0 2) (C' 0 0 4) (D 0 0 6) (D 0 0 7) (D 0 0 8))
  have mid : run 14 33 [.ref b, .ref b', .int (nI 10)] [] (NH (NH h b' C') b D) = run 14 70 [.ref b, .ref b', .int (nI 0)] [] (NH (NH h b' C') b D1) := by
    rw [s14_33]
    simp (disch := omega) only [s14_34, s14_36, s14_60, s14_61, s14_62, s14_65, s14_68, s14_69, gf0, gf1, gf2, gf3, gf4, gf5, gf6, gf7, gf8, gf9, gf10, gf11, gf12, gf13, gf14, pu0, pu1, pu2, pu3, pu4, pu5, pu6, pu7, pu8, pu9, pu10, pu11, pu12, pu13, pu14, rc_at, bK_some, Option.toList_some, Option.toList_none, List.cons_append, List.nil_append, r0, NH_0, NH_so, nI_lts, Nat.lt_irrefl, if_false, D1]
  have d1k : ∀ k u, k ≠ 0 → D1 k u = D k u := fun k u hk => upK_k hk
  have k2 : ∀ m, m ≤ 20 → ∃ F, run 14 70 [.ref b, .ref b', .int (nI 0)] [] (NH (NH h b' C') b D1) = run 14 70 [.ref b, .ref b', .int (nI m)] [] (NH (NH h b' C') b F) ∧ (∀ l, l < m → AGl C' F l) ∧ ∀ k u, (m ≤ u ∨ (k ≠ 12 ∧ k ≠ 13)) → F k u = D1 k u := by
    intro m
    induction m with
    | zero => intro _; exact ⟨D1, rfl, fun v hv => absurd hv (Nat.not_lt_zero _), fun _ _ _ => rfl⟩
    | succ m ih =>
      intro hm
      obtain ⟨F, g1, g2, g3⟩ := ih (by omega)
      have m20 : m < 20 := by omega
      obtain ⟨F2, f1, f2, f3⟩ := c_copyL (h := h) (C := F) hd m20 (h9 m m20)
      have rn : hget (NH (NH h b' C') b F) (lkA b' m) = some (.inr (1, [.int (nI (C' 12 m 0)), .int (nI (C' 12 m 1)), .int (nI (C' 12 m 2)), .ref (lkA b' m + 1), .int (nI (C' 12 m 4)), .int (nI (C' 12 m 5)), .int (nI (C' 12 m 6)), .int (nI (C' 12 m 7)), .int (nI (C' 12 m 8)), .int (nI (C' 12 m 9))])) := by rw [NH_out (by unfold lkA; omega)]; exact NH_l m20
      refine ⟨F2, ?_, fun v hv => ?_, fun k u hk => ?_⟩
      · rw [g1, s14_70]
        simp (disch := omega) only [s14_71, s14_73, s14_76, s14_77, s14_80, s14_81, s14_82, s14_83, s14_86, s14_87, s14_88, s14_91, s14_94, gf0, gf1, gf2, gf3, gf4, gf5, gf6, gf7, gf8, gf9, gf10, gf11, gf12, gf13, gf14, pu0, pu1, pu2, pu3, pu4, pu5, pu6, pu7, pu8, pu9, pu10, pu11, pu12, pu13, pu14, rc_at, bK_some, Option.toList_some, Option.toList_none, List.cons_append, List.nil_append, r0, r3, NH_0, NH_93, al_lk, NH_l m20, rn, nI_lts, m20, if_true, f1, nI_adds]
      · by_cases z : v = m
        · subst z; exact f2
        · have := g2 v (by omega)
          unfold AGl at this ⊢
          rw [f3 12 v (Or.inl z), f3 13 v (Or.inl z)]
          exact this
      · rw [f3 k u (by omega)]; exact g3 k u (by omega)
  obtain ⟨F, g1, g2, g3⟩ := k2 20 (Nat.le_refl _)
  refine ⟨upK F 0 0 (w9 (F 0 0 0) (F 0 0 2) (F 0 0 4) (C' 0 0 6) (C' 0 0 7) (C' 0 0 8)), ?_, ?_⟩
  · rw [st, e1, mid, g1, s14_70]
    simp (disch := omega) only [s14_71, s14_73, s14_97, s14_98, s14_99, s14_102, s14_105, s14_106, s14_107, s14_110, s14_113, s14_114, s14_115, s14_118, s14_121, gf0, gf1, gf2, gf3, gf4, gf5, gf6, gf7, gf8, gf9, gf10, gf11, gf12, gf13, gf14, pu0, pu1, pu2, pu3, pu4, pu5, pu6, pu7, pu8, pu9, pu10, pu11, pu12, pu13, pu14, rc_at, bK_some, Option.toList_some, Option.toList_none, List.cons_append, List.nil_append, r0, NH_0, NH_so, nI_lts, Nat.lt_irrefl, if_false, upK_same, upK_upK, w9_0, w9_2, w9_4, w9_6, w9_7, w9_8]
  · have F0 : F 0 0 = w9 (C' 0 0 0) (C' 0 0 2) (C' 0 0 4) (C 0 0 6) (C 0 0 7) (C 0 0 8) := by
      rw [g3 0 0 (Or.inr (by decide))]
      show upK D 0 0 _ 0 0 = _
      rw [upK_same, e3 0 0 (Or.inr (Or.inl (by decide)))]
      show w9 (upK (upK C 0 0 _) 1 0 _ 0 0 0) (upK (upK C 0 0 _) 1 0 _ 0 0 2) _ (upK (upK C 0 0 _) 1 0 _ 0 0 6) (upK (upK C 0 0 _) 1 0 _ 0 0 7) (upK (upK C 0 0 _) 1 0 _ 0 0 8) = _
      rw [upK_k (by decide), upK_same]
      rfl
    have F1 : F 1 0 = cp8 8 (C' 1 0) (C 1 0) := by
      rw [g3 1 0 (Or.inr (by decide)), d1k 1 0 (by decide), e3 1 0 (Or.inr (Or.inl (by decide)))]
      exact upK_same _ _ _ _
    refine ⟨?_, fun i hi => ?_, fun v hv => ?_, fun l hl => ?_⟩
    · rw [upK_same, F0]
      exact ⟨rfl, rfl, rfl, rfl, rfl, rfl⟩
    · rw [upK_k (by decide), F1]; unfold cp8; rw [if_pos hi]
    · have := e2 v hv
      unfold AGn at this ⊢
      have q : ∀ k, 3 ≤ k → k < 12 → upK F 0 0 (w9 (F 0 0 0) (F 0 0 2) (F 0 0 4) (C' 0 0 6) (C' 0 0 7) (C' 0 0 8)) k v = D k v := fun k h1 h2 => by
        rw [upK_k (by omega), g3 k v (Or.inr (by omega)), d1k k v (by omega)]
      rw [q 3 (by decide) (by decide), q 4 (by decide) (by decide), q 5 (by decide) (by decide), q 6 (by decide) (by decide), q 7 (by decide) (by decide), q 8 (by decide) (by decide), q 10 (by decide) (by decide), q 11 (by decide) (by decide)]
      exact this
    · have := g2 l hl
      unfold AGl at this ⊢
      rw [upK_k (by decide), upK_k (by decide)]
      exact this
end CP
