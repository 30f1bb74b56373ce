/-! suspicion: by leads as by vectors -/
theorem odd_bits : ∀ c, c < 256 → decide (pcn c % 2 = 1) = (c.testBit 0 ^^ (c.testBit 1 ^^ (c.testBit 2 ^^ (c.testBit 3 ^^ (c.testBit 4 ^^ (c.testBit 5 ^^ (c.testBit 6 ^^ c.testBit 7))))))) := by decide +kernel
theorem odd_eq {a p : Nat} (ha : a < 256) : oddN a p = ((a.testBit 0 && p.testBit 0) ^^ ((a.testBit 1 && p.testBit 1) ^^ ((a.testBit 2 && p.testBit 2) ^^ ((a.testBit 3 && p.testBit 3) ^^ ((a.testBit 4 && p.testBit 4) ^^ ((a.testBit 5 && p.testBit 5) ^^ ((a.testBit 6 && p.testBit 6) ^^ (a.testBit 7 && p.testBit 7)))))))) := by
  unfold oddN
  rw [odd_bits _ (Nat.lt_of_le_of_lt Nat.and_le_left ha)]
  simp only [Nat.testBit_and]
theorem x2 (a b c d : Bool) : ((a ^^ b) ^^ (c ^^ d)) = ((a ^^ c) ^^ (b ^^ d)) := by cases a <;> cases b <;> cases c <;> cases d <;> rfl
theorem x1 (a b p : Bool) : ((a ^^ b) && p) = ((a && p) ^^ (b && p)) := by cases a <;> cases b <;> cases p <;> rfl
theorem odd_xor {a b p : Nat} (ha : a < 256) (hb : b < 256) : oddN (a ^^^ b) p = (oddN a p ^^ oddN b p) := by
  rw [odd_eq (Nat.xor_lt_two_pow (n := 8) ha hb), odd_eq ha, odd_eq hb]
  simp only [Nat.testBit_xor, x1]
  rw [x2 (a.testBit 6 && p.testBit 6), x2 (a.testBit 5 && p.testBit 5), x2 (a.testBit 4 && p.testBit 4), x2 (a.testBit 3 && p.testBit 3), x2 (a.testBit 2 && p.testBit 2), x2 (a.testBit 1 && p.testBit 1), x2 (a.testBit 0 && p.testBit 0)]
theorem odd_0 (p : Nat) : oddN 0 p = false := by
  unfold oddN
  rw [Nat.zero_and]
  rfl
theorem odd_xs {f : Nat → Nat} {p n : Nat} (T : Nat) (hf : ∀ i, i < n → f i < 256) (ho : ∀ i, i < n → oddN (f i) p = false) : oddN (xsN f T n) p = false := by
  induction n with
  | zero => exact odd_0 p
  | succ n ih =>
    have I := ih (fun i hi => hf i (by omega)) (fun i hi => ho i (by omega))
    simp only [xsN]
    have hx : xsN f T n < 256 := xsN_lt (k := 8) (fun i hi => hf i (by omega))
    split
    · rw [odd_xor hx (hf n (by omega)), I, ho n (by omega)]; rfl
    · rw [Nat.xor_zero]; exact I
theorem SpOK.odd {L P f : Nat → Nat} {n k : Nat} (H : SpOK L P f n k) (p : Nat) (hf : ∀ i, i < n → f i < 256) : anyN (fun i => oddN (L i) p) 8 = anyN (fun i => oddN (f i) p) n := by
  rw [Bool.eq_iff_iff, anyN_iff, anyN_iff]
  constructor
  · rintro ⟨b, hb, ob⟩
    apply Classical.byContradiction
    intro hno
    have hf0 : ∀ i, i < n → oddN (f i) p = false := fun i hi => by
      cases q : oddN (f i) p
      · rfl
      · exact absurd ⟨i, hi, q⟩ hno
    by_cases z : L b = 0
    · rw [z, odd_0] at ob; cases ob
    · have := (H.2.2.1 b hb z).2
      rw [← this, odd_xs _ hf hf0] at ob
      cases ob
  · rintro ⟨i, hi, oi⟩
    apply Classical.byContradiction
    intro hno
    have hL0 : ∀ b, b < 8 → oddN (L b) p = false := fun b hb => by
      cases q : oddN (L b) p
      · rfl
      · exact absurd ⟨b, hb, q⟩ hno
    obtain ⟨T, hT⟩ := H.2.2.2.2.1 i hi
    rw [← hT, odd_xs T (fun b hb => H.1.lead_lt hb) hL0] at oi
    cases oi
theorem SpG.odd {q : Nat → Prop} {s : Nat} {L : Nat → Nat} (H : SpG q s L) (p : Nat) (hq : ∀ w, q w → w < 256) : anyN (fun i => oddN (L i) p) 8 = true ↔ ∃ w, q w ∧ oddN w p = true := by
  rw [anyN_iff]
  constructor
  · rintro ⟨b, hb, ob⟩
    apply Classical.byContradiction
    intro hno
    have := H.2.2.2 b hb (fun x => x < 256 ∧ oddN x p = false) ⟨by decide, odd_0 p⟩ (fun a c ha hc => ⟨Nat.xor_lt_two_pow (n := 8) ha.1 hc.1, by rw [odd_xor ha.1 hc.1, ha.2, hc.2]; rfl⟩) (fun w hw => ⟨hq w hw, by
      cases z : oddN w p
      · rfl
      · exact absurd ⟨w, hw, z⟩ hno⟩)
    rw [this.2] at ob
    cases ob
  · rintro ⟨w, hw, ow⟩
    apply Classical.byContradiction
    intro hno
    have hL0 : ∀ b, b < 8 → oddN (L b) p = false := fun b hb => by
      cases q : oddN (L b) p
      · rfl
      · exact absurd ⟨b, hb, q⟩ hno
    obtain ⟨T, hT⟩ := H.2.2.1 w hw
    rw [← hT, odd_xs T (fun b hb => H.1.lead_lt hb) hL0] at ow
    cases ow
theorem w3_4 {a b c : Nat} : w3 a b c 4 = a := rfl
theorem w3_5 {a b c : Nat} : w3 a b c 5 = b := rfl
theorem w3_6 {a b c : Nat} : w3 a b c 6 = c := rfl
theorem z11 : (nI 1 = 1) = True := by decide
section SU
variable {h : aH} {x n : Nat} {g : Nat → Nat} {C : nC}
theorem Pic.sus (H : Pic g C) (hw : WF g) {v : Nat} (hv : v < 10) (p : Nat) : (anyN (fun i => oddN (C 5 v i) p) 8 && !anyN (fun i => oddN (C 8 v i) p) 8) = susN g v p := by
  have X := H.2.1 v hv
  unfold susN
  rw [X.2.2.2.2.1.odd p (fun i hi => hw.vlt hv hi)]
  have e : anyN (fun i => oddN (C 8 v i) p) 8 = anyN (fun w => decide (g (434 + 256 * v + w) = 1) && oddN w p) 256 := by
    rw [Bool.eq_iff_iff, X.2.2.2.2.2.2.odd p (fun w hw => hw.1), anyN_iff]
    constructor
    · rintro ⟨w, ⟨w1, w2⟩, w3⟩
      exact ⟨w, w1, by simp [w2, w3]⟩
    · rintro ⟨w, w1, w2⟩
      simp at w2
      exact ⟨w, ⟨w1, w2.1⟩, w2.2⟩
  rw [e]
theorem Pic.sent (H : Pic g C) {v : Nat} (hv : v < 10) : ∀ i, i < 8 → C 8 v i < 256 := fun i hi => (H.2.1 v hv).2.2.2.2.2.2.1.lead_lt hi
theorem c_wh (H : Pic g C) (hw : WF g) {v : Nat} (hv : v < 10) (p : Nat) : run 46 0 [.ref (ndA (x + 1) v), .int (nI p)] [] (NH h (x + 1) C) = some (some (.int (bI (susN g v p))), NH h (x + 1) C) := by
  rw [c_withholds p hv (H.lead hv) (H.sent hv), H.sus hw hv]
theorem c_rel (H : Pic g C) (hw : WF g) (v : Int32) : run 22 0 [.ref (x + 1), .int v, .null] [] (NH h (x + 1) C) = some (some (.int (bI (relN g v))), NH h (x + 1) C) := by
  have h1 := hw.2.1
  have h2 := hw.2.2.1
  rw [c_hasRelay (by rw [H.1.2.2.1]; exact h2), H.1.2.2.1, H.1.2.1]
  have e : (hrI v (g 1) && anyN (fun l => decide (nI (C 12 l 0) = v)) (g 2)) = relN g v := by
    unfold relN
    rw [anyN_congr (q := fun l => decide (nI (g (214 + 11 * l)) = v)) (fun l hl => by rw [(H.2.2 l (by omega)).1.1])]
    cases q : anyN (fun l => decide (nI (g (214 + 11 * l)) = v)) (g 2)
    · simp
    · obtain ⟨l, hl, e⟩ := anyN_iff.mp q
      have e' := of_decide_eq_true e
      have hk := hw.2.2.2.1 l hl
      subst e'
      have : lkB (g 1) (nI (g (214 + 11 * l))) = true := lkB_nI (by omega) (by omega)
      rw [hr_lk (by omega), this]
      simp
  rw [e]
theorem c_proj (H : Pic g C) (hw : WF g) (p : Int32) : run 25 0 [.ref (x + 1), .int p] [] (NH h (x + 1) C) = some (some (.int (bI (inI p (nI 1) (nI (2 ^ g 0 - 1))))), NH h (x + 1) C) := by
  rw [c_hasProjection (by rw [H.1.1]; exact hw.1.2), H.1.1]
theorem c_suspect (hx : CH h x n) (H : Pic g C) (hw : WF g) (v p : Int32) : run 88 0 [.ref x, .int v, .int p] [] (NH h (x + 1) C) = some (some (.int (qSus g v p)), NH h (x + 1) C) := by
  have h1 := hw.2.1
  have hp8 := pow_8 hw.1.2
  unfold qSus
  cases c : relN g v
  · simp only [s88_0, s88_1, s88_4, s88_5, s88_8, s88_11, s88_12, s88_15, s88_16, s88_19, s88_22, s88_23, gf0, gf1, gf2, gf3, gf4, gf5, gf6, gf7, gf8, gf9, gf10, gf11, gf12, gf13, gf14, pu0, pu1, pu2, pu3, pu4, pu5, pu6, pu7, pu8, pu9, pu10, pu11, pu12, pu13, pu14, rc_at, bK_some, Option.toList_some, Option.toList_none, List.cons_append, List.nil_append, hx.at, NH_0, c_rel H hw, c, bI_0, if_true, Bool.false_eq_true, false_and, if_false]
  · by_cases d : inI p (nI 1) (nI (2 ^ g 0 - 1)) = true
    · obtain ⟨j, j0, j1, rfl, j3⟩ := relN_t hw c
      obtain ⟨k, k1, k2, rfl, k3⟩ := inI_t (by omega) (by decide) d
      have hj : j < 10 := by omega
      simp (disch := omega) only [s88_0, s88_1, s88_4, s88_5, s88_8, s88_11, s88_12, s88_15, s88_16, s88_19, s88_22, s88_23, s88_24, s88_25, s88_28, s88_31, s88_32, s88_33, s88_34, s88_37, s88_40, s88_41, s88_44, s88_45, gf0, gf1, gf2, gf3, gf4, gf5, gf6, gf7, gf8, gf9, gf10, gf11, gf12, gf13, gf14, pu0, pu1, pu2, pu3, pu4, pu5, pu6, pu7, pu8, pu9, pu10, pu11, pu12, pu13, pu14, rc_at, bK_some, Option.toList_some, Option.toList_none, List.cons_append, List.nil_append, hx.at, NH_0, NH_2, c_rel H hw, c_proj H hw, c, d, bI_0, if_true, Bool.true_eq_false, if_false, al_nd, NH_n hj, c_wh H hw hj, and_self, j3, k3]
      cases susN g j k <;> simp [bI]
    · have d' : inI p (nI 1) (nI (2 ^ g 0 - 1)) = false := by simpa using d
      simp only [s88_0, s88_1, s88_4, s88_5, s88_8, s88_11, s88_12, s88_15, s88_16, s88_19, s88_22, s88_23, gf0, gf1, gf2, gf3, gf4, gf5, gf6, gf7, gf8, gf9, gf10, gf11, gf12, gf13, gf14, pu0, pu1, pu2, pu3, pu4, pu5, pu6, pu7, pu8, pu9, pu10, pu11, pu12, pu13, pu14, rc_at, bK_some, Option.toList_some, Option.toList_none, List.cons_append, List.nil_append, hx.at, NH_0, c_rel H hw, c_proj H hw, c, d', bI_0, if_true, Bool.true_eq_false, Bool.false_eq_true, if_false, and_false]
theorem c_suspicions (hx : CH h x n) (H : Pic g C) (hw : WF g) (v : Int32) : run 89 0 [.ref x, .int v, .null, .null] [] (NH h (x + 1) C) = some (some (.int (qSuss g v)), NH h (x + 1) C) := by
  have h1 := hw.2.1
  have h0 := hw.1
  have hxx := hx.at
  have hp8 := pow_8 hw.1.2
  have e1 := c_allPackets (h := h) (b := x + 1) (C := C) (by rw [H.1.1]; omega)
  rw [H.1.1] at e1
  unfold qSuss
  cases c : relN g v
  · simp only [s89_0, s89_1, s89_4, s89_5, s89_8, s89_11, s89_12, gf0, gf1, gf2, gf3, gf4, gf5, gf6, gf7, gf8, gf9, gf10, gf11, gf12, gf13, gf14, pu0, pu1, pu2, pu3, pu4, pu5, pu6, pu7, pu8, pu9, pu10, pu11, pu12, pu13, pu14, rc_at, bK_some, Option.toList_some, Option.toList_none, List.cons_append, List.nil_append, hxx, NH_0, c_rel H hw, c, bI_0, if_true, Bool.false_eq_true, if_false]
  · obtain ⟨j, j0, j1, rfl, j3⟩ := relN_t hw c
    have hj : j < 10 := by omega
    have key : ∀ m, m ≤ 2 ^ g 0 - 1 → run 89 17 [.ref x, .int (nI j), .int (nI 0), .int (nI 1)] [] (NH h (x + 1) C) = run 89 17 [.ref x, .int (nI j), .int (nI (cntN (fun i => susN g j (1 + i)) m)), .int (nI (1 + m))] [] (NH h (x + 1) C) := by
      intro m
      induction m with
      | zero => intro _; rfl
      | succ m ih =>
        intro hm
        rw [ih (by omega), s89_17]
        simp (disch := omega) only [s89_18, s89_19, s89_22, s89_25, s89_28, s89_29, s89_32, s89_35, s89_36, s89_37, s89_38, s89_41, gf0, gf1, gf2, gf3, gf4, gf5, gf6, gf7, gf8, gf9, gf10, gf11, gf12, gf13, gf14, pu0, pu1, pu2, pu3, pu4, pu5, pu6, pu7, pu8, pu9, pu10, pu11, pu12, pu13, pu14, rc_at, bK_some, Option.toList_some, Option.toList_none, List.cons_append, List.nil_append, hxx, NH_0, NH_2, e1, al_nd, NH_n hj, nI_lts, show ¬ 2 ^ g 0 - 1 < 1 + m from by omega, if_false, c_wh H hw hj, bI_0]
        cases q : susN g j (1 + m)
        · simp only [if_true, s89_47, s89_50, nI_adds, cntN, q, Bool.false_eq_true, if_false, Nat.add_zero, Nat.add_assoc]
        · simp only [Bool.true_eq_false, if_false, s89_44, s89_47, s89_50, nI_adds, cntN, q, if_true, Nat.add_assoc]
    simp (disch := omega) only [s89_0, s89_1, s89_4, s89_5, s89_8, s89_11, s89_12, s89_13, s89_14, s89_15, s89_16, gf0, gf1, gf2, gf3, gf4, gf5, gf6, gf7, gf8, gf9, gf10, gf11, gf12, gf13, gf14, pu0, pu1, pu2, pu3, pu4, pu5, pu6, pu7, pu8, pu9, pu10, pu11, pu12, pu13, pu14, rc_at, bK_some, Option.toList_some, Option.toList_none, List.cons_append, List.nil_append, hxx, NH_0, c_rel H hw, c, bI_0, if_true, Bool.true_eq_false, if_false]
    rw [key _ (Nat.le_refl _), s89_17]
    simp (disch := omega) only [s89_18, s89_19, s89_22, s89_25, s89_53, s89_54, gf0, gf1, gf2, gf3, gf4, gf5, gf6, gf7, gf8, gf9, gf10, gf11, gf12, gf13, gf14, pu0, pu1, pu2, pu3, pu4, pu5, pu6, pu7, pu8, pu9, pu10, pu11, pu12, pu13, pu14, rc_at, bK_some, Option.toList_some, Option.toList_none, List.cons_append, List.nil_append, hxx, NH_0, e1, nI_lts, show 2 ^ g 0 - 1 < 1 + (2 ^ g 0 - 1) from by omega, if_true, j3]
/-- a mark keeps the picture -/
theorem Pic_mark (H : Pic g C) {v : Nat} (hr : ∀ u, u < 10 → g (44 + u) ≤ 8) (hv : v < 10) (y z : Nat) : Pic (up (up g (24 + v) y) (34 + v) z) (upK C 3 v (w3 (C 3 v 4) y z)) := by
  obtain ⟨⟨o0, o1, o2, o4, o5, o3, o6⟩, hN, hL⟩ := H
  have eG : ∀ j, j ≠ 24 + v → j ≠ 34 + v → up (up g (24 + v) y) (34 + v) z j = g j := fun j h1 h2 => by rw [up_ne h2, up_ne h1]
  have ek : ∀ k u, k ≠ 3 → upK C 3 v (w3 (C 3 v 4) y z) k u = C k u := fun k u hk => upK_k hk
  refine ⟨?_, fun u hu => ?_, fun l hl => ?_⟩
  · unfold PicO
    rw [ek 0 0 (by decide), ek 1 0 (by decide), eG 0 (by omega) (by omega), eG 1 (by omega) (by omega), eG 2 (by omega) (by omega), eG 3 (by omega) (by omega), eG 4 (by omega) (by omega), eG 5 (by omega) (by omega)]
    refine ⟨o0, o1, o2, o4, o5, o3, fun i hi => ?_⟩
    rw [eG _ (by omega) (by omega)]; exact o6 i hi
  · obtain ⟨a0, a1, a2, a3, a4, a5, a6⟩ := hN u hu
    have hru := hr u hu
    unfold PicN
    rw [ek 4 u (by decide), ek 5 u (by decide), ek 6 u (by decide), ek 7 u (by decide), ek 8 u (by decide), ek 10 u (by decide), ek 11 u (by decide), eG (14 + u) (by omega) (by omega), eG (44 + u) (by omega) (by omega), eG 0 (by omega) (by omega)]
    have A4 : SpOK (C 5 u) (C 6 u) (vecs (up (up g (24 + v) y) (34 + v) z) u) (g (44 + u)) (g 0) := a4.congr (fun i hi => eG _ (by omega) (by omega))
    have A5 : ∀ i, i < g (44 + u) → C 10 u i = vecs (up (up g (24 + v) y) (34 + v) z) u i ∧ C 11 u i = pays (up (up g (24 + v) y) (34 + v) z) u i := fun i hi => by
      rw [show vecs (up (up g (24 + v) y) (34 + v) z) u i = vecs g u i from eG _ (by omega) (by omega), show pays (up (up g (24 + v) y) (34 + v) z) u i = pays g u i from eG _ (by omega) (by omega)]
      exact a5 i hi
    have A6 : SpG (snt (up (up g (24 + v) y) (34 + v) z) u) (C 7 u 2) (C 8 u) := a6.congr (fun w => by unfold snt; rw [eG _ (by omega) (by omega)])
    by_cases zz : u = v
    · subst zz
      rw [upK_same, up_same, up_ne (by omega), up_same]
      exact ⟨a0, rfl, rfl, a3, A4, A5, A6⟩
    · rw [upK_v zz, eG (24 + u) (by omega) (by omega), eG (34 + u) (by omega) (by omega)]
      exact ⟨a0, a1, a2, a3, A4, A5, A6⟩
  · have X := hL l hl
    have el : lostN (up (up g (24 + v) y) (34 + v) z) l = lostN g l := by rw [lostN_los, lostN_los, eG _ (by omega) (by omega), eG _ (by omega) (by omega)]
    unfold PicL at X ⊢
    rw [ek 12 l (by decide), ek 13 l (by decide), el, eG (214 + 11 * l) (by omega) (by omega), eG (215 + 11 * l) (by omega) (by omega), eG (216 + 11 * l) (by omega) (by omega), eG (217 + 11 * l) (by omega) (by omega), eG (222 + 11 * l) (by omega) (by omega), eG (223 + 11 * l) (by omega) (by omega), eG (224 + 11 * l) (by omega) (by omega)]
    refine ⟨X.1, X.2.1, fun f hf => ?_, X.2.2.2⟩
    rw [eG _ (by omega) (by omega)]
    exact X.2.2.1 f hf
theorem c_spotCheck (H : Pic g C) (hw : WF g) {v p : Nat} (hv : v < 10) (h0 : g (34 + v) = 0) : ∃ C', run 34 0 [.ref (x + 1), .int (nI v), .int (nI p), .null] [] (NH h (x + 1) C) = some (some (.int (bI (susN g v p))), NH h (x + 1) C') ∧ Pic (gChk g v p) C' := by
  unfold gChk
  cases c : susN g v p
  · refine ⟨C, ?_, by simpa using H⟩
    simp (disch := omega) only [s34_0, s34_1, s34_4, s34_5, s34_6, s34_7, s34_8, s34_9, s34_12, s34_15, s34_16, gf0, gf1, gf2, gf3, gf4, gf5, gf6, gf7, gf8, gf9, gf10, gf11, gf12, gf13, gf14, pu0, pu1, pu2, pu3, pu4, pu5, pu6, pu7, pu8, pu9, pu10, pu11, pu12, pu13, pu14, rc_at, bK_some, Option.toList_some, Option.toList_none, List.cons_append, List.nil_append, NH_0, NH_2, al_nd, NH_n hv, c_wh H hw hv, c, bI_f, z0_0, if_true, true_or]
  · have X := H.2.1 v hv
    simp only [if_true]
    unfold gMark
    refine ⟨_, ?_, Pic_mark H hw.r8 hv _ _⟩
    have o5 := H.1.2.2.2.2.1
    have ek : ∀ f, upK C 3 v f 0 0 = C 0 0 := fun f => upK_k (by decide)
    by_cases d : nI (g (24 + v) + 1) < nI (g 5)
    · simp (disch := omega) only [s34_0, s34_1, s34_4, s34_5, s34_6, s34_7, s34_8, s34_9, s34_12, s34_15, s34_16, s34_17, s34_18, s34_19, s34_22, s34_23, s34_24, s34_27, s34_28, s34_31, s34_32, s34_35, s34_38, s34_39, s34_40, s34_43, s34_44, gf0, gf1, gf2, gf3, gf4, gf5, gf6, gf7, gf8, gf9, gf10, gf11, gf12, gf13, gf14, pu0, pu1, pu2, pu3, pu4, pu5, pu6, pu7, pu8, pu9, pu10, pu11, pu12, pu13, pu14, rc_at, bK_some, Option.toList_some, Option.toList_none, List.cons_append, List.nil_append, NH_0, NH_2, al_nd, NH_n hv, NH_sn hv, c_wh H hw hv, c, bI_t, z1_0, if_false, X.2.1, X.2.2.1, nI_adds, upK_same, ek, o5, w3_4, w3_5, w3_6, d, if_true, z11, or_true, h0]
    · simp (disch := omega) only [s34_0, s34_1, s34_4, s34_5, s34_6, s34_7, s34_8, s34_9, s34_12, s34_15, s34_16, s34_17, s34_18, s34_19, s34_22, s34_23, s34_24, s34_27, s34_28, s34_31, s34_32, s34_35, s34_38, s34_39, s34_40, s34_43, s34_44, gf0, gf1, gf2, gf3, gf4, gf5, gf6, gf7, gf8, gf9, gf10, gf11, gf12, gf13, gf14, pu0, pu1, pu2, pu3, pu4, pu5, pu6, pu7, pu8, pu9, pu10, pu11, pu12, pu13, pu14, rc_at, bK_some, Option.toList_some, Option.toList_none, List.cons_append, List.nil_append, NH_0, NH_2, al_nd, NH_n hv, NH_sn hv, c_wh H hw hv, c, bI_t, z1_0, if_false, X.2.1, X.2.2.1, nI_adds, upK_same, upK_upK, ek, o5, w3_4, w3_5, w3_6, d, pf36_1, z11, or_true, if_true]
theorem c_check (hx : CH h x n) (H : Pic g C) (hw : WF g) (v p : Int32) : ∃ C', run 90 0 [.ref x, .int v, .int p] [] (NH h (x + 1) C) = some (some (.int (oCheck g v p).1), NH h (x + 1) C') ∧ Pic (oCheck g v p).2 C' := by
  have h1 := hw.2.1
  have hp8 := pow_8 hw.1.2
  have hxx := hx.at
  unfold oCheck
  cases c : relN g v
  · refine ⟨C, ?_, by simpa using H⟩
    simp only [s90_0, s90_1, s90_4, s90_5, s90_8, s90_11, s90_12, s90_15, s90_16, s90_19, s90_22, s90_23, gf0, gf1, gf2, gf3, gf4, gf5, gf6, gf7, gf8, gf9, gf10, gf11, gf12, gf13, gf14, pu0, pu1, pu2, pu3, pu4, pu5, pu6, pu7, pu8, pu9, pu10, pu11, pu12, pu13, pu14, rc_at, bK_some, Option.toList_some, Option.toList_none, List.cons_append, List.nil_append, hxx, NH_0, c_rel H hw, c, bI_0, if_true, Bool.false_eq_true, false_and, if_false]
  · by_cases d : inI p (nI 1) (nI (2 ^ g 0 - 1)) = true
    · obtain ⟨j, j0, j1, rfl, j3⟩ := relN_t hw c
      obtain ⟨k, k1, k2, rfl, k3⟩ := inI_t (by omega) (by decide) d
      have hj : j < 10 := by omega
      have X := H.2.1 j hj
      have h34 := (hw.2.2.2.2.2.2.1 j hj).2.1
      simp only [d, and_self, if_true, j3, k3]
      by_cases z : g (34 + j) = 1
      · refine ⟨C, ?_, by simpa [z] using H⟩
        simp (disch := omega) only [s90_0, s90_1, s90_4, s90_5, s90_8, s90_11, s90_12, s90_15, s90_16, s90_19, s90_22, s90_23, s90_24, s90_25, s90_28, s90_31, s90_32, s90_33, s90_36, s90_39, s90_41, gf0, gf1, gf2, gf3, gf4, gf5, gf6, gf7, gf8, gf9, gf10, gf11, gf12, gf13, gf14, pu0, pu1, pu2, pu3, pu4, pu5, pu6, pu7, pu8, pu9, pu10, pu11, pu12, pu13, pu14, rc_at, bK_some, Option.toList_some, Option.toList_none, List.cons_append, List.nil_append, hxx, NH_0, NH_2, c_rel H hw, c_proj H hw, c, d, bI_0, if_true, Bool.true_eq_false, if_false, al_nd, NH_n hj, X.2.2.1, z, z1_0]
      · have z0 : g (34 + j) = 0 := by omega
        obtain ⟨C', r1, p1⟩ := c_spotCheck (h := h) (x := x) (p := k) H hw hj z0
        refine ⟨C', ?_, by simpa [z] using p1⟩
        have z1 : (0 = 1) = False := by simp
        simp (disch := omega) only [s90_0, s90_1, s90_4, s90_5, s90_8, s90_11, s90_12, s90_15, s90_16, s90_19, s90_22, s90_23, s90_24, s90_25, s90_28, s90_31, s90_32, s90_33, s90_36, s90_39, s90_41, s90_42, s90_43, s90_46, s90_47, s90_48, s90_51, s90_52, s90_53, s90_56, s90_59, s90_60, s90_61, s90_64, gf0, gf1, gf2, gf3, gf4, gf5, gf6, gf7, gf8, gf9, gf10, gf11, gf12, gf13, gf14, pu0, pu1, pu2, pu3, pu4, pu5, pu6, pu7, pu8, pu9, pu10, pu11, pu12, pu13, pu14, rc_at, bK_some, Option.toList_some, Option.toList_none, List.cons_append, List.nil_append, hxx, NH_0, NH_2, c_rel H hw, c_proj H hw, c, d, bI_0, if_true, Bool.true_eq_false, if_false, al_nd, NH_n hj, X.2.2.1, z0, z0_0, r1, (p1.2.1 j hj).2.1, z1]
    · have d' : inI p (nI 1) (nI (2 ^ g 0 - 1)) = false := by simpa using d
      refine ⟨C, ?_, by simpa [d'] using H⟩
      simp only [s90_0, s90_1, s90_4, s90_5, s90_8, s90_11, s90_12, s90_15, s90_16, s90_19, s90_22, s90_23, gf0, gf1, gf2, gf3, gf4, gf5, gf6, gf7, gf8, gf9, gf10, gf11, gf12, gf13, gf14, pu0, pu1, pu2, pu3, pu4, pu5, pu6, pu7, pu8, pu9, pu10, pu11, pu12, pu13, pu14, rc_at, bK_some, Option.toList_some, Option.toList_none, List.cons_append, List.nil_append, hxx, NH_0, c_rel H hw, c_proj H hw, c, d', bI_0, if_true, Bool.true_eq_false, Bool.false_eq_true, if_false, and_false]
end SU
