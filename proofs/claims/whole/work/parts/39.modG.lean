/-! rounds: what is sent, what arrives -/
theorem loop_invJ {σ τ : Type} (R : Nat → σ → τ → Option aR) (F : Nat → σ → σ) (I : Nat → σ → Prop) (n : Nat) (hs : ∀ i s w, i < n → I i s → (∃ w', R i s w = R (i + 1) (F i s) w') ∧ I (i + 1) (F i s)) (s : σ) (w : τ) (h0 : I 0 s) : (∃ w', R 0 s w = R n (foldN F n s) w') ∧ I n (foldN F n s) := by
  have key : ∀ m, m ≤ n → (∃ w', R 0 s w = R m (foldN F m s) w') ∧ I m (foldN F m s) := by
    intro m
    induction m with
    | zero => intro _; exact ⟨⟨w, rfl⟩, h0⟩
    | succ m ih =>
      intro hm
      obtain ⟨⟨w1, h1⟩, h2⟩ := ih (by omega)
      obtain ⟨⟨w2, h3⟩, h4⟩ := hs m (foldN F m s) w1 (by omega) h2
      exact ⟨⟨w2, h1.trans h3⟩, h4⟩
  exact key n (Nat.le_refl n)
theorem WF.mono {g g' : Nat → Nat} (hw : WF g) (h1 : ∀ j, j < 214 → j ≠ 3 → j ≠ 4 → (j < 24 ∨ 34 ≤ j) → g' j = g j) (h2 : ∀ l, l < 20 → g' (214 + 11 * l) = g (214 + 11 * l) ∧ g' (215 + 11 * l) = g (215 + 11 * l) ∧ g' (216 + 11 * l) = g (216 + 11 * l)) (h3 : g' 4 < 2 ^ 31) (h4 : ∀ j, j < 2560 → g' (434 + j) ≤ 1) : WF g' := by
  obtain ⟨w1, w2, w3, w4, w5, w6, w7, w8, w9, w10⟩ := hw
  have e0 := h1 0 (by omega) (by omega) (by omega) (by omega)
  have e1 := h1 1 (by omega) (by omega) (by omega) (by omega)
  have e2 := h1 2 (by omega) (by omega) (by omega) (by omega)
  have e5 := h1 5 (by omega) (by omega) (by omega) (by omega)
  have e14 := h1 14 (by omega) (by omega) (by omega) (by omega)
  refine ⟨by rw [e0]; exact w1, by rw [e1]; exact w2, by rw [e2]; exact w3, fun l hl => ?_, h3, by rw [e5]; exact w6, fun v hv => ?_, fun v i hv hi => ?_, h4, by rw [e14]; exact w10⟩
  · rw [e2] at hl
    obtain ⟨q1, q2, q3⟩ := h2 l (by omega)
    rw [q1, q2, q3, e1]
    exact w4 l hl
  · rw [h1 (14 + v) (by omega) (by omega) (by omega) (by omega), h1 (34 + v) (by omega) (by omega) (by omega) (by omega), h1 (44 + v) (by omega) (by omega) (by omega) (by omega), e0]
    exact w7 v hv
  · rw [h1 (44 + v) (by omega) (by omega) (by omega) (by omega)] at hi
    have := (w7 v hv).2.2
    rw [h1 (54 + 16 * v + 2 * i) (by omega) (by omega) (by omega) (by omega), e0]
    exact w8 v i hv hi
theorem WF.vlt {g : Nat → Nat} (hw : WF g) {v i : Nat} (hv : v < 10) (hi : i < g (44 + v)) : vecs g v i < 2 ^ 8 :=
  Nat.lt_of_lt_of_le (hw.2.2.2.2.2.2.2.1 v i hv hi) (Nat.pow_le_pow_right (by decide) hw.1.2)
theorem WF.rnd {g : Nat → Nat} (hw : WF g) : WF (gRnd g) := by
  refine hw.mono (fun j h1 h2 h3 _ => up_ne h3) (fun l hl => ?_) (by simp only [gRnd, up_same]; exact rndS_lt g) (fun j hj => ?_)
  · simp only [gRnd]
    rw [up_ne (by omega), up_ne (by omega), up_ne (by omega)]
    exact ⟨rfl, rfl, rfl⟩
  · simp only [gRnd]
    rw [up_ne (by omega)]
    exact hw.2.2.2.2.2.2.2.2.1 j hj
theorem gSend_ne {g : Nat → Nat} {l v a j : Nat} (h1 : j ≠ 217 + 11 * l) (h2 : j ≠ 222 + 11 * l) (h3 : j ≠ 223 + 11 * l) (h4 : j ≠ 434 + 256 * v + a) : gSend g l v a j = g j := by
  unfold gSend
  rw [up_ne h4, up_ne h3, up_ne h2, up_ne h1]
theorem WF.send {g : Nat → Nat} (hw : WF g) {l v a : Nat} (hl : l < 20) (hv : v < 10) (ha : a < 256) : WF (gSend g l v a) := by
  refine hw.mono (fun j h1 h2 h3 _ => gSend_ne (by omega) (by omega) (by omega) (by omega)) (fun l' hl' => ?_) ?_ (fun j hj => ?_)
  · exact ⟨gSend_ne (by omega) (by omega) (by omega) (by omega), gSend_ne (by omega) (by omega) (by omega) (by omega), gSend_ne (by omega) (by omega) (by omega) (by omega)⟩
  · rw [gSend_ne (by omega) (by omega) (by omega) (by omega)]
    exact hw.2.2.2.2.1
  · unfold gSend
    by_cases hj2 : 434 + j = 434 + 256 * v + a
    · rw [hj2, up_same]; exact Nat.le_refl 1
    · rw [up_ne hj2, up_ne (by omega), up_ne (by omega), up_ne (by omega)]
      exact hw.2.2.2.2.2.2.2.2.1 j hj
/-- the state of a round: the row m, what is sent, with its vector and payload -/
abbrev RS : Type := (Nat → Nat) × (Nat → Nat) × (Nat → Nat) × (Nat → Nat)
def amg (g : Nat → Nat) (v : Nat) : Nat := if g (14 + v) = 2 then (g (44 + v) + 1) / 2 else g (44 + v)
def rSet (g : Nat → Nat) (v : Nat) : Nat := if g (14 + v) = 1 then 1 else rndV g (2 ^ amg g v - 1) + 1
def rG (g : Nat → Nat) (v : Nat) : Nat → Nat := if g (14 + v) = 1 then g else gRnd g
def rSend (v l : Nat) (s : RS) : RS := if s.1 (214 + 11 * l) = v ∧ opN s.1 l = true ∧ s.1 (14 + v) ≠ 4 then (gSend (rG s.1 v) l v (sVec s.1 v (rSet s.1 v)), up s.2.1 l 1, up s.2.2.1 l (sVec s.1 v (rSet s.1 v)), up s.2.2.2 l (sPay s.1 v (rSet s.1 v))) else s
def rFrom (v : Nat) (s : RS) : RS := foldN (rSend v) (s.1 2) s
def MS (h : aH) (x : Nat) (s : RS) : aH := MR h x s.1 s.2.1 s.2.2.1 s.2.2.2
theorem sVec_rnd (g : Nat → Nat) (v s : Nat) : sVec (gRnd g) v s = sVec g v s := by
  unfold sVec
  have e : gRnd g (44 + v) = g (44 + v) := up_ne (by omega)
  rw [e]
  exact xsN_congr fun i _ => up_ne (by omega)
theorem sPay_rnd (g : Nat → Nat) (v s : Nat) : sPay (gRnd g) v s = sPay g v s := by
  unfold sPay altN
  have e : gRnd g (44 + v) = g (44 + v) := up_ne (by omega)
  have e2 : gRnd g (14 + v) = g (14 + v) := up_ne (by omega)
  rw [e, e2]
  congr 1
  exact xsN_congr fun i _ => up_ne (by omega)
theorem sVec_lt {g : Nat → Nat} (hw : WF g) {v s : Nat} (hv : v < 10) : sVec g v s < 256 := xsN_lt (k := 8) fun i hi => hw.vlt hv hi
theorem amg_le {g : Nat → Nat} {v : Nat} (hr : g (44 + v) ≤ 8) (h0 : 0 < g (44 + v)) : 0 < amg g v ∧ amg g v ≤ 8 := by
  unfold amg
  split <;> omega
theorem pow_8 {n : Nat} (h : n ≤ 8) : 2 ^ n ≤ 256 := (Nat.pow_le_pow_right (by decide) h : 2 ^ n ≤ 2 ^ 8)
theorem rSend_keep {v l : Nat} {s : RS} (hl : l < 20) (hv : v < 10) (hw : WF s.1) : WF (rSend v l s).1 ∧ (rSend v l s).1 2 = s.1 2 ∧ (rSend v l s).1 1 = s.1 1 ∧ (∀ u, u < 10 → (rSend v l s).1 (44 + u) = s.1 (44 + u)) := by
  unfold rSend
  split
  · have ha : sVec s.1 v (rSet s.1 v) < 256 := sVec_lt hw hv
    have e : ∀ j, j < 214 → j ≠ 4 → gSend (rG s.1 v) l v (sVec s.1 v (rSet s.1 v)) j = s.1 j := by
      intro j hj h4
      rw [gSend_ne (by omega) (by omega) (by omega) (by omega)]
      unfold rG gRnd
      split
      · rfl
      · exact up_ne h4
    refine ⟨WF.send ?_ hl hv ha, e 2 (by omega) (by omega), e 1 (by omega) (by omega), fun u hu => e _ (by omega) (by omega)⟩
    unfold rG
    split
    · exact hw
    · exact hw.rnd
  · exact ⟨hw, rfl, rfl, fun _ _ => rfl⟩
section MG
variable {h : aH} {x : Nat} {tl : Value} {rest : List Value}
theorem m_sendsFrom (H : MX h x tl rest) {v : Nat} (hv : v < 10) (s : RS) (hw : WF s.1) (h0 : 0 < s.1 (44 + v)) : run 133 0 [.ref x, .int (nI v), .null, .null, .null] [] (MS h x s) = some (none, MS h x (rFrom v s)) ∧ WF (rFrom v s).1 ∧ (rFrom v s).1 2 = s.1 2 ∧ (rFrom v s).1 1 = s.1 1 ∧ (∀ u, u < 10 → (rFrom v s).1 (44 + u) = s.1 (44 + u)) := by
  have hxx : ∀ g is sv sp, hget (MR h x g is sv sp) x = some (.inr (7, .ref (x + 1) :: .ref (x + 2) :: .ref (x + 3) :: .ref (x + 4) :: tl :: .ref (x + 5) :: .ref (x + 6) :: .ref (x + 7) :: .ref (x + 8) :: rest)) := fun _ _ _ _ => by rw [MR_x]; exact H
  have hM : ∀ g is sv sp, MO (MR h x g is sv sp) x _ g := fun _ _ _ _ => MR_MO H
  obtain ⟨⟨w', L⟩, hI⟩ := loop_invJ (fun i (s : RS) (w : Value × Value) => run 133 2 [.ref x, .int (nI v), .int (nI i), w.1, w.2] [] (MS h x s)) (rSend v) (fun i s' => WF s'.1 ∧ s'.1 2 = s.1 2 ∧ s'.1 1 = s.1 1 ∧ ∀ u, u < 10 → s'.1 (44 + u) = s.1 (44 + u)) (s.1 2) (by
    intro l s' w hl hI
    obtain ⟨hw', h2, h1, hr⟩ := hI
    have h20 := hw.2.2.1
    have hl2 : l < 20 := Nat.lt_of_lt_of_le hl hw.2.2.1
    have kp := rSend_keep hl2 hv hw'
    refine ⟨?_, kp.1, kp.2.1.trans h2, kp.2.2.1.trans h1, fun u hu => (kp.2.2.2 u hu).trans (hr u hu)⟩
    have hlk := hw'.2.2.2.1 l (by rw [h2]; exact hl)
    have hn := hw'.2.1
    have hbv := hw'.2.2.2.2.2.2.1 v hv
    have hf := hw'.2.2.2.2.2.2.1 (s'.1 (214 + 11 * l)) (by omega)
    have ht := hw'.2.2.2.2.2.2.1 (s'.1 (215 + 11 * l)) (by omega)
    have hk := hw'.1
    have hr0 := hr v hv
    dsimp only [MS]
    rw [s133_2]
    simp (disch := omega) only [s133_3, s133_4, s133_7, s133_8, s133_9, s133_12, s133_13, s133_14, s133_15, s133_18, s133_19, gf0, gf1, gf2, gf3, gf4, gf5, gf6, gf7, gf8, gf9, gf10, gf11, gf12, gf13, gf14, pu0, pu1, pu2, pu3, pu4, pu5, pu6, pu7, pu8, pu9, pu10, pu11, pu12, pu13, pu14, rc_at, bK_some, Option.toList_some, Option.toList_none, List.cons_append, List.nil_append, hxx, MR_1, al_m, h2, nI_lts, hl, if_true, m_of (hM _ _ _ _), Nat.add_zero, nI_eqs]
    unfold rSend
    by_cases c1 : s'.1 (214 + 11 * l) = v
    · rw [if_pos c1]
      simp (disch := omega) only [s133_22, s133_23, s133_24, s133_27, gf0, gf1, gf2, gf3, gf4, gf5, gf6, gf7, gf8, gf9, gf10, gf11, gf12, gf13, gf14, pu0, pu1, pu2, pu3, pu4, pu5, pu6, pu7, pu8, pu9, pu10, pu11, pu12, pu13, pu14, rc_at, bK_some, Option.toList_some, Option.toList_none, List.cons_append, List.nil_append, hxx, m_isOpen (hM _ _ _ _) hl2, bI_0]
      cases c2 : opN s'.1 l
      · simp only [if_true, s133_112, s133_115, nI_adds, c1, c2, Bool.false_eq_true, false_and, and_false, if_false]
        exact ⟨w, rfl⟩
      · simp (disch := omega) only [Bool.true_eq_false, if_false, s133_30, s133_31, s133_34, s133_36, s133_37, s133_38, s133_39, s133_40, gf0, gf1, gf2, gf3, gf4, gf5, gf6, gf7, gf8, gf9, gf10, gf11, gf12, gf13, gf14, pu0, pu1, pu2, pu3, pu4, pu5, pu6, pu7, pu8, pu9, pu10, pu11, pu12, pu13, pu14, rc_at, bK_some, Option.toList_some, Option.toList_none, List.cons_append, List.nil_append, hxx, MR_1, nI_adds, al_m, nI_eqs]
        by_cases c3 : s'.1 (14 + v) = 4
        · simp only [c3, if_true, s133_112, s133_115, nI_adds, c1, c2, ne_eq, not_true_eq_false, and_false, if_false]
          exact ⟨w, rfl⟩
        · rw [if_neg c3, if_pos ⟨c1, trivial, c3⟩]
          have hv8 : ∀ i, i < s'.1 (44 + v) → vecs s'.1 v i < 2 ^ 8 := fun i hi => hw'.vlt hv hi
          have hv8r : ∀ i, i < gRnd s'.1 (44 + v) → vecs (gRnd s'.1) v i < 2 ^ 8 := fun i hi => hw'.rnd.vlt hv hi
          have er : gRnd s'.1 (44 + v) = s'.1 (44 + v) := up_ne (by omega)
          have eb : gRnd s'.1 (14 + v) = s'.1 (14 + v) := up_ne (by omega)
          have ham := amg_le (g := s'.1) (v := v) (by omega) (by omega)
          have hpw := pow_8 ham.2
          have hpw1 : 2 ≤ 2 ^ amg s'.1 v := by
            have : 2 ^ 1 ≤ 2 ^ amg s'.1 v := Nat.pow_le_pow_right (by decide) ham.1
            exact this
          have hrv : rndV s'.1 (2 ^ amg s'.1 v - 1) < 2 ^ amg s'.1 v - 1 := Nat.mod_lt _ (by omega)
          refine ⟨(.int (nI (s'.1 (44 + v))), .int (nI (amg s'.1 v))), ?_⟩
          have st1 : ∀ a b, run 133 43 [.ref x, .int (nI v), .int (nI l), a, b] [] (MR h x s'.1 s'.2.1 s'.2.2.1 s'.2.2.2) = run 133 77 [.ref x, .int (nI v), .int (nI l), .int (nI (s'.1 (44 + v))), .int (nI (amg s'.1 v))] [] (MR h x s'.1 s'.2.1 s'.2.2.1 s'.2.2.2) := by
            intro a b
            simp (disch := omega) only [s133_43, s133_44, s133_47, s133_49, s133_50, s133_51, s133_52, s133_53, s133_54, s133_57, s133_59, s133_60, s133_61, s133_62, s133_63, s133_66, s133_67, s133_68, s133_69, s133_70, s133_71, s133_74, s133_75, gf0, gf1, gf2, gf3, gf4, gf5, gf6, gf7, gf8, gf9, gf10, gf11, gf12, gf13, gf14, pu0, pu1, pu2, pu3, pu4, pu5, pu6, pu7, pu8, pu9, pu10, pu11, pu12, pu13, pu14, rc_at, bK_some, Option.toList_some, Option.toList_none, List.cons_append, List.nil_append, hxx, MR_1, nI_adds, al_m, nI_eqs]
            unfold amg
            by_cases c4 : s'.1 (14 + v) = 2
            · simp (disch := omega) only [c4, if_true, nI_eq0, show (2 : Nat) ≠ 0 from by decide, if_false, nI_div]
            · simp only [c4, if_false]
          rw [st1]
          by_cases c5 : s'.1 (14 + v) = 1
          · have es : rSet s'.1 v = 1 := by simp [rSet, c5]
            have eg : rG s'.1 v = s'.1 := by simp [rG, c5]
            rw [es, eg]
            have S := m_sends (g := s'.1) (is := s'.2.1) (sv := s'.2.2.1) (sp := s'.2.2.2) (set := 1) H hl2 hv (by omega) (by omega) hv8 (by decide)
            simp (disch := omega) only [s133_77, s133_78, s133_79, s133_80, s133_81, s133_84, s133_86, s133_87, s133_88, s133_89, s133_90, s133_93, s133_94, s133_97, s133_98, s133_99, s133_101, s133_102, s133_103, s133_104, s133_107, s133_108, s133_109, s133_112, s133_115, gf0, gf1, gf2, gf3, gf4, gf5, gf6, gf7, gf8, gf9, gf10, gf11, gf12, gf13, gf14, pu0, pu1, pu2, pu3, pu4, pu5, pu6, pu7, pu8, pu9, pu10, pu11, pu12, pu13, pu14, rc_at, bK_some, Option.toList_some, Option.toList_none, List.cons_append, List.nil_append, hxx, MR_1, nI_adds, al_m, nI_eqs, c5, if_true, S]
          · have es : rSet s'.1 v = rndV s'.1 (2 ^ amg s'.1 v - 1) + 1 := by simp [rSet, c5]
            have eg : rG s'.1 v = gRnd s'.1 := by simp [rG, c5]
            rw [es, eg]
            have hrm := m_random (g := s'.1) (b := 2 ^ amg s'.1 v - 1) (hM s'.1 s'.2.1 s'.2.2.1 s'.2.2.2) hw'.2.2.2.2.1 (by omega) (by omega)
            have S := m_sends (g := gRnd s'.1) (is := s'.2.1) (sv := s'.2.2.1) (sp := s'.2.2.2) (set := rndV s'.1 (2 ^ amg s'.1 v - 1) + 1) H hl2 hv (by rw [eb]; omega) (by rw [er]; omega) hv8r (by omega)
            rw [sVec_rnd, sPay_rnd] at S
            simp (disch := omega) only [s133_77, s133_78, s133_79, s133_80, s133_81, s133_84, s133_86, s133_87, s133_88, s133_89, s133_90, s133_93, s133_94, s133_97, s133_98, s133_99, s133_101, s133_102, s133_103, s133_104, s133_107, s133_108, s133_109, s133_112, s133_115, gf0, gf1, gf2, gf3, gf4, gf5, gf6, gf7, gf8, gf9, gf10, gf11, gf12, gf13, gf14, pu0, pu1, pu2, pu3, pu4, pu5, pu6, pu7, pu8, pu9, pu10, pu11, pu12, pu13, pu14, rc_at, bK_some, Option.toList_some, Option.toList_none, List.cons_append, List.nil_append, hxx, MR_1, MR_s1, nI_adds, al_m, nI_eqs, c5, if_false, nI_shl1, nI_sub, hrm, S]
    · simp only [c1, if_false, s133_112, s133_115, nI_adds, false_and]
      exact ⟨w, rfl⟩) s (.null, .null) ⟨hw, rfl, rfl, fun _ _ => rfl⟩
  refine ⟨?_, hI⟩
  simp only [s133_0, s133_1]
  dsimp only at L
  have hI2 : (foldN (rSend v) (s.1 2) s).1 2 = s.1 2 := hI.2.1
  have h20 := hw.2.2.1
  rw [L]
  dsimp only [MS]
  rw [s133_2]
  simp (disch := omega) only [s133_3, s133_4, s133_7, s133_8, s133_9, s133_118, gf0, gf1, gf2, gf3, gf4, gf5, gf6, gf7, gf8, gf9, gf10, gf11, gf12, gf13, gf14, pu0, pu1, pu2, pu3, pu4, pu5, pu6, pu7, pu8, pu9, pu10, pu11, pu12, pu13, pu14, rc_at, bK_some, Option.toList_some, Option.toList_none, List.cons_append, List.nil_append, hxx, MR_1, al_m, hI2, nI_lts, Nat.lt_irrefl, if_false]
  rfl
end MG
