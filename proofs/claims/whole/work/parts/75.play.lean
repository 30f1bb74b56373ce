/-! a round -/
def Pic (g : Nat → Nat) (C : nC) : Prop := PicR g (fun _ => false) (fun _ => 0) C
theorem PicR_off {g : Nat → Nat} {pd : Nat → Bool} {sp sp' : Nat → Nat} {C : nC} (H : PicR g pd sp C) (hp : ∀ l, l < 20 → pd l = false) : PicR g (fun _ => false) sp' C := by
  refine ⟨H.1, H.2.1, fun l hl => ?_⟩
  obtain ⟨x1, x2, x3, x4, x5⟩ := H.2.2 l hl
  rw [hp l hl] at x4
  refine ⟨x1, x2, fun f hf => ?_, x4, fun z => absurd (show false = true from z) (by decide)⟩
  have := x3 f hf
  rw [hp l hl] at this
  exact this
theorem rArr_222 {l u : Nat} {q : Nat × RS} (hv : q.2.1 (215 + 11 * l) < 10) (hr : q.2.1 (44 + q.2.1 (215 + 11 * l)) ≤ 8) : (rArr l q).2.1 (222 + 11 * u) = q.2.1 (222 + 11 * u) := by
  have hF := arrF_le q.2.1 l (q.2.2.2.1 l) (q.2.2.2.2 l)
  have hG : arrG q.2.1 l (q.2.2.2.1 l) (q.2.2.2.2 l) (222 + 11 * u) = q.2.1 (222 + 11 * u) := by
    have e : gRecv q.2.1 l (q.2.2.2.1 l) (44 + q.2.1 (215 + 11 * l)) = q.2.1 (44 + q.2.1 (215 + 11 * l)) := up_ne (by omega)
    unfold arrG
    split
    · rfl
    · cases sfN q.2.1 (q.2.1 (215 + 11 * l)) (q.2.2.2.1 l) with
      | none =>
        dsimp only
        unfold gAcc
        rw [e, up_ne (by omega), up_ne (by omega), up_ne (by omega)]
        exact up_ne (by omega)
      | some _ => exact up_ne (by omega)
  unfold rArr
  split
  · rfl
  · show gFate _ _ _ _ = _
    unfold gFate
    rw [up_ne (by omega)]
    exact hG
theorem rArr_rest {l : Nat} {q : Nat × RS} : (rArr l q).2.2 = q.2.2 := by
  unfold rArr
  split <;> rfl
theorem PicR_round {g : Nat → Nat} {pd : Nat → Bool} {sp : Nat → Nat} {C : nC} (x : Nat) (H : PicR g pd sp C) (hr : ∀ u, u < 10 → g (44 + u) ≤ 8) : PicR (up g 3 x) pd sp (upK C 0 0 (w9 (C 0 0 0) (C 0 0 2) (C 0 0 4) (C 0 0 6) (C 0 0 7) x)) := by
  obtain ⟨⟨o0, o1, o2, o4, o5, o3, o6⟩, hN, hL⟩ := H
  have eG : ∀ j, j ≠ 3 → up g 3 x j = g j := fun j hj => up_ne hj
  refine ⟨⟨?_, ?_, ?_, ?_, ?_, ?_, ?_⟩, ?_, ?_⟩
  · rw [upK_same, eG _ (by decide)]; exact o0
  · rw [upK_same, eG _ (by decide)]; exact o1
  · rw [upK_same, eG _ (by decide)]; exact o2
  · rw [upK_same, eG _ (by decide)]; exact o4
  · rw [upK_same, eG _ (by decide)]; exact o5
  · rw [upK_same, up_same]; rfl
  · intro i hi
    rw [upK_k (by decide), eG _ (by omega)]; exact o6 i hi
  · intro u hu
    refine (hN u hu).same (hr u hu) hu (fun k h3 _ _ _ _ => upK_k (by omega)) (fun j _ _ j3 => eG j j3) ?_
    rw [upK_k (by decide), upK_k (by decide)]
    exact (hN u hu).2.2.2.2.2.2.congr (fun w => by unfold snt; rw [eG _ (by omega)])
  · intro l hl
    obtain ⟨⟨a0, a1, a2⟩, ⟨b4, b5, b7, b8⟩, hf, b9, b6⟩ := hL l hl
    have el : lostN (up g 3 x) l = lostN g l := by rw [lostN_los, lostN_los, eG _ (by omega), eG _ (by omega)]
    unfold PicL
    rw [upK_k (by decide), upK_k (by decide), el]
    refine ⟨⟨by rw [eG _ (by omega)]; exact a0, by rw [eG _ (by omega)]; exact a1, by rw [eG _ (by omega)]; exact a2⟩, ⟨by rw [eG _ (by omega)]; exact b4, by rw [eG _ (by omega)]; exact b5, by rw [eG _ (by omega)]; exact b7, by rw [eG _ (by omega)]; exact b8⟩, ?_, b9, b6⟩
    intro f hf4
    rw [eG _ (by omega)]
    exact hf f hf4
theorem rSend_2 {v l : Nat} {s : RS} : (rSend v l s).1 2 = s.1 2 := by
  unfold rSend
  split
  · unfold gSend
    dsimp only
    rw [up_ne (by omega), up_ne (by omega), up_ne (by omega), up_ne (by omega)]
    unfold rG
    split
    · rfl
    · exact up_ne (by omega)
  · rfl
theorem fold_is {v : Nat} {s : RS} : ∀ n, (foldN (rSend v) n s).1 2 = s.1 2 ∧ ∀ l, (foldN (rSend v) n s).2.1 l ≠ 0 → s.2.1 l ≠ 0 ∨ l < n := by
  intro n
  induction n with
  | zero => exact ⟨rfl, fun l z => Or.inl z⟩
  | succ n ih =>
    refine ⟨rSend_2.trans ih.1, fun l z => ?_⟩
    rcases rSend_is l z with z | ⟨z1, _⟩
    · rcases ih.2 l z with z | z
      · exact Or.inl z
      · exact Or.inr (by omega)
    · exact Or.inr (by omega)
theorem sent_is {s : RS} (h : ∀ l, s.2.1 l = 0) : ∀ m, (foldN rAll m s).1 2 = s.1 2 ∧ ∀ l, (foldN rAll m s).2.1 l ≠ 0 → l < s.1 2 := by
  intro m
  induction m with
  | zero => exact ⟨rfl, fun l z => absurd (h l) z⟩
  | succ m ih =>
    simp only [foldN]
    generalize foldN rAll m s = t at ih ⊢
    unfold rAll
    split
    · exact ih
    · have F := fold_is (v := m) (s := t) (t.1 2)
      refine ⟨F.1.trans ih.1, fun l z => ?_⟩
      rcases F.2 l z with z | z
      · exact ih.2 l z
      · rw [ih.1] at z; exact z
section PL
variable {h : aH} {b : Nat}
theorem c_playRound {g : Nat → Nat} {C : nC} (H : Pic g C) (hw : WF g) (hs : WS g) : ∃ C', run 31 0 [.ref b, .null, .null] [] (NH h b C) = some (some (.int (nI (nGoes g))), NH h b C') ∧ Pic (gGoes g) C' := by
  have K := sentAll_keep hw
  have hr8 : ∀ v, v < 10 → g (44 + v) ≤ 8 := fun v hv => Nat.le_trans (hw.2.2.2.2.2.2.1 v hv).2.2 hw.1.2
  have hN : nGoes g = (foldN rArr (g 2) (0, sentAll (g, fun _ => 0, fun _ => 0, fun _ => 0))).1 := rfl
  have hG : gGoes g = up (foldN rArr (g 2) (0, sentAll (g, fun _ => 0, fun _ => 0, fun _ => 0))).2.1 3 ((foldN rArr (g 2) (0, sentAll (g, fun _ => 0, fun _ => 0, fun _ => 0))).2.1 3 + 1) := rfl
  obtain ⟨C1, r1, p1, w1, l1, j1⟩ := c_sendAll (h := h) (b := b) (s := (g, fun _ => 0, fun _ => 0, fun _ => 0)) (PicR_off H (fun _ _ => rfl)) hw (fun _ _ z => absurd rfl z) (fun _ _ => rfl)
  have hT : ∀ l, (sentAll (g, fun _ => 0, fun _ => 0, fun _ => 0)).2.1 l ≠ 0 → l < g 2 := (sent_is (s := (g, fun _ => 0, fun _ => 0, fun _ => 0)) (fun _ => rfl) (g 1)).2
  rw [hN, hG]
  generalize sentAll (g, fun _ => 0, fun _ => 0, fun _ => 0) = T at K p1 w1 l1 j1 hT ⊢
  have hI0 : rArrI g (0, T) := ⟨K.1, hs.mono hr8 (fun j h1 _ h4 _ => K.2.1 j h1 h4), K.2.2, fun j hj h4 => K.2.1 j (by omega) h4, K.1.2.2.2.2.1⟩
  have key : ∀ m, m ≤ g 2 → ∃ C', run 31 25 [.ref b, .int (nI 0), .int (nI 0)] [] (NH h b C1) = run 31 25 [.ref b, .int (nI (foldN rArr m (0, T)).1), .int (nI m)] [] (NH h b C') ∧ PicR (foldN rArr m (0, T)).2.1 (fun l => decide (T.2.1 l ≠ 0) && decide (m ≤ l)) T.2.2.2 C' ∧ rArrI g (foldN rArr m (0, T)) ∧ (foldN rArr m (0, T)).2.2 = T.2 ∧ (∀ l, l < 20 → T.2.1 l ≠ 0 → (foldN rArr m (0, T)).2.1 (222 + 11 * l) = T.2.2.1 l) := by
    intro m
    induction m with
    | zero =>
      intro _
      refine ⟨C1, rfl, ?_, hI0, rfl, l1⟩
      have e : (fun l => decide (T.2.1 l ≠ 0) && decide (0 ≤ l)) = (fun l => decide (T.2.1 l ≠ 0)) := by
        funext l; simp
      rw [e]
      exact p1
    | succ m ih =>
      intro hm
      obtain ⟨C', e1, e2, e3, e4, e5⟩ := ih (by omega)
      simp only [foldN]
      generalize foldN rArr m (0, T) = q at e1 e2 e3 e4 e5 ⊢
      have q2 : q.2.1 2 = g 2 := e3.2.2.2.1 2 (by omega) (by omega)
      have h20 := hw.2.2.1
      have hfq := e3.1.2.2.2.1 m (by omega)
      have hnq := e3.1.2.1
      have eis : q.2.2.1 = T.2.1 := by rw [e4]
      have esv : q.2.2.2.1 = T.2.2.1 := by rw [e4]
      have esp : q.2.2.2.2 = T.2.2.2 := by rw [e4]
      have e2' : PicR q.2.1 (fun l => decide (T.2.1 l ≠ 0) && decide (m ≤ l)) q.2.2.2.2 C' := by rw [esp]; exact e2
      obtain ⟨r, C2, f1, f2, f3⟩ := c_arrive (h := h) (b := b) (l := m) e2' e3.1 (by omega) (by rw [eis]; simp) (by
        intro z
        rw [eis] at z
        refine ⟨by rw [esv]; exact e5 m (by omega) z, ?_⟩
        exact (e3.2.2.1 m (by omega)).2 (by show q.2.2.1 m ≠ 0; rw [eis]; exact z))
      have o2 : C' 0 0 4 = g 2 := by rw [e2.1.2.2.1]; exact q2
      have hc1 : C' 12 m 1 < 10 := by rw [(e2.2.2 m (by omega)).1.2.1]; omega
      have hr44 := (e3.1.2.2.2.2.2.2.1 (q.2.1 (215 + 11 * m)) (by omega)).2.2
      have hk0 := e3.1.1.2
      refine ⟨C2, ?_, ?_, rArr_keep (by omega) e3, by rw [rArr_rest]; exact e4, fun l hl z => by rw [rArr_222 (by omega) (by omega)]; exact e5 l hl z⟩
      · rw [e1, s31_25, f3]
        simp (disch := omega) only [s31_26, s31_27, s31_30, s31_33, s31_34, s31_37, s31_38, s31_39, s31_40, s31_43, s31_44, s31_47, s31_48, s31_49, s31_52, s31_53, s31_56, gf0, gf1, gf2, gf3, gf4, gf5, gf6, gf7, gf8, gf9, gf10, gf11, gf12, gf13, gf14, pu0, pu1, pu2, pu3, pu4, pu5, pu6, pu7, pu8, pu9, pu10, pu11, pu12, pu13, pu14, rc_at, bK_some, Option.toList_some, Option.toList_none, List.cons_append, List.nil_append, NH_0, NH_2, NH_93, o2, nI_lts, show m < g 2 from by omega, if_true, al_lk, al_nd, NH_l (show m < 20 from by omega), f1, bI_0]
        cases r <;> simp [s31_59, s31_62, s31_65, nI_adds]
      · rw [esp] at f2
        have e : (fun u => if u = m then false else (decide (T.2.1 u ≠ 0) && decide (m ≤ u))) = (fun l => decide (T.2.1 l ≠ 0) && decide (m + 1 ≤ l)) := by
          funext u
          by_cases z : u = m
          · subst z; simp
          · rw [if_neg z]
            have : decide (m ≤ u) = decide (m + 1 ≤ u) := decide_eq_decide.mpr (by omega)
            rw [this]
        rw [← e]
        exact f2
  obtain ⟨C', e1, e2, e3, e4, e5⟩ := key _ (Nat.le_refl _)
  generalize foldN rArr (g 2) (0, T) = q at e1 e2 e3 e4 e5 ⊢
  have q2 : q.2.1 2 = g 2 := e3.2.2.2.1 2 (by omega) (by omega)
  have h20 := hw.2.2.1
  have o2 : C' 0 0 4 = g 2 := by rw [e2.1.2.2.1]; exact q2
  have o3 : C' 0 0 8 = q.2.1 3 := e2.1.2.2.2.2.2.1
  have hq8 : ∀ u, u < 10 → q.2.1 (44 + u) ≤ 8 := fun v hv => Nat.le_trans (e3.1.2.2.2.2.2.2.1 v hv).2.2 e3.1.1.2
  refine ⟨upK C' 0 0 (w9 (C' 0 0 0) (C' 0 0 2) (C' 0 0 4) (C' 0 0 6) (C' 0 0 7) (q.2.1 3 + 1)), ?_, ?_⟩
  · rw [r1]
    simp only [s31_21, s31_22, s31_23, s31_24]
    rw [e1, s31_25]
    simp (disch := omega) only [s31_26, s31_27, s31_30, s31_68, s31_69, s31_70, s31_73, s31_74, s31_75, s31_78, s31_79, gf0, gf1, gf2, gf3, gf4, gf5, gf6, gf7, gf8, gf9, gf10, gf11, gf12, gf13, gf14, pu0, pu1, pu2, pu3, pu4, pu5, pu6, pu7, pu8, pu9, pu10, pu11, pu12, pu13, pu14, rc_at, bK_some, Option.toList_some, Option.toList_none, List.cons_append, List.nil_append, NH_0, NH_so, o2, nI_lts, Nat.lt_irrefl, if_false, nI_adds, o3]
  · refine PicR_round _ ?_ hq8
    refine PicR_off e2 (fun l _ => ?_)
    by_cases z : T.2.1 l ≠ 0
    · have := hT l z
      simp [show ¬ g 2 ≤ l from by omega]
    · simp at z
      simp [z]
end PL
