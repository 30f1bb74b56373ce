/-! each call, the class and the model side by side -/
theorem WP.cg {g g' : Nat → Nat} (hp : WP g) (hr : ∀ v, v < 10 → g (44 + v) ≤ 8) (e : ∀ j, (6 ≤ j ∧ j < 14) ∨ (44 ≤ j ∧ j < 214) → g' j = g j) : WP g' := by
  refine ⟨fun i hi => by rw [e _ (by omega)]; exact hp.1 i hi, fun v i hv hi => ?_⟩
  rw [e _ (by omega)] at hi
  have := hr v hv
  unfold pays
  rw [e _ (by omega)]
  exact hp.2 v i hv hi
section WPs
variable {g : Nat → Nat}
theorem wp_setPackets (hw : WF g) (hp : WP g) (p : Int32) : WP (oSetPackets g p).2 := by
  unfold oSetPackets
  split
  · rename_i c
    obtain ⟨j, h1, h2, rfl, h3⟩ := inI_t (by decide) (by decide) c
    refine WP.begin ?_ (fun i hi => ?_)
    · unfold gFirst; rw [if_neg (by omega), up_same, h3]; exact h2
    · unfold gFirst; rw [if_pos (by omega)]; omega
  · exact hp
theorem wp_setPayload (hw : WF g) (hp : WP g) (i p : Int32) : WP (oSetPayload g i p).2 := by
  have hk := hw.1
  unfold oSetPayload
  split
  · rename_i c
    obtain ⟨j, h1, h2, rfl, h3⟩ := inI_t (by omega) (by decide) c.1
    obtain ⟨k, k1, k2, rfl, k3⟩ := inI_t (by decide) (by decide) c.2
    dsimp only
    rw [h3, k3]
    refine WP.begin (by rw [up_ne (by omega)]; omega) (fun q hq => ?_)
    by_cases z : q = j
    · subst z; rw [up_same]; omega
    · rw [up_ne (by omega)]; exact hp.1 q hq
  · exact hp
theorem wp_setNodes (hw : WF g) (hp : WP g) (p : Int32) : WP (oSetNodes g p).2 := by
  have hk := hw.1
  unfold oSetNodes
  split
  · have e : ∀ i, i < 14 → i ≠ 1 → i ≠ 2 → gHonest (up (up g 1 (cl p)) 2 0) i = g i := fun i h1 h2 h3 => by unfold gHonest; rw [if_neg (by omega), up_ne h3, up_ne h2]
    refine WP.begin (by rw [e 0 (by omega) (by omega) (by omega)]; omega) (fun i hi => ?_)
    rw [e _ (by omega) (by omega) (by omega)]
    exact hp.1 i hi
  · exact hp
theorem wp_addLink (hw : WF g) (hp : WP g) (a b c : Int32) : WP (oAddLink g a b c).2 := by
  have hk := hw.1
  unfold oAddLink
  split
  · split
    · exact hp
    · have e : ∀ i, i < 14 → i ≠ 2 → gLay g (cl a) (cl b) (cl c) i = g i := fun i h1 h2 => by unfold gLay; rw [up_ne h2, up_ne (by omega), up_ne (by omega), up_ne (by omega)]
      refine WP.begin (by rw [e 0 (by omega) (by omega)]; omega) (fun i hi => ?_)
      rw [e _ (by omega) (by omega)]
      exact hp.1 i hi
  · exact hp
theorem wp_removeLink (hw : WF g) (hp : WP g) : WP (oRemoveLink g).2 := by
  have hk := hw.1
  unfold oRemoveLink
  split
  · exact hp
  · refine WP.begin (by rw [up_ne (by omega)]; omega) (fun i hi => ?_)
    rw [up_ne (by omega)]
    exact hp.1 i hi
theorem wp_setBehavior (hw : WF g) (hp : WP g) (v b : Int32) : WP (oSetBehavior g v b).2 := by
  have hk := hw.1
  unfold oSetBehavior
  split
  · refine WP.begin (by rw [up_ne (by omega)]; omega) (fun i hi => ?_)
    rw [up_ne (by omega)]
    exact hp.1 i hi
  · exact hp
theorem wf_setState (hw : WF g) (s : Int32) : WF (oSetState g s).2 := by
  unfold oSetState
  split
  · exact hw
  · rename_i c
    obtain ⟨j, hj, rfl⟩ := nI_of c
    have w8 := hw.2.2.2.2.2.2.2.2.1
    dsimp only
    refine hw.mono (fun j _ _ h4 _ => up_ne h4) (fun l hl => ⟨up_ne (by omega), up_ne (by omega), up_ne (by omega)⟩) (by rw [up_same, cl_nI hj]; exact hj) (fun j hj => by rw [up_ne (by omega)]; exact w8 j hj)
theorem wp_setState (hw : WF g) (hp : WP g) (s : Int32) : WP (oSetState g s).2 := by
  unfold oSetState
  split
  · exact hp
  · exact hp.cg hw.r8 (fun j hj => up_ne (by omega))
theorem wf_setLimit (hw : WF g) (s : Int32) : WF (oSetLimit g s).2 := by
  unfold oSetLimit
  split
  · rename_i c
    obtain ⟨j, h1, h2, rfl, h3⟩ := inI_t (by decide) (by decide) c
    dsimp only
    rw [h3]
    have e : ∀ i, i ≠ 5 → up g 5 j i = g i := fun i hi => up_ne hi
    obtain ⟨w0, w1, w2, w3, w4, w5, w6, w7, w8, w9⟩ := hw
    unfold WF
    rw [e 0 (by omega), e 1 (by omega), e 2 (by omega), e 4 (by omega), e 14 (by omega), up_same]
    refine ⟨w0, w1, w2, fun l hl => ?_, w4, ⟨h1, h2⟩, fun v hv => ?_, fun v i hv hi => ?_, fun q hq => ?_, w9⟩
    · rw [e (214 + 11 * l) (by omega), e (215 + 11 * l) (by omega), e (216 + 11 * l) (by omega)]; exact w3 l hl
    · rw [e (14 + v) (by omega), e (34 + v) (by omega), e (44 + v) (by omega)]; exact w6 v hv
    · rw [e (44 + v) (by omega)] at hi
      rw [e _ (by omega)]
      exact w7 v i hv hi
    · rw [e _ (by omega)]; exact w8 q hq
  · exact hw
theorem wp_setLimit (hw : WF g) (hp : WP g) (s : Int32) : WP (oSetLimit g s).2 := by
  unfold oSetLimit
  split
  · exact hp.cg hw.r8 (fun j hj => up_ne (by omega))
  · exact hp
theorem wp_run (hw : WF g) (hs : WS g) (hp : WP g) (r : Int32) : WP (oRun g r).2 := by
  unfold oRun
  split
  · dsimp only; rw [gRun_it]; exact WP.it hw hs hp _
  · exact hp
theorem wp_runUntil (hw : WF g) (hs : WS g) (hp : WP g) (r : Int32) : WP (oRunUntil g r).2 := by
  unfold oRunUntil
  split
  · exact WP.it hw hs hp _
  · exact hp
theorem wp_chk (hw : WF g) (hp : WP g) {v p : Nat} (hv : v < 10) : WP (gChk g v p) := by
  unfold gChk
  split
  · exact hp.cg hw.r8 (fun j hj => by unfold gMark; rw [up_ne (by omega), up_ne (by omega)])
  · exact hp
theorem wfp_check (hw : WF g) (hs : WS g) (hp : WP g) (v p : Int32) : WF (oCheck g v p).2 ∧ WP (oCheck g v p).2 := by
  have h1 := hw.2.1
  unfold oCheck
  split
  · rename_i c
    obtain ⟨j, j0, j1, rfl, j3⟩ := relN_t hw c.1
    split
    · exact ⟨hw, hp⟩
    · dsimp only
      rw [j3]
      exact ⟨(WFS_chk hw hs (by omega)).1, wp_chk hw hp (by omega)⟩
  · exact ⟨hw, hp⟩
theorem wp_cr (hw : WF g) (hp : WP g) : WP (crF g) := by
  have h1 := hw.2.1
  unfold crF
  split
  · exact hp
  · split
    · rename_i i q
      obtain ⟨i1, _⟩ := firstN_some.mp q
      have P1 : WP (gRnd g) := hp.cg hw.r8 (fun j hj => up_ne (by omega))
      have P2 : WP (gRnd (gRnd g)) := P1.cg hw.rnd.r8 (fun j hj => up_ne (by omega))
      exact wp_chk hw.rnd.rnd P2 (by omega)
    · exact hp
theorem wfp_chkR (hw : WF g) (hs : WS g) (hp : WP g) (n : Int32) : WF (oChkR g n).2 ∧ WP (oChkR g n).2 := by
  unfold oChkR
  split
  · refine ⟨(WFS_crI hw hs _).1, ?_⟩
    dsimp only
    generalize cl n = m
    induction m with
    | zero => exact hp
    | succ m ih => exact wp_cr (WFS_crI hw hs m).1 ih
  · exact ⟨hw, hp⟩
theorem wp_read {T : Nat → Nat} {n : Nat} (hw : WF g) (hp : WP g) : WP (oRead g T n).2 := by
  have h1 := hw.2.1
  have hk := hw.1
  unfold oRead
  cases q : pTxt g T n with
  | inl j => exact hp
  | inr es =>
    have A := pAll_inr h1.1 n 0 0 es (by have := hw.2.2.1; omega) (by omega) q
    dsimp only
    refine WP.begin (by rw [gEnts_0 h1.2 es g A.1]; omega) (fun i hi => ?_)
    rw [gEnts_6 h1.2 hi es g A.1]
    exact hp.1 i hi
end WPs
def LI (hh : aH) (b x s0 L : Nat) (xs : Nat → Int32) (g S K T : Nat → Nat) (n : Nat) : Prop := hget hh b = some (.inl (9, L, .inl xs)) ∧ b < x ∧ CW hh x s0 g S K T n ∧ MW hh (x + 145) g S K T n ∧ WF g ∧ WP g ∧ ∀ j, j < 2 → K j < 2 ^ 31
theorem CW.ws {hh : aH} {x s0 n : Nat} {g S K T : Nat → Nat} (H : CW hh x s0 g S K T n) : WS g := by
  obtain ⟨z, _, ⟨C, _, c2⟩, _⟩ := H
  exact c2.ws
theorem CW.n {hh : aH} {x s0 n : Nat} {g S K T : Nat → Nat} (H : CW hh x s0 g S K T n) : n ≤ 100 ∧ ∀ i, i < n → T i < 2 ^ 31 := by
  obtain ⟨z, _, _, _, _, _, _, _, _, _, c11, _⟩ := H
  exact c11
def OPv (s0 f f' : Nat) (ls ls' : List Value) (hh : aH) (b x L : Nat) (xs : Nat → Int32) (a : Value) : Prop := ∃ h1 h2, run f 0 (.ref x :: ls) [] hh = some (some a, h1) ∧ hget h1 b = some (.inl (9, L, .inl xs)) ∧ (∃ fs, hget h1 (x + 145) = some (.inr (7, fs))) ∧ run f' 0 (.ref (x + 145) :: ls') [] h1 = some (some a, h2) ∧ ∃ g S K T n, LI h2 b x s0 L xs g S K T n
theorem OPv.mk {hh : aH} {b x s0 L n n' f f' : Nat} {xs : Nat → Int32} {g S K T g' S' K' T' : Nat → Nat} {ls ls' : List Value} {a : Value} (H : LI hh b x s0 L xs g S K T n) (hc : ∃ h1, run f 0 (.ref x :: ls) [] hh = some (some a, h1) ∧ CW h1 x s0 g' S' K' T' n' ∧ Fr x hh h1) (hm : ∀ h1, MW h1 (x + 145) g S K T n → ∃ h2, run f' 0 (.ref (x + 145) :: ls') [] h1 = some (some a, h2) ∧ MW h2 (x + 145) g' S' K' T' n' ∧ FrM (x + 145) h1 h2) (hw' : WF g') (hp' : WP g') (hk' : ∀ j, j < 2 → K' j < 2 ^ 31) : OPv s0 f f' ls ls' hh b x L xs a := by
  obtain ⟨l0, l1, lc, lm, _⟩ := H
  obtain ⟨h1, r1, c1, fr⟩ := hc
  have m1 : MW h1 (x + 145) g S K T n := lm.fr (fun q h1 h2 => fr q (by omega))
  obtain ⟨h2, r2, m2, ⟨fm, e1, e2⟩⟩ := hm h1 m1
  refine ⟨h1, h2, r1, by rw [fr b (by omega)]; exact l0, ?_, r2, g', S', K', T', n', ?_, l1, c1.fr (fun q _ h => fm q (by omega)) e1 e2, m2, hw', hp', hk'⟩
  · obtain ⟨⟨i, d, e, k, c, h0⟩, _⟩ := m1
    exact ⟨_, h0⟩
  · rw [fm b (by omega), fr b (by omega)]; exact l0
section OPS
variable {hh : aH} {b x s0 L n : Nat} {xs : Nat → Int32} {g S K T : Nat → Nat}
theorem op_setPackets (H : LI hh b x s0 L xs g S K T n) (p : Int32) : OPv s0 62 122 [.int p, .null] [.int p, .null] hh b x L xs (.int (oSetPackets g p).1) := by
  obtain ⟨l0, l1, lc, lm, hw, hp, hk⟩ := id H
  obtain ⟨h1, r1, c1, f1, w1⟩ := lift_net (Q := WF (oSetPackets g p).2) lc (fun c0 C pc => c_setPackets c0 pc hw p)
  exact OPv.mk H ⟨h1, r1, c1, f1⟩ (fun h1 m1 => v_mo m1 (fun _ m => m_setPackets m hw p)) w1 (wp_setPackets hw hp p) hk
theorem op_setPayload (H : LI hh b x s0 L xs g S K T n) (p q : Int32) : OPv s0 63 123 [.int p, .int q, .null] [.int p, .int q, .null] hh b x L xs (.int (oSetPayload g p q).1) := by
  obtain ⟨l0, l1, lc, lm, hw, hp, hk⟩ := id H
  obtain ⟨h1, r1, c1, f1, w1⟩ := lift_net (Q := WF (oSetPayload g p q).2) lc (fun c0 C pc => c_setPayload c0 pc hw p q)
  exact OPv.mk H ⟨h1, r1, c1, f1⟩ (fun h1 m1 => v_mo m1 (fun _ m => m_setPayload m hw p q)) w1 (wp_setPayload hw hp p q) hk
theorem op_setNodes (H : LI hh b x s0 L xs g S K T n) (p : Int32) : OPv s0 64 124 [.int p, .null] [.int p, .null, .null] hh b x L xs (.int (oSetNodes g p).1) := by
  obtain ⟨l0, l1, lc, lm, hw, hp, hk⟩ := id H
  obtain ⟨h1, r1, c1, f1, w1⟩ := lift_net (Q := WF (oSetNodes g p).2) lc (fun c0 C pc => c_setNodes c0 pc hw p)
  exact OPv.mk H ⟨h1, r1, c1, f1⟩ (fun h1 m1 => v_mo m1 (fun _ m => m_setNodes m hw p)) w1 (wp_setNodes hw hp p) hk
theorem op_addLink (H : LI hh b x s0 L xs g S K T n) (p q r : Int32) : OPv s0 65 126 [.int p, .int q, .int r] [.int p, .int q, .int r] hh b x L xs (.int (oAddLink g p q r).1) := by
  obtain ⟨l0, l1, lc, lm, hw, hp, hk⟩ := id H
  obtain ⟨h1, r1, c1, f1, w1⟩ := lift_net (Q := WF (oAddLink g p q r).2) lc (fun c0 C pc => c_addLink c0 pc hw p q r)
  exact OPv.mk H ⟨h1, r1, c1, f1⟩ (fun h1 m1 => v_mo m1 (fun _ m => m_addLink m hw p q r)) w1 (wp_addLink hw hp p q r) hk
theorem op_removeLink (H : LI hh b x s0 L xs g S K T n) : OPv s0 66 127 [] [] hh b x L xs (.int (oRemoveLink g).1) := by
  obtain ⟨l0, l1, lc, lm, hw, hp, hk⟩ := id H
  obtain ⟨h1, r1, c1, f1, w1⟩ := lift_net (Q := WF (oRemoveLink g).2) lc (fun c0 C pc => c_removeLink c0 pc hw)
  exact OPv.mk H ⟨h1, r1, c1, f1⟩ (fun h1 m1 => v_mo m1 (fun _ m => m_removeLink m hw)) w1 (wp_removeLink hw hp) hk
theorem op_setBehavior (H : LI hh b x s0 L xs g S K T n) (p q : Int32) : OPv s0 67 128 [.int p, .int q, .null] [.int p, .int q, .null] hh b x L xs (.int (oSetBehavior g p q).1) := by
  obtain ⟨l0, l1, lc, lm, hw, hp, hk⟩ := id H
  obtain ⟨h1, r1, c1, f1, w1⟩ := lift_net (Q := WF (oSetBehavior g p q).2) lc (fun c0 C pc => c_setBehavior c0 pc hw p q)
  exact OPv.mk H ⟨h1, r1, c1, f1⟩ (fun h1 m1 => v_mo m1 (fun _ m => m_setBehavior m hw p q)) w1 (wp_setBehavior hw hp p q) hk
theorem op_setState (H : LI hh b x s0 L xs g S K T n) (p : Int32) : OPv s0 68 129 [.int p, .null] [.int p, .null] hh b x L xs (.int (oSetState g p).1) := by
  obtain ⟨l0, l1, lc, lm, hw, hp, hk⟩ := id H
  have hs := lc.ws
  obtain ⟨h1, r1, c1, f1, _⟩ := lift_net (Q := True) (g' := (oSetState g p).2) lc (fun c0 C pc => by
    obtain ⟨C', r, p'⟩ := c_setState c0 pc hw p
    exact ⟨C', r, p', trivial⟩)
  exact OPv.mk H ⟨h1, r1, c1, f1⟩ (fun h1 m1 => v_mo m1 (fun _ m => m_setState m hw p)) (wf_setState hw p) (wp_setState hw hp p) hk
theorem op_setLimit (H : LI hh b x s0 L xs g S K T n) (p : Int32) : OPv s0 69 130 [.int p, .null] [.int p, .null] hh b x L xs (.int (oSetLimit g p).1) := by
  obtain ⟨l0, l1, lc, lm, hw, hp, hk⟩ := id H
  have hs := lc.ws
  obtain ⟨h1, r1, c1, f1, _⟩ := lift_net (Q := True) (g' := (oSetLimit g p).2) lc (fun c0 C pc => by
    obtain ⟨C', r, p'⟩ := c_setLimit c0 pc hw p
    exact ⟨C', r, p', trivial⟩)
  exact OPv.mk H ⟨h1, r1, c1, f1⟩ (fun h1 m1 => v_mo m1 (fun _ m => m_setLimit m hw p)) (wf_setLimit hw p) (wp_setLimit hw hp p) hk
theorem op_run (H : LI hh b x s0 L xs g S K T n) (p : Int32) : OPv s0 70 138 [.int p, .null, .null] [.int p, .null, .null] hh b x L xs (.int (oRun g p).1) := by
  obtain ⟨l0, l1, lc, lm, hw, hp, hk⟩ := id H
  have hs := lc.ws
  obtain ⟨h1, r1, c1, f1, _⟩ := lift_net (Q := True) (g' := (oRun g p).2) lc (fun c0 C pc => by
    obtain ⟨C', r, p'⟩ := c_run c0 pc hw hs p
    exact ⟨C', r, p', trivial⟩)
  exact OPv.mk H ⟨h1, r1, c1, f1⟩ (fun h1 m1 => by
    obtain ⟨h2, a1, a2, a3, _⟩ := v_run m1 hw hs p
    exact ⟨h2, a1, a2, a3⟩) (by
    obtain ⟨h2, a1, a2, a3, a4, _⟩ := v_run lm hw hs p
    exact a4) (wp_run hw hs hp p) hk
theorem op_runUntil (H : LI hh b x s0 L xs g S K T n) (p : Int32) : OPv s0 71 139 [.int p, .null] [.int p, .null, .null] hh b x L xs (.int (oRunUntil g p).1) := by
  obtain ⟨l0, l1, lc, lm, hw, hp, hk⟩ := id H
  have hs := lc.ws
  obtain ⟨h1, r1, c1, f1, _⟩ := lift_net (Q := True) (g' := (oRunUntil g p).2) lc (fun c0 C pc => by
    obtain ⟨C', r, p'⟩ := c_runUntil c0 pc hw hs p
    exact ⟨C', r, p', trivial⟩)
  exact OPv.mk H ⟨h1, r1, c1, f1⟩ (fun h1 m1 => by
    obtain ⟨h2, a1, a2, a3, _⟩ := v_runUntil m1 hw hs p
    exact ⟨h2, a1, a2, a3⟩) (by
    obtain ⟨h2, a1, a2, a3, a4, _⟩ := v_runUntil lm hw hs p
    exact a4) (wp_runUntil hw hs hp p) hk
theorem op_check (H : LI hh b x s0 L xs g S K T n) (p q : Int32) : OPv s0 90 163 [.int p, .int q] [.int p, .int q, .null] hh b x L xs (.int (oCheck g p q).1) := by
  obtain ⟨l0, l1, lc, lm, hw, hp, hk⟩ := id H
  have hs := lc.ws
  obtain ⟨h1, r1, c1, f1, _⟩ := lift_net (Q := True) (g' := (oCheck g p q).2) lc (fun c0 C pc => by
    obtain ⟨C', r, p'⟩ := c_check c0 pc hw p q
    exact ⟨C', r, p', trivial⟩)
  exact OPv.mk H ⟨h1, r1, c1, f1⟩ (fun h1 m1 => v_mo m1 (fun _ m => m_check m hw p q)) ((wfp_check hw hs hp p q).1) ((wfp_check hw hs hp p q).2) hk
theorem op_checkRandomly (H : LI hh b x s0 L xs g S K T n) (p : Int32) : OPv s0 91 165 [.int p, .null, .null] [.int p, .null, .null, .null, .null, .null] hh b x L xs (.int (oChkR g p).1) := by
  obtain ⟨l0, l1, lc, lm, hw, hp, hk⟩ := id H
  have hs := lc.ws
  obtain ⟨h1, r1, c1, f1, _⟩ := lift_net (Q := True) (g' := (oChkR g p).2) lc (fun c0 C pc => by
    obtain ⟨C', r, p'⟩ := c_checkRandomly c0 pc hw p
    exact ⟨C', r, p', trivial⟩)
  exact OPv.mk H ⟨h1, r1, c1, f1⟩ (fun h1 m1 => v_mo m1 (fun _ m => m_checkRandomly m hw hs p)) ((wfp_chkR hw hs hp p).1) ((wfp_chkR hw hs hp p).2) hk
theorem op_rounds (H : LI hh b x s0 L xs g S K T n) : OPv s0 72 140 [] [] hh b x L xs (.int (nI (g 3))) := by
  obtain ⟨l0, l1, lc, lm, hw, hp, hk⟩ := id H
  have hs := lc.ws
  have hn := lc.n
  refine OPv.mk (g' := g) (S' := S) (K' := K) (T' := T) (n' := n) H ?_ (fun h1 m1 => ?_) (hw) (hp) (hk)
  · exact lift_ask lc (fun c0 C pc => c_rounds c0 pc)
  · exact v_ask m1 (fun _ m => m_rounds m)
theorem op_nodes (H : LI hh b x s0 L xs g S K T n) : OPv s0 73 141 [] [] hh b x L xs (.int (nI (g 1))) := by
  obtain ⟨l0, l1, lc, lm, hw, hp, hk⟩ := id H
  have hs := lc.ws
  have hn := lc.n
  refine OPv.mk (g' := g) (S' := S) (K' := K) (T' := T) (n' := n) H ?_ (fun h1 m1 => ?_) (hw) (hp) (hk)
  · exact lift_ask lc (fun c0 C pc => c_nodes c0 pc)
  · exact v_ask m1 (fun _ m => m_nodes m)
theorem op_links (H : LI hh b x s0 L xs g S K T n) : OPv s0 74 142 [] [] hh b x L xs (.int (nI (g 2))) := by
  obtain ⟨l0, l1, lc, lm, hw, hp, hk⟩ := id H
  have hs := lc.ws
  have hn := lc.n
  refine OPv.mk (g' := g) (S' := S) (K' := K) (T' := T) (n' := n) H ?_ (fun h1 m1 => ?_) (hw) (hp) (hk)
  · exact lift_ask lc (fun c0 C pc => c_links c0 pc)
  · exact v_ask m1 (fun _ m => m_links m)
theorem op_link (H : LI hh b x s0 L xs g S K T n) (p q : Int32) : OPv s0 75 143 [.int p, .int q, .null] [.int p, .int q] hh b x L xs (.int (qLink g p q)) := by
  obtain ⟨l0, l1, lc, lm, hw, hp, hk⟩ := id H
  have hs := lc.ws
  have hn := lc.n
  refine OPv.mk (g' := g) (S' := S) (K' := K) (T' := T) (n' := n) H ?_ (fun h1 m1 => ?_) (hw) (hp) (hk)
  · exact lift_ask lc (fun c0 C pc => c_link c0 pc hw p q)
  · exact v_ask m1 (fun _ m => m_link m hw p q)
theorem op_rank (H : LI hh b x s0 L xs g S K T n) (p : Int32) : OPv s0 76 144 [.int p] [.int p] hh b x L xs (.int (qRank g p)) := by
  obtain ⟨l0, l1, lc, lm, hw, hp, hk⟩ := id H
  have hs := lc.ws
  have hn := lc.n
  refine OPv.mk (g' := g) (S' := S) (K' := K) (T' := T) (n' := n) H ?_ (fun h1 m1 => ?_) (hw) (hp) (hk)
  · exact lift_ask lc (fun c0 C pc => c_rank c0 pc hw p)
  · exact v_ask m1 (fun _ m => m_rank m hw p)
theorem op_vector (H : LI hh b x s0 L xs g S K T n) (p q : Int32) : OPv s0 77 146 [.int p, .int q] [.int p, .int q] hh b x L xs (.int (qVector g p q)) := by
  obtain ⟨l0, l1, lc, lm, hw, hp, hk⟩ := id H
  have hs := lc.ws
  have hn := lc.n
  refine OPv.mk (g' := g) (S' := S) (K' := K) (T' := T) (n' := n) H ?_ (fun h1 m1 => ?_) (hw) (hp) (hk)
  · exact lift_ask lc (fun c0 C pc => c_vector c0 pc hw p q)
  · exact v_ask m1 (fun _ m => m_vector m hw p q)
theorem op_payload (H : LI hh b x s0 L xs g S K T n) (p q : Int32) : OPv s0 78 147 [.int p, .int q] [.int p, .int q] hh b x L xs (.int (qPayload g p q)) := by
  obtain ⟨l0, l1, lc, lm, hw, hp, hk⟩ := id H
  have hs := lc.ws
  have hn := lc.n
  refine OPv.mk (g' := g) (S' := S) (K' := K) (T' := T) (n' := n) H ?_ (fun h1 m1 => ?_) (hw) (hp) (hk)
  · exact lift_ask lc (fun c0 C pc => c_payload c0 pc hw p q)
  · exact v_ask m1 (fun _ m => m_payload m hw p q)
theorem op_fates (H : LI hh b x s0 L xs g S K T n) (p q : Int32) : OPv s0 79 148 [.int p, .int q] [.int p, .int q] hh b x L xs (.int (qFates g p q)) := by
  obtain ⟨l0, l1, lc, lm, hw, hp, hk⟩ := id H
  have hs := lc.ws
  have hn := lc.n
  refine OPv.mk (g' := g) (S' := S) (K' := K) (T' := T) (n' := n) H ?_ (fun h1 m1 => ?_) (hw) (hp) (hk)
  · exact lift_ask lc (fun c0 C pc => c_fates c0 pc hw p q)
  · exact v_ask m1 (fun _ m => m_fates m hw p q)
theorem op_lastSent (H : LI hh b x s0 L xs g S K T n) (p : Int32) : OPv s0 80 149 [.int p] [.int p] hh b x L xs (.int (qLast g p)) := by
  obtain ⟨l0, l1, lc, lm, hw, hp, hk⟩ := id H
  have hs := lc.ws
  have hn := lc.n
  refine OPv.mk (g' := g) (S' := S) (K' := K) (T' := T) (n' := n) H ?_ (fun h1 m1 => ?_) (hw) (hp) (hk)
  · exact lift_ask lc (fun c0 C pc => c_lastSent c0 pc hw p)
  · exact v_ask m1 (fun _ m => m_lastSent m hw p)
theorem op_endSum (H : LI hh b x s0 L xs g S K T n) (p q : Int32) : OPv s0 81 150 [.int p, .int q, .null] [.int p, .int q] hh b x L xs (.int (qEnd g p q)) := by
  obtain ⟨l0, l1, lc, lm, hw, hp, hk⟩ := id H
  have hs := lc.ws
  have hn := lc.n
  refine OPv.mk (g' := g) (S' := S) (K' := K) (T' := T) (n' := n) H ?_ (fun h1 m1 => ?_) (hw) (hp) (hk)
  · exact lift_ask lc (fun c0 C pc => c_endSum c0 pc hw p q)
  · exact v_ask m1 (fun _ m => m_endSum m hw p q)
theorem op_differing (H : LI hh b x s0 L xs g S K T n) : OPv s0 82 151 [.null, .null] [.null, .null] hh b x L xs (.int (qDiff g)) := by
  obtain ⟨l0, l1, lc, lm, hw, hp, hk⟩ := id H
  have hs := lc.ws
  have hn := lc.n
  refine OPv.mk (g' := g) (S' := S) (K' := K) (T' := T) (n' := n) H ?_ (fun h1 m1 => ?_) (hw) (hp) (hk)
  · exact lift_ask lc (fun c0 C pc => c_differing c0 pc hw)
  · exact v_ask m1 (fun _ m => m_differing m hw)
theorem op_solve (H : LI hh b x s0 L xs g S K T n) (p q : Int32) : OPv s0 84 154 [.int p, .int q] [.int p, .int q] hh b x L xs (.int (qSolve g p q)) := by
  obtain ⟨l0, l1, lc, lm, hw, hp, hk⟩ := id H
  have hs := lc.ws
  have hn := lc.n
  refine OPv.mk (g' := g) (S' := S) (K' := K) (T' := T) (n' := n) H ?_ (fun h1 m1 => ?_) (hw) (hp) (hk)
  · exact lift_ask lc (fun c0 C pc => c_solve c0 pc hw p q)
  · exact v_ask m1 (fun _ m => m_solve m hw p q)
theorem op_combination (H : LI hh b x s0 L xs g S K T n) (p q : Int32) : OPv s0 86 156 [.int p, .int q] [.int p, .int q] hh b x L xs (.int (qComb g p q)) := by
  obtain ⟨l0, l1, lc, lm, hw, hp, hk⟩ := id H
  have hs := lc.ws
  have hn := lc.n
  refine OPv.mk (g' := g) (S' := S) (K' := K) (T' := T) (n' := n) H ?_ (fun h1 m1 => ?_) (hw) (hp) (hk)
  · exact lift_ask lc (fun c0 C pc => c_combination c0 pc hw p q)
  · exact v_ask m1 (fun _ m => m_combination m hw p q)
theorem op_suspect (H : LI hh b x s0 L xs g S K T n) (p q : Int32) : OPv s0 88 160 [.int p, .int q] [.int p, .int q] hh b x L xs (.int (qSus g p q)) := by
  obtain ⟨l0, l1, lc, lm, hw, hp, hk⟩ := id H
  have hs := lc.ws
  have hn := lc.n
  refine OPv.mk (g' := g) (S' := S) (K' := K) (T' := T) (n' := n) H ?_ (fun h1 m1 => ?_) (hw) (hp) (hk)
  · exact lift_ask lc (fun c0 C pc => c_suspect c0 pc hw p q)
  · exact v_ask m1 (fun _ m => m_suspect m hw p q)
theorem op_suspicions (H : LI hh b x s0 L xs g S K T n) (p : Int32) : OPv s0 89 161 [.int p, .null, .null] [.int p, .null, .null] hh b x L xs (.int (qSuss g p)) := by
  obtain ⟨l0, l1, lc, lm, hw, hp, hk⟩ := id H
  have hs := lc.ws
  have hn := lc.n
  refine OPv.mk (g' := g) (S' := S) (K' := K) (T' := T) (n' := n) H ?_ (fun h1 m1 => ?_) (hw) (hp) (hk)
  · exact lift_ask lc (fun c0 C pc => c_suspicions c0 pc hw p)
  · exact v_ask m1 (fun _ m => m_suspicions m hw p)
theorem op_marks (H : LI hh b x s0 L xs g S K T n) (p : Int32) : OPv s0 92 166 [.int p] [.int p] hh b x L xs (.int (qMarks g p)) := by
  obtain ⟨l0, l1, lc, lm, hw, hp, hk⟩ := id H
  have hs := lc.ws
  have hn := lc.n
  refine OPv.mk (g' := g) (S' := S) (K' := K) (T' := T) (n' := n) H ?_ (fun h1 m1 => ?_) (hw) (hp) (hk)
  · exact lift_ask lc (fun c0 C pc => c_marks c0 pc hw p)
  · exact v_ask m1 (fun _ m => m_marks m hw p)
theorem op_isCutOff (H : LI hh b x s0 L xs g S K T n) (p : Int32) : OPv s0 93 167 [.int p] [.int p] hh b x L xs (.int (qCut g p)) := by
  obtain ⟨l0, l1, lc, lm, hw, hp, hk⟩ := id H
  have hs := lc.ws
  have hn := lc.n
  refine OPv.mk (g' := g) (S' := S) (K' := K) (T' := T) (n' := n) H ?_ (fun h1 m1 => ?_) (hw) (hp) (hk)
  · exact lift_ask lc (fun c0 C pc => c_isCutOff c0 pc hw p)
  · exact v_ask m1 (fun _ m => m_isCutOff m hw p)
theorem op_wrong (H : LI hh b x s0 L xs g S K T n) : OPv s0 85 155 [.null, .null, .null, .null] [.null, .null, .null, .null] hh b x L xs (.int (nI (wrN g))) := by
  obtain ⟨l0, l1, lc, lm, hw, hp, hk⟩ := id H
  have hs := lc.ws
  have hn := lc.n
  refine OPv.mk (g' := g) (S' := S) (K' := K) (T' := T) (n' := n) H ?_ (fun h1 m1 => ?_) (hw) (hp) (hk)
  · exact lift_ask lc (fun c0 C pc => c_wrong c0 pc hw)
  · exact v_ask m1 (fun _ m => m_wrong m hw)
theorem op_knows (H : LI hh b x s0 L xs g S K T n) (p : Int32) : OPv s0 83 152 [.int p, .null, .null] [.int p, .null, .null] hh b x L xs (.int (qKnows g p)) := by
  obtain ⟨l0, l1, lc, lm, hw, hp, hk⟩ := id H
  have hs := lc.ws
  have hn := lc.n
  refine OPv.mk (g' := g) (S' := S) (K' := K) (T' := T) (n' := n) H ?_ (fun h1 m1 => ?_) (hw) (hp) (hk)
  · exact lift_ask lc (fun c0 C pc => c_knows c0 pc hw hp p)
  · exact v_ask m1 (fun _ m => m_knows m hw p)
theorem op_commonRank (H : LI hh b x s0 L xs g S K T n) (p q : Int32) : OPv s0 87 158 [.int p, .int q, .null, .null] [.int p, .int q, .null, .null] hh b x L xs (.int (qCommon g p q)) := by
  obtain ⟨l0, l1, lc, lm, hw, hp, hk⟩ := id H
  have hs := lc.ws
  have hn := lc.n
  refine OPv.mk (g' := g) (S' := S) (K' := K) (T' := T) (n' := n) H ?_ (fun h1 m1 => ?_) (hw) (hp) (hk)
  · exact w_common lc hw p q
  · exact v_ask m1 (fun _ m => m_commonRank m hw p q)
theorem op_sentRank (H : LI hh b x s0 L xs g S K T n) (p : Int32) : OPv s0 94 168 [.int p] [.int p, .null, .null] hh b x L xs (.int (qSentR g p)) := by
  obtain ⟨l0, l1, lc, lm, hw, hp, hk⟩ := id H
  have hs := lc.ws
  have hn := lc.n
  refine OPv.mk (g' := g) (S' := S) (K' := K) (T' := T) (n' := n) H ?_ (fun h1 m1 => ?_) (hw) (hp) (hk)
  · exact lift_ask lc (fun c0 C pc => c_sentRank c0 pc hw p)
  · exact v_sent m1 hw p
theorem op_flow (H : LI hh b x s0 L xs g S K T n) (p : Int32) : OPv s0 95 171 [.int p] [.int p] hh b x L xs (.int (qFlow g p)) := by
  obtain ⟨l0, l1, lc, lm, hw, hp, hk⟩ := id H
  have hs := lc.ws
  have hn := lc.n
  refine OPv.mk (g' := g) (S' := S) (K' := K) (T' := T) (n' := n) H ?_ (fun h1 m1 => ?_) (hw) (hp) (hk)
  · exact lift_ways lc (fun c0 c4 U R B C u pc => c_flow c0 c4 u pc hw p)
  · exact v_ask m1 (fun _ m => m_flow m hw p)
theorem op_neededLink (H : LI hh b x s0 L xs g S K T n) (p : Int32) : OPv s0 96 172 [.int p] [.int p, .null, .null] hh b x L xs (.int (qNeed g p)) := by
  obtain ⟨l0, l1, lc, lm, hw, hp, hk⟩ := id H
  have hs := lc.ws
  have hn := lc.n
  refine OPv.mk (g' := g) (S' := S) (K' := K) (T' := T) (n' := n) H ?_ (fun h1 m1 => ?_) (hw) (hp) (hk)
  · exact lift_ways lc (fun c0 c4 U R B C u pc => c_needed c0 c4 u pc hw p)
  · exact v_ask m1 (fun _ m => m_neededLink m hw p)
theorem op_append (H : LI hh b x s0 L xs g S K T n) (p : Int32) : OPv s0 97 173 [.int p] [.int p] hh b x L xs (.int (oApp T n p).1) := by
  obtain ⟨l0, l1, lc, lm, hw, hp, hk⟩ := id H
  have hs := lc.ws
  have hn := lc.n
  refine OPv.mk (g' := g) (S' := S) (K' := K) (T' := (oApp T n p).2.1) (n' := (oApp T n p).2.2) H ?_ (fun h1 m1 => ?_) (hw) (hp) (hk)
  · exact w_append lc p
  · exact v_append m1 hn.1 p
theorem op_clearText (H : LI hh b x s0 L xs g S K T n) : OPv s0 98 174 [.null] [.null] hh b x L xs (.int (nI n)) := by
  obtain ⟨l0, l1, lc, lm, hw, hp, hk⟩ := id H
  have hs := lc.ws
  have hn := lc.n
  refine OPv.mk (g' := g) (S' := S) (K' := K) (T' := T) (n' := 0) H ?_ (fun h1 m1 => ?_) (hw) (hp) (hk)
  · exact w_clear lc
  · exact v_clear m1
theorem op_faultPosition (H : LI hh b x s0 L xs g S K T n) : OPv s0 99 181 [.null] [] hh b x L xs (.int (qFault g T n)) := by
  obtain ⟨l0, l1, lc, lm, hw, hp, hk⟩ := id H
  have hs := lc.ws
  have hn := lc.n
  refine OPv.mk (g' := g) (S' := S) (K' := K) (T' := T) (n' := n) H ?_ (fun h1 m1 => ?_) (hw) (hp) (hk)
  · exact w_fault lc hw
  · exact v_fault m1 hn.1 hn.2 hw
theorem op_read (H : LI hh b x s0 L xs g S K T n) : OPv s0 100 182 [.null, .null] [.null] hh b x L xs (.int (oRead g T n).1) := by
  obtain ⟨l0, l1, lc, lm, hw, hp, hk⟩ := id H
  have hs := lc.ws
  have hn := lc.n
  refine OPv.mk (g' := (oRead g T n).2) (S' := S) (K' := K) (T' := T) (n' := n) H ?_ (fun h1 m1 => ?_) (by
    obtain ⟨h1, a1, a2, a3, a4⟩ := w_read lc hw
    exact a4) (wp_read hw hp) (hk)
  · obtain ⟨h1, a1, a2, a3, _⟩ := w_read lc hw
    exact ⟨h1, a1, a2, a3⟩
  · exact v_read m1 hn.1 hn.2 hw
theorem op_keep (H : LI hh b x s0 L xs g S K T n) (p : Int32) : OPv s0 102 183 [.int p] [.int p, .null] hh b x L xs (.int (oKeep g p)) := by
  obtain ⟨l0, l1, lc, lm, hw, hp, hk⟩ := id H
  have hs := lc.ws
  have hn := lc.n
  refine OPv.mk (g' := g) (S' := sKeep S g p) (K' := kKeep K p) (T' := T) (n' := n) H ?_ (fun h1 m1 => ?_) (hw) (hp) (fun j hj => by
    unfold kKeep
    split
    · by_cases z : j = cl p
      · rw [z, up_same]; decide
      · rw [up_ne z]; exact hk j hj
    · exact hk j hj)
  · exact w_keep lc hw hp p
  · exact v_keep m1 p
theorem op_restore (H : LI hh b x s0 L xs g S K T n) (p : Int32) : OPv s0 103 184 [.int p] [.int p, .null] hh b x L xs (.int (rsA S K p)) := by
  obtain ⟨l0, l1, lc, lm, hw, hp, hk⟩ := id H
  have hs := lc.ws
  have hn := lc.n
  refine OPv.mk (g' := rsG g S K p) (S' := S) (K' := K) (T' := T) (n' := n) H ?_ (fun h1 m1 => ?_) (by
    obtain ⟨h1, a1, a2, a3, a4, _⟩ := w_restore lc hw hp p
    exact a4) (by
    obtain ⟨h1, a1, a2, a3, _, a4⟩ := w_restore lc hw hp p
    exact a4) (hk)
  · obtain ⟨h1, a1, a2, a3, _⟩ := w_restore lc hw hp p
    exact ⟨h1, a1, a2, a3⟩
  · exact v_restore m1 hk p
theorem op_checksum (H : LI hh b x s0 L xs g S K T n) : OPv s0 104 186 [.null, .null, .null] [.null, .null] hh b x L xs (.long (qCk g)) := by
  obtain ⟨l0, l1, lc, lm, hw, hp, hk⟩ := id H
  have hs := lc.ws
  have hn := lc.n
  refine OPv.mk (g' := g) (S' := S) (K' := K) (T' := T) (n' := n) H ?_ (fun h1 m1 => ?_) (hw) (hp) (hk)
  · exact lift_ask lc (fun c0 C pc => c_checksum c0 pc hw)
  · exact v_ck m1 hw
end OPS
