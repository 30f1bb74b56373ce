/-! run, runUntil -/
def gRun (g : Nat → Nat) : Nat → Nat → Nat × (Nat → Nat)
  | 0, c => (c, g)
  | n + 1, c => ((gRun g n c).1 + nGoes (gRun g n c).2, gGoes (gRun g n c).2)
def oRun (g : Nat → Nat) (n : Int32) : Int32 × (Nat → Nat) := if inI n (nI 1) (nI 50) = true then (nI (gRun g (cl n) 0).1, (gRun g (cl n) 0).2) else (-1, g)
/-- n rounds -/
def gIt (g : Nat → Nat) : Nat → (Nat → Nat)
  | 0 => g
  | n + 1 => gGoes (gIt g n)
def kAll (g : Nat → Nat) (v : Nat) : Bool := decide (¬ g (44 + v) < g 0)
/-- how many rounds until a node knows all, at most 50 -/
def nUntil (g : Nat → Nat) (v : Nat) : Nat := match firstN (fun i => kAll (gIt g i) v) 50 with
  | some i => i
  | none => 50
def oRunUntil (g : Nat → Nat) (v : Int32) : Int32 × (Nat → Nat) := if inI v (nI 0) (nI (g 1 - 1)) = true then (if kAll (gIt g (nUntil g (cl v))) (cl v) = true then nI (nUntil g (cl v)) else -4, gIt g (nUntil g (cl v))) else (-1, g)
section MJ
variable {h : aH} {x : Nat} {tl : Value} {rest : List Value}
theorem m_run (H : MX h x tl rest) (g is sv sp : Nat → Nat) (hw : WF g) (hs : WS g) (n : Int32) : ∃ is' sv' sp', run 138 0 [.ref x, .int n, .null, .null] [] (MR h x g is sv sp) = some (some (.int (oRun g n).1), MR h x (oRun g n).2 is' sv' sp') ∧ WF (oRun g n).2 ∧ WS (oRun g n).2 := by
  have hxx : ∀ g is sv sp, hget (MR h x g is sv sp) x = some (.inr (7, .ref (x + 1) :: .ref (x + 2) :: .ref (x + 3) :: .ref (x + 4) :: tl :: .ref (x + 5) :: .ref (x + 6) :: .ref (x + 7) :: .ref (x + 8) :: rest)) := fun _ _ _ _ => by rw [MR_x]; exact H
  simp only [s138_0, s138_1, s138_2, s138_4, s138_7, s138_10, s138_11, gf0, gf1, gf2, gf3, gf4, gf5, gf6, gf7, gf8, gf9, gf10, gf11, gf12, gf13, gf14, pu0, pu1, pu2, pu3, pu4, pu5, pu6, pu7, pu8, pu9, pu10, pu11, pu12, pu13, pu14, rc_at, bK_some, Option.toList_some, Option.toList_none, List.cons_append, List.nil_append, m_in, bI_0]
  unfold oRun
  cases hc : inI n (nI 1) (nI 50)
  · exact ⟨is, sv, sp, by simp only [if_true, Bool.false_eq_true, if_false], by simpa using hw, by simpa using hs⟩
  · obtain ⟨j, h1, h2, rfl, h3⟩ := inI_t (by decide) (by decide) hc
    have key : ∀ m, m ≤ j → ∃ is' sv' sp', run 138 16 [.ref x, .int (nI j), .int (nI 0), .int (nI 0)] [] (MR h x g is sv sp) = run 138 16 [.ref x, .int (nI j), .int (nI (gRun g m 0).1), .int (nI m)] [] (MR h x (gRun g m 0).2 is' sv' sp') ∧ WF (gRun g m 0).2 ∧ WS (gRun g m 0).2 := by
      intro m
      induction m with
      | zero => intro _; exact ⟨is, sv, sp, rfl, hw, hs⟩
      | succ m ih =>
        intro hm
        obtain ⟨is1, sv1, sp1, e1, w1, s1⟩ := ih (by omega)
        obtain ⟨is2, sv2, sp2, e2, w2, s2, -⟩ := m_goes H (gRun g m 0).2 is1 sv1 sp1 w1 s1
        refine ⟨is2, sv2, sp2, ?_, w2, s2⟩
        rw [e1, s138_16]
        simp (disch := omega) only [s138_17, s138_18, s138_21, s138_22, s138_23, s138_26, s138_27, s138_28, s138_31, gf0, gf1, gf2, gf3, gf4, gf5, gf6, gf7, gf8, gf9, gf10, gf11, gf12, gf13, gf14, pu0, pu1, pu2, pu3, pu4, pu5, pu6, pu7, pu8, pu9, pu10, pu11, pu12, pu13, pu14, rc_at, bK_some, Option.toList_some, Option.toList_none, List.cons_append, List.nil_append, hxx, nI_lts, show m < j from by omega, if_true, e2, nI_adds]
        rfl
    obtain ⟨is1, sv1, sp1, e1, w1, s1⟩ := key j (Nat.le_refl j)
    refine ⟨is1, sv1, sp1, ?_, ?_, ?_⟩
    · simp only [Bool.true_eq_false, if_false, s138_12, s138_13, s138_14, s138_15, if_true, h3]
      rw [e1, s138_16]
      simp (disch := omega) only [s138_17, s138_18, s138_21, s138_22, s138_23, s138_26, s138_27, s138_28, s138_31, s138_34, s138_35, nI_lts, Nat.lt_irrefl, if_false]
    · simpa [h3] using w1
    · simpa [h3] using s1
theorem gIt_low {h : aH} {x : Nat} {tl : Value} {rest : List Value} (H : MX h x tl rest) (g is sv sp : Nat → Nat) (hw : WF g) (hs : WS g) (n : Nat) : WF (gIt g n) ∧ WS (gIt g n) ∧ ∀ j, j < 44 → j ≠ 3 → j ≠ 4 → gIt g n j = g j := by
  induction n with
  | zero => exact ⟨hw, hs, fun _ _ _ _ => rfl⟩
  | succ n ih =>
    obtain ⟨w, s, e⟩ := ih
    obtain ⟨-, -, -, -, w2, s2, e2⟩ := m_goes H (gIt g n) is sv sp w s
    exact ⟨w2, s2, fun j h1 h2 h3 => (e2 j h1 h2 h3).trans (e j h1 h2 h3)⟩
theorem m_runUntil (H : MX h x tl rest) (g is sv sp : Nat → Nat) (hw : WF g) (hs : WS g) (v : Int32) : ∃ is' sv' sp', run 139 0 [.ref x, .int v, .null, .null] [] (MR h x g is sv sp) = some (some (.int (oRunUntil g v).1), MR h x (oRunUntil g v).2 is' sv' sp') ∧ WF (oRunUntil g v).2 ∧ WS (oRunUntil g v).2 := by
  have hxx : ∀ g is sv sp, hget (MR h x g is sv sp) x = some (.inr (7, .ref (x + 1) :: .ref (x + 2) :: .ref (x + 3) :: .ref (x + 4) :: tl :: .ref (x + 5) :: .ref (x + 6) :: .ref (x + 7) :: .ref (x + 8) :: rest)) := fun _ _ _ _ => by rw [MR_x]; exact H
  have hM : ∀ g is sv sp, MO (MR h x g is sv sp) x _ g := fun _ _ _ _ => MR_MO H
  have hn := hw.2.1
  have hsu : nI (g 1) - nI 1 = nI (g 1 - 1) := nI_sub (by omega)
  have gl := gIt_low H g is sv sp hw hs
  simp only [s139_0, s139_1, s139_2, s139_5, s139_8, s139_9, gf0, gf1, gf2, gf3, gf4, gf5, gf6, gf7, gf8, gf9, gf10, gf11, gf12, gf13, gf14, pu0, pu1, pu2, pu3, pu4, pu5, pu6, pu7, pu8, pu9, pu10, pu11, pu12, pu13, pu14, rc_at, bK_some, Option.toList_some, Option.toList_none, List.cons_append, List.nil_append, hxx, m_isNode (hM _ _ _ _), hsu, bI_0]
  unfold oRunUntil
  cases hc : inI v (nI 0) (nI (g 1 - 1))
  · exact ⟨is, sv, sp, by simp only [if_true, Bool.false_eq_true, if_false], by simpa using hw, by simpa using hs⟩
  · obtain ⟨j, h1, h2, rfl, h3⟩ := inI_t (by omega) (by decide) hc
    have hj : j < 10 := by omega
    have bnd : ∀ i, gIt g i (44 + j) < 2 ^ 31 ∧ gIt g i 0 < 2 ^ 31 := fun i => by
      have a := (gl i).1.1
      have b := ((gl i).1.2.2.2.2.2.2.1 j hj).2.2
      omega
    have key : ∀ m, m ≤ 50 → (∀ i, i < m → kAll (gIt g i) j = false) → ∃ is' sv' sp' w', run 139 12 [.ref x, .int (nI j), .int (nI 0), .null] [] (MR h x g is sv sp) = run 139 12 [.ref x, .int (nI j), .int (nI m), w'] [] (MR h x (gIt g m) is' sv' sp') := by
      intro m
      induction m with
      | zero => intro _ _; exact ⟨is, sv, sp, .null, rfl⟩
      | succ m ih =>
        intro hm hno
        obtain ⟨is1, sv1, sp1, w1, e1⟩ := ih (by omega) (fun i hi => hno i (by omega))
        obtain ⟨is2, sv2, sp2, e2, -⟩ := m_goes H (gIt g m) is1 sv1 sp1 (gl m).1 (gl m).2.1
        refine ⟨is2, sv2, sp2, .int (nI (nGoes (gIt g m))), ?_⟩
        have hk := hno m (by omega)
        unfold kAll at hk
        simp only [decide_eq_false_iff_not, Decidable.not_not] at hk
        have b := bnd m
        rw [e1, s139_12]
        simp (disch := omega) only [s139_13, s139_15, s139_18, s139_19, s139_22, s139_24, s139_25, s139_26, s139_27, s139_28, s139_31, s139_32, s139_33, s139_36, s139_37, s139_40, s139_41, s139_44, gf0, gf1, gf2, gf3, gf4, gf5, gf6, gf7, gf8, gf9, gf10, gf11, gf12, gf13, gf14, pu0, pu1, pu2, pu3, pu4, pu5, pu6, pu7, pu8, pu9, pu10, pu11, pu12, pu13, pu14, rc_at, bK_some, Option.toList_some, Option.toList_none, List.cons_append, List.nil_append, hxx, MR_1, nI_adds, al_m, nI_lts, show m < 50 from by omega, if_true, hk, e2]
        rfl
    have fin : ∀ m, m ≤ 50 → (m = 50 ∨ kAll (gIt g m) j = true) → (∀ i, i < m → kAll (gIt g i) j = false) → ∃ is' sv' sp', run 139 12 [.ref x, .int (nI j), .int (nI 0), .null] [] (MR h x g is sv sp) = some (some (.int (if kAll (gIt g m) j = true then nI m else -4)), MR h x (gIt g m) is' sv' sp') := by
      intro m hm hor hno
      obtain ⟨is1, sv1, sp1, w1, e1⟩ := key m hm hno
      refine ⟨is1, sv1, sp1, ?_⟩
      have b := bnd m
      rw [e1, s139_12]
      by_cases hk : kAll (gIt g m) j = true
      · have hk' : ¬ gIt g m (44 + j) < gIt g m 0 := by simpa [kAll] using hk
        by_cases h50 : m < 50
        · simp (disch := omega) only [s139_13, s139_15, s139_18, s139_19, s139_22, s139_24, s139_25, s139_26, s139_27, s139_28, s139_31, s139_32, s139_33, s139_47, s139_48, s139_51, s139_53, s139_54, s139_55, s139_56, s139_57, s139_60, s139_61, s139_62, s139_65, s139_67, s139_70, s139_71, gf0, gf1, gf2, gf3, gf4, gf5, gf6, gf7, gf8, gf9, gf10, gf11, gf12, gf13, gf14, pu0, pu1, pu2, pu3, pu4, pu5, pu6, pu7, pu8, pu9, pu10, pu11, pu12, pu13, pu14, rc_at, bK_some, Option.toList_some, Option.toList_none, List.cons_append, List.nil_append, hxx, MR_1, nI_adds, al_m, nI_lts, h50, if_true, hk', if_false, hk]
        · simp (disch := omega) only [s139_13, s139_15, s139_18, s139_19, s139_22, s139_24, s139_25, s139_26, s139_27, s139_28, s139_31, s139_32, s139_33, s139_47, s139_48, s139_51, s139_53, s139_54, s139_55, s139_56, s139_57, s139_60, s139_61, s139_62, s139_65, s139_67, s139_70, s139_71, gf0, gf1, gf2, gf3, gf4, gf5, gf6, gf7, gf8, gf9, gf10, gf11, gf12, gf13, gf14, pu0, pu1, pu2, pu3, pu4, pu5, pu6, pu7, pu8, pu9, pu10, pu11, pu12, pu13, pu14, rc_at, bK_some, Option.toList_some, Option.toList_none, List.cons_append, List.nil_append, hxx, MR_1, nI_adds, al_m, nI_lts, h50, if_true, hk', if_false, hk]
      · have hk' : gIt g m (44 + j) < gIt g m 0 := by simpa [kAll] using hk
        have h50 : ¬ m < 50 := by
          rcases hor with q | q
          · omega
          · exact absurd q hk
        simp (disch := omega) only [s139_13, s139_15, s139_18, s139_19, s139_22, s139_24, s139_25, s139_26, s139_27, s139_28, s139_31, s139_32, s139_33, s139_47, s139_48, s139_51, s139_53, s139_54, s139_55, s139_56, s139_57, s139_60, s139_61, s139_62, s139_65, s139_67, s139_70, s139_71, gf0, gf1, gf2, gf3, gf4, gf5, gf6, gf7, gf8, gf9, gf10, gf11, gf12, gf13, gf14, pu0, pu1, pu2, pu3, pu4, pu5, pu6, pu7, pu8, pu9, pu10, pu11, pu12, pu13, pu14, rc_at, bK_some, Option.toList_some, Option.toList_none, List.cons_append, List.nil_append, hxx, MR_1, nI_adds, al_m, nI_lts, h50, if_true, hk', if_false, hk]
        simp
    have nU : nUntil g j ≤ 50 ∧ (nUntil g j = 50 ∨ kAll (gIt g (nUntil g j)) j = true) ∧ (∀ i, i < nUntil g j → kAll (gIt g i) j = false) := by
      unfold nUntil
      cases hf : firstN (fun i => kAll (gIt g i) j) 50 with
      | none => exact ⟨Nat.le_refl _, Or.inl rfl, firstN_none.mp hf⟩
      | some i =>
        obtain ⟨q1, q2, q3⟩ := firstN_some.mp hf
        exact ⟨by dsimp only; omega, Or.inr q2, q3⟩
    obtain ⟨is1, sv1, sp1, e1⟩ := fin _ nU.1 nU.2.1 nU.2.2
    refine ⟨is1, sv1, sp1, ?_, ?_, ?_⟩
    · simp only [Bool.true_eq_false, if_false, s139_10, s139_11, if_true, h3]
      exact e1
    · simp only [if_true, h3]; exact (gl _).1
    · simp only [if_true, h3]; exact (gl _).2.1
end MJ
