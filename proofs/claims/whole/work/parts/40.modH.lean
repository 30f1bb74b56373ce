/-! rounds: what arrives; the whole round -/
def WS (g : Nat → Nat) : Prop := ∀ v, v < 10 → ∃ L P, SpOK L P (vecs g v) (g (44 + v)) (g 0)
theorem WS.mono {g g' : Nat → Nat} (hw : WS g) (hk : ∀ v, v < 10 → g (44 + v) ≤ 8) (h1 : ∀ j, j < 214 → j ≠ 3 → j ≠ 4 → (j < 24 ∨ 34 ≤ j) → g' j = g j) : WS g' := by
  intro v hv
  obtain ⟨L, P, h⟩ := hw v hv
  refine ⟨L, P, ?_⟩
  have := hk v hv
  rw [h1 (44 + v) (by omega) (by omega) (by omega) (by omega), h1 0 (by omega) (by omega) (by omega) (by omega)]
  exact h.congr fun i hi => h1 _ (by omega) (by omega) (by omega) (by omega)
def lostN (g : Nat → Nat) (l : Nat) : Bool := decide (0 < g (216 + 11 * l)) && decide (nI (g (217 + 11 * l)) - nI (g (217 + 11 * l)) / nI (g (216 + 11 * l)) * nI (g (216 + 11 * l)) = 0)
def gRecv (g : Nat → Nat) (l a : Nat) : Nat → Nat := up g (224 + 11 * l) (g (224 + 11 * l) ^^^ a)
def arrF (g : Nat → Nat) (l a p : Nat) : Nat := if lostN g l = true then 0 else match sfN g (g (215 + 11 * l)) a with
  | none => 1
  | some s => if nI (xsN (pays g (g (215 + 11 * l))) s (g (44 + g (215 + 11 * l)))) = nI p then 2 else 3
def arrG (g : Nat → Nat) (l a p : Nat) : Nat → Nat := if lostN g l = true then g else match sfN g (g (215 + 11 * l)) a with
  | none => gAcc (gRecv g l a) (g (215 + 11 * l)) a p
  | some _ => gRecv g l a
theorem arrF_le (g : Nat → Nat) (l a p : Nat) : arrF g l a p ≤ 3 := by
  unfold arrF
  split
  · omega
  · split
    · omega
    · split <;> omega
theorem sfN_congr {g g' : Nat → Nat} {v a : Nat} (h1 : g' (44 + v) = g (44 + v)) (h2 : ∀ i, i < g (44 + v) → vecs g' v i = vecs g v i) : sfN g' v a = sfN g v a := by
  unfold sfN
  rw [h1]
  congr 1
  funext s
  rw [xsN_congr h2]
section MH
variable {h : aH} {x : Nat} {tl : Value} {rest : List Value}
theorem m_arrives (H : MX h x tl rest) {l : Nat} (g is sv sp : Nat → Nat) (hw : WF g) (hs : WS g) (hl : l < g 2) (ha : sv l < 2 ^ g 0) : run 136 0 [.ref x, .int (nI l), .null, .null] [] (MR h x g is sv sp) = some (some (.int (nI (arrF g l (sv l) (sp l)))), MR h x (arrG g l (sv l) (sp l)) is sv sp) := by
  have hxx : ∀ g is sv sp, hget (MR h x g is sv sp) x = some (.inr (7, .ref (x + 1) :: .ref (x + 2) :: .ref (x + 3) :: .ref (x + 4) :: tl :: .ref (x + 5) :: .ref (x + 6) :: .ref (x + 7) :: .ref (x + 8) :: rest)) := fun _ _ _ _ => by rw [MR_x]; exact H
  have hM : ∀ g is sv sp, MO (MR h x g is sv sp) x _ g := fun _ _ _ _ => MR_MO H
  have h20 := hw.2.2.1
  have hl2 : l < 20 := by omega
  have hlk := hw.2.2.2.1 l hl
  have hn := hw.2.1
  have hk := hw.1
  have hv : g (215 + 11 * l) < 10 := by omega
  have q1 : 214 + 11 * l + 1 = 215 + 11 * l := by omega
  have q2 : 214 + 11 * l + 2 = 216 + 11 * l := by omega
  have q3 : 214 + 11 * l + 3 = 217 + 11 * l := by omega
  have q10 : 214 + 11 * l + 10 = 224 + 11 * l := by omega
  have hrk := (hw.2.2.2.2.2.2.1 _ hv).2.2
  have e1 : gRecv g l (sv l) (44 + g (215 + 11 * l)) = g (44 + g (215 + 11 * l)) := up_ne (by omega)
  have e2 : ∀ i, i < 8 → vecs (gRecv g l (sv l)) (g (215 + 11 * l)) i = vecs g (g (215 + 11 * l)) i := fun i hi => up_ne (by omega)
  have e3 : ∀ i, i < 8 → pays (gRecv g l (sv l)) (g (215 + 11 * l)) i = pays g (g (215 + 11 * l)) i := fun i hi => up_ne (by omega)
  have hsv : sv l < 2 ^ 31 := by have := pow_8 hk.2; omega
  have es : sfN (gRecv g l (sv l)) (g (215 + 11 * l)) (sv l) = sfN g (g (215 + 11 * l)) (sv l) := sfN_congr e1 (fun i hi => e2 i (by omega))
  have hgv : ∀ i, i < gRecv g l (sv l) (44 + g (215 + 11 * l)) → vecs (gRecv g l (sv l)) (g (215 + 11 * l)) i < 2 ^ 8 := by
    intro i hi
    rw [e1] at hi
    rw [e2 i (by omega)]
    exact hw.vlt hv hi
  have SF := m_setFor (hM (gRecv g l (sv l)) is sv sp) hv (by rw [e1]; omega) hgv hsv
  rw [es] at SF
  have tail : run 136 27 [.ref x, .int (nI l), .null, .null] [] (MR h x g is sv sp) = (match sfN g (g (215 + 11 * l)) (sv l) with
      | none => some (some (.int (nI 1)), MR h x (gAcc (gRecv g l (sv l)) (g (215 + 11 * l)) (sv l) (sp l)) is sv sp)
      | some s => some (some (.int (nI (if nI (xsN (pays g (g (215 + 11 * l))) s (g (44 + g (215 + 11 * l)))) = nI (sp l) then 2 else 3))), MR h x (gRecv g l (sv l)) is sv sp)) := by
    have PU := m_put (w := 10) (hM g is sv sp) hl2 (by decide) (g (224 + 11 * l) ^^^ sv l)
    rw [q10, MR_s1] at PU
    rw [show up g (224 + 11 * l) (g (224 + 11 * l) ^^^ sv l) = gRecv g l (sv l) from rfl] at PU
    simp (disch := omega) only [s136_27, s136_28, s136_29, s136_30, s136_33, s136_34, s136_35, s136_36, s136_38, s136_39, s136_40, s136_42, s136_45, s136_46, s136_49, s136_50, s136_51, s136_52, s136_55, s136_56, s136_57, s136_58, s136_61, s136_62, s136_63, s136_66, s136_67, s136_68, s136_70, gf0, gf1, gf2, gf3, gf4, gf5, gf6, gf7, gf8, gf9, gf10, gf11, gf12, gf13, gf14, pu0, pu1, pu2, pu3, pu4, pu5, pu6, pu7, pu8, pu9, pu10, pu11, pu12, pu13, pu14, rc_at, bK_some, Option.toList_some, Option.toList_none, List.cons_append, List.nil_append, hxx, MR_1, MR_6, al_v, m_of (hM _ _ _ _), q1, q10, nI_xor, PU, SF]
    cases hsf : sfN g (g (215 + 11 * l)) (sv l) with
    | none =>
      obtain ⟨L, P, hS⟩ := hs _ hv
      obtain ⟨b, w, q, had⟩ := hS.room hk.2 ha hsf
      have hlt := (hS.add hk.2 ha had).2
      have AC := m_accept (hM (gRecv g l (sv l)) is sv sp) hv (by rw [e1]; omega) (sv l) (sp l)
      rw [MR_s1] at AC
      simp (disch := omega) only [optI, if_true, s136_73, s136_74, s136_75, s136_76, s136_79, s136_80, s136_81, s136_82, s136_85, s136_86, s136_87, s136_90, s136_91, gf0, gf1, gf2, gf3, gf4, gf5, gf6, gf7, gf8, gf9, gf10, gf11, gf12, gf13, gf14, pu0, pu1, pu2, pu3, pu4, pu5, pu6, pu7, pu8, pu9, pu10, pu11, pu12, pu13, pu14, rc_at, bK_some, Option.toList_some, Option.toList_none, List.cons_append, List.nil_append, hxx, MR_6, MR_7, al_v, AC]
    | some s =>
      have hs2 : s < 2 ^ g (44 + g (215 + 11 * l)) := (firstN_some.mp hsf).1
      have hp8 := pow_8 (show g (44 + g (215 + 11 * l)) ≤ 8 by omega)
      have e4 : (nI s = -4) = False := by
        rw [m4]
        have : ∀ s, s < 256 → ¬ nI s = nI NON := by decide +kernel
        exact eq_false (this s (by omega))
      have PF := m_payloadFor (hM (gRecv g l (sv l)) is sv sp) hv (by rw [e1]; omega) (show s < 2 ^ 31 by omega)
      rw [e1, xsN_congr (fun i hi => e3 i (by omega))] at PF
      simp (disch := omega) only [optI, e4, if_false, s136_92, s136_93, s136_94, s136_95, s136_98, s136_99, s136_102, s136_103, s136_104, s136_107, s136_108, s136_111, s136_112, gf0, gf1, gf2, gf3, gf4, gf5, gf6, gf7, gf8, gf9, gf10, gf11, gf12, gf13, gf14, pu0, pu1, pu2, pu3, pu4, pu5, pu6, pu7, pu8, pu9, pu10, pu11, pu12, pu13, pu14, rc_at, bK_some, Option.toList_some, Option.toList_none, List.cons_append, List.nil_append, hxx, MR_7, al_v, PF]
      by_cases c : nI (xsN (pays g (g (215 + 11 * l))) s (g (44 + g (215 + 11 * l)))) = nI (sp l) <;> simp [c]
  have hz : (nI (g (216 + 11 * l)) = 0) = (g (216 + 11 * l) = 0) := nI_eq0 (by omega)
  simp (disch := omega) only [s136_0, s136_1, s136_2, s136_3, s136_6, s136_9, s136_10, s136_11, s136_12, s136_15, s136_16, s136_17, s136_18, s136_21, s136_22, s136_25, s136_26, gf0, gf1, gf2, gf3, gf4, gf5, gf6, gf7, gf8, gf9, gf10, gf11, gf12, gf13, gf14, pu0, pu1, pu2, pu3, pu4, pu5, pu6, pu7, pu8, pu9, pu10, pu11, pu12, pu13, pu14, rc_at, bK_some, Option.toList_some, Option.toList_none, List.cons_append, List.nil_append, hxx, m_of (hM _ _ _ _), q2, q3, nI_gt0]
  unfold arrF arrG lostN
  by_cases c1 : 0 < g (216 + 11 * l)
  · rw [if_pos c1, if_neg (by rw [hz]; omega)]
    by_cases c2 : nI (g (217 + 11 * l)) - nI (g (217 + 11 * l)) / nI (g (216 + 11 * l)) * nI (g (216 + 11 * l)) = 0
    · simp [c1, c2]
    · simp only [c1, c2, if_false, decide_true, decide_false, Bool.and_false, Bool.false_eq_true]
      rw [tail]
      cases sfN g (g (215 + 11 * l)) (sv l) <;> rfl
  · rw [if_neg c1]
    simp only [c1, decide_false, Bool.false_and, Bool.false_eq_true, if_false]
    rw [tail]
    cases sfN g (g (215 + 11 * l)) (sv l) <;> rfl
end MH
