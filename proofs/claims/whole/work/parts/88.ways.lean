/-! the class: ways -/
def yI (R : Nat → Nat) : aC := .inl (1, 10, .inl (nf R))
theorem al_y {G : Nat → Nat} {i : Nat} {α : Type} {K : Int32 → Option α} (hi : i < 10) : alK (nI i) (some (yI G)) (fun t => t == 1) K = K (nI (G i)) := by
  unfold yI; rw [al_Z hi (by decide)]; rfl
theorem as_y {G : Nat → Nat} {i v : Nat} {α : Type} {K : aC → Option α} (hi : i < 10) : asK (nI i) (some (yI G)) 1 (nI v) K = K (yI (up G i v)) := by
  rw [yI, as_I hi (by decide), upd_nf]; rfl
def WH (h : aH) (y : Nat) (U R B : Nat → Nat) : aH := (h.1, h.2.1, fun q => if q = y + 1 then some (zI U) else if q = y + 2 then some (yI R) else if q = y + 3 then some (rN 10 B) else h.2.2 q)
section NW
variable {h : aH} {b y : Nat} {C : nC} {U R B : Nat → Nat}
theorem WH_o {q : Nat} (h1 : q ≠ y + 1) (h2 : q ≠ y + 2) (h3 : q ≠ y + 3) : hget (WH h y U R B) q = hget h q := by
  unfold WH hget
  dsimp only
  rw [if_neg h1, if_neg h2, if_neg h3]
theorem NW_0 (hy : b + 134 ≤ y) : hget (NH (WH h y U R B) b C) y = hget h y := by
  rw [NH_out (by omega), WH_o (by omega) (by omega) (by omega)]
theorem NW_1 (hy : b + 134 ≤ y) : hget (NH (WH h y U R B) b C) (y + 1) = some (zI U) := by
  rw [NH_out (by omega)]
  unfold WH hget
  dsimp only
  rw [if_pos rfl]
theorem NW_2 (hy : b + 134 ≤ y) : hget (NH (WH h y U R B) b C) (y + 2) = some (yI R) := by
  rw [NH_out (by omega)]
  unfold WH hget
  dsimp only
  rw [if_neg (by omega), if_pos rfl]
theorem NW_3 (hy : b + 134 ≤ y) : hget (NH (WH h y U R B) b C) (y + 3) = some (rN 10 B) := by
  rw [NH_out (by omega)]
  unfold WH hget
  dsimp only
  rw [if_neg (by omega), if_neg (by omega), if_pos rfl]
theorem NW_s1 {U' : Nat → Nat} (hy : b + 134 ≤ y) : hset (NH (WH h y U R B) b C) (y + 1) (zI U') = NH (WH h y U' R B) b C := by
  rw [NH_set (by omega)]
  congr 1
  refine aH_ext rfl rfl ?_
  funext q
  unfold WH hset
  dsimp only
  by_cases z : q = y + 1
  · rw [if_pos z, if_pos z]
  · rw [if_neg z, if_neg z, if_neg z]
theorem NW_s2 {R' : Nat → Nat} (hy : b + 134 ≤ y) : hset (NH (WH h y U R B) b C) (y + 2) (yI R') = NH (WH h y U R' B) b C := by
  rw [NH_set (by omega)]
  congr 1
  refine aH_ext rfl rfl ?_
  funext q
  unfold WH hset
  dsimp only
  by_cases z : q = y + 2
  · rw [if_pos z, if_neg (by omega), if_pos z]
  · rw [if_neg z, if_neg z, if_neg z]
theorem NW_s3 {B' : Nat → Nat} (hy : b + 134 ≤ y) : hset (NH (WH h y U R B) b C) (y + 3) (rN 10 B') = NH (WH h y U R B') b C := by
  rw [NH_set (by omega)]
  congr 1
  refine aH_ext rfl rfl ?_
  funext q
  unfold WH hset
  dsimp only
  by_cases z : q = y + 3
  · rw [if_pos z, if_neg (by omega), if_neg (by omega), if_pos z]
  · rw [if_neg z, if_neg z, if_neg z]
end NW
def FM (g : Nat → Nat) : Nat → Nat := fun l => g (214 + 11 * l)
def OT (g : Nat → Nat) : Nat → Nat := fun l => g (215 + 11 * l)
section WY
variable {h : aH} {b y : Nat} {g : Nat → Nat} {C : nC} {U R B : Nat → Nat}
theorem WF.ends (hw : WF g) {l : Nat} (hl : l < g 2) : FM g l < 10 ∧ OT g l < 10 ∧ FM g l < OT g l := by
  have h1 := hw.2.1
  have h2 := hw.2.2.2.1 l hl
  unfold FM OT
  omega
theorem WF.nr (hw : WF g) {l : Nat} (hl : l < g 2) : nrN (FM g) (OT g) U l < 10 ∧ faN (FM g) (OT g) U l < 10 ∧ nrN (FM g) (OT g) U l ≠ faN (FM g) (OT g) U l := by
  have := hw.ends hl
  unfold nrN faN
  split <;> omega
theorem c_reachOver (hWy : hget h y = some (.inr (5, [.ref (y + 1), .ref (y + 2), .ref (y + 3)]))) (hy : b + 134 ≤ y) (H : Pic g C) (hw : WF g) (hU : ∀ l, U l ≤ 1) (hR : ∀ v, v < 10 → R v ≤ 1) {l : Nat} (hl : l < g 2) : run 59 0 [.ref y, .ref (lkA b l), .int (nI l), .null, .null] [] (NH (WH h y U R B) b C) = if R (nrN (FM g) (OT g) U l) ≠ 0 ∧ R (faN (FM g) (OT g) U l) = 0 then some (some (.int (nI 1)), NH (WH h y U (up R (faN (FM g) (OT g) U l) 1) (up B (faN (FM g) (OT g) U l) l)) b C) else some (some (.int (nI 0)), NH (WH h y U R B) b C) := by
  have h20 := hw.2.2.1
  have l20 : l < 20 := by omega
  obtain ⟨e1, e2, e3⟩ := hw.ends hl
  have u1 := hU l
  have r1 := hR _ e1
  have r2 := hR _ e2
  have y0 : ∀ U R B, hget (NH (WH h y U R B) b C) y = some (.inr (5, [.ref (y + 1), .ref (y + 2), .ref (y + 3)])) := fun U R B => by rw [NW_0 hy]; exact hWy
  have a0 : C 12 l 0 = FM g l := (H.2.2 l l20).1.1
  have a1 : C 12 l 1 = OT g l := (H.2.2 l l20).1.2.1
  unfold nrN faN
  by_cases c : U l = 0
  · simp (disch := omega) only [s59_0, s59_1, s59_4, s59_5, s59_6, s59_9, s59_10, s59_13, s59_16, s59_17, s59_20, s59_21, s59_22, s59_25, s59_26, s59_27, s59_30, s59_31, s59_34, s59_37, s59_38, s59_41, s59_43, s59_44, s59_47, s59_48, s59_49, s59_52, s59_53, s59_56, s59_58, s59_59, s59_62, s59_63, s59_64, s59_65, s59_68, s59_70, s59_71, s59_72, s59_73, s59_76, s59_78, s59_79, s59_80, s59_81, gf0, gf1, gf2, gf3, gf4, gf5, gf6, gf7, gf8, gf9, gf10, gf11, gf12, gf13, gf14, pu0, pu1, pu2, pu3, pu4, pu5, pu6, pu7, pu8, pu9, pu10, pu11, pu12, pu13, pu14, rc_at, bK_some, Option.toList_some, Option.toList_none, List.cons_append, List.nil_append, y0, NW_1 hy, NW_2 hy, NW_3 hy, NW_s2 hy, NW_s3 hy, al_z, al_y, as_y, as_N, nI_eq0, c, if_true, NH_l l20, a0, a1, nar_1, z01_0, z01_1]
    by_cases d1 : R (FM g l) = 0 <;> by_cases d2 : R (OT g l) = 0 <;> simp [d1, d2, n1]
  · simp (disch := omega) only [s59_0, s59_1, s59_4, s59_5, s59_6, s59_9, s59_10, s59_13, s59_16, s59_17, s59_20, s59_21, s59_22, s59_25, s59_26, s59_27, s59_30, s59_31, s59_34, s59_37, s59_38, s59_41, s59_43, s59_44, s59_47, s59_48, s59_49, s59_52, s59_53, s59_56, s59_58, s59_59, s59_62, s59_63, s59_64, s59_65, s59_68, s59_70, s59_71, s59_72, s59_73, s59_76, s59_78, s59_79, s59_80, s59_81, gf0, gf1, gf2, gf3, gf4, gf5, gf6, gf7, gf8, gf9, gf10, gf11, gf12, gf13, gf14, pu0, pu1, pu2, pu3, pu4, pu5, pu6, pu7, pu8, pu9, pu10, pu11, pu12, pu13, pu14, rc_at, bK_some, Option.toList_some, Option.toList_none, List.cons_append, List.nil_append, y0, NW_1 hy, NW_2 hy, NW_3 hy, NW_s2 hy, NW_s3 hy, al_z, al_y, as_y, as_N, nI_eq0, c, if_false, NH_l l20, a0, a1, nar_1, z01_0, z01_1]
    by_cases d1 : R (OT g l) = 0 <;> by_cases d2 : R (FM g l) = 0 <;> simp [d1, d2, n1]
theorem c_open (H : Pic g C) (hw : WF g) {l : Nat} (hl : l < g 2) {h : aH} : run 26 0 [.ref b, .ref (lkA b l)] [] (NH h b C) = some (some (.int (bI (opN g l))), NH h b C) := by
  have h20 := hw.2.2.1
  have l20 : l < 20 := by omega
  obtain ⟨e1, e2, e3⟩ := hw.ends hl
  have a0 : C 12 l 0 = g (214 + 11 * l) := (H.2.2 l l20).1.1
  have a1 : C 12 l 1 = g (215 + 11 * l) := (H.2.2 l l20).1.2.1
  unfold FM at e1
  unfold OT at e2
  rw [c_isOpen l20 (by omega) (by omega) (fun v hv => by
    have := (hw.2.2.2.2.2.2.1 v hv).2.1
    rw [(H.2.1 v hv).2.2.1]; omega), a0, a1, (H.2.1 _ e1).2.2.1, (H.2.1 _ e2).2.2.1]
  rfl
theorem c_search (hWy : hget h y = some (.inr (5, [.ref (y + 1), .ref (y + 2), .ref (y + 3)]))) (hy : b + 134 ≤ y) (H : Pic g C) (hw : WF g) (hU : ∀ l, U l ≤ 1) {s : Nat} (hs : s < 10) : ∃ R' B' ord, run 58 0 [.ref y, .ref b, .int (nI s), .null, .null, .null] [] (NH (WH h y U R B) b C) = some (none, NH (WH h y U R' B') b C) ∧ SI (g 2) (opN g) (FM g) (OT g) U s R' B' ord ∧ CLo (g 2) (opN g) (FM g) (OT g) U R' := by
  have h20 := hw.2.2.1
  have o2 := H.1.2.2.1
  have y0 : ∀ U R B, hget (NH (WH h y U R B) b C) y = some (.inr (5, [.ref (y + 1), .ref (y + 2), .ref (y + 3)])) := fun U R B => by rw [NW_0 hy]; exact hWy
  have k1 : ∀ m, m ≤ 10 → ∃ R' B', run 58 2 [.ref y, .ref b, .int (nI s), .int (nI 0), .null, .null] [] (NH (WH h y U R B) b C) = run 58 2 [.ref y, .ref b, .int (nI s), .int (nI m), .null, .null] [] (NH (WH h y U R' B') b C) ∧ ∀ v, v < m → R' v = if v = s then 1 else 0 := by
    intro m
    induction m with
    | zero => intro _; exact ⟨R, B, rfl, fun v hv => absurd hv (Nat.not_lt_zero _)⟩
    | succ m ih =>
      intro hm
      obtain ⟨R1, B1, e1, e2⟩ := ih (by omega)
      refine ⟨up R1 m (if m = s then 1 else 0), up B1 m NON, ?_, fun v hv => ?_⟩
      · rw [e1, s58_2]
        by_cases z : m = s
        · simp (disch := omega) only [s58_3, s58_5, s58_8, s58_9, s58_12, s58_13, s58_14, s58_15, s58_18, s58_19, s58_22, s58_23, s58_24, s58_25, s58_28, s58_29, s58_31, s58_32, s58_35, gf0, gf1, gf2, gf3, gf4, gf5, gf6, gf7, gf8, gf9, gf10, gf11, gf12, gf13, gf14, pu0, pu1, pu2, pu3, pu4, pu5, pu6, pu7, pu8, pu9, pu10, pu11, pu12, pu13, pu14, rc_at, bK_some, Option.toList_some, Option.toList_none, List.cons_append, List.nil_append, y0, NW_2 hy, NW_3 hy, NW_s2 hy, NW_s3 hy, nI_lts, show m < 10 from by omega, if_true, nI_eqs, z, nar_1, as_y, as_N, m4, nI_adds]
          simp (disch := omega) only [hs, if_true]
        · simp (disch := omega) only [s58_3, s58_5, s58_8, s58_9, s58_12, s58_13, s58_14, s58_15, s58_18, s58_19, s58_22, s58_23, s58_24, s58_25, s58_28, s58_29, s58_31, s58_32, s58_35, gf0, gf1, gf2, gf3, gf4, gf5, gf6, gf7, gf8, gf9, gf10, gf11, gf12, gf13, gf14, pu0, pu1, pu2, pu3, pu4, pu5, pu6, pu7, pu8, pu9, pu10, pu11, pu12, pu13, pu14, rc_at, bK_some, Option.toList_some, Option.toList_none, List.cons_append, List.nil_append, y0, NW_2 hy, NW_3 hy, NW_s2 hy, NW_s3 hy, nI_lts, show m < 10 from by omega, if_true, nI_eqs, z, if_false, nar_0, as_y, as_N, m4, nI_adds]
      · by_cases z : v = m
        · subst z; rw [up_same]
        · rw [up_ne z]; exact e2 v (by omega)
  obtain ⟨R1, B1, e1, e2⟩ := k1 10 (Nat.le_refl _)
  have S0 : SI (g 2) (opN g) (FM g) (OT g) U s R1 B1 (fun _ => 0) := SI.start hs e2
  have sweep : ∀ R B ord k, SI (g 2) (opN g) (FM g) (OT g) U s R B ord → ∀ m, m ≤ g 2 → ∃ gr R' B' ord', run 58 59 [.ref y, .ref b, .int (nI s), .int (nI 0), .int (nI k), .int (nI 0)] [] (NH (WH h y U R B) b C) = run 58 59 [.ref y, .ref b, .int (nI s), .int (nI gr), .int (nI k), .int (nI m)] [] (NH (WH h y U R' B') b C) ∧ SI (g 2) (opN g) (FM g) (OT g) U s R' B' ord' ∧ ((gr = 0 ∧ R' = R ∧ ∀ l, l < m → opN g l = true → R (nrN (FM g) (OT g) U l) ≠ 0 → R (faN (FM g) (OT g) U l) ≠ 0) ∨ (gr = 1 ∧ ctR R + 1 ≤ ctR R')) := by
    intro R B ord k S m
    induction m with
    | zero => intro _; exact ⟨0, R, B, ord, rfl, S, Or.inl ⟨rfl, rfl, fun l hl => absurd hl (Nat.not_lt_zero _)⟩⟩
    | succ m ih =>
      intro hm
      obtain ⟨gr, R2, B2, ord2, f1, f2, f3⟩ := ih (by omega)
      have m20 : m < 20 := by omega
      have op1 := c_open (b := b) (h := WH h y U R2 B2) H hw (show m < g 2 by omega)
      have ro := c_reachOver (B := B2) hWy hy H hw hU f2.2.1 (show m < g 2 by omega)
      obtain ⟨n1', n2, n3⟩ := hw.nr (U := U) (show m < g 2 by omega)
      cases ho : opN g m
      · refine ⟨gr, R2, B2, ord2, ?_, f2, ?_⟩
        · rw [ho] at op1
          rw [f1, s58_59]
          simp (disch := omega) only [s58_61, s58_62, s58_65, s58_68, s58_69, s58_70, s58_73, s58_75, s58_76, s58_79, s58_82, s58_83, s58_84, s58_87, s58_89, s58_90, s58_92, s58_95, s58_98, s58_99, s58_100, s58_103, gf0, gf1, gf2, gf3, gf4, gf5, gf6, gf7, gf8, gf9, gf10, gf11, gf12, gf13, gf14, pu0, pu1, pu2, pu3, pu4, pu5, pu6, pu7, pu8, pu9, pu10, pu11, pu12, pu13, pu14, rc_at, bK_some, Option.toList_some, Option.toList_none, List.cons_append, List.nil_append, NH_0, NH_93, al_lk, NH_l m20, o2, nI_lts, show m < g 2 from by omega, if_true, op1, bI_f, z0_0, nI_adds]
        · rcases f3 with ⟨q1, q2, q3⟩ | q
          · refine Or.inl ⟨q1, q2, fun l hl ho2 => ?_⟩
            by_cases z : l = m
            · subst z; rw [ho] at ho2; cases ho2
            · exact q3 l (by omega) ho2
          · exact Or.inr q
      · rw [ho] at op1
        by_cases c : R2 (nrN (FM g) (OT g) U m) ≠ 0 ∧ R2 (faN (FM g) (OT g) U m) = 0
        · rw [if_pos c] at ro
          obtain ⟨t1, t2⟩ := f2.step (show m < g 2 by omega) ho n2 n3 c.1 c.2 n1'
          refine ⟨1, _, _, _, ?_, t1, Or.inr ⟨rfl, ?_⟩⟩
          · rw [f1, s58_59]
            simp (disch := omega) only [s58_61, s58_62, s58_65, s58_68, s58_69, s58_70, s58_73, s58_75, s58_76, s58_79, s58_82, s58_83, s58_84, s58_87, s58_89, s58_90, s58_92, s58_95, s58_98, s58_99, s58_100, s58_103, gf0, gf1, gf2, gf3, gf4, gf5, gf6, gf7, gf8, gf9, gf10, gf11, gf12, gf13, gf14, pu0, pu1, pu2, pu3, pu4, pu5, pu6, pu7, pu8, pu9, pu10, pu11, pu12, pu13, pu14, rc_at, bK_some, Option.toList_some, Option.toList_none, List.cons_append, List.nil_append, y0, NH_0, NH_93, al_lk, NH_l m20, o2, nI_lts, show m < g 2 from by omega, if_true, op1, bI_t, z1_0, if_false, ro, nI_adds]
          · rw [t2]
            rcases f3 with ⟨q1, q2, q3⟩ | ⟨q1, q2⟩
            · rw [q2]; omega
            · omega
        · rw [if_neg c] at ro
          refine ⟨gr, R2, B2, ord2, ?_, f2, ?_⟩
          · rw [f1, s58_59]
            simp (disch := omega) only [s58_61, s58_62, s58_65, s58_68, s58_69, s58_70, s58_73, s58_75, s58_76, s58_79, s58_82, s58_83, s58_84, s58_87, s58_89, s58_90, s58_92, s58_95, s58_98, s58_99, s58_100, s58_103, gf0, gf1, gf2, gf3, gf4, gf5, gf6, gf7, gf8, gf9, gf10, gf11, gf12, gf13, gf14, pu0, pu1, pu2, pu3, pu4, pu5, pu6, pu7, pu8, pu9, pu10, pu11, pu12, pu13, pu14, rc_at, bK_some, Option.toList_some, Option.toList_none, List.cons_append, List.nil_append, y0, NH_0, NH_93, al_lk, NH_l m20, o2, nI_lts, show m < g 2 from by omega, if_true, op1, bI_t, z1_0, z0_0, if_false, ro, nI_adds]
          · rcases f3 with ⟨q1, q2, q3⟩ | q
            · refine Or.inl ⟨q1, q2, fun l hl ho2 r1 r2 => ?_⟩
              by_cases z : l = m
              · subst z; subst q2; exact c ⟨r1, r2⟩
              · exact q3 l (by omega) ho2 r1 r2
            · exact Or.inr q
  have one : ∀ R B ord k (w5 : Value), k < 10 → SI (g 2) (opN g) (FM g) (OT g) U s R B ord → ∃ gr R' B' ord', run 58 43 [.ref y, .ref b, .int (nI s), .int (nI 1), .int (nI k), w5] [] (NH (WH h y U R B) b C) = run 58 43 [.ref y, .ref b, .int (nI s), .int (nI gr), .int (nI (k + 1)), .int (nI (g 2))] [] (NH (WH h y U R' B') b C) ∧ SI (g 2) (opN g) (FM g) (OT g) U s R' B' ord' ∧ ((gr = 0 ∧ CLo (g 2) (opN g) (FM g) (OT g) U R') ∨ (gr = 1 ∧ ctR R + 1 ≤ ctR R')) := by
    intro R B ord k w5 hk S
    obtain ⟨gr, R', B', ord', f1, f2, f3⟩ := sweep R B ord k S (g 2) (Nat.le_refl _)
    refine ⟨gr, R', B', ord', ?_, f2, ?_⟩
    · rw [s58_43]
      simp (disch := omega) only [s58_45, s58_47, s58_50, s58_51, s58_54, s58_55, s58_56, s58_57, nI_lts, hk, if_true, z1_0, if_false]
      rw [f1, s58_59]
      simp (disch := omega) only [s58_61, s58_62, s58_65, s58_106, s58_109, gf0, gf1, gf2, gf3, gf4, gf5, gf6, gf7, gf8, gf9, gf10, gf11, gf12, gf13, gf14, pu0, pu1, pu2, pu3, pu4, pu5, pu6, pu7, pu8, pu9, pu10, pu11, pu12, pu13, pu14, rc_at, bK_some, Option.toList_some, Option.toList_none, List.cons_append, List.nil_append, NH_0, o2, nI_lts, Nat.lt_irrefl, if_false, nI_adds]
    · rcases f3 with ⟨q1, q2, q3⟩ | q
      · subst q2
        exact Or.inl ⟨q1, q3⟩
      · exact Or.inr q
  have all : ∀ j R B ord k (w5 : Value), k + j = 10 → SI (g 2) (opN g) (FM g) (OT g) U s R B ord → 1 + k ≤ ctR R → ∃ R' B' ord', run 58 43 [.ref y, .ref b, .int (nI s), .int (nI 1), .int (nI k), w5] [] (NH (WH h y U R B) b C) = some (none, NH (WH h y U R' B') b C) ∧ SI (g 2) (opN g) (FM g) (OT g) U s R' B' ord' ∧ CLo (g 2) (opN g) (FM g) (OT g) U R' := by
    intro j
    induction j with
    | zero =>
      intro R B ord k w5 hk _ hc
      have : ctR R ≤ 10 := cntN_le _ _
      omega
    | succ j ih =>
      intro R B ord k w5 hk S hc
      obtain ⟨gr, R', B', ord', f1, f2, f3⟩ := one R B ord k w5 (by omega) S
      rcases f3 with ⟨rfl, q⟩ | ⟨rfl, q⟩
      · refine ⟨R', B', ord', ?_, f2, q⟩
        rw [f1, s58_43]
        by_cases z : k + 1 < 10
        · simp (disch := omega) only [s58_45, s58_47, s58_50, s58_51, s58_112, nI_lts, z, if_true, z0_0]
        · simp (disch := omega) only [s58_45, s58_47, s58_50, s58_51, s58_112, nI_lts, z, if_false]
      · obtain ⟨R2, B2, ord2, g1, g2, g3⟩ := ih R' B' ord' (k + 1) (.int (nI (g 2))) (by omega) f2 (by omega)
        exact ⟨R2, B2, ord2, by rw [f1]; exact g1, g2, g3⟩
  have c1 : 1 + 0 ≤ ctR R1 := cntN_pos hs (by simpa using S0.1)
  obtain ⟨R', B', ord', f1, f2, f3⟩ := all 10 R1 B1 _ 0 .null rfl S0 c1
  refine ⟨R', B', ord', ?_, f2, f3⟩
  simp only [s58_0, s58_1]
  rw [e1, s58_2]
  simp (disch := omega) only [s58_3, s58_5, s58_38, s58_39, s58_40, s58_41, nI_lts, Nat.lt_irrefl, if_false]
  exact f1
end WY
