/-! the class: checksum -/
section CK
variable {h : aH} {b x n : Nat} {g : Nat → Nat} {C : nC}
theorem fold_2 {σ : Type} (F : Nat → σ → σ) (s : σ) : ∀ r, foldN F (2 * r) s = foldN (fun i s => F (2 * i + 1) (F (2 * i) s)) r s := by
  intro r
  induction r with
  | zero => rfl
  | succ r ih =>
    rw [show 2 * (r + 1) = 2 * r + 1 + 1 from by omega]
    simp only [foldN]
    rw [ih]
theorem c_nodeMix (H : Pic g C) (hw : WF g) {v : Nat} (hv : v < 10) (c : Int64) : run 47 0 [.ref (ndA b v), .long c, .retAddr 0, .null, .null, .null] [] (NH h b C) = some (some (.long (ckN g v c)), NH h b C) := by
  obtain ⟨a0, a1, a2, a3, a4, a5, a6⟩ := H.2.1 v hv
  have hr := hw.r8 v hv
  have hc := (hw.2.2.2.2.2.2.1 v hv).2.1
  have key : ∀ m, m ≤ g (44 + v) → run 47 18 [.ref (ndA b v), .long c, .retAddr 0, .long (ckM c (g (44 + v))), .retAddr 0, .int (nI 0)] [] (NH h b C) = run 47 18 [.ref (ndA b v), .long c, .retAddr 0, .long (foldN (fun i c => ckM (ckM c (g (54 + 16 * v + 2 * i))) (g (54 + 16 * v + (2 * i + 1)))) m (ckM c (g (44 + v)))), .retAddr 0, .int (nI m)] [] (NH h b C) := by
    intro m
    induction m with
    | zero => intro _; rfl
    | succ m ih =>
      intro hm
      obtain ⟨v1, v2⟩ := a5 m (by omega)
      have v1' : C 10 v m = g (54 + 16 * v + 2 * m) := v1
      have v2' : C 11 v m = g (54 + 16 * v + (2 * m + 1)) := by rw [v2]; unfold pays; congr 1; omega
      rw [ih (by omega), s47_18]
      simp (disch := omega) only [s47_20, s47_21, s47_24, s47_27, s47_30, s47_32, s47_34, s47_37, s47_40, s47_41, s47_42, s47_43, s47_46, s47_48, s47_49, s47_50, s47_51, s47_52, s47_55, s47_56, s47_57, s47_58, s47_61, s47_63, s47_64, s47_65, s47_66, s47_67, s47_70, gf0, gf1, gf2, gf3, gf4, gf5, gf6, gf7, gf8, gf9, gf10, gf11, gf12, gf13, gf14, pu0, pu1, pu2, pu3, pu4, pu5, pu6, pu7, pu8, pu9, pu10, pu11, pu12, pu13, pu14, rc_at, bK_some, Option.toList_some, Option.toList_none, List.cons_append, List.nil_append, NH_n hv, NH_h0 hv, NH_v hv, NH_p hv, a3, nI_lts, show m < g (44 + v) from by omega, show m < 8 from by omega, if_true, al_8, v1', v2', nI_adds]
      rfl
  have st : run 47 0 [.ref (ndA b v), .long c, .retAddr 0, .null, .null, .null] [] (NH h b C) = run 47 18 [.ref (ndA b v), .long c, .retAddr 0, .long (ckM c (g (44 + v))), .retAddr 0, .int (nI 0)] [] (NH h b C) := by
    simp (disch := omega) only [s47_0, s47_3, s47_4, s47_5, s47_6, s47_9, s47_12, s47_13, s47_14, s47_15, s47_16, gf0, gf1, gf2, gf3, gf4, gf5, gf6, gf7, gf8, gf9, gf10, gf11, gf12, gf13, gf14, pu0, pu1, pu2, pu3, pu4, pu5, pu6, pu7, pu8, pu9, pu10, pu11, pu12, pu13, pu14, rc_at, bK_some, Option.toList_some, Option.toList_none, List.cons_append, List.nil_append, NH_n hv, NH_h0 hv, a3]
    rfl
  rw [st, key _ (Nat.le_refl _), s47_18]
  unfold ckN
  rw [fold_2]
  generalize foldN (fun i c => ckM (ckM c (g (54 + 16 * v + 2 * i))) (g (54 + 16 * v + (2 * i + 1)))) (g (44 + v)) (ckM c (g (44 + v))) = q
  by_cases z : g (34 + v) = 0
  · simp (disch := omega) only [s47_20, s47_21, s47_24, s47_27, s47_73, s47_76, s47_77, s47_78, s47_79, s47_82, s47_83, s47_84, s47_85, s47_88, s47_89, s47_90, s47_91, s47_94, s47_97, s47_98, s47_101, s47_102, s47_103, s47_104, gf0, gf1, gf2, gf3, gf4, gf5, gf6, gf7, gf8, gf9, gf10, gf11, gf12, gf13, gf14, pu0, pu1, pu2, pu3, pu4, pu5, pu6, pu7, pu8, pu9, pu10, pu11, pu12, pu13, pu14, rc_at, bK_some, Option.toList_some, Option.toList_none, List.cons_append, List.nil_append, NH_n hv, NH_h0 hv, a1, a2, a3, nI_lts, Nat.lt_irrefl, if_false, nI_eq0, z, if_true]
    rfl
  · have z1 : g (34 + v) = 1 := by omega
    simp (disch := omega) only [s47_20, s47_21, s47_24, s47_27, s47_73, s47_76, s47_77, s47_78, s47_79, s47_82, s47_83, s47_84, s47_85, s47_88, s47_89, s47_90, s47_91, s47_94, s47_97, s47_98, s47_101, s47_102, s47_103, s47_104, gf0, gf1, gf2, gf3, gf4, gf5, gf6, gf7, gf8, gf9, gf10, gf11, gf12, gf13, gf14, pu0, pu1, pu2, pu3, pu4, pu5, pu6, pu7, pu8, pu9, pu10, pu11, pu12, pu13, pu14, rc_at, bK_some, Option.toList_some, Option.toList_none, List.cons_append, List.nil_append, NH_n hv, NH_h0 hv, a1, a2, a3, nI_lts, Nat.lt_irrefl, if_false, z1, z1_0]
    rfl
theorem c_linkMix (H : Pic g C) {l : Nat} (hl : l < 20) (c : Int64) : run 12 0 [.ref (lkA b l), .long c, .retAddr 0, .null, .null, .null] [] (NH h b C) = some (some (.long (ckL g l c)), NH h b C) := by
  obtain ⟨⟨a0, a1, a2⟩, ⟨b4, b5, b7, b8⟩, hf, b9, b6⟩ := H.2.2 l hl
  have key : ∀ m, m ≤ 4 → run 12 5 [.ref (lkA b l), .long c, .retAddr 0, .long c, .retAddr 0, .int (nI 0)] [] (NH h b C) = run 12 5 [.ref (lkA b l), .long c, .retAddr 0, .long (foldN (fun i c => ckM c (g (214 + 11 * l + (4 + i)))) m c), .retAddr 0, .int (nI m)] [] (NH h b C) := by
    intro m
    induction m with
    | zero => intro _; rfl
    | succ m ih =>
      intro hm
      have f1 : C 13 l m = g (214 + 11 * l + (4 + m)) := by
        rw [hf m (by omega), if_neg (by simp), Nat.add_zero]
        congr 1
        omega
      rw [ih (by omega), s12_5]
      simp (disch := omega) only [s12_7, s12_8, s12_11, s12_14, s12_15, s12_16, s12_17, s12_20, s12_22, s12_23, s12_24, s12_25, s12_26, s12_29, gf0, gf1, gf2, gf3, gf4, gf5, gf6, gf7, gf8, gf9, gf10, gf11, gf12, gf13, gf14, pu0, pu1, pu2, pu3, pu4, pu5, pu6, pu7, pu8, pu9, pu10, pu11, pu12, pu13, pu14, rc_at, bK_some, Option.toList_some, Option.toList_none, List.cons_append, List.nil_append, NH_l hl, NH_f hl, nI_lts, show m < 4 from by omega, if_true, al_N, f1, nI_adds]
      rfl
  have st : run 12 0 [.ref (lkA b l), .long c, .retAddr 0, .null, .null, .null] [] (NH h b C) = run 12 5 [.ref (lkA b l), .long c, .retAddr 0, .long c, .retAddr 0, .int (nI 0)] [] (NH h b C) := by
    simp (disch := omega) only [s12_0, s12_1, s12_2, s12_3]
  rw [st, key 4 (Nat.le_refl _), s12_5]
  unfold ckL
  rw [show foldN (fun i c => ckM c (g (214 + 11 * l + (4 + i)))) 7 c = ckM (ckM (ckM (foldN (fun i c => ckM c (g (214 + 11 * l + (4 + i)))) 4 c) (g (214 + 11 * l + (4 + 4)))) (g (214 + 11 * l + (4 + 5)))) (g (214 + 11 * l + (4 + 6))) from rfl]
  rw [show 214 + 11 * l + (4 + 4) = 222 + 11 * l from by omega, show 214 + 11 * l + (4 + 5) = 223 + 11 * l from by omega, show 214 + 11 * l + (4 + 6) = 224 + 11 * l from by omega]
  simp (disch := omega) only [s12_7, s12_8, s12_32, s12_35, s12_36, s12_37, s12_38, s12_41, s12_42, s12_43, s12_44, s12_47, s12_48, s12_49, s12_50, s12_53, s12_54, s12_55, s12_56, s12_59, s12_60, s12_61, s12_62, s12_65, s12_66, s12_67, gf0, gf1, gf2, gf3, gf4, gf5, gf6, gf7, gf8, gf9, gf10, gf11, gf12, gf13, gf14, pu0, pu1, pu2, pu3, pu4, pu5, pu6, pu7, pu8, pu9, pu10, pu11, pu12, pu13, pu14, rc_at, bK_some, Option.toList_some, Option.toList_none, List.cons_append, List.nil_append, NH_l hl, nI_lts, Nat.lt_irrefl, if_false, b5, b7, b8]
  rfl
theorem c_checksum (hx : CH h x n) (H : Pic g C) (hw : WF g) : run 104 0 [.ref x, .null, .null, .null] [] (NH h (x + 1) C) = some (some (.long (qCk g)), NH h (x + 1) C) := by
  have hxx := hx.at
  have h1 := hw.2.1
  have h2 := hw.2.2.1
  have h4 := hw.2.2.2.2.1
  obtain ⟨o0, o1, o2, o4, o5, o3, o6⟩ := H.1
  have k1 : ∀ c0 m, m ≤ g 1 → run 104 65 [.ref x, .long c0, .retAddr 0, .int (nI 0)] [] (NH h (x + 1) C) = run 104 65 [.ref x, .long (foldN (ckN g) m c0), .retAddr 0, .int (nI m)] [] (NH h (x + 1) C) := by
    intro c0 m
    induction m with
    | zero => intro _; rfl
    | succ m ih =>
      intro hm
      rw [ih (by omega), s104_65]
      simp (disch := omega) only [s104_66, s104_67, s104_70, s104_73, s104_76, s104_77, s104_80, s104_83, s104_84, s104_85, s104_86, s104_89, s104_90, s104_93, gf0, gf1, gf2, gf3, gf4, gf5, gf6, gf7, gf8, gf9, gf10, gf11, gf12, gf13, gf14, pu0, pu1, pu2, pu3, pu4, pu5, pu6, pu7, pu8, pu9, pu10, pu11, pu12, pu13, pu14, rc_at, bK_some, Option.toList_some, Option.toList_none, List.cons_append, List.nil_append, hxx, NH_0, NH_2, al_nd, NH_n (show m < 10 by omega), o1, nI_lts, show m < g 1 from by omega, if_true, c_nodeMix H hw (show m < 10 by omega), nI_adds]
      rfl
  have k2 : ∀ c0 m, m ≤ g 2 → run 104 98 [.ref x, .long c0, .retAddr 0, .int (nI 0)] [] (NH h (x + 1) C) = run 104 98 [.ref x, .long (foldN (ckL g) m c0), .retAddr 0, .int (nI m)] [] (NH h (x + 1) C) := by
    intro c0 m
    induction m with
    | zero => intro _; rfl
    | succ m ih =>
      intro hm
      rw [ih (by omega), s104_98]
      simp (disch := omega) only [s104_99, s104_100, s104_103, s104_106, s104_109, s104_110, s104_113, s104_116, s104_117, s104_118, s104_119, s104_122, s104_123, s104_126, gf0, gf1, gf2, gf3, gf4, gf5, gf6, gf7, gf8, gf9, gf10, gf11, gf12, gf13, gf14, pu0, pu1, pu2, pu3, pu4, pu5, pu6, pu7, pu8, pu9, pu10, pu11, pu12, pu13, pu14, rc_at, bK_some, Option.toList_some, Option.toList_none, List.cons_append, List.nil_append, hxx, NH_0, NH_93, al_lk, NH_l (show m < 20 by omega), o2, nI_lts, show m < g 2 from by omega, if_true, c_linkMix H (show m < 20 by omega), nI_adds]
      rfl
  have st : run 104 0 [.ref x, .null, .null, .null] [] (NH h (x + 1) C) = run 104 65 [.ref x, .long (ckM (ckM (ckM (ckM 61 (g 1)) (g 2)) (g 3)) (g 4)), .retAddr 0, .int (nI 0)] [] (NH h (x + 1) C) := by
    simp (disch := omega) only [s104_0, s104_3, s104_4, s104_7, s104_8, s104_9, s104_10, s104_13, s104_16, s104_17, s104_18, s104_19, s104_22, s104_23, s104_24, s104_25, s104_28, s104_31, s104_32, s104_33, s104_34, s104_37, s104_38, s104_39, s104_40, s104_43, s104_46, s104_47, s104_48, s104_49, s104_52, s104_53, s104_54, s104_55, s104_58, s104_61, s104_62, s104_63, s104_64, gf0, gf1, gf2, gf3, gf4, gf5, gf6, gf7, gf8, gf9, gf10, gf11, gf12, gf13, gf14, pu0, pu1, pu2, pu3, pu4, pu5, pu6, pu7, pu8, pu9, pu10, pu11, pu12, pu13, pu14, rc_at, bK_some, Option.toList_some, Option.toList_none, List.cons_append, List.nil_append, hxx, NH_0, o1, o2, o3, o4, ← nI_l h4]
    rfl
  rw [st, k1 _ _ (Nat.le_refl _), s104_65]
  simp (disch := omega) only [s104_66, s104_67, s104_70, s104_73, s104_96, s104_97, gf0, gf1, gf2, gf3, gf4, gf5, gf6, gf7, gf8, gf9, gf10, gf11, gf12, gf13, gf14, pu0, pu1, pu2, pu3, pu4, pu5, pu6, pu7, pu8, pu9, pu10, pu11, pu12, pu13, pu14, rc_at, bK_some, Option.toList_some, Option.toList_none, List.cons_append, List.nil_append, hxx, NH_0, o1, nI_lts, Nat.lt_irrefl, if_false]
  rw [k2 _ _ (Nat.le_refl _), s104_98]
  simp (disch := omega) only [s104_99, s104_100, s104_103, s104_106, s104_129, s104_130, gf0, gf1, gf2, gf3, gf4, gf5, gf6, gf7, gf8, gf9, gf10, gf11, gf12, gf13, gf14, pu0, pu1, pu2, pu3, pu4, pu5, pu6, pu7, pu8, pu9, pu10, pu11, pu12, pu13, pu14, rc_at, bK_some, Option.toList_some, Option.toList_none, List.cons_append, List.nil_append, hxx, NH_0, o2, nI_lts, Nat.lt_irrefl, if_false, qCk]
end CK
