/-! the rank of what was sent -/
def nB (b : Bool) : Nat := if b = true then 1 else 0
theorem nB_lt (b : Bool) : nB b < 2 ^ 31 := by cases b <;> decide
theorem nB_0 (b : Bool) : (nB b = 0) = (b = false) := by cases b <;> decide
theorem nB_1 (b : Bool) : (nB b = 1) = (b = true) := by cases b <;> decide
def rI (G : Nat → Nat) : aC := .inl (1, 256, .inl (nf G))
theorem al_r {G : Nat → Nat} {i : Nat} {α : Type} {K : Int32 → Option α} (hi : i < 256) : alK (nI i) (some (rI G)) (fun t => t == 1) K = K (nI (G i)) := by
  unfold rI; rw [al_Z hi (by decide)]; rfl
theorem as_r {G : Nat → Nat} {i v : Nat} {α : Type} {K : aC → Option α} (hi : i < 256) : asK (nI i) (some (rI G)) 1 (nI v) K = K (rI (up G i v)) := by
  unfold rI; rw [as_I hi (by decide), upd_nf]
/-- the set closed under one more vector -/
def adB (z : Nat → Bool) (p : Nat) : Nat → Bool := fun j => z j || z (j ^^^ p)
/-- the sums of the vectors below w -/
def spZ (p : Nat → Bool) : Nat → (Nat → Bool)
  | 0 => fun j => decide (j = 0)
  | w + 1 => if p (w + 1) = true ∧ spZ p w (w + 1) = false then adB (spZ p w) (w + 1) else spZ p w
def spC (p : Nat → Bool) : Nat → Nat
  | 0 => 0
  | w + 1 => if p (w + 1) = true ∧ spZ p w (w + 1) = false then spC p w + 1 else spC p w
theorem spC_le (p : Nat → Bool) (w : Nat) : spC p w ≤ w := by
  induction w with
  | zero => exact Nat.le_refl 0
  | succ w ih => simp only [spC]; split <;> omega
def sntB (g : Nat → Nat) (v : Nat) : Nat → Bool := fun w => decide (g (434 + 256 * v + w) = 1)
def qSentR (g : Nat → Nat) (v : Int32) : Int32 := if relN g v = true then nI (spC (sntB g (cl v)) 255) else -1
section MO47
variable {h : aH} {x : Nat} {g : Nat → Nat} {tl : Value} {rest : List Value}
theorem m_adds (H : MX h x tl rest) {G : Nat → Nat} {z : Nat → Bool} (hG : hget h (x + 8) = some (rI G)) (hz : ∀ j, j < 256 → G j = nB (z j)) {p : Nat} (hp : p < 256) : ∃ G', run 169 0 [.ref x, .int (nI p), .null] [] h = some (none, hset h (x + 8) (rI G')) ∧ ∀ j, j < 256 → G' j = nB (adB z p j) := by
  unfold MX at H
  have hx : ∀ G', hget (hset h (x + 8) (rI G')) x = hget h x := fun _ => hget_ne (by omega)
  have key : ∀ m, m ≤ 256 → ∃ G', run 169 2 [.ref x, .int (nI p), .int (nI 0)] [] h = run 169 2 [.ref x, .int (nI p), .int (nI m)] [] (hset h (x + 8) (rI G')) ∧ ∀ j, j < 256 → G' j = nB (z j || (decide (j ^^^ p < m) && z (j ^^^ p))) := by
    intro m
    induction m with
    | zero => intro _; exact ⟨G, by rw [hset_same hG], fun j hj => by rw [hz j hj]; simp⟩
    | succ m ih =>
      intro hm
      obtain ⟨G', e1, e2⟩ := ih (by omega)
      have hxor : m ^^^ p < 2 ^ 8 := Nat.xor_lt_two_pow (by omega) (by omega)
      have hb1 : G' m < 2 ^ 31 := by rw [e2 m (by omega)]; exact nB_lt _
      have hb2 : G' (m ^^^ p) < 2 ^ 31 := by rw [e2 _ hxor]; exact nB_lt _
      have hxx : m ^^^ p ^^^ p = m := by rw [Nat.xor_assoc, Nat.xor_self, Nat.xor_zero]
      have hjm : ∀ j, j ^^^ p = m → j = m ^^^ p := by intro j e; rw [← e, Nat.xor_assoc, Nat.xor_self, Nat.xor_zero]
      have hlast : ∀ j, j < 256 → j ≠ m ^^^ p → (z j || (decide (j ^^^ p < m + 1) && z (j ^^^ p))) = (z j || (decide (j ^^^ p < m) && z (j ^^^ p))) := by
        intro j _ hne
        have : j ^^^ p ≠ m := fun e => hne (hjm j e)
        have e : decide (j ^^^ p < m + 1) = decide (j ^^^ p < m) := decide_eq_decide.mpr (by omega)
        rw [e]
      rw [e1, s169_2]
      by_cases c1 : G' m = 0
      · refine ⟨G', ?_, ?_⟩
        · simp (disch := omega) only [s169_3, s169_6, s169_9, s169_10, s169_13, s169_14, s169_15, s169_18, s169_19, s169_22, s169_23, s169_24, s169_25, s169_26, s169_29, s169_30, s169_33, s169_34, s169_35, s169_36, s169_37, s169_38, s169_41, gf0, gf1, gf2, gf3, gf4, gf5, gf6, gf7, gf8, gf9, gf10, gf11, gf12, gf13, gf14, pu0, pu1, pu2, pu3, pu4, pu5, pu6, pu7, pu8, pu9, pu10, pu11, pu12, pu13, pu14, rc_at, bK_some, Option.toList_some, Option.toList_none, List.cons_append, List.nil_append, hx, H, hget_set, al_r, nI_lts, show m < 256 from by omega, if_true, nI_eq0, c1, nI_adds]
        · intro j hj
          rw [e2 j hj]
          by_cases hne : j = m ^^^ p
          · subst hne
            rw [e2 m (by omega), nB_0, Bool.or_eq_false_iff] at c1
            rw [hxx, c1.1]; simp
          · rw [hlast j hj hne]
      · by_cases c2 : G' (m ^^^ p) = 0
        · refine ⟨up G' (m ^^^ p) 1, ?_, ?_⟩
          · simp (disch := omega) only [s169_3, s169_6, s169_9, s169_10, s169_13, s169_14, s169_15, s169_18, s169_19, s169_22, s169_23, s169_24, s169_25, s169_26, s169_29, s169_30, s169_33, s169_34, s169_35, s169_36, s169_37, s169_38, s169_41, gf0, gf1, gf2, gf3, gf4, gf5, gf6, gf7, gf8, gf9, gf10, gf11, gf12, gf13, gf14, pu0, pu1, pu2, pu3, pu4, pu5, pu6, pu7, pu8, pu9, pu10, pu11, pu12, pu13, pu14, rc_at, bK_some, Option.toList_some, Option.toList_none, List.cons_append, List.nil_append, hx, H, hget_set, hset_set, al_r, as_r, nI_xor, nar_1, nI_lts, show m < 256 from by omega, if_true, nI_eq0, c1, c2, if_false, nI_adds]
          · intro j hj
            by_cases hne : j = m ^^^ p
            · subst hne
              rw [up_same, hxx]
              rw [e2 m (by omega), nB_0] at c1
              rw [e2 _ hxor, nB_0, hxx, Bool.or_eq_false_iff] at c2
              cases hzm : z m
              · rw [hzm, c2.1] at c1; simp at c1
              · simp [nB]
            · rw [up_ne hne, e2 j hj, hlast j hj hne]
        · refine ⟨G', ?_, ?_⟩
          · simp (disch := omega) only [s169_3, s169_6, s169_9, s169_10, s169_13, s169_14, s169_15, s169_18, s169_19, s169_22, s169_23, s169_24, s169_25, s169_26, s169_29, s169_30, s169_33, s169_34, s169_35, s169_36, s169_37, s169_38, s169_41, gf0, gf1, gf2, gf3, gf4, gf5, gf6, gf7, gf8, gf9, gf10, gf11, gf12, gf13, gf14, pu0, pu1, pu2, pu3, pu4, pu5, pu6, pu7, pu8, pu9, pu10, pu11, pu12, pu13, pu14, rc_at, bK_some, Option.toList_some, Option.toList_none, List.cons_append, List.nil_append, hx, H, hget_set, hset_set, al_r, as_r, nI_xor, nI_lts, show m < 256 from by omega, if_true, nI_eq0, c1, c2, if_false, nI_adds]
          · intro j hj
            by_cases hne : j = m ^^^ p
            · subst hne
              rw [e2 _ hxor, nB_0, Bool.not_eq_false] at c2
              rw [e2 _ hxor, c2]
              rw [hxx] at c2 ⊢
              cases hz2 : z (m ^^^ p)
              · rw [hz2] at c2; simp at c2
              · simp
            · rw [e2 j hj, hlast j hj hne]
  obtain ⟨G', e1, e2⟩ := key 256 (Nat.le_refl _)
  refine ⟨G', ?_, ?_⟩
  · simp only [s169_0, s169_1]
    rw [e1, s169_2]
    simp (disch := omega) only [s169_3, s169_6, s169_44, nI_lts, Nat.lt_irrefl, if_false]
  · intro j hj
    have : j ^^^ p < 2 ^ 8 := Nat.xor_lt_two_pow (by omega) (by omega)
    rw [e2 j hj]
    simp [adB, show j ^^^ p < 256 from this]
theorem m_sentRank (H : MX h x tl rest) {G : Nat → Nat} (hm : hget h (x + 1) = some (mI g)) (hG : hget h (x + 8) = some (rI G)) (hw : WF g) (v : Int32) : ∃ G', run 168 0 [.ref x, .int v, .null, .null] [] h = some (some (.int (qSentR g v)), hset h (x + 8) (rI G')) := by
  have HM : MO h x _ g := ⟨H, hm⟩
  have h20 := hw.2.2.1
  have hn := hw.2.1
  have hH := id H
  unfold MX at H
  have hx : ∀ G', hget (hset h (x + 8) (rI G')) x = hget h x := fun _ => hget_ne (by omega)
  have hx1 : ∀ G', hget (hset h (x + 8) (rI G')) (x + 1) = hget h (x + 1) := fun _ => hget_ne (by omega)
  simp only [s168_0, s168_1, s168_2, s168_5, s168_8, s168_9, s168_10, s168_11, gf0, gf1, gf2, gf3, gf4, gf5, gf6, gf7, gf8, gf9, gf10, gf11, gf12, gf13, gf14, pu0, pu1, pu2, pu3, pu4, pu5, pu6, pu7, pu8, pu9, pu10, pu11, pu12, pu13, pu14, rc_at, bK_some, Option.toList_some, Option.toList_none, List.cons_append, List.nil_append, H, m_isRelay HM h20, bI_0]
  unfold qSentR
  cases hc : relN g v
  · simp only [if_true, if_false, Bool.false_eq_true]
    exact ⟨G, by rw [hset_same hG]⟩
  · obtain ⟨j, hj0, hj1, rfl, hcl⟩ := relN_t hw hc
    simp only [if_true, if_false, Bool.true_eq_false, hcl]
    have k1 : ∀ m, m ≤ 256 → ∃ G', run 168 12 [.ref x, .int (nI j), .int (nI 0), .null] [] h = run 168 12 [.ref x, .int (nI j), .int (nI m), .null] [] (hset h (x + 8) (rI G')) ∧ ∀ i, i < m → G' i = nB (decide (i = 0)) := by
      intro m
      induction m with
      | zero => intro _; exact ⟨G, by rw [hset_same hG], fun i hi => absurd hi (Nat.not_lt_zero i)⟩
      | succ m ih =>
        intro hm1
        obtain ⟨G', e1, e2⟩ := ih (by omega)
        refine ⟨up G' m (nB (decide (m = 0))), ?_, ?_⟩
        · rw [e1, s168_12]
          by_cases c : m = 0
          · simp (disch := omega) only [s168_13, s168_16, s168_19, s168_20, s168_23, s168_24, s168_25, s168_28, s168_29, s168_32, s168_33, s168_34, s168_37, gf0, gf1, gf2, gf3, gf4, gf5, gf6, gf7, gf8, gf9, gf10, gf11, gf12, gf13, gf14, pu0, pu1, pu2, pu3, pu4, pu5, pu6, pu7, pu8, pu9, pu10, pu11, pu12, pu13, pu14, rc_at, bK_some, Option.toList_some, Option.toList_none, List.cons_append, List.nil_append, hx, H, hget_set, hset_set, as_r, nar_1, nar_0, nI_lts, show (0 : Nat) < 256 from by omega, if_true, nI_eq0, c, nI_adds, decide_true, nB]
          · simp (disch := omega) only [s168_13, s168_16, s168_19, s168_20, s168_23, s168_24, s168_25, s168_28, s168_29, s168_32, s168_33, s168_34, s168_37, gf0, gf1, gf2, gf3, gf4, gf5, gf6, gf7, gf8, gf9, gf10, gf11, gf12, gf13, gf14, pu0, pu1, pu2, pu3, pu4, pu5, pu6, pu7, pu8, pu9, pu10, pu11, pu12, pu13, pu14, rc_at, bK_some, Option.toList_some, Option.toList_none, List.cons_append, List.nil_append, hx, H, hget_set, hset_set, as_r, nar_1, nar_0, nI_lts, show m < 256 from by omega, if_true, nI_eq0, c, if_false, nI_adds, decide_false, nB, Bool.false_eq_true]
        · intro i hi
          by_cases hne : i = m
          · subst hne; rw [up_same]
          · rw [up_ne hne]; exact e2 i (by omega)
    obtain ⟨G1, e1, e2⟩ := k1 256 (Nat.le_refl _)
    rw [e1, s168_12]
    simp (disch := omega) only [s168_13, s168_16, s168_40, s168_41, s168_42, s168_43, nI_lts, Nat.lt_irrefl, if_false]
    have hgb : ∀ i, i < 256 → g (434 + 256 * j + i) < 2 ^ 31 := by
      intro i hi
      have := hw.2.2.2.2.2.2.2.2.1 (256 * j + i) (by omega)
      rw [← Nat.add_assoc] at this; omega
    have k2 : ∀ m, m ≤ 255 → ∃ G', run 168 44 [.ref x, .int (nI j), .int (nI 0), .int (nI 1)] [] (hset h (x + 8) (rI G1)) = run 168 44 [.ref x, .int (nI j), .int (nI (spC (sntB g j) m)), .int (nI (m + 1))] [] (hset h (x + 8) (rI G')) ∧ ∀ i, i < 256 → G' i = nB (spZ (sntB g j) m i) := by
      intro m
      induction m with
      | zero => intro _; exact ⟨G1, rfl, fun i hi => e2 i hi⟩
      | succ m ih =>
        intro hm1
        obtain ⟨G', f1, f2⟩ := ih (by omega)
        have hb := hgb (m + 1) (by omega)
        have hz := f2 (m + 1) (by omega)
        have hb2 : G' (m + 1) < 2 ^ 31 := by rw [hz]; exact nB_lt _
        have hH' : MX (hset h (x + 8) (rI G')) x tl rest := by unfold MX; rw [hx]; exact H
        rw [f1, s168_44]
        by_cases c1 : g (434 + 256 * j + (m + 1)) = 1
        · have c1' : sntB g j (m + 1) = true := by simp [sntB, c1]
          cases c2 : spZ (sntB g j) m (m + 1)
          · obtain ⟨G2, a1, a2⟩ := m_adds hH' (hget_set _ _ _) f2 (show m + 1 < 256 by omega)
            rw [hset_set] at a1
            have c3 : G' (m + 1) = 0 := by rw [hz, c2]; rfl
            refine ⟨G2, ?_, ?_⟩
            · simp (disch := omega) only [s168_45, s168_48, s168_51, s168_52, s168_55, s168_58, s168_61, s168_62, s168_63, s168_64, s168_65, s168_66, s168_67, s168_68, s168_71, s168_72, s168_75, s168_76, s168_77, s168_80, s168_83, s168_84, s168_85, s168_88, s168_91, gf0, gf1, gf2, gf3, gf4, gf5, gf6, gf7, gf8, gf9, gf10, gf11, gf12, gf13, gf14, pu0, pu1, pu2, pu3, pu4, pu5, pu6, pu7, pu8, pu9, pu10, pu11, pu12, pu13, pu14, rc_at, bK_some, Option.toList_some, Option.toList_none, List.cons_append, List.nil_append, hx, hx1, H, hm, hget_set, al_r, al_m, nI_mul, nI_adds, nI_lts, nI_eqs, show m + 1 < 256 from by omega, if_true, c1, c3, nI_eq0, a1, spC, c1', c2, and_self]
            · intro i hi
              rw [a2 i hi]
              simp only [spZ, c1', c2, and_self, if_true]
          · have c3 : G' (m + 1) = 1 := by rw [hz, c2]; rfl
            refine ⟨G', ?_, ?_⟩
            · simp (disch := omega) only [s168_45, s168_48, s168_51, s168_52, s168_55, s168_58, s168_61, s168_62, s168_63, s168_64, s168_65, s168_66, s168_67, s168_68, s168_71, s168_72, s168_75, s168_76, s168_77, s168_80, s168_83, s168_84, s168_85, s168_88, s168_91, gf0, gf1, gf2, gf3, gf4, gf5, gf6, gf7, gf8, gf9, gf10, gf11, gf12, gf13, gf14, pu0, pu1, pu2, pu3, pu4, pu5, pu6, pu7, pu8, pu9, pu10, pu11, pu12, pu13, pu14, rc_at, bK_some, Option.toList_some, Option.toList_none, List.cons_append, List.nil_append, hx, hx1, H, hm, hget_set, al_r, al_m, nI_mul, nI_adds, nI_lts, nI_eqs, show m + 1 < 256 from by omega, if_true, c1, c3, nI_eq0, Nat.one_ne_zero, spC, c1', c2, Bool.true_eq_false, and_false, if_false]
            · intro i hi
              rw [f2 i hi]
              simp only [spZ, c2, Bool.true_eq_false, and_false, if_false]
        · have c1' : sntB g j (m + 1) = false := by simp [sntB, c1]
          refine ⟨G', ?_, ?_⟩
          · simp (disch := omega) only [s168_45, s168_48, s168_51, s168_52, s168_55, s168_58, s168_61, s168_62, s168_63, s168_64, s168_65, s168_66, s168_67, s168_68, s168_71, s168_72, s168_75, s168_76, s168_77, s168_80, s168_83, s168_84, s168_85, s168_88, s168_91, gf0, gf1, gf2, gf3, gf4, gf5, gf6, gf7, gf8, gf9, gf10, gf11, gf12, gf13, gf14, pu0, pu1, pu2, pu3, pu4, pu5, pu6, pu7, pu8, pu9, pu10, pu11, pu12, pu13, pu14, rc_at, bK_some, Option.toList_some, Option.toList_none, List.cons_append, List.nil_append, hx, hx1, H, hm, hget_set, al_r, al_m, nI_mul, nI_adds, nI_lts, nI_eqs, show m + 1 < 256 from by omega, if_true, c1, spC, c1', Bool.false_eq_true, false_and, if_false]
          · intro i hi
            rw [f2 i hi]
            simp only [spZ, c1', Bool.false_eq_true, false_and, if_false]
    obtain ⟨G2, f1, _⟩ := k2 255 (Nat.le_refl _)
    rw [f1, s168_44]
    refine ⟨G2, ?_⟩
    simp (disch := omega) only [s168_45, s168_48, s168_94, s168_95, nI_lts, Nat.lt_irrefl, if_false]
end MO47
