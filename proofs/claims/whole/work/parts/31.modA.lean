/-! THE MODEL's methods, as functions of its row m: first the small ones -/
def inI (v lo hi : Int32) : Bool := decide (¬ v < lo) && decide (¬ hi < v)
theorem m_in (v lo hi : Int32) (h : aH) : run 106 0 [.int v, .int lo, .int hi] [] h = some (some (.int (bI (inI v lo hi))), h) := by
  simp only [s106_0, s106_1, s106_2, s106_5, s106_6, s106_7, s106_10, s106_11, s106_14, s106_15]
  by_cases h1 : v < lo
  · simp [h1, inI, bI, z01_0]
  · by_cases h2 : hi < v <;> simp [h1, h2, inI, bI, z01_0, z01_1]
def hasN (s k : Nat) : Bool := decide (s / 2 ^ k % 2 = 1)
theorem m_has {s k : Nat} (hs : s < 2 ^ 31) (hk : k < 32) (h : aH) : run 107 0 [.int (nI s), .int (nI k)] [] h = some (some (.int (bI (hasN s k))), h) := by
  have e : s / 2 ^ k &&& 1 = s / 2 ^ k % 2 := Nat.and_one_is_mod _
  have hlt : s / 2 ^ k % 2 < 2 ^ 31 := by omega
  simp only [s107_0, s107_1, s107_2, s107_3, s107_4, s107_5, s107_6, s107_9, s107_10, s107_13, s107_14, nI_shr hs hk, nI_and, e, nI_eqs hlt (show 1 < 2 ^ 31 by decide)]
  by_cases h1 : s / 2 ^ k % 2 = 1 <;> simp [h1, hasN, bI, z01_0, z01_1]
/-- the model at x: its row m -/
def mI (g : Nat → Nat) : aC := .inl (0, 2994, .inl (nf g))
def MO (h : aH) (x : Nat) (r : List Value) (g : Nat → Nat) : Prop := hget h x = some (.inr (7, .ref (x + 1) :: r)) ∧ hget h (x + 1) = some (mI g)
theorem MO.set {h : aH} {x : Nat} {r : List Value} {g g' : Nat → Nat} (H : MO h x r g) : MO (hset h (x + 1) (mI g')) x r g' := ⟨by rw [hget_ne (by omega)]; exact H.1, hget_set _ _ _⟩
theorem MO.eq {h : aH} {x : Nat} {r : List Value} {g : Nat → Nat} (H : MO h x r g) : h = hset h (x + 1) (mI g) := (hset_same H.2).symm
section MA
variable {h : aH} {x : Nat} {r : List Value} {g : Nat → Nat}
theorem m_of (H : MO h x r g) {l w : Nat} (hl : l < 20) (hw : w < 11) : run 111 0 [.ref x, .int (nI l), .int (nI w)] [] h = some (some (.int (nI (g (214 + 11 * l + w)))), h) := by
  obtain ⟨H1, H2⟩ := H
  simp (disch := omega) only [s111_0, s111_1, s111_4, s111_7, s111_9, s111_10, s111_11, s111_12, s111_13, s111_14, s111_15, gf0, gf1, gf2, gf3, gf4, gf5, gf6, gf7, gf8, gf9, gf10, gf11, gf12, gf13, gf14, pu0, pu1, pu2, pu3, pu4, pu5, pu6, pu7, pu8, pu9, pu10, pu11, pu12, pu13, pu14, rc_at, bK_some, Option.toList_some, Option.toList_none, List.cons_append, List.nil_append, H1, H2, mI, nI_mul, nI_adds, al_I, nf_at]
theorem m_put (H : MO h x r g) {l w : Nat} (hl : l < 20) (hw : w < 11) (v : Nat) : run 112 0 [.ref x, .int (nI l), .int (nI w), .int (nI v)] [] h = some (none, hset h (x + 1) (mI (up g (214 + 11 * l + w) v))) := by
  obtain ⟨H1, H2⟩ := H
  simp (disch := omega) only [s112_0, s112_1, s112_4, s112_7, s112_9, s112_10, s112_11, s112_12, s112_13, s112_14, s112_15, s112_16, gf0, gf1, gf2, gf3, gf4, gf5, gf6, gf7, gf8, gf9, gf10, gf11, gf12, gf13, gf14, pu0, pu1, pu2, pu3, pu4, pu5, pu6, pu7, pu8, pu9, pu10, pu11, pu12, pu13, pu14, rc_at, bK_some, Option.toList_some, Option.toList_none, List.cons_append, List.nil_append, H1, H2, mI, nI_mul, nI_adds, as_I, upd_nf]
theorem m_isNode (H : MO h x r g) (v : Int32) : run 109 0 [.ref x, .int v] [] h = some (some (.int (bI (inI v (nI 0) (nI (g 1) - nI 1)))), h) := by
  obtain ⟨H1, H2⟩ := H
  simp (disch := omega) only [s109_0, s109_1, s109_2, s109_3, s109_6, s109_7, s109_8, s109_9, s109_10, s109_13, gf0, gf1, gf2, gf3, gf4, gf5, gf6, gf7, gf8, gf9, gf10, gf11, gf12, gf13, gf14, pu0, pu1, pu2, pu3, pu4, pu5, pu6, pu7, pu8, pu9, pu10, pu11, pu12, pu13, pu14, rc_at, bK_some, Option.toList_some, Option.toList_none, List.cons_append, List.nil_append, H1, H2, mI, al_I, nf_at, m_in, bI_01, if_true]
theorem m_isLink (H : MO h x r g) (v : Int32) : run 110 0 [.ref x, .int v] [] h = some (some (.int (bI (inI v (nI 0) (nI (g 2) - nI 1)))), h) := by
  obtain ⟨H1, H2⟩ := H
  simp (disch := omega) only [s110_0, s110_1, s110_2, s110_3, s110_6, s110_7, s110_8, s110_9, s110_10, s110_13, gf0, gf1, gf2, gf3, gf4, gf5, gf6, gf7, gf8, gf9, gf10, gf11, gf12, gf13, gf14, pu0, pu1, pu2, pu3, pu4, pu5, pu6, pu7, pu8, pu9, pu10, pu11, pu12, pu13, pu14, rc_at, bK_some, Option.toList_some, Option.toList_none, List.cons_append, List.nil_append, H1, H2, mI, al_I, nf_at, m_in, bI_01, if_true]
def opN (g : Nat → Nat) (l : Nat) : Bool := decide (g (34 + g (214 + 11 * l)) = 0) && decide (g (34 + g (215 + 11 * l)) = 0)
theorem m_isOpen (H : MO h x r g) {l : Nat} (hl : l < 20) (h1 : g (214 + 11 * l) < 10) (h2 : g (215 + 11 * l) < 10) (h3 : g (34 + g (214 + 11 * l)) < 2 ^ 31) (h4 : g (34 + g (215 + 11 * l)) < 2 ^ 31) : run 113 0 [.ref x, .int (nI l)] [] h = some (some (.int (bI (opN g l))), h) := by
  have e1 : 214 + 11 * l + 1 = 215 + 11 * l := by omega
  obtain ⟨H1, H2⟩ := id H
  simp (disch := omega) only [s113_0, s113_1, s113_4, s113_6, s113_7, s113_8, s113_9, s113_12, s113_13, s113_14, s113_17, s113_18, s113_21, s113_23, s113_24, s113_25, s113_26, s113_29, s113_30, s113_31, s113_34, s113_35, s113_38, s113_39, gf0, gf1, gf2, gf3, gf4, gf5, gf6, gf7, gf8, gf9, gf10, gf11, gf12, gf13, gf14, pu0, pu1, pu2, pu3, pu4, pu5, pu6, pu7, pu8, pu9, pu10, pu11, pu12, pu13, pu14, rc_at, bK_some, Option.toList_some, Option.toList_none, List.cons_append, List.nil_append, H1, H2, m_of H, Nat.add_zero, e1, mI, nI_adds, al_I, nf_at, nI_eq0]
  by_cases c1 : g (34 + g (214 + 11 * l)) = 0
  · by_cases c2 : g (34 + g (215 + 11 * l)) = 0 <;> simp [c1, c2, opN, bI, n0, n1]
  · simp [c1, opN, bI, n0]
theorem m_all (H : MO h x r g) (hk : g 0 < 31) : run 115 0 [.ref x] [] h = some (some (.int (nI (2 ^ g 0 - 1))), h) := by
  obtain ⟨H1, H2⟩ := H
  have : 1 ≤ 2 ^ g 0 := Nat.one_le_two_pow
  simp (disch := omega) only [s115_0, s115_1, s115_2, s115_5, s115_6, s115_7, s115_8, s115_9, s115_10, gf0, gf1, gf2, gf3, gf4, gf5, gf6, gf7, gf8, gf9, gf10, gf11, gf12, gf13, gf14, pu0, pu1, pu2, pu3, pu4, pu5, pu6, pu7, pu8, pu9, pu10, pu11, pu12, pu13, pu14, rc_at, bK_some, Option.toList_some, Option.toList_none, List.cons_append, List.nil_append, H1, H2, mI, al_I, nf_at, nI_shl1, nI_sub]
theorem m_isProjection (H : MO h x r g) (hk : g 0 < 31) (p : Int32) : run 116 0 [.ref x, .int p] [] h = some (some (.int (bI (inI p (nI 1) (nI (2 ^ g 0 - 1))))), h) := by
  obtain ⟨H1, H2⟩ := id H
  simp (disch := omega) only [s116_0, s116_1, s116_2, s116_3, s116_6, s116_9, gf0, gf1, gf2, gf3, gf4, gf5, gf6, gf7, gf8, gf9, gf10, gf11, gf12, gf13, gf14, pu0, pu1, pu2, pu3, pu4, pu5, pu6, pu7, pu8, pu9, pu10, pu11, pu12, pu13, pu14, rc_at, bK_some, Option.toList_some, Option.toList_none, List.cons_append, List.nil_append, H1, m_all H hk, m_in, bI_01, if_true]
theorem m_vectorOf (H : MO h x r g) {v i : Nat} (hv : v < 10) (hi : i < 8) : run 117 0 [.ref x, .int (nI v), .int (nI i)] [] h = some (some (.int (nI (g (54 + 16 * v + 2 * i)))), h) := by
  obtain ⟨H1, H2⟩ := H
  simp (disch := omega) only [s117_0, s117_1, s117_4, s117_6, s117_8, s117_9, s117_10, s117_11, s117_12, s117_13, s117_14, s117_15, s117_16, gf0, gf1, gf2, gf3, gf4, gf5, gf6, gf7, gf8, gf9, gf10, gf11, gf12, gf13, gf14, pu0, pu1, pu2, pu3, pu4, pu5, pu6, pu7, pu8, pu9, pu10, pu11, pu12, pu13, pu14, rc_at, bK_some, Option.toList_some, Option.toList_none, List.cons_append, List.nil_append, H1, H2, mI, nI_mul, nI_adds, al_I, nf_at]
theorem m_payloadOf (H : MO h x r g) {v i : Nat} (hv : v < 10) (hi : i < 8) : run 118 0 [.ref x, .int (nI v), .int (nI i)] [] h = some (some (.int (nI (g (55 + 16 * v + 2 * i)))), h) := by
  have e : 54 + 16 * v + 2 * i + 1 = 55 + 16 * v + 2 * i := by omega
  obtain ⟨H1, H2⟩ := H
  simp (disch := omega) only [s118_0, s118_1, s118_4, s118_6, s118_8, s118_9, s118_10, s118_11, s118_12, s118_13, s118_14, s118_15, s118_16, s118_17, s118_18, gf0, gf1, gf2, gf3, gf4, gf5, gf6, gf7, gf8, gf9, gf10, gf11, gf12, gf13, gf14, pu0, pu1, pu2, pu3, pu4, pu5, pu6, pu7, pu8, pu9, pu10, pu11, pu12, pu13, pu14, rc_at, bK_some, Option.toList_some, Option.toList_none, List.cons_append, List.nil_append, H1, H2, mI, nI_mul, nI_adds, e, al_I, nf_at]
/-- a sum is accepted -/
def gAcc (g : Nat → Nat) (v a p : Nat) : Nat → Nat := up (up (up g (54 + 16 * v + 2 * g (44 + v)) a) (55 + 16 * v + 2 * g (44 + v)) p) (44 + v) (g (44 + v) + 1)
theorem m_accept (H : MO h x r g) {v : Nat} (hv : v < 10) (hr : g (44 + v) < 8) (a p : Nat) : run 119 0 [.ref x, .int (nI v), .int (nI a), .int (nI p), .null] [] h = some (none, hset h (x + 1) (mI (gAcc g v a p))) := by
  have e : 54 + 16 * v + 2 * g (44 + v) + 1 = 55 + 16 * v + 2 * g (44 + v) := by omega
  obtain ⟨H1, H2⟩ := H
  simp (disch := omega) only [s119_0, s119_2, s119_4, s119_5, s119_6, s119_7, s119_8, s119_9, s119_12, s119_14, s119_15, s119_16, s119_17, s119_18, s119_19, s119_21, s119_22, s119_25, s119_27, s119_28, s119_29, s119_30, s119_33, s119_35, s119_36, s119_37, s119_38, s119_39, s119_40, s119_43, s119_45, s119_46, s119_47, s119_48, s119_49, s119_50, s119_51, s119_52, gf0, gf1, gf2, gf3, gf4, gf5, gf6, gf7, gf8, gf9, gf10, gf11, gf12, gf13, gf14, pu0, pu1, pu2, pu3, pu4, pu5, pu6, pu7, pu8, pu9, pu10, pu11, pu12, pu13, pu14, rc_at, bK_some, Option.toList_some, Option.toList_none, List.cons_append, List.nil_append, H1, H2, mI, nI_mul, nI_adds, e, al_I, as_I, nf_at, upd_nf, hget_ne, hget_set, hset_set, up_ne]
  rfl
end MA
