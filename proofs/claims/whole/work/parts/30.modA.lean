/-! THE MODEL's methods, as functions of its row m -/
def bI (b : Bool) : Int32 := if b = true then 1 else 0
theorem bI_t : bI true = 1 := rfl
theorem bI_f : bI false = 0 := rfl
theorem bI_0 (b : Bool) : (bI b = 0) = (b = false) := by cases b <;> simp [bI] <;> decide
theorem bI_1 (b : Bool) : (bI b = 1) = (b = true) := by cases b <;> simp [bI] <;> decide
theorem bI_01 (b : Bool) : (bI b = 0 ∨ bI b = 1) = True := by cases b <;> simp [bI]
theorem n0 : nI 0 = 0 := rfl
theorem n1 : nI 1 = 1 := rfl
theorem nI_adds (a b : Nat) : nI a + nI b = nI (a + b) := nI_add a b
theorem nI_mul (a b : Nat) : nI a * nI b = nI (a * b) := pk_mul a b
def inI (v lo hi : Int32) : Bool := decide (¬ v < lo) && decide (¬ hi < v)
theorem m_in (v lo hi : Int32) (h : aH) : run 106 0 [.int v, .int lo, .int hi] [] h = some (some (.int (bI (inI v lo hi))), h) := by
  simp only [s106_0, s106_1, s106_2, s106_5, s106_6, s106_7, s106_10, s106_11, s106_14, s106_15]
  by_cases h1 : v < lo
  · simp [h1, inI, n0, bI]
  · by_cases h2 : hi < v <;> simp [h1, h2, inI, n0, n1, bI]
def hasI (s k : Int32) : Bool := decide (s >>> (k &&& 31) &&& 1 = 1)
theorem m_has (s k : Int32) (h : aH) : run 107 0 [.int s, .int k] [] h = some (some (.int (bI (hasI s k))), h) := by
  simp only [s107_0, s107_1, s107_2, s107_3, s107_4, s107_5, s107_6, s107_9, s107_10, s107_13, s107_14, n1]
  by_cases h1 : s >>> (k &&& 31) &&& 1 = 1 <;> simp [h1, hasI, n0, n1, bI]
/-- the model at x: its row m -/
def MO (h : aH) (x : Nat) (r : List Value) (mm : Nat → Int32) : Prop := hget h x = some (.inr (7, .ref (x + 1) :: r)) ∧ hget h (x + 1) = some (.inl (0, 2994, .inl mm))
def mI (mm : Nat → Int32) : aC := .inl (0, 2994, .inl mm)
theorem MO.set {h : aH} {x : Nat} {r : List Value} {mm mm' : Nat → Int32} (H : MO h x r mm) : MO (hset h (x + 1) (mI mm')) x r mm' := ⟨by rw [hget_ne (by omega)]; exact H.1, hget_set _ _ _⟩
section MA
variable {h : aH} {x : Nat} {r : List Value} {mm : Nat → Int32}
theorem m_of (H : MO h x r mm) {l w : Nat} (hl : l < 20) (hw : w < 11) : run 111 0 [.ref x, .int (nI l), .int (nI w)] [] h = some (some (.int (mm (214 + 11 * l + w))), h) := by
  obtain ⟨H1, H2⟩ := H
  simp (disch := omega) only [s111_0, s111_1, s111_4, s111_7, s111_9, s111_10, s111_11, s111_12, s111_13, s111_14, s111_15, gf0, gf1, gf2, gf3, gf4, gf5, gf6, gf7, gf8, gf9, gf10, gf11, gf12, gf13, gf14, pu0, pu1, pu2, pu3, pu4, pu5, pu6, pu7, pu8, pu9, pu10, pu11, pu12, pu13, pu14, rc_at, bK_some, Option.toList_some, Option.toList_none, List.cons_append, List.nil_append, H1, H2, nI_mul, nI_adds, al_I]
theorem m_put (H : MO h x r mm) {l w : Nat} (hl : l < 20) (hw : w < 11) (v : Int32) : run 112 0 [.ref x, .int (nI l), .int (nI w), .int v] [] h = some (none, hset h (x + 1) (mI (upd mm (214 + 11 * l + w) v))) := by
  obtain ⟨H1, H2⟩ := H
  simp (disch := omega) only [s112_0, s112_1, s112_4, s112_7, s112_9, s112_10, s112_11, s112_12, s112_13, s112_14, s112_15, s112_16, gf0, gf1, gf2, gf3, gf4, gf5, gf6, gf7, gf8, gf9, gf10, gf11, gf12, gf13, gf14, pu0, pu1, pu2, pu3, pu4, pu5, pu6, pu7, pu8, pu9, pu10, pu11, pu12, pu13, pu14, rc_at, bK_some, Option.toList_some, Option.toList_none, List.cons_append, List.nil_append, H1, H2, nI_mul, nI_adds, as_I, mI]
theorem m_isNode (H : MO h x r mm) (v : Int32) : run 109 0 [.ref x, .int v] [] h = some (some (.int (bI (inI v 0 (mm 1 - 1)))), h) := by
  obtain ⟨H1, H2⟩ := H
  simp (disch := omega) only [s109_0, s109_1, s109_2, s109_3, s109_6, s109_7, s109_8, s109_9, s109_10, s109_13, gf0, gf1, gf2, gf3, gf4, gf5, gf6, gf7, gf8, gf9, gf10, gf11, gf12, gf13, gf14, pu0, pu1, pu2, pu3, pu4, pu5, pu6, pu7, pu8, pu9, pu10, pu11, pu12, pu13, pu14, rc_at, bK_some, Option.toList_some, Option.toList_none, List.cons_append, List.nil_append, H1, H2, al_I, m_in, bI_01, if_true, n0, n1]
end MA
