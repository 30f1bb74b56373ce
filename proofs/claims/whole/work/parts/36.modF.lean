/-! rounds -/
def zI (g : Nat → Nat) : aC := .inl (1, 20, .inl (nf g))
def vI (g : Nat → Nat) : aC := .inl (0, 20, .inl (nf g))
/-- the model's object, its first nine fields -/
def MX (h : aH) (x : Nat) (tl : Value) (rest : List Value) : Prop := hget h x = some (.inr (7, .ref (x + 1) :: .ref (x + 2) :: .ref (x + 3) :: .ref (x + 4) :: tl :: .ref (x + 5) :: .ref (x + 6) :: .ref (x + 7) :: .ref (x + 8) :: rest))
/-- the heap with the model's row m and its three rows of a round -/
def MR (h : aH) (x : Nat) (g is sv sp : Nat → Nat) : aH := (h.1, h.2.1, fun q => if q = x + 1 then some (mI g) else if q = x + 5 then some (zI is) else if q = x + 6 then some (vI sv) else if q = x + 7 then some (vI sp) else h.2.2 q)
section MR
variable {h : aH} {x : Nat} {g is sv sp g' : Nat → Nat} {tl : Value} {rest : List Value}
theorem MR_x : hget (MR h x g is sv sp) x = hget h x := by simp [MR, hget]
theorem MR_1 : hget (MR h x g is sv sp) (x + 1) = some (mI g) := by simp [MR, hget]
theorem MR_5 : hget (MR h x g is sv sp) (x + 5) = some (zI is) := by simp [MR, hget]
theorem MR_6 : hget (MR h x g is sv sp) (x + 6) = some (vI sv) := by simp [MR, hget]
theorem MR_7 : hget (MR h x g is sv sp) (x + 7) = some (vI sp) := by simp [MR, hget]
theorem MR_s1 : hset (MR h x g is sv sp) (x + 1) (mI g') = MR h x g' is sv sp := by
  unfold MR hset
  dsimp only
  congr 2
  funext q
  by_cases h1 : q = x + 1 <;> simp [h1]
theorem MR_s5 : hset (MR h x g is sv sp) (x + 5) (zI g') = MR h x g g' sv sp := by
  unfold MR hset
  dsimp only
  congr 2
  funext q
  by_cases h1 : q = x + 1
  · subst h1; simp
  · by_cases h2 : q = x + 5 <;> simp [h1, h2]
theorem MR_s6 : hset (MR h x g is sv sp) (x + 6) (vI g') = MR h x g is g' sp := by
  unfold MR hset
  dsimp only
  congr 2
  funext q
  by_cases h1 : q = x + 1
  · subst h1; simp
  · by_cases h2 : q = x + 5
    · subst h2; simp
    · by_cases h3 : q = x + 6 <;> simp [h1, h2, h3]
theorem MR_s7 : hset (MR h x g is sv sp) (x + 7) (vI g') = MR h x g is sv g' := by
  unfold MR hset
  dsimp only
  congr 2
  funext q
  by_cases h1 : q = x + 1
  · subst h1; simp
  · by_cases h2 : q = x + 5
    · subst h2; simp
    · by_cases h3 : q = x + 6
      · subst h3; simp
      · by_cases h4 : q = x + 7 <;> simp [h1, h2, h3, h4]
theorem MR_MO (H : MX h x tl rest) : MO (MR h x g is sv sp) x (.ref (x + 2) :: .ref (x + 3) :: .ref (x + 4) :: tl :: .ref (x + 5) :: .ref (x + 6) :: .ref (x + 7) :: .ref (x + 8) :: rest) g := ⟨by rw [MR_x]; exact H, MR_1⟩
theorem MR_eq (h1 : hget h (x + 1) = some (mI g)) (h5 : hget h (x + 5) = some (zI is)) (h6 : hget h (x + 6) = some (vI sv)) (h7 : hget h (x + 7) = some (vI sp)) : MR h x g is sv sp = h := by
  obtain ⟨n, s, f⟩ := h
  unfold MR
  dsimp only
  congr 2
  funext q
  unfold hget at h1 h5 h6 h7
  dsimp only at h1 h5 h6 h7
  by_cases c1 : q = x + 1
  · subst c1; rw [if_pos rfl]; exact h1.symm
  · rw [if_neg c1]
    by_cases c2 : q = x + 5
    · subst c2; rw [if_pos rfl]; exact h5.symm
    · rw [if_neg c2]
      by_cases c3 : q = x + 6
      · subst c3; rw [if_pos rfl]; exact h6.symm
      · rw [if_neg c3]
        by_cases c4 : q = x + 7
        · subst c4; rw [if_pos rfl]; exact h7.symm
        · rw [if_neg c4]
theorem as_m {i v : Nat} {α : Type} {K : aC → Option α} (hi : i < 2994) : asK (nI i) (some (mI g)) 0 (nI v) K = K (mI (up g i v)) := by
  unfold mI; rw [as_I hi (by decide), upd_nf]
theorem as_z {i v : Nat} {α : Type} {K : aC → Option α} (hi : i < 20) : asK (nI i) (some (zI g)) 1 (nI v) K = K (zI (up g i v)) := by
  unfold zI; rw [as_I hi (by decide), upd_nf]
theorem as_v {i v : Nat} {α : Type} {K : aC → Option α} (hi : i < 20) : asK (nI i) (some (vI g)) 0 (nI v) K = K (vI (up g i v)) := by
  unfold vI; rw [as_I hi (by decide), upd_nf]
theorem al_m {i : Nat} {α : Type} {K : Int32 → Option α} (hi : i < 2994) : alK (nI i) (some (mI g)) (fun t => t == 0 || t == 9) K = K (nI (g i)) := by
  unfold mI; rw [al_I hi (by decide)]; rfl
theorem al_z {i : Nat} {α : Type} {K : Int32 → Option α} (hi : i < 20) : alK (nI i) (some (zI g)) (fun t => t == 1) K = K (nI (g i)) := by
  unfold zI; rw [al_Z hi (by decide)]; rfl
theorem al_v {i : Nat} {α : Type} {K : Int32 → Option α} (hi : i < 20) : alK (nI i) (some (vI g)) (fun t => t == 0 || t == 9) K = K (nI (g i)) := by
  unfold vI; rw [al_I hi (by decide)]; rfl
end MR
theorem nar_1 : vp_nar .boolean (nI 1) = nI 1 := by decide
theorem nar_0 : vp_nar .boolean (nI 0) = nI 0 := by decide
/-- what the sending of a vector over a link does to the row m -/
def gSend (g : Nat → Nat) (l v a : Nat) : Nat → Nat := up (up (up (up g (217 + 11 * l) (g (217 + 11 * l) + 1)) (222 + 11 * l) a) (223 + 11 * l) (g (223 + 11 * l) ^^^ a)) (434 + 256 * v + a) 1
def altN (g : Nat → Nat) (v : Nat) : Nat := if g (14 + v) = 3 then 1 else 0
def sVec (g : Nat → Nat) (v set : Nat) : Nat := xsN (vecs g v) set (g (44 + v))
def sPay (g : Nat → Nat) (v set : Nat) : Nat := altN g v ^^^ xsN (pays g v) set (g (44 + v))
section MS
variable {h : aH} {x : Nat} {g is sv sp g' : Nat → Nat} {tl : Value} {rest : List Value}
theorem m_sends (H : MX h x tl rest) {l v set : Nat} (hl : l < 20) (hv : v < 10) (hb : g (14 + v) < 2 ^ 31) (hr : g (44 + v) ≤ 8) (hg : ∀ i, i < g (44 + v) → vecs g v i < 2 ^ 8) (hs : set < 2 ^ 31) :
    run 132 0 [.ref x, .int (nI l), .int (nI v), .int (nI set), .null, .null, .null] [] (MR h x g is sv sp) = some (none, MR h x (gSend g l v (sVec g v set)) (up is l 1) (up sv l (sVec g v set)) (up sp l (sPay g v set))) := by
  have hx : hget (MR h x g is sv sp) x = some (.inr (7, .ref (x + 1) :: .ref (x + 2) :: .ref (x + 3) :: .ref (x + 4) :: tl :: .ref (x + 5) :: .ref (x + 6) :: .ref (x + 7) :: .ref (x + 8) :: rest)) := by rw [MR_x]; exact H
  have hxx : ∀ g is sv sp, hget (MR h x g is sv sp) x = some (.inr (7, .ref (x + 1) :: .ref (x + 2) :: .ref (x + 3) :: .ref (x + 4) :: tl :: .ref (x + 5) :: .ref (x + 6) :: .ref (x + 7) :: .ref (x + 8) :: rest)) := fun _ _ _ _ => by rw [MR_x]; exact H
  have hM : ∀ g is sv sp, MO (MR h x g is sv sp) x _ g := fun _ _ _ _ => MR_MO H
  have st0 : run 132 0 [.ref x, .int (nI l), .int (nI v), .int (nI set), .null, .null, .null] [] (MR h x g is sv sp) = run 132 26 [.ref x, .int (nI l), .int (nI v), .int (nI set), .int (nI 0), .int (nI (altN g v)), .int (nI 0)] [] (MR h x g is sv sp) := by
    simp (disch := omega) only [s132_0, s132_1, s132_3, s132_4, s132_7, s132_9, s132_10, s132_11, s132_12, s132_13, s132_16, s132_17, s132_20, s132_21, s132_23, s132_24, gf0, gf1, gf2, gf3, gf4, gf5, gf6, gf7, gf8, gf9, gf10, gf11, gf12, gf13, gf14, pu0, pu1, pu2, pu3, pu4, pu5, pu6, pu7, pu8, pu9, pu10, pu11, pu12, pu13, pu14, rc_at, bK_some, Option.toList_some, Option.toList_none, List.cons_append, List.nil_append, hxx, MR_1, nI_adds, al_m, nI_eqs]
    unfold altN
    by_cases c : g (14 + v) = 3 <;> simp [c]
  rw [st0]
  have L := loop_up (fun i (s : Nat × Nat) => run 132 26 [.ref x, .int (nI l), .int (nI v), .int (nI set), .int (nI s.1), .int (nI s.2), .int (nI i)] [] (MR h x g is sv sp)) (fun i s => (s.1 ^^^ (if hasN set i = true then vecs g v i else 0), s.2 ^^^ (if hasN set i = true then pays g v i else 0))) (g (44 + v)) (by
    intro i s hi
    rw [s132_26]
    simp (disch := omega) only [s132_28, s132_29, s132_32, s132_34, s132_35, s132_36, s132_37, s132_40, s132_42, s132_43, s132_45, s132_48, s132_51, s132_52, s132_53, s132_55, s132_58, s132_61, s132_62, s132_63, s132_65, s132_67, s132_68, s132_70, s132_73, s132_76, s132_77, s132_78, s132_80, s132_83, s132_86, s132_87, s132_88, s132_90, s132_93, gf0, gf1, gf2, gf3, gf4, gf5, gf6, gf7, gf8, gf9, gf10, gf11, gf12, gf13, gf14, pu0, pu1, pu2, pu3, pu4, pu5, pu6, pu7, pu8, pu9, pu10, pu11, pu12, pu13, pu14, rc_at, bK_some, Option.toList_some, Option.toList_none, List.cons_append, List.nil_append, hxx, MR_1, nI_adds, al_m, nI_lts, hi, if_true, m_has, bI_0, m_vectorOf (hM _ _ _ _), m_payloadOf (hM _ _ _ _)]
    cases hasN set i <;> simp [nI_xor, vecs, pays, n0]) (0, altN g v)
  have hF : ∀ n, foldN (fun i (s : Nat × Nat) => (s.1 ^^^ (if hasN set i = true then vecs g v i else 0), s.2 ^^^ (if hasN set i = true then pays g v i else 0))) n (0, altN g v) = (xsN (vecs g v) set n, altN g v ^^^ xsN (pays g v) set n) := by
    intro n
    induction n with
    | zero => simp [foldN, xsN]
    | succ n ih => simp only [foldN, xsN, ih, Nat.xor_assoc]
  dsimp only at L
  rw [L, hF, s132_26]
  have ha : sVec g v set < 2 ^ 8 := xsN_lt hg
  have e1 : xsN (vecs g v) set (g (44 + v)) = sVec g v set := rfl
  have e2 : altN g v ^^^ xsN (pays g v) set (g (44 + v)) = sPay g v set := rfl
  have q3 : 214 + 11 * l + 3 = 217 + 11 * l := by omega
  have q8 : 214 + 11 * l + 8 = 222 + 11 * l := by omega
  have q9 : 214 + 11 * l + 9 = 223 + 11 * l := by omega
  simp (disch := omega) only [s132_28, s132_29, s132_32, s132_34, s132_35, s132_36, s132_37, s132_40, s132_42, s132_43, s132_45, s132_48, s132_51, s132_52, s132_53, s132_55, s132_58, s132_61, s132_62, s132_63, s132_65, s132_67, s132_68, s132_70, s132_73, s132_76, s132_77, s132_78, s132_80, s132_83, s132_86, s132_87, s132_88, s132_90, s132_93, s132_96, s132_97, s132_100, s132_101, s132_102, s132_103, s132_104, s132_107, s132_108, s132_110, s132_111, s132_112, s132_115, s132_116, s132_118, s132_119, s132_120, s132_121, s132_122, s132_123, s132_124, s132_125, s132_128, s132_129, s132_130, s132_133, s132_134, s132_135, s132_137, s132_139, s132_142, s132_143, s132_144, s132_146, s132_147, s132_148, s132_150, s132_153, s132_155, s132_156, s132_159, s132_160, s132_163, s132_166, s132_169, s132_170, s132_171, s132_172, s132_174, s132_175, s132_176, s132_177, gf0, gf1, gf2, gf3, gf4, gf5, gf6, gf7, gf8, gf9, gf10, gf11, gf12, gf13, gf14, pu0, pu1, pu2, pu3, pu4, pu5, pu6, pu7, pu8, pu9, pu10, pu11, pu12, pu13, pu14, rc_at, bK_some, Option.toList_some, Option.toList_none, List.cons_append, List.nil_append, hxx, MR_1, MR_5, MR_6, MR_7, MR_s1, MR_s5, MR_s6, MR_s7, nI_adds, nI_mul, al_m, as_m, as_z, as_v, nI_lts, Nat.lt_irrefl, if_false, e1, e2, nar_1, m_of (hM _ _ _ _), m_put (hM _ _ _ _), nI_xor, q3, q8, q9, up_ne, gSend]
end MS
