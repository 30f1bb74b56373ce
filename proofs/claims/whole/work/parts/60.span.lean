/-! the class: spans -/
def us32 (x y : Int32) : Int32 := (x.toUInt32 >>> (y.toUInt32 &&& Int32.toUInt32 31)).toInt32
def bc1 (x : Int32) : Int32 := x - (us32 x (nI 1) &&& nI 1431655765)
def bc2 (x : Int32) : Int32 := (x &&& nI 858993459) + (us32 x (nI 2) &&& nI 858993459)
def bc3 (x : Int32) : Int32 := (x + us32 x (nI 4)) &&& nI 252645135
def bc4 (x : Int32) : Int32 := x + us32 x (nI 8)
def bc5 (x : Int32) : Int32 := x + us32 x (nI 16)
def bcE (x : Int32) : Int32 := bc5 (bc4 (bc3 (bc2 (bc1 x)))) &&& nI 63
theorem k_bitCount (x : Int32) (h : aH) : run 188 0 [.int x] [] h = some (some (.int (bcE x)), h) := by
  simp only [s188_0, s188_1, s188_2, s188_3, s188_4, s188_7, s188_8, s188_9, s188_10, s188_11, s188_14, s188_15, s188_16, s188_17, s188_18, s188_21, s188_22, s188_23, s188_24, s188_25, s188_26, s188_27, s188_28, s188_29, s188_32, s188_33, s188_34, s188_35, s188_36, s188_38, s188_39, s188_40, s188_41, s188_42, s188_43, s188_45, s188_46, s188_47, s188_48, s188_49, s188_51, s188_52]
  rfl
theorem bcE_ok {a : Nat} (ha : a < 256) : (bcE (nI a) &&& nI 1 = nI 1) = (pcn a % 2 = 1) := by
  have : ∀ a, a < 256 → ((bcE (nI a) &&& nI 1 = nI 1) ↔ (pcn a % 2 = 1)) := by decide +kernel
  exact propext (this a ha)
def r8 (G : Nat → Nat) : aC := .inl (0, 8, .inl (nf G))
theorem al_8 {G : Nat → Nat} {i : Nat} {α : Type} {K : Int32 → Option α} (hi : i < 8) : alK (nI i) (some (r8 G)) (fun t => t == 0 || t == 9) K = K (nI (G i)) := by
  unfold r8; rw [al_I hi (by decide)]; rfl
theorem as_8 {G : Nat → Nat} {i v : Nat} {α : Type} {K : aC → Option α} (hi : i < 8) : asK (nI i) (some (r8 G)) 0 (nI v) K = K (r8 (up G i v)) := by
  unfold r8; rw [as_I hi (by decide), upd_nf]
theorem len_8 {G : Nat → Nat} {α : Type} {K : Nat → Option α} : lenK (some (r8 G)) K = K 8 := rfl
/-- rows that are alike as far as they reach -/
def cp8 (n : Nat) (G F : Nat → Nat) : Nat → Nat := fun j => if j < n then G j else F j
theorem cc_8 {G F : Nat → Nat} {α : Type} {K : aC → Option α} : ccK (nI 0) (nI 0) (nI 8) (some (r8 G)) (some (r8 F)) K = K (r8 (cp8 8 G F)) := by
  unfold r8
  rw [cc_all (by decide)]
  congr 5
  funext j
  unfold nf cp8
  split <;> rfl
/-- a span, with its two rows behind it -/
def spO (y s : Nat) : aC := .inr (4, [.ref (y + 1), .ref (y + 2), .int (nI s)])
def SP (h : aH) (y s : Nat) (L P : Nat → Nat) : Prop := hget h y = some (spO y s) ∧ hget h (y + 1) = some (r8 L) ∧ hget h (y + 2) = some (r8 P)
def sSet (h : aH) (y s : Nat) (L P : Nat → Nat) : aH := hset (hset (hset h y (spO y s)) (y + 1) (r8 L)) (y + 2) (r8 P)
theorem SP.same {h : aH} {y s : Nat} {L P : Nat → Nat} (H : SP h y s L P) : sSet h y s L P = h := by
  unfold sSet
  rw [hset_same H.1, hset_same H.2.1, hset_same H.2.2]
theorem hset_comm {h : aH} {a b : Nat} {c d : aC} (hab : a ≠ b) : hset (hset h a c) b d = hset (hset h b d) a c := by
  unfold hset
  dsimp only
  congr 2
  funext q
  by_cases h1 : q = a
  · subst h1; simp [hab]
  · by_cases h2 : q = b
    · subst h2; simp [h1]
    · simp [h1, h2]
theorem nI_less {n : Nat} : nI (n + 1) - 1 = nI n := by
  rw [← n1, nI_sub (by omega)]; rfl
theorem nI_m1 (n : Nat) : nI (n + 1) + (-1) = nI n := by
  have : nI (n + 1) + (-1) = nI (n + 1) - 1 := by
    rw [Int32.sub_eq_add_neg]
  rw [this, nI_less]
theorem sh_bit {w n : Nat} (hw : w < 2 ^ 31) (hn : n < 31) : (nI w >>> (nI n &&& 31) &&& nI 1 = 0) = (w.testBit n = false) := by
  rw [nI_shr hw (by omega), nI_and, Nat.and_one_is_mod, nI_eq0 (by omega), ← hasN_bit]
  have := Nat.mod_two_eq_zero_or_one (w / 2 ^ n)
  unfold hasN
  apply propext
  rw [decide_eq_false_iff_not]
  omega
section SP
variable {h : aH} {y s : Nat} {L P : Nat → Nat}
theorem c_partsOf (H : SP h y s L P) (hL : ∀ b, b < 8 → L b < 256) {v : Nat} (hv : v < 256) : run 53 0 [.ref y, .int (nI v), .null, .null, .null] [] h = some (some (.int (match rd L P 8 v 0 with | some r => nI r | none => -4)), h) := by
  obtain ⟨H0, H1, H2⟩ := H
  unfold spO at H0
  have key : ∀ n w q, n ≤ 8 → w < 256 → run 53 8 [.ref y, .int (nI v), .int (nI w), .int (nI q), .int (nI n + (-1))] [] h = some (some (.int (match rd L P n w q with | some r => nI r | none => -4)), h) := by
    intro n
    induction n with
    | zero =>
      intro w q _ _
      rw [s53_8]
      have e : nI 0 + (-1) < 0 := by decide
      simp only [s53_10, s53_64, s53_65, e, if_true, rd]
    | succ n ih =>
      intro w q hn hw
      have hLn := hL n (by omega)
      have hx : w ^^^ L n < 2 ^ 8 := Nat.xor_lt_two_pow hw hLn
      rw [nI_m1, s53_8]
      cases hb : w.testBit n
      · have I := ih w q (by omega) hw
        simp (disch := omega) only [s53_10, s53_13, s53_14, s53_16, s53_17, s53_18, s53_19, s53_22, s53_58, s53_61, nI_lt0, if_false, sh_bit, hb, if_true, I, rd, Bool.false_eq_true]
      · by_cases c : L n = 0
        · simp (disch := omega) only [s53_10, s53_13, s53_14, s53_16, s53_17, s53_18, s53_19, s53_22, s53_25, s53_26, s53_29, s53_31, s53_32, s53_35, s53_37, gf0, gf1, gf2, gf3, gf4, gf5, gf6, gf7, gf8, gf9, gf10, gf11, gf12, gf13, gf14, pu0, pu1, pu2, pu3, pu4, pu5, pu6, pu7, pu8, pu9, pu10, pu11, pu12, pu13, pu14, rc_at, bK_some, Option.toList_some, Option.toList_none, List.cons_append, List.nil_append, H0, H1, nI_lt0, if_false, sh_bit, hb, Bool.true_eq_false, al_8, nI_eq0, c, if_true, rd]
        · have I := ih (w ^^^ L n) (q ^^^ P n) (by omega) hx
          simp (disch := omega) only [s53_10, s53_13, s53_14, s53_16, s53_17, s53_18, s53_19, s53_22, s53_25, s53_26, s53_29, s53_31, s53_32, s53_35, s53_37, s53_38, s53_39, s53_40, s53_43, s53_45, s53_46, s53_47, s53_48, s53_49, s53_50, s53_53, s53_55, s53_56, s53_57, s53_58, s53_61, gf0, gf1, gf2, gf3, gf4, gf5, gf6, gf7, gf8, gf9, gf10, gf11, gf12, gf13, gf14, pu0, pu1, pu2, pu3, pu4, pu5, pu6, pu7, pu8, pu9, pu10, pu11, pu12, pu13, pu14, rc_at, bK_some, Option.toList_some, Option.toList_none, List.cons_append, List.nil_append, H0, H1, H2, nI_lt0, if_false, sh_bit, hb, Bool.true_eq_false, al_8, nI_eq0, c, if_true, rd, nI_xor, I]
  have K := key 8 v 0 (Nat.le_refl 8) hv
  rw [nI_m1] at K
  simp only [s53_0, s53_1, s53_2, s53_3, s53_4, s53_6]
  exact K
/-- what adding a vector makes of a span -/
def adS (s : Nat) (L P : Nat → Nat) (v : Nat) : Nat × (Nat → Nat) × (Nat → Nat) := match ad L P 8 v (2 ^ s) with
  | some (b, w, q) => (s + 1, up L b w, up P b q)
  | none => (s, L, P)
theorem c_add (H : SP h y s L P) (hL : ∀ b, b < 8 → L b < 256) (hs : s ≤ 8) {v : Nat} (hv : v < 256) : run 51 0 [.ref y, .int (nI v), .null, .null, .null] [] h = some (none, sSet h y (adS s L P v).1 (adS s L P v).2.1 (adS s L P v).2.2) := by
  have HH := H
  obtain ⟨H0, H1, H2⟩ := H
  unfold spO at H0
  have key : ∀ n w q, n ≤ 8 → w < 256 → run 51 13 [.ref y, .int (nI v), .int (nI w), .int (nI q), .int (nI n + (-1))] [] h = some (none, match ad L P n w q with | some (b, w', q') => sSet h y (s + 1) (up L b w') (up P b q') | none => h) := by
    intro n
    induction n with
    | zero =>
      intro w q _ _
      rw [s51_13]
      have e : nI 0 + (-1) < 0 := by decide
      simp only [s51_15, s51_93, e, if_true, ad]
    | succ n ih =>
      intro w q hn hw
      have hLn := hL n (by omega)
      have hx : w ^^^ L n < 2 ^ 8 := Nat.xor_lt_two_pow hw hLn
      rw [nI_m1, s51_13]
      cases hb : w.testBit n
      · have I := ih w q (by omega) hw
        simp (disch := omega) only [s51_15, s51_18, s51_19, s51_21, s51_22, s51_23, s51_24, s51_27, s51_87, s51_90, nI_lt0, if_false, sh_bit, hb, if_true, I, ad, Bool.false_eq_true]
      · by_cases c : L n = 0
        · simp (disch := omega) only [s51_15, s51_18, s51_19, s51_21, s51_22, s51_23, s51_24, s51_27, s51_30, s51_31, s51_34, s51_36, s51_37, s51_40, s51_41, s51_44, s51_46, s51_47, s51_48, s51_49, s51_52, s51_54, s51_55, s51_56, s51_57, s51_58, s51_61, s51_62, s51_63, s51_66, gf0, gf1, gf2, gf3, gf4, gf5, gf6, gf7, gf8, gf9, gf10, gf11, gf12, gf13, gf14, pu0, pu1, pu2, pu3, pu4, pu5, pu6, pu7, pu8, pu9, pu10, pu11, pu12, pu13, pu14, rc_at, bK_some, Option.toList_some, Option.toList_none, List.cons_append, List.nil_append, H0, H1, H2, hget_ne, hget_set, nI_lt0, if_false, sh_bit, hb, Bool.true_eq_false, al_8, as_8, nI_eq0, c, if_true, ad, nI_adds]
          unfold sSet spO
          rw [hset_comm (a := y + 2) (b := y) (by omega), hset_comm (a := y + 1) (b := y) (by omega)]
        · have I := ih (w ^^^ L n) (q ^^^ P n) (by omega) hx
          simp (disch := omega) only [s51_15, s51_18, s51_19, s51_21, s51_22, s51_23, s51_24, s51_27, s51_30, s51_31, s51_34, s51_36, s51_37, s51_67, s51_68, s51_69, s51_72, s51_74, s51_75, s51_76, s51_77, s51_78, s51_79, s51_82, s51_84, s51_85, s51_86, s51_87, s51_90, gf0, gf1, gf2, gf3, gf4, gf5, gf6, gf7, gf8, gf9, gf10, gf11, gf12, gf13, gf14, pu0, pu1, pu2, pu3, pu4, pu5, pu6, pu7, pu8, pu9, pu10, pu11, pu12, pu13, pu14, rc_at, bK_some, Option.toList_some, Option.toList_none, List.cons_append, List.nil_append, H0, H1, H2, nI_lt0, if_false, sh_bit, hb, Bool.true_eq_false, al_8, nI_eq0, c, if_true, ad, nI_xor, I]
  have K := key 8 v (2 ^ s) (Nat.le_refl 8) hv
  rw [nI_m1] at K
  simp (disch := omega) only [s51_0, s51_1, s51_2, s51_3, s51_4, s51_7, s51_8, s51_9, s51_11, gf0, gf1, gf2, gf3, gf4, gf5, gf6, gf7, gf8, gf9, gf10, gf11, gf12, gf13, gf14, pu0, pu1, pu2, pu3, pu4, pu5, pu6, pu7, pu8, pu9, pu10, pu11, pu12, pu13, pu14, rc_at, bK_some, Option.toList_some, Option.toList_none, List.cons_append, List.nil_append, H0, nI_shl1]
  rw [K]
  unfold adS
  cases ad L P 8 v (2 ^ s) with
  | none => dsimp only; rw [HH.same]
  | some r => rfl
theorem c_hasOdd (H : SP h y s L P) (hL : ∀ b, b < 8 → L b < 256) (p : Nat) : run 54 0 [.ref y, .int (nI p), .null] [] h = some (some (.int (bI (anyN (fun b => oddN (L b) p) 8))), h) := by
  obtain ⟨H0, H1, H2⟩ := H
  unfold spO at H0
  have key : ∀ n, n ≤ 8 → ∀ r : Bool, (r = true ↔ ∃ b, 8 - n ≤ b ∧ b < 8 ∧ oddN (L b) p = true) → run 54 2 [.ref y, .int (nI p), .int (nI (8 - n))] [] h = some (some (.int (bI r)), h) := by
    intro n
    induction n with
    | zero =>
      intro _ r hr
      have e : r = false := by
        cases r
        · rfl
        · obtain ⟨b, b1, b2, _⟩ := hr.mp rfl
          omega
      subst e
      rw [s54_2]
      simp (disch := omega) only [s54_3, s54_5, s54_33, s54_34, nI_lts, Nat.sub_zero, Nat.lt_irrefl, if_false, z01_0, if_true, bI_f]
    | succ n ih =>
      intro hn r hr
      have hb := hL (8 - (n + 1)) (by omega)
      have ha : L (8 - (n + 1)) &&& p < 256 := Nat.lt_of_le_of_lt Nat.and_le_left hb
      rw [s54_2]
      by_cases c : oddN (L (8 - (n + 1))) p = true
      · have e : r = true := hr.mpr ⟨_, Nat.le_refl _, by omega, c⟩
        subst e
        have c' : pcn (L (8 - (n + 1)) &&& p) % 2 = 1 := of_decide_eq_true c
        simp (disch := omega) only [s54_3, s54_5, s54_8, s54_9, s54_12, s54_13, s54_14, s54_15, s54_16, s54_19, s54_20, s54_21, s54_22, s54_25, s54_26, gf0, gf1, gf2, gf3, gf4, gf5, gf6, gf7, gf8, gf9, gf10, gf11, gf12, gf13, gf14, pu0, pu1, pu2, pu3, pu4, pu5, pu6, pu7, pu8, pu9, pu10, pu11, pu12, pu13, pu14, rc_at, bK_some, Option.toList_some, Option.toList_none, List.cons_append, List.nil_append, H0, H1, al_8, nI_lts, show 8 - (n + 1) < 8 from by omega, if_true, nI_and, k_bitCount, bcE_ok, c', z01_1, bI_t]
      · have I := ih (by omega) r (by
          rw [hr]
          constructor
          · rintro ⟨b, b1, b2, b3⟩
            refine ⟨b, ?_, b2, b3⟩
            by_cases q : b = 8 - (n + 1)
            · subst q; exact absurd b3 c
            · omega
          · rintro ⟨b, b1, b2, b3⟩
            exact ⟨b, by omega, b2, b3⟩)
        have c' : ¬ pcn (L (8 - (n + 1)) &&& p) % 2 = 1 := fun q => c (decide_eq_true q)
        rw [show 8 - n = 8 - (n + 1) + 1 from by omega] at I
        simp (disch := omega) only [s54_3, s54_5, s54_8, s54_9, s54_12, s54_13, s54_14, s54_15, s54_16, s54_19, s54_20, s54_21, s54_22, s54_27, s54_30, gf0, gf1, gf2, gf3, gf4, gf5, gf6, gf7, gf8, gf9, gf10, gf11, gf12, gf13, gf14, pu0, pu1, pu2, pu3, pu4, pu5, pu6, pu7, pu8, pu9, pu10, pu11, pu12, pu13, pu14, rc_at, bK_some, Option.toList_some, Option.toList_none, List.cons_append, List.nil_append, H0, H1, al_8, nI_lts, show 8 - (n + 1) < 8 from by omega, if_true, nI_and, k_bitCount, bcE_ok, c', if_false, nI_adds, I]
  have K := key 8 (Nat.le_refl 8) (anyN (fun b => oddN (L b) p) 8) (by
    rw [anyN_iff]
    constructor
    · rintro ⟨i, i1, i2⟩; exact ⟨i, by omega, i1, i2⟩
    · rintro ⟨i, _, i1, i2⟩; exact ⟨i, i1, i2⟩)
  simp only [s54_0, s54_1]
  exact K
end SP
