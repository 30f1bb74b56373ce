/-! sums of sums; random numbers; what a set of sums comes to -/
/-- the sum of those of n numbers that a set names -/
def xsN (f : Nat → Nat) (set : Nat) : Nat → Nat
  | 0 => 0
  | n + 1 => xsN f set n ^^^ (if hasN set n = true then f n else 0)
theorem xsN_lt {f : Nat → Nat} {set n k : Nat} (h : ∀ i, i < n → f i < 2 ^ k) : xsN f set n < 2 ^ k := by
  induction n with
  | zero => exact Nat.two_pow_pos k
  | succ n ih =>
    unfold xsN
    refine Nat.xor_lt_two_pow (ih fun i hi => h i (by omega)) ?_
    split
    · exact h n (by omega)
    · exact Nat.two_pow_pos k
theorem xsN_congr {f f' : Nat → Nat} {set n : Nat} (h : ∀ i, i < n → f i = f' i) : xsN f set n = xsN f' set n := by
  induction n with
  | zero => rfl
  | succ n ih => simp only [xsN]; rw [ih fun i hi => h i (by omega), h n (by omega)]
def vecs (g : Nat → Nat) (v : Nat) : Nat → Nat := fun i => g (54 + 16 * v + 2 * i)
def pays (g : Nat → Nat) (v : Nat) : Nat → Nat := fun i => g (55 + 16 * v + 2 * i)
def firstN (p : Nat → Bool) : Nat → Option Nat
  | 0 => none
  | n + 1 => match firstN p n with
    | some i => some i
    | none => if p n = true then some n else none
theorem firstN_none {p : Nat → Bool} {n : Nat} : firstN p n = none ↔ ∀ i, i < n → p i = false := by
  induction n with
  | zero => simp [firstN]
  | succ n ih =>
    unfold firstN
    cases hf : firstN p n with
    | some i =>
      simp only [reduceCtorEq, false_iff]
      intro hh
      rw [ih.mpr (fun i hi => hh i (by omega))] at hf
      cases hf
    | none =>
      have h1 := ih.mp hf
      dsimp only
      constructor
      · intro e i hi
        by_cases hin : i = n
        · subst hin
          cases hp : p i
          · rfl
          · rw [if_pos hp] at e; cases e
        · exact h1 i (by omega)
      · intro hh
        rw [if_neg (by rw [hh n (by omega)]; decide)]
theorem firstN_some {p : Nat → Bool} {n i : Nat} : firstN p n = some i ↔ i < n ∧ p i = true ∧ ∀ j, j < i → p j = false := by
  induction n with
  | zero => simp [firstN]
  | succ n ih =>
    unfold firstN
    cases hf : firstN p n with
    | some j =>
      have hj : j < n ∧ p j = true ∧ ∀ k, k < j → p k = false := by
        have : firstN p n = some j ↔ j < n ∧ p j = true ∧ ∀ k, k < j → p k = false := by
          clear ih
          revert j
          induction n with
          | zero => intro j h; cases h
          | succ n ih2 =>
            intro j h
            unfold firstN at h
            cases h2 : firstN p n with
            | some k =>
              rw [h2] at h
              cases h
              have := (ih2 j h2).mp h2
              exact ⟨fun _ => ⟨by omega, this.2⟩, fun _ => by unfold firstN; rw [h2]⟩
            | none =>
              rw [h2] at h
              dsimp only at h
              split at h
              · rename_i hp
                cases h
                have h3 := firstN_none.mp h2
                exact ⟨fun _ => ⟨by omega, hp, h3⟩, fun _ => by unfold firstN; rw [h2]; simp [hp]⟩
              · cases h
        exact this.mp hf
      dsimp only
      constructor
      · intro e; cases e; exact ⟨by omega, hj.2⟩
      · rintro ⟨h1, h2, h3⟩
        rcases Nat.lt_trichotomy i j with h | h | h
        · rw [hj.2.2 i h] at h2; cases h2
        · rw [h]
        · rw [h3 j h] at hj; cases hj.2.1
    | none =>
      have h1 := firstN_none.mp hf
      dsimp only
      constructor
      · intro e
        split at e
        · rename_i hp
          cases e
          exact ⟨by omega, hp, h1⟩
        · cases e
      · rintro ⟨h2, h3, h4⟩
        have : i = n := by
          by_cases hin : i = n
          · exact hin
          · rw [h1 i (by omega)] at h3; cases h3
        subst this
        rw [if_pos h3]
def optI (o : Option Nat) : Int32 := match o with
  | some i => nI i
  | none => -4
def sfN (g : Nat → Nat) (v a : Nat) : Option Nat := firstN (fun s => decide (xsN (vecs g v) s (g (44 + v)) = a)) (2 ^ g (44 + v))
def rndS (g : Nat → Nat) : Nat := (1103515245 * g 4 + 12345) % 2147483648
def gRnd (g : Nat → Nat) : Nat → Nat := up g 4 (rndS g)
def rndV (g : Nat → Nat) (b : Nat) : Nat := rndS g / 65536 % b
theorem rndS_lt (g : Nat → Nat) : rndS g < 2 ^ 31 := Nat.mod_lt _ (by decide)
section ME
variable {h : aH} {x : Nat} {r : List Value} {g : Nat → Nat}
theorem m_random (H : MO h x r g) (h4 : g 4 < 2 ^ 31) {b : Nat} (hb : 0 < b) (hb2 : b < 2 ^ 31) : run 131 0 [.ref x, .int (nI b)] [] h = some (some (.int (nI (rndV g b))), hset h (x + 1) (mI (gRnd g))) := by
  obtain ⟨H1, H2⟩ := id H
  have e1 : (1103515245 : Int64) = lN 1103515245 := rfl
  have e2 : (12345 : Int64) = lN 12345 := rfl
  have e3 : (2147483648 : Int64) = lN 2147483648 := rfl
  have hlt : 1103515245 * g 4 + 12345 < 2 ^ 63 := by omega
  have e4 : (lN 2147483648 = 0) = False := by decide
  have e5 : (nI 65536 = 0) = False := by decide
  have e6 : (nI b = 0) = False := by rw [nI_eq0 hb2]; simp; omega
  have h5 := rndS_lt g
  have h6 : rndS g / 65536 < 2 ^ 31 := by omega
  simp (disch := omega) only [s131_0, s131_1, s131_4, s131_5, s131_8, s131_9, s131_12, s131_13, s131_14, s131_15, s131_16, s131_19, s131_20, s131_23, s131_24, s131_25, s131_26, s131_27, s131_30, s131_31, s131_32, s131_34, s131_35, s131_36, s131_37, gf0, gf1, gf2, gf3, gf4, gf5, gf6, gf7, gf8, gf9, gf10, gf11, gf12, gf13, gf14, pu0, pu1, pu2, pu3, pu4, pu5, pu6, pu7, pu8, pu9, pu10, pu11, pu12, pu13, pu14, rc_at, bK_some, Option.toList_some, Option.toList_none, List.cons_append, List.nil_append, H1, H2, hget_set, hget_ne, hset_set, mI, nI_mul, nI_adds, al_I, as_I, nf_at, upd_nf, nI_l h4, e1, e2, e3, lN_mul, lN_add, e4, if_false, pk_lRem hlt (show 0 < 2147483648 by decide) (show 2147483648 < 2 ^ 63 by decide), lN_i, up_same, e5, e6]
  have e7 : nI (rndS g) / nI 65536 = nI (rndS g / 65536) := nI_div h5 (by decide) (by decide)
  have e8 := nI_rem h6 hb hb2
  have e9 : (1103515245 * g 4 + 12345) % 2147483648 = rndS g := rfl
  simp only [e9, e7, e8, gRnd, rndV]
theorem m_payloadFor (H : MO h x r g) {v : Nat} (hv : v < 10) (hr : g (44 + v) ≤ 8) {set : Nat} (hs : set < 2 ^ 31) : run 135 0 [.ref x, .int (nI v), .int (nI set), .null, .null] [] h = some (some (.int (nI (xsN (pays g v) set (g (44 + v))))), h) := by
  obtain ⟨H1, H2⟩ := id H
  simp only [s135_0, s135_1, s135_2, s135_3]
  have L := loop_up (fun i (s : Nat) => run 135 5 [.ref x, .int (nI v), .int (nI set), .int (nI s), .int (nI i)] [] h) (fun i s => s ^^^ (if hasN set i = true then pays g v i else 0)) (g (44 + v)) (by
    intro i s hi
    rw [s135_5]
    simp (disch := omega) only [s135_7, s135_8, s135_11, s135_13, s135_14, s135_15, s135_16, s135_19, s135_20, s135_21, s135_23, s135_26, s135_29, s135_30, s135_31, s135_33, s135_36, s135_39, s135_40, s135_41, s135_42, s135_45, gf0, gf1, gf2, gf3, gf4, gf5, gf6, gf7, gf8, gf9, gf10, gf11, gf12, gf13, gf14, pu0, pu1, pu2, pu3, pu4, pu5, pu6, pu7, pu8, pu9, pu10, pu11, pu12, pu13, pu14, rc_at, bK_some, Option.toList_some, Option.toList_none, List.cons_append, List.nil_append, H1, H2, hget_set, hget_ne, hset_set, mI, nI_mul, nI_adds, al_I, as_I, nf_at, upd_nf, nI_lts, hi, if_true, m_has, bI_0, m_payloadOf H]
    cases hasN set i <;> simp [nI_xor, pays, n0]) 0
  have hF : ∀ n, foldN (fun i s => s ^^^ (if hasN set i = true then pays g v i else 0)) n 0 = xsN (pays g v) set n := by
    intro n
    induction n with
    | zero => rfl
    | succ n ih => simp only [foldN, xsN, ih]
  rw [L, hF, s135_5]
  simp (disch := omega) only [s135_7, s135_8, s135_11, s135_13, s135_14, s135_15, s135_16, s135_19, s135_20, s135_21, s135_23, s135_26, s135_29, s135_30, s135_31, s135_33, s135_36, s135_39, s135_40, s135_41, s135_42, s135_45, s135_48, s135_49, gf0, gf1, gf2, gf3, gf4, gf5, gf6, gf7, gf8, gf9, gf10, gf11, gf12, gf13, gf14, pu0, pu1, pu2, pu3, pu4, pu5, pu6, pu7, pu8, pu9, pu10, pu11, pu12, pu13, pu14, rc_at, bK_some, Option.toList_some, Option.toList_none, List.cons_append, List.nil_append, H1, H2, hget_set, hget_ne, hset_set, mI, nI_mul, nI_adds, al_I, as_I, nf_at, upd_nf, nI_lts, Nat.lt_irrefl, if_false]
theorem m_setFor_in (H : MO h x r g) {v : Nat} (hv : v < 10) (hr : g (44 + v) ≤ 8) {set : Nat} (hs : set < 2 ^ 31) (a : Value) : run 134 23 [.ref x, .int (nI v), a, .int (nI set), .int (nI 0), .int (nI 0)] [] h = run 134 68 [.ref x, .int (nI v), a, .int (nI set), .int (nI (xsN (vecs g v) set (g (44 + v)))), .int (nI (g (44 + v)))] [] h := by
  obtain ⟨H1, H2⟩ := id H
  have L := loop_up (fun i (s : Nat) => run 134 23 [.ref x, .int (nI v), a, .int (nI set), .int (nI s), .int (nI i)] [] h) (fun i s => s ^^^ (if hasN set i = true then vecs g v i else 0)) (g (44 + v)) (by
    intro i s hi
    rw [s134_23]
    simp (disch := omega) only [s134_25, s134_26, s134_29, s134_31, s134_32, s134_33, s134_34, s134_37, s134_39, s134_40, s134_42, s134_45, s134_48, s134_49, s134_50, s134_52, s134_55, s134_58, s134_59, s134_60, s134_62, s134_65, gf0, gf1, gf2, gf3, gf4, gf5, gf6, gf7, gf8, gf9, gf10, gf11, gf12, gf13, gf14, pu0, pu1, pu2, pu3, pu4, pu5, pu6, pu7, pu8, pu9, pu10, pu11, pu12, pu13, pu14, rc_at, bK_some, Option.toList_some, Option.toList_none, List.cons_append, List.nil_append, H1, H2, hget_set, hget_ne, hset_set, mI, nI_mul, nI_adds, al_I, as_I, nf_at, upd_nf, nI_lts, hi, if_true, m_has, bI_0, m_vectorOf H]
    cases hasN set i <;> simp [nI_xor, vecs, n0]) 0
  have hF : ∀ n, foldN (fun i s => s ^^^ (if hasN set i = true then vecs g v i else 0)) n 0 = xsN (vecs g v) set n := by
    intro n
    induction n with
    | zero => rfl
    | succ n ih => simp only [foldN, xsN, ih]
  rw [L, hF, s134_23]
  simp (disch := omega) only [s134_25, s134_26, s134_29, s134_31, s134_32, s134_33, s134_34, s134_37, s134_39, s134_40, s134_42, s134_45, s134_48, s134_49, s134_50, s134_52, s134_55, s134_58, s134_59, s134_60, s134_62, s134_65, gf0, gf1, gf2, gf3, gf4, gf5, gf6, gf7, gf8, gf9, gf10, gf11, gf12, gf13, gf14, pu0, pu1, pu2, pu3, pu4, pu5, pu6, pu7, pu8, pu9, pu10, pu11, pu12, pu13, pu14, rc_at, bK_some, Option.toList_some, Option.toList_none, List.cons_append, List.nil_append, H1, H2, hget_set, hget_ne, hset_set, mI, nI_mul, nI_adds, al_I, as_I, nf_at, upd_nf, nI_lts, Nat.lt_irrefl, if_false]
theorem m_setFor (H : MO h x r g) {v : Nat} (hv : v < 10) (hr : g (44 + v) ≤ 8) (hg : ∀ i, i < g (44 + v) → vecs g v i < 2 ^ 8) {a : Nat} (ha : a < 2 ^ 31) : run 134 0 [.ref x, .int (nI v), .int (nI a), .null, .null, .null] [] h = some (some (.int (optI (sfN g v a))), h) := by
  obtain ⟨H1, H2⟩ := id H
  have hp : 2 ^ g (44 + v) ≤ 256 := by
    have : 2 ^ g (44 + v) ≤ 2 ^ 8 := Nat.pow_le_pow_right (by decide) hr
    exact this
  have key : ∀ m i w1 w2, i + m = 2 ^ g (44 + v) → (∀ j, j < i → decide (xsN (vecs g v) j (g (44 + v)) = a) = false) → run 134 2 [.ref x, .int (nI v), .int (nI a), .int (nI i), w1, w2] [] h = some (some (.int (optI (sfN g v a))), h) := by
    intro m
    induction m with
    | zero =>
      intro i w1 w2 hi hn
      rw [s134_2]
      simp (disch := omega) only [s134_3, s134_4, s134_5, s134_8, s134_10, s134_11, s134_12, s134_13, s134_14, s134_82, s134_84, gf0, gf1, gf2, gf3, gf4, gf5, gf6, gf7, gf8, gf9, gf10, gf11, gf12, gf13, gf14, pu0, pu1, pu2, pu3, pu4, pu5, pu6, pu7, pu8, pu9, pu10, pu11, pu12, pu13, pu14, rc_at, bK_some, Option.toList_some, Option.toList_none, List.cons_append, List.nil_append, H1, H2, hget_set, hget_ne, hset_set, mI, nI_mul, nI_adds, al_I, as_I, nf_at, upd_nf, nI_shl1, nI_lts, show ¬ (i < 2 ^ g (44 + v)) from by omega, if_false]
      have : sfN g v a = none := firstN_none.mpr (fun j hj => hn j (by omega))
      rw [this]
      rfl
    | succ m ih =>
      intro i w1 w2 hi hn
      have hx : xsN (vecs g v) i (g (44 + v)) < 2 ^ 8 := xsN_lt hg
      rw [s134_2]
      simp (disch := omega) only [s134_3, s134_4, s134_5, s134_8, s134_10, s134_11, s134_12, s134_13, s134_14, s134_17, s134_18, s134_20, s134_21, gf0, gf1, gf2, gf3, gf4, gf5, gf6, gf7, gf8, gf9, gf10, gf11, gf12, gf13, gf14, pu0, pu1, pu2, pu3, pu4, pu5, pu6, pu7, pu8, pu9, pu10, pu11, pu12, pu13, pu14, rc_at, bK_some, Option.toList_some, Option.toList_none, List.cons_append, List.nil_append, H1, H2, hget_set, hget_ne, hset_set, mI, nI_mul, nI_adds, al_I, as_I, nf_at, upd_nf, nI_shl1, nI_lts, show i < 2 ^ g (44 + v) from by omega, if_true]
      rw [m_setFor_in H hv hr (by omega)]
      simp (disch := omega) only [s134_68, s134_70, s134_71, s134_74, s134_75, s134_76, s134_79, nI_eqs, nI_adds]
      by_cases hc : xsN (vecs g v) i (g (44 + v)) = a
      · rw [if_pos hc]
        have : sfN g v a = some i := firstN_some.mpr ⟨by omega, by simp [hc], hn⟩
        rw [this]
        rfl
      · rw [if_neg hc]
        refine ih (i + 1) _ _ (by omega) (fun j hj => ?_)
        by_cases hji : j = i
        · subst hji; simp [hc]
        · exact hn j (by omega)
  simp only [s134_0, s134_1]
  exact key _ 0 _ _ (Nat.zero_add _) (fun j hj => absurd hj (Nat.not_lt_zero j))
end ME
