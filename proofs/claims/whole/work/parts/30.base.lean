/-! numbers, rows of numbers, loops -/
def bI (b : Bool) : Int32 := if b = true then nI 1 else nI 0
theorem bI_t : bI true = nI 1 := rfl
theorem bI_f : bI false = nI 0 := rfl
theorem bI_0 (b : Bool) : (bI b = 0) = (b = false) := by cases b <;> decide
theorem bI_1 (b : Bool) : (bI b = 1) = (b = true) := by cases b <;> decide
theorem bI_01 (b : Bool) : (bI b = 0 ∨ bI b = 1) = True := by cases b <;> decide
theorem n0 : nI 0 = 0 := rfl
theorem n1 : nI 1 = 1 := rfl
theorem z01_0 : (nI 0 = 0 ∨ nI 0 = 1) = True := by decide
theorem z01_1 : (nI 1 = 0 ∨ nI 1 = 1) = True := by decide
theorem z1_0 : (nI 1 = 0) = False := by decide
theorem z0_0 : (nI 0 = 0) = True := by decide
theorem nI_adds (a b : Nat) : nI a + nI b = nI (a + b) := nI_add a b
theorem nI_mul (a b : Nat) : nI a * nI b = nI (a * b) := pk_mul a b
theorem nI_sub {a b : Nat} (h : b ≤ a) : nI a - nI b = nI (a - b) := pk_sub h
theorem nI_xor (a b : Nat) : nI a ^^^ nI b = nI (a ^^^ b) := by
  apply Int32.toBitVec_inj.mp
  rw [Int32.toBitVec_xor]
  show BitVec.ofNat 32 a ^^^ BitVec.ofNat 32 b = BitVec.ofNat 32 (a ^^^ b)
  apply BitVec.eq_of_toNat_eq
  simp [BitVec.toNat_xor, Nat.xor_mod_two_pow]
theorem nI_and (a b : Nat) : nI a &&& nI b = nI (a &&& b) := by
  apply Int32.toBitVec_inj.mp
  rw [Int32.toBitVec_and]
  show BitVec.ofNat 32 a &&& BitVec.ofNat 32 b = BitVec.ofNat 32 (a &&& b)
  apply BitVec.eq_of_toNat_eq
  simp [BitVec.toNat_and, Nat.and_mod_two_pow]
theorem nI_or (a b : Nat) : nI a ||| nI b = nI (a ||| b) := by
  apply Int32.toBitVec_inj.mp
  rw [Int32.toBitVec_or]
  show BitVec.ofNat 32 a ||| BitVec.ofNat 32 b = BitVec.ofNat 32 (a ||| b)
  apply BitVec.eq_of_toNat_eq
  simp [BitVec.toNat_or, Nat.or_mod_two_pow]
theorem nI_lts {a b : Nat} (ha : a < 2 ^ 31) (hb : b < 2 ^ 31) : (nI a < nI b) = (a < b) := propext (nI_ltI ha hb)
theorem nI_les {a b : Nat} (ha : a < 2 ^ 31) (hb : b < 2 ^ 31) : (nI a ≤ nI b) = (a ≤ b) := propext (nI_leI ha hb)
theorem nI_eqs {a b : Nat} (ha : a < 2 ^ 31) (hb : b < 2 ^ 31) : (nI a = nI b) = (a = b) := propext (nI_eq ha hb)
theorem nI_lt0 {a : Nat} (ha : a < 2 ^ 31) : (nI a < 0) = False := eq_false (nI_pos ha)
theorem nI_eq0 {a : Nat} (ha : a < 2 ^ 31) : (nI a = 0) = (a = 0) := by rw [← n0]; exact nI_eqs ha (by decide)
theorem nI_gt0 {a : Nat} (ha : a < 2 ^ 31) : (0 < nI a) = (0 < a) := by rw [← n0]; exact nI_lts (by decide) ha
theorem nI_s31 {k : Nat} (hk : k < 32) : nI k &&& 31 = nI k := by
  have : ∀ k, k < 32 → nI k &&& 31 = nI k := by decide +kernel
  exact this k hk
theorem nI_shl1 {k : Nat} (hk : k < 31) : nI 1 <<< (nI k &&& 31) = nI (2 ^ k) := by
  have : ∀ k, k < 31 → nI 1 <<< (nI k &&& 31) = nI (2 ^ k) := by decide +kernel
  exact this k hk
theorem nI_shr {a k : Nat} (ha : a < 2 ^ 31) (hk : k < 32) : nI a >>> (nI k &&& 31) = nI (a / 2 ^ k) := by
  rw [nI_s31 hk]
  refine pk_shrN ha _ k ?_
  have : ∀ k, k < 32 → ((nI k).toBitVec.smod 32).toNat = k := by decide +kernel
  exact this k hk
theorem nI_div {a b : Nat} (ha : a < 2 ^ 31) (h0 : 0 < b) (hb : b < 2 ^ 31) : nI a / nI b = nI (a / b) := pk_div ha h0 hb
theorem nI_rem {a b : Nat} (ha : a < 2 ^ 31) (h0 : 0 < b) (hb : b < 2 ^ 31) : nI a - nI a / nI b * nI b = nI (a % b) := pk_rem ha h0 hb
/-- a row of numbers, as the machine keeps it -/
def nf (g : Nat → Nat) : Nat → Int32 := fun j => nI (g j)
theorem nf_at (g : Nat → Nat) (j : Nat) : nf g j = nI (g j) := rfl
def up (g : Nat → Nat) (i v : Nat) : Nat → Nat := fun j => if j = i then v else g j
theorem up_same (g : Nat → Nat) (i v : Nat) : up g i v i = v := by simp [up]
theorem up_ne {g : Nat → Nat} {i v j : Nat} (h : j ≠ i) : up g i v j = g j := by simp [up, h]
theorem upd_nf (g : Nat → Nat) (i v : Nat) : upd (nf g) i (nI v) = nf (up g i v) := by
  funext j
  by_cases h : j = i <;> simp [upd, nf, up, h]
theorem nf_0 : (fun _ => 0 : Nat → Int32) = nf (fun _ => 0) := rfl
theorem hset_same {h : aH} {a : Nat} {c : aC} (e : hget h a = some c) : hset h a c = h := by
  obtain ⟨n, s, f⟩ := h
  unfold hset
  dsimp only
  congr 2
  funext q
  by_cases hq : q = a
  · subst hq; rw [if_pos rfl]; exact e.symm
  · rw [if_neg hq]
/-- loops that count up -/
def foldN {σ : Type} (F : Nat → σ → σ) : Nat → σ → σ
  | 0, s => s
  | n + 1, s => F n (foldN F n s)
theorem loop_up {σ : Type} (R : Nat → σ → Option aR) (F : Nat → σ → σ) (n : Nat) (hs : ∀ i s, i < n → R i s = R (i + 1) (F i s)) (s : σ) : R 0 s = R n (foldN F n s) := by
  have key : ∀ m, m ≤ n → R 0 s = R m (foldN F m s) := by
    intro m
    induction m with
    | zero => intro _; rfl
    | succ m ih => intro hm; rw [ih (by omega), hs m _ (by omega)]; rfl
  exact key n (Nat.le_refl n)
theorem loop_inv {σ : Type} (R : Nat → σ → Option aR) (F : Nat → σ → σ) (I : Nat → σ → Prop) (n : Nat) (hs : ∀ i s, i < n → I i s → R i s = R (i + 1) (F i s) ∧ I (i + 1) (F i s)) (s : σ) (h0 : I 0 s) : R 0 s = R n (foldN F n s) ∧ I n (foldN F n s) := by
  have key : ∀ m, m ≤ n → R 0 s = R m (foldN F m s) ∧ I m (foldN F m s) := by
    intro m
    induction m with
    | zero => intro _; exact ⟨rfl, h0⟩
    | succ m ih =>
      intro hm
      obtain ⟨h1, h2⟩ := ih (by omega)
      obtain ⟨h3, h4⟩ := hs m _ (by omega) h2
      exact ⟨by rw [h1, h3]; rfl, h4⟩
  exact key n (Nat.le_refl n)
def anyN (p : Nat → Bool) : Nat → Bool
  | 0 => false
  | n + 1 => anyN p n || p n
theorem anyN_iff {p : Nat → Bool} {n : Nat} : anyN p n = true ↔ ∃ i, i < n ∧ p i = true := by
  induction n with
  | zero => simp [anyN]
  | succ n ih =>
    simp only [anyN, Bool.or_eq_true, ih]
    constructor
    · rintro (⟨i, h1, h2⟩ | h)
      · exact ⟨i, by omega, h2⟩
      · exact ⟨n, by omega, h⟩
    · rintro ⟨i, h1, h2⟩
      by_cases hi : i = n
      · subst hi; exact Or.inr h2
      · exact Or.inl ⟨i, by omega, h2⟩
def cntN (p : Nat → Bool) : Nat → Nat
  | 0 => 0
  | n + 1 => cntN p n + (if p n = true then 1 else 0)
theorem cntN_le (p : Nat → Bool) (n : Nat) : cntN p n ≤ n := by
  induction n with
  | zero => exact Nat.le_refl 0
  | succ n ih => simp only [cntN]; split <;> omega
theorem cntN_congr {p q : Nat → Bool} {n : Nat} (h : ∀ i, i < n → p i = q i) : cntN p n = cntN q n := by
  induction n with
  | zero => rfl
  | succ n ih => simp only [cntN]; rw [ih (fun i hi => h i (by omega)), h n (by omega)]
theorem anyN_congr {p q : Nat → Bool} {n : Nat} (h : ∀ i, i < n → p i = q i) : anyN p n = anyN q n := by
  induction n with
  | zero => rfl
  | succ n ih => simp only [anyN]; rw [ih (fun i hi => h i (by omega)), h n (by omega)]
/-- an argument within bounds is a number -/
theorem arg_in {x : Int32} {a b : Nat} (hb : b < 2 ^ 31) (h1 : ¬ x < nI a) (h2 : ¬ nI b < x) (ha : a < 2 ^ 31) : ∃ j, a ≤ j ∧ j ≤ b ∧ x = nI j := by
  have h0 : ¬ x < 0 := by
    intro q
    apply h1
    rw [Int32.lt_iff_toInt_lt] at q ⊢
    rw [nI_toInt ha]
    have : (0 : Int32).toInt = 0 := rfl
    omega
  obtain ⟨j, hj, rfl⟩ := nI_of h0
  refine ⟨j, ?_, ?_, rfl⟩
  · rw [nI_lts hj ha] at h1; omega
  · rw [nI_lts hb hj] at h2; omega
