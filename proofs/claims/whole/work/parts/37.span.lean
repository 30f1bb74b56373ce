/-! sums modulo 2: spans by their leads -/
theorem hasN_bit (s k : Nat) : hasN s k = s.testBit k := by rw [Nat.testBit_eq_decide_div_mod_eq]; rfl
theorem xor_lc (a b c : Nat) : a ^^^ (b ^^^ c) = b ^^^ (a ^^^ c) := by rw [← Nat.xor_assoc, Nat.xor_comm a b, Nat.xor_assoc]
theorem xor_x (a b : Nat) : a ^^^ (a ^^^ b) = b := by rw [← Nat.xor_assoc, Nat.xor_self, Nat.zero_xor]
theorem xsN_xor (f : Nat → Nat) (s t n : Nat) : xsN f (s ^^^ t) n = xsN f s n ^^^ xsN f t n := by
  induction n with
  | zero => simp [xsN]
  | succ n ih =>
    simp only [xsN, ih, hasN_bit, Nat.testBit_xor]
    cases s.testBit n <;> cases t.testBit n <;> simp [Nat.xor_assoc, Nat.xor_comm, xor_lc, xor_x]
theorem xsN_0 (f : Nat → Nat) (n : Nat) : xsN f 0 n = 0 := by
  induction n with
  | zero => rfl
  | succ n ih => simp [xsN, ih, hasN_bit]
theorem xsN_pow {f : Nat → Nat} {b n : Nat} (hb : b < n) : xsN f (2 ^ b) n = f b := by
  have low : ∀ m, m ≤ b → xsN f (2 ^ b) m = 0 := by
    intro m
    induction m with
    | zero => intro _; rfl
    | succ m ih =>
      intro hm
      simp only [xsN, ih (by omega), hasN_bit, Nat.testBit_two_pow]
      rw [if_neg (by simp; omega)]
      rfl
  have key : ∀ m, b < m → xsN f (2 ^ b) m = f b := by
    intro m
    induction m with
    | zero => intro h; omega
    | succ m ih =>
      intro hm
      simp only [xsN, hasN_bit, Nat.testBit_two_pow]
      by_cases h : b = m
      · subst h; rw [low b (Nat.le_refl b)]; simp
      · rw [ih (by omega), if_neg (by simp [h])]; simp
  exact key n hb
theorem xsN_high {f : Nat → Nat} {s n : Nat} (hs : s < 2 ^ n) : ∀ m, n ≤ m → xsN f s m = xsN f s n := by
  intro m
  induction m with
  | zero =>
    intro h
    have : n = 0 := by omega
    subst this
    rfl
  | succ m ih =>
    intro h
    by_cases hm : n = m + 1
    · subst hm; rfl
    · simp only [xsN, hasN_bit]
      have : s.testBit m = false := Nat.testBit_lt_two_pow (Nat.lt_of_lt_of_le hs (Nat.pow_le_pow_right (by decide) (by omega)))
      rw [this, ih (by omega)]
      simp
theorem bit_top {w b : Nat} (h1 : 2 ^ b ≤ w) (h2 : w < 2 ^ (b + 1)) : w.testBit b = true := by
  rw [Nat.testBit_eq_decide_div_mod_eq]
  have : w / 2 ^ b = 1 := by
    rw [Nat.div_eq_iff (Nat.two_pow_pos b)]
    rw [Nat.pow_succ] at h2
    omega
  simp [this]
theorem top_of_bit {w b : Nat} (h : w.testBit b = true) : 2 ^ b ≤ w := by
  rcases Nat.lt_or_ge w (2 ^ b) with q | q
  · rw [Nat.testBit_lt_two_pow q] at h; cases h
  · exact q
theorem lt_of_bit {w b : Nat} (h2 : w < 2 ^ (b + 1)) (h : w.testBit b = false) : w < 2 ^ b := by
  rcases Nat.lt_or_ge w (2 ^ b) with q | q
  · exact q
  · rw [bit_top q h2] at h; cases h
theorem xor_top {w l b : Nat} (h1 : w < 2 ^ (b + 1)) (hb : w.testBit b = true) (h2 : 2 ^ b ≤ l) (h3 : l < 2 ^ (b + 1)) : w ^^^ l < 2 ^ b := by
  refine lt_of_bit (Nat.xor_lt_two_pow h1 h3) ?_
  rw [Nat.testBit_xor, hb, bit_top h2 h3]
  rfl
def Ech (L : Nat → Nat) : Prop := ∀ b, b < 8 → L b = 0 ∨ (2 ^ b ≤ L b ∧ L b < 2 ^ (b + 1))
def inS (L : Nat → Nat) (w : Nat) : Prop := ∃ T, xsN L T 8 = w
theorem inS_xor {L : Nat → Nat} {a b : Nat} (ha : inS L a) (hb : inS L b) : inS L (a ^^^ b) := by
  obtain ⟨s, rfl⟩ := ha
  obtain ⟨t, rfl⟩ := hb
  exact ⟨s ^^^ t, xsN_xor _ _ _ _⟩
theorem inS_0 (L : Nat → Nat) : inS L 0 := ⟨0, xsN_0 _ _⟩
theorem inS_lead {L : Nat → Nat} {b : Nat} (hb : b < 8) : inS L (L b) := ⟨2 ^ b, xsN_pow hb⟩
theorem Ech.part {L : Nat → Nat} (h : Ech L) {T m : Nat} (hm : m ≤ 8) : xsN L T m < 2 ^ m := by
  induction m with
  | zero => simp [xsN]
  | succ m ih =>
    unfold xsN
    refine Nat.xor_lt_two_pow (Nat.lt_of_lt_of_le (ih (by omega)) (Nat.pow_le_pow_right (by decide) (Nat.le_succ m))) ?_
    split
    · rcases h m (by omega) with h0 | h0
      · rw [h0]; exact Nat.two_pow_pos _
      · exact h0.2
    · exact Nat.two_pow_pos _
theorem Ech.lt {L : Nat → Nat} (h : Ech L) {w : Nat} (hw : inS L w) : w < 256 := by
  obtain ⟨T, rfl⟩ := hw
  exact h.part (Nat.le_refl 8)
/-- the highest bit of a sum of leads has a lead -/
theorem Ech.top {L : Nat → Nat} (h : Ech L) {w b : Nat} (hb : b < 8) (hw : inS L w) (h1 : w < 2 ^ (b + 1)) (h2 : w.testBit b = true) : L b ≠ 0 := by
  obtain ⟨T, hT⟩ := hw
  intro h0
  have key : ∀ d m, m + d = 8 → b + 1 ≤ m → xsN L T m = w := by
    intro d
    induction d with
    | zero =>
      intro m hm _
      have : m = 8 := by omega
      subst this
      exact hT
    | succ d ih =>
      intro m hm hbm
      have h3 := ih (m + 1) (by omega) (by omega)
      unfold xsN at h3
      split at h3
      · rcases h m (by omega) with h4 | h4
        · rw [h4] at h3; simpa using h3
        · exfalso
          have h5 := h.part (T := T) (show m ≤ 8 by omega)
          have h6 : (xsN L T m ^^^ L m).testBit m = true := by
            rw [Nat.testBit_xor, Nat.testBit_lt_two_pow h5, bit_top h4.1 h4.2]; rfl
          rw [h3] at h6
          have := top_of_bit h6
          have h7 : 2 ^ (b + 1) ≤ 2 ^ m := Nat.pow_le_pow_right (by decide) hbm
          omega
      · simpa using h3
  have h3 := key (8 - (b + 1)) (b + 1) (by omega) (Nat.le_refl _)
  have h4 := h.part (T := T) (show b ≤ 8 by omega)
  unfold xsN at h3
  have h5 : xsN L T b = w := by
    split at h3
    · rw [h0] at h3; simpa using h3
    · simpa using h3
  rw [h5] at h4
  rw [Nat.testBit_lt_two_pow h4] at h2
  cases h2
/-- a vector is taken down by the leads, with the sets behind them -/
def rd (L P : Nat → Nat) : Nat → Nat → Nat → Option Nat
  | 0, _, q => some q
  | n + 1, w, q => if w.testBit n = true then (if L n = 0 then none else rd L P n (w ^^^ L n) (q ^^^ P n)) else rd L P n w q
/-- where a vector that can't be taken down stops: the bit, what is left, its set -/
def ad (L P : Nat → Nat) : Nat → Nat → Nat → Option (Nat × Nat × Nat)
  | 0, _, _ => none
  | n + 1, w, q => if w.testBit n = true then (if L n = 0 then some (n, w, q) else ad L P n (w ^^^ L n) (q ^^^ P n)) else ad L P n w q
theorem rd_sound {L P : Nat → Nat} (hE : Ech L) : ∀ n w q r, n ≤ 8 → w < 2 ^ n → rd L P n w q = some r → ∃ T, T < 2 ^ n ∧ w = xsN L T 8 ∧ r = q ^^^ xsN P T 8 := by
  intro n
  induction n with
  | zero =>
    intro w q r _ hw h
    have : w = 0 := by simpa using hw
    subst this
    cases h
    exact ⟨0, by decide, (xsN_0 _ _).symm, by rw [xsN_0]; simp⟩
  | succ n ih =>
    intro w q r hn hw h
    unfold rd at h
    have hpow : (2 : Nat) ^ n < 2 ^ (n + 1) := Nat.pow_lt_pow_right (by decide) (Nat.lt_succ_self n)
    split at h
    · rename_i hb
      split at h
      · cases h
      · rename_i h0
        have hl := (hE n (by omega)).resolve_left h0
        obtain ⟨T, hT, h1, h2⟩ := ih _ _ _ (by omega) (xor_top hw hb hl.1 hl.2) h
        refine ⟨T ^^^ 2 ^ n, Nat.xor_lt_two_pow (by omega) hpow, ?_, ?_⟩
        · rw [xsN_xor, ← h1, xsN_pow (by omega), Nat.xor_assoc, Nat.xor_self, Nat.xor_zero]
        · rw [h2, xsN_xor, xsN_pow (by omega), Nat.xor_assoc, Nat.xor_comm (P n)]
    · rename_i hb
      obtain ⟨T, hT, h1, h2⟩ := ih _ _ _ (by omega) (lt_of_bit hw (by simpa using hb)) h
      exact ⟨T, by omega, h1, h2⟩
theorem rd_complete {L P : Nat → Nat} (hE : Ech L) : ∀ n w q, n ≤ 8 → w < 2 ^ n → inS L w → ∃ r, rd L P n w q = some r := by
  intro n
  induction n with
  | zero => intro w q _ _ _; exact ⟨q, rfl⟩
  | succ n ih =>
    intro w q hn hw hS
    unfold rd
    split
    · rename_i hb
      have h0 := hE.top (by omega) hS hw hb
      rw [if_neg h0]
      have hl := (hE n (by omega)).resolve_left h0
      exact ih _ _ (by omega) (xor_top hw hb hl.1 hl.2) (inS_xor hS (inS_lead (by omega)))
    · rename_i hb
      exact ih _ _ (by omega) (lt_of_bit hw (by simpa using hb)) hS
theorem rd_ad {L P : Nat → Nat} : ∀ n w q q', rd L P n w q = none ↔ ∃ r, ad L P n w q' = some r := by
  intro n
  induction n with
  | zero => intro w q q'; simp [rd, ad]
  | succ n ih =>
    intro w q q'
    unfold rd ad
    split
    · split
      · simp
      · exact ih _ _ _
    · exact ih _ _ _
theorem ad_sound {L P : Nat → Nat} (hE : Ech L) : ∀ n w q b w' q', n ≤ 8 → w < 2 ^ n → ad L P n w q = some (b, w', q') → b < n ∧ L b = 0 ∧ 2 ^ b ≤ w' ∧ w' < 2 ^ (b + 1) ∧ ∃ T, T < 256 ∧ w' = w ^^^ xsN L T 8 ∧ q' = q ^^^ xsN P T 8 := by
  intro n
  induction n with
  | zero => intro w q b w' q' _ _ h; cases h
  | succ n ih =>
    intro w q b w' q' hn hw h
    unfold ad at h
    split at h
    · rename_i hb
      split at h
      · rename_i h0
        cases h
        exact ⟨by omega, h0, top_of_bit hb, hw, 0, by decide, by rw [xsN_0]; simp, by rw [xsN_0]; simp⟩
      · rename_i h0
        have hl := (hE n (by omega)).resolve_left h0
        obtain ⟨h1, h2, h3, h4, T, hT, h5, h6⟩ := ih _ _ _ _ _ (by omega) (xor_top hw hb hl.1 hl.2) h
        refine ⟨by omega, h2, h3, h4, T ^^^ 2 ^ n, ?_, ?_, ?_⟩
        · have : (2 : Nat) ^ n < 2 ^ 8 := Nat.pow_lt_pow_right (by decide) (by omega)
          exact Nat.xor_lt_two_pow (n := 8) hT this
        · rw [h5, xsN_xor, xsN_pow (by omega), Nat.xor_assoc, Nat.xor_comm (L n)]
        · rw [h6, xsN_xor, xsN_pow (by omega), Nat.xor_assoc, Nat.xor_comm (P n)]
    · rename_i hb
      obtain ⟨h1, h2⟩ := ih _ _ _ _ _ (by omega) (lt_of_bit hw (by simpa using hb)) h
      exact ⟨by omega, h2⟩
