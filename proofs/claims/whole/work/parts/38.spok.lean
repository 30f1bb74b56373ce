/-! a span and the sums that it stands for -/
def Ind (f : Nat → Nat) (n : Nat) : Prop := ∀ s, s < 2 ^ n → xsN f s n = 0 → s = 0
theorem Ind.inj {f : Nat → Nat} {n s t : Nat} (h : Ind f n) (hs : s < 2 ^ n) (ht : t < 2 ^ n) (e : xsN f s n = xsN f t n) : s = t := by
  have h1 := h (s ^^^ t) (Nat.xor_lt_two_pow hs ht) (by rw [xsN_xor, e, Nat.xor_self])
  have h2 : s ^^^ (s ^^^ t) = s ^^^ 0 := by rw [h1]
  rw [xor_x, Nat.xor_zero] at h2
  exact h2.symm
def nz (L : Nat → Nat) : Nat := cntN (fun b => decide (L b ≠ 0)) 8
theorem cntN_split {p : Nat → Bool} {k n : Nat} (hk : k ≤ n) (h : ∀ i, k ≤ i → i < n → p i = false) : cntN p n = cntN p k := by
  induction n with
  | zero =>
    have : k = 0 := by omega
    subst this
    rfl
  | succ n ih =>
    by_cases hkn : k = n + 1
    · subst hkn; rfl
    · simp only [cntN]
      rw [ih (by omega) (fun i h1 h2 => h i h1 (by omega)), h n (by omega) (by omega)]
      rfl
theorem cntN_lt {p : Nat → Bool} {b k : Nat} (hb : b < k) (h : p b = false) : cntN p k < k := by
  induction k with
  | zero => omega
  | succ k ih =>
    simp only [cntN]
    by_cases hbk : b = k
    · subst hbk
      rw [h]
      have := cntN_le p b
      simp
      omega
    · have := ih (by omega)
      split <;> omega
theorem cntN_up {p q : Nat → Bool} {b n : Nat} (hb : b < n) (hp : p b = false) (hq : q b = true) (h : ∀ i, i ≠ b → q i = p i) : cntN q n = cntN p n + 1 := by
  induction n with
  | zero => omega
  | succ n ih =>
    simp only [cntN]
    by_cases hbn : b = n
    · subst hbn
      rw [hq, hp, cntN_congr (fun i hi => h i (by omega))]
      rfl
    · rw [ih (by omega), h n (Ne.symm hbn)]
      omega
theorem xsN_lin {f L P : Nat → Nat} {n m : Nat} (h : ∀ b, b < m → xsN f (P b) n = L b) (T : Nat) : xsN f (xsN P T m) n = xsN L T m := by
  induction m with
  | zero => exact xsN_0 f n
  | succ m ih =>
    simp only [xsN]
    rw [xsN_xor, ih (fun b hb => h b (by omega))]
    split
    · rw [h m (by omega)]
    · rw [xsN_0]
theorem inS_sum {L f : Nat → Nat} {n : Nat} (h : ∀ i, i < n → inS L (f i)) (s : Nat) : inS L (xsN f s n) := by
  induction n with
  | zero => exact inS_0 L
  | succ n ih =>
    simp only [xsN]
    refine inS_xor (ih fun i hi => h i (by omega)) ?_
    split
    · exact h n (by omega)
    · exact inS_0 L
theorem xsN_up {f : Nat → Nat} {b w T m : Nat} (h : T.testBit b = false) : xsN (up f b w) T m = xsN f T m := by
  induction m with
  | zero => rfl
  | succ m ih =>
    simp only [xsN, ih, hasN_bit]
    by_cases hm : m = b
    · subst hm; rw [h]; rfl
    · rw [up_ne hm]
theorem inS_up {L : Nat → Nat} {b w a : Nat} (hb : b < 8) (h0 : L b = 0) (h : inS L a) : inS (up L b w) a := by
  obtain ⟨T, rfl⟩ := h
  by_cases hT : T.testBit b = false
  · exact ⟨T, xsN_up hT⟩
  · refine ⟨T ^^^ 2 ^ b, ?_⟩
    rw [xsN_up (by rw [Nat.testBit_xor, Nat.testBit_two_pow_self]; simpa using hT), xsN_xor, xsN_pow hb, h0, Nat.xor_zero]
def SpOK (L P f : Nat → Nat) (n k : Nat) : Prop := Ech L ∧ (∀ b, k ≤ b → b < 8 → L b = 0) ∧ (∀ b, b < 8 → L b ≠ 0 → P b < 2 ^ n ∧ xsN f (P b) n = L b) ∧ (∀ b, b < 8 → L b = 0 → P b = 0) ∧ (∀ i, i < n → inS L (f i)) ∧ nz L = n ∧ Ind f n
theorem SpOK.lin {L P f : Nat → Nat} {n k : Nat} (h : SpOK L P f n k) (T : Nat) : xsN f (xsN P T 8) n = xsN L T 8 := by
  refine xsN_lin (fun b hb => ?_) T
  by_cases h0 : L b = 0
  · rw [h.2.2.2.1 b hb h0, xsN_0, h0]
  · exact (h.2.2.1 b hb h0).2
theorem SpOK.plt {L P f : Nat → Nat} {n k : Nat} (h : SpOK L P f n k) (T : Nat) : xsN P T 8 < 2 ^ n := by
  refine xsN_lt (fun b hb => ?_)
  by_cases h0 : L b = 0
  · rw [h.2.2.2.1 b hb h0]; exact Nat.two_pow_pos n
  · exact (h.2.2.1 b hb h0).1
theorem SpOK.find {L P f : Nat → Nat} {n k a : Nat} (h : SpOK L P f n k) (ha : a < 256) : firstN (fun s => decide (xsN f s n = a)) (2 ^ n) = rd L P 8 a 0 := by
  cases hr : rd L P 8 a 0 with
  | some r =>
    obtain ⟨T, hT, h1, h2⟩ := rd_sound h.1 8 a 0 r (Nat.le_refl 8) ha hr
    rw [Nat.zero_xor] at h2
    subst h2
    refine firstN_some.mpr ⟨h.plt T, ?_, fun j hj => ?_⟩
    · rw [h.lin, ← h1]; simp
    · have hlt := h.plt T
      simp only [decide_eq_false_iff_not]
      intro e
      have := h.2.2.2.2.2.2.inj (show j < 2 ^ n by omega) hlt (by rw [e, h.lin, h1])
      omega
  | none =>
    refine firstN_none.mpr fun i hi => ?_
    simp only [decide_eq_false_iff_not]
    intro e
    have hS : inS L a := by rw [← e]; exact inS_sum h.2.2.2.2.1 i
    obtain ⟨r, h1⟩ := rd_complete (P := P) h.1 8 a 0 (Nat.le_refl 8) ha hS
    rw [hr] at h1
    cases h1
theorem SpOK.empty (f : Nat → Nat) (k : Nat) : SpOK (fun _ => 0) (fun _ => 0) f 0 k := by
  refine ⟨fun b _ => Or.inl rfl, fun _ _ _ => rfl, fun b _ h => absurd rfl h, fun _ _ _ => rfl, fun i h => absurd h (Nat.not_lt_zero i), by decide, fun s hs _ => ?_⟩
  simpa using hs
theorem SpOK.congr {L P f f' : Nat → Nat} {n k : Nat} (h : SpOK L P f n k) (e : ∀ i, i < n → f' i = f i) : SpOK L P f' n k := by
  have ex : ∀ s, xsN f' s n = xsN f s n := fun s => xsN_congr e
  obtain ⟨h1, h2, h3, h4, h5, h6, h7⟩ := h
  exact ⟨h1, h2, fun b hb h0 => ⟨(h3 b hb h0).1, by rw [ex]; exact (h3 b hb h0).2⟩, h4, fun i hi => by rw [e i hi]; exact h5 i hi, h6, fun s hs h0 => h7 s hs (by rw [← ex]; exact h0)⟩
theorem SpOK.leads_lt {L P f : Nat → Nat} {n k : Nat} (h : SpOK L P f n k) (T : Nat) : xsN L T 8 < 2 ^ k := by
  refine xsN_lt fun b hb => ?_
  by_cases hk : k ≤ b
  · rw [h.2.1 b hk hb]; exact Nat.two_pow_pos k
  · rcases h.1 b hb with h0 | h0
    · rw [h0]; exact Nat.two_pow_pos k
    · exact Nat.lt_of_lt_of_le h0.2 (Nat.pow_le_pow_right (by decide) (by omega))
theorem SpOK.add {L P f : Nat → Nat} {n k a b w q : Nat} (hk : k ≤ 8) (h : SpOK L P f n k) (ha : a < 2 ^ k) (e : ad L P 8 a (2 ^ n) = some (b, w, q)) : SpOK (up L b w) (up P b q) (up f n a) (n + 1) k ∧ n < k := by
  have ha8 : a < 2 ^ 8 := Nat.lt_of_lt_of_le ha (Nat.pow_le_pow_right (by decide) hk)
  obtain ⟨hb, h0, hw1, hw2, T, hT, h5, h6⟩ := ad_sound h.1 8 a (2 ^ n) b w q (Nat.le_refl 8) ha8 e
  have hrd : rd L P 8 a 0 = none := (rd_ad 8 a 0 (2 ^ n)).mpr ⟨_, e⟩
  have hwk : w < 2 ^ k := by rw [h5]; exact Nat.xor_lt_two_pow ha (h.leads_lt T)
  have hbk : b < k := by
    rcases Nat.lt_or_ge b k with z | z
    · exact z
    · have : 2 ^ k ≤ 2 ^ b := Nat.pow_le_pow_right (by decide) z
      omega
  have hw0 : w ≠ 0 := by have := Nat.two_pow_pos b; omega
  have hpow : (2 : Nat) ^ n < 2 ^ (n + 1) := Nat.pow_lt_pow_right (by decide) (Nat.lt_succ_self n)
  have low : ∀ s, s < 2 ^ n → xsN (up f n a) s (n + 1) = xsN f s n := by
    intro s hs
    have hbit : s.testBit n = false := Nat.testBit_lt_two_pow hs
    rw [xsN_up hbit]
    exact xsN_high hs (n + 1) (Nat.le_succ n)
  have hn : n < k := by
    have h1 : nz L = cntN (fun b => decide (L b ≠ 0)) k := cntN_split hk (fun i h1 h2 => by simp [h.2.1 i h1 h2])
    have h2 : cntN (fun b => decide (L b ≠ 0)) k < k := cntN_lt hbk (by simp [h0])
    have h3 := h.2.2.2.2.2.1
    omega
  refine ⟨⟨?_, ?_, ?_, ?_, ?_, ?_, ?_⟩, hn⟩
  · intro b' hb'
    by_cases hbb : b' = b
    · subst hbb; rw [up_same]; exact Or.inr ⟨hw1, hw2⟩
    · rw [up_ne hbb]; exact h.1 b' hb'
  · intro b' hk' hb'
    rw [up_ne (by omega)]
    exact h.2.1 b' hk' hb'
  · intro b' hb' hne
    by_cases hbb : b' = b
    · subst hbb
      rw [up_same, up_same]
      have hp := h.plt T
      refine ⟨by rw [h6]; exact Nat.xor_lt_two_pow hpow (by omega), ?_⟩
      rw [h6, xsN_xor, xsN_pow (Nat.lt_succ_self n), up_same, low _ hp, h.lin, ← h5]
    · rw [up_ne hbb] at hne ⊢
      rw [up_ne hbb]
      obtain ⟨h1, h2⟩ := h.2.2.1 b' hb' hne
      exact ⟨by omega, by rw [low _ h1]; exact h2⟩
  · intro b' hb' hz
    by_cases hbb : b' = b
    · subst hbb; rw [up_same] at hz; exact absurd hz hw0
    · rw [up_ne hbb] at hz ⊢
      exact h.2.2.2.1 b' hb' hz
  · intro i hi
    by_cases hin : i = n
    · subst hin
      rw [up_same]
      have : a = w ^^^ xsN L T 8 := by rw [h5, Nat.xor_assoc, Nat.xor_self, Nat.xor_zero]
      rw [this]
      refine inS_xor ?_ (inS_up hb h0 ⟨T, rfl⟩)
      have := inS_lead (L := up L b w) hb
      rwa [up_same] at this
    · rw [up_ne hin]
      exact inS_up hb h0 (h.2.2.2.2.1 i (by omega))
  · show cntN _ 8 = n + 1
    rw [cntN_up (p := fun b => decide (L b ≠ 0)) hb (by simp [h0]) (by simp [up_same, hw0]) (fun i hi => by simp [up_ne hi])]
    rw [show cntN (fun b => decide (L b ≠ 0)) 8 = n from h.2.2.2.2.2.1]
  · intro s hs hz
    by_cases hbit : s.testBit n = true
    · exfalso
      have hs' : s ^^^ 2 ^ n < 2 ^ n := xor_top hs hbit (Nat.le_refl _) hpow
      have e1 : s = (s ^^^ 2 ^ n) ^^^ 2 ^ n := by rw [Nat.xor_assoc, Nat.xor_self, Nat.xor_zero]
      rw [e1, xsN_xor, xsN_pow (Nat.lt_succ_self n), up_same, low _ hs'] at hz
      have e2 : xsN f (s ^^^ 2 ^ n) n = a := by
        have : xsN f (s ^^^ 2 ^ n) n ^^^ a ^^^ a = 0 ^^^ a := by rw [hz]
        rwa [Nat.xor_assoc, Nat.xor_self, Nat.xor_zero, Nat.zero_xor] at this
      have hS : inS L a := by rw [← e2]; exact inS_sum h.2.2.2.2.1 _
      obtain ⟨r, h1⟩ := rd_complete (P := P) h.1 8 a 0 (Nat.le_refl 8) ha8 hS
      rw [hrd] at h1
      cases h1
    · have hs' : s < 2 ^ n := lt_of_bit hs (by simpa using hbit)
      rw [low _ hs'] at hz
      exact h.2.2.2.2.2.2 s hs' hz
theorem SpOK.le {L P f : Nat → Nat} {n k : Nat} (hk : k ≤ 8) (h : SpOK L P f n k) : n ≤ k := by
  have h1 : nz L = cntN (fun b => decide (L b ≠ 0)) k := cntN_split hk (fun i h1 h2 => by simp [h.2.1 i h1 h2])
  have h2 := cntN_le (fun b => decide (L b ≠ 0)) k
  have h3 := h.2.2.2.2.2.1
  omega
/-- what is not a sum of a node's vectors can be accepted -/
theorem SpOK.room {L P f : Nat → Nat} {n k a : Nat} (hk : k ≤ 8) (h : SpOK L P f n k) (ha : a < 2 ^ k) (e : firstN (fun s => decide (xsN f s n = a)) (2 ^ n) = none) : ∃ b w q, ad L P 8 a (2 ^ n) = some (b, w, q) := by
  have ha8 : a < 256 := Nat.lt_of_lt_of_le ha (Nat.pow_le_pow_right (n := 2) (by decide) hk)
  rw [h.find ha8] at e
  obtain ⟨⟨b, w, q⟩, h1⟩ := (rd_ad 8 a 0 (2 ^ n)).mp e
  exact ⟨b, w, q, h1⟩
