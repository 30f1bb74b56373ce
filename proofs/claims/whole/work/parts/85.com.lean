/-! what two spans have in common -/
theorem add_xor {k i : Nat} (hi : i < 2 ^ k) : 2 ^ k + i = 2 ^ k ^^^ i := by
  apply Nat.eq_of_testBit_eq
  intro j
  rw [Nat.testBit_xor, Nat.testBit_two_pow]
  rcases Nat.lt_trichotomy j k with h | h | h
  · rw [Nat.testBit_two_pow_add_gt h]
    have : decide (k = j) = false := decide_eq_false (by omega)
    rw [this, Bool.false_xor]
  · subst h
    rw [Nat.testBit_two_pow_add_eq]
    simp
  · have hp : 2 ^ (k + 1) ≤ 2 ^ j := Nat.pow_le_pow_right (by decide) h
    have hs : 2 ^ (k + 1) = 2 ^ k + 2 ^ k := by rw [Nat.pow_succ]; omega
    rw [Nat.testBit_lt_two_pow (show 2 ^ k + i < 2 ^ j by omega), Nat.testBit_lt_two_pow (show i < 2 ^ j by omega)]
    have : decide (k = j) = false := decide_eq_false (by omega)
    rw [this]
    rfl
theorem cntN_add (p : Nat → Bool) (a : Nat) : ∀ b, cntN p (a + b) = cntN p a + cntN (fun i => p (a + i)) b := by
  intro b
  induction b with
  | zero => rfl
  | succ b ih =>
    rw [show a + (b + 1) = (a + b) + 1 from by omega]
    simp only [cntN]
    rw [ih]
    omega
theorem cntX : ∀ (k : Nat) (p : Nat → Bool) (c : Nat), c < 2 ^ k → cntN (fun w => p (w ^^^ c)) (2 ^ k) = cntN p (2 ^ k) := by
  intro k
  induction k with
  | zero =>
    intro p c hc
    have : c = 0 := by simp at hc; exact hc
    subst this
    simp
  | succ k ih =>
    intro p c hc
    have hs : 2 ^ (k + 1) = 2 ^ k + 2 ^ k := by rw [Nat.pow_succ]; omega
    rw [hs] at hc ⊢
    rw [cntN_add, cntN_add]
    by_cases z : c < 2 ^ k
    · rw [ih p c z]
      congr 1
      rw [← ih (fun i => p (2 ^ k + i)) c z]
      refine cntN_congr (fun i hi => ?_)
      rw [add_xor hi, add_xor (Nat.xor_lt_two_pow hi z), Nat.xor_assoc]
    · obtain ⟨d, rfl⟩ : ∃ d, c = 2 ^ k + d := ⟨c - 2 ^ k, by omega⟩
      have hd : d < 2 ^ k := by omega
      have e1 : cntN (fun w => p (w ^^^ (2 ^ k + d))) (2 ^ k) = cntN (fun i => p (2 ^ k + i)) (2 ^ k) := by
        rw [← ih (fun i => p (2 ^ k + i)) d hd]
        refine cntN_congr (fun i hi => ?_)
        rw [add_xor hd, add_xor (Nat.xor_lt_two_pow hi hd), xor_lc]
      have e2 : cntN (fun i => p ((2 ^ k + i) ^^^ (2 ^ k + d))) (2 ^ k) = cntN p (2 ^ k) := by
        rw [← ih p d hd]
        refine cntN_congr (fun i hi => ?_)
        rw [add_xor hd, add_xor hi, Nat.xor_assoc, xor_lc i, xor_x]
      rw [e1, e2, Nat.add_comm]
theorem cntN_or {p r : Nat → Bool} {n : Nat} (hd : ∀ w, w < n → ¬ (p w = true ∧ r w = true)) : cntN (fun w => p w || r w) n = cntN p n + cntN r n := by
  induction n with
  | zero => rfl
  | succ n ih =>
    have := ih (fun w hw => hd w (by omega))
    have h := hd n (by omega)
    simp only [cntN]
    rw [this]
    by_cases q1 : p n = true
    · by_cases q2 : r n = true
      · exact absurd ⟨q1, q2⟩ h
      · simp [q1, q2]; omega
    · by_cases q2 : r n = true
      · simp [q1, q2]; omega
      · simp [q1, q2]
theorem cnt_dbl {p q : Nat → Bool} {c k : Nat} (hc : c < 2 ^ k) (hq : ∀ w, w < 2 ^ k → q w = (p w || p (w ^^^ c))) (hd : ∀ w, w < 2 ^ k → ¬ (p w = true ∧ p (w ^^^ c) = true)) : cntN q (2 ^ k) = 2 * cntN p (2 ^ k) := by
  rw [cntN_congr hq, cntN_or hd, cntX k p c hc]
  omega
def spB (L : Nat → Nat) (w : Nat) : Bool := (rd L L 8 w 0).isSome
theorem rd_in {L : Nat → Nat} (P : Nat → Nat) (h : Ech L) {w : Nat} (hw : w < 256) : (rd L P 8 w 0).isSome = true ↔ inS L w := by
  constructor
  · intro e
    obtain ⟨r, hr⟩ := Option.isSome_iff_exists.mp e
    obtain ⟨T, _, e2, _⟩ := rd_sound h 8 w 0 r (Nat.le_refl _) hw hr
    exact ⟨T, e2.symm⟩
  · intro z
    obtain ⟨r, hr⟩ := rd_complete (P := P) h 8 w 0 (Nat.le_refl _) hw z
    rw [hr]; rfl
theorem spB_iff {L : Nat → Nat} (h : Ech L) {w : Nat} (hw : w < 256) : spB L w = true ↔ inS L w := rd_in L h hw
/-- the first leads alone -/
def tr (L : Nat → Nat) (m : Nat) : Nat → Nat := fun b => if b < m then L b else 0
theorem tr_ech {L : Nat → Nat} (h : Ech L) (m : Nat) : Ech (tr L m) := by
  intro b hb
  unfold tr
  split
  · exact h b hb
  · exact Or.inl rfl
theorem tr_up (L : Nat → Nat) (m : Nat) : tr L (m + 1) = up (tr L m) m (L m) := by
  funext b
  unfold tr up
  by_cases z : b = m
  · subst z; simp
  · simp only [z, if_false]
    by_cases q : b < m
    · simp [q, show b < m + 1 from by omega]
    · simp [q, show ¬ b < m + 1 from by omega]
theorem xsN_up2 {f : Nat → Nat} {b w T : Nat} (h0 : f b = 0) : ∀ n, xsN (up f b w) T n = xsN f T n ^^^ (if b < n ∧ hasN T b = true then w else 0) := by
  intro n
  induction n with
  | zero => simp [xsN]
  | succ n ih =>
    simp only [xsN]
    rw [ih]
    by_cases z : n = b
    · subst z
      rw [up_same, h0]
      by_cases q : hasN T n = true
      · simp [q, show n < n + 1 from by omega]
      · simp [q]
    · rw [up_ne z]
      by_cases q : b < n
      · have q' : b < n + 1 := by omega
        simp only [q, q', true_and]
        rw [Nat.xor_assoc, Nat.xor_assoc, Nat.xor_comm (if hasN T b = true then w else 0)]
      · have q' : ¬ b < n + 1 := by omega
        simp only [q, q', false_and, if_false, Nat.xor_zero]
theorem tr_in {L : Nat → Nat} {m : Nat} (hm : m < 8) (y : Nat) : inS (tr L (m + 1)) y ↔ (inS (tr L m) y ∨ inS (tr L m) (y ^^^ L m)) := by
  have h0 : tr L m m = 0 := by unfold tr; simp
  rw [tr_up]
  constructor
  · rintro ⟨T, rfl⟩
    rw [xsN_up2 h0]
    by_cases q : hasN T m = true
    · refine Or.inr ⟨T, ?_⟩
      rw [if_pos ⟨hm, q⟩, Nat.xor_assoc, Nat.xor_self, Nat.xor_zero]
    · refine Or.inl ⟨T, ?_⟩
      rw [if_neg (fun z => q z.2), Nat.xor_zero]
  · rintro (h | h)
    · exact inS_up hm h0 h
    · have h1 := inS_up (w := L m) hm h0 h
      have h2 := inS_lead (L := up (tr L m) m (L m)) hm
      rw [up_same] at h2
      have h3 := inS_xor h1 h2
      rw [Nat.xor_assoc, Nat.xor_self, Nat.xor_zero] at h3
      exact h3
theorem tr_lt {L : Nat → Nat} (h : Ech L) {m y : Nat} (hm : m ≤ 8) (hy : inS (tr L m) y) : y < 2 ^ m := by
  obtain ⟨T, rfl⟩ := hy
  refine xsN_lt (fun b hb => ?_)
  unfold tr
  split
  · rename_i q
    have hp : 2 ^ (b + 1) ≤ 2 ^ m := Nat.pow_le_pow_right (by decide) q
    rcases h b hb with z | z
    · rw [z]; exact Nat.two_pow_pos m
    · omega
  · exact Nat.two_pow_pos m
theorem nz_tr {L : Nat → Nat} {m : Nat} (hm : m < 8) : nz (tr L (m + 1)) = nz (tr L m) + (if L m ≠ 0 then 1 else 0) := by
  have h0 : tr L m m = 0 := by unfold tr; simp
  by_cases z : L m = 0
  · have : tr L (m + 1) = tr L m := by
      rw [tr_up, z]
      have := up_self (tr L m) m
      rw [h0] at this
      exact this
    rw [this]
    simp [z]
  · rw [tr_up]
    unfold nz
    rw [cntN_up (p := fun b => decide (tr L m b ≠ 0)) (q := fun b => decide (up (tr L m) m (L m) b ≠ 0)) hm (by simp [h0]) (by simp [up_same, z]) (fun i hi => by rw [up_ne hi])]
    simp [z]
def pJ (LA LB : Nat → Nat) (m : Nat) : Nat → Prop := fun w => inS LA w ∨ ∃ j, j < m ∧ w = LB j
theorem com_walk {LA LB PA : Nat → Nat} {sA : Nat} (hA : Ech LA) (hB : Ech LB) (hs : nz LA = sA) : ∀ m, m ≤ 8 → SpG (pJ LA LB m) (adA LB m (sA, LA, PA)).1 (adA LB m (sA, LA, PA)).2.1 ∧ ∃ d, cntN (fun w => spB LA w && spB (tr LB m) w) (2 ^ 8) = 2 ^ d ∧ d + (adA LB m (sA, LA, PA)).1 = sA + nz (tr LB m) := by
  intro m
  induction m with
  | zero =>
    intro _
    refine ⟨⟨hA, hs, ?_, fun b hb Q _ _ q2 => q2 _ (Or.inl (inS_lead hb))⟩, 0, ?_, ?_⟩
    · rintro w (hw | ⟨j, hj, _⟩)
      · exact hw
      · omega
    · have e : ∀ w, w < 256 → spB (tr LB 0) w = decide (w = 0) := by
        intro w hw
        rw [Bool.eq_iff_iff, spB_iff (tr_ech hB 0) hw, decide_eq_true_iff]
        constructor
        · intro q
          have := tr_lt hB (Nat.zero_le 8) q
          simp at this
          exact this
        · rintro rfl; exact inS_0 _
      rw [cntN_split (k := 1) (by decide) (fun i h1 h2 => by rw [e i h2]; simp; omega)]
      simp only [cntN]
      simp [e 0 (by decide), (spB_iff hA (show 0 < 256 by decide)).mpr (inS_0 _)]
    · have : nz (tr LB 0) = 0 := by
        unfold nz tr
        rw [cntN_congr (q := fun _ => false) (fun i _ => by simp)]
        rfl
      rw [this]
      simp [adA]
  | succ m ih =>
    intro hm
    obtain ⟨H, d, hc, hd⟩ := ih (by omega)
    have hm8 : m < 8 := by omega
    have hl : LB m < 256 := hB.lead_lt hm8
    have hq : ∀ w, pJ LA LB (m + 1) w ↔ (pJ LA LB m w ∨ w = LB m) := by
      intro w
      unfold pJ
      constructor
      · rintro (h | ⟨j, hj, rfl⟩)
        · exact Or.inl (Or.inl h)
        · by_cases z : j = m
          · subst z; exact Or.inr rfl
          · exact Or.inl (Or.inr ⟨j, by omega, rfl⟩)
      · rintro ((h | ⟨j, hj, rfl⟩) | rfl)
        · exact Or.inl h
        · exact Or.inr ⟨j, by omega, rfl⟩
        · exact Or.inr ⟨m, by omega, rfl⟩
    have A := H.add (P := (adA LB m (sA, LA, PA)).2.2) hl hq
    have mem : ∀ y, inS (adA LB m (sA, LA, PA)).2.1 y ↔ ∃ a b, inS LA a ∧ inS (tr LB m) b ∧ y = a ^^^ b := by
      intro y
      rw [H.mem]
      constructor
      · intro hy
        refine hy (fun y => ∃ a b, inS LA a ∧ inS (tr LB m) b ∧ y = a ^^^ b) ⟨0, 0, inS_0 _, inS_0 _, rfl⟩ ?_ ?_
        · rintro u v ⟨a, b, ha, hb, rfl⟩ ⟨a', b', ha', hb', rfl⟩
          refine ⟨a ^^^ a', b ^^^ b', inS_xor ha ha', inS_xor hb hb', ?_⟩
          rw [Nat.xor_assoc, Nat.xor_assoc, xor_lc b a' b']
        · rintro w (h | ⟨j, hj, rfl⟩)
          · exact ⟨w, 0, h, inS_0 _, (Nat.xor_zero _).symm⟩
          · refine ⟨0, LB j, inS_0 _, ?_, (Nat.zero_xor _).symm⟩
            have := inS_lead (L := tr LB m) (show j < 8 by omega)
            rw [show tr LB m j = LB j from by unfold tr; rw [if_pos hj]] at this
            exact this
      · rintro ⟨a, b, ha, ⟨T, rfl⟩, rfl⟩ Q q0 q1 q2
        refine q1 _ _ (q2 a (Or.inl ha)) (clo_xs q0 q1 T 8 (fun i hi => ?_))
        unfold tr
        split
        · rename_i z; exact q2 _ (Or.inr ⟨i, z, rfl⟩)
        · exact q0
    refine ⟨A, ?_⟩
    rw [nz_tr hm8]
    show ∃ d, _ ∧ d + (adS (adA LB m (sA, LA, PA)).1 (adA LB m (sA, LA, PA)).2.1 (adA LB m (sA, LA, PA)).2.2 (LB m)).1 = _
    by_cases z : LB m = 0
    · have e : tr LB (m + 1) = tr LB m := by
        have h0 : tr LB m m = 0 := by unfold tr; simp
        rw [tr_up, z]
        have := up_self (tr LB m) m
        rw [h0] at this
        exact this
      rw [e, adS_in H.1 hl (by rw [z]; exact inS_0 _)]
      exact ⟨d, hc, by simp [z]; exact hd⟩
    · have hz : 2 ^ m ≤ LB m := by
        rcases hB m hm8 with q | q
        · exact absurd q z
        · exact q.1
      by_cases hin : inS (adA LB m (sA, LA, PA)).2.1 (LB m)
      · obtain ⟨a, b, ha, hb, e⟩ := (mem _).mp hin
        rw [adS_in H.1 hl hin]
        refine ⟨d + 1, ?_, by simp [z]; omega⟩
        have ha8 : a < 2 ^ 8 := hA.lt ha
        have eb : LB m ^^^ b = a := by rw [e, Nat.xor_assoc, Nat.xor_self, Nat.xor_zero]
        have ea : a ^^^ b = LB m := e.symm
        rw [cnt_dbl (p := fun w => spB LA w && spB (tr LB m) w) ha8 ?_ ?_, hc, Nat.pow_succ]
        · omega
        · intro w hw
          have hw2 : w ^^^ a < 256 := Nat.xor_lt_two_pow (n := 8) hw ha8
          rw [Bool.eq_iff_iff]
          simp only [Bool.and_eq_true, Bool.or_eq_true]
          rw [spB_iff hA hw, spB_iff (tr_ech hB _) hw, spB_iff (tr_ech hB _) hw, spB_iff hA hw2, spB_iff (tr_ech hB _) hw2, tr_in hm8]
          constructor
          · rintro ⟨h1, h2 | h2⟩
            · exact Or.inl ⟨h1, h2⟩
            · refine Or.inr ⟨inS_xor h1 ha, ?_⟩
              have := inS_xor h2 hb
              rw [Nat.xor_assoc, eb] at this
              exact this
          · rintro (⟨h1, h2⟩ | ⟨h1, h2⟩)
            · exact ⟨h1, Or.inl h2⟩
            · refine ⟨?_, Or.inr ?_⟩
              · have := inS_xor h1 ha
                rw [Nat.xor_assoc, Nat.xor_self, Nat.xor_zero] at this
                exact this
              · have := inS_xor h2 hb
                rw [Nat.xor_assoc, ea] at this
                exact this
        · rintro w hw ⟨h1, h2⟩
          have hw2 : w ^^^ a < 256 := Nat.xor_lt_two_pow (n := 8) hw ha8
          simp only [Bool.and_eq_true] at h1 h2
          have k1 := (spB_iff (tr_ech hB _) hw).mp h1.2
          have k2 := (spB_iff (tr_ech hB _) hw2).mp h2.2
          have k3 := inS_xor k1 k2
          rw [xor_x] at k3
          have k4 := inS_xor k3 hb
          rw [ea] at k4
          have := tr_lt hB (by omega) k4
          omega
      · rw [adS_out H.1 hl hin]
        refine ⟨d, ?_, by simp [z]; omega⟩
        rw [← hc]
        refine cntN_congr (fun w hw => ?_)
        rw [Bool.eq_iff_iff]
        simp only [Bool.and_eq_true]
        rw [spB_iff hA hw, spB_iff (tr_ech hB _) hw, spB_iff (tr_ech hB _) hw, tr_in hm8]
        constructor
        · rintro ⟨h1, h2 | h2⟩
          · exact ⟨h1, h2⟩
          · refine absurd ((mem _).mpr ⟨w, w ^^^ LB m, h1, h2, ?_⟩) hin
            rw [xor_x]
        · rintro ⟨h1, h2⟩
          exact ⟨h1, Or.inl h2⟩
theorem lgF_pow : ∀ d, d < 9 → lgF 9 (2 ^ d) = d := by decide
