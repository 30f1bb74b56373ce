/-! flows and cuts -/
def siZ (b : Bool) : Int := if b = true then 1 else 0
def dS (fm ot U : Nat → Nat) (S : Nat → Bool) : Nat → Int
  | 0 => 0
  | m + 1 => dS fm ot U S m + (if U m ≠ 0 then siZ (S (fm m)) - siZ (S (ot m)) else 0)
def nrN (fm ot U : Nat → Nat) (l : Nat) : Nat := if U l = 0 then fm l else ot l
def faN (fm ot U : Nat → Nat) (l : Nat) : Nat := if U l = 0 then ot l else fm l
def ctR (R : Nat → Nat) : Nat := cntN (fun v => decide (R v ≠ 0)) 10
theorem cntN_pos {p : Nat → Bool} {n i : Nat} (hi : i < n) (h : p i = true) : 0 < cntN p n := by
  have := cntN_mono p (show i + 1 ≤ n by omega)
  simp only [cntN, h, if_true] at this
  omega
section FW
variable {n : Nat} {op : Nat → Bool} {fm ot : Nat → Nat}
theorem dS_up {U : Nat → Nat} {S : Nat → Bool} {l y : Nat} : ∀ m, dS fm ot (up U l y) S m = dS fm ot U S m + (if l < m then (if y ≠ 0 then siZ (S (fm l)) - siZ (S (ot l)) else 0) - (if U l ≠ 0 then siZ (S (fm l)) - siZ (S (ot l)) else 0) else 0) := by
  intro m
  induction m with
  | zero => simp [dS]
  | succ m ih =>
    simp only [dS]
    rw [ih]
    by_cases z : m = l
    · subst z
      rw [up_same, if_neg (Nat.lt_irrefl _), if_pos (Nat.lt_succ_self _)]
      omega
    · rw [up_ne z]
      by_cases q : l < m
      · rw [if_pos q, if_pos (show l < m + 1 by omega)]; omega
      · rw [if_neg q, if_neg (show ¬ l < m + 1 by omega)]; omega
/-- what a search keeps to -/
def SI (n : Nat) (op : Nat → Bool) (fm ot U : Nat → Nat) (s : Nat) (R B ord : Nat → Nat) : Prop := R s ≠ 0 ∧ (∀ v, v < 10 → R v ≤ 1) ∧ (∀ v, v < 10 → R v ≠ 0 → ord v < ctR R) ∧ (∀ v, v < 10 → R v ≠ 0 → v ≠ s → B v < n ∧ op (B v) = true ∧ faN fm ot U (B v) = v ∧ R (nrN fm ot U (B v)) ≠ 0 ∧ ord (nrN fm ot U (B v)) < ord v)
def CLo (n : Nat) (op : Nat → Bool) (fm ot U R : Nat → Nat) : Prop := ∀ l, l < n → op l = true → R (nrN fm ot U l) ≠ 0 → R (faN fm ot U l) ≠ 0
theorem SI.start {U B : Nat → Nat} {s : Nat} {R : Nat → Nat} (hs : s < 10) (hR : ∀ v, v < 10 → R v = if v = s then 1 else 0) : SI n op fm ot U s R B (fun _ => 0) := by
  have hRs : R s = 1 := by rw [hR s hs, if_pos rfl]
  refine ⟨by rw [hRs]; decide, fun v hv => ?_, fun v hv _ => ?_, fun v hv z zs => ?_⟩
  · rw [hR v hv]; split <;> decide
  · exact cntN_pos hs (by simp [hRs])
  · rw [hR v hv, if_neg zs] at z; exact absurd rfl z
theorem SI.step {U R B ord : Nat → Nat} {s l : Nat} (H : SI n op fm ot U s R B ord) (hl : l < n) (ho : op l = true) (hb : faN fm ot U l < 10) (hne : nrN fm ot U l ≠ faN fm ot U l) (h1 : R (nrN fm ot U l) ≠ 0) (h2 : R (faN fm ot U l) = 0) (hnr : nrN fm ot U l < 10) : SI n op fm ot U s (up R (faN fm ot U l) 1) (up B (faN fm ot U l) l) (up ord (faN fm ot U l) (ctR R)) ∧ ctR (up R (faN fm ot U l) 1) = ctR R + 1 := by
  have hc : ctR (up R (faN fm ot U l) 1) = ctR R + 1 := by
    unfold ctR
    refine cntN_up hb (by simp [h2]) (by simp [up_same]) (fun i hi => by rw [up_ne hi])
  refine ⟨⟨?_, fun v hv => ?_, fun v hv z => ?_, fun v hv z zs => ?_⟩, hc⟩
  · have : s ≠ faN fm ot U l := fun e => H.1 (by rw [e]; exact h2)
    rw [up_ne this]; exact H.1
  · by_cases q : v = faN fm ot U l
    · subst q; rw [up_same]; omega
    · rw [up_ne q]; exact H.2.1 v hv
  · rw [hc]
    by_cases q : v = faN fm ot U l
    · subst q; rw [up_same]; omega
    · rw [up_ne q] at z ⊢
      have := H.2.2.1 v hv z
      omega
  · by_cases q : v = faN fm ot U l
    · rw [q]
      simp only [up_same]
      refine ⟨hl, ho, trivial, ?_, ?_⟩
      · rw [up_ne hne]; exact h1
      · rw [up_ne hne]; exact H.2.2.1 _ hnr h1
    · rw [up_ne q] at z
      obtain ⟨a1, a2, a3, a4, a5⟩ := H.2.2.2 v hv z zs
      rw [up_ne q, up_ne q]
      have q2 : nrN fm ot U (B v) ≠ faN fm ot U l := fun e => a4 (by rw [e]; exact h2)
      refine ⟨a1, a2, a3, ?_, ?_⟩
      · rw [up_ne q2]; exact a4
      · rw [up_ne q2]; exact a5
/-- back from a node to the start, each link turned -/
def fpN (U : Nat → Nat) (l : Nat) : Nat → Nat := up U l (if U l = 0 then 1 else 0)
def tbk (fm ot B : Nat → Nat) (s : Nat) : Nat → Nat → (Nat → Nat) → (Nat → Nat)
  | 0, _, U => U
  | k + 1, v, U => if v = s then U else tbk fm ot B s k (nrN fm ot U (B v)) (fpN U (B v))
theorem TB {U0 R B ord : Nat → Nat} {s : Nat} (H : SI n op fm ot U0 s R B ord) (hn : ∀ l, l < n → fm l < 10 ∧ ot l < 10) : ∀ k v U, v < 10 → R v ≠ 0 → ord v < k → (∀ l, U l ≤ 1 ∧ (U l ≠ 0 → l < n ∧ op l = true)) → (∀ u, u < 10 → R u ≠ 0 → u ≠ s → ord u ≤ ord v → U (B u) = U0 (B u)) → (∀ S, dS fm ot (tbk fm ot B s k v U) S n = dS fm ot U S n + (siZ (S s) - siZ (S v))) ∧ (∀ l, tbk fm ot B s k v U l ≤ 1 ∧ (tbk fm ot B s k v U l ≠ 0 → l < n ∧ op l = true)) ∧ (∀ l, (∀ u, u < 10 → R u ≠ 0 → u ≠ s → l ≠ B u) → tbk fm ot B s k v U l = U l) := by
  intro k
  induction k with
  | zero => intro v U _ _ h; omega
  | succ k ih =>
    intro v U hv hr hk hU hag
    simp only [tbk]
    by_cases c : v = s
    · subst c
      simp only [if_true]
      exact ⟨fun S => by omega, hU, fun l _ => trivial⟩
    · simp only [c, if_false]
      obtain ⟨a1, a2, a3, a4, a5⟩ := H.2.2.2 v hv hr c
      have e0 : U (B v) = U0 (B v) := hag v hv hr c (Nat.le_refl _)
      have en : nrN fm ot U (B v) = nrN fm ot U0 (B v) := by unfold nrN; rw [e0]
      have ef : faN fm ot U (B v) = v := by have := a3; unfold faN at this ⊢; rw [e0]; exact this
      have hb := hn _ a1
      have hw : nrN fm ot U0 (B v) < 10 := by unfold nrN; split <;> omega
      rw [en]
      have hU1 : ∀ l, fpN U (B v) l ≤ 1 ∧ (fpN U (B v) l ≠ 0 → l < n ∧ op l = true) := by
        intro l
        unfold fpN
        by_cases q : l = B v
        · subst q
          rw [up_same]
          refine ⟨by split <;> decide, fun _ => ⟨a1, a2⟩⟩
        · rw [up_ne q]; exact hU l
      have hag1 : ∀ u, u < 10 → R u ≠ 0 → u ≠ s → ord u ≤ ord (nrN fm ot U0 (B v)) → fpN U (B v) (B u) = U0 (B u) := by
        intro u hu ru us ho
        have q : B u ≠ B v := by
          intro e
          have := (H.2.2.2 u hu ru us).2.2.1
          rw [e, a3] at this
          subst this
          omega
        unfold fpN
        rw [up_ne q]
        exact hag u hu ru us (by omega)
      obtain ⟨i1, i2, i3⟩ := ih _ (fpN U (B v)) hw a4 (by omega) hU1 hag1
      refine ⟨fun S => ?_, i2, fun l hl => ?_⟩
      · rw [i1 S]
        unfold fpN
        rw [dS_up, if_pos a1]
        have d : (if (if U (B v) = 0 then 1 else 0) ≠ 0 then siZ (S (fm (B v))) - siZ (S (ot (B v))) else 0) - (if U (B v) ≠ 0 then siZ (S (fm (B v))) - siZ (S (ot (B v))) else 0) = siZ (S (nrN fm ot U (B v))) - siZ (S v) := by
          have ef' := ef
          unfold faN at ef'
          unfold nrN
          by_cases z : U (B v) = 0
          · rw [if_pos z] at ef'
            simp [z, ef']
          · rw [if_neg z] at ef'
            simp [z, ef']
            omega
        rw [d, en]
        omega
      · rw [i3 l hl]
        unfold fpN
        exact up_ne (hl v hv hr c)
/-- the links that lead out of a set -/
def ctS (n : Nat) (op : Nat → Bool) (fm ot : Nat → Nat) (bt : Nat → Bool) (S : Nat → Bool) : Nat := cntN (fun l => bt l && op l && S (fm l) && !S (ot l)) n
theorem dS_le {U : Nat → Nat} {bt S : Nat → Bool} : ∀ m, (∀ l, l < m → U l ≠ 0 → op l = true ∧ bt l = true) → dS fm ot U S m ≤ (ctS m op fm ot bt S : Int) := by
  intro m
  induction m with
  | zero => intro _; exact Int.le_refl 0
  | succ m ih =>
    intro hU
    have I := ih (fun l hl => hU l (by omega))
    unfold ctS at I ⊢
    simp only [dS, cntN]
    by_cases z : U m = 0
    · simp only [z, ne_eq, not_true_eq_false, if_false]
      split <;> omega
    · obtain ⟨h1, h2⟩ := hU m (by omega) z
      simp only [z, ne_eq, not_false_eq_true, if_true, h1, h2]
      unfold siZ
      cases S (fm m) <;> cases S (ot m) <;> simp <;> omega
theorem dS_eq {U : Nat → Nat} {S : Nat → Bool} : ∀ m, (∀ l, l < m → U l ≠ 0 → op l = true) → (∀ l, l < m → op l = true → S (nrN fm ot U l) = true → S (faN fm ot U l) = true) → dS fm ot U S m = (ctS m op fm ot (fun _ => true) S : Int) := by
  intro m
  induction m with
  | zero => intro _ _; rfl
  | succ m ih =>
    intro hU hC
    have I := ih (fun l hl => hU l (by omega)) (fun l hl => hC l (by omega))
    have c := hC m (by omega)
    unfold ctS at I ⊢
    simp only [dS, cntN, I]
    unfold nrN faN at c
    by_cases z : U m = 0
    · simp only [z, if_true] at c
      simp only [z, ne_eq, not_true_eq_false, if_false]
      have e' : ¬ ((true && op m && S (fm m) && !S (ot m)) = true) := by
        intro q
        simp only [Bool.true_and, Bool.and_eq_true] at q
        have := c q.1.1 q.1.2
        rw [this] at q
        exact absurd q.2 (by decide)
      rw [if_neg e']
      omega
    · simp only [z, if_false] at c
      have ho := hU m (by omega) z
      have c' := c ho
      simp only [z, ne_eq, not_false_eq_true, if_true, ho]
      unfold siZ
      cases q1 : S (ot m)
      · cases S (fm m) <;> simp
      · rw [c' q1]; simp
end FW
theorem mask (S : Nat → Bool) : ∀ n, ∃ m, m < 2 ^ n ∧ ∀ i, i < n → hasN m i = S i := by
  intro n
  induction n with
  | zero => exact ⟨0, by decide, fun i hi => absurd hi (Nat.not_lt_zero _)⟩
  | succ n ih =>
    obtain ⟨m, h1, h2⟩ := ih
    have hs : 2 ^ (n + 1) = 2 ^ n + 2 ^ n := by rw [Nat.pow_succ]; omega
    cases q : S n
    · refine ⟨m, by omega, fun i hi => ?_⟩
      by_cases z : i = n
      · subst z; rw [hasN_bit, Nat.testBit_lt_two_pow h1, q]
      · exact h2 i (by omega)
    · refine ⟨2 ^ n + m, by omega, fun i hi => ?_⟩
      rw [hasN_bit]
      by_cases z : i = n
      · subst z; rw [Nat.testBit_two_pow_add_eq, Nat.testBit_lt_two_pow h1, q]; rfl
      · rw [Nat.testBit_two_pow_add_gt (by omega), ← hasN_bit]; exact h2 i (by omega)
/-- the least of many -/
theorem mn_le (f : Nat → Nat) (c : Nat) : ∀ n i, i < n → foldN (fun i m => if f i < m then f i else m) n c ≤ f i := by
  intro n
  induction n with
  | zero => intro i hi; omega
  | succ n ih =>
    intro i hi
    simp only [foldN]
    by_cases z : i = n
    · subst z
      split <;> omega
    · have := ih i (by omega)
      split <;> omega
theorem mn_ge (f : Nat → Nat) (c d : Nat) (hc : d ≤ c) : ∀ n, (∀ i, i < n → d ≤ f i) → d ≤ foldN (fun i m => if f i < m then f i else m) n c := by
  intro n
  induction n with
  | zero => intro _; exact hc
  | succ n ih =>
    intro h
    simp only [foldN]
    have := ih (fun i hi => h i (by omega))
    have := h n (by omega)
    split <;> omega
section FG87
variable {g : Nat → Nat}
/-- a flow of f to t, that keeps off a link -/
def isFl (g : Nat → Nat) (t f : Nat) (U : Nat → Nat) : Prop := (∀ l, U l ≤ 1 ∧ (U l ≠ 0 → l < g 2 ∧ opN g l = true)) ∧ ∀ S : Nat → Bool, dS (fun l => g (214 + 11 * l)) (fun l => g (215 + 11 * l)) U S (g 2) = (f : Int) * (siZ (S 0) - siZ (S t))
theorem fl_low {t f : Nat} {U : Nat → Nat} {but : Int32} (H : isFl g t f U) (hf : f ≤ 20) (hb : ∀ l, U l ≠ 0 → ¬ nI l = but) : f ≤ flW g t but := by
  unfold flW
  refine mn_ge (fun i => valN g t (1 + 2 * i) but) 20 f hf _ (fun i _ => ?_)
  unfold valN
  cases q : hasN (1 + 2 * i) t
  · have L := dS_le (op := opN g) (fm := fun l => g (214 + 11 * l)) (ot := fun l => g (215 + 11 * l)) (U := U) (bt := fun l => decide (¬ nI l = but)) (S := hasN (1 + 2 * i)) (g 2) (fun l _ z => ⟨((H.1 l).2 z).2, decide_eq_true (hb l z)⟩)
    rw [H.2 (hasN (1 + 2 * i)), q] at L
    have o : hasN (1 + 2 * i) 0 = true := by unfold hasN; simp
    rw [o] at L
    simp only [siZ, if_true, Bool.false_eq_true, if_false] at L ⊢
    unfold cutN
    unfold ctS at L
    have : (f : Int) * (1 - 0) = f := by omega
    rw [this] at L
    have := Int.ofNat_le.mp L
    exact Nat.le_trans this (Nat.le_of_eq (Nat.zero_add _).symm)
  · simp only [if_true]; omega
theorem fl_high (hw : WF g) {t : Nat} (ht : t < g 1) {but : Int32} {S : Nat → Bool} (h0 : S 0 = true) (h1 : S t = false) : flW g t but ≤ cntN (fun l => decide (¬ nI l = but) && opN g l && S (g (214 + 11 * l)) && !S (g (215 + 11 * l))) (g 2) := by
  have hn := hw.2.1
  obtain ⟨m, m1, m2⟩ := mask S (g 1)
  have o := m2 0 (by omega)
  rw [h0] at o
  have om : m % 2 = 1 := by unfold hasN at o; simp at o; exact o
  obtain ⟨i, rfl⟩ : ∃ i, m = 1 + 2 * i := ⟨m / 2, by omega⟩
  have hs : 2 ^ g 1 = 2 * 2 ^ (g 1 - 1) := by
    rw [← Nat.pow_succ']
    congr 1
    omega
  have L := mn_le (fun i => valN g t (1 + 2 * i) but) 20 (2 ^ (g 1 - 1)) i (by omega)
  have e : valN g t (1 + 2 * i) but = cntN (fun l => decide (¬ nI l = but) && opN g l && S (g (214 + 11 * l)) && !S (g (215 + 11 * l))) (g 2) := by
    unfold valN cutN
    rw [m2 t ht, h1]
    simp only [Bool.false_eq_true, if_false, Nat.zero_add]
    refine cntN_congr (fun l hl => ?_)
    have hk := hw.2.2.2.1 l hl
    rw [m2 _ (by omega), m2 _ (by omega)]
  unfold flW
  rw [← e]
  exact L
end FG87
