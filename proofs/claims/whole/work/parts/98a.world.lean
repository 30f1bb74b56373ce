/-! the class's world -/
def HN (h : aH) (a : Nat) (C : nC) : Prop := ∀ o, o < 134 → hget h (a + o) = some (cell a (kO o).1 (a + o) (C (kO o).1 (kO o).2))
theorem HN.eq {h : aH} {a : Nat} {C : nC} (H : HN h a C) : NH h a C = h := NH_hold H
theorem HN.of (h : aH) (a : Nat) (C : nC) : HN (NH h a C) a C := fun o ho => by
  have := NH_at (h := h) (b := a) (C := C) (o := o) (k := (kO o).1) (v := (kO o).2) ho rfl
  exact this
theorem HN.fr {h h' : aH} {a : Nat} {C : nC} (H : HN h a C) (e : ∀ q, a ≤ q → q < a + 134 → hget h' q = hget h q) : HN h' a C := fun o ho => by rw [e _ (by omega) (by omega)]; exact H o ho
def HW (h : aH) (y : Nat) (U R B : Nat → Nat) : Prop := hget h (y + 1) = some (zI U) ∧ hget h (y + 2) = some (yI R) ∧ hget h (y + 3) = some (rN 10 B)
theorem HW.eq {h : aH} {y : Nat} {U R B : Nat → Nat} (H : HW h y U R B) : WH h y U R B = h := by
  refine aH_ext rfl rfl ?_
  funext q
  unfold WH
  dsimp only
  by_cases z1 : q = y + 1
  · subst z1; rw [if_pos rfl]; exact H.1.symm
  · rw [if_neg z1]
    by_cases z2 : q = y + 2
    · subst z2; rw [if_pos rfl]; exact H.2.1.symm
    · rw [if_neg z2]
      by_cases z3 : q = y + 3
      · subst z3; rw [if_pos rfl]; exact H.2.2.symm
      · rw [if_neg z3]
def slt (S : Nat → Nat) (s : Nat) : Nat → Nat := fun i => S (2994 * s + i)
def cz (z : Nat → Option Nat) : Nat := (if (z 0).isSome = true then 1 else 0) + (if (z 1).isSome = true then 1 else 0)
def SL (hh : aH) (x : Nat) (S K : Nat → Nat) (z : Nat → Option Nat) : Prop := (∀ s, s < 2 → (z s = none → K s = 0) ∧ ∀ a, z s = some a → K s ≠ 0 ∧ x + 155 ≤ a ∧ a + 134 ≤ hh.1 ∧ (∃ C, HN hh a C ∧ Pic (slt S s) C) ∧ WF (slt S s) ∧ WP (slt S s)) ∧ ∀ a a', z 0 = some a → z 1 = some a' → a + 134 ≤ a' ∨ a' + 134 ≤ a
theorem SL.fr {hh hh' : aH} {x : Nat} {S K : Nat → Nat} {z : Nat → Option Nat} (H : SL hh x S K z) (e : ∀ q, x + 155 ≤ q → hget hh' q = hget hh q) (e1 : hh'.1 = hh.1) : SL hh' x S K z := by
  refine ⟨fun s hs => ⟨(H.1 s hs).1, fun a ha => ?_⟩, H.2⟩
  obtain ⟨a1, a2, a3, ⟨C, a4, a5⟩, a6⟩ := (H.1 s hs).2 a ha
  exact ⟨a1, a2, by omega, ⟨C, a4.fr (fun q h1 _ => e q (by omega)), a5⟩, a6⟩
def CW (hh : aH) (x s0 : Nat) (g S K T : Nat → Nat) (n : Nat) : Prop := ∃ z : Nat → Option Nat, CH hh x n ∧ (∃ C, HN hh (x + 1) C ∧ Pic g C) ∧ hget hh (x + 135) = some (.inl (5, 2, .inr z)) ∧ hget hh (x + 136) = some (.inr (5, [.ref (x + 136 + 1), .ref (x + 136 + 2), .ref (x + 136 + 3)])) ∧ (∃ U R B, HW hh (x + 136) U R B ∧ ∀ l, 20 ≤ l → U l = 0) ∧ (∃ s L P, SP hh (x + 140) s L P) ∧ hget hh (x + 143) = some (tI T) ∧ (∃ N s, hget hh (x + 144) = some (eC N s)) ∧ SL hh x S K z ∧ (n ≤ 100 ∧ ∀ i, i < n → T i < 2 ^ 31) ∧ hh.1 = x + 155 + 134 * cz z ∧ hh.2.1 = s0 + 937 * cz z
/-- what the class leaves alone -/
def Fr (x : Nat) (hh hh' : aH) : Prop := ∀ q, q < x ∨ (x + 145 ≤ q ∧ q < x + 155) → hget hh' q = hget hh q
section CWs
variable {hh h2 : aH} {x s0 n n' : Nat} {g g' S K T T' : Nat → Nat}
theorem CW.fr (H : CW hh x s0 g S K T n) (e : ∀ q, x ≤ q → (q < x + 145 ∨ x + 155 ≤ q) → hget h2 q = hget hh q) (e1 : h2.1 = hh.1) (e2 : h2.2.1 = hh.2.1) : CW h2 x s0 g S K T n := by
  obtain ⟨z, c0, ⟨C, c1, c2⟩, c3, c4, ⟨U, R, B, c5, c6⟩, ⟨s, L, P, c7⟩, c8, ⟨N, s', c9⟩, c10, c11, c12, c13⟩ := H
  refine ⟨z, ?_, ⟨C, c1.fr (fun q h1 h2 => e q (by omega) (by omega)), c2⟩, ?_, ?_, ⟨U, R, B, ⟨?_, ?_, ?_⟩, c6⟩, ⟨s, L, P, ?_, ?_, ?_⟩, ?_, ⟨N, s', ?_⟩, c10.fr (fun q hq => e q (by omega) (by omega)) e1, c11, by rw [e1]; exact c12, by rw [e2]; exact c13⟩
  · unfold CH; rw [e x (by omega) (by omega)]; exact c0
  · rw [e _ (by omega) (by omega)]; exact c3
  · rw [e _ (by omega) (by omega)]; exact c4
  · rw [e _ (by omega) (by omega)]; exact c5.1
  · rw [e _ (by omega) (by omega)]; exact c5.2.1
  · rw [e _ (by omega) (by omega)]; exact c5.2.2
  · rw [e _ (by omega) (by omega)]; exact c7.1
  · rw [e _ (by omega) (by omega)]; exact c7.2.1
  · rw [e _ (by omega) (by omega)]; exact c7.2.2
  · rw [e _ (by omega) (by omega)]; exact c8
  · rw [e _ (by omega) (by omega)]; exact c9
/-- a heap that differs in the class's own cells -/
theorem CW.mk {C' : nC} (H : CW hh x s0 g S K T n) (p : Pic g' C') (e : ∀ q, q ≠ x → ¬ (x + 136 ≤ q ∧ q < x + 145) → hget h2 q = hget hh q) (e1 : h2.1 = hh.1) (e2 : h2.2.1 = hh.2.1) (c0 : CH h2 x n') (c4 : hget h2 (x + 136) = some (.inr (5, [.ref (x + 136 + 1), .ref (x + 136 + 2), .ref (x + 136 + 3)]))) (c5 : ∃ U R B, HW h2 (x + 136) U R B ∧ ∀ l, 20 ≤ l → U l = 0) (c7 : ∃ s L P, SP h2 (x + 140) s L P) (c8 : hget h2 (x + 143) = some (tI T')) (c9 : ∃ N s, hget h2 (x + 144) = some (eC N s)) (c11 : n' ≤ 100 ∧ ∀ i, i < n' → T' i < 2 ^ 31) : CW (NH h2 (x + 1) C') x s0 g' S K T' n' ∧ Fr x hh (NH h2 (x + 1) C') := by
  obtain ⟨z, _, _, d3, _, _, _, _, _, d10, _, d12, d13⟩ := H
  obtain ⟨U, R, B, c5, c6⟩ := c5
  obtain ⟨s, L, P, c7⟩ := c7
  obtain ⟨N, s', c9⟩ := c9
  have o : ∀ q, (q < x + 1 ∨ x + 1 + 134 ≤ q) → hget (NH h2 (x + 1) C') q = hget h2 q := fun q hq => NH_out hq
  refine ⟨⟨z, ?_, ⟨C', HN.of _ _ _, p⟩, ?_, ?_, ⟨U, R, B, ⟨?_, ?_, ?_⟩, c6⟩, ⟨s, L, P, ?_, ?_, ?_⟩, ?_, ⟨N, s', ?_⟩, d10.fr (fun q hq => ?_) e1, c11, by show h2.1 = _; rw [e1]; exact d12, by show h2.2.1 = _; rw [e2]; exact d13⟩, fun q hq => ?_⟩
  · unfold CH; rw [o _ (by omega)]; exact c0
  · rw [o _ (by omega), e _ (by omega) (by omega)]; exact d3
  · rw [o _ (by omega)]; exact c4
  · rw [o _ (by omega)]; exact c5.1
  · rw [o _ (by omega)]; exact c5.2.1
  · rw [o _ (by omega)]; exact c5.2.2
  · rw [o _ (by omega)]; exact c7.1
  · rw [o _ (by omega)]; exact c7.2.1
  · rw [o _ (by omega)]; exact c7.2.2
  · rw [o _ (by omega)]; exact c8
  · rw [o _ (by omega)]; exact c9
  · rw [o _ (by omega), e _ (by omega) (by omega)]
  · rw [o _ (by omega), e _ (by omega) (by omega)]
theorem lift_net (H : CW hh x s0 g S K T n) {f : Nat} {ls : List Value} {v : Option Value} {Q : Prop} (hr : CH hh x n → ∀ C, Pic g C → ∃ C', run f 0 ls [] (NH hh (x + 1) C) = some (v, NH hh (x + 1) C') ∧ Pic g' C' ∧ Q) : ∃ hh', run f 0 ls [] hh = some (v, hh') ∧ CW hh' x s0 g' S K T n ∧ Fr x hh hh' ∧ Q := by
  have H' := H
  obtain ⟨z, c0, ⟨C, c1, c2⟩, c3, c4, c5, c7, c8, c9, c10, c11, c12, c13⟩ := H
  obtain ⟨C', r, p, q⟩ := hr c0 C c2
  rw [c1.eq] at r
  obtain ⟨m1, m2⟩ := CW.mk (h2 := hh) (C' := C') H' p (fun _ _ _ => rfl) rfl rfl c0 c4 c5 c7 c8 c9 c11
  exact ⟨_, r, m1, m2, q⟩
theorem lift_ask (H : CW hh x s0 g S K T n) {f : Nat} {ls : List Value} {v : Option Value} (hr : CH hh x n → ∀ C, Pic g C → run f 0 ls [] (NH hh (x + 1) C) = some (v, NH hh (x + 1) C)) : ∃ hh', run f 0 ls [] hh = some (v, hh') ∧ CW hh' x s0 g S K T n ∧ Fr x hh hh' := by
  obtain ⟨hh', a, b, c, _⟩ := lift_net (Q := True) H (fun c0 C p => ⟨C, hr c0 C p, p, trivial⟩)
  exact ⟨hh', a, b, c⟩
theorem w_common (H : CW hh x s0 g S K T n) (hw : WF g) (a b : Int32) : ∃ hh', run 87 0 [.ref x, .int a, .int b, .null, .null] [] hh = some (some (.int (qCommon g a b)), hh') ∧ CW hh' x s0 g S K T n ∧ Fr x hh hh' := by
  have H' := H
  obtain ⟨z, c0, ⟨C, c1, c2⟩, c3, c4, ⟨U, R, B, c5, c6⟩, ⟨s, L, P, c7⟩, c8, ⟨N, s', c9⟩, c10, c11, c12, c13⟩ := H
  obtain ⟨s2, L2, P2, r⟩ := c_commonRank c0 c7 c2 hw a b
  rw [c1.eq] at r
  have o : ∀ q, (q < x + 140 ∨ x + 140 + 2 < q) → hget (sSet hh (x + 140) s2 L2 P2) q = hget hh q := fun q hq => sSet_o hq
  obtain ⟨m1, m2⟩ := CW.mk (h2 := sSet hh (x + 140) s2 L2 P2) (C' := C) H' c2 (fun q _ h2 => o q (by omega)) rfl rfl (by unfold CH; rw [o _ (by omega)]; exact c0) (by rw [o _ (by omega)]; exact c4) ⟨U, R, B, ⟨by rw [o _ (by omega)]; exact c5.1, by rw [o _ (by omega)]; exact c5.2.1, by rw [o _ (by omega)]; exact c5.2.2⟩, c6⟩ ⟨s2, L2, P2, SP.set _ _ _ _ _⟩ (by rw [o _ (by omega)]; exact c8) ⟨N, s', by rw [o _ (by omega)]; exact c9⟩ c11
  exact ⟨_, r, m1, m2⟩
theorem lift_ways (H : CW hh x s0 g S K T n) {f : Nat} {ls : List Value} {v : Option Value} (hr : CH hh x n → hget hh (x + 136) = some (.inr (5, [.ref (x + 136 + 1), .ref (x + 136 + 2), .ref (x + 136 + 3)])) → ∀ U R B C, (∀ l, 20 ≤ l → U l = 0) → Pic g C → ∃ U' R' B', run f 0 ls [] (NH (WH hh (x + 136) U R B) (x + 1) C) = some (v, NH (WH hh (x + 136) U' R' B') (x + 1) C) ∧ ∀ l, 20 ≤ l → U' l = 0) : ∃ hh', run f 0 ls [] hh = some (v, hh') ∧ CW hh' x s0 g S K T n ∧ Fr x hh hh' := by
  have H' := H
  obtain ⟨z, c0, ⟨C, c1, c2⟩, c3, c4, ⟨U, R, B, c5, c6⟩, ⟨s, L, P, c7⟩, c8, ⟨N, s', c9⟩, c10, c11, c12, c13⟩ := H
  obtain ⟨U', R', B', r, u⟩ := hr c0 c4 U R B C c6 c2
  rw [c5.eq, c1.eq] at r
  have o : ∀ q, (q < x + 137 ∨ x + 140 ≤ q) → hget (WH hh (x + 136) U' R' B') q = hget hh q := fun q hq => WH_o (by omega) (by omega) (by omega)
  have w1 : hget (WH hh (x + 136) U' R' B') (x + 136 + 1) = some (zI U') := by unfold WH hget; dsimp only; rw [if_pos rfl]
  have w2' : hget (WH hh (x + 136) U' R' B') (x + 136 + 2) = some (yI R') := by unfold WH hget; dsimp only; rw [if_neg (by omega), if_pos rfl]
  have w3' : hget (WH hh (x + 136) U' R' B') (x + 136 + 3) = some (rN 10 B') := by unfold WH hget; dsimp only; rw [if_neg (by omega), if_neg (by omega), if_pos rfl]
  obtain ⟨m1, m2⟩ := CW.mk (h2 := WH hh (x + 136) U' R' B') (C' := C) H' c2 (fun q _ h2 => o q (by omega)) rfl rfl (by unfold CH; rw [o _ (by omega)]; exact c0) (by rw [o _ (by omega)]; exact c4) ⟨U', R', B', ⟨w1, w2', w3'⟩, u⟩ ⟨s, L, P, by rw [o _ (by omega)]; exact c7.1, by rw [o _ (by omega)]; exact c7.2.1, by rw [o _ (by omega)]; exact c7.2.2⟩ (by rw [o _ (by omega)]; exact c8) ⟨N, s', by rw [o _ (by omega)]; exact c9⟩ c11
  exact ⟨_, r, m1, m2⟩
theorem w_append (H : CW hh x s0 g S K T n) (v : Int32) : ∃ hh', run 97 0 [.ref x, .int v] [] hh = some (some (.int (oApp T n v).1), hh') ∧ CW hh' x s0 g S K (oApp T n v).2.1 (oApp T n v).2.2 ∧ Fr x hh hh' := by
  have H' := H
  obtain ⟨z, c0, ⟨C, c1, c2⟩, c3, c4, ⟨U, R, B, c5, c6⟩, ⟨s, L, P, c7⟩, c8, ⟨N, s', c9⟩, c10, c11, c12, c13⟩ := H
  have r := c_append (C := C) c0 c8 c11.1 v
  rw [c1.eq] at r
  have k : (oApp T n v).2.2 ≤ 100 ∧ ∀ i, i < (oApp T n v).2.2 → (oApp T n v).2.1 i < 2 ^ 31 := by
    unfold oApp
    split
    · rename_i q
      obtain ⟨j, h1, h2, rfl, h3⟩ := inI_t (by decide) (by decide) q
      split
      · exact c11
      · refine ⟨by dsimp only; omega, fun i hi => ?_⟩
        dsimp only at hi ⊢
        by_cases zi : i = n
        · subst zi; rw [up_same, h3]; omega
        · rw [up_ne zi]; exact c11.2 i (by omega)
    · exact c11
  have o : ∀ c c' q, q ≠ x → q ≠ x + 143 → hget (hset (hset hh (x + 143) c) x c') q = hget hh q := fun c c' q h1 h2 => by rw [hget_ne h1, hget_ne h2]
  obtain ⟨m1, m2⟩ := CW.mk (h2 := hset (hset hh (x + 143) (tI (oApp T n v).2.1)) x (CO x (oApp T n v).2.2)) (C' := C) H' c2 (fun q h1 h2 => o _ _ q h1 (by omega)) rfl rfl (by unfold CH; exact hget_set _ _ _) (by rw [o _ _ _ (by omega) (by omega)]; exact c4) ⟨U, R, B, ⟨by rw [o _ _ _ (by omega) (by omega)]; exact c5.1, by rw [o _ _ _ (by omega) (by omega)]; exact c5.2.1, by rw [o _ _ _ (by omega) (by omega)]; exact c5.2.2⟩, c6⟩ ⟨s, L, P, by rw [o _ _ _ (by omega) (by omega)]; exact c7.1, by rw [o _ _ _ (by omega) (by omega)]; exact c7.2.1, by rw [o _ _ _ (by omega) (by omega)]; exact c7.2.2⟩ (by rw [hget_ne (by omega), hget_set]) ⟨N, s', by rw [o _ _ _ (by omega) (by omega)]; exact c9⟩ k
  exact ⟨_, r, m1, m2⟩
theorem w_clear (H : CW hh x s0 g S K T n) : ∃ hh', run 98 0 [.ref x, .null] [] hh = some (some (.int (nI n)), hh') ∧ CW hh' x s0 g S K T 0 ∧ Fr x hh hh' := by
  have H' := H
  obtain ⟨z, c0, ⟨C, c1, c2⟩, c3, c4, ⟨U, R, B, c5, c6⟩, ⟨s, L, P, c7⟩, c8, ⟨N, s', c9⟩, c10, c11, c12, c13⟩ := H
  have r := c_clearText (C := C) c0
  rw [c1.eq] at r
  have o : ∀ c q, q ≠ x → hget (hset hh x c) q = hget hh q := fun c q h1 => by rw [hget_ne h1]
  obtain ⟨m1, m2⟩ := CW.mk (h2 := hset hh x (CO x 0)) (C' := C) (n' := 0) (T' := T) H' c2 (fun q h1 h2 => o _ q h1) rfl rfl (by unfold CH; exact hget_set _ _ _) (by rw [o _ _ (by omega)]; exact c4) ⟨U, R, B, ⟨by rw [o _ _ (by omega)]; exact c5.1, by rw [o _ _ (by omega)]; exact c5.2.1, by rw [o _ _ (by omega)]; exact c5.2.2⟩, c6⟩ ⟨s, L, P, by rw [o _ _ (by omega)]; exact c7.1, by rw [o _ _ (by omega)]; exact c7.2.1, by rw [o _ _ (by omega)]; exact c7.2.2⟩ (by rw [o _ _ (by omega)]; exact c8) ⟨N, s', by rw [o _ _ (by omega)]; exact c9⟩ ⟨by omega, fun i hi => absurd hi (Nat.not_lt_zero _)⟩
  exact ⟨_, r, m1, m2⟩
theorem lift_text (H : CW hh x s0 g S K T n) {f : Nat} {ls : List Value} {v : Option Value} {Q : Prop} (hr : CH hh x n → hget hh (x + 143) = some (tI T) → (∃ N s, hget hh (x + 144) = some (eC N s)) → n ≤ 100 → (∀ i, i < n → T i < 2 ^ 31) → ∀ C, Pic g C → ∃ C' N' s', run f 0 ls [] (NH hh (x + 1) C) = some (v, RHp hh x C' N' s') ∧ Pic g' C' ∧ Q) : ∃ hh', run f 0 ls [] hh = some (v, hh') ∧ CW hh' x s0 g' S K T n ∧ Fr x hh hh' ∧ Q := by
  have H' := H
  obtain ⟨z, c0, ⟨C, c1, c2⟩, c3, c4, ⟨U, R, B, c5, c6⟩, ⟨s, L, P, c7⟩, c8, c9, c10, c11, c12, c13⟩ := H
  obtain ⟨C', N', s', r, p, q⟩ := hr c0 c8 c9 c11.1 c11.2 C c2
  rw [c1.eq] at r
  have o : ∀ c q, q ≠ x + 144 → hget (hset hh (x + 144) c) q = hget hh q := fun c q h1 => by rw [hget_ne h1]
  obtain ⟨m1, m2⟩ := CW.mk (h2 := hset hh (x + 144) (eC N' s')) (C' := C') H' p (fun q h1 h2 => o _ q (by omega)) rfl rfl (by unfold CH; rw [o _ _ (by omega)]; exact c0) (by rw [o _ _ (by omega)]; exact c4) ⟨U, R, B, ⟨by rw [o _ _ (by omega)]; exact c5.1, by rw [o _ _ (by omega)]; exact c5.2.1, by rw [o _ _ (by omega)]; exact c5.2.2⟩, c6⟩ ⟨s, L, P, by rw [o _ _ (by omega)]; exact c7.1, by rw [o _ _ (by omega)]; exact c7.2.1, by rw [o _ _ (by omega)]; exact c7.2.2⟩ (by rw [o _ _ (by omega)]; exact c8) ⟨N', s', hget_set _ _ _⟩ c11
  exact ⟨_, r, m1, m2, q⟩
theorem w_fault (H : CW hh x s0 g S K T n) (hw : WF g) : ∃ hh', run 99 0 [.ref x, .null] [] hh = some (some (.int (qFault g T n)), hh') ∧ CW hh' x s0 g S K T n ∧ Fr x hh hh' := by
  obtain ⟨hh', a, b, c, _⟩ := lift_text (Q := True) (v := some (.int (qFault g T n))) (ls := [.ref x, .null]) (f := 99) (g' := g) H (fun c0 c8 ⟨N, s, c9⟩ h1 h2 C p => by
    obtain ⟨s', r, _⟩ := c_fault c0 c8 c9 h1 h2 p hw
    exact ⟨C, g 1, s', r, p, trivial⟩)
  exact ⟨hh', a, b, c⟩
theorem w_read (H : CW hh x s0 g S K T n) (hw : WF g) : ∃ hh', run 100 0 [.ref x, .null, .null] [] hh = some (some (.int (oRead g T n).1), hh') ∧ CW hh' x s0 (oRead g T n).2 S K T n ∧ Fr x hh hh' ∧ WF (oRead g T n).2 :=
  lift_text H (fun c0 c8 ⟨N, s, c9⟩ h1 h2 C p => by
    obtain ⟨s', C', r, p', w⟩ := c_read c0 c8 c9 h1 h2 p hw
    exact ⟨C', g 1, s', r, p', w⟩)
end CWs
