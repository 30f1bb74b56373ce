/-! the model's world -/
def MW (hh : aH) (y : Nat) (g S K T : Nat → Nat) (n : Nat) : Prop := (∃ i d e k c, hget hh y = some (PO y n i d e k c)) ∧ hget hh (y + 1) = some (mI g) ∧ hget hh (y + 2) = some (slI S) ∧ hget hh (y + 3) = some (kpI K) ∧ hget hh (y + 4) = some (dI T) ∧ (∃ is, hget hh (y + 5) = some (zI is)) ∧ (∃ sv, hget hh (y + 6) = some (vI sv)) ∧ (∃ sp, hget hh (y + 7) = some (vI sp)) ∧ (∃ G, hget hh (y + 8) = some (rI G)) ∧ ∃ D, hget hh (y + 9) = some (dI D)
def FrM (y : Nat) (hh hh' : aH) : Prop := (∀ q, q < y ∨ y + 10 ≤ q → hget hh' q = hget hh q) ∧ hh'.1 = hh.1 ∧ hh'.2.1 = hh.2.1
section MWs
variable {hh h2 : aH} {y n : Nat} {g g' S K T : Nat → Nat}
theorem MW.fr (H : MW hh y g S K T n) (e : ∀ q, y ≤ q → q < y + 10 → hget h2 q = hget hh q) : MW h2 y g S K T n := by
  unfold MW
  rw [e y (by omega) (by omega), e (y + 1) (by omega) (by omega), e (y + 2) (by omega) (by omega), e (y + 3) (by omega) (by omega), e (y + 4) (by omega) (by omega), e (y + 5) (by omega) (by omega), e (y + 6) (by omega) (by omega), e (y + 7) (by omega) (by omega), e (y + 8) (by omega) (by omega), e (y + 9) (by omega) (by omega)]
  exact H
theorem MW.mo (H : MW hh y g S K T n) : ∃ r, MO hh y r g := by
  obtain ⟨⟨i, d, e, k, c, h0⟩, h1, _⟩ := H
  exact ⟨_, h0, h1⟩
theorem MW.mx (H : MW hh y g S K T n) : ∃ tl rest, MX hh y tl rest := by
  obtain ⟨⟨i, d, e, k, c, h0⟩, _⟩ := H
  exact ⟨_, _, h0⟩
theorem FrM.refl : FrM y hh hh := ⟨fun _ _ => rfl, rfl, rfl⟩
theorem MW.set1 (H : MW hh y g S K T n) : MW (hset hh (y + 1) (mI g')) y g' S K T n ∧ FrM y hh (hset hh (y + 1) (mI g')) := by
  have o : ∀ c q, q ≠ y + 1 → hget (hset hh (y + 1) c) q = hget hh q := fun c q hq => hget_ne hq
  refine ⟨?_, fun q hq => o _ q (by omega), rfl, rfl⟩
  unfold MW
  rw [o _ y (by omega), hget_set, o _ (y + 2) (by omega), o _ (y + 3) (by omega), o _ (y + 4) (by omega), o _ (y + 5) (by omega), o _ (y + 6) (by omega), o _ (y + 7) (by omega), o _ (y + 8) (by omega), o _ (y + 9) (by omega)]
  exact ⟨H.1, rfl, H.2.2⟩
theorem v_mo (H : MW hh y g S K T n) {f : Nat} {ls : List Value} {v : Option Value} (hr : ∀ r, MO hh y r g → run f 0 ls [] hh = some (v, hset hh (y + 1) (mI g'))) : ∃ h', run f 0 ls [] hh = some (v, h') ∧ MW h' y g' S K T n ∧ FrM y hh h' := by
  obtain ⟨r, m⟩ := H.mo
  exact ⟨_, hr r m, H.set1.1, H.set1.2⟩
theorem v_ask (H : MW hh y g S K T n) {f : Nat} {ls : List Value} {v : Option Value} (hr : ∀ r, MO hh y r g → run f 0 ls [] hh = some (v, hh)) : ∃ h', run f 0 ls [] hh = some (v, h') ∧ MW h' y g S K T n ∧ FrM y hh h' := by
  obtain ⟨r, m⟩ := H.mo
  exact ⟨_, hr r m, H, FrM.refl⟩
theorem v_mr (H : MW hh y g S K T n) {f : Nat} {ls : List Value} {v : Option Value} {Q : Prop} (hr : ∀ tl rest is sv sp, MX hh y tl rest → ∃ is' sv' sp', run f 0 ls [] (MR hh y g is sv sp) = some (v, MR hh y g' is' sv' sp') ∧ Q) : ∃ h', run f 0 ls [] hh = some (v, h') ∧ MW h' y g' S K T n ∧ FrM y hh h' ∧ Q := by
  obtain ⟨tl, rest, mx⟩ := H.mx
  obtain ⟨⟨i, d, e, k, c, h0⟩, h1, h2', h3, h4, ⟨is, h5⟩, ⟨sv, h6⟩, ⟨sp, h7⟩, h8, h9⟩ := H
  obtain ⟨is', sv', sp', r, q⟩ := hr tl rest is sv sp mx
  rw [MR_eq h1 h5 h6 h7] at r
  have o : ∀ q, q ≠ y + 1 → q ≠ y + 5 → q ≠ y + 6 → q ≠ y + 7 → hget (MR hh y g' is' sv' sp') q = hget hh q := fun q a b c d => by
    unfold MR hget
    dsimp only
    rw [if_neg a, if_neg b, if_neg c, if_neg d]
  refine ⟨_, r, ?_, ⟨fun q hq => o q (by omega) (by omega) (by omega) (by omega), rfl, rfl⟩, q⟩
  unfold MW
  rw [o y (by omega) (by omega) (by omega) (by omega), MR_1, MR_5, MR_6, MR_7, o (y + 2) (by omega) (by omega) (by omega) (by omega), o (y + 3) (by omega) (by omega) (by omega) (by omega), o (y + 4) (by omega) (by omega) (by omega) (by omega), o (y + 8) (by omega) (by omega) (by omega) (by omega), o (y + 9) (by omega) (by omega) (by omega) (by omega)]
  exact ⟨⟨i, d, e, k, c, h0⟩, rfl, h2', h3, h4, ⟨is', rfl⟩, ⟨sv', rfl⟩, ⟨sp', rfl⟩, h8, h9⟩
theorem v_run (H : MW hh y g S K T n) (hw : WF g) (hs : WS g) (r : Int32) : ∃ h', run 138 0 [.ref y, .int r, .null, .null] [] hh = some (some (.int (oRun g r).1), h') ∧ MW h' y (oRun g r).2 S K T n ∧ FrM y hh h' ∧ WF (oRun g r).2 ∧ WS (oRun g r).2 :=
  v_mr H (fun tl rest is sv sp mx => m_run mx g is sv sp hw hs r)
theorem v_runUntil (H : MW hh y g S K T n) (hw : WF g) (hs : WS g) (r : Int32) : ∃ h', run 139 0 [.ref y, .int r, .null, .null] [] hh = some (some (.int (oRunUntil g r).1), h') ∧ MW h' y (oRunUntil g r).2 S K T n ∧ FrM y hh h' ∧ WF (oRunUntil g r).2 ∧ WS (oRunUntil g r).2 :=
  v_mr H (fun tl rest is sv sp mx => m_runUntil mx g is sv sp hw hs r)
theorem v_sent (H : MW hh y g S K T n) (hw : WF g) (v : Int32) : ∃ h', run 168 0 [.ref y, .int v, .null, .null] [] hh = some (some (.int (qSentR g v)), h') ∧ MW h' y g S K T n ∧ FrM y hh h' := by
  obtain ⟨tl, rest, mx⟩ := H.mx
  obtain ⟨h0, h1, h2', h3, h4, h5, h6, h7, ⟨G, h8⟩, h9⟩ := H
  obtain ⟨G', r⟩ := m_sentRank mx h1 h8 hw v
  have o : ∀ c q, q ≠ y + 8 → hget (hset hh (y + 8) c) q = hget hh q := fun c q hq => hget_ne hq
  refine ⟨_, r, ?_, fun q hq => o _ q (by omega), rfl, rfl⟩
  unfold MW
  rw [o _ y (by omega), o _ (y + 1) (by omega), o _ (y + 2) (by omega), o _ (y + 3) (by omega), o _ (y + 4) (by omega), o _ (y + 5) (by omega), o _ (y + 6) (by omega), o _ (y + 7) (by omega), hget_set, o _ (y + 9) (by omega)]
  exact ⟨h0, h1, h2', h3, h4, h5, h6, h7, ⟨G', rfl⟩, h9⟩
theorem PH_eq {i d e k : Nat} {c : Int64} {D : Nat → Nat} (h0 : hget hh y = some (PO y n i d e k c)) (h9 : hget hh (y + 9) = some (dI D)) : PH hh y n i d e k c D = hh := by
  refine aH_ext rfl rfl ?_
  funext q
  unfold PH
  dsimp only
  by_cases z : q = y
  · subst z; rw [if_pos rfl]; exact h0.symm
  · rw [if_neg z]
    by_cases z9 : q = y + 9
    · subst z9; rw [if_pos rfl]; exact h9.symm
    · rw [if_neg z9]
theorem MW.ph {n' i d e k : Nat} {c : Int64} {D T' : Nat → Nat} (H : MW hh y g S K T n) (h1 : hget h2 (y + 1) = some (mI g')) (h4 : hget h2 (y + 4) = some (dI T')) (o : ∀ q, q ≠ y + 1 → q ≠ y + 4 → hget h2 q = hget hh q) (e1 : h2.1 = hh.1) (e2 : h2.2.1 = hh.2.1) : MW (PH h2 y n' i d e k c D) y g' S K T' n' ∧ FrM y hh (PH h2 y n' i d e k c D) := by
  obtain ⟨_, _, h2', h3, _, h5, h6, h7, h8, _⟩ := H
  refine ⟨?_, fun q hq => by rw [PH_o (by omega) (by omega), o q (by omega) (by omega)], e1, e2⟩
  unfold MW
  rw [PH_x, PH_9, PH_o (q := y + 1) (by omega) (by omega), PH_o (q := y + 2) (by omega) (by omega), PH_o (q := y + 3) (by omega) (by omega), PH_o (q := y + 4) (by omega) (by omega), PH_o (q := y + 5) (by omega) (by omega), PH_o (q := y + 6) (by omega) (by omega), PH_o (q := y + 7) (by omega) (by omega), PH_o (q := y + 8) (by omega) (by omega), h1, h4, o (y + 2) (by omega) (by omega), o (y + 3) (by omega) (by omega), o (y + 5) (by omega) (by omega), o (y + 6) (by omega) (by omega), o (y + 7) (by omega) (by omega), o (y + 8) (by omega) (by omega)]
  exact ⟨⟨i, d, e, k, c, rfl⟩, rfl, h2', h3, rfl, h5, h6, h7, h8, ⟨D, rfl⟩⟩
theorem v_append (H : MW hh y g S K T n) (hn : n ≤ 100) (v : Int32) : ∃ h', run 173 0 [.ref y, .int v] [] hh = some (some (.int (oApp T n v).1), h') ∧ MW h' y g S K (oApp T n v).2.1 (oApp T n v).2.2 ∧ FrM y hh h' := by
  have H' := H
  obtain ⟨⟨i, d, e, k, c, h0⟩, h1, h2', h3, h4, h5, h6, h7, h8, ⟨D, h9⟩⟩ := H
  have r := m_append (i := i) (d := d) (e := e) (k := k) (c := c) (D := D) h4 hn v
  rw [PH_eq h0 h9] at r
  obtain ⟨m1, m2⟩ := MW.ph (h2 := hset hh (y + 4) (dI (oApp T n v).2.1)) (n' := (oApp T n v).2.2) (i := i) (d := d) (e := e) (k := k) (c := c) (D := D) H' (by rw [hget_ne (by omega)]; exact h1) (hget_set _ _ _) (fun q _ h => hget_ne h) rfl rfl
  exact ⟨_, r, m1, m2⟩
theorem v_clear (H : MW hh y g S K T n) : ∃ h', run 174 0 [.ref y, .null] [] hh = some (some (.int (nI n)), h') ∧ MW h' y g S K T 0 ∧ FrM y hh h' := by
  have H' := H
  obtain ⟨⟨i, d, e, k, c, h0⟩, h1, h2', h3, h4, h5, h6, h7, h8, ⟨D, h9⟩⟩ := H
  have r := m_clearText (h := hh) (x := y) (n := n) (i := i) (d := d) (e := e) (k := k) (c := c) (D := D)
  rw [PH_eq h0 h9] at r
  obtain ⟨m1, m2⟩ := MW.ph (h2 := hh) (n' := 0) (i := i) (d := d) (e := e) (k := k) (c := c) (D := D) H' h1 h4 (fun q _ _ => rfl) rfl rfl
  exact ⟨_, r, m1, m2⟩
theorem v_fault (H : MW hh y g S K T n) (hn : n ≤ 100) (ht : ∀ i, i < n → T i < 2 ^ 31) (hw : WF g) : ∃ h', run 181 0 [.ref y] [] hh = some (some (.int (qFault g T n)), h') ∧ MW h' y g S K T n ∧ FrM y hh h' := by
  have H' := H
  obtain ⟨⟨i, d, e, k, c, h0⟩, h1, h2', h3, h4, h5, h6, h7, h8, ⟨D, h9⟩⟩ := H
  obtain ⟨i', d', e', k', D', r⟩ := m_faultPosition (i := i) (d := d) (e := e) (k := k) (c := c) (D := D) h4 ht hn h1 hw
  rw [PH_eq h0 h9] at r
  obtain ⟨m1, m2⟩ := MW.ph (h2 := hh) (n' := n) (i := i') (d := d') (e := e') (k := k') (c := c) (D := D') H' h1 h4 (fun q _ _ => rfl) rfl rfl
  exact ⟨_, r, m1, m2⟩
theorem v_read (H : MW hh y g S K T n) (hn : n ≤ 100) (ht : ∀ i, i < n → T i < 2 ^ 31) (hw : WF g) : ∃ h', run 182 0 [.ref y, .null] [] hh = some (some (.int (oRead g T n).1), h') ∧ MW h' y (oRead g T n).2 S K T n ∧ FrM y hh h' := by
  have H' := H
  obtain ⟨⟨i, d, e, k, c, h0⟩, h1, h2', h3, h4, h5, h6, h7, h8, ⟨D, h9⟩⟩ := H
  obtain ⟨i', d', e', k', D', r⟩ := m_read (i := i) (d := d) (e := e) (k := k) (c := c) (D := D) h4 ht hn h1 hw
  rw [PH_eq h0 h9] at r
  obtain ⟨m1, m2⟩ := MW.ph (h2 := hset hh (y + 1) (mI (oRead g T n).2)) (n' := n) (i := i') (d := d') (e := e') (k := k') (c := c) (D := D') H' (hget_set _ _ _) (by rw [hget_ne (by omega)]; exact h4) (fun q h _ => hget_ne h) rfl rfl
  exact ⟨_, r, m1, m2⟩
theorem v_ck (H : MW hh y g S K T n) (hw : WF g) : ∃ h', run 186 0 [.ref y, .null, .null] [] hh = some (some (.long (qCk g)), h') ∧ MW h' y g S K T n ∧ FrM y hh h' := by
  have H' := H
  obtain ⟨⟨i, d, e, k, c, h0⟩, h1, h2', h3, h4, h5, h6, h7, h8, ⟨D, h9⟩⟩ := H
  obtain ⟨c', r⟩ := m_checksum (n := n) (i := i) (d := d) (e := e) (k := k) (c := c) (D := D) h1 hw
  rw [PH_eq h0 h9] at r
  obtain ⟨m1, m2⟩ := MW.ph (h2 := hh) (n' := n) (i := i) (d := d) (e := e) (k := k) (c := c') (D := D) H' h1 h4 (fun q _ _ => rfl) rfl rfl
  exact ⟨_, r, m1, m2⟩
theorem v_keep (H : MW hh y g S K T n) (s : Int32) : ∃ h', run 183 0 [.ref y, .int s, .null] [] hh = some (some (.int (oKeep g s)), h') ∧ MW h' y g (sKeep S g s) (kKeep K s) T n ∧ FrM y hh h' := by
  obtain ⟨tl, rest, mx⟩ := H.mx
  obtain ⟨h0, h1, h2', h3, h4, h5, h6, h7, h8, h9⟩ := H
  have r := m_keep mx h1 h2' h3 s
  have o : ∀ c c' q, q ≠ y + 2 → q ≠ y + 3 → hget (hset (hset hh (y + 2) c) (y + 3) c') q = hget hh q := fun c c' q a b => by rw [hget_ne b, hget_ne a]
  refine ⟨_, r, ?_, fun q hq => o _ _ q (by omega) (by omega), rfl, rfl⟩
  unfold MW
  rw [o _ _ y (by omega) (by omega), o _ _ (y + 1) (by omega) (by omega), hget_ne (b := y + 2) (by omega), hget_set, hget_set, o _ _ (y + 4) (by omega) (by omega), o _ _ (y + 5) (by omega) (by omega), o _ _ (y + 6) (by omega) (by omega), o _ _ (y + 7) (by omega) (by omega), o _ _ (y + 8) (by omega) (by omega), o _ _ (y + 9) (by omega) (by omega)]
  exact ⟨h0, h1, rfl, rfl, h4, h5, h6, h7, h8, h9⟩
theorem v_restore (H : MW hh y g S K T n) (hk : ∀ j, j < 2 → K j < 2 ^ 31) (s : Int32) : ∃ h', run 184 0 [.ref y, .int s, .null] [] hh = some (some (.int (rsA S K s)), h') ∧ MW h' y (rsG g S K s) S K T n ∧ FrM y hh h' := by
  obtain ⟨tl, rest, mx⟩ := H.mx
  have H' := H
  obtain ⟨h0, h1, h2', h3, h4, h5, h6, h7, h8, h9⟩ := H
  have r := m_restore mx h1 h2' h3 hk s
  unfold rsA rsG
  cases c : inI s (nI 0) (nI 1)
  · rw [c] at r
    simp only [Bool.false_eq_true, if_false] at r
    exact ⟨hh, by rw [r]; simp, by simpa using H', FrM.refl⟩
  · rw [c] at r
    by_cases z : K (cl s) = 0
    · simp only [z, if_true] at r
      exact ⟨hh, by rw [r]; simp [z], by simpa [z] using H', FrM.refl⟩
    · simp only [z, if_true, if_false] at r
      refine ⟨hset hh (y + 1) (mI (cpN g (slt S (cl s)) 0 2994)), ?_, ?_, H'.set1.2⟩
      · rw [if_pos rfl, if_neg z]; exact r
      · simp only [z, ne_eq, not_false_eq_true, and_self, if_true]
        exact H'.set1.1
end MWs
