/-! the picture of a state in a network -/
/-- what the sums of some vectors have in common with them -/
def GenQ (p : Nat → Prop) (x : Nat) : Prop := ∀ Q : Nat → Prop, Q 0 → (∀ a c, Q a → Q c → Q (a ^^^ c)) → (∀ w, p w → Q w) → Q x
theorem GenQ.mono {p q : Nat → Prop} {x : Nat} (h : GenQ p x) (e : ∀ w, p w → q w) : GenQ q x := fun Q h0 h1 h2 => h Q h0 h1 (fun w hw => h2 w (e w hw))
theorem clo_xs {Q : Nat → Prop} {L : Nat → Nat} (h0 : Q 0) (h1 : ∀ a c, Q a → Q c → Q (a ^^^ c)) (T : Nat) : ∀ n, (∀ i, i < n → Q (L i)) → Q (xsN L T n) := by
  intro n
  induction n with
  | zero => intro _; exact h0
  | succ n ih =>
    intro hL
    simp only [xsN]
    refine h1 _ _ (ih (fun i hi => hL i (by omega))) ?_
    split
    · exact hL n (by omega)
    · exact h0
/-- a span of the vectors that p tells of -/
def SpG (p : Nat → Prop) (s : Nat) (L : Nat → Nat) : Prop := Ech L ∧ nz L = s ∧ (∀ w, p w → inS L w) ∧ ∀ b, b < 8 → GenQ p (L b)
theorem SpG.empty (p : Nat → Prop) (hp : ∀ w, ¬ p w) : SpG p 0 (fun _ => 0) := ⟨fun b _ => Or.inl rfl, rfl, fun w hw => absurd hw (hp w), fun b _ Q h0 _ _ => h0⟩
theorem SpG.le {p : Nat → Prop} {s : Nat} {L : Nat → Nat} (h : SpG p s L) : s ≤ 8 := by
  rw [← h.2.1]; exact cntN_le _ _
theorem Ech.lead_lt {L : Nat → Nat} (h : Ech L) {i : Nat} (hi : i < 8) : L i < 256 := h.lt (inS_lead hi)
theorem SpG.add {p q : Nat → Prop} {s a : Nat} {L P : Nat → Nat} (h : SpG p s L) (ha : a < 256) (hq : ∀ w, q w ↔ (p w ∨ w = a)) : SpG q (adS s L P a).1 (adS s L P a).2.1 := by
  obtain ⟨h1, h2, h3, h4⟩ := h
  unfold adS
  cases e : ad L P 8 a (2 ^ s) with
  | none =>
    dsimp only
    have hr : rd L P 8 a 0 ≠ none := by
      intro z
      obtain ⟨r, hr⟩ := (rd_ad 8 a 0 (2 ^ s)).mp z
      rw [e] at hr
      cases hr
    cases er : rd L P 8 a 0 with
    | none => exact absurd er hr
    | some r =>
      obtain ⟨T, _, t2, _⟩ := rd_sound h1 8 a 0 r (Nat.le_refl 8) ha er
      refine ⟨h1, h2, ?_, fun b hb => (h4 b hb).mono (fun w hw => (hq w).mpr (Or.inl hw))⟩
      intro w hw
      rcases (hq w).mp hw with hw | rfl
      · exact h3 w hw
      · exact ⟨T, t2.symm⟩
  | some r =>
    obtain ⟨b, w', q'⟩ := r
    dsimp only
    obtain ⟨b1, b2, b3, b4, T, _, t2, _⟩ := ad_sound h1 8 a (2 ^ s) b w' q' (Nat.le_refl 8) ha e
    have hw0 : w' ≠ 0 := by
      have := Nat.two_pow_pos b
      omega
    refine ⟨?_, ?_, ?_, ?_⟩
    · intro c hc
      by_cases z : c = b
      · subst z; rw [up_same]; exact Or.inr ⟨b3, b4⟩
      · rw [up_ne z]; exact h1 c hc
    · rw [← h2]
      unfold nz
      refine cntN_up b1 ?_ ?_ ?_
      · simp [b2]
      · simp [up_same, hw0]
      · intro i hi
        rw [up_ne hi]
    · intro w hw
      rcases (hq w).mp hw with hw | rfl
      · exact inS_up b1 b2 (h3 w hw)
      · have z1 : inS (up L b w') w' := by
          have := inS_lead (L := up L b w') b1
          rw [up_same] at this
          exact this
        have z2 : inS (up L b w') (xsN L T 8) := inS_up b1 b2 ⟨T, rfl⟩
        have z3 := inS_xor z1 z2
        have z4 : w' ^^^ xsN L T 8 = w := by rw [t2, Nat.xor_assoc, Nat.xor_self, Nat.xor_zero]
        rw [z4] at z3
        exact z3
    · intro c hc
      by_cases z : c = b
      · subst z
        rw [up_same, t2]
        intro Q q0 q1 q2
        refine q1 _ _ (q2 a ((hq a).mpr (Or.inr rfl))) (clo_xs q0 q1 T 8 (fun i hi => h4 i hi Q q0 q1 (fun w hw => q2 w ((hq w).mpr (Or.inl hw)))))
      · rw [up_ne z]
        exact (h4 c hc).mono (fun w hw => (hq w).mpr (Or.inl hw))
theorem SpG.congr {p q : Nat → Prop} {s : Nat} {L : Nat → Nat} (h : SpG p s L) (e : ∀ w, p w ↔ q w) : SpG q s L := ⟨h.1, h.2.1, fun w hw => h.2.2.1 w ((e w).mpr hw), fun b hb => (h.2.2.2 b hb).mono (fun w hw => (e w).mp hw)⟩
/-- what a node has sent, by a state -/
def snt (g : Nat → Nat) (v w : Nat) : Prop := w < 256 ∧ g (434 + 256 * v + w) = 1
def PicN (g : Nat → Nat) (C : nC) (v : Nat) : Prop := C 3 v 4 = g (14 + v) ∧ C 3 v 5 = g (24 + v) ∧ C 3 v 6 = g (34 + v) ∧ C 4 v 2 = g (44 + v) ∧ SpOK (C 5 v) (C 6 v) (vecs g v) (g (44 + v)) (g 0) ∧ (∀ i, i < g (44 + v) → C 10 v i = vecs g v i ∧ C 11 v i = pays g v i) ∧ SpG (snt g v) (C 7 v 2) (C 8 v)
def PicL (g : Nat → Nat) (pd : Nat → Bool) (sp : Nat → Nat) (C : nC) (l : Nat) : Prop := (C 12 l 0 = g (214 + 11 * l) ∧ C 12 l 1 = g (215 + 11 * l) ∧ C 12 l 2 = g (216 + 11 * l)) ∧ (C 12 l 4 = g (217 + 11 * l) ∧ C 12 l 5 = g (222 + 11 * l) ∧ C 12 l 7 = g (223 + 11 * l) ∧ C 12 l 8 = g (224 + 11 * l)) ∧ (∀ f, f < 4 → C 13 l f = g (218 + 11 * l + f) + (if f = 0 ∧ pd l = true ∧ lostN g l = true then 1 else 0)) ∧ C 12 l 9 = (if pd l = true ∧ lostN g l = false then 1 else 0) ∧ (pd l = true → C 12 l 6 = sp l)
def PicO (g : Nat → Nat) (C : nC) : Prop := C 0 0 0 = g 0 ∧ C 0 0 2 = g 1 ∧ C 0 0 4 = g 2 ∧ C 0 0 6 = g 4 ∧ C 0 0 7 = g 5 ∧ C 0 0 8 = g 3 ∧ ∀ i, i < 8 → C 1 0 i = g (6 + i)
def PicR (g : Nat → Nat) (pd : Nat → Bool) (sp : Nat → Nat) (C : nC) : Prop := PicO g C ∧ (∀ v, v < 10 → PicN g C v) ∧ ∀ l, l < 20 → PicL g pd sp C l
theorem lostN_los (g : Nat → Nat) (l : Nat) : lostN g l = losN (g (217 + 11 * l)) (g (216 + 11 * l)) := rfl
/-- a pictured network can send -/
theorem PicR.ok {g : Nat → Nat} {pd : Nat → Bool} {sp : Nat → Nat} {C : nC} (H : PicR g pd sp C) (hw : WF g) {v : Nat} (hv : v < 10) (h0 : 0 < g (44 + v)) : SDok C v := by
  obtain ⟨⟨o0, o1, o2, o4, o5, o3, _⟩, hN, hL⟩ := H
  have hk := hw.1
  have h7 := hw.2.2.2.2.2.2.1 v hv
  obtain ⟨n0, n1, n2, n3, n4, n5, n6⟩ := hN v hv
  refine ⟨by rw [o2]; exact hw.2.2.1, by rw [o4]; exact hw.2.2.2.2.1, by rw [n3]; omega, by rw [n0]; omega, ?_, ?_, fun i hi => n6.1.lead_lt hi, n6.le, ?_⟩
  · intro u hu
    rw [(hN u hu).2.2.1]
    have := (hw.2.2.2.2.2.2.1 u hu).2.1
    omega
  · intro i hi
    rw [n3] at hi
    rw [(n5 i hi).1]
    exact hw.vlt hv hi
  · intro l hl
    rw [o2] at hl
    have h20 := hw.2.2.1
    obtain ⟨⟨a0, a1, a2⟩, _⟩ := hL l (by omega)
    have := hw.2.2.2.1 l hl
    have hn := hw.2.1
    rw [a0, a1, a2]
    omega
