/-! the rank of what was sent, by leads as by a table -/
theorem adS_in {s : Nat} {L P : Nat → Nat} {a : Nat} (h : Ech L) (ha : a < 256) (z : inS L a) : adS s L P a = (s, L, P) := by
  obtain ⟨r, hr⟩ := rd_complete (P := P) h 8 a 0 (Nat.le_refl _) ha z
  unfold adS
  cases e : ad L P 8 a (2 ^ s) with
  | none => rfl
  | some q =>
    have := (rd_ad (L := L) (P := P) 8 a 0 (2 ^ s)).mpr ⟨q, e⟩
    rw [hr] at this
    cases this
theorem adS_out {s : Nat} {L P : Nat → Nat} {a : Nat} (h : Ech L) (ha : a < 256) (z : ¬ inS L a) : (adS s L P a).1 = s + 1 := by
  cases hr : rd L P 8 a 0 with
  | some r =>
    obtain ⟨T, _, e, _⟩ := rd_sound h 8 a 0 r (Nat.le_refl _) ha hr
    exact absurd ⟨T, e.symm⟩ z
  | none =>
    obtain ⟨q, e⟩ := (rd_ad (L := L) (P := P) 8 a 0 (2 ^ s)).mp hr
    unfold adS
    rw [e]
/-- the sent vectors from 1 up to w -/
def snW (p : Nat → Bool) (w : Nat) : Nat → Prop := fun u => 1 ≤ u ∧ u ≤ w ∧ p u = true
theorem sp_walk (p : Nat → Bool) : ∀ w, w ≤ 255 → ∃ L P, SpG (snW p w) (spC p w) L ∧ (∀ j, j < 256 → (spZ p w j = true ↔ inS L j)) ∧ P = (fun _ : Nat => (0 : Nat)) := by
  intro w
  induction w with
  | zero =>
    intro _
    refine ⟨fun _ => 0, _, SpG.empty _ (fun w z => by unfold snW at z; omega), fun j hj => ?_, rfl⟩
    simp only [spZ, decide_eq_true_iff]
    constructor
    · rintro rfl; exact inS_0 _
    · rintro ⟨T, rfl⟩
      have : ∀ n, xsN (fun _ => 0) T n = 0 := by
        intro n
        induction n with
        | zero => rfl
        | succ n ih => simp [xsN, ih]
      exact this 8
  | succ w ih =>
    intro hw
    obtain ⟨L, P, H, Z, _⟩ := ih (by omega)
    have hw1 : w + 1 < 256 := by omega
    by_cases hp : p (w + 1) = true
    · have hq : ∀ u, snW p (w + 1) u ↔ (snW p w u ∨ u = w + 1) := by
        intro u
        unfold snW
        constructor
        · rintro ⟨a, b, c⟩
          by_cases z : u = w + 1
          · exact Or.inr z
          · exact Or.inl ⟨a, by omega, c⟩
        · rintro (⟨a, b, c⟩ | rfl)
          · exact ⟨a, by omega, c⟩
          · exact ⟨by omega, by omega, hp⟩
      have A := H.add (P := P) hw1 hq
      have zi := Z (w + 1) hw1
      cases hz : spZ p w (w + 1)
      · have zn : ¬ inS L (w + 1) := fun q => by rw [← zi, hz] at q; cases q
        refine ⟨(adS (spC p w) L P (w + 1)).2.1, _, ?_, ?_, rfl⟩
        · have e := adS_out (s := spC p w) (P := P) H.1 hw1 zn
          rw [e] at A
          simp only [spC, hp, hz, and_self, if_true]
          exact A
        · intro j hj
          simp only [spZ, hp, hz, and_self, if_true]
          rw [A.mem, GenQ_add hq, ← H.mem, ← H.mem]
          unfold adB
          rw [Bool.or_eq_true, Z j hj, Z _ (Nat.xor_lt_two_pow (n := 8) hj hw1)]
      · have zn : inS L (w + 1) := zi.mp hz
        rw [adS_in H.1 hw1 zn] at A
        refine ⟨L, _, ?_, ?_, rfl⟩
        · simp only [spC, hz, Bool.true_eq_false, and_false, if_false]
          exact A
        · intro j hj
          simp only [spZ, hz, Bool.true_eq_false, and_false, if_false]
          exact Z j hj
    · refine ⟨L, _, ?_, ?_, rfl⟩
      · simp only [spC, hp, false_and, if_false, Bool.false_eq_true]
        refine H.congr (fun u => ?_)
        unfold snW
        constructor
        · rintro ⟨a, b, c⟩; exact ⟨a, by omega, c⟩
        · rintro ⟨a, b, c⟩
          refine ⟨a, ?_, c⟩
          by_cases z : u = w + 1
          · subst z; exact absurd c hp
          · omega
      · intro j hj
        simp only [spZ, hp, false_and, if_false, Bool.false_eq_true]
        exact Z j hj
theorem sp_rank {p : Nat → Bool} {q : Nat → Prop} {s : Nat} {L : Nat → Nat} (H : SpG q s L) (hq : ∀ w, q w ↔ (w < 256 ∧ p w = true)) : s = spC p 255 := by
  obtain ⟨L', P', H', _, _⟩ := sp_walk p 255 (Nat.le_refl _)
  refine H.size H' (fun y => ⟨fun h => ?_, fun h => ?_⟩)
  · intro Q q0 q1 q2
    refine h Q q0 q1 (fun w hw => ?_)
    obtain ⟨w1, w2⟩ := (hq w).mp hw
    by_cases z : w = 0
    · subst z; exact q0
    · exact q2 w ⟨by omega, by omega, w2⟩
  · exact h.mono (fun w hw => (hq w).mpr ⟨by have := hw.2.1; omega, hw.2.2⟩)
section SR
variable {h : aH} {x n : Nat} {g : Nat → Nat} {C : nC}
theorem c_sentRank (hx : CH h x n) (H : Pic g C) (hw : WF g) (v : Int32) : run 94 0 [.ref x, .int v] [] (NH h (x + 1) C) = some (some (.int (qSentR g v)), NH h (x + 1) C) := by
  have h1 := hw.2.1
  unfold qSentR
  cases c : relN g v
  · simp only [s94_0, s94_1, s94_4, s94_5, s94_8, s94_11, s94_12, gf0, gf1, gf2, gf3, gf4, gf5, gf6, gf7, gf8, gf9, gf10, gf11, gf12, gf13, gf14, pu0, pu1, pu2, pu3, pu4, pu5, pu6, pu7, pu8, pu9, pu10, pu11, pu12, pu13, pu14, rc_at, bK_some, Option.toList_some, Option.toList_none, List.cons_append, List.nil_append, hx.at, NH_0, c_rel H hw, c, bI_0, if_true, Bool.false_eq_true, if_false]
  · obtain ⟨j, j0, j1, rfl, j3⟩ := relN_t hw c
    have hj : j < 10 := by omega
    have e : C 7 j 2 = spC (sntB g j) 255 := sp_rank (H.2.1 j hj).2.2.2.2.2.2 (fun w => by unfold snt sntB; simp)
    simp (disch := omega) only [s94_0, s94_1, s94_4, s94_5, s94_8, s94_11, s94_12, s94_13, s94_14, s94_17, s94_20, s94_21, s94_22, s94_25, s94_28, gf0, gf1, gf2, gf3, gf4, gf5, gf6, gf7, gf8, gf9, gf10, gf11, gf12, gf13, gf14, pu0, pu1, pu2, pu3, pu4, pu5, pu6, pu7, pu8, pu9, pu10, pu11, pu12, pu13, pu14, rc_at, bK_some, Option.toList_some, Option.toList_none, List.cons_append, List.nil_append, hx.at, NH_0, NH_2, c_rel H hw, c, bI_0, if_true, Bool.true_eq_false, if_false, al_nd, NH_n hj, NH_s0 hj, e, j3]
end SR
