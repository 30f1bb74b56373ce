/-! the whole round, and several -/
def gFate (g : Nat → Nat) (l f : Nat) : Nat → Nat := up g (218 + 11 * l + f) (g (218 + 11 * l + f) + 1)
/-- what arrives over a link: how many were accepted, and the state -/
def rArr (l : Nat) (q : Nat × RS) : Nat × RS := if q.2.2.1 l = 0 then q else (q.1 + (if arrF q.2.1 l (q.2.2.2.1 l) (q.2.2.2.2 l) = 1 then 1 else 0), gFate (arrG q.2.1 l (q.2.2.2.1 l) (q.2.2.2.2 l)) l (arrF q.2.1 l (q.2.2.2.1 l) (q.2.2.2.2 l)), q.2.2)
def rAll (v : Nat) (s : RS) : RS := if s.1 (44 + v) = 0 then s else rFrom v s
def sentAll (s : RS) : RS := foldN rAll (s.1 1) s
/-- what is sent and not yet arrived has a vector of the generation -/
def RI (s : RS) : Prop := ∀ l, l < 20 → s.2.1 l ≤ 1 ∧ (s.2.1 l ≠ 0 → s.2.2.1 l < 2 ^ s.1 0)
theorem sVec_lt2 {g : Nat → Nat} (hw : WF g) {v s : Nat} (hv : v < 10) : sVec g v s < 2 ^ g 0 := xsN_lt fun i hi => hw.2.2.2.2.2.2.2.1 v i hv hi
theorem rSend_low {v l : Nat} {s : RS} (hl : l < 20) (hv : v < 10) (hw : WF s.1) : (∀ j, j < 214 → j ≠ 4 → (rSend v l s).1 j = s.1 j) ∧ (RI s → RI (rSend v l s)) := by
  unfold rSend
  split
  · have e : ∀ j, j < 214 → j ≠ 4 → gSend (rG s.1 v) l v (sVec s.1 v (rSet s.1 v)) j = s.1 j := by
      intro j hj h4
      rw [gSend_ne (by omega) (by omega) (by omega) (by omega)]
      unfold rG gRnd
      split
      · rfl
      · exact up_ne h4
    refine ⟨e, fun hR l' hl' => ?_⟩
    dsimp only
    rw [e 0 (by omega) (by omega)]
    by_cases hll : l' = l
    · subst hll
      rw [up_same, up_same]
      exact ⟨Nat.le_refl 1, fun _ => sVec_lt2 hw hv⟩
    · rw [up_ne hll, up_ne hll]
      exact hR l' hl'
  · exact ⟨fun _ _ _ => rfl, fun h => h⟩
theorem foldN_inv {σ : Type} {F : Nat → σ → σ} {I : Nat → σ → Prop} {n : Nat} {s : σ} (h0 : I 0 s) (hs : ∀ i s, i < n → I i s → I (i + 1) (F i s)) : I n (foldN F n s) := by
  have key : ∀ m, m ≤ n → I m (foldN F m s) := by
    intro m
    induction m with
    | zero => intro _; exact h0
    | succ m ih => intro hm; exact hs m _ (by omega) (ih (by omega))
  exact key n (Nat.le_refl n)
/-- what a whole sending keeps -/
def KP (s s' : RS) : Prop := WF s'.1 ∧ (∀ j, j < 214 → j ≠ 4 → s'.1 j = s.1 j) ∧ RI s'
theorem rFrom_keep {v : Nat} {s s' : RS} (hv : v < 10) (h : KP s s') : KP s (rFrom v s') := by
  unfold rFrom
  have h20 := h.1.2.2.1
  refine foldN_inv (I := fun _ t => KP s t) h (fun l t hl ht => ?_)
  have hl2 : l < 20 := by omega
  have k1 := rSend_keep hl2 hv ht.1
  have k2 := rSend_low (s := t) hl2 hv ht.1
  exact ⟨k1.1, fun j h1 h2 => (k2.1 j h1 h2).trans (ht.2.1 j h1 h2), k2.2 ht.2.2⟩
theorem rAll_keep {v : Nat} {s s' : RS} (hv : v < 10) (h : KP s s') : KP s (rAll v s') := by
  unfold rAll
  split
  · exact h
  · exact rFrom_keep hv h
theorem gAcc_at {g : Nat → Nat} {v a p : Nat} (hv : v < 10) (hr : g (44 + v) < 8) : (gAcc g v a p (44 + v) = g (44 + v) + 1) ∧ (∀ j, j ≠ 44 + v → j ≠ 54 + 16 * v + 2 * g (44 + v) → j ≠ 55 + 16 * v + 2 * g (44 + v) → gAcc g v a p j = g j) ∧ (∀ i, i < 8 → vecs (gAcc g v a p) v i = up (vecs g v) (g (44 + v)) a i) := by
  refine ⟨by unfold gAcc; rw [up_same], fun j h1 h2 h3 => by unfold gAcc; rw [up_ne h1, up_ne h3, up_ne h2], fun i hi => ?_⟩
  unfold vecs gAcc
  rw [up_ne (by omega), up_ne (by omega)]
  by_cases h : i = g (44 + v)
  · subst h; rw [up_same, up_same]
  · rw [up_ne (by omega), up_ne h]
theorem WFS_acc {g : Nat → Nat} {v a p : Nat} (hw : WF g) (hs : WS g) (hv : v < 10) (ha : a < 2 ^ g 0) (e : sfN g v a = none) : WF (gAcc g v a p) ∧ WS (gAcc g v a p) := by
  obtain ⟨L, P, hS⟩ := hs v hv
  obtain ⟨b, w, q, had⟩ := hS.room hw.1.2 ha e
  obtain ⟨hS2, hlt⟩ := hS.add hw.1.2 ha had
  have hk := hw.1
  have hr8 : g (44 + v) < 8 := by omega
  obtain ⟨a1, a2, a3⟩ := gAcc_at (g := g) (a := a) (p := p) hv hr8
  obtain ⟨w1, w2, w3, w4, w5, w6, w7, w8, w9, w10⟩ := hw
  have lo : ∀ j, j < 44 → gAcc g v a p j = g j := fun j hj => a2 j (by omega) (by omega) (by omega)
  have hi : ∀ j, 214 ≤ j → gAcc g v a p j = g j := fun j hj => a2 j (by omega) (by omega) (by omega)
  have ot : ∀ u, u < 10 → u ≠ v → gAcc g v a p (44 + u) = g (44 + u) ∧ ∀ i, i < 8 → vecs (gAcc g v a p) u i = vecs g u i := fun u hu huv => ⟨a2 _ (by omega) (by omega) (by omega), fun i hi => a2 _ (by omega) (by omega) (by omega)⟩
  have e0 := lo 0 (by omega)
  constructor
  · refine ⟨by rw [e0]; exact w1, by rw [lo 1 (by omega)]; exact w2, by rw [lo 2 (by omega)]; exact w3, fun l hl => ?_, by rw [lo 4 (by omega)]; exact w5, by rw [lo 5 (by omega)]; exact w6, fun u hu => ?_, fun u i hu hiu => ?_, fun j hj => by rw [hi _ (by omega)]; exact w9 j hj, by rw [lo 14 (by omega)]; exact w10⟩
    · rw [lo 2 (by omega)] at hl
      rw [hi (214 + 11 * l) (by omega), hi (215 + 11 * l) (by omega), hi (216 + 11 * l) (by omega), lo 1 (by omega)]
      exact w4 l hl
    · rw [lo (14 + u) (by omega), lo (34 + u) (by omega), e0]
      by_cases huv : u = v
      · subst huv; rw [a1]; exact ⟨(w7 u hu).1, (w7 u hu).2.1, by omega⟩
      · rw [(ot u hu huv).1]; exact w7 u hu
    · rw [e0]
      by_cases huv : u = v
      · subst huv
        rw [a1] at hiu
        have := a3 i (by omega)
        unfold vecs at this
        rw [this]
        by_cases hin : i = g (44 + u)
        · subst hin; rw [up_same]; exact ha
        · rw [up_ne hin]; exact w8 u i hu (by omega)
      · rw [(ot u hu huv).1] at hiu
        have h8 := (w7 u hu).2.2
        have := (ot u hu huv).2 i (by omega)
        unfold vecs at this
        rw [this]
        exact w8 u i hu hiu
  · intro u hu
    by_cases huv : u = v
    · subst huv
      rw [a1, e0]
      exact ⟨_, _, hS2.congr fun i hi => a3 i (by omega)⟩
    · obtain ⟨L', P', h'⟩ := hs u hu
      rw [(ot u hu huv).1, e0]
      have h8 := (w7 u hu).2.2
      exact ⟨L', P', h'.congr fun i hi => (ot u hu huv).2 i (by omega)⟩
theorem WFS_link {g g' : Nat → Nat} (hw : WF g) (hs : WS g) (h : ∀ j, (j < 214 ∨ 434 ≤ j ∨ (j - 214) % 11 < 3) → g' j = g j) : WF g' ∧ WS g' := by
  have hk := hw.1
  have hr : ∀ v, v < 10 → g (44 + v) ≤ 8 := fun v hv => Nat.le_trans (hw.2.2.2.2.2.2.1 v hv).2.2 hk.2
  refine ⟨hw.mono (fun j h1 _ _ _ => h j (by omega)) (fun l hl => ⟨h _ (by omega), h _ (by omega), h _ (by omega)⟩) (by rw [h 4 (by omega)]; exact hw.2.2.2.2.1) (fun j hj => by rw [h _ (by omega)]; exact hw.2.2.2.2.2.2.2.2.1 j hj), hs.mono hr (fun j h1 _ _ _ => h j (by omega))⟩
theorem WFS_arr {g : Nat → Nat} {l a p : Nat} (hw : WF g) (hs : WS g) (hl : l < g 2) (ha : a < 2 ^ g 0) : (WF (arrG g l a p) ∧ WS (arrG g l a p)) ∧ ∀ j, j < 44 → arrG g l a p j = g j := by
  have h20 := hw.2.2.1
  have hlk := hw.2.2.2.1 l hl
  have hn := hw.2.1
  have hv : g (215 + 11 * l) < 10 := by omega
  have e : ∀ j, (j < 214 ∨ 434 ≤ j ∨ (j - 214) % 11 < 3) → gRecv g l a j = g j := fun j hj => up_ne (by omega)
  obtain ⟨hw1, hs1⟩ := WFS_link hw hs e
  have hrk := (hw.2.2.2.2.2.2.1 _ hv).2.2
  have hk := hw.1
  unfold arrG
  by_cases hlo : lostN g l = true
  · simp only [hlo, if_true]
    exact ⟨⟨hw, hs⟩, fun _ _ => trivial⟩
  · simp only [hlo, Bool.false_eq_true, if_false]
    cases hsf : sfN g (g (215 + 11 * l)) a with
    | none =>
      have e1 : gRecv g l a (44 + g (215 + 11 * l)) = g (44 + g (215 + 11 * l)) := e _ (by omega)
      have es : sfN (gRecv g l a) (g (215 + 11 * l)) a = none := by
        rw [sfN_congr e1 (fun i hi => e _ (by omega))]
        exact hsf
      refine ⟨WFS_acc hw1 hs1 hv (by rw [e 0 (by omega)]; exact ha) es, fun j hj => ?_⟩
      dsimp only
      unfold gAcc
      rw [up_ne (by omega), up_ne (by omega), up_ne (by omega)]
      exact e j (by omega)
    | some s => exact ⟨⟨hw1, hs1⟩, fun j hj => e j (by omega)⟩
theorem WFS_fate {g : Nat → Nat} {l f : Nat} (hw : WF g) (hs : WS g) (hl : l < 20) (hf : f ≤ 3) : (WF (gFate g l f) ∧ WS (gFate g l f)) ∧ ∀ j, j < 44 → gFate g l f j = g j :=
  ⟨WFS_link hw hs fun j hj => up_ne (by omega), fun j hj => up_ne (by omega)⟩
/-- a round -/
def rndAll (g : Nat → Nat) : Nat × RS := foldN rArr (g 2) (0, sentAll (g, fun _ => 0, fun _ => 0, fun _ => 0))
def rArrI (g : Nat → Nat) (q : Nat × RS) : Prop := WF q.2.1 ∧ WS q.2.1 ∧ RI q.2 ∧ (∀ j, j < 44 → j ≠ 4 → q.2.1 j = g j) ∧ q.2.1 4 < 2 ^ 31
theorem rArr_keep {g : Nat → Nat} {l : Nat} {q : Nat × RS} (hl : l < g 2) (h : rArrI g q) : rArrI g (rArr l q) := by
  obtain ⟨hw, hs, hR, hlo, h4⟩ := h
  have h2 : q.2.1 2 = g 2 := hlo 2 (by omega) (by omega)
  have h20 := hw.2.2.1
  unfold rArr
  by_cases c : q.2.2.1 l = 0
  · rw [if_pos c]; exact ⟨hw, hs, hR, hlo, h4⟩
  · rw [if_neg c]
    have ha := (hR l (by omega)).2 c
    obtain ⟨⟨hw1, hs1⟩, e1⟩ := WFS_arr (p := q.2.2.2.2 l) hw hs (show l < q.2.1 2 by omega) ha
    obtain ⟨⟨hw2, hs2⟩, e2⟩ := WFS_fate (l := l) (f := arrF q.2.1 l (q.2.2.2.1 l) (q.2.2.2.2 l)) hw1 hs1 (by omega) (arrF_le _ _ _ _)
    refine ⟨hw2, hs2, fun l' hl' => ?_, fun j hj h4' => (e2 j hj).trans ((e1 j hj).trans (hlo j hj h4')), hw2.2.2.2.2.1⟩
    dsimp only
    rw [e2 0 (by omega), e1 0 (by omega)]
    exact hR l' hl'
theorem sentAll_keep {g : Nat → Nat} (hw : WF g) : KP (g, fun _ => 0, fun _ => 0, fun _ => 0) (sentAll (g, fun _ => 0, fun _ => 0, fun _ => 0)) := by
  unfold sentAll
  have hn := hw.2.1
  refine foldN_inv (I := fun _ t => KP (g, fun _ => 0, fun _ => 0, fun _ => 0) t) ⟨hw, fun _ _ _ => rfl, fun l _ => ⟨Nat.zero_le 1, fun q => absurd rfl q⟩⟩ (fun v t hv ht => rAll_keep ?_ ht)
  dsimp only at hv
  omega
section MI
variable {h : aH} {x : Nat} {tl : Value} {rest : List Value}
/-- one round: how many are accepted, the new row m -/
def gGoes (g : Nat → Nat) : Nat → Nat := up (rndAll g).2.1 3 ((rndAll g).2.1 3 + 1)
def nGoes (g : Nat → Nat) : Nat := (rndAll g).1
/-- two states of a round that differ in what nobody reads -/
def EQ (s s' : RS) : Prop := s.1 = s'.1 ∧ ∀ l, l < 20 → s.2.1 l = s'.2.1 l ∧ (s.2.1 l ≠ 0 → s.2.2.1 l = s'.2.2.1 l ∧ s.2.2.2 l = s'.2.2.2 l)
theorem EQ.send {s s' : RS} {v l : Nat} (h : EQ s s') : EQ (rSend v l s) (rSend v l s') := by
  obtain ⟨g, is, sv, sp⟩ := s
  obtain ⟨g', is', sv', sp'⟩ := s'
  obtain ⟨h1, h2⟩ := h
  dsimp only at h1 h2
  subst h1
  unfold rSend
  dsimp only
  split
  · refine ⟨rfl, fun l' hl' => ?_⟩
    dsimp only
    by_cases hll : l' = l
    · subst hll; simp [up_same]
    · rw [up_ne hll, up_ne hll, up_ne hll, up_ne hll, up_ne hll, up_ne hll]; exact h2 l' hl'
  · exact ⟨rfl, h2⟩
theorem foldN_rel {σ : Type} {F : Nat → σ → σ} {E : σ → σ → Prop} (hF : ∀ i s s', E s s' → E (F i s) (F i s')) (n : Nat) {s s' : σ} (h : E s s') : E (foldN F n s) (foldN F n s') := by
  induction n with
  | zero => exact h
  | succ n ih => exact hF n _ _ ih
theorem EQ.from {s s' : RS} {v : Nat} (h : EQ s s') : EQ (rFrom v s) (rFrom v s') := by
  unfold rFrom
  rw [h.1]
  exact foldN_rel (F := rSend v) (E := EQ) (fun i a b hab => EQ.send (v := v) (l := i) hab) _ h
theorem EQ.all {s s' : RS} {v : Nat} (h : EQ s s') : EQ (rAll v s) (rAll v s') := by
  unfold rAll
  rw [h.1]
  split
  · exact h
  · exact h.from
theorem EQ.sent {s s' : RS} (h : EQ s s') : EQ (sentAll s) (sentAll s') := by
  unfold sentAll
  rw [h.1]
  exact foldN_rel (F := rAll) (E := EQ) (fun i a b hab => EQ.all (v := i) hab) _ h
def EQ2 (q q' : Nat × RS) : Prop := q.1 = q'.1 ∧ EQ q.2 q'.2
theorem EQ2.arr {q q' : Nat × RS} {l : Nat} (hl : l < 20) (h : EQ2 q q') : EQ2 (rArr l q) (rArr l q') := by
  obtain ⟨c, g, is, sv, sp⟩ := q
  obtain ⟨c', g', is', sv', sp'⟩ := q'
  obtain ⟨h0, h1, h2⟩ := h
  dsimp only at h0 h1 h2
  subst h0
  subst h1
  unfold rArr
  dsimp only
  obtain ⟨e1, e2⟩ := h2 l hl
  by_cases hz : is l = 0
  · rw [if_pos hz, if_pos (show is' l = 0 by rw [← e1]; exact hz)]
    exact ⟨rfl, rfl, h2⟩
  · rw [if_neg hz, if_neg (show ¬ is' l = 0 by rw [← e1]; exact hz)]
    obtain ⟨e3, e4⟩ := e2 hz
    simp only [e3, e4]
    exact ⟨rfl, rfl, h2⟩
theorem m_goes (H : MX h x tl rest) (g is sv sp : Nat → Nat) (hw : WF g) (hs : WS g) : ∃ is' sv' sp', run 137 0 [.ref x, .null, .null, .null] [] (MR h x g is sv sp) = some (some (.int (nI (nGoes g))), MR h x (gGoes g) is' sv' sp') ∧ WF (gGoes g) ∧ WS (gGoes g) ∧ (∀ j, j < 44 → j ≠ 3 → j ≠ 4 → gGoes g j = g j) := by
  have hxx : ∀ g is sv sp, hget (MR h x g is sv sp) x = some (.inr (7, .ref (x + 1) :: .ref (x + 2) :: .ref (x + 3) :: .ref (x + 4) :: tl :: .ref (x + 5) :: .ref (x + 6) :: .ref (x + 7) :: .ref (x + 8) :: rest)) := fun _ _ _ _ => by rw [MR_x]; exact H
  have hM : ∀ g is sv sp, MO (MR h x g is sv sp) x _ g := fun _ _ _ _ => MR_MO H
  have hn := hw.2.1
  have h20 := hw.2.2.1
  simp only [s137_0, s137_1, s137_2, s137_3]
  have L1 := loop_up (fun i (is : Nat → Nat) => run 137 4 [.ref x, .int (nI 0), .int (nI i), .null] [] (MR h x g is sv sp)) (fun i is => up is (0 + i) 0) 20 (by
    intro i is hi
    rw [s137_4]
    simp (disch := omega) only [s137_5, s137_7, s137_10, s137_11, s137_14, s137_15, s137_16, s137_17, s137_20, gf0, gf1, gf2, gf3, gf4, gf5, gf6, gf7, gf8, gf9, gf10, gf11, gf12, gf13, gf14, pu0, pu1, pu2, pu3, pu4, pu5, pu6, pu7, pu8, pu9, pu10, pu11, pu12, pu13, pu14, rc_at, bK_some, Option.toList_some, Option.toList_none, List.cons_append, List.nil_append, hxx, MR_5, MR_s5, as_z, nar_0, nI_adds, nI_lts, hi, if_true, Nat.zero_add]) is
  rw [L1, fold_lin]
  generalize hq : (fun j => if 0 ≤ j ∧ j < 0 + 20 then 0 else is j) = is0
  have his : ∀ l, l < 20 → is0 l = 0 := fun l hl => by rw [← hq]; simp [hl]
  have hEQ : EQ (g, is0, sv, sp) (g, fun _ => 0, fun _ => 0, fun _ => 0) := ⟨rfl, fun l hl => ⟨his l hl, fun q => absurd (his l hl) q⟩⟩
  have hKP0 : KP (g, is0, sv, sp) (g, is0, sv, sp) := ⟨hw, fun _ _ _ => rfl, fun l hl => ⟨by dsimp only; rw [his l hl]; omega, fun q => absurd (his l hl) q⟩⟩
  rw [s137_4]
  simp (disch := omega) only [s137_5, s137_7, s137_10, s137_11, s137_14, s137_15, s137_16, s137_17, s137_20, s137_23, s137_24, nI_lts, Nat.lt_irrefl, if_false]
  have L2 := loop_inv (fun v (s : RS) => run 137 25 [.ref x, .int (nI 0), .int (nI v), .null] [] (MS h x s)) rAll (fun _ t => KP (g, is0, sv, sp) t) (g 1) (by
    intro v s hv hK
    have hv10 : v < 10 := by omega
    refine ⟨?_, rAll_keep hv10 hK⟩
    have e1 : s.1 1 = g 1 := hK.2.1 1 (by omega) (by omega)
    have hr := (hK.1.2.2.2.2.2.2.1 v hv10).2.2
    have hk := hK.1.1
    dsimp only [MS]
    rw [s137_25]
    simp (disch := omega) only [s137_26, s137_27, s137_30, s137_31, s137_32, s137_35, s137_36, s137_39, s137_41, s137_42, s137_43, s137_44, gf0, gf1, gf2, gf3, gf4, gf5, gf6, gf7, gf8, gf9, gf10, gf11, gf12, gf13, gf14, pu0, pu1, pu2, pu3, pu4, pu5, pu6, pu7, pu8, pu9, pu10, pu11, pu12, pu13, pu14, rc_at, bK_some, Option.toList_some, Option.toList_none, List.cons_append, List.nil_append, hxx, MR_1, al_m, e1, nI_lts, hv, if_true, nI_adds, nI_gt0]
    unfold rAll
    by_cases c : s.1 (44 + v) = 0
    · simp only [c, Nat.lt_irrefl, if_false, if_true, s137_52, s137_55, nI_adds]
    · have SF := (m_sendsFrom H hv10 s hK.1 (by omega)).1
      dsimp only [MS] at SF
      simp only [c, if_false, show 0 < s.1 (44 + v) from by omega, if_true, s137_47, s137_48, s137_49, s137_52, s137_55, gf0, gf1, gf2, gf3, gf4, gf5, gf6, gf7, gf8, gf9, gf10, gf11, gf12, gf13, gf14, pu0, pu1, pu2, pu3, pu4, pu5, pu6, pu7, pu8, pu9, pu10, pu11, pu12, pu13, pu14, rc_at, bK_some, Option.toList_some, Option.toList_none, List.cons_append, List.nil_append, hxx, SF, nI_adds]) (g, is0, sv, sp) hKP0
  dsimp only [MS] at L2
  obtain ⟨L2, K2⟩ := L2
  rw [L2, show foldN rAll (g 1) (g, is0, sv, sp) = sentAll (g, is0, sv, sp) from rfl] at *
  have hE2 := hEQ.sent
  generalize hT : sentAll (g, is0, sv, sp) = T at K2 hE2 ⊢
  have e2 : T.1 2 = g 2 := K2.2.1 2 (by omega) (by omega)
  have e1 : T.1 1 = g 1 := K2.2.1 1 (by omega) (by omega)
  rw [s137_25]
  simp (disch := omega) only [s137_26, s137_27, s137_30, s137_31, s137_32, s137_35, s137_36, s137_39, s137_41, s137_42, s137_43, s137_44, s137_47, s137_48, s137_49, s137_52, s137_55, s137_58, s137_59, gf0, gf1, gf2, gf3, gf4, gf5, gf6, gf7, gf8, gf9, gf10, gf11, gf12, gf13, gf14, pu0, pu1, pu2, pu3, pu4, pu5, pu6, pu7, pu8, pu9, pu10, pu11, pu12, pu13, pu14, rc_at, bK_some, Option.toList_some, Option.toList_none, List.cons_append, List.nil_append, hxx, MR_1, al_m, e1, nI_lts, Nat.lt_irrefl, if_false]
  have hr8 : ∀ v, v < 10 → g (44 + v) ≤ 8 := fun v hv => Nat.le_trans (hw.2.2.2.2.2.2.1 v hv).2.2 hw.1.2
  have hI0 : rArrI g (0, T) := ⟨K2.1, hs.mono hr8 (fun j h1 _ h4 _ => K2.2.1 j h1 h4), K2.2.2, fun j hj h4 => K2.2.1 j (by omega) h4, K2.1.2.2.2.2.1⟩
  obtain ⟨⟨w', L3⟩, hI⟩ := loop_invJ (fun l (q : Nat × RS) (w : Value) => run 137 60 [.ref x, .int (nI q.1), .int (nI l), w] [] (MS h x q.2)) rArr (fun _ q => rArrI g q) (g 2) (by
    intro l q w hl hI
    refine ⟨?_, rArr_keep hl hI⟩
    obtain ⟨hw1, hs1, hR1, hlo1, h41⟩ := hI
    have eq2 : q.2.1 2 = g 2 := hlo1 2 (by omega) (by omega)
    have hl20 : l < 20 := by omega
    have hR := hR1 l hl20
    dsimp only [MS]
    rw [s137_60]
    simp (disch := omega) only [s137_61, s137_62, s137_65, s137_66, s137_67, s137_70, s137_71, s137_74, s137_75, s137_76, gf0, gf1, gf2, gf3, gf4, gf5, gf6, gf7, gf8, gf9, gf10, gf11, gf12, gf13, gf14, pu0, pu1, pu2, pu3, pu4, pu5, pu6, pu7, pu8, pu9, pu10, pu11, pu12, pu13, pu14, rc_at, bK_some, Option.toList_some, Option.toList_none, List.cons_append, List.nil_append, hxx, MR_1, MR_5, al_m, al_z, eq2, nI_lts, hl, if_true, nI_eq0]
    unfold rArr
    by_cases c : q.2.2.1 l = 0
    · simp only [c, if_true, s137_116, s137_119, nI_adds]
      exact ⟨w, rfl⟩
    · rw [if_neg c, if_neg c]
      have AR := m_arrives H q.2.1 q.2.2.1 q.2.2.2.1 q.2.2.2.2 hw1 hs1 (show l < q.2.1 2 by omega) (hR.2 c)
      have hF := arrF_le q.2.1 l (q.2.2.2.1 l) (q.2.2.2.2 l)
      refine ⟨.int (nI (arrF q.2.1 l (q.2.2.2.1 l) (q.2.2.2.2 l))), ?_⟩
      simp (disch := omega) only [s137_79, s137_80, s137_81, s137_84, gf0, gf1, gf2, gf3, gf4, gf5, gf6, gf7, gf8, gf9, gf10, gf11, gf12, gf13, gf14, pu0, pu1, pu2, pu3, pu4, pu5, pu6, pu7, pu8, pu9, pu10, pu11, pu12, pu13, pu14, rc_at, bK_some, Option.toList_some, Option.toList_none, List.cons_append, List.nil_append, hxx, AR]
      generalize arrF q.2.1 l (q.2.2.2.1 l) (q.2.2.2.2 l) = fa at hF ⊢
      have q4 : 214 + 11 * l + (4 + fa) = 218 + 11 * l + fa := by omega
      have PU := m_put (w := 4 + fa) (hM (arrG q.2.1 l (q.2.2.2.1 l) (q.2.2.2.2 l)) q.2.2.1 q.2.2.2.1 q.2.2.2.2) hl20 (by omega) (arrG q.2.1 l (q.2.2.2.1 l) (q.2.2.2.2 l) (218 + 11 * l + fa) + 1)
      rw [q4, MR_s1] at PU
      simp (disch := omega) only [s137_85, s137_86, s137_87, s137_88, s137_89, s137_90, s137_91, s137_92, s137_93, s137_94, s137_95, s137_98, s137_99, s137_100, s137_103, s137_104, s137_105, s137_106, gf0, gf1, gf2, gf3, gf4, gf5, gf6, gf7, gf8, gf9, gf10, gf11, gf12, gf13, gf14, pu0, pu1, pu2, pu3, pu4, pu5, pu6, pu7, pu8, pu9, pu10, pu11, pu12, pu13, pu14, rc_at, bK_some, Option.toList_some, Option.toList_none, List.cons_append, List.nil_append, hxx, nI_adds, m_of (hM _ _ _ _), q4, PU, nI_eqs]
      by_cases c1 : fa = 1
      · simp only [c1, if_true, s137_109, s137_110, s137_113, s137_114, s137_115, s137_116, s137_119, nI_adds]; rfl
      · simp only [c1, if_false, s137_109, s137_110, s137_113, s137_114, s137_115, s137_116, s137_119, nI_adds]; rfl) (0, T) .null hI0
  dsimp only [MS] at L3
  rw [L3]
  have hE3 : EQ2 (foldN rArr (g 2) (0, T)) (rndAll g) := by
    unfold rndAll
    have key : ∀ n, n ≤ 20 → EQ2 (foldN rArr n (0, T)) (foldN rArr n (0, sentAll (g, fun _ => 0, fun _ => 0, fun _ => 0))) := by
      intro n
      induction n with
      | zero => intro _; exact ⟨rfl, hE2⟩
      | succ n ih => intro hn'; exact (ih (by omega)).arr (by omega)
    exact key _ h20
  generalize foldN rArr (g 2) (0, T) = Z at hE3 hI ⊢
  obtain ⟨hw1, hs1, hR1, hlo1, h41⟩ := hI
  have eq2 : Z.2.1 2 = g 2 := hlo1 2 (by omega) (by omega)
  have ez : Z.2.1 = (rndAll g).2.1 := hE3.2.1
  have ec : Z.1 = nGoes g := hE3.1
  refine ⟨Z.2.2.1, Z.2.2.2.1, Z.2.2.2.2, ?_, ?_⟩
  · rw [s137_60]
    simp (disch := omega) only [s137_61, s137_62, s137_65, s137_66, s137_67, s137_122, s137_123, s137_126, s137_127, s137_128, s137_129, s137_130, s137_131, s137_132, s137_133, gf0, gf1, gf2, gf3, gf4, gf5, gf6, gf7, gf8, gf9, gf10, gf11, gf12, gf13, gf14, pu0, pu1, pu2, pu3, pu4, pu5, pu6, pu7, pu8, pu9, pu10, pu11, pu12, pu13, pu14, rc_at, bK_some, Option.toList_some, Option.toList_none, List.cons_append, List.nil_append, hxx, MR_1, MR_s1, al_m, as_m, eq2, nI_lts, Nat.lt_irrefl, if_false, nI_adds]
    unfold gGoes
    rw [← ez, ec]
  · have eg : gGoes g = up Z.2.1 3 (Z.2.1 3 + 1) := by unfold gGoes; rw [← ez]
    have hr8' : ∀ v, v < 10 → Z.2.1 (44 + v) ≤ 8 := fun v hv => Nat.le_trans (hw1.2.2.2.2.2.2.1 v hv).2.2 hw1.1.2
    rw [eg]
    refine ⟨hw1.mono (fun j _ h3 _ _ => up_ne h3) (fun l _ => ⟨up_ne (by omega), up_ne (by omega), up_ne (by omega)⟩) (by rw [up_ne (by omega)]; exact h41) (fun j hj => by rw [up_ne (by omega)]; exact hw1.2.2.2.2.2.2.2.2.1 j hj), hs1.mono hr8' (fun j _ h3 _ _ => up_ne h3), fun j hj h3 h4 => ?_⟩
    rw [up_ne h3]
    exact hlo1 j hj h4
end MI
