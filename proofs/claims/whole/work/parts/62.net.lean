/-! the class: a network on the heap -/
/-- the kind and the number of the cell at an offset -/
def kO (o : Nat) : Nat × Nat := if o < 3 then (o, 0) else if o < 93 then (3 + (o - 3) % 9, (o - 3) / 9) else if o = 93 then (14, 0) else (12 + (o - 94) % 2, (o - 94) / 2)
def ndA (b v : Nat) : Nat := b + 3 + 9 * v
def lkA (b l : Nat) : Nat := b + 94 + 2 * l
/-- what stands in a cell: by its kind, its address and its numbers -/
def cell (b k a : Nat) (f : Nat → Nat) : aC :=
  if k = 0 then .inr (2, [.int (nI (f 0)), .ref (b + 1), .int (nI (f 2)), .ref (b + 2), .int (nI (f 4)), .ref (b + 93), .long (lN (f 6)), .int (nI (f 7)), .int (nI (f 8))])
  else if k = 2 then .inl (3, 10, .inr (fun i => if i < 10 then some (ndA b i) else none))
  else if k = 3 then .inr (3, [.ref (a + 1), .ref (a + 4), .ref (a + 7), .ref (a + 8), .int (nI (f 4)), .int (nI (f 5)), .int (nI (f 6))])
  else if k = 4 then spO a (f 2)
  else if k = 7 then spO a (f 2)
  else if k = 12 then .inr (1, [.int (nI (f 0)), .int (nI (f 1)), .int (nI (f 2)), .ref (a + 1), .int (nI (f 4)), .int (nI (f 5)), .int (nI (f 6)), .int (nI (f 7)), .int (nI (f 8)), .int (nI (f 9))])
  else if k = 13 then rN 4 f
  else if k = 14 then .inl (4, 20, .inr (fun i => if i < 20 then some (lkA b i) else none))
  else r8 f
abbrev nC : Type := Nat → Nat → Nat → Nat
def upK (C : nC) (k v : Nat) (f : Nat → Nat) : nC := fun k' v' => if k' = k ∧ v' = v then f else C k' v'
theorem upK_same (C : nC) (k v : Nat) (f : Nat → Nat) : upK C k v f k v = f := by simp [upK]
theorem upK_k {C : nC} {k v k' v' : Nat} {f : Nat → Nat} (h : k' ≠ k) : upK C k v f k' v' = C k' v' := by simp [upK, h]
theorem upK_v {C : nC} {k v k' v' : Nat} {f : Nat → Nat} (h : v' ≠ v) : upK C k v f k' v' = C k' v' := by simp [upK, h]
theorem upK_upK (C : nC) (k v : Nat) (f f' : Nat → Nat) : upK (upK C k v f) k v f' = upK C k v f' := by
  funext k' v'
  unfold upK
  split <;> rfl
def NH (h : aH) (b : Nat) (C : nC) : aH := (h.1, h.2.1, fun q => if b ≤ q ∧ q < b + 134 then some (cell b (kO (q - b)).1 q (C (kO (q - b)).1 (kO (q - b)).2)) else h.2.2 q)
section NH
variable {h : aH} {b : Nat} {C : nC}
theorem NH_out {q : Nat} (hq : q < b ∨ b + 134 ≤ q) : hget (NH h b C) q = hget h q := by
  unfold NH hget
  dsimp only
  rw [if_neg (by omega)]
theorem NH_at {o k v : Nat} (ho : o < 134) (hk : kO o = (k, v)) : hget (NH h b C) (b + o) = some (cell b k (b + o) (C k v)) := by
  unfold NH hget
  dsimp only
  rw [if_pos (by omega), show b + o - b = o from by omega, hk]
theorem NH_put {o k v : Nat} {f : Nat → Nat} (ho : o < 134) (hk : kO o = (k, v)) (hu : ∀ o', o' < 134 → kO o' = (k, v) → o' = o) : hset (NH h b C) (b + o) (cell b k (b + o) f) = NH h b (upK C k v f) := by
  refine aH_ext rfl rfl ?_
  funext q
  unfold NH hset
  dsimp only
  by_cases c : q = b + o
  · subst c
    rw [if_pos rfl, if_pos (by omega), show b + o - b = o from by omega, hk]
    dsimp only
    rw [upK_same]
  · rw [if_neg c]
    by_cases c2 : b ≤ q ∧ q < b + 134
    · rw [if_pos c2, if_pos c2]
      have hne : ¬ ((kO (q - b)).1 = k ∧ (kO (q - b)).2 = v) := by
        intro e
        have := hu (q - b) (by omega) (Prod.ext e.1 e.2)
        omega
      unfold upK
      rw [if_neg hne]
    · rw [if_neg c2, if_neg c2]
theorem kO_n {v r : Nat} (hv : v < 10) (hr : r < 9) : kO (3 + 9 * v + r) = (3 + r, v) := by
  unfold kO
  rw [if_neg (by omega), if_pos (by omega)]
  exact Prod.ext (by dsimp only; omega) (by dsimp only; omega)
theorem kO_l {l r : Nat} (hl : l < 20) (hr : r < 2) : kO (94 + 2 * l + r) = (12 + r, l) := by
  unfold kO
  rw [if_neg (by omega), if_neg (by omega), if_neg (by omega)]
  exact Prod.ext (by dsimp only; omega) (by dsimp only; omega)
theorem kO_u {o k v : Nat} (ho : o < 134) (h : kO o = (k, v)) : (k < 3 → o = k) ∧ (3 ≤ k → k < 12 → o = 3 + 9 * v + (k - 3)) ∧ (12 ≤ k → k < 14 → o = 94 + 2 * v + (k - 12)) := by
  unfold kO at h
  split at h
  · injection h with h1 h2; omega
  · split at h
    · injection h with h1 h2; omega
    · split at h
      · injection h with h1 h2; omega
      · injection h with h1 h2; omega
theorem NH_0 : hget (NH h b C) b = some (.inr (2, [.int (nI (C 0 0 0)), .ref (b + 1), .int (nI (C 0 0 2)), .ref (b + 2), .int (nI (C 0 0 4)), .ref (b + 93), .long (lN (C 0 0 6)), .int (nI (C 0 0 7)), .int (nI (C 0 0 8))])) := NH_at (o := 0) (k := 0) (v := 0) (by decide) (by decide)
theorem NH_1 : hget (NH h b C) (b + 1) = some (r8 (C 1 0)) := NH_at (o := 1) (k := 1) (v := 0) (by decide) (by decide)
theorem NH_2 : hget (NH h b C) (b + 2) = some (.inl (3, 10, .inr (fun i => if i < 10 then some (ndA b i) else none))) := NH_at (o := 2) (k := 2) (v := 0) (by decide) (by decide)
theorem NH_93 : hget (NH h b C) (b + 93) = some (.inl (4, 20, .inr (fun i => if i < 20 then some (lkA b i) else none))) := NH_at (o := 93) (k := 14) (v := 0) (by decide) (by decide)
theorem NH_nr {v : Nat} (r : Nat) (hv : v < 10) (hr : r < 9) : hget (NH h b C) (ndA b v + r) = some (cell b (3 + r) (ndA b v + r) (C (3 + r) v)) := by
  have := NH_at (h := h) (b := b) (C := C) (show 3 + 9 * v + r < 134 by omega) (kO_n hv hr)
  rw [show b + (3 + 9 * v + r) = ndA b v + r from by unfold ndA; omega] at this
  exact this
theorem NH_lr {l : Nat} (r : Nat) (hl : l < 20) (hr : r < 2) : hget (NH h b C) (lkA b l + r) = some (cell b (12 + r) (lkA b l + r) (C (12 + r) l)) := by
  have := NH_at (h := h) (b := b) (C := C) (show 94 + 2 * l + r < 134 by omega) (kO_l hl hr)
  rw [show b + (94 + 2 * l + r) = lkA b l + r from by unfold lkA; omega] at this
  exact this
theorem NH_n {v : Nat} (hv : v < 10) : hget (NH h b C) (ndA b v) = some (.inr (3, [.ref (ndA b v + 1), .ref (ndA b v + 4), .ref (ndA b v + 7), .ref (ndA b v + 8), .int (nI (C 3 v 4)), .int (nI (C 3 v 5)), .int (nI (C 3 v 6))])) := NH_nr 0 hv (by decide)
theorem NH_h {v : Nat} (hv : v < 10) : SP (NH h b C) (ndA b v + 1) (C 4 v 2) (C 5 v) (C 6 v) := ⟨NH_nr 1 hv (by decide), NH_nr 2 hv (by decide), NH_nr 3 hv (by decide)⟩
theorem NH_s {v : Nat} (hv : v < 10) : SP (NH h b C) (ndA b v + 4) (C 7 v 2) (C 8 v) (C 9 v) := ⟨NH_nr 4 hv (by decide), NH_nr 5 hv (by decide), NH_nr 6 hv (by decide)⟩
theorem NH_h0 {v : Nat} (hv : v < 10) : hget (NH h b C) (ndA b v + 1) = some (.inr (4, [.ref (ndA b v + 1 + 1), .ref (ndA b v + 1 + 2), .int (nI (C 4 v 2))])) := (NH_h hv).1
theorem NH_s0 {v : Nat} (hv : v < 10) : hget (NH h b C) (ndA b v + 4) = some (.inr (4, [.ref (ndA b v + 4 + 1), .ref (ndA b v + 4 + 2), .int (nI (C 7 v 2))])) := (NH_s hv).1
theorem NH_v {v : Nat} (hv : v < 10) : hget (NH h b C) (ndA b v + 7) = some (r8 (C 10 v)) := NH_nr 7 hv (by decide)
theorem NH_p {v : Nat} (hv : v < 10) : hget (NH h b C) (ndA b v + 8) = some (r8 (C 11 v)) := NH_nr 8 hv (by decide)
theorem NH_l {l : Nat} (hl : l < 20) : hget (NH h b C) (lkA b l) = some (.inr (1, [.int (nI (C 12 l 0)), .int (nI (C 12 l 1)), .int (nI (C 12 l 2)), .ref (lkA b l + 1), .int (nI (C 12 l 4)), .int (nI (C 12 l 5)), .int (nI (C 12 l 6)), .int (nI (C 12 l 7)), .int (nI (C 12 l 8)), .int (nI (C 12 l 9))])) := NH_lr 0 hl (by decide)
theorem NH_f {l : Nat} (hl : l < 20) : hget (NH h b C) (lkA b l + 1) = some (rN 4 (C 13 l)) := NH_lr 1 hl (by decide)
theorem NH_pn {v : Nat} (r : Nat) (f : Nat → Nat) (hv : v < 10) (hr : r < 9) : hset (NH h b C) (ndA b v + r) (cell b (3 + r) (ndA b v + r) f) = NH h b (upK C (3 + r) v f) := by
  have := NH_put (h := h) (b := b) (C := C) (f := f) (show 3 + 9 * v + r < 134 by omega) (kO_n hv hr) (fun o' ho' e => by have := kO_u ho' e; omega)
  rw [show b + (3 + 9 * v + r) = ndA b v + r from by unfold ndA; omega] at this
  exact this
theorem NH_pl {l : Nat} (r : Nat) (f : Nat → Nat) (hl : l < 20) (hr : r < 2) : hset (NH h b C) (lkA b l + r) (cell b (12 + r) (lkA b l + r) f) = NH h b (upK C (12 + r) l f) := by
  have := NH_put (h := h) (b := b) (C := C) (f := f) (show 94 + 2 * l + r < 134 by omega) (kO_l hl hr) (fun o' ho' e => by have := kO_u ho' e; omega)
  rw [show b + (94 + 2 * l + r) = lkA b l + r from by unfold lkA; omega] at this
  exact this
/-- seven, nine, ten numbers of an object -/
def w3 (a b c : Nat) : Nat → Nat := fun i => if i = 4 then a else if i = 5 then b else if i = 6 then c else 0
def w9 (a c e g i k : Nat) : Nat → Nat := fun q => if q = 0 then a else if q = 2 then c else if q = 4 then e else if q = 6 then g else if q = 7 then i else if q = 8 then k else 0
def w10 (a b c e f g i j k : Nat) : Nat → Nat := fun q => if q = 0 then a else if q = 1 then b else if q = 2 then c else if q = 4 then e else if q = 5 then f else if q = 6 then g else if q = 7 then i else if q = 8 then j else if q = 9 then k else 0
def w2 (a : Nat) : Nat → Nat := fun i => if i = 2 then a else 0
theorem NH_sn {v : Nat} {x y z : Nat} (hv : v < 10) : hset (NH h b C) (ndA b v) (.inr (3, [.ref (ndA b v + 1), .ref (ndA b v + 4), .ref (ndA b v + 7), .ref (ndA b v + 8), .int (nI x), .int (nI y), .int (nI z)])) = NH h b (upK C 3 v (w3 x y z)) := NH_pn 0 (w3 x y z) hv (by decide)
theorem NH_sv {v : Nat} {f : Nat → Nat} (hv : v < 10) : hset (NH h b C) (ndA b v + 7) (r8 f) = NH h b (upK C 10 v f) := NH_pn 7 f hv (by decide)
theorem NH_sp {v : Nat} {f : Nat → Nat} (hv : v < 10) : hset (NH h b C) (ndA b v + 8) (r8 f) = NH h b (upK C 11 v f) := NH_pn 8 f hv (by decide)
theorem NH_sh {v s : Nat} {L P : Nat → Nat} (hv : v < 10) : sSet (NH h b C) (ndA b v + 1) s L P = NH h b (upK (upK (upK C 4 v (w2 s)) 5 v L) 6 v P) := by
  unfold sSet
  rw [show hset (NH h b C) (ndA b v + 1) (spO (ndA b v + 1) s) = NH h b (upK C 4 v (w2 s)) from NH_pn 1 (w2 s) hv (by decide)]
  rw [show ∀ C, hset (NH h b C) (ndA b v + 1 + 1) (r8 L) = NH h b (upK C 5 v L) from fun C => NH_pn 2 L hv (by decide)]
  exact NH_pn 3 P hv (by decide)
theorem NH_ss {v s : Nat} {L P : Nat → Nat} (hv : v < 10) : sSet (NH h b C) (ndA b v + 4) s L P = NH h b (upK (upK (upK C 7 v (w2 s)) 8 v L) 9 v P) := by
  unfold sSet
  rw [show hset (NH h b C) (ndA b v + 4) (spO (ndA b v + 4) s) = NH h b (upK C 7 v (w2 s)) from NH_pn 4 (w2 s) hv (by decide)]
  rw [show ∀ C, hset (NH h b C) (ndA b v + 4 + 1) (r8 L) = NH h b (upK C 8 v L) from fun C => NH_pn 5 L hv (by decide)]
  exact NH_pn 6 P hv (by decide)
theorem NH_sl {l x0 x1 x2 x4 x5 x6 x7 x8 x9 : Nat} (hl : l < 20) : hset (NH h b C) (lkA b l) (.inr (1, [.int (nI x0), .int (nI x1), .int (nI x2), .ref (lkA b l + 1), .int (nI x4), .int (nI x5), .int (nI x6), .int (nI x7), .int (nI x8), .int (nI x9)])) = NH h b (upK C 12 l (w10 x0 x1 x2 x4 x5 x6 x7 x8 x9)) := NH_pl 0 (w10 x0 x1 x2 x4 x5 x6 x7 x8 x9) hl (by decide)
theorem NH_sf {l : Nat} {f : Nat → Nat} (hl : l < 20) : hset (NH h b C) (lkA b l + 1) (rN 4 f) = NH h b (upK C 13 l f) := NH_pl 1 f hl (by decide)
theorem NH_so {x0 x2 x4 x6 x7 x8 : Nat} : hset (NH h b C) b (.inr (2, [.int (nI x0), .ref (b + 1), .int (nI x2), .ref (b + 2), .int (nI x4), .ref (b + 93), .long (lN x6), .int (nI x7), .int (nI x8)])) = NH h b (upK C 0 0 (w9 x0 x2 x4 x6 x7 x8)) := NH_put (o := 0) (k := 0) (v := 0) (f := w9 x0 x2 x4 x6 x7 x8) (by decide) (by decide) (fun o' ho' e => by have := kO_u ho' e; omega)
theorem NH_s1 {f : Nat → Nat} : hset (NH h b C) (b + 1) (r8 f) = NH h b (upK C 1 0 f) := NH_put (o := 1) (k := 1) (v := 0) (f := f) (by decide) (by decide) (fun o' ho' e => by have := kO_u ho' e; omega)
theorem al_nd {v : Nat} {α : Type} {K : Value → Option α} (hv : v < 10) : alQ (nI v) (some (.inl (3, 10, .inr (fun i => if i < 10 then some (ndA b i) else none)))) K = K (.ref (ndA b v)) := by
  rw [al_Q (Or.inl rfl) hv (by decide), if_pos hv]; rfl
theorem al_lk {l : Nat} {α : Type} {K : Value → Option α} (hl : l < 20) : alQ (nI l) (some (.inl (4, 20, .inr (fun i => if i < 20 then some (lkA b i) else none)))) K = K (.ref (lkA b l)) := by
  rw [al_Q (Or.inr (Or.inl rfl)) hl (by decide), if_pos hl]; rfl
end NH
