/-! what ties the abstract machine to the machine: locals, heap, what a method may lean on -/
def aCl (ls : List Value) (k : Nat) (v : Value) : Prop := (∃ x, v = .int x ∧ ls[k]? = some v) ∨ (∃ x, v = .ref x ∧ ls[k]? = some v) ∨ (∃ x, v = .long x ∧ ls[k]? = some v ∧ ls[k + 1]? = some (.retAddr 0))
def clm (ls : List Value) : List (Nat × Value) := (List.range ls.length).filterMap (fun (k : Nat) => match ls[k]? with
  | some (.int x) => some (k, .int x)
  | some (.ref x) => some (k, .ref x)
  | some (.long x) => if ls[k + 1]? = some (.retAddr 0) then some (k, .long x) else none
  | _ => none)
theorem mem_clm {ls : List Value} {q : Nat × Value} : q ∈ clm ls ↔ aCl ls q.1 q.2 := by
  obtain ⟨k, v⟩ := q
  unfold clm aCl
  rw [List.mem_filterMap]
  constructor
  · rintro ⟨j, -, h⟩
    split at h
    · rename_i x hx
      cases h
      exact Or.inl ⟨x, rfl, hx⟩
    · rename_i x hx
      cases h
      exact Or.inr (Or.inl ⟨x, rfl, hx⟩)
    · rename_i x hx
      split at h
      · rename_i h2
        cases h
        exact Or.inr (Or.inr ⟨x, rfl, hx, h2⟩)
      · cases h
    · cases h
  · rintro (⟨x, rfl, h⟩ | ⟨x, rfl, h⟩ | ⟨x, rfl, h, h2⟩)
    · exact ⟨k, List.mem_range.mpr (List.getElem?_eq_some_iff.mp h).1, by simp only [h]⟩
    · exact ⟨k, List.mem_range.mpr (List.getElem?_eq_some_iff.mp h).1, by simp only [h]⟩
    · exact ⟨k, List.mem_range.mpr (List.getElem?_eq_some_iff.mp h).1, by simp only [h]; rw [if_pos h2]⟩
def lsR (n : Nat) (ls : List Value) (lsr : Array Slot) : Prop := ls.length = n ∧ lv_has lsr n (clm ls)
theorem lv_mono {lsr : Array Slot} {n : Nat} {l l' : List (Nat × Value)} (h : lv_has lsr n l) (hm : ∀ q ∈ l', q ∈ l) : lv_has lsr n l' := ⟨h.1, h.2.1, fun q hq => h.2.2 q (hm q hq)⟩
theorem lsR.at {n : Nat} {ls : List Value} {lsr : Array Slot} (h : lsR n ls lsr) {k : Nat} {v : Value} (hc : aCl ls k v) : lsr[k]? = some (.val v) := h.2.2.2 (k, v) (mem_clm.mpr hc)
theorem lsR.st1 {n : Nat} {ls : List Value} {lsr : Array Slot} {i : Nat} {v : Value} (hn : ls.length = n) (hi : i < n) (hv : (∃ x, v = .int x) ∨ ∃ x, v = .ref x) (h : lv_has lsr n ((i, v) :: (clm ls).filter (fun q => !(q.1 == i) && !(q.1 + 1 == i && q.2.category == 2)))) : lsR n (ls.set i v) lsr := by
  refine ⟨by rw [List.length_set]; exact hn, lv_mono h ?_⟩
  rintro ⟨k, w⟩ hq
  have hq := mem_clm.mp hq
  dsimp only at hq
  by_cases hk : k = i
  · subst hk
    have e : (ls.set k v)[k]? = some v := List.getElem?_set_self (by omega)
    have : w = v := by
      rcases hq with ⟨x, -, h2⟩ | ⟨x, -, h2⟩ | ⟨x, -, h2, -⟩ <;> exact (Option.some.inj (e.symm.trans h2)).symm
    subst this
    exact List.mem_cons_self
  · have e : (ls.set i v)[k]? = ls[k]? := List.getElem?_set_ne (Ne.symm hk)
    refine List.mem_cons_of_mem _ (List.mem_filter.mpr ?_)
    rcases hq with ⟨x, rfl, h2⟩ | ⟨x, rfl, h2⟩ | ⟨x, rfl, h2, h3⟩
    · rw [e] at h2
      exact ⟨mem_clm.mpr (Or.inl ⟨x, rfl, h2⟩), by simp [hk, Value.category]⟩
    · rw [e] at h2
      exact ⟨mem_clm.mpr (Or.inr (Or.inl ⟨x, rfl, h2⟩)), by simp [hk, Value.category]⟩
    · rw [e] at h2
      have hk1 : ¬ k + 1 = i := by
        intro q
        subst q
        rw [List.getElem?_set_self (by omega)] at h3
        rcases hv with ⟨y, rfl⟩ | ⟨y, rfl⟩ <;> cases h3
      rw [List.getElem?_set_ne (Ne.symm hk1)] at h3
      exact ⟨mem_clm.mpr (Or.inr (Or.inr ⟨x, rfl, h2, h3⟩)), by simp [hk, hk1]⟩
theorem lsR.st2 {n : Nat} {ls : List Value} {lsr : Array Slot} {i : Nat} {z : Int64} (hn : ls.length = n) (hi : i + 1 < n) (h : lv_has lsr n ((i, Value.long z) :: (clm ls).filter (fun q => !(q.1 == i) && (!(q.1 == i + 1) && !(q.1 + 1 == i && q.2.category == 2))))) : lsR n ((ls.set i (.long z)).set (i + 1) (.retAddr 0)) lsr := by
  refine ⟨by rw [List.length_set, List.length_set]; exact hn, lv_mono h ?_⟩
  rintro ⟨k, w⟩ hq
  have hq := mem_clm.mp hq
  dsimp only at hq
  have e1 : ((ls.set i (.long z)).set (i + 1) (.retAddr 0))[i + 1]? = some (.retAddr 0) := List.getElem?_set_self (by rw [List.length_set]; omega)
  have e0 : ((ls.set i (.long z)).set (i + 1) (.retAddr 0))[i]? = some (.long z) := by
    rw [List.getElem?_set_ne (by omega), List.getElem?_set_self (by omega)]
  have en : ∀ j, j ≠ i → j ≠ i + 1 → ((ls.set i (.long z)).set (i + 1) (.retAddr 0))[j]? = ls[j]? := fun j h1 h2 => by
    rw [List.getElem?_set_ne (Ne.symm h2), List.getElem?_set_ne (Ne.symm h1)]
  by_cases hk : k = i
  · subst hk
    have : w = .long z := by
      rcases hq with ⟨x, -, h2⟩ | ⟨x, -, h2⟩ | ⟨x, -, h2, -⟩ <;> exact (Option.some.inj (e0.symm.trans h2)).symm
    subst this
    exact List.mem_cons_self
  · by_cases hk1 : k = i + 1
    · subst hk1
      exfalso
      rcases hq with ⟨x, rfl, h2⟩ | ⟨x, rfl, h2⟩ | ⟨x, rfl, h2, -⟩ <;> (rw [e1] at h2; cases h2)
    · refine List.mem_cons_of_mem _ (List.mem_filter.mpr ?_)
      rcases hq with ⟨x, rfl, h2⟩ | ⟨x, rfl, h2⟩ | ⟨x, rfl, h2, h3⟩
      · rw [en k hk hk1] at h2
        exact ⟨mem_clm.mpr (Or.inl ⟨x, rfl, h2⟩), by simp [hk, hk1, Value.category]⟩
      · rw [en k hk hk1] at h2
        exact ⟨mem_clm.mpr (Or.inr (Or.inl ⟨x, rfl, h2⟩)), by simp [hk, hk1, Value.category]⟩
      · rw [en k hk hk1] at h2
        have hk2 : ¬ k + 1 = i := by
          intro q
          rw [q, e0] at h3
          cases h3
        rw [en (k + 1) hk2 (by omega)] at h3
        exact ⟨mem_clm.mpr (Or.inr (Or.inr ⟨x, rfl, h2, h3⟩)), by simp [hk, hk1, hk2]⟩
theorem aCl_succ {x : Value} {xs : List Value} {k : Nat} {v : Value} (h : aCl (x :: xs) (k + 1) v) : aCl xs k v := by
  rcases h with ⟨y, h1, h2⟩ | ⟨y, h1, h2⟩ | ⟨y, h1, h2, h3⟩
  · exact Or.inl ⟨y, h1, by simpa using h2⟩
  · exact Or.inr (Or.inl ⟨y, h1, by simpa using h2⟩)
  · exact Or.inr (Or.inr ⟨y, h1, by simpa using h2, by simpa using h3⟩)
theorem aCl_head {x : Value} {xs : List Value} {v : Value} (h : aCl (x :: xs) 0 v) : v = x := by
  rcases h with ⟨y, h1, h2⟩ | ⟨y, h1, h2⟩ | ⟨y, h1, h2, h3⟩ <;> simpa using h2.symm
theorem aCl_nulls {m k : Nat} {v : Value} (h : aCl (List.replicate m .null) k v) : False := by
  have key : ∀ w : Value, (List.replicate m Value.null)[k]? = some w → w = .null := fun w hw => (List.mem_replicate.mp (List.mem_of_getElem? hw)).2
  rcases h with ⟨y, rfl, h2⟩ | ⟨y, rfl, h2⟩ | ⟨y, rfl, h2, -⟩ <;> cases key _ h2
theorem aSl_args : ∀ (vs : List Value) (m i k : Nat) (v : Value), aCl (aSl vs ++ List.replicate m .null) k v → (i + k, v) ∈ lv_args i vs := by
  intro vs
  induction vs with
  | nil => intro m i k v h; exact (aCl_nulls (by simpa [aSl] using h)).elim
  | cons v0 vs ih =>
    intro m i k v h
    unfold aSl at h
    unfold lv_args
    by_cases hc : v0.category = 2
    · rw [if_pos hc] at h ⊢
      match k, h with
      | 0, h => rw [aCl_head h]; exact List.mem_cons_self
      | 1, h =>
        have h := aCl_head (aCl_succ h)
        exfalso
        rename_i h0
        rcases h0 with ⟨y, h1, -⟩ | ⟨y, h1, -⟩ | ⟨y, h1, -⟩ <;> rw [h] at h1 <;> cases h1
      | k + 2, h =>
        have := ih m (i + 2) k v (aCl_succ (aCl_succ h))
        rw [show i + (k + 2) = i + 2 + k by omega]
        exact List.mem_cons_of_mem _ this
    · rw [if_neg hc] at h ⊢
      match k, h with
      | 0, h => rw [aCl_head h]; exact List.mem_cons_self
      | k + 1, h =>
        have := ih m (i + 1) k v (aCl_succ h)
        rw [show i + (k + 1) = i + 1 + k by omega]
        exact List.mem_cons_of_mem _ this
theorem lg_aSl (vs : List Value) : (lg_sl vs).length = (aSl vs).length := by
  induction vs with
  | nil => rfl
  | cons v vs ih =>
    unfold aSl lg_sl
    rw [List.flatMap_cons, List.length_append]
    have e : (List.flatMap (fun v => if v.category = 2 then [Slot.val v, .second] else [.val v]) vs).length = (aSl vs).length := ih
    by_cases hc : v.category = 2
    · simp only [hc, if_true, List.length_cons, List.length_nil, e]; omega
    · simp only [hc, if_false, List.length_cons, List.length_nil, e]; omega
theorem lsR.entry {n : Nat} {vs : List Value} (h : (aSl vs).length ≤ n) : lsR n (aEnt n vs) ((lg_sl vs ++ List.replicate (n - (lg_sl vs).length) Slot.unset).toArray) := by
  refine ⟨by simp [aEnt]; omega, lv_mono (lv_entry vs (by rw [lg_aSl]; exact h)) ?_⟩
  rintro ⟨k, v⟩ hq
  have := aSl_args vs _ 0 k v (mem_clm.mp hq)
  simpa using this
/-- the classes of arrays -/
def aTy (K : Nat → ClassId) : List (ClassId × FieldType) := [(K 0, .int), (K 1, .boolean), (K 2, .char), (K 3, .object "CodedRelays$Node"), (K 4, .object "CodedRelays$Link"), (K 5, .object "CodedRelays$Network")]
def toE (K : Nat → ClassId) (c : aC) : va_E := match c with
  | .inl (t, n, .inl f) => .inl (K t, n, .inl f)
  | .inl (t, n, .inr f) => .inl (K t, n, .inr (.inr (.inr (.inr f))))
  | .inr o => .inr o
def isRO (c : aC) : Bool := match c with
  | .inl (t, _) => t == 9
  | .inr _ => false
def aAt (base : Nat) (D : va_G) (K : Nat → ClassId) (U : State) (H : Heap) (a : Nat) (c : aC) : Prop :=
  (isRO c = true ∧ a < base ∧ ∃ n f, c = .inl (9, n, .inl f) ∧ va_X a n f U H) ∨ (isRO c = false ∧ base ≤ a ∧ va_at D vwCl (a, toE K c) H)
def aHp (base : Nat) (D : va_G) (K : Nat → ClassId) (U : State) (h : aH) (H : Heap) : Prop :=
  h.1 = H.size ∧ base ≤ h.1 ∧ ∀ a c, hget h a = some c → aAt base D K U H a c
theorem aAt.kept {base : Nat} {D : va_G} {K : Nat → ClassId} {U : State} {H H1 : Heap} {a : Nat} {c : aC} (h : aAt base D K U H a c) (hq : H1[a]? = H[a]?) : aAt base D K U H1 a c := by
  rcases h with ⟨h1, h2, n, f, h3, h4⟩ | ⟨h1, h2, h3⟩
  · exact Or.inl ⟨h1, h2, n, f, h3, h4.kept hq⟩
  · exact Or.inr ⟨h1, h2, h3.kept hq⟩
theorem aAt.lt {base : Nat} {D : va_G} {K : Nat → ClassId} {U : State} {H : Heap} {a : Nat} {c : aC} (h : aAt base D K U H a c) : a < H.size := by
  rcases h with ⟨h1, h2, n, f, h3, scr, h4, -⟩ | ⟨h1, h2, h3⟩
  · exact (Array.getElem?_eq_some_iff.mp h4).1
  · exact h3.lt
theorem aHp.moved {base : Nat} {D : va_G} {K : Nat → ClassId} {u U : State} {h : aH} {H : Heap} (hvm : u.vm.Alike U.vm) (hh : aHp base D K u h H) : aHp base D K U h H := by
  refine ⟨hh.1, hh.2.1, fun a c hc => ?_⟩
  rcases hh.2.2 a c hc with ⟨h1, h2, n, f, h3, h4⟩ | h1
  · exact Or.inl ⟨h1, h2, n, f, h3, h4.moved hvm⟩
  · exact Or.inr h1
theorem aHp.set {base : Nat} {D : va_G} {K : Nat → ClassId} {U : State} {h : aH} {H H1 : Heap} {a : Nat} {c : aC} (hh : aHp base D K U h H) (z : H1.size = H.size) (oq : ∀ q : Nat, q ≠ a → H1[q]? = H[q]?) (hb : base ≤ a) (hr : isRO c = false) (hc : va_at D vwCl (a, toE K c) H1) : aHp base D K U (hset h a c) H1 := by
  refine ⟨hh.1.trans z.symm, hh.2.1, fun q x hx => ?_⟩
  unfold hset hget at hx
  dsimp only at hx
  by_cases hq : q = a
  · rw [if_pos hq] at hx
    cases hx
    subst hq
    exact Or.inr ⟨hr, hb, hc⟩
  · rw [if_neg hq] at hx
    exact (hh.2.2 q x hx).kept (oq q hq)
theorem aHp.new {base n : Nat} {D : va_G} {K : Nat → ClassId} {U : State} {h : aH} {H H1 : Heap} {c : aC} (hh : aHp base D K U h H) (z : H1.size = H.size + 1) (oq : ∀ q : Nat, q < H.size → H1[q]? = H[q]?) (hr : isRO c = false) (hc : va_at D vwCl (H.size, toE K c) H1) : aHp base D K U (hnew h n c) H1 := by
  refine ⟨by show h.1 + 1 = H1.size; rw [z, hh.1], Nat.le_trans hh.2.1 (Nat.le_succ _), fun q x hx => ?_⟩
  unfold hnew hget at hx
  dsimp only at hx
  by_cases hq : q = h.1
  · rw [if_pos hq] at hx
    cases hx
    rw [hq, hh.1]
    exact Or.inr ⟨hr, by rw [← hh.1]; exact hh.2.1, hc⟩
  · rw [if_neg hq] at hx
    have h1 := hh.2.2 q x hx
    exact h1.kept (oq q h1.lt)
/-- the words that aren't handed on by the kit's way -/
def isNw (w : Cond) : Bool := match w with
  | .fieldLinkNest .. => true
  | .methodLinkNest .. => true
  | .arrayOver (.object _) => true
  | _ => false
def aNw (U : State) : Prop := ∀ w ∈ lw_tbl, isNw w = true → va_Nw w U
theorem aNw.warm {s U : State} (hW : s.WarmedH U.vm) (h : aNw s) : aNw U := by
  intro w hw hn
  have h1 := h w hw hn
  unfold isNw at hn
  split at hn
  · exact va_Nw.warmF hW h1
  · exact va_Nw.warmM hW h1
  · exact va_AO.moved hW.alike h1
  · cases hn
/-- what a method may lean on -/
def aCx (D : va_G) (K : Nat → ClassId) (f : Nat) (p : Program) (R : Room) (s : State) (m : MethodId) (args : Array Value) (meth : Method) (c : Code) : Prop :=
  p.tables.exec = Jvm.exec ∧ c.code = cd f ∧ c.maxLocals = mL f ∧ s.vm.findClass (cS (cN f)) = some m.cls ∧ (∀ w ∈ gwT, w.before args s = true) ∧ aNw s ∧ ((yN f).name = "<init>" → meth.name = "<init>") ∧ va_K D vwCl (aTy K) s ∧ fRm f ≤ R.frames ∧ lRm f ≤ R.locals
def aGo (base : Nat) (D : va_G) (K : Nat → ClassId) (f : Nat) (p : Program) (l : Launch) (e : Env) (R : Room) (s : State) (m : MethodId) (args : Array Value) (below : List Frame) (meth : Method) (c : Code) (Q : State → Prop) (cells slots pc : Nat) (ls st : List Value) (h : aH) : Prop :=
  ∀ (lsr : Array Slot) (H : Heap) (locs : List Loc), lsR (mL f) ls lsr → aHp base D K s h H → va_S (fun q => base ≤ q) s.heap H locs → W p l e R s m args below meth c H locs cells slots Q (F0 m pc lsr st)
/-- a step that makes nothing: h stays; and one that moves the heap -/
def aMv (f pc : Nat) (ls st : List Value) (h : aH) (q : aG) : Prop := h.1 ≤ q.2.2.2.1 ∧ h.2.1 ≤ q.2.2.2.2.1 ∧
  ∀ (base : Nat) (D : va_G) (K : Nat → ClassId) (p : Program) (l : Launch) (e : Env) (R : Room) (s : State) (m : MethodId) (args : Array Value) (below : List Frame) (meth : Method) (c : Code) (Q : State → Prop) (cells slots : Nat), aCx D K f p R s m args meth c → base ≤ s.heap.size → cells + (q.2.2.2.1 - h.1) ≤ R.cells → slots + (q.2.2.2.2.1 - h.2.1) ≤ R.slots →
    aGo base D K f p l e R s m args below meth c Q (cells + (q.2.2.2.1 - h.1)) (slots + (q.2.2.2.2.1 - h.2.1)) q.1 q.2.1 q.2.2.1 q.2.2.2 → aGo base D K f p l e R s m args below meth c Q cells slots pc ls st h
theorem aMv_p {f pc pc' : Nat} {ls st st' : List Value} {h : aH} (k : ∀ (base : Nat) (D : va_G) (K : Nat → ClassId) (p : Program) (l : Launch) (e : Env) (R : Room) (s : State) (m : MethodId) (args : Array Value) (below : List Frame) (meth : Method) (c : Code) (Q : State → Prop) (cells slots : Nat) (lsr : Array Slot) (H : Heap) (locs : List Loc), aCx D K f p R s m args meth c → lsR (mL f) ls lsr → aHp base D K s h H → W p l e R s m args below meth c H locs cells slots Q (F0 m pc' lsr st') → W p l e R s m args below meth c H locs cells slots Q (F0 m pc lsr st)) : aMv f pc ls st h (pc', ls, st', h) := by
  refine ⟨Nat.le_refl _, Nat.le_refl _, fun base D K p l e R s m args below meth c Q cells slots cx hbs _ _ kk lsr H locs hl hh hS => ?_⟩
  have h1 := kk lsr H locs hl hh hS
  dsimp only at h1
  rw [Nat.sub_self, Nat.sub_self, Nat.add_zero, Nat.add_zero] at h1
  exact k base D K p l e R s m args below meth c Q cells slots lsr H locs cx hl hh h1
theorem aMv_l {f pc pc' : Nat} {ls ls' st st' : List Value} {h : aH} (k : ∀ (base : Nat) (D : va_G) (K : Nat → ClassId) (p : Program) (l : Launch) (e : Env) (R : Room) (s : State) (m : MethodId) (args : Array Value) (below : List Frame) (meth : Method) (c : Code) (Q : State → Prop) (cells slots : Nat) (lsr : Array Slot) (H : Heap) (locs : List Loc), aCx D K f p R s m args meth c → lsR (mL f) ls lsr → aHp base D K s h H → (∀ lsr', lsR (mL f) ls' lsr' → W p l e R s m args below meth c H locs cells slots Q (F0 m pc' lsr' st')) → W p l e R s m args below meth c H locs cells slots Q (F0 m pc lsr st)) : aMv f pc ls st h (pc', ls', st', h) := by
  refine ⟨Nat.le_refl _, Nat.le_refl _, fun base D K p l e R s m args below meth c Q cells slots cx hbs _ _ kk lsr H locs hl hh hS => ?_⟩
  refine k base D K p l e R s m args below meth c Q cells slots lsr H locs cx hl hh fun lsr' hl' => ?_
  have h1 := kk lsr' H locs hl' hh hS
  dsimp only at h1
  rw [Nat.sub_self, Nat.sub_self, Nat.add_zero, Nat.add_zero] at h1
  exact h1
theorem aMv_h {f pc pc' : Nat} {ls st st' : List Value} {h h' : aH} (e1 : h'.1 = h.1) (e2 : h'.2.1 = h.2.1) (k : ∀ (base : Nat) (D : va_G) (K : Nat → ClassId) (p : Program) (l : Launch) (e : Env) (R : Room) (s : State) (m : MethodId) (args : Array Value) (below : List Frame) (meth : Method) (c : Code) (Q : State → Prop) (cells slots : Nat) (lsr : Array Slot) (H : Heap) (locs : List Loc), aCx D K f p R s m args meth c → lsR (mL f) ls lsr → aHp base D K s h H → va_S (fun q => base ≤ q) s.heap H locs → (∀ H1 locs1, aHp base D K s h' H1 → va_S (fun q => base ≤ q) s.heap H1 locs1 → W p l e R s m args below meth c H1 locs1 cells slots Q (F0 m pc' lsr st')) → W p l e R s m args below meth c H locs cells slots Q (F0 m pc lsr st)) : aMv f pc ls st h (pc', ls, st', h') := by
  refine ⟨by rw [e1]; exact Nat.le_refl _, by rw [e2]; exact Nat.le_refl _, fun base D K p l e R s m args below meth c Q cells slots cx hbs _ _ kk lsr H locs hl hh hS => ?_⟩
  refine k base D K p l e R s m args below meth c Q cells slots lsr H locs cx hl hh hS fun H1 locs1 hh1 hS1 => ?_
  have h1 := kk lsr H1 locs1 hl hh1 hS1
  dsimp only at h1
  rw [e1, e2, Nat.sub_self, Nat.sub_self, Nat.add_zero, Nat.add_zero] at h1
  exact h1
theorem pkG_mem {α : Type} {l : List ((Nat × Nat) × α × Nat)} {c i : Nat} {x : α} (h : pkG l c i = some x) : ∃ pl, ((c, i), x, pl) ∈ l := by
  unfold pkG at h
  cases hf : l.find? (fun q => q.1.1 == c && q.1.2 == i) with
  | none => rw [hf] at h; cases h
  | some q =>
    rw [hf] at h
    have h1 := List.find?_some hf
    have h2 := List.mem_of_find?_eq_some hf
    obtain ⟨⟨a, b⟩, y, pl⟩ := q
    simp only [Bool.and_eq_true, beq_iff_eq] at h1
    obtain ⟨rfl, rfl⟩ := h1
    cases h
    exact ⟨pl, h2⟩
theorem clAt {ci : Nat} (h : ci < 8) : vwCl[ci]? = some (cS ci, TXf ci, nFl.getD ci 0) := by
  match ci, h with
  | 0, _ => rfl
  | 1, _ => rfl
  | 2, _ => rfl
  | 3, _ => rfl
  | 4, _ => rfl
  | 5, _ => rfl
  | 6, _ => rfl
  | 7, _ => rfl
theorem clTy {ci : Nat} (h : ci < 8) : ∀ k, k < nFl.getD ci 0 → parseFieldDescriptor (TXf ci k).2.2.1 = some (tyXf ci k) := by
  match ci, h with
  | 0, _ => exact tyX0_ok
  | 1, _ => exact tyX1_ok
  | 2, _ => exact tyX2_ok
  | 3, _ => exact tyX3_ok
  | 4, _ => exact tyX4_ok
  | 5, _ => exact tyX5_ok
  | 6, _ => exact tyX6_ok
  | 7, _ => exact tyX7_ok
theorem clNm {ci : Nat} (h : ci < 8) : ∀ a, a < nFl.getD ci 0 → ∀ b, b < nFl.getD ci 0 → a ≠ b → (TXf ci a).2.1 ≠ (TXf ci b).2.1 := by
  match ci, h with
  | 0, _ => exact nmX0
  | 1, _ => exact nmX1
  | 2, _ => exact nmX2
  | 3, _ => exact nmX3
  | 4, _ => exact nmX4
  | 5, _ => exact nmX5
  | 6, _ => exact nmX6
  | 7, _ => exact nmX7
theorem clDecl {ci : Nat} (h : ci < 8) (k : Nat) : (TXf ci k).1 = cS ci := by
  match ci, h with
  | 0, _ => show (TX0 k).1 = _; unfold TX0; split <;> rfl
  | 1, _ => show (TX1 k).1 = _; unfold TX1; split <;> rfl
  | 2, _ => show (TX2 k).1 = _; unfold TX2; split <;> rfl
  | 3, _ => show (TX3 k).1 = _; unfold TX3; split <;> rfl
  | 4, _ => show (TX4 k).1 = _; unfold TX4; split <;> rfl
  | 5, _ => show (TX5 k).1 = _; unfold TX5; split <;> rfl
  | 6, _ => show (TX6 k).1 = _; unfold TX6; split <;> rfl
  | 7, _ => show (TX7 k).1 = _; unfold TX7; split <;> rfl
theorem clK {ci : Nat} (h : ci < 8) : Cond.initialized (cS ci) ∈ gwT ∧ Cond.instantiable (cS ci) (nFl.getD ci 0) ∈ gwT ∧ ∀ w ∈ u_ws (cS ci) (TXf ci) (nFl.getD ci 0), w ∈ gwT := by
  have h1 := List.all_eq_true.mp chK_ok ci (List.mem_range.mpr h)
  unfold chK at h1
  simp only [Bool.and_eq_true] at h1
  refine ⟨wAt_good h1.1.1 rfl, wAt_good h1.1.2 rfl, fun w hw => ?_⟩
  obtain ⟨k, hk, rfl⟩ := List.mem_map.mp hw
  refine wAt_good (List.all_eq_true.mp h1.2 k hk) ?_
  unfold u_lay
  split <;> rfl
