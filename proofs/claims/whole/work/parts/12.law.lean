/-! THE CLAIM OUT OF ONE WALK OF THE LAW'S BODY. Your part is whole_start (and what it stands on); all else here is the same for every law, but numbers. -/
def R_law : String := "CodedRelaysLaw"
def lw_P (b : Addr) (xs : List Int32) (args : Array Value) (s : State) : Prop := args = #[.ref b] ∧ s.IntsAt b xs ∧ xs.length ≤ 2048 ∧ (Jvm.Cond.and given_1 narrow_1).before args s = true
def lw_Q (_ : Array Value) (s : State) (o : Outcome) (t : State) : Prop := o = .returned (some (.int 1)) ∧ Framed s o t [] 600000 7302250
def lw_Z (below : List Frame) (a : Array Value) (s : State) : State → Prop := fun t => ∃ o, t.status = .running ∧ Ended t below o ∧ lw_Q a s o t
/-- the law's own end, with 1 on the stack, nothing written that was there before, its room as the claim has it -/
theorem lw_ret {p : Program} {l : Launch} {e : Env} {s : State} {m : MethodId} {below : List Frame} {meth : Method} {c : Code} {b : Nat} (hx : p.tables.exec = Jvm.exec) (hb : c.code = code) (hr : meth.sig.returnType = ret) (hlocks : meth.locks = false) {pc : Nat} {H : Heap} {ls : Array Slot} (hdg : decode code pc = .ok (.ireturn, 1)) : W p l e room_1 s m #[Value.ref b] below meth c H [] 600000 7302250 (lw_Z below #[Value.ref b] s) (F0 m pc ls [.int 1]) := by
  intro T hT X
  obtain ⟨fs, hret, hrun, hended, hW, hframe⟩ := X.leave (v := some (.int 1)) (hlocks := hlocks) (fun h => by rw [hr] at h; cases h)
  have hmeth' : T.vm.method? m = some meth := X.method'
  refine ⟨T.setFrames fs, ?_, .returned (some (.int 1)), hrun, hended, rfl, ⟨_, rfl⟩, hW, hframe⟩
  jvm_step X.here [X.here.top, hx, hb, hdg, hmeth', hr, ret, narrow_b1]
  (try refine ⟨rfl, ?_⟩); (try refine ⟨rfl, ?_⟩)
  first | (intro acts; rw [hret _ acts rfl rfl rfl]) | rw [hret _ _ rfl rfl rfl]
  exact Steps.refl _
/-- what holds at the law's entry: the machine, the code, the tables' words (any of lw_tbl by 'hts w (by decide +kernel)'), the script of L ints xs at the cell b, what the Statement gives of the start (any of its parts by flat_of_before) -/
def lw_At (p : Program) (s : State) (m : MethodId) (meth : Method) (c : Code) (b L : Nat) (xs : Nat → Int32) : Prop :=
  p.tables.exec = Jvm.exec ∧ c.code = code ∧ meth.sig.returnType = ret ∧ c.maxLocals = 4 ∧ s.vm.findClass R_law = some m.cls ∧ (∀ w ∈ lw_tbl, w.before #[Value.ref b] s = true) ∧ va_X b L xs s s.heap ∧ b < s.heap.size ∧ meth.locks = false ∧ (Jvm.Cond.and given_1 narrow_1).before #[Value.ref b] s = true

/-- what the law must come to, said of the abstract machine -/
def aLaw : Prop := ∀ (L b a0 : Nat) (xs : Nat → Int32), L ≤ 2048 → b < a0 → ∃ h' : aH, run 189 0 [.ref b, .null, .null, .null] [] (a0, 0, fun q => if q = b then some (.inl (9, L, .inl xs)) else none) = some (some (.int 1), h') ∧ h'.1 - a0 ≤ 600000 ∧ h'.2.1 ≤ 7302250
theorem aT_prim {s : State} {args : Array Value} {ty : FieldType} (h : (Cond.arrayClass ty).before args s = true) (hp : ∀ C, ty ≠ .object C) : ∃ c, ArrOfT s c ty ∧ va_RA s c ty := by
  obtain ⟨c, k, comp, h1, h2, h3⟩ := Cond.arrayClass_spec h
  refine ⟨c, fun n z => ⟨fun q h => (by cases h), k, h2, comp, h3⟩, ?_⟩
  cases ty <;> first | exact h1 | exact absurd rfl (hp _)
theorem aT_obj {s : State} {args : Array Value} {C : String} (h : (Cond.arrayOver (.object C)).before args s = true) : ∃ c, ArrOfT s c (.object C) ∧ va_RA s c (.object C) := by
  obtain ⟨comp, c, k, h1, h2, h3, h4, h5⟩ := Cond.arrayOver_spec h
  exact ⟨c, fun n z => ⟨fun q h => (by cases h), k, h3, comp, h4⟩, k, comp, h3, h4, h1, h5⟩
set_option maxRecDepth 100000 in
theorem whole_open (hLaw : aLaw) {p : Program} {e : Env} {s : State} {m : MethodId} {below : List Frame} {meth : Method} {c : Code} (l : Launch) {b L : Nat} {xs : Nat → Int32} (hL : L ≤ 2048) (C0 : lw_At p s m meth c b L xs) : W p l e room_1 s m #[Value.ref b] below meth c s.heap [] 0 0 (lw_Z below #[Value.ref b] s) (entryFrame m ([Value.ref b] : List Value).toArray 4) := by
  obtain ⟨hx, hb, hr, hml, hown, hts, hX, hbl, hlocks, hgv⟩ := C0
  obtain ⟨h', hrun, hc1, hc2⟩ := hLaw L b s.heap.size xs hL hbl
  obtain ⟨n, hn⟩ := run_iff.mp hrun
  have hts' : ∀ w ∈ gwT, w.before #[Value.ref b] s = true := fun w hw => hts w (List.mem_filter.mp hw).1
  have kn : ∀ ci, ∃ q : ClassId × (Nat → Nat), ci < 8 → u_Kn s (cS ci) (TXf ci) (nFl.getD ci 0) q.1 q.2 := by
    intro ci
    by_cases h8 : ci < 8
    · obtain ⟨c0, iS, h⟩ := u_known hts' (clK h8).2.2 (hts' _ (clK h8).2.1)
      exact ⟨(c0, iS), fun _ => h⟩
    · exact ⟨(0, fun _ => 0), fun h => absurd h h8⟩
  have hD : ∃ D : va_G, ∀ ci, ci < 8 → u_Kn s (cS ci) (TXf ci) (nFl.getD ci 0) (D.1 ci) (D.2 ci) := ⟨(fun ci => (Classical.choose (kn ci)).1, fun ci => (Classical.choose (kn ci)).2), fun ci h => Classical.choose_spec (kn ci) h⟩
  obtain ⟨D, hD⟩ := hD
  obtain ⟨k0, a0⟩ := aT_prim (hts' _ ch_ar.1) (by intro C h; cases h)
  obtain ⟨k1, a1⟩ := aT_prim (hts' _ ch_ar.2.1) (by intro C h; cases h)
  obtain ⟨k2, a2⟩ := aT_prim (hts' _ ch_ar.2.2) (by intro C h; cases h)
  obtain ⟨k3, a3⟩ := aT_obj (hts _ ch_ao.1)
  obtain ⟨k4, a4⟩ := aT_obj (hts _ ch_ao.2.1)
  obtain ⟨k5, a5⟩ := aT_obj (hts _ ch_ao.2.2)
  let K : Nat → ClassId := fun t => [k0, k1, k2, k3, k4, k5].getD t 0
  have hK : va_K D vwCl (aTy K) s := by
    constructor
    · intro ci q hq
      have h8 : ci < 8 := (List.getElem?_eq_some_iff.mp hq).1
      rw [clAt h8] at hq
      cases hq
      exact hD ci h8
    · intro k q hq
      match k, hq with
      | 0, hq => cases hq; exact a0
      | 1, hq => cases hq; exact a1
      | 2, hq => cases hq; exact a2
      | 3, hq => cases hq; exact a3
      | 4, hq => cases hq; exact a4
      | 5, hq => cases hq; exact a5
      | k + 6, hq => simp [aTy] at hq
  have hnw : aNw s := by
    intro w hw hn
    have h1 := hts w hw
    unfold isNw at hn
    split at hn
    · exact va_Nw.of rfl h1
    · exact va_Nw.of rfl h1
    · exact va_AO.of h1
    · cases hn
  have cx : aCx D K 189 p room_1 s m #[Value.ref b] meth c :=
    ⟨hx, hb, hml, hown, hts', hnw, fun z => absurd z (by decide +kernel), hK, by decide +kernel, by decide +kernel⟩
  rw [lg_entry_eq]
  have hl : lsR (mL 189) (aEnt 4 [Value.ref b]) _ := lsR.entry (n := 4) (vs := [Value.ref b]) (Nat.le_of_ble_eq_true rfl)
  refine sound n 189 0 (aEnt 4 [Value.ref b]) [] _ _ hn s.heap.size D K p l e room_1 s m #[Value.ref b] below meth c _ 0 0 cx (Nat.le_refl _) (by rw [Nat.zero_add]; exact hc1) (by rw [Nat.zero_add]; exact hc2) ?_ _ s.heap [] hl ?_ va_S.rf
  · intro pc lsr H locs hret hh' hS
    refine va_forget (fun q hq => hS.2.2 q hq) ?_
    refine W.widen (k := 600000) (n := 7302250) (by rw [Nat.zero_add]; exact hc1) (by rw [Nat.zero_add]; exact hc2) ?_
    rcases hret with ⟨hd, -⟩ | ⟨-, -, x, hx⟩ | ⟨-, -, hx⟩
    · exact lw_ret hx hb hr hlocks hd
    · cases hx
    · cases hx
  · refine ⟨rfl, Nat.le_refl _, fun a c hc => ?_⟩
    unfold hget at hc
    dsimp only at hc
    by_cases ha : a = b
    · rw [if_pos ha] at hc
      cases hc
      subst ha
      exact Or.inl ⟨rfl, hbl, L, xs, rfl, hX⟩
    · rw [if_neg ha] at hc
      cases hc
