theorem arun_grow : ∀ (n f pc : Nat) (ls st : List Value) (h : aH) (r : aR), arun n f pc ls st h = some r → h.1 ≤ r.2.1 ∧ h.2.1 ≤ r.2.2.1 := by
  intro n
  induction n with
  | zero => intro f pc ls st h r e; cases e
  | succ n ih =>
    intro f pc ls st h r e
    unfold arun at e
    cases ha : act f pc ls st h with
    | none => rw [ha] at e; cases e
    | some q =>
      rw [ha] at e
      have ok := so_act ha
      rcases q with q | q | q
      · cases e
        rw [ok.1]
        exact ⟨Nat.le_refl _, Nat.le_refl _⟩
      · have h1 := ih _ _ _ _ _ _ e
        exact ⟨Nat.le_trans ok.1 h1.1, Nat.le_trans ok.2.1 h1.2⟩
      · dsimp only at e
        obtain ⟨vs, -, -, h2, -⟩ := ok
        cases hc : arun n q.1.1 0 q.1.2.1 [] q.1.2.2 with
        | none => rw [hc] at e; cases e
        | some r1 =>
          rw [hc] at e
          have h1 := ih _ _ _ _ _ _ hc
          have h3 := ih _ _ _ _ _ _ e
          rw [h2] at h1
          exact ⟨Nat.le_trans h1.1 h3.1, Nat.le_trans h1.2 h3.2⟩
/-- what a method's end asks -/
def aEnd (base : Nat) (D : va_G) (K : Nat → ClassId) (f : Nat) (p : Program) (l : Launch) (e : Env) (R : Room) (s : State) (m : MethodId) (args : Array Value) (below : List Frame) (meth : Method) (c : Code) (Q : State → Prop) (cells slots : Nat) (r : aR) : Prop :=
  ∀ (pc : Nat) (lsr : Array Slot) (H : Heap) (locs : List Loc), aRet f pc r.1 → aHp base D K s r.2 H → va_S (fun q => base ≤ q) s.heap H locs → W p l e R s m args below meth c H locs cells slots Q (F0 m pc lsr r.1.toList)
def aPc (base : Nat) (D : va_G) (K : Nat → ClassId) (h : aH) (vs : List Value) : Array Value → State → Prop := va_Pc vs (fun U => aHp base D K U h U.heap ∧ va_K D vwCl (aTy K) U ∧ aNw U ∧ base ≤ U.heap.size)
def aQc (base : Nat) (D : va_G) (K : Nat → ClassId) (r : aR) : Array Value → State → Outcome → State → Prop := fun _ st o t => o = .returned r.1 ∧ aHp base D K t r.2 t.heap ∧ va_F (fun q => base ≤ q) st t
theorem aPc_blind {base : Nat} {D : va_G} {K : Nat → ClassId} {h : aH} {vs : List Value} : FrameBlind (aPc base D K h vs) := by
  rintro a U g mk ⟨h1, h2, h3, h4, h5⟩
  exact ⟨h1, aHp.moved (u := U) (U := U.calling g mk a) (Vm.Alike.refl U.vm) h2, va_K.moved (u := U) (U := U.calling g mk a) (Vm.Alike.refl U.vm) h3, aNw.warm (s := U) (U := U.calling g mk a) (State.WarmedH.refl U) h4, h5⟩
def aSound (n : Nat) : Prop := ∀ (f pc : Nat) (ls st : List Value) (h : aH) (r : aR), arun n f pc ls st h = some r →
  ∀ (base : Nat) (D : va_G) (K : Nat → ClassId) (p : Program) (l : Launch) (e : Env) (R : Room) (s : State) (m : MethodId) (args : Array Value) (below : List Frame) (meth : Method) (c : Code) (Q : State → Prop) (cells slots : Nat), aCx D K f p R s m args meth c → base ≤ s.heap.size → cells + (r.2.1 - h.1) ≤ R.cells → slots + (r.2.2.1 - h.2.1) ≤ R.slots →
    aEnd base D K f p l e R s m args below meth c Q (cells + (r.2.1 - h.1)) (slots + (r.2.2.1 - h.2.1)) r → aGo base D K f p l e R s m args below meth c Q cells slots pc ls st h
theorem met_of {n : Nat} (ih : aSound n) {g : Nat} (hg : g < 189) {vs : List Value} (hv : (aSl vs).length ≤ mL g) {h : aH} {r : aR} (e : arun n g 0 (aEnt (mL g) vs) [] h = some r) (l : Launch) (base : Nat) (D : va_G) (K : Nat → ClassId) :
    Met l (yN g) (wsO g) { frames := fRm g, cells := r.2.1 - h.1, slots := r.2.2.1 - h.2.1, locals := lRm g } (aPc base D K h vs) (aQc base D K r) (r.2.1 - h.1) (r.2.2.1 - h.2.1) (fun q => base ≤ q) := by
  obtain ⟨q, hq, hY⟩ := mtY hg
  obtain ⟨y1, y2, y3, y4, y5, y6, y7, y8, y9⟩ := mtF hY
  refine Met.ofW (cc := cd g) (maxL := mL g) (ret := rT g) y7 rfl ?_
  intro p e' s m args below meth c s₁ B hml hp
  obtain ⟨rfl, hh, hK, hnw, hbs⟩ := hp
  have hr := B.returns
  have hlocks := B.notSynchronized
  have cx : aCx D K g p (headSpec (wsO g) { frames := fRm g, cells := r.2.1 - h.1, slots := r.2.2.1 - h.2.1, locals := lRm g }).room s m vs.toArray meth c :=
    ⟨B.exec, B.bytes, hml, by rw [← y6]; exact findClass_of_methodNamed B.named, fun w hw => atoms_spec (ws := wsO g) B.pre w (List.mem_cons_of_mem _ hw), hnw, fun z => (name_of_methodNamed B.named B.method).1.trans z, hK, Nat.le_refl _, Nat.le_refl _⟩
  rw [lg_entry_eq]
  refine ih g 0 _ [] h r e base D K p l e' _ s m vs.toArray below meth c _ 0 0 cx hbs (by rw [Nat.zero_add]; exact Nat.le_refl _) (by rw [Nat.zero_add]; exact Nat.le_refl _) ?_ _ s.heap [] (lsR.entry hv) hh va_S.rf
  intro pc lsr H locs hret hh' hS
  rw [Nat.zero_add, Nat.zero_add]
  have hq : ∀ v, r.1 = v → ∀ t : State, t.heap = H → s.WarmedH t.vm → aQc base D K r vs.toArray s (.returned v) t := by
    rintro v rfl t ht hW
    refine ⟨rfl, ?_, hS.F ht⟩
    rw [ht]
    exact hh'.moved hW.alike
  rcases hret with ⟨hd, x, hx, hrt⟩ | ⟨hd, hrt, x, hx⟩ | ⟨hd, hrt, hx⟩
  · rw [hx]
    rcases hrt with hrt | ⟨hrt, hx01⟩
    · exact W.iret B.exec B.bytes (hr.trans hrt) (hq _ hx) hS.2.2 hd hlocks
    · refine W.zret B.exec B.bytes (hr.trans hrt) ?_ (hq _ hx) hS.2.2 hd hlocks
      rcases hx01 with rfl | rfl <;> rfl
  · rw [hx]
    exact W.lret B.exec B.bytes (hr.trans hrt) (hq _ hx) hS.2.2 hd hlocks
  · rw [hx]
    exact W.vret B.exec B.bytes (hr.trans hrt) (hq _ hx) hS.2.2 hd hlocks
theorem sound : ∀ n, aSound n := by
  intro n
  induction n with
  | zero => intro f pc ls st h r e; cases e
  | succ n ih =>
    intro f pc ls st h r e
    have hgrow := arun_grow _ _ _ _ _ _ _ e
    unfold arun at e
    cases ha : act f pc ls st h with
    | none => rw [ha] at e; cases e
    | some q =>
      rw [ha] at e
      have ok := so_act ha
      intro base D K p l en R s m args below meth c Q cells slots cx hbs hc1 hc2 hend
      rcases q with q | q | q
      · cases e
        obtain ⟨h1, h2, h3⟩ := ok
        intro lsr H locs hl hh hS
        have h4 := hend pc lsr H locs h3 (by rw [h1]; exact hh) hS
        rw [h1, Nat.sub_self, Nat.sub_self, Nat.add_zero, Nat.add_zero] at h4
        rw [h2]
        exact h4
      · obtain ⟨g1, g2, mv⟩ := ok
        have h1 := arun_grow _ _ _ _ _ _ _ e
        have e1 : cells + (q.2.2.2.1 - h.1) + (r.2.1 - q.2.2.2.1) = cells + (r.2.1 - h.1) := by omega
        have e2 : slots + (q.2.2.2.2.1 - h.2.1) + (r.2.2.1 - q.2.2.2.2.1) = slots + (r.2.2.1 - h.2.1) := by omega
        refine mv base D K p l en R s m args below meth c Q cells slots cx hbs (by omega) (by omega) ?_
        exact ih _ _ _ _ _ _ e base D K p l en R s m args below meth c Q _ _ cx hbs (by rw [e1]; exact hc1) (by rw [e2]; exact hc2) (by rw [e1, e2]; exact hend)
      · dsimp only at e
        obtain ⟨⟨g, gl, gh⟩, pc', ls', rest⟩ := q
        obtain ⟨vs, hg, h1, h2, h3, h4, hvs, hcall⟩ := ok
        dsimp only at e h1 h2 h3 h4 hvs hcall
        subst h1; subst h2; subst h3; subst h4
        cases hc : arun n g 0 (aEnt (mL g) vs) [] gh with
        | none => rw [hc] at e; cases e
        | some r1 =>
          rw [hc] at e
          dsimp only at e
          have g1 := arun_grow _ _ _ _ _ _ _ hc
          have g2 := arun_grow _ _ _ _ _ _ _ e
          intro lsr H locs hl hh hS T hT X
          have hM := met_of ih hg hvs hc l base D K
          have hS1 := hS.1
          obtain ⟨v, st₀, t, T', L, i1, X', i2, i3, i4, ⟨i5, i6, i7⟩, i8⟩ := hcall base D K p l en R s m args below meth c cells slots lsr H locs _ _ _ _ _ cx hl.2.1 hh hM aPc_blind
            (fun U hU hW => ⟨rfl, by rw [hU]; exact hh.moved hW.alike, va_K.moved hW.alike cx.2.2.2.2.2.2.2.1, cx.2.2.2.2.2.1.warm hW, by rw [hU]; exact Nat.le_trans hbs hS1⟩) ⟨by omega, by omega⟩ T hT X
          have hv : v = r1.1 := Outcome.returned.inj i5
          subst hv
          have hal : t.vm.Alike s.vm := by rw [← i4]; exact X'.warmed.alike.symm
          have e1 : cells + (r1.2.1 - gh.1) + (r.2.1 - r1.2.1) = cells + (r.2.1 - gh.1) := by omega
          have e2 : slots + (r1.2.2.1 - gh.2.1) + (r.2.2.1 - r1.2.2.1) = slots + (r.2.2.1 - gh.2.1) := by omega
          have hgo := ih _ _ _ _ _ _ e base D K p l en R s m args below meth c Q (cells + (r1.2.1 - gh.1)) (slots + (r1.2.2.1 - gh.2.1)) cx hbs (by rw [e1]; exact hc1) (by rw [e2]; exact hc2) (by rw [e1, e2]; exact hend)
          obtain ⟨t2, a1, b1⟩ := hgo lsr t.heap (locs ++ L) hl (i6.moved hal) ⟨Nat.le_trans hS1 (by rw [← i1]; exact i7.1), fun q z1 z2 => (i7.2 q (by rw [i1]; exact Nat.lt_of_lt_of_le z1 hS1) z2).trans (by rw [i1]; exact hS.2.1 q z1 z2), fun q hq => (List.mem_append.mp hq).elim (hS.2.2 q) (i2 q)⟩ T' i3 X'
          exact ⟨t2, i8 t2 a1, b1⟩
