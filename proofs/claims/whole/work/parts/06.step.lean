/-! each instruction of the abstract machine is the machine's -/
def aRet (f pc : Nat) (v : Option Value) : Prop := (decode (cd f) pc = .ok (.ireturn, 1) ∧ ∃ x, v = some (.int x) ∧ (rT f = some .int ∨ (rT f = some .boolean ∧ (x = 0 ∨ x = 1)))) ∨ (decode (cd f) pc = .ok (.lreturn, 1) ∧ rT f = some .long ∧ ∃ x, v = some (.long x)) ∨ (decode (cd f) pc = .ok (.return_, 1) ∧ rT f = none ∧ v = none)
def wsO (g : Nat) : List Cond := Cond.code (yN g) (cd g) (mL g) (rT g) :: gwT
/-- a call: whoever has the callee's contract can run it here -/
def aCall (f pc : Nat) (st : List Value) (h : aH) (g : Nat) (vs rest : List Value) : Prop :=
  ∀ (base : Nat) (D : va_G) (K : Nat → ClassId) (p : Program) (l : Launch) (e : Env) (R : Room) (s : State) (m : MethodId) (args : Array Value) (below : List Frame) (meth : Method) (c : Code) (cells slots : Nat) (lsr : Array Slot) (H : Heap) (locs : List Loc) (mc ms : Nat) (Pc : Array Value → State → Prop) (Qc : Array Value → State → Outcome → State → Prop) (free : Addr → Prop),
    aCx D K f p R s m args meth c → lsr.size = mL f → aHp base D K s h H → Met l (yN g) (wsO g) { frames := fRm g, cells := mc, slots := ms, locals := lRm g } Pc Qc mc ms free → FrameBlind Pc → (∀ U : State, U.heap = H → s.WarmedH U.vm → Pc vs.toArray U) → (cells + mc ≤ R.cells ∧ slots + ms ≤ R.slots) →
    va_Run p l e R s m args below meth c H locs cells slots mc ms (F0 m pc lsr st) rest (Qc vs.toArray) free
def aOK (f pc : Nat) (ls st : List Value) (h : aH) (a : aA) : Prop := match a with
  | .inl r => r.2 = h ∧ st = r.1.toList ∧ aRet f pc r.1
  | .inr (.inl q) => aMv f pc ls st h q
  | .inr (.inr q) => ∃ vs, q.1.1 < 189 ∧ q.1.2.1 = aEnt (mL q.1.1) vs ∧ q.1.2.2 = h ∧ q.2.1 = pc + 3 ∧ q.2.2.1 = ls ∧ (aSl vs).length ≤ mL q.1.1 ∧ aCall f pc st h q.1.1 vs q.2.2.2
theorem icN_some {k n : Nat} {x : Option aA} {a : aA} (h : icN k n x = some a) : n = k ∧ x = some a := by
  unfold icN at h
  split at h
  · rename_i e; exact ⟨e, h⟩
  · cases h
theorem nx_some {pc : Nat} {ls st : List Value} {h : aH} {a : aA} (e : nx pc ls st h = some a) : a = .inr (.inl (pc, ls, st, h)) := (Option.some.inj e).symm
section So
variable {f pc : Nat} {ls st : List Value} {h : aH} {a : aA}
theorem so_ldI {i : Instr} {n k pc' : Nat} (hd : decode (cd f) pc = .ok (i, n)) (hi : (∃ j : Fin 4, i = .iload_n j ∧ (j : Nat) = k ∧ n = 1 ∧ pc' = pc + 1) ∨ (i = .iload k ∧ n = 2 ∧ pc' = pc + 2)) (e : ldI k pc' ls st h = some a) : aOK f pc ls st h a := by
  unfold ldI at e
  split at e
  · rename_i x hx
    cases nx_some e
    refine aMv_p fun base D K p l e R s m args below meth c Q cells slots lsr H locs cx hl hh kk => ?_
    have h1 := hl.at (Or.inl ⟨x, rfl, hx⟩)
    rcases hi with ⟨j, rfl, hj, rfl, rfl⟩ | ⟨rfl, rfl, rfl⟩
    · exact lv_iload_n cx.1 cx.2.1 hd hj h1 kk
    · exact lv_iload cx.1 cx.2.1 hd h1 kk
  · cases e
theorem so_ldA {i : Instr} {n k pc' : Nat} (hd : decode (cd f) pc = .ok (i, n)) (hi : (∃ j : Fin 4, i = .aload_n j ∧ (j : Nat) = k ∧ n = 1 ∧ pc' = pc + 1) ∨ (i = .aload k ∧ n = 2 ∧ pc' = pc + 2)) (e : ldA k pc' ls st h = some a) : aOK f pc ls st h a := by
  unfold ldA at e
  split at e
  · rename_i x hx
    cases nx_some e
    refine aMv_p fun base D K p l e R s m args below meth c Q cells slots lsr H locs cx hl hh kk => ?_
    have h1 := hl.at (Or.inr (Or.inl ⟨x, rfl, hx⟩))
    rcases hi with ⟨j, rfl, hj, rfl, rfl⟩ | ⟨rfl, rfl, rfl⟩
    · exact lv_aload_n cx.1 cx.2.1 hd hj h1 kk
    · exact lv_aload cx.1 cx.2.1 hd h1 kk
  · cases e
theorem so_ldL {k : Fin 4} (hd : decode (cd f) pc = .ok (.lload_n k, 1)) (e : ldL (k : Nat) (pc + 1) ls st h = some a) : aOK f pc ls st h a := by
  unfold ldL at e
  split at e
  · rename_i x hx h2
    cases nx_some e
    refine aMv_p fun base D K p l e R s m args below meth c Q cells slots lsr H locs cx hl hh kk => ?_
    exact lv_lload_n cx.1 cx.2.1 hd rfl (hl.at (Or.inr (Or.inr ⟨x, rfl, hx, h2⟩))) kk
  · cases e
theorem so_stI {i : Instr} {n k pc' : Nat} (hd : decode (cd f) pc = .ok (i, n)) (hi : (∃ j : Fin 4, i = .istore_n j ∧ (j : Nat) = k ∧ n = 1 ∧ pc' = pc + 1) ∨ (i = .istore k ∧ n = 2 ∧ pc' = pc + 2)) (e : stI k pc' ls st h = some a) : aOK f pc ls st h a := by
  unfold stI at e
  split at e
  · rename_i x r
    split at e
    · rename_i hk
      cases nx_some e
      refine aMv_l fun base D K p l e R s m args below meth c Q cells slots lsr H locs cx hl hh kk => ?_
      have hk2 : k < mL f := by rw [← hl.1]; exact hk
      rcases hi with ⟨j, rfl, hj, rfl, rfl⟩ | ⟨rfl, rfl, rfl⟩
      · exact lv_istore_n cx.1 cx.2.1 hd hj hl.2 hk2 rfl fun ls' hl' => kk ls' (lsR.st1 hl.1 hk2 (Or.inl ⟨x, rfl⟩) hl')
      · exact lv_istore cx.1 cx.2.1 hd hl.2 hk2 rfl fun ls' hl' => kk ls' (lsR.st1 hl.1 hk2 (Or.inl ⟨x, rfl⟩) hl')
    · cases e
  · cases e
theorem so_stA {i : Instr} {n k pc' : Nat} (hd : decode (cd f) pc = .ok (i, n)) (hi : (∃ j : Fin 4, i = .astore_n j ∧ (j : Nat) = k ∧ n = 1 ∧ pc' = pc + 1) ∨ (i = .astore k ∧ n = 2 ∧ pc' = pc + 2)) (e : stA k pc' ls st h = some a) : aOK f pc ls st h a := by
  unfold stA at e
  split at e
  · rename_i x r
    split at e
    · rename_i hk
      cases nx_some e
      refine aMv_l fun base D K p l e R s m args below meth c Q cells slots lsr H locs cx hl hh kk => ?_
      have hk2 : k < mL f := by rw [← hl.1]; exact hk
      rcases hi with ⟨j, rfl, hj, rfl, rfl⟩ | ⟨rfl, rfl, rfl⟩
      · exact lv_astore_n cx.1 cx.2.1 hd hj hl.2 hk2 rfl fun ls' hl' => kk ls' (lsR.st1 hl.1 hk2 (Or.inr ⟨x, rfl⟩) hl')
      · exact lv_astore cx.1 cx.2.1 hd hl.2 hk2 rfl fun ls' hl' => kk ls' (lsR.st1 hl.1 hk2 (Or.inr ⟨x, rfl⟩) hl')
    · cases e
  · cases e
theorem so_stL {k : Fin 4} (hd : decode (cd f) pc = .ok (.lstore_n k, 1)) (e : stL (k : Nat) (pc + 1) ls st h = some a) : aOK f pc ls st h a := by
  unfold stL at e
  split at e
  · rename_i x r
    split at e
    · rename_i hk
      cases nx_some e
      refine aMv_l fun base D K p l e R s m args below meth c Q cells slots lsr H locs cx hl hh kk => ?_
      have hk2 : (k : Nat) + 1 < mL f := by rw [← hl.1]; exact hk
      exact lv_lstore_n cx.1 cx.2.1 hd rfl hl.2 hk2 rfl fun ls' hl' => kk ls' (lsR.st2 hl.1 hk2 hl')
    · cases e
  · cases e
theorem so_iinc {k : Nat} {z : Int} (hd : decode (cd f) pc = .ok (.iinc k z, 3)) (e : (match ls[k]? with | some (.int x) => nx (pc + 3) (ls.set k (.int (x + Int32.ofInt z))) st h | _ => none) = some a) : aOK f pc ls st h a := by
  split at e
  · rename_i x hx
    cases nx_some e
    refine aMv_l fun base D K p l e R s m args below meth c Q cells slots lsr H locs cx hl hh kk => ?_
    have hk2 : k < mL f := by rw [← hl.1]; exact (List.getElem?_eq_some_iff.mp hx).1
    obtain ⟨j, hj⟩ := List.getElem?_of_mem (mem_clm.mpr (Or.inl ⟨x, rfl, hx⟩ : aCl ls (k, Value.int x).1 (k, Value.int x).2))
    exact lv_iinc cx.1 cx.2.1 hd hl.2 hj rfl hk2 rfl fun ls' hl' => kk ls' (lsR.st1 hl.1 hk2 (Or.inl ⟨_, rfl⟩) hl')
  · cases e
theorem op2I_some {fn : Int32 → Int32 → Option Int32} (e : op2I fn pc ls st h = some a) : ∃ x y r z, st = .int y :: .int x :: r ∧ fn x y = some z ∧ a = .inr (.inl (pc + 1, ls, .int z :: r, h)) := by
  unfold op2I at e
  split at e
  · split at e
    · rename_i hz
      exact ⟨_, _, _, _, rfl, hz, nx_some e⟩
    · cases e
  · cases e
theorem op2L_some {fn : Int64 → Int64 → Option Int64} (e : op2L fn pc ls st h = some a) : ∃ x y r z, st = .long y :: .long x :: r ∧ fn x y = some z ∧ a = .inr (.inl (pc + 1, ls, .long z :: r, h)) := by
  unfold op2L at e
  split at e
  · split at e
    · rename_i hz
      exact ⟨_, _, _, _, rfl, hz, nx_some e⟩
    · cases e
  · cases e
theorem so_jmp {off : Int} {st' : List Value} (k : ∀ (base : Nat) (D : va_G) (K : Nat → ClassId) (p : Program) (l : Launch) (e : Env) (R : Room) (s : State) (m : MethodId) (args : Array Value) (below : List Frame) (meth : Method) (c : Code) (Q : State → Prop) (cells slots : Nat) (lsr : Array Slot) (H : Heap) (locs : List Loc) (tgt : Nat), (pc : Int) + off = (tgt : Int) → aCx D K f p R s m args meth c → W p l e R s m args below meth c H locs cells slots Q (F0 m tgt lsr st') → W p l e R s m args below meth c H locs cells slots Q (F0 m pc lsr st)) (e : jmp pc off ls st' h = some a) : aOK f pc ls st h a := by
  unfold jmp at e
  split at e
  · rename_i h0
    cases nx_some e
    exact aMv_p fun base D K p l e R s m args below meth c Q cells slots lsr H locs cx hl hh kk => k base D K p l e R s m args below meth c Q cells slots lsr H locs _ (Int.toNat_of_nonneg h0).symm cx kk
  · cases e
theorem so_br {off : Int} {b : Bool} {st' : List Value} (k : ∀ (base : Nat) (D : va_G) (K : Nat → ClassId) (p : Program) (l : Launch) (e : Env) (R : Room) (s : State) (m : MethodId) (args : Array Value) (below : List Frame) (meth : Method) (c : Code) (Q : State → Prop) (cells slots : Nat) (lsr : Array Slot) (H : Heap) (locs : List Loc) (tgt : Nat), (pc : Int) + off = (tgt : Int) → aCx D K f p R s m args meth c → (b = true → W p l e R s m args below meth c H locs cells slots Q (F0 m tgt lsr st')) → (b = false → W p l e R s m args below meth c H locs cells slots Q (F0 m (pc + 3) lsr st')) → W p l e R s m args below meth c H locs cells slots Q (F0 m pc lsr st)) (e : br b pc off ls st' h = some a) : aOK f pc ls st h a := by
  unfold br at e
  split at e
  · rename_i h0
    split at e
    · rename_i hb
      cases nx_some e
      exact aMv_p fun base D K p l e R s m args below meth c Q cells slots lsr H locs cx hl hh kk => k base D K p l e R s m args below meth c Q cells slots lsr H locs _ (Int.toNat_of_nonneg h0).symm cx (fun _ => kk) (fun z => by rw [hb] at z; cases z)
    · rename_i hb
      cases nx_some e
      exact aMv_p fun base D K p l e R s m args below meth c Q cells slots lsr H locs cx hl hh kk => k base D K p l e R s m args below meth c Q cells slots lsr H locs _ (Int.toNat_of_nonneg h0).symm cx (fun z => absurd z hb) (fun _ => kk)
  · cases e
theorem so_icmp {cnd : Jvm.ClassFile.Cond} {off : Int} {x y : Int32} {r : List Value} (hd : decode (cd f) pc = .ok (.if_icmp cnd off, 3)) (e : br (cmpI cnd x y) pc off ls r h = some a) : aOK f pc ls (.int y :: .int x :: r) h a := by
  refine so_br (fun base D K p l e R s m args below meth c Q cells slots lsr H locs tgt ht cx kt kf => ?_) e
  cases cnd
  · exact lv_icmp_eq cx.1 cx.2.1 hd ht (fun z => kt (by simpa [cmpI] using z)) (fun z => kf (by simpa [cmpI] using z))
  · exact lv_icmp_ne cx.1 cx.2.1 hd ht (fun z => kt (by simpa [cmpI] using z)) (fun z => kf (by simpa [cmpI] using z))
  · exact lv_icmp_lt cx.1 cx.2.1 hd ht (fun z => kt (by simpa [cmpI] using z)) (fun z => kf (by simpa [cmpI] using z))
  · exact lv_icmp_ge cx.1 cx.2.1 hd ht (fun z => kt (by simpa [cmpI] using z)) (fun z => kf (by simpa [cmpI] using z))
  · exact lv_icmp_gt cx.1 cx.2.1 hd ht (fun z => kt (by simpa [cmpI] using z)) (fun z => kf (by simpa [cmpI] using z))
  · exact lv_icmp_le cx.1 cx.2.1 hd ht (fun z => kt (by simpa [cmpI] using z)) (fun z => kf (by simpa [cmpI] using z))
theorem so_ifc {cnd : Jvm.ClassFile.Cond} {off : Int} {x : Int32} {r : List Value} (hd : decode (cd f) pc = .ok (.ifCond cnd off, 3)) (e : br (cmpI cnd x 0) pc off ls r h = some a) : aOK f pc ls (.int x :: r) h a := by
  refine so_br (fun base D K p l e R s m args below meth c Q cells slots lsr H locs tgt ht cx kt kf => ?_) e
  cases cnd
  · exact lv_if_eq cx.1 cx.2.1 hd ht (fun z => kt (by simpa [cmpI] using z)) (fun z => kf (by simpa [cmpI] using z))
  · exact lv_if_ne cx.1 cx.2.1 hd ht (fun z => kt (by simpa [cmpI] using z)) (fun z => kf (by simpa [cmpI] using z))
  · exact lv_if_lt cx.1 cx.2.1 hd ht (fun z => kt (by simpa [cmpI] using z)) (fun z => kf (by simpa [cmpI] using z))
  · exact lv_if_ge cx.1 cx.2.1 hd ht (fun z => kt (by simpa [cmpI] using z)) (fun z => kf (by simpa [cmpI] using z))
  · exact lv_if_gt cx.1 cx.2.1 hd ht (fun z => kt (by simpa [cmpI] using z)) (fun z => kf (by simpa [cmpI] using z))
  · exact lv_if_le cx.1 cx.2.1 hd ht (fun z => kt (by simpa [cmpI] using z)) (fun z => kf (by simpa [cmpI] using z))
end So
