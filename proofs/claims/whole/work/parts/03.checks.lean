/-! what the tables say of the pool and of the methods, by their places -/
def TXf (c : Nat) : u_T := match c with
  | 0 => TX0 | 1 => TX1 | 2 => TX2 | 3 => TX3 | 4 => TX4 | 5 => TX5 | 6 => TX6 | _ => TX7
def tyXf (c : Nat) : Nat → FieldType := match c with
  | 0 => tyX0 | 1 => tyX1 | 2 => tyX2 | 3 => tyX3 | 4 => tyX4 | 5 => tyX5 | 6 => tyX6 | _ => tyX7
def gwT : List Cond := lw_tbl.filter goodWord
/-- a word that may be handed on to a callee -/
def wAt (i : Nat) (w : Cond) : Bool := decide (lw_tbl[i]? = some w)
theorem wAt_mem {i : Nat} {w : Cond} (h : wAt i w = true) : w ∈ lw_tbl := List.mem_of_getElem? (of_decide_eq_true h)
theorem wAt_good {i : Nat} {w : Cond} (h : wAt i w = true) (hg : goodWord w = true) : w ∈ gwT := List.mem_filter.mpr ⟨wAt_mem h, hg⟩
def chF (q : (Nat × Nat) × (Nat × Nat) × Nat) : Bool :=
  decide (q.2.1.1 < 8) && decide (q.2.1.2 < nFl.getD q.2.1.1 0) &&
  ((wAt q.2.2 (.fieldLink (cS q.1.1) q.1.2 (TXf q.2.1.1 q.2.1.2).1 (TXf q.2.1.1 q.2.1.2).2.1 (TXf q.2.1.1 q.2.1.2).2.2.1)) ||
   (wAt q.2.2 (.fieldLinkNest (cS q.1.1) q.1.2 (TXf q.2.1.1 q.2.1.2).1 (TXf q.2.1.1 q.2.1.2).2.1 (TXf q.2.1.1 q.2.1.2).2.2.1 "CodedRelays")))
theorem chF_ok : pF.all chF = true := by decide +kernel
def chM (q : (Nat × Nat) × (Nat × Nat) × Nat) : Bool :=
  decide (q.2.1.1 < 189) && decide (fRm q.2.1.1 < 90) &&
  decide ((parseMethodDescriptor (yN q.2.1.1).desc).map (fun d => d.parameters.length) = some q.2.1.2) &&
  (wAt q.2.2 (.methodLink (cS q.1.1) q.1.2 (yN q.2.1.1)) || (wAt q.2.2 (.methodLinkNest (cS q.1.1) q.1.2 (yN q.2.1.1) "CodedRelays") && decide ((yN q.2.1.1).name = "<init>")))
theorem chM_ok : pM.all chM = true := by decide +kernel
def chC (q : (Nat × Nat) × (Nat × Nat) × Nat) : Bool :=
  decide (q.2.1.1 < 8) && wAt q.2.2 (.classLink (cS q.1.1) q.1.2 (cS q.2.1.1))
theorem chC_ok : pC.all chC = true := by decide +kernel
def chX (q : (Nat × Nat) × (Nat × Nat) × Nat) : Bool :=
  if q.2.1.1 = 0 then wAt q.2.2 (.methodLink (cS q.1.1) q.1.2 objectInit) else wAt q.2.2 (.methodLink (cS q.1.1) q.1.2 arraycopyName)
theorem chX_ok : pX.all chX = true := by decide +kernel
theorem chI_ok : pI.all (fun q => wAt q.2.2 (.constant (cS q.1.1) q.1.2 q.2.1)) = true := by decide +kernel
theorem chL_ok : pL.all (fun q => wAt q.2.2 (.constantLong (cS q.1.1) q.1.2 q.2.1)) = true := by decide +kernel
/-- a method's own words -/
def chY (f : Nat) (q : Nat × Nat × Nat × Nat × Bool) : Bool :=
  wAt q.1 (.code (yN f) (cd f) (mL f) (rT f)) && (if q.2.2.2.2 then wAt q.2.1 (.static (yN f)) else wAt q.2.1 (.instanceMethod (yN f))) &&
  (decide (q.2.2.1 = 99999) || wAt q.2.2.1 (.selects (cS (cN f)) (yN f) (yN f))) && wAt q.2.2.2.1 (.initialized (yN f).cls) &&
  decide ((yN f).cls = cS (cN f)) && plainName (yN f).cls && decide ((yN f).cls ≠ "java/lang/invoke/MethodHandle") && decide ((yN f).cls ≠ "java/lang/invoke/VarHandle") &&
  (q.2.2.2.2 || decide (cN f < 8))
def chYs (lo n : Nat) : Bool := (List.range n).all (fun j => match mtP[lo + j]? with | some q => chY (lo + j) q | none => false)
theorem chY_0 : chYs 0 40 = true := by decide +kernel
theorem chY_1 : chYs 40 40 = true := by decide +kernel
theorem chY_2 : chYs 80 40 = true := by decide +kernel
theorem chY_3 : chYs 120 40 = true := by decide +kernel
theorem chY_4 : chYs 160 29 = true := by decide +kernel
/-- a class's own words: initialized, instantiable, its fields -/
def chK (c : Nat) : Bool :=
  wAt (iniP.getD c 0) (.initialized (cS c)) && wAt (insP.getD c 0) (.instantiable (cS c) (nFl.getD c 0)) &&
  (List.range (nFl.getD c 0)).all (fun k => wAt ((layP.getD c []).getD k 0) (u_lay (cS c) (TXf c) k))
theorem chK_ok : (List.range 8).all chK = true := by decide +kernel
theorem ch_oi : Cond.instanceMethod objectInit ∈ gwT ∧ Cond.code objectInit ⟨#[0xb1]⟩ 1 none ∈ gwT := by decide +kernel
theorem ch_ac : Cond.native arraycopyName ∈ gwT ∧ Cond.static arraycopyName ∈ gwT ∧ Cond.initialized "java/lang/System" ∈ gwT := by decide +kernel
theorem ch_ar : Cond.arrayClass .int ∈ gwT ∧ Cond.arrayClass .boolean ∈ gwT ∧ Cond.arrayClass .char ∈ gwT := by decide +kernel
theorem ch_ao : Cond.arrayOver (.object "CodedRelays$Node") ∈ lw_tbl ∧ Cond.arrayOver (.object "CodedRelays$Link") ∈ lw_tbl ∧ Cond.arrayOver (.object "CodedRelays$Network") ∈ lw_tbl := by decide +kernel
