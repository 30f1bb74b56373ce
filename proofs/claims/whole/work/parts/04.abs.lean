/-! THE ABSTRACT MACHINE: the same instructions over a heap of plain cells; 'run' is what a method comes to -/
/-- a cell: an array (kind, length, contents: 0 int, 1 boolean, 2 char, 3 Node, 4 Link, 5 Network, 9 the script) or an object (class number, fields) -/
abbrev aC : Type := (Nat × Nat × ((Nat → Int32) ⊕ (Nat → Option Nat))) ⊕ (Nat × List Value)
/-- a heap: the next address, the slots made so far, the cells -/
abbrev aH : Type := Nat × Nat × (Nat → Option aC)
def hget (h : aH) (a : Nat) : Option aC := h.2.2 a
def hset (h : aH) (a : Nat) (c : aC) : aH := (h.1, h.2.1, fun q => if q = a then some c else h.2.2 q)
def hnew (h : aH) (n : Nat) (c : aC) : aH := (h.1 + 1, h.2.1 + n, fun q => if q = h.1 then some c else h.2.2 q)
abbrev aR : Type := Option Value × aH
abbrev aG : Type := Nat × List Value × List Value × aH
abbrev aA : Type := aR ⊕ (aG ⊕ ((Nat × List Value × aH) × (Nat × List Value × List Value)))
def nx (pc : Nat) (ls st : List Value) (h : aH) : Option aA := some (.inr (.inl (pc, ls, st, h)))
def icN (k : Nat) (n : Nat) (x : Option aA) : Option aA := if n = k then x else none
/-- where a jump goes -/
def jmp (pc : Nat) (off : Int) (ls st : List Value) (h : aH) : Option aA := if 0 ≤ (pc : Int) + off then nx ((pc : Int) + off).toNat ls st h else none
def cmpI (c : Jvm.ClassFile.Cond) (x y : Int32) : Bool := match c with
  | .eq => decide (x = y)
  | .ne => decide (¬ x = y)
  | .lt => decide (x < y)
  | .ge => decide (y ≤ x)
  | .gt => decide (y < x)
  | .le => decide (x ≤ y)
def br (b : Bool) (pc : Nat) (off : Int) (ls st : List Value) (h : aH) : Option aA := if 0 ≤ (pc : Int) + off then (if b = true then nx ((pc : Int) + off).toNat ls st h else nx (pc + 3) ls st h) else none
def ldI (k pc : Nat) (ls st : List Value) (h : aH) : Option aA := match ls[k]? with
  | some (.int x) => nx pc ls (.int x :: st) h
  | _ => none
def ldA (k pc : Nat) (ls st : List Value) (h : aH) : Option aA := match ls[k]? with
  | some (.ref x) => nx pc ls (.ref x :: st) h
  | _ => none
def ldL (k pc : Nat) (ls st : List Value) (h : aH) : Option aA := match ls[k]?, ls[k + 1]? with
  | some (.long x), some (.retAddr 0) => nx pc ls (.long x :: st) h
  | _, _ => none
def stI (k pc : Nat) (ls st : List Value) (h : aH) : Option aA := match st with
  | .int x :: r => if k < ls.length then nx pc (ls.set k (.int x)) r h else none
  | _ => none
def stA (k pc : Nat) (ls st : List Value) (h : aH) : Option aA := match st with
  | .ref x :: r => if k < ls.length then nx pc (ls.set k (.ref x)) r h else none
  | _ => none
def stL (k pc : Nat) (ls st : List Value) (h : aH) : Option aA := match st with
  | .long x :: r => if k + 1 < ls.length then nx pc ((ls.set k (.long x)).set (k + 1) (.retAddr 0)) r h else none
  | _ => none
def op2I (fn : Int32 → Int32 → Option Int32) (pc : Nat) (ls st : List Value) (h : aH) : Option aA := match st with
  | .int y :: .int x :: r => match fn x y with
    | some z => nx (pc + 1) ls (.int z :: r) h
    | none => none
  | _ => none
def op2L (fn : Int64 → Int64 → Option Int64) (pc : Nat) (ls st : List Value) (h : aH) : Option aA := match st with
  | .long y :: .long x :: r => match fn x y with
    | some z => nx (pc + 1) ls (.long z :: r) h
    | none => none
  | _ => none
/-- a field is read: what a cell gives, handed on -/
def gfK {α : Type} (ci k : Nat) (o : Option aC) (K : Value → Option α) : Option α := match o with
  | some (.inr (c, fs)) => if c = ci then (match fs[k]? with | some v => K v | none => none) else none
  | _ => none
/-- a field is written -/
def pfK {α : Type} (ci k : Nat) (o : Option aC) (v : Value) (K : aC → Option α) : Option α := match o with
  | some (.inr (c, fs)) => if c = ci ∧ k < fs.length ∧ narrow (tyXf ci k) v = v ∧ fits (tyXf ci k) v = true then K (.inr (c, fs.set k v)) else none
  | _ => none
/-- a row is read -/
def alK {α : Type} (i : Int32) (o : Option aC) (p : Nat → Bool) (K : Int32 → Option α) : Option α := match o with
  | some (.inl (t, n, .inl f)) => if p t = true ∧ ¬ (i < 0 ∨ n ≤ i.toNatClampNeg) then K (f i.toNatClampNeg) else none
  | _ => none
def alQ {α : Type} (i : Int32) (o : Option aC) (K : Value → Option α) : Option α := match o with
  | some (.inl (t, n, .inr f)) => if (t = 3 ∨ t = 4 ∨ t = 5) ∧ ¬ (i < 0 ∨ n ≤ i.toNatClampNeg) then K (va_rf (f i.toNatClampNeg)) else none
  | _ => none
/-- a row is written -/
def asK {α : Type} (i : Int32) (o : Option aC) (t0 : Nat) (x : Int32) (K : aC → Option α) : Option α := match o with
  | some (.inl (t, n, .inl f)) => if t = t0 ∧ ¬ (i < 0 ∨ n ≤ i.toNatClampNeg) then K (.inl (t, n, .inl (upd f i.toNatClampNeg x))) else none
  | _ => none
def arC (t : Nat) : Nat := if t = 3 then 3 else if t = 4 then 1 else if t = 5 then 2 else 99
def asQ {α : Type} (i : Int32) (o : Option aC) (v : Nat) (ov : Option aC) (K : aC → Option α) : Option α := match o, ov with
  | some (.inl (t, n, .inr f)), some (.inr (c, _)) => if (t = 3 ∨ t = 4 ∨ t = 5) ∧ c = arC t ∧ ¬ (i < 0 ∨ n ≤ i.toNatClampNeg) then K (.inl (t, n, .inr (va_up f i.toNatClampNeg (some v)))) else none
  | _, _ => none
def lenK {α : Type} (o : Option aC) (K : Nat → Option α) : Option α := match o with
  | some (.inl (t, n, .inl _)) => if t = 0 ∨ t = 1 ∨ t = 2 ∨ t = 9 then K n else none
  | _ => none
def ccK {α : Type} (sp dp n : Int32) (o d : Option aC) (K : aC → Option α) : Option α := match o, d with
  | some (.inl (0, n0, .inl f)), some (.inl (0, n1, .inl g)) => if ¬ sp < 0 ∧ ¬ dp < 0 ∧ ¬ n < 0 ∧ sp.toNatClampNeg + n.toNatClampNeg ≤ n0 ∧ dp.toNatClampNeg + n.toNatClampNeg ≤ n1 then K (.inl (0, n1, .inl (va_cpy f g sp.toNatClampNeg dp.toNatClampNeg n.toNatClampNeg))) else none
  | _, _ => none
def rcK {α : Type} (ci : Nat) (o : Option aC) (K : Option α) : Option α := match o with
  | some (.inr (c, _)) => if c = ci then K else none
  | _ => none
def catS (st : List Value) : Nat := (st.map fun v => v.category).sum
/-- a callee's locals -/
def aSl : List Value → List Value
  | [] => []
  | v :: vs => if v.category = 2 then v :: .retAddr 0 :: aSl vs else v :: aSl vs
def aEnt (n : Nat) (vs : List Value) : List Value := aSl vs ++ List.replicate (n - (aSl vs).length) .null
def callK (f g : Nat) (vs : List Value) (pc : Nat) (ls st : List Value) (h : aH) : Option aA :=
  if fRm g + 1 ≤ fRm f ∧ 8 + (mL g + 11) + lRm g ≤ lRm f ∧ catS st ≤ 8 ∧ (aSl vs).length ≤ mL g then some (.inr (.inr ((g, aEnt (mL g) vs, h), (pc, ls, st)))) else none
def arT (t : ArrayType) : Option Nat := match t with
  | .int => some 0
  | .boolean => some 1
  | .char => some 2
  | _ => none
def anT (ci : Nat) : Option Nat := if ci = 3 then some 3 else if ci = 1 then some 4 else if ci = 2 then some 5 else none
def tsw (d lo hi : Int) (offs : Array Int) (x : Int32) : Option Int := if x.toInt < lo ∨ hi < x.toInt then some d else offs[(x.toInt - lo).toNat]?
def retK (f : Nat) (x : Int32) (h : aH) : Option aA := if rT f = some .int ∨ (rT f = some .boolean ∧ (x = 0 ∨ x = 1)) then some (.inl (some (.int x), h)) else none
def invV (f i : Nat) (pc : Nat) (ls st : List Value) (h : aH) : Option aA := match pkG pM (cN f) i with
  | some (g, k) => match st.drop k with
    | .ref b :: r => if k ≤ st.length ∧ (mtP.getD g (0, 0, 99999, 0, true)).2.2.2.2 = false ∧ (mtP.getD g (0, 0, 99999, 0, true)).2.2.1 ≠ 99999 ∧ (yN g).name ≠ "<init>" then rcK (cN g) (hget h b) (callK f g (.ref b :: (st.take k).reverse) pc ls r h) else none
    | _ => none
  | none => none
def invS (f i : Nat) (pc : Nat) (ls st : List Value) (h : aH) : Option aA := match pkG pM (cN f) i with
  | some (g, k) => if k ≤ st.length ∧ (mtP.getD g (0, 0, 99999, 0, false)).2.2.2.2 = true then callK f g (st.take k).reverse pc ls (st.drop k) h else none
  | none => match pkG pX (cN f) i, st with
    | some (1, _), .int n :: .int dp :: .ref a :: .int sp :: .ref a0 :: r => if 1 ≤ fRm f ∧ 26 ≤ lRm f ∧ catS r ≤ 8 then ccK sp dp n (hget h a0) (hget h a) (fun c => nx pc ls r (hset h a c)) else none
    | _, _ => none
def invI (f i : Nat) (pc : Nat) (ls st : List Value) (h : aH) : Option aA := match pkG pM (cN f) i with
  | some (g, k) => match st.drop k with
    | .ref b :: r => if k ≤ st.length ∧ (mtP.getD g (0, 0, 99999, 0, true)).2.2.2.2 = false ∧ (yN g).name = "<init>" ∧ rT g = none then callK f g (.ref b :: (st.take k).reverse) pc ls r h else none
    | _ => none
  | none => match pkG pX (cN f) i, st with
    | some (0, _), .ref _ :: r => if 1 ≤ fRm f ∧ 20 ≤ lRm f ∧ catS r ≤ 8 then nx pc ls r h else none
    | _, _ => none
def dfl (ty : FieldType) : Value := defaultValue ty
def actI (f pc : Nat) (i : Instr) (n : Nat) (ls st : List Value) (h : aH) : Option aA := match i with
  | .iconst k => icN 1 n (nx (pc + 1) ls (.int (Int32.ofInt k) :: st) h)
  | .bipush k => icN 2 n (nx (pc + 2) ls (.int (Int8.ofInt k).toInt32 :: st) h)
  | .sipush k => icN 3 n (nx (pc + 3) ls (.int (Int16.ofInt k).toInt32 :: st) h)
  | .lconst k => icN 1 n (nx (pc + 1) ls (.long (Int64.ofNat (k : Nat)) :: st) h)
  | .ldc k => icN 2 n (match pkG pI (cN f) k with | some v => nx (pc + 2) ls (.int v :: st) h | none => none)
  | .ldc_w k => icN 3 n (match pkG pI (cN f) k with | some v => nx (pc + 3) ls (.int v :: st) h | none => none)
  | .ldc2_w k => icN 3 n (match pkG pL (cN f) k with | some v => nx (pc + 3) ls (.long v :: st) h | none => none)
  | .iload_n k => icN 1 n (ldI (k : Nat) (pc + 1) ls st h)
  | .iload k => icN 2 n (ldI k (pc + 2) ls st h)
  | .aload_n k => icN 1 n (ldA (k : Nat) (pc + 1) ls st h)
  | .aload k => icN 2 n (ldA k (pc + 2) ls st h)
  | .lload_n k => icN 1 n (ldL (k : Nat) (pc + 1) ls st h)
  | .istore_n k => icN 1 n (stI (k : Nat) (pc + 1) ls st h)
  | .istore k => icN 2 n (stI k (pc + 2) ls st h)
  | .astore_n k => icN 1 n (stA (k : Nat) (pc + 1) ls st h)
  | .astore k => icN 2 n (stA k (pc + 2) ls st h)
  | .lstore_n k => icN 1 n (stL (k : Nat) (pc + 1) ls st h)
  | .iinc k c => icN 3 n (match ls[k]? with | some (.int x) => nx (pc + 3) (ls.set k (.int (x + Int32.ofInt c))) st h | _ => none)
  | .iadd => icN 1 n (op2I (fun x y => some (x + y)) pc ls st h)
  | .isub => icN 1 n (op2I (fun x y => some (x - y)) pc ls st h)
  | .imul => icN 1 n (op2I (fun x y => some (x * y)) pc ls st h)
  | .idiv => icN 1 n (op2I (fun x y => if y = 0 then none else some (x / y)) pc ls st h)
  | .irem => icN 1 n (op2I (fun x y => if y = 0 then none else some (x - x / y * y)) pc ls st h)
  | .iand => icN 1 n (op2I (fun x y => some (x &&& y)) pc ls st h)
  | .ior => icN 1 n (op2I (fun x y => some (x ||| y)) pc ls st h)
  | .ixor => icN 1 n (op2I (fun x y => some (x ^^^ y)) pc ls st h)
  | .ishl => icN 1 n (op2I (fun x y => some (x <<< (y &&& 31))) pc ls st h)
  | .ishr => icN 1 n (op2I (fun x y => some (x >>> (y &&& 31))) pc ls st h)
  | .iushr => icN 1 n (op2I (fun x y => some (x.toUInt32 >>> (y.toUInt32 &&& Int32.toUInt32 31)).toInt32) pc ls st h)
  | .ladd => icN 1 n (op2L (fun x y => some (x + y)) pc ls st h)
  | .lmul => icN 1 n (op2L (fun x y => some (x * y)) pc ls st h)
  | .ldiv => icN 1 n (op2L (fun x y => if y = 0 then none else some (x / y)) pc ls st h)
  | .lrem => icN 1 n (op2L (fun x y => if y = 0 then none else some (x - x / y * y)) pc ls st h)
  | .i2l => icN 1 n (match st with | .int x :: r => nx (pc + 1) ls (.long x.toInt64 :: r) h | _ => none)
  | .l2i => icN 1 n (match st with | .long x :: r => nx (pc + 1) ls (.int x.toInt32 :: r) h | _ => none)
  | .i2c => icN 1 n (match st with | .int x :: r => nx (pc + 1) ls (.int (x.toUInt32 % 65536).toInt32 :: r) h | _ => none)
  | .lcmp => icN 1 n (match st with | .long y :: .long x :: r => nx (pc + 1) ls (.int (lg_cmp x y) :: r) h | _ => none)
  | .dup => icN 1 n (match st with | v :: r => if v.category = 1 then nx (pc + 1) ls (v :: v :: r) h else none | _ => none)
  | .dup2 => icN 1 n (match st with | v :: w :: r => if v.category = 1 ∧ w.category = 1 then nx (pc + 1) ls (v :: w :: v :: w :: r) h else none | _ => none)
  | .pop => icN 1 n (match st with | v :: r => if v.category = 1 then nx (pc + 1) ls r h else none | _ => none)
  | .ifCond c off => icN 3 n (match st with | .int x :: r => br (cmpI c x 0) pc off ls r h | _ => none)
  | .if_icmp c off => icN 3 n (match st with | .int y :: .int x :: r => br (cmpI c x y) pc off ls r h | _ => none)
  | .ifnonnull off => icN 3 n (match st with | .ref _ :: r => jmp pc off ls r h | .null :: r => nx (pc + 3) ls r h | _ => none)
  | .goto off => icN 3 n (jmp pc off ls st h)
  | .tableswitch d lo hi offs => match st with
    | .int x :: r => match tsw d lo hi offs x with | some off => jmp pc off ls r h | none => none
    | _ => none
  | .getfield k => icN 3 n (match pkG pF (cN f) k, st with | some (ci, j), .ref a :: r => gfK ci j (hget h a) (fun v => nx (pc + 3) ls (v :: r) h) | _, _ => none)
  | .putfield k => icN 3 n (match pkG pF (cN f) k, st with
    | some (ci, j), v :: .ref a :: r => if (TXf ci j).2.2.2 = false ∨ ((yN f).name = "<init>" ∧ ci = cN f ∧ cN f < 8) then pfK ci j (hget h a) v (fun c => nx (pc + 3) ls r (hset h a c)) else none
    | _, _ => none)
  | .iaload => icN 1 n (match st with | .int i :: .ref a :: r => alK i (hget h a) (fun t => t == 0 || t == 9) (fun x => nx (pc + 1) ls (.int x :: r) h) | _ => none)
  | .baload => icN 1 n (match st with | .int i :: .ref a :: r => alK i (hget h a) (fun t => t == 1) (fun x => nx (pc + 1) ls (.int x :: r) h) | _ => none)
  | .caload => icN 1 n (match st with | .int i :: .ref a :: r => alK i (hget h a) (fun t => t == 2) (fun x => nx (pc + 1) ls (.int x :: r) h) | _ => none)
  | .aaload => icN 1 n (match st with | .int i :: .ref a :: r => alQ i (hget h a) (fun v => nx (pc + 1) ls (v :: r) h) | _ => none)
  | .iastore => icN 1 n (match st with | .int x :: .int i :: .ref a :: r => asK i (hget h a) 0 x (fun c => nx (pc + 1) ls r (hset h a c)) | _ => none)
  | .bastore => icN 1 n (match st with | .int x :: .int i :: .ref a :: r => asK i (hget h a) 1 (vp_nar .boolean x) (fun c => nx (pc + 1) ls r (hset h a c)) | _ => none)
  | .castore => icN 1 n (match st with | .int x :: .int i :: .ref a :: r => asK i (hget h a) 2 (vp_nar .char x) (fun c => nx (pc + 1) ls r (hset h a c)) | _ => none)
  | .aastore => icN 1 n (match st with | .ref v :: .int i :: .ref a :: r => asQ i (hget h a) v (hget h v) (fun c => nx (pc + 1) ls r (hset h a c)) | _ => none)
  | .arraylength => icN 1 n (match st with | .ref a :: r => lenK (hget h a) (fun z => nx (pc + 1) ls (.int (Int32.ofNat z) :: r) h) | _ => none)
  | .newarray t => icN 2 n (match arT t, st with
    | some k, .int z :: r => if ¬ z < 0 ∧ z.toNatClampNeg ≤ 10000 then nx (pc + 2) ls (.ref h.1 :: r) (hnew h z.toNatClampNeg (.inl (k, z.toNatClampNeg, .inl (fun _ => 0)))) else none
    | _, _ => none)
  | .anewarray k => icN 3 n (match pkG pC (cN f) k, st with
    | some (ci, _), .int z :: r => match anT ci with
      | some t => if ¬ z < 0 ∧ z.toNatClampNeg ≤ 10000 then nx (pc + 3) ls (.ref h.1 :: r) (hnew h z.toNatClampNeg (.inl (t, z.toNatClampNeg, .inr (fun _ => none)))) else none
      | none => none
    | _, _ => none)
  | .new k => icN 3 n (match pkG pC (cN f) k with
    | some (ci, _) => nx (pc + 3) ls (.ref h.1 :: st) (hnew h (nFl.getD ci 0) (.inr (ci, (List.range (nFl.getD ci 0)).map (fun j => dfl (tyXf ci j)))))
    | none => none)
  | .invokevirtual k => icN 3 n (invV f k (pc + 3) ls st h)
  | .invokestatic k => icN 3 n (invS f k (pc + 3) ls st h)
  | .invokespecial k => icN 3 n (invI f k (pc + 3) ls st h)
  | .ireturn => icN 1 n (match st with | [.int x] => retK f x h | _ => none)
  | .lreturn => icN 1 n (match st with | [.long x] => if rT f = some .long then some (.inl (some (.long x), h)) else none | _ => none)
  | .return_ => icN 1 n (match st with | [] => if rT f = none then some (.inl (none, h)) else none | _ => none)
  | _ => none
def act (f pc : Nat) (ls st : List Value) (h : aH) : Option aA := match decode (cd f) pc with
  | .ok (i, n) => actI f pc i n ls st h
  | .error _ => none
/-- n steps at most, calls counted in -/
def arun : Nat → Nat → Nat → List Value → List Value → aH → Option aR
  | 0, _, _, _, _, _ => none
  | n + 1, f, pc, ls, st, h => match act f pc ls st h with
    | none => none
    | some (.inl r) => some r
    | some (.inr (.inl q)) => arun n f q.1 q.2.1 q.2.2.1 q.2.2.2
    | some (.inr (.inr q)) => match arun n q.1.1 0 q.1.2.1 [] q.1.2.2 with
      | none => none
      | some r => arun n f q.2.1 q.2.2.1 (r.1.toList ++ q.2.2.2) r.2
theorem arun_mono : ∀ (n f pc : Nat) (ls st : List Value) (h : aH) (r : aR), arun n f pc ls st h = some r → arun (n + 1) f pc ls st h = some r := by
  intro n
  induction n with
  | zero => intro f pc ls st h r e; cases e
  | succ n ih =>
    intro f pc ls st h r e
    unfold arun at e ⊢
    cases ha : act f pc ls st h with
    | none => rw [ha] at e; cases e
    | some q =>
      rw [ha] at e
      rcases q with q | q | q
      · exact e
      · exact ih _ _ _ _ _ _ e
      · dsimp only at e ⊢
        cases hc : arun n q.1.1 0 q.1.2.1 [] q.1.2.2 with
        | none => rw [hc] at e; cases e
        | some r1 =>
          rw [hc] at e
          rw [ih _ _ _ _ _ _ hc]
          exact ih _ _ _ _ _ _ e
theorem arun_le {n k : Nat} (hk : n ≤ k) {f pc : Nat} {ls st : List Value} {h : aH} {r : aR} (e : arun n f pc ls st h = some r) : arun k f pc ls st h = some r := by
  induction hk with
  | refl => exact e
  | step _ ih => exact arun_mono _ _ _ _ _ _ _ ih
theorem arun_det {n k f pc : Nat} {ls st : List Value} {h : aH} {r r' : aR} (e : arun n f pc ls st h = some r) (e' : arun k f pc ls st h = some r') : r = r' := by
  have h1 := arun_le (Nat.le_max_left n k) e
  have h2 := arun_le (Nat.le_max_right n k) e'
  rw [h1] at h2
  exact Option.some.inj h2
noncomputable def run (f pc : Nat) (ls st : List Value) (h : aH) : Option aR := @dite (Option aR) (∃ (r : aR) (n : Nat), arun n f pc ls st h = some r) (Classical.propDecidable _) (fun hx => some (Classical.choose hx)) (fun _ => none)
theorem run_iff {f pc : Nat} {ls st : List Value} {h : aH} {r : aR} : run f pc ls st h = some r ↔ ∃ n, arun n f pc ls st h = some r := by
  unfold run
  split
  · rename_i hx
    obtain ⟨n, hn⟩ := Classical.choose_spec hx
    constructor
    · intro e
      cases e
      exact ⟨n, hn⟩
    · rintro ⟨k, hk⟩
      rw [arun_det hn hk]
  · rename_i hx
    constructor
    · intro e; cases e
    · rintro ⟨k, hk⟩
      exact absurd ⟨r, k, hk⟩ hx
theorem run_none {f pc : Nat} {ls st : List Value} {h : aH} (hn : ∀ n, arun n f pc ls st h = none) : run f pc ls st h = none := by
  cases e : run f pc ls st h with
  | none => rfl
  | some r =>
    obtain ⟨n, h1⟩ := run_iff.mp e
    rw [hn n] at h1
    cases h1
/-- what a method's call comes to, handed on -/
def bK (x : Option aR) (K : Option Value → aH → Option aR) : Option aR := match x with
  | none => none
  | some r => K r.1 r.2
theorem bK_some (r : aR) (K : Option Value → aH → Option aR) : bK (some r) K = K r.1 r.2 := rfl
theorem run_eq (f pc : Nat) (ls st : List Value) (h : aH) : run f pc ls st h = match act f pc ls st h with
    | none => none
    | some (.inl r) => some r
    | some (.inr (.inl q)) => run f q.1 q.2.1 q.2.2.1 q.2.2.2
    | some (.inr (.inr q)) => bK (run q.1.1 0 q.1.2.1 [] q.1.2.2) (fun v h1 => run f q.2.1 q.2.2.1 (v.toList ++ q.2.2.2) h1) := by
  have key : ∀ n, arun (n + 1) f pc ls st h = match act f pc ls st h with
    | none => none
    | some (.inl r) => some r
    | some (.inr (.inl q)) => arun n f q.1 q.2.1 q.2.2.1 q.2.2.2
    | some (.inr (.inr q)) => match arun n q.1.1 0 q.1.2.1 [] q.1.2.2 with
      | none => none
      | some r => arun n f q.2.1 q.2.2.1 (r.1.toList ++ q.2.2.2) r.2 := fun n => by conv => lhs; unfold arun
  cases ha : act f pc ls st h with
  | none =>
    refine run_none fun n => ?_
    cases n with
    | zero => rfl
    | succ n => rw [key, ha]
  | some q =>
    rw [ha] at key
    rcases q with q | q | q
    · exact run_iff.mpr ⟨1, key 0⟩
    · dsimp only at key ⊢
      cases e : run f q.1 q.2.1 q.2.2.1 q.2.2.2 with
      | some r =>
        obtain ⟨n, hn⟩ := run_iff.mp e
        exact run_iff.mpr ⟨n + 1, by rw [key]; exact hn⟩
      | none =>
        refine run_none fun n => ?_
        cases n with
        | zero => rfl
        | succ n =>
          rw [key]
          cases e2 : arun n f q.1 q.2.1 q.2.2.1 q.2.2.2 with
          | none => rfl
          | some r => rw [run_iff.mpr ⟨n, e2⟩] at e; cases e
    · dsimp only at key ⊢
      cases e : run q.1.1 0 q.1.2.1 [] q.1.2.2 with
      | none =>
        refine run_none fun n => ?_
        cases n with
        | zero => rfl
        | succ n =>
          rw [key]
          cases e2 : arun n q.1.1 0 q.1.2.1 [] q.1.2.2 with
          | none => rfl
          | some r => rw [run_iff.mpr ⟨n, e2⟩] at e; cases e
      | some r1 =>
        obtain ⟨k, hk⟩ := run_iff.mp e
        rw [bK_some]
        cases e3 : run f q.2.1 q.2.2.1 (r1.1.toList ++ q.2.2.2) r1.2 with
        | some r =>
          obtain ⟨n, hn⟩ := run_iff.mp e3
          refine run_iff.mpr ⟨max k n + 1, ?_⟩
          rw [key, arun_le (Nat.le_max_left k n) hk]
          exact arun_le (Nat.le_max_right k n) hn
        | none =>
          refine run_none fun n => ?_
          cases n with
          | zero => rfl
          | succ n =>
            rw [key]
            cases e2 : arun n q.1.1 0 q.1.2.1 [] q.1.2.2 with
            | none => rfl
            | some r =>
              have := arun_det hk e2
              subst this
              dsimp only
              cases e4 : arun n f q.2.1 q.2.2.1 (r1.1.toList ++ q.2.2.2) r1.2 with
              | none => rfl
              | some r => rw [run_iff.mpr ⟨n, e4⟩] at e3; cases e3
