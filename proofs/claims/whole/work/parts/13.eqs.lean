/-! equations of 'run', one for each kind of instruction -/
theorem run_nx {f pc pc' : Nat} {ls st ls' st' : List Value} {h h' : aH} (e : act f pc ls st h = nx pc' ls' st' h') : run f pc ls st h = run f pc' ls' st' h' := by
  rw [run_eq, e]; rfl
theorem act_d {f pc n : Nat} {i : Instr} {ls st : List Value} {h : aH} (d : decode (cd f) pc = .ok (i, n)) : act f pc ls st h = actI f pc i n ls st h := by unfold act; rw [d]
section Eq1
variable {f pc : Nat} {ls st : List Value} {h : aH}
theorem e_iconst {k : Int} {v : Int32} (d : decode (cd f) pc = .ok (.iconst k, 1)) (hv : Int32.ofInt k = v) : run f pc ls st h = run f (pc + 1) ls (.int v :: st) h := run_nx (by rw [act_d d, ← hv]; rfl)
theorem e_bipush {k : Int} {v : Int32} (d : decode (cd f) pc = .ok (.bipush k, 2)) (hv : (Int8.ofInt k).toInt32 = v) : run f pc ls st h = run f (pc + 2) ls (.int v :: st) h := run_nx (by rw [act_d d, ← hv]; rfl)
theorem e_sipush {k : Int} {v : Int32} (d : decode (cd f) pc = .ok (.sipush k, 3)) (hv : (Int16.ofInt k).toInt32 = v) : run f pc ls st h = run f (pc + 3) ls (.int v :: st) h := run_nx (by rw [act_d d, ← hv]; rfl)
theorem e_lconst {k : Fin 2} {v : Int64} (d : decode (cd f) pc = .ok (.lconst k, 1)) (hv : Int64.ofNat (k : Nat) = v) : run f pc ls st h = run f (pc + 1) ls (.long v :: st) h := run_nx (by rw [act_d d, ← hv]; rfl)
theorem e_ldc {k : Nat} {v : Int32} (d : decode (cd f) pc = .ok (.ldc k, 2)) (hv : pkG pI (cN f) k = some v) : run f pc ls st h = run f (pc + 2) ls (.int v :: st) h := run_nx (by rw [act_d d]; show (match pkG pI (cN f) k with | some v => nx (pc + 2) ls (.int v :: st) h | none => none) = _; rw [hv])
theorem e_ldc_w {k : Nat} {v : Int32} (d : decode (cd f) pc = .ok (.ldc_w k, 3)) (hv : pkG pI (cN f) k = some v) : run f pc ls st h = run f (pc + 3) ls (.int v :: st) h := run_nx (by rw [act_d d]; show (match pkG pI (cN f) k with | some v => nx (pc + 3) ls (.int v :: st) h | none => none) = _; rw [hv])
theorem e_ldc2_w {k : Nat} {v : Int64} (d : decode (cd f) pc = .ok (.ldc2_w k, 3)) (hv : pkG pL (cN f) k = some v) : run f pc ls st h = run f (pc + 3) ls (.long v :: st) h := run_nx (by rw [act_d d]; show (match pkG pL (cN f) k with | some v => nx (pc + 3) ls (.long v :: st) h | none => none) = _; rw [hv])
theorem e_iload_n {k : Fin 4} {x : Int32} (d : decode (cd f) pc = .ok (.iload_n k, 1)) (hl : ls[(k : Nat)]? = some (.int x)) : run f pc ls st h = run f (pc + 1) ls (.int x :: st) h := run_nx (by rw [act_d d]; show ldI _ _ _ _ _ = _; unfold ldI; rw [hl])
theorem e_iload {k : Nat} {x : Int32} (d : decode (cd f) pc = .ok (.iload k, 2)) (hl : ls[k]? = some (.int x)) : run f pc ls st h = run f (pc + 2) ls (.int x :: st) h := run_nx (by rw [act_d d]; show ldI _ _ _ _ _ = _; unfold ldI; rw [hl])
theorem e_aload_n {k : Fin 4} {x : Nat} (d : decode (cd f) pc = .ok (.aload_n k, 1)) (hl : ls[(k : Nat)]? = some (.ref x)) : run f pc ls st h = run f (pc + 1) ls (.ref x :: st) h := run_nx (by rw [act_d d]; show ldA _ _ _ _ _ = _; unfold ldA; rw [hl])
theorem e_aload {k : Nat} {x : Nat} (d : decode (cd f) pc = .ok (.aload k, 2)) (hl : ls[k]? = some (.ref x)) : run f pc ls st h = run f (pc + 2) ls (.ref x :: st) h := run_nx (by rw [act_d d]; show ldA _ _ _ _ _ = _; unfold ldA; rw [hl])
theorem e_lload_n {k : Fin 4} {x : Int64} (d : decode (cd f) pc = .ok (.lload_n k, 1)) (hl : ls[(k : Nat)]? = some (.long x)) (hl2 : ls[(k : Nat) + 1]? = some (.retAddr 0)) : run f pc ls st h = run f (pc + 1) ls (.long x :: st) h := run_nx (by rw [act_d d]; show ldL _ _ _ _ _ = _; unfold ldL; rw [hl, hl2]; rfl)
theorem e_istore_n {k : Fin 4} {x : Int32} (d : decode (cd f) pc = .ok (.istore_n k, 1)) (hl : (k : Nat) < ls.length) : run f pc ls (.int x :: st) h = run f (pc + 1) (ls.set k (.int x)) st h := run_nx (by rw [act_d d]; show (if (k : Nat) < ls.length then nx (pc + 1) (ls.set (k : Nat) (.int x)) st h else none) = _; rw [if_pos hl])
theorem e_istore {k : Nat} {x : Int32} (d : decode (cd f) pc = .ok (.istore k, 2)) (hl : k < ls.length) : run f pc ls (.int x :: st) h = run f (pc + 2) (ls.set k (.int x)) st h := run_nx (by rw [act_d d]; show (if k < ls.length then nx (pc + 2) (ls.set k (.int x)) st h else none) = _; rw [if_pos hl])
theorem e_astore_n {k : Fin 4} {x : Nat} (d : decode (cd f) pc = .ok (.astore_n k, 1)) (hl : (k : Nat) < ls.length) : run f pc ls (.ref x :: st) h = run f (pc + 1) (ls.set k (.ref x)) st h := run_nx (by rw [act_d d]; show (if (k : Nat) < ls.length then nx (pc + 1) (ls.set (k : Nat) (.ref x)) st h else none) = _; rw [if_pos hl])
theorem e_astore {k : Nat} {x : Nat} (d : decode (cd f) pc = .ok (.astore k, 2)) (hl : k < ls.length) : run f pc ls (.ref x :: st) h = run f (pc + 2) (ls.set k (.ref x)) st h := run_nx (by rw [act_d d]; show (if k < ls.length then nx (pc + 2) (ls.set k (.ref x)) st h else none) = _; rw [if_pos hl])
theorem e_lstore_n {k : Fin 4} {x : Int64} (d : decode (cd f) pc = .ok (.lstore_n k, 1)) (hl : (k : Nat) + 1 < ls.length) : run f pc ls (.long x :: st) h = run f (pc + 1) ((ls.set k (.long x)).set ((k : Nat) + 1) (.retAddr 0)) st h := run_nx (by rw [act_d d]; show (if (k : Nat) + 1 < ls.length then nx (pc + 1) ((ls.set k (.long x)).set ((k : Nat) + 1) (.retAddr 0)) st h else none) = _; rw [if_pos hl])
theorem e_iinc {k : Nat} {z : Int} {x v : Int32} (d : decode (cd f) pc = .ok (.iinc k z, 3)) (hl : ls[k]? = some (.int x)) (hv : Int32.ofInt z = v) : run f pc ls st h = run f (pc + 3) (ls.set k (.int (x + v))) st h := run_nx (by rw [act_d d, ← hv]; show (match ls[k]? with | some (.int x) => nx (pc + 3) (ls.set k (.int (x + Int32.ofInt z))) st h | _ => none) = _; rw [hl])
theorem e_iadd {x y : Int32} (d : decode (cd f) pc = .ok (.iadd, 1)) : run f pc ls (.int y :: .int x :: st) h = run f (pc + 1) ls (.int (x + y) :: st) h := run_nx (by rw [act_d d]; rfl)
theorem e_isub {x y : Int32} (d : decode (cd f) pc = .ok (.isub, 1)) : run f pc ls (.int y :: .int x :: st) h = run f (pc + 1) ls (.int (x - y) :: st) h := run_nx (by rw [act_d d]; rfl)
theorem e_imul {x y : Int32} (d : decode (cd f) pc = .ok (.imul, 1)) : run f pc ls (.int y :: .int x :: st) h = run f (pc + 1) ls (.int (x * y) :: st) h := run_nx (by rw [act_d d]; rfl)
theorem e_iand {x y : Int32} (d : decode (cd f) pc = .ok (.iand, 1)) : run f pc ls (.int y :: .int x :: st) h = run f (pc + 1) ls (.int (x &&& y) :: st) h := run_nx (by rw [act_d d]; rfl)
theorem e_ior {x y : Int32} (d : decode (cd f) pc = .ok (.ior, 1)) : run f pc ls (.int y :: .int x :: st) h = run f (pc + 1) ls (.int (x ||| y) :: st) h := run_nx (by rw [act_d d]; rfl)
theorem e_ixor {x y : Int32} (d : decode (cd f) pc = .ok (.ixor, 1)) : run f pc ls (.int y :: .int x :: st) h = run f (pc + 1) ls (.int (x ^^^ y) :: st) h := run_nx (by rw [act_d d]; rfl)
theorem e_ishl {x y : Int32} (d : decode (cd f) pc = .ok (.ishl, 1)) : run f pc ls (.int y :: .int x :: st) h = run f (pc + 1) ls (.int (x <<< (y &&& 31)) :: st) h := run_nx (by rw [act_d d]; rfl)
theorem e_ishr {x y : Int32} (d : decode (cd f) pc = .ok (.ishr, 1)) : run f pc ls (.int y :: .int x :: st) h = run f (pc + 1) ls (.int (x >>> (y &&& 31)) :: st) h := run_nx (by rw [act_d d]; rfl)
theorem e_iushr {x y : Int32} (d : decode (cd f) pc = .ok (.iushr, 1)) : run f pc ls (.int y :: .int x :: st) h = run f (pc + 1) ls (.int (x.toUInt32 >>> (y.toUInt32 &&& Int32.toUInt32 31)).toInt32 :: st) h := run_nx (by rw [act_d d]; rfl)
theorem e_idiv {x y : Int32} (d : decode (cd f) pc = .ok (.idiv, 1)) : run f pc ls (.int y :: .int x :: st) h = if y = 0 then none else run f (pc + 1) ls (.int (x / y) :: st) h := by
  rw [run_eq, act_d d, show actI f pc .idiv 1 ls (.int y :: .int x :: st) h = op2I (fun x y => if y = 0 then none else some (x / y)) pc ls (.int y :: .int x :: st) h from rfl]; unfold op2I; dsimp only; by_cases hy : y = 0
  · rw [if_pos hy, if_pos hy]
  · rw [if_neg hy, if_neg hy]; rfl
theorem e_irem {x y : Int32} (d : decode (cd f) pc = .ok (.irem, 1)) : run f pc ls (.int y :: .int x :: st) h = if y = 0 then none else run f (pc + 1) ls (.int (x - x / y * y) :: st) h := by
  rw [run_eq, act_d d, show actI f pc .irem 1 ls (.int y :: .int x :: st) h = op2I (fun x y => if y = 0 then none else some (x - x / y * y)) pc ls (.int y :: .int x :: st) h from rfl]; unfold op2I; dsimp only; by_cases hy : y = 0
  · rw [if_pos hy, if_pos hy]
  · rw [if_neg hy, if_neg hy]; rfl
theorem e_ladd {x y : Int64} (d : decode (cd f) pc = .ok (.ladd, 1)) : run f pc ls (.long y :: .long x :: st) h = run f (pc + 1) ls (.long (x + y) :: st) h := run_nx (by rw [act_d d]; rfl)
theorem e_lmul {x y : Int64} (d : decode (cd f) pc = .ok (.lmul, 1)) : run f pc ls (.long y :: .long x :: st) h = run f (pc + 1) ls (.long (x * y) :: st) h := run_nx (by rw [act_d d]; rfl)
theorem e_ldiv {x y : Int64} (d : decode (cd f) pc = .ok (.ldiv, 1)) : run f pc ls (.long y :: .long x :: st) h = if y = 0 then none else run f (pc + 1) ls (.long (x / y) :: st) h := by
  rw [run_eq, act_d d, show actI f pc .ldiv 1 ls (.long y :: .long x :: st) h = op2L (fun x y => if y = 0 then none else some (x / y)) pc ls (.long y :: .long x :: st) h from rfl]; unfold op2L; dsimp only; by_cases hy : y = 0
  · rw [if_pos hy, if_pos hy]
  · rw [if_neg hy, if_neg hy]; rfl
theorem e_lrem {x y : Int64} (d : decode (cd f) pc = .ok (.lrem, 1)) : run f pc ls (.long y :: .long x :: st) h = if y = 0 then none else run f (pc + 1) ls (.long (x - x / y * y) :: st) h := by
  rw [run_eq, act_d d, show actI f pc .lrem 1 ls (.long y :: .long x :: st) h = op2L (fun x y => if y = 0 then none else some (x - x / y * y)) pc ls (.long y :: .long x :: st) h from rfl]; unfold op2L; dsimp only; by_cases hy : y = 0
  · rw [if_pos hy, if_pos hy]
  · rw [if_neg hy, if_neg hy]; rfl
theorem e_i2l {x : Int32} (d : decode (cd f) pc = .ok (.i2l, 1)) : run f pc ls (.int x :: st) h = run f (pc + 1) ls (.long x.toInt64 :: st) h := run_nx (by rw [act_d d]; rfl)
theorem e_l2i {x : Int64} (d : decode (cd f) pc = .ok (.l2i, 1)) : run f pc ls (.long x :: st) h = run f (pc + 1) ls (.int x.toInt32 :: st) h := run_nx (by rw [act_d d]; rfl)
theorem e_i2c {x : Int32} (d : decode (cd f) pc = .ok (.i2c, 1)) : run f pc ls (.int x :: st) h = run f (pc + 1) ls (.int (x.toUInt32 % 65536).toInt32 :: st) h := run_nx (by rw [act_d d]; rfl)
theorem e_lcmp {x y : Int64} (d : decode (cd f) pc = .ok (.lcmp, 1)) : run f pc ls (.long y :: .long x :: st) h = run f (pc + 1) ls (.int (lg_cmp x y) :: st) h := run_nx (by rw [act_d d]; rfl)
theorem e_dup {v : Value} (d : decode (cd f) pc = .ok (.dup, 1)) (hv : v.category = 1) : run f pc ls (v :: st) h = run f (pc + 1) ls (v :: v :: st) h := run_nx (by rw [act_d d]; show (if v.category = 1 then nx (pc + 1) ls (v :: v :: st) h else none) = _; rw [if_pos hv])
theorem e_dup2 {v w : Value} (d : decode (cd f) pc = .ok (.dup2, 1)) (hv : v.category = 1) (hw : w.category = 1) : run f pc ls (v :: w :: st) h = run f (pc + 1) ls (v :: w :: v :: w :: st) h := run_nx (by rw [act_d d]; show (if v.category = 1 ∧ w.category = 1 then nx (pc + 1) ls (v :: w :: v :: w :: st) h else none) = _; rw [if_pos ⟨hv, hw⟩])
theorem e_pop {v : Value} (d : decode (cd f) pc = .ok (.pop, 1)) (hv : v.category = 1) : run f pc ls (v :: st) h = run f (pc + 1) ls st h := run_nx (by rw [act_d d]; show (if v.category = 1 then nx (pc + 1) ls st h else none) = _; rw [if_pos hv])
theorem e_br {b : Bool} {off : Int} {tgt : Nat} (ht : (pc : Int) + off = (tgt : Int)) : br b pc off ls st h = if b = true then nx tgt ls st h else nx (pc + 3) ls st h := by
  unfold br
  rw [ht, if_pos (Int.natCast_nonneg _), Int.toNat_natCast]
theorem e_brR {b : Bool} {off : Int} {tgt : Nat} {P : Prop} (dP : Decidable P) (hb : b = true ↔ P) (ht : (pc : Int) + off = (tgt : Int)) {st0 : List Value} (e : act f pc ls st0 h = br b pc off ls st h) : run f pc ls st0 h = @ite _ P dP (run f tgt ls st h) (run f (pc + 3) ls st h) := by
  rw [run_eq, e, e_br ht]
  by_cases hp : P
  · rw [if_pos hp, if_pos (hb.mpr hp)]; rfl
  · rw [if_neg hp, if_neg (fun q => hp (hb.mp q))]; rfl
theorem e_icmp_eq {x y : Int32} {off : Int} {tgt : Nat} (d : decode (cd f) pc = .ok (.if_icmp .eq off, 3)) (ht : (pc : Int) + off = (tgt : Int)) : run f pc ls (.int y :: .int x :: st) h = if x = y then run f tgt ls st h else run f (pc + 3) ls st h := e_brR _ (by simp [cmpI]) ht (by rw [act_d d]; rfl : _ = br (cmpI .eq x y) pc off ls st h)
theorem e_icmp_ne {x y : Int32} {off : Int} {tgt : Nat} (d : decode (cd f) pc = .ok (.if_icmp .ne off, 3)) (ht : (pc : Int) + off = (tgt : Int)) : run f pc ls (.int y :: .int x :: st) h = if x = y then run f (pc + 3) ls st h else run f tgt ls st h := by
  rw [e_brR (P := ¬ x = y) inferInstance (by simp [cmpI]) ht (by rw [act_d d]; rfl : _ = br (cmpI .ne x y) pc off ls st h)]
  by_cases hp : x = y <;> simp [hp]
theorem e_icmp_lt {x y : Int32} {off : Int} {tgt : Nat} (d : decode (cd f) pc = .ok (.if_icmp .lt off, 3)) (ht : (pc : Int) + off = (tgt : Int)) : run f pc ls (.int y :: .int x :: st) h = if x < y then run f tgt ls st h else run f (pc + 3) ls st h := e_brR _ (by simp [cmpI]) ht (by rw [act_d d]; rfl : _ = br (cmpI .lt x y) pc off ls st h)
theorem e_icmp_ge {x y : Int32} {off : Int} {tgt : Nat} (d : decode (cd f) pc = .ok (.if_icmp .ge off, 3)) (ht : (pc : Int) + off = (tgt : Int)) : run f pc ls (.int y :: .int x :: st) h = if x < y then run f (pc + 3) ls st h else run f tgt ls st h := by
  rw [e_brR (P := y ≤ x) inferInstance (by simp [cmpI]) ht (by rw [act_d d]; rfl : _ = br (cmpI .ge x y) pc off ls st h)]
  by_cases hp : x < y
  · rw [if_pos hp, if_neg (Int32.not_le.mpr hp)]
  · rw [if_neg hp, if_pos (Int32.not_lt.mp hp)]
theorem e_icmp_gt {x y : Int32} {off : Int} {tgt : Nat} (d : decode (cd f) pc = .ok (.if_icmp .gt off, 3)) (ht : (pc : Int) + off = (tgt : Int)) : run f pc ls (.int y :: .int x :: st) h = if y < x then run f tgt ls st h else run f (pc + 3) ls st h := e_brR _ (by simp [cmpI]) ht (by rw [act_d d]; rfl : _ = br (cmpI .gt x y) pc off ls st h)
theorem e_icmp_le {x y : Int32} {off : Int} {tgt : Nat} (d : decode (cd f) pc = .ok (.if_icmp .le off, 3)) (ht : (pc : Int) + off = (tgt : Int)) : run f pc ls (.int y :: .int x :: st) h = if y < x then run f (pc + 3) ls st h else run f tgt ls st h := by
  rw [e_brR (P := x ≤ y) inferInstance (by simp [cmpI]) ht (by rw [act_d d]; rfl : _ = br (cmpI .le x y) pc off ls st h)]
  by_cases hp : y < x
  · rw [if_pos hp, if_neg (Int32.not_le.mpr hp)]
  · rw [if_neg hp, if_pos (Int32.not_lt.mp hp)]
theorem e_if_eq {x : Int32} {off : Int} {tgt : Nat} (d : decode (cd f) pc = .ok (.ifCond .eq off, 3)) (ht : (pc : Int) + off = (tgt : Int)) : run f pc ls (.int x :: st) h = if x = 0 then run f tgt ls st h else run f (pc + 3) ls st h := e_brR _ (by simp [cmpI]) ht (by rw [act_d d]; rfl : _ = br (cmpI .eq x 0) pc off ls st h)
theorem e_if_ne {x : Int32} {off : Int} {tgt : Nat} (d : decode (cd f) pc = .ok (.ifCond .ne off, 3)) (ht : (pc : Int) + off = (tgt : Int)) : run f pc ls (.int x :: st) h = if x = 0 then run f (pc + 3) ls st h else run f tgt ls st h := by
  rw [e_brR (P := ¬ x = 0) inferInstance (by simp [cmpI]) ht (by rw [act_d d]; rfl : _ = br (cmpI .ne x 0) pc off ls st h)]
  by_cases hp : x = 0 <;> simp [hp]
theorem e_if_lt {x : Int32} {off : Int} {tgt : Nat} (d : decode (cd f) pc = .ok (.ifCond .lt off, 3)) (ht : (pc : Int) + off = (tgt : Int)) : run f pc ls (.int x :: st) h = if x < 0 then run f tgt ls st h else run f (pc + 3) ls st h := e_brR _ (by simp [cmpI]) ht (by rw [act_d d]; rfl : _ = br (cmpI .lt x 0) pc off ls st h)
theorem e_if_ge {x : Int32} {off : Int} {tgt : Nat} (d : decode (cd f) pc = .ok (.ifCond .ge off, 3)) (ht : (pc : Int) + off = (tgt : Int)) : run f pc ls (.int x :: st) h = if x < 0 then run f (pc + 3) ls st h else run f tgt ls st h := by
  rw [e_brR (P := 0 ≤ x) inferInstance (by simp [cmpI]) ht (by rw [act_d d]; rfl : _ = br (cmpI .ge x 0) pc off ls st h)]
  by_cases hp : x < 0
  · rw [if_pos hp, if_neg (Int32.not_le.mpr hp)]
  · rw [if_neg hp, if_pos (Int32.not_lt.mp hp)]
theorem e_if_gt {x : Int32} {off : Int} {tgt : Nat} (d : decode (cd f) pc = .ok (.ifCond .gt off, 3)) (ht : (pc : Int) + off = (tgt : Int)) : run f pc ls (.int x :: st) h = if 0 < x then run f tgt ls st h else run f (pc + 3) ls st h := e_brR _ (by simp [cmpI]) ht (by rw [act_d d]; rfl : _ = br (cmpI .gt x 0) pc off ls st h)
theorem e_if_le {x : Int32} {off : Int} {tgt : Nat} (d : decode (cd f) pc = .ok (.ifCond .le off, 3)) (ht : (pc : Int) + off = (tgt : Int)) : run f pc ls (.int x :: st) h = if 0 < x then run f (pc + 3) ls st h else run f tgt ls st h := by
  rw [e_brR (P := x ≤ 0) inferInstance (by simp [cmpI]) ht (by rw [act_d d]; rfl : _ = br (cmpI .le x 0) pc off ls st h)]
  by_cases hp : 0 < x
  · rw [if_pos hp, if_neg (Int32.not_le.mpr hp)]
  · rw [if_neg hp, if_pos (Int32.not_lt.mp hp)]
theorem e_jmp {off : Int} {tgt : Nat} (ht : (pc : Int) + off = (tgt : Int)) : jmp pc off ls st h = nx tgt ls st h := by
  unfold jmp
  rw [ht, if_pos (Int.natCast_nonneg _), Int.toNat_natCast]
theorem e_goto {off : Int} {tgt : Nat} (d : decode (cd f) pc = .ok (.goto off, 3)) (ht : (pc : Int) + off = (tgt : Int)) : run f pc ls st h = run f tgt ls st h := run_nx (by rw [act_d d]; exact e_jmp ht)
theorem e_nonnull {off : Int} {tgt b : Nat} (d : decode (cd f) pc = .ok (.ifnonnull off, 3)) (ht : (pc : Int) + off = (tgt : Int)) : run f pc ls (.ref b :: st) h = run f tgt ls st h := run_nx (by rw [act_d d]; exact e_jmp ht)
theorem e_null {off : Int} (d : decode (cd f) pc = .ok (.ifnonnull off, 3)) : run f pc ls (.null :: st) h = run f (pc + 3) ls st h := run_nx (by rw [act_d d]; rfl)
theorem e_switch {d0 lo hi off : Int} {offs : Array Int} {n tgt : Nat} {x : Int32} (d : decode (cd f) pc = .ok (.tableswitch d0 lo hi offs, n)) (hx : tsw d0 lo hi offs x = some off) (ht : (pc : Int) + off = (tgt : Int)) : run f pc ls (.int x :: st) h = run f tgt ls st h := run_nx (by rw [act_d d]; show (match tsw d0 lo hi offs x with | some off => jmp pc off ls st h | none => none) = _; rw [hx]; exact e_jmp ht)
end Eq1
