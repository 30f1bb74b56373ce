/-! equations of 'run': fields, rows, what is made, calls, ends -/
noncomputable def rA (f : Nat) (a : Option aA) : Option aR := match a with
    | none => none
    | some (.inl r) => some r
    | some (.inr (.inl q)) => run f q.1 q.2.1 q.2.2.1 q.2.2.2
    | some (.inr (.inr q)) => bK (run q.1.1 0 q.1.2.1 [] q.1.2.2) (fun v h1 => run f q.2.1 q.2.2.1 (v.toList ++ q.2.2.2) h1)
theorem run_rA {f pc n : Nat} {i : Instr} {ls st : List Value} {h : aH} (d : decode (cd f) pc = .ok (i, n)) : run f pc ls st h = rA f (actI f pc i n ls st h) := by rw [run_eq, act_d d]; rfl
def puK {α : Type} (ci k : Nat) (o : Option aC) (v : Value) (K : aC → Option α) : Option α := match o with
  | some (.inr (c, fs)) => if c = ci ∧ k < fs.length then K (.inr (c, fs.set k v)) else none
  | _ => none
theorem rA_gf {f ci k : Nat} {o : Option aC} {K : Value → Option aA} : rA f (gfK ci k o K) = gfK ci k o (fun v => rA f (K v)) := by
  unfold gfK
  split
  · split
    · split <;> rfl
    · rfl
  · rfl
theorem rA_pf {f ci k : Nat} {o : Option aC} {v : Value} {K : aC → Option aA} : rA f (pfK ci k o v K) = pfK ci k o v (fun c => rA f (K c)) := by
  unfold pfK
  split
  · split <;> rfl
  · rfl
theorem pf_pu {α : Type} {ci k : Nat} {o : Option aC} {v : Value} {K : aC → Option α} (hn : narrow (tyXf ci k) v = v) (hf : fits (tyXf ci k) v = true) : pfK ci k o v K = puK ci k o v K := by
  cases o with
  | none => rfl
  | some q =>
    cases q with
    | inl q => rfl
    | inr q =>
      obtain ⟨c, fs⟩ := q
      show (if c = ci ∧ k < fs.length ∧ narrow (tyXf ci k) v = v ∧ fits (tyXf ci k) v = true then K (.inr (c, fs.set k v)) else none) = (if c = ci ∧ k < fs.length then K (.inr (c, fs.set k v)) else none)
      by_cases h1 : c = ci ∧ k < fs.length
      · rw [if_pos h1, if_pos ⟨h1.1, h1.2, hn, hf⟩]
      · rw [if_neg h1, if_neg (fun q => h1 ⟨q.1, q.2.1⟩)]
theorem rA_al {f : Nat} {i : Int32} {o : Option aC} {p : Nat → Bool} {K : Int32 → Option aA} : rA f (alK i o p K) = alK i o p (fun x => rA f (K x)) := by
  unfold alK
  split
  · split <;> rfl
  · rfl
theorem rA_alQ {f : Nat} {i : Int32} {o : Option aC} {K : Value → Option aA} : rA f (alQ i o K) = alQ i o (fun x => rA f (K x)) := by
  unfold alQ
  split
  · split <;> rfl
  · rfl
theorem rA_as {f t0 : Nat} {i x : Int32} {o : Option aC} {K : aC → Option aA} : rA f (asK i o t0 x K) = asK i o t0 x (fun c => rA f (K c)) := by
  unfold asK
  split
  · split <;> rfl
  · rfl
theorem rA_asQ {f v : Nat} {i : Int32} {o ov : Option aC} {K : aC → Option aA} : rA f (asQ i o v ov K) = asQ i o v ov (fun c => rA f (K c)) := by
  unfold asQ
  split
  · split <;> rfl
  · rfl
theorem rA_len {f : Nat} {o : Option aC} {K : Nat → Option aA} : rA f (lenK o K) = lenK o (fun c => rA f (K c)) := by
  unfold lenK
  split
  · split <;> rfl
  · rfl
theorem rA_cc {f : Nat} {sp dp n : Int32} {o d : Option aC} {K : aC → Option aA} : rA f (ccK sp dp n o d K) = ccK sp dp n o d (fun c => rA f (K c)) := by
  unfold ccK
  split
  · split <;> rfl
  · rfl
theorem rA_rc {f ci : Nat} {o : Option aC} {K : Option aA} : rA f (rcK ci o K) = rcK ci o (rA f K) := by
  unfold rcK
  split
  · split <;> rfl
  · rfl
section Eq2
variable {f pc : Nat} {ls st : List Value} {h : aH}
theorem e_get {k ci j a : Nat} (d : decode (cd f) pc = .ok (.getfield k, 3)) (hp : pkG pF (cN f) k = some (ci, j)) : run f pc ls (.ref a :: st) h = gfK ci j (hget h a) (fun v => run f (pc + 3) ls (v :: st) h) := by
  rw [run_rA d, show actI f pc (.getfield k) 3 ls (.ref a :: st) h = (match pkG pF (cN f) k, (Value.ref a :: st : List Value) with | some (ci, j), .ref a :: r => gfK ci j (hget h a) (fun v => nx (pc + 3) ls (v :: r) h) | _, _ => none) from rfl, hp]
  exact rA_gf
theorem e_putK {k ci j a : Nat} {v : Value} (d : decode (cd f) pc = .ok (.putfield k, 3)) (hp : pkG pF (cN f) k = some (ci, j)) (hf : (TXf ci j).2.2.2 = false ∨ ((yN f).name = "<init>" ∧ ci = cN f ∧ cN f < 8)) : run f pc ls (v :: .ref a :: st) h = pfK ci j (hget h a) v (fun c => run f (pc + 3) ls st (hset h a c)) := by
  rw [run_rA d, show actI f pc (.putfield k) 3 ls (v :: .ref a :: st) h = (match pkG pF (cN f) k, (v :: Value.ref a :: st : List Value) with
    | some (ci, j), v :: .ref a :: r => if (TXf ci j).2.2.2 = false ∨ ((yN f).name = "<init>" ∧ ci = cN f ∧ cN f < 8) then pfK ci j (hget h a) v (fun c => nx (pc + 3) ls r (hset h a c)) else none
    | _, _ => none) from rfl, hp]
  dsimp only
  rw [if_pos hf]
  exact rA_pf
theorem e_put {k ci j a : Nat} {v : Value} (d : decode (cd f) pc = .ok (.putfield k, 3)) (hp : pkG pF (cN f) k = some (ci, j)) (hf : (TXf ci j).2.2.2 = false ∨ ((yN f).name = "<init>" ∧ ci = cN f ∧ cN f < 8)) (hn : narrow (tyXf ci j) v = v) (hv : fits (tyXf ci j) v = true) : run f pc ls (v :: .ref a :: st) h = puK ci j (hget h a) v (fun c => run f (pc + 3) ls st (hset h a c)) := by
  rw [e_putK d hp hf]
  exact pf_pu hn hv
theorem e_iald {i : Int32} {a : Nat} (d : decode (cd f) pc = .ok (.iaload, 1)) : run f pc ls (.int i :: .ref a :: st) h = alK i (hget h a) (fun t => t == 0 || t == 9) (fun x => run f (pc + 1) ls (.int x :: st) h) := by
  rw [run_rA d]; exact rA_al (f := f) (i := i) (o := hget h a) (p := (fun t => t == 0 || t == 9)) (K := fun x => nx (pc + 1) ls (.int x :: st) h)
theorem e_zald {i : Int32} {a : Nat} (d : decode (cd f) pc = .ok (.baload, 1)) : run f pc ls (.int i :: .ref a :: st) h = alK i (hget h a) (fun t => t == 1) (fun x => run f (pc + 1) ls (.int x :: st) h) := by
  rw [run_rA d]; exact rA_al (f := f) (i := i) (o := hget h a) (p := (fun t => t == 1)) (K := fun x => nx (pc + 1) ls (.int x :: st) h)
theorem e_cald {i : Int32} {a : Nat} (d : decode (cd f) pc = .ok (.caload, 1)) : run f pc ls (.int i :: .ref a :: st) h = alK i (hget h a) (fun t => t == 2) (fun x => run f (pc + 1) ls (.int x :: st) h) := by
  rw [run_rA d]; exact rA_al (f := f) (i := i) (o := hget h a) (p := (fun t => t == 2)) (K := fun x => nx (pc + 1) ls (.int x :: st) h)
theorem e_aald {i : Int32} {a : Nat} (d : decode (cd f) pc = .ok (.aaload, 1)) : run f pc ls (.int i :: .ref a :: st) h = alQ i (hget h a) (fun v => run f (pc + 1) ls (v :: st) h) := by
  rw [run_rA d]; exact rA_alQ (f := f) (i := i) (o := hget h a) (K := fun v => nx (pc + 1) ls (v :: st) h)
theorem e_iast {x i : Int32} {a : Nat} (d : decode (cd f) pc = .ok (.iastore, 1)) : run f pc ls (.int x :: .int i :: .ref a :: st) h = asK i (hget h a) 0 x (fun c => run f (pc + 1) ls st (hset h a c)) := by
  rw [run_rA d]; exact rA_as (f := f) (i := i) (o := hget h a) (t0 := 0) (x := x) (K := fun c => nx (pc + 1) ls st (hset h a c))
theorem e_zast {x i : Int32} {a : Nat} (d : decode (cd f) pc = .ok (.bastore, 1)) : run f pc ls (.int x :: .int i :: .ref a :: st) h = asK i (hget h a) 1 (vp_nar .boolean x) (fun c => run f (pc + 1) ls st (hset h a c)) := by
  rw [run_rA d]; exact rA_as (f := f) (i := i) (o := hget h a) (t0 := 1) (x := (vp_nar .boolean x)) (K := fun c => nx (pc + 1) ls st (hset h a c))
theorem e_cast {x i : Int32} {a : Nat} (d : decode (cd f) pc = .ok (.castore, 1)) : run f pc ls (.int x :: .int i :: .ref a :: st) h = asK i (hget h a) 2 (vp_nar .char x) (fun c => run f (pc + 1) ls st (hset h a c)) := by
  rw [run_rA d]; exact rA_as (f := f) (i := i) (o := hget h a) (t0 := 2) (x := (vp_nar .char x)) (K := fun c => nx (pc + 1) ls st (hset h a c))
theorem e_aast {v : Nat} {i : Int32} {a : Nat} (d : decode (cd f) pc = .ok (.aastore, 1)) : run f pc ls (.ref v :: .int i :: .ref a :: st) h = asQ i (hget h a) v (hget h v) (fun c => run f (pc + 1) ls st (hset h a c)) := by
  rw [run_rA d]; exact rA_asQ (f := f) (i := i) (o := hget h a) (v := v) (ov := hget h v) (K := fun c => nx (pc + 1) ls st (hset h a c))
theorem e_alen {a : Nat} (d : decode (cd f) pc = .ok (.arraylength, 1)) : run f pc ls (.ref a :: st) h = lenK (hget h a) (fun z => run f (pc + 1) ls (.int (nI z) :: st) h) := by
  rw [run_rA d]; exact rA_len (f := f) (o := hget h a) (K := fun z => nx (pc + 1) ls (.int (Int32.ofNat z) :: st) h)
theorem e_newa {t : ArrayType} {k z : Nat} (d : decode (cd f) pc = .ok (.newarray t, 2)) (ht : arT t = some k) (hz : z ≤ 10000) : run f pc ls (.int (nI z) :: st) h = run f (pc + 2) ls (.ref h.1 :: st) (hnew h z (.inl (k, z, .inl (fun _ => 0)))) := by
  rw [run_rA d, show actI f pc (.newarray t) 2 ls (.int (nI z) :: st) h = (match arT t, (Value.int (nI z) :: st : List Value) with
    | some k, .int z :: r => if ¬ z < 0 ∧ z.toNatClampNeg ≤ 10000 then nx (pc + 2) ls (.ref h.1 :: r) (hnew h z.toNatClampNeg (.inl (k, z.toNatClampNeg, .inl (fun _ => 0)))) else none
    | _, _ => none) from rfl, ht]
  dsimp only
  have hz2 : z < 2 ^ 31 := Nat.lt_of_le_of_lt hz (by decide)
  rw [nI_clamp hz2, if_pos ⟨nI_pos hz2, hz⟩]
  rfl
theorem e_newq {k ci j t z : Nat} (d : decode (cd f) pc = .ok (.anewarray k, 3)) (hp : pkG pC (cN f) k = some (ci, j)) (ht : anT ci = some t) (hz : z ≤ 10000) : run f pc ls (.int (nI z) :: st) h = run f (pc + 3) ls (.ref h.1 :: st) (hnew h z (.inl (t, z, .inr (fun _ => none)))) := by
  rw [run_rA d, show actI f pc (.anewarray k) 3 ls (.int (nI z) :: st) h = (match pkG pC (cN f) k, (Value.int (nI z) :: st : List Value) with
    | some (ci, _), .int z :: r => match anT ci with
      | some t => if ¬ z < 0 ∧ z.toNatClampNeg ≤ 10000 then nx (pc + 3) ls (.ref h.1 :: r) (hnew h z.toNatClampNeg (.inl (t, z.toNatClampNeg, .inr (fun _ => none)))) else none
      | none => none
    | _, _ => none) from rfl, hp]
  dsimp only
  have hz2 : z < 2 ^ 31 := Nat.lt_of_le_of_lt hz (by decide)
  rw [ht]
  dsimp only
  rw [nI_clamp hz2, if_pos ⟨nI_pos hz2, hz⟩]
  rfl
theorem e_new {k ci j n : Nat} {fs : List Value} (d : decode (cd f) pc = .ok (.new k, 3)) (hp : pkG pC (cN f) k = some (ci, j)) (hn : nFl.getD ci 0 = n) (hf : (List.range n).map (fun j => dfl (tyXf ci j)) = fs) : run f pc ls st h = run f (pc + 3) ls (.ref h.1 :: st) (hnew h n (.inr (ci, fs))) := by
  rw [run_rA d, show actI f pc (.new k) 3 ls st h = (match pkG pC (cN f) k with
    | some (ci, _) => nx (pc + 3) ls (.ref h.1 :: st) (hnew h (nFl.getD ci 0) (.inr (ci, (List.range (nFl.getD ci 0)).map (fun j => dfl (tyXf ci j)))))
    | none => none) from rfl, hp]
  dsimp only
  rw [hn, hf]
  rfl
theorem rA_call {g : Nat} {vs rest lsg : List Value} (hR : (fRm g + 1 ≤ fRm f ∧ 8 + (mL g + 11) + lRm g ≤ lRm f) ∧ catS rest ≤ 8 ∧ (aSl vs).length ≤ mL g) (hls : aEnt (mL g) vs = lsg) : rA f (callK f g vs (pc + 3) ls rest h) = bK (run g 0 lsg [] h) (fun v h1 => run f (pc + 3) ls (v.toList ++ rest) h1) := by
  unfold callK
  rw [if_pos ⟨hR.1.1, hR.1.2, hR.2.1, hR.2.2⟩, hls]
  rfl
theorem e_callV {k g n b : Nat} {vs rest lsg : List Value} (d : decode (cd f) pc = .ok (.invokevirtual k, 3)) (hp : pkG pM (cN f) k = some (g, n)) (hm : (mtP.getD g (0, 0, 99999, 0, true)).2.2.2.2 = false ∧ (mtP.getD g (0, 0, 99999, 0, true)).2.2.1 ≠ 99999 ∧ (yN g).name ≠ "<init>") (hr : fRm g + 1 ≤ fRm f ∧ 8 + (mL g + 11) + lRm g ≤ lRm f) (hdr : st.drop n = .ref b :: rest) (hle : n ≤ st.length) (hvs : .ref b :: (st.take n).reverse = vs) (hR : catS rest ≤ 8 ∧ (aSl vs).length ≤ mL g) (hls : aEnt (mL g) vs = lsg) :
    run f pc ls st h = rcK (cN g) (hget h b) (bK (run g 0 lsg [] h) (fun v h1 => run f (pc + 3) ls (v.toList ++ rest) h1)) := by
  rw [run_rA d, show actI f pc (.invokevirtual k) 3 ls st h = invV f k (pc + 3) ls st h from rfl]
  unfold invV
  rw [hp]
  dsimp only
  rw [hdr]
  dsimp only
  rw [if_pos ⟨hle, hm⟩, rA_rc, hvs, rA_call ⟨hr, hR⟩ hls]
theorem e_callS {k g n : Nat} {vs rest lsg : List Value} (d : decode (cd f) pc = .ok (.invokestatic k, 3)) (hp : pkG pM (cN f) k = some (g, n)) (hm : (mtP.getD g (0, 0, 99999, 0, false)).2.2.2.2 = true) (hr : fRm g + 1 ≤ fRm f ∧ 8 + (mL g + 11) + lRm g ≤ lRm f) (hdr : st.drop n = rest) (hle : n ≤ st.length) (hvs : (st.take n).reverse = vs) (hR : catS rest ≤ 8 ∧ (aSl vs).length ≤ mL g) (hls : aEnt (mL g) vs = lsg) :
    run f pc ls st h = bK (run g 0 lsg [] h) (fun v h1 => run f (pc + 3) ls (v.toList ++ rest) h1) := by
  rw [run_rA d, show actI f pc (.invokestatic k) 3 ls st h = invS f k (pc + 3) ls st h from rfl]
  unfold invS
  rw [hp]
  dsimp only
  rw [if_pos ⟨hle, hm⟩, hvs, hdr, rA_call ⟨hr, hR⟩ hls]
theorem e_callI {k g n b : Nat} {vs rest lsg : List Value} (d : decode (cd f) pc = .ok (.invokespecial k, 3)) (hp : pkG pM (cN f) k = some (g, n)) (hm : (mtP.getD g (0, 0, 99999, 0, true)).2.2.2.2 = false ∧ (yN g).name = "<init>" ∧ rT g = none) (hr : fRm g + 1 ≤ fRm f ∧ 8 + (mL g + 11) + lRm g ≤ lRm f) (hdr : st.drop n = .ref b :: rest) (hle : n ≤ st.length) (hvs : .ref b :: (st.take n).reverse = vs) (hR : catS rest ≤ 8 ∧ (aSl vs).length ≤ mL g) (hls : aEnt (mL g) vs = lsg) :
    run f pc ls st h = bK (run g 0 lsg [] h) (fun v h1 => run f (pc + 3) ls (v.toList ++ rest) h1) := by
  rw [run_rA d, show actI f pc (.invokespecial k) 3 ls st h = invI f k (pc + 3) ls st h from rfl]
  unfold invI
  rw [hp]
  dsimp only
  rw [hdr]
  dsimp only
  rw [if_pos ⟨hle, hm⟩, hvs, rA_call ⟨hr, hR⟩ hls]
theorem e_oini {k x b : Nat} (d : decode (cd f) pc = .ok (.invokespecial k, 3)) (hp : pkG pM (cN f) k = none) (hq : pkG pX (cN f) k = some (0, x)) (hr : 1 ≤ fRm f ∧ 20 ≤ lRm f) (hc : catS st ≤ 8) : run f pc ls (.ref b :: st) h = run f (pc + 3) ls st h := by
  rw [run_rA d, show actI f pc (.invokespecial k) 3 ls (.ref b :: st) h = invI f k (pc + 3) ls (.ref b :: st) h from rfl]
  unfold invI
  rw [hp, hq]
  show rA f (if 1 ≤ fRm f ∧ 20 ≤ lRm f ∧ catS st ≤ 8 then nx (pc + 3) ls st h else none) = _
  rw [if_pos ⟨hr.1, hr.2, hc⟩]
  rfl
theorem e_copy {k x a a0 : Nat} {n dp sp : Int32} (d : decode (cd f) pc = .ok (.invokestatic k, 3)) (hp : pkG pM (cN f) k = none) (hq : pkG pX (cN f) k = some (1, x)) (hr : 1 ≤ fRm f ∧ 26 ≤ lRm f) (hc : catS st ≤ 8) : run f pc ls (.int n :: .int dp :: .ref a :: .int sp :: .ref a0 :: st) h = ccK sp dp n (hget h a0) (hget h a) (fun c => run f (pc + 3) ls st (hset h a c)) := by
  rw [run_rA d, show actI f pc (.invokestatic k) 3 ls (.int n :: .int dp :: .ref a :: .int sp :: .ref a0 :: st) h = invS f k (pc + 3) ls (.int n :: .int dp :: .ref a :: .int sp :: .ref a0 :: st) h from rfl]
  unfold invS
  rw [hp, hq]
  show rA f (if 1 ≤ fRm f ∧ 26 ≤ lRm f ∧ catS st ≤ 8 then ccK sp dp n (hget h a0) (hget h a) (fun c => nx (pc + 3) ls st (hset h a c)) else none) = _
  rw [if_pos ⟨hr.1, hr.2, hc⟩]
  exact rA_cc
theorem e_ireturn {x : Int32} (d : decode (cd f) pc = .ok (.ireturn, 1)) (hr : rT f = some .int) : run f pc ls [.int x] h = some (some (.int x), h) := by
  rw [run_rA d, show actI f pc .ireturn 1 ls [.int x] h = retK f x h from rfl]
  unfold retK
  rw [if_pos (Or.inl hr)]
  rfl
theorem e_zreturn {x : Int32} (d : decode (cd f) pc = .ok (.ireturn, 1)) (hr : rT f = some .boolean) : run f pc ls [.int x] h = if x = 0 ∨ x = 1 then some (some (.int x), h) else none := by
  rw [run_rA d, show actI f pc .ireturn 1 ls [.int x] h = retK f x h from rfl]
  unfold retK
  by_cases hx : x = 0 ∨ x = 1
  · rw [if_pos (Or.inr ⟨hr, hx⟩), if_pos hx]
    rfl
  · rw [if_neg, if_neg hx]
    · rfl
    · rintro (q | q)
      · rw [hr] at q; cases q
      · exact hx q.2
theorem e_lreturn {x : Int64} (d : decode (cd f) pc = .ok (.lreturn, 1)) (hr : rT f = some .long) : run f pc ls [.long x] h = some (some (.long x), h) := by
  rw [run_rA d, show actI f pc .lreturn 1 ls [.long x] h = (if rT f = some .long then some (.inl (some (.long x), h)) else none) from rfl, if_pos hr]
  rfl
theorem e_return {x : Unit} (d : decode (cd f) pc = .ok (.return_, 1)) (hr : rT f = none) : run f pc ls [] h = some (none, h) := by
  rw [run_rA d, show actI f pc .return_ 1 ls [] h = (if rT f = none then some (.inl (none, h)) else none) from rfl, if_pos hr]
  rfl
end Eq2
def swT (f pc : Nat) (x : Int32) (tgt : Nat) : Bool := match decode (cd f) pc with
  | .ok (.tableswitch d lo hi offs, _) => match tsw d lo hi offs x with
    | some off => decide ((pc : Int) + off = (tgt : Int))
    | none => false
  | _ => false
theorem e_sw {f pc tgt : Nat} {ls st : List Value} {h : aH} {x : Int32} (hs : swT f pc x tgt = true) : run f pc ls (.int x :: st) h = run f tgt ls st h := by
  unfold swT at hs
  split at hs
  · rename_i d
    split at hs
    · rename_i off ho
      exact e_switch d ho (of_decide_eq_true hs)
    · cases hs
  · cases hs
section K2
variable {α : Type} {ci : Nat}
theorem gf0 {v0 : Value} {r : List Value} {K : Value → Option α} : gfK ci 0 (some (.inr (ci, v0 :: r))) K = K v0 := by simp [gfK]
theorem gf1 {v0 v1 : Value} {r : List Value} {K : Value → Option α} : gfK ci 1 (some (.inr (ci, v0 :: v1 :: r))) K = K v1 := by simp [gfK]
theorem gf2 {v0 v1 v2 : Value} {r : List Value} {K : Value → Option α} : gfK ci 2 (some (.inr (ci, v0 :: v1 :: v2 :: r))) K = K v2 := by simp [gfK]
theorem gf3 {v0 v1 v2 v3 : Value} {r : List Value} {K : Value → Option α} : gfK ci 3 (some (.inr (ci, v0 :: v1 :: v2 :: v3 :: r))) K = K v3 := by simp [gfK]
theorem gf4 {v0 v1 v2 v3 v4 : Value} {r : List Value} {K : Value → Option α} : gfK ci 4 (some (.inr (ci, v0 :: v1 :: v2 :: v3 :: v4 :: r))) K = K v4 := by simp [gfK]
theorem gf5 {v0 v1 v2 v3 v4 v5 : Value} {r : List Value} {K : Value → Option α} : gfK ci 5 (some (.inr (ci, v0 :: v1 :: v2 :: v3 :: v4 :: v5 :: r))) K = K v5 := by simp [gfK]
theorem gf6 {v0 v1 v2 v3 v4 v5 v6 : Value} {r : List Value} {K : Value → Option α} : gfK ci 6 (some (.inr (ci, v0 :: v1 :: v2 :: v3 :: v4 :: v5 :: v6 :: r))) K = K v6 := by simp [gfK]
theorem gf7 {v0 v1 v2 v3 v4 v5 v6 v7 : Value} {r : List Value} {K : Value → Option α} : gfK ci 7 (some (.inr (ci, v0 :: v1 :: v2 :: v3 :: v4 :: v5 :: v6 :: v7 :: r))) K = K v7 := by simp [gfK]
theorem gf8 {v0 v1 v2 v3 v4 v5 v6 v7 v8 : Value} {r : List Value} {K : Value → Option α} : gfK ci 8 (some (.inr (ci, v0 :: v1 :: v2 :: v3 :: v4 :: v5 :: v6 :: v7 :: v8 :: r))) K = K v8 := by simp [gfK]
theorem gf9 {v0 v1 v2 v3 v4 v5 v6 v7 v8 v9 : Value} {r : List Value} {K : Value → Option α} : gfK ci 9 (some (.inr (ci, v0 :: v1 :: v2 :: v3 :: v4 :: v5 :: v6 :: v7 :: v8 :: v9 :: r))) K = K v9 := by simp [gfK]
theorem gf10 {v0 v1 v2 v3 v4 v5 v6 v7 v8 v9 v10 : Value} {r : List Value} {K : Value → Option α} : gfK ci 10 (some (.inr (ci, v0 :: v1 :: v2 :: v3 :: v4 :: v5 :: v6 :: v7 :: v8 :: v9 :: v10 :: r))) K = K v10 := by simp [gfK]
theorem gf11 {v0 v1 v2 v3 v4 v5 v6 v7 v8 v9 v10 v11 : Value} {r : List Value} {K : Value → Option α} : gfK ci 11 (some (.inr (ci, v0 :: v1 :: v2 :: v3 :: v4 :: v5 :: v6 :: v7 :: v8 :: v9 :: v10 :: v11 :: r))) K = K v11 := by simp [gfK]
theorem gf12 {v0 v1 v2 v3 v4 v5 v6 v7 v8 v9 v10 v11 v12 : Value} {r : List Value} {K : Value → Option α} : gfK ci 12 (some (.inr (ci, v0 :: v1 :: v2 :: v3 :: v4 :: v5 :: v6 :: v7 :: v8 :: v9 :: v10 :: v11 :: v12 :: r))) K = K v12 := by simp [gfK]
theorem gf13 {v0 v1 v2 v3 v4 v5 v6 v7 v8 v9 v10 v11 v12 v13 : Value} {r : List Value} {K : Value → Option α} : gfK ci 13 (some (.inr (ci, v0 :: v1 :: v2 :: v3 :: v4 :: v5 :: v6 :: v7 :: v8 :: v9 :: v10 :: v11 :: v12 :: v13 :: r))) K = K v13 := by simp [gfK]
theorem gf14 {v0 v1 v2 v3 v4 v5 v6 v7 v8 v9 v10 v11 v12 v13 v14 : Value} {r : List Value} {K : Value → Option α} : gfK ci 14 (some (.inr (ci, v0 :: v1 :: v2 :: v3 :: v4 :: v5 :: v6 :: v7 :: v8 :: v9 :: v10 :: v11 :: v12 :: v13 :: v14 :: r))) K = K v14 := by simp [gfK]
theorem pu0 {v v0 : Value} {r : List Value} {K : aC → Option α} : puK ci 0 (some (.inr (ci, v0 :: r))) v K = K (.inr (ci, v :: r)) := by simp [puK]
theorem pu1 {v v0 v1 : Value} {r : List Value} {K : aC → Option α} : puK ci 1 (some (.inr (ci, v0 :: v1 :: r))) v K = K (.inr (ci, v0 :: v :: r)) := by simp [puK]
theorem pu2 {v v0 v1 v2 : Value} {r : List Value} {K : aC → Option α} : puK ci 2 (some (.inr (ci, v0 :: v1 :: v2 :: r))) v K = K (.inr (ci, v0 :: v1 :: v :: r)) := by simp [puK]
theorem pu3 {v v0 v1 v2 v3 : Value} {r : List Value} {K : aC → Option α} : puK ci 3 (some (.inr (ci, v0 :: v1 :: v2 :: v3 :: r))) v K = K (.inr (ci, v0 :: v1 :: v2 :: v :: r)) := by simp [puK]
theorem pu4 {v v0 v1 v2 v3 v4 : Value} {r : List Value} {K : aC → Option α} : puK ci 4 (some (.inr (ci, v0 :: v1 :: v2 :: v3 :: v4 :: r))) v K = K (.inr (ci, v0 :: v1 :: v2 :: v3 :: v :: r)) := by simp [puK]
theorem pu5 {v v0 v1 v2 v3 v4 v5 : Value} {r : List Value} {K : aC → Option α} : puK ci 5 (some (.inr (ci, v0 :: v1 :: v2 :: v3 :: v4 :: v5 :: r))) v K = K (.inr (ci, v0 :: v1 :: v2 :: v3 :: v4 :: v :: r)) := by simp [puK]
theorem pu6 {v v0 v1 v2 v3 v4 v5 v6 : Value} {r : List Value} {K : aC → Option α} : puK ci 6 (some (.inr (ci, v0 :: v1 :: v2 :: v3 :: v4 :: v5 :: v6 :: r))) v K = K (.inr (ci, v0 :: v1 :: v2 :: v3 :: v4 :: v5 :: v :: r)) := by simp [puK]
theorem pu7 {v v0 v1 v2 v3 v4 v5 v6 v7 : Value} {r : List Value} {K : aC → Option α} : puK ci 7 (some (.inr (ci, v0 :: v1 :: v2 :: v3 :: v4 :: v5 :: v6 :: v7 :: r))) v K = K (.inr (ci, v0 :: v1 :: v2 :: v3 :: v4 :: v5 :: v6 :: v :: r)) := by simp [puK]
theorem pu8 {v v0 v1 v2 v3 v4 v5 v6 v7 v8 : Value} {r : List Value} {K : aC → Option α} : puK ci 8 (some (.inr (ci, v0 :: v1 :: v2 :: v3 :: v4 :: v5 :: v6 :: v7 :: v8 :: r))) v K = K (.inr (ci, v0 :: v1 :: v2 :: v3 :: v4 :: v5 :: v6 :: v7 :: v :: r)) := by simp [puK]
theorem pu9 {v v0 v1 v2 v3 v4 v5 v6 v7 v8 v9 : Value} {r : List Value} {K : aC → Option α} : puK ci 9 (some (.inr (ci, v0 :: v1 :: v2 :: v3 :: v4 :: v5 :: v6 :: v7 :: v8 :: v9 :: r))) v K = K (.inr (ci, v0 :: v1 :: v2 :: v3 :: v4 :: v5 :: v6 :: v7 :: v8 :: v :: r)) := by simp [puK]
theorem pu10 {v v0 v1 v2 v3 v4 v5 v6 v7 v8 v9 v10 : Value} {r : List Value} {K : aC → Option α} : puK ci 10 (some (.inr (ci, v0 :: v1 :: v2 :: v3 :: v4 :: v5 :: v6 :: v7 :: v8 :: v9 :: v10 :: r))) v K = K (.inr (ci, v0 :: v1 :: v2 :: v3 :: v4 :: v5 :: v6 :: v7 :: v8 :: v9 :: v :: r)) := by simp [puK]
theorem pu11 {v v0 v1 v2 v3 v4 v5 v6 v7 v8 v9 v10 v11 : Value} {r : List Value} {K : aC → Option α} : puK ci 11 (some (.inr (ci, v0 :: v1 :: v2 :: v3 :: v4 :: v5 :: v6 :: v7 :: v8 :: v9 :: v10 :: v11 :: r))) v K = K (.inr (ci, v0 :: v1 :: v2 :: v3 :: v4 :: v5 :: v6 :: v7 :: v8 :: v9 :: v10 :: v :: r)) := by simp [puK]
theorem pu12 {v v0 v1 v2 v3 v4 v5 v6 v7 v8 v9 v10 v11 v12 : Value} {r : List Value} {K : aC → Option α} : puK ci 12 (some (.inr (ci, v0 :: v1 :: v2 :: v3 :: v4 :: v5 :: v6 :: v7 :: v8 :: v9 :: v10 :: v11 :: v12 :: r))) v K = K (.inr (ci, v0 :: v1 :: v2 :: v3 :: v4 :: v5 :: v6 :: v7 :: v8 :: v9 :: v10 :: v11 :: v :: r)) := by simp [puK]
theorem pu13 {v v0 v1 v2 v3 v4 v5 v6 v7 v8 v9 v10 v11 v12 v13 : Value} {r : List Value} {K : aC → Option α} : puK ci 13 (some (.inr (ci, v0 :: v1 :: v2 :: v3 :: v4 :: v5 :: v6 :: v7 :: v8 :: v9 :: v10 :: v11 :: v12 :: v13 :: r))) v K = K (.inr (ci, v0 :: v1 :: v2 :: v3 :: v4 :: v5 :: v6 :: v7 :: v8 :: v9 :: v10 :: v11 :: v12 :: v :: r)) := by simp [puK]
theorem pu14 {v v0 v1 v2 v3 v4 v5 v6 v7 v8 v9 v10 v11 v12 v13 v14 : Value} {r : List Value} {K : aC → Option α} : puK ci 14 (some (.inr (ci, v0 :: v1 :: v2 :: v3 :: v4 :: v5 :: v6 :: v7 :: v8 :: v9 :: v10 :: v11 :: v12 :: v13 :: v14 :: r))) v K = K (.inr (ci, v0 :: v1 :: v2 :: v3 :: v4 :: v5 :: v6 :: v7 :: v8 :: v9 :: v10 :: v11 :: v12 :: v13 :: v :: r)) := by simp [puK]
theorem rc_at {fs : List Value} {K : Option α} : rcK ci (some (.inr (ci, fs))) K = K := by simp [rcK]
theorem al_I {j n : Nat} {g : Nat → Int32} {K : Int32 → Option α} (hj : j < n) (hn : n < 2 ^ 31) : alK (nI j) (some (.inl (0, n, .inl g))) (fun t => t == 0 || t == 9) K = K (g j) := by
  have h1 : j < 2 ^ 31 := Nat.lt_trans hj hn
  unfold alK
  dsimp only
  rw [nI_clamp h1, if_pos ⟨rfl, fun q => q.elim (nI_pos h1) (fun q => by omega)⟩]
theorem al_S {j n : Nat} {g : Nat → Int32} {K : Int32 → Option α} (hj : j < n) (hn : n < 2 ^ 31) : alK (nI j) (some (.inl (9, n, .inl g))) (fun t => t == 0 || t == 9) K = K (g j) := by
  have h1 : j < 2 ^ 31 := Nat.lt_trans hj hn
  unfold alK
  dsimp only
  rw [nI_clamp h1, if_pos ⟨rfl, fun q => q.elim (nI_pos h1) (fun q => by omega)⟩]
theorem al_Z {j n : Nat} {g : Nat → Int32} {K : Int32 → Option α} (hj : j < n) (hn : n < 2 ^ 31) : alK (nI j) (some (.inl (1, n, .inl g))) (fun t => t == 1) K = K (g j) := by
  have h1 : j < 2 ^ 31 := Nat.lt_trans hj hn
  unfold alK
  dsimp only
  rw [nI_clamp h1, if_pos ⟨rfl, fun q => q.elim (nI_pos h1) (fun q => by omega)⟩]
theorem al_C {j n : Nat} {g : Nat → Int32} {K : Int32 → Option α} (hj : j < n) (hn : n < 2 ^ 31) : alK (nI j) (some (.inl (2, n, .inl g))) (fun t => t == 2) K = K (g j) := by
  have h1 : j < 2 ^ 31 := Nat.lt_trans hj hn
  unfold alK
  dsimp only
  rw [nI_clamp h1, if_pos ⟨rfl, fun q => q.elim (nI_pos h1) (fun q => by omega)⟩]
theorem al_Q {j n t : Nat} {g : Nat → Option Nat} {K : Value → Option α} (ht : t = 3 ∨ t = 4 ∨ t = 5) (hj : j < n) (hn : n < 2 ^ 31) : alQ (nI j) (some (.inl (t, n, .inr g))) K = K (va_rf (g j)) := by
  have h1 : j < 2 ^ 31 := Nat.lt_trans hj hn
  unfold alQ
  dsimp only
  rw [nI_clamp h1, if_pos ⟨ht, fun q => q.elim (nI_pos h1) (fun q => by omega)⟩]
theorem as_I {t0 j n : Nat} {x : Int32} {g : Nat → Int32} {K : aC → Option α} (hj : j < n) (hn : n < 2 ^ 31) : asK (nI j) (some (.inl (t0, n, .inl g))) t0 x K = K (.inl (t0, n, .inl (upd g j x))) := by
  have h1 : j < 2 ^ 31 := Nat.lt_trans hj hn
  unfold asK
  dsimp only
  rw [nI_clamp h1, if_pos ⟨rfl, fun q => q.elim (nI_pos h1) (fun q => by omega)⟩]
theorem as_Q {t j n v ci : Nat} {vs : List Value} {g : Nat → Option Nat} {K : aC → Option α} (ht : t = 3 ∨ t = 4 ∨ t = 5) (hc : ci = arC t) (hj : j < n) (hn : n < 2 ^ 31) : asQ (nI j) (some (.inl (t, n, .inr g))) v (some (.inr (ci, vs))) K = K (.inl (t, n, .inr (va_up g j (some v)))) := by
  have h1 : j < 2 ^ 31 := Nat.lt_trans hj hn
  unfold asQ
  dsimp only
  rw [nI_clamp h1, if_pos ⟨ht, hc, fun q => q.elim (nI_pos h1) (fun q => by omega)⟩]
theorem len_I {n : Nat} {g : Nat → Int32} {K : Nat → Option α} : lenK (some (.inl (0, n, .inl g))) K = K n := by simp [lenK]
theorem len_S {n : Nat} {g : Nat → Int32} {K : Nat → Option α} : lenK (some (.inl (9, n, .inl g))) K = K n := by simp [lenK]
theorem cc_all {n : Nat} {g0 g1 : Nat → Int32} {K : aC → Option α} (hn : n < 2 ^ 31) : ccK (nI 0) (nI 0) (nI n) (some (.inl (0, n, .inl g0))) (some (.inl (0, n, .inl g1))) K = K (.inl (0, n, .inl (fun j => if j < n then g0 j else g1 j))) := by
  have h0 : (nI 0).toNatClampNeg = 0 := nI_clamp (by decide)
  show (if ¬ nI 0 < 0 ∧ ¬ nI 0 < 0 ∧ ¬ nI n < 0 ∧ (nI 0).toNatClampNeg + (nI n).toNatClampNeg ≤ n ∧ (nI 0).toNatClampNeg + (nI n).toNatClampNeg ≤ n then K (.inl (0, n, .inl (va_cpy g0 g1 (nI 0).toNatClampNeg (nI 0).toNatClampNeg (nI n).toNatClampNeg))) else none) = _
  rw [nI_clamp hn, h0, if_pos ⟨nI_pos (by decide), nI_pos (by decide), nI_pos hn, by omega, by omega⟩]
  congr 5
  funext j
  by_cases hj : j < n
  · rw [pk_cpy_in (Nat.zero_le _) (by omega), if_pos hj]; congr 1; omega
  · rw [pk_cpy_out (Or.inr (by omega)), if_neg hj]
theorem hget_set (h : aH) (a : Nat) (c : aC) : hget (hset h a c) a = some c := by simp [hget, hset]
theorem hget_ne {h : aH} {a b : Nat} {c : aC} (hb : b ≠ a) : hget (hset h a c) b = hget h b := by simp [hget, hset, hb]
theorem hset_set (h : aH) (a : Nat) (c c' : aC) : hset (hset h a c) a c' = hset h a c' := by
  unfold hset
  dsimp only
  congr 2
  funext q
  by_cases hq : q = a <;> simp [hq]
theorem hset_1 (h : aH) (a : Nat) (c : aC) : (hset h a c).1 = h.1 := rfl
theorem hset_2 (h : aH) (a : Nat) (c : aC) : (hset h a c).2.1 = h.2.1 := rfl
theorem hnew_1 (h : aH) (n : Nat) (c : aC) : (hnew h n c).1 = h.1 + 1 := rfl
theorem hnew_2 (h : aH) (n : Nat) (c : aC) : (hnew h n c).2.1 = h.2.1 + n := rfl
theorem hget_new (h : aH) (n : Nat) (c : aC) : hget (hnew h n c) h.1 = some c := by simp [hget, hnew]
theorem hget_newn {h : aH} {n b : Nat} {c : aC} (hb : b ≠ h.1) : hget (hnew h n c) b = hget h b := by simp [hget, hnew, hb]
end K2
