/-! what makes cells, arrays of references, arraycopy, calls -/
theorem aTy_3 {t : Nat} (h : t = 3 ∨ t = 4 ∨ t = 5) (K : Nat → ClassId) : (aTy K)[t]? = some (K t, .object (cS (arC t))) ∧ arC t < 8 := by
  rcases h with rfl | rfl | rfl
  · exact ⟨rfl, by decide⟩
  · exact ⟨rfl, by decide⟩
  · exact ⟨rfl, by decide⟩
section So3
variable {f pc : Nat} {ls st : List Value} {h : aH} {a : aA}
theorem so_aast {i : Int32} {v b : Nat} {r : List Value} (hd : decode (cd f) pc = .ok (.aastore, 1)) (e : asQ i (hget h b) v (hget h v) (fun c => nx (pc + 1) ls r (hset h b c)) = some a) : aOK f pc ls (.ref v :: .int i :: .ref b :: r) h a := by
  unfold asQ at e
  split at e
  · rename_i t n g ci vs hg hv
    split at e
    · rename_i hc
      obtain ⟨ht, rfl, hin⟩ := hc
      cases nx_some e
      refine aMv_h rfl rfl fun base D K p l e R s m args below meth c Q cells slots lsr H locs cx hl hh hS kk => ?_
      have hro : ∀ g' : Nat → Option Nat, isRO (.inl (t, n, .inr g')) = false := by
        intro g'
        rcases ht with rfl | rfl | rfl <;> rfl
      obtain ⟨hba, hat⟩ := (hh.2.2 b _ hg).cell (hro g)
      obtain ⟨hbv, r', hr', cellV, g1, g2, g3, -⟩ := (hh.2.2 v _ hv).cell rfl
      obtain ⟨hty, h8⟩ := aTy_3 ht K
      have hK := cx.2.2.2.2.2.2.2.1
      have hlt : i.toNatClampNeg < n := Nat.not_le.mp fun q => hin (Or.inr q)
      have h0 : ¬ i < 0 := fun q => hin (Or.inl q)
      have hcls := (hK.1 (arC t) _ (clAt h8)).2
      obtain ⟨kA, comp, k1, k2, k3, -⟩ := (hK.2 t _ hty).2
      have hcomp : comp = D.1 (arC t) := Option.some.inj (k3.symm.trans hcls.1)
      subst hcomp
      obtain ⟨kC, hkC, -⟩ := hcls.2
      refine W.aast cx.1 cx.2.1 hat (fun q h => by cases h) (fun h => by cases h) k1 k2 rfl hkC ⟨h0, by show _ < (arrV _ _ _).slots.size; rw [arrV_size]; exact hlt⟩ g1 (fun q h => by rw [g3] at h; cases h) (by rw [g2]; exact hkC) (by rw [g2]; exact va_assign hcls) rfl rfl hd fun H1 e z oq => ?_
      refine kk H1 _ (hh.set z oq hba (hro _) ?_) (hS.put z oq hba)
      show H1[b]? = some (vp_cell _ _)
      rw [e]
      show some ((vp_cell (K t) (n, .inr (.inr (.inr (.inr g))))).setSlot _ _) = some (vp_cell (K t) _)
      rw [vp_cell_q, vp_cell_q, arrV_store]
      congr 2
      funext q
      by_cases hq : q = i.toNatClampNeg
      · subst hq
        simp [updV, va_up, va_rf]
      · simp [updV, va_up, hq]
    · cases e
  · cases e
theorem aMv_n {pc' n : Nat} {st' : List Value} {c0 : aC} (k : ∀ (base : Nat) (D : va_G) (K : Nat → ClassId) (p : Program) (l : Launch) (e : Env) (R : Room) (s : State) (m : MethodId) (args : Array Value) (below : List Frame) (meth : Method) (c : Code) (Q : State → Prop) (cells slots : Nat) (lsr : Array Slot) (H : Heap) (locs : List Loc), aCx D K f p R s m args meth c → aHp base D K s h H → cells + 1 ≤ R.cells → slots + n ≤ R.slots → (∀ H1, aHp base D K s (hnew h n c0) H1 → H1.size = H.size + 1 → (∀ q : Nat, q < H.size → H1[q]? = H[q]?) → W p l e R s m args below meth c H1 locs (cells + 1) (slots + n) Q (F0 m pc' lsr st')) → W p l e R s m args below meth c H locs cells slots Q (F0 m pc lsr st)) : aMv f pc ls st h (pc', ls, st', hnew h n c0) := by
  refine ⟨Nat.le_succ _, Nat.le_add_right _ _, fun base D K p l e R s m args below meth c Q cells slots cx hbs hc1 hc2 kk lsr H locs hl hh hS => ?_⟩
  have e1 : (hnew h n c0).1 - h.1 = 1 := by show h.1 + 1 - h.1 = 1; omega
  have e2 : (hnew h n c0).2.1 - h.2.1 = n := by show h.2.1 + n - h.2.1 = n; omega
  dsimp only at hc1 hc2 kk
  rw [e1] at hc1 kk
  rw [e2] at hc2 kk
  refine k base D K p l e R s m args below meth c Q cells slots lsr H locs cx hh hc1 hc2 fun H1 hh1 z1 o1 => ?_
  exact kk lsr H1 locs hl hh1 ⟨by rw [z1]; exact Nat.le_trans hS.1 (Nat.le_succ _), fun q h1 h2 => (o1 q (Nat.lt_of_lt_of_le h1 hS.1)).trans (hS.2.1 q h1 h2), hS.2.2⟩
theorem so_newa {t : ArrayType} {k : Nat} {z : Int32} {r : List Value} (hd : decode (cd f) pc = .ok (.newarray t, 2)) (ht : arT t = some k) (e : (if ¬ z < 0 ∧ z.toNatClampNeg ≤ 10000 then nx (pc + 2) ls (.ref h.1 :: r) (hnew h z.toNatClampNeg (.inl (k, z.toNatClampNeg, .inl (fun _ => 0)))) else none) = some a) : aOK f pc ls (.int z :: r) h a := by
  split at e
  · rename_i hz
    cases nx_some e
    refine aMv_n fun base D K p l e R s m args below meth c Q cells slots lsr H locs cx hh hc1 hc2 kk => ?_
    have hh1 := hh.1
    cases t <;> simp only [arT, Option.some.injEq, reduceCtorEq] at ht
    all_goals subst ht
    · refine va_newaK (atype := .boolean) cx.1 cx.2.1 (cx.2.2.2.2.1 _ ch_ar.2.1) rfl hd rfl hz.1 rfl (Nat.le_trans (Nat.mul_le_mul_right _ hz.2) (by decide)) hc1 hc2 hh1.symm fun H1 cA e1 z1 o1 hAr hNm => ?_
      have hcA : cA = K 1 := Option.some.inj (hNm.symm.trans (cx.2.2.2.2.2.2.2.1.2 1 _ rfl).2)
      subst hcA
      rw [hh1] at e1 z1 o1
      exact kk H1 (hh.new z1 o1 rfl e1) z1 o1
    · refine va_newaK (atype := .char) cx.1 cx.2.1 (cx.2.2.2.2.1 _ ch_ar.2.2) rfl hd rfl hz.1 rfl (Nat.le_trans (Nat.mul_le_mul_right _ hz.2) (by decide)) hc1 hc2 hh1.symm fun H1 cA e1 z1 o1 hAr hNm => ?_
      have hcA : cA = K 2 := Option.some.inj (hNm.symm.trans (cx.2.2.2.2.2.2.2.1.2 2 _ rfl).2)
      subst hcA
      rw [hh1] at e1 z1 o1
      exact kk H1 (hh.new z1 o1 rfl e1) z1 o1
    · refine va_newaK (atype := .int) cx.1 cx.2.1 (cx.2.2.2.2.1 _ ch_ar.1) rfl hd rfl hz.1 rfl (Nat.le_trans (Nat.mul_le_mul_right _ hz.2) (by decide)) hc1 hc2 hh1.symm fun H1 cA e1 z1 o1 hAr hNm => ?_
      have hcA : cA = K 0 := Option.some.inj (hNm.symm.trans (cx.2.2.2.2.2.2.2.1.2 0 _ rfl).2)
      subst hcA
      rw [hh1] at e1 z1 o1
      exact kk H1 (hh.new z1 o1 rfl e1) z1 o1
  · cases e
theorem pC_ok {c i ci j : Nat} (h : pkG pC c i = some (ci, j)) : ci < 8 ∧ Cond.classLink (cS c) i (cS ci) ∈ gwT := by
  obtain ⟨pl, hm⟩ := pkG_mem h
  have h1 := List.all_eq_true.mp chC_ok _ hm
  unfold chC at h1
  simp only [Bool.and_eq_true, decide_eq_true_eq] at h1
  exact ⟨h1.1, wAt_good h1.2 rfl⟩
theorem so_newq {k ci j t : Nat} {z : Int32} {r : List Value} (hd : decode (cd f) pc = .ok (.anewarray k, 3)) (hp : pkG pC (cN f) k = some (ci, j)) (ht : anT ci = some t) (e : (if ¬ z < 0 ∧ z.toNatClampNeg ≤ 10000 then nx (pc + 3) ls (.ref h.1 :: r) (hnew h z.toNatClampNeg (.inl (t, z.toNatClampNeg, .inr (fun _ => none)))) else none) = some a) : aOK f pc ls (.int z :: r) h a := by
  obtain ⟨h8, hlk⟩ := pC_ok hp
  split at e
  · rename_i hz
    cases nx_some e
    refine aMv_n fun base D K p l e R s m args below meth c Q cells slots lsr H locs cx hh hc1 hc2 kk => ?_
    have hh1 := hh.1
    have h3 : (t = 3 ∨ t = 4 ∨ t = 5) ∧ arC t = ci ∧ Cond.arrayOver (.object (cS ci)) ∈ lw_tbl := by
      unfold anT at ht
      split at ht
      · rename_i q; subst q; cases ht; exact ⟨Or.inl rfl, rfl, ch_ao.1⟩
      · split at ht
        · rename_i q; subst q; cases ht; exact ⟨Or.inr (Or.inl rfl), rfl, ch_ao.2.1⟩
        · split at ht
          · rename_i q; subst q; cases ht; exact ⟨Or.inr (Or.inr rfl), rfl, ch_ao.2.2⟩
          · cases ht
    obtain ⟨ht3, rfl, hao⟩ := h3
    obtain ⟨hty, -⟩ := aTy_3 ht3 K
    have hov : va_AO (cS (arC t)) s := cx.2.2.2.2.2.1 _ hao rfl
    refine W.anew cx.1 cx.2.1 cx.2.2.2.1 (cx.2.2.2.2.1 _ hlk) (va_AO.use hov) rfl hd rfl hz.1 (Nat.le_trans (Nat.mul_le_mul_right _ hz.2) (by decide)) hc1 hc2 fun cA kA comp f1 f2 f3 f4 => ?_
    obtain ⟨kA2, comp2, -, -, -, k4⟩ := (cx.2.2.2.2.2.2.2.1.2 t _ hty).2
    have hcA : cA = K t := Option.some.inj (f1.symm.trans k4)
    subst hcA
    generalize hH1 : H.push ({ cls := K t, slots := Array.replicate z.toNatClampNeg .null, vm := .none } : Cell) = H1
    have z1 : H1.size = H.size + 1 := by rw [← hH1, Array.size_push]
    have e1 : H1[H.size]? = some (arrV (K t) z.toNatClampNeg (fun _ => .null)) := by rw [← hH1, Array.getElem?_push_size, ← arrV_new]
    have o1 : ∀ q : Nat, q < H.size → H1[q]? = H[q]? := fun q hq => by rw [← hH1, Array.getElem?_push, if_neg (Nat.ne_of_lt hq)]
    have hro : isRO (.inl (t, z.toNatClampNeg, .inr (fun _ => none))) = false := by rcases ht3 with rfl | rfl | rfl <;> rfl
    rw [← hh1]
    exact kk H1 (hh.new z1 o1 hro e1) z1 o1
  · cases e
theorem so_new {k ci j : Nat} (hd : decode (cd f) pc = .ok (.new k, 3)) (hp : pkG pC (cN f) k = some (ci, j)) (e : nx (pc + 3) ls (.ref h.1 :: st) (hnew h (nFl.getD ci 0) (.inr (ci, (List.range (nFl.getD ci 0)).map (fun j => dfl (tyXf ci j))))) = some a) : aOK f pc ls st h a := by
  obtain ⟨h8, hlk⟩ := pC_ok hp
  cases nx_some e
  refine aMv_n fun base D K p l e R s m args below meth c Q cells slots lsr H locs cx hh hc1 hc2 kk => ?_
  obtain ⟨k1, k2, k3⟩ := clK h8
  have hKn := cx.2.2.2.2.2.2.2.1.1 ci _ (clAt h8)
  have hh1 := hh.1
  refine W.newcK cx.1 cx.2.1 cx.2.2.2.1 (cx.2.2.2.2.1 _ hlk) (cx.2.2.2.2.1 _ k2) (cx.2.2.2.2.1 _ k1) rfl hd hc1 hc2 hKn.2.1 hh1.symm fun H1 kC hkC e1 z1 o1 => ?_
  rw [hh1] at e1 z1 o1
  refine kk H1 (hh.new z1 o1 rfl ⟨_, clAt h8, (u_born (tyXf ci) cx.2.2.2.2.1 k3 hKn hkC e1 (clTy h8)).to fun i hi => ?_⟩) z1 o1
  show defaultValue (tyXf ci i) = vp_V _ i
  unfold vp_V
  rw [List.getD_eq_getElem?_getD, List.getElem?_map, List.getElem?_range hi]
  rfl
theorem so_copy {k x : Nat} {n dp sp : Int32} {b b0 : Nat} {r : List Value} (hd : decode (cd f) pc = .ok (.invokestatic k, 3)) (hp : pkG pX (cN f) k = some (1, x)) (hR : 1 ≤ fRm f ∧ 26 ≤ lRm f ∧ catS r ≤ 8) (e : ccK sp dp n (hget h b0) (hget h b) (fun c => nx (pc + 3) ls r (hset h b c)) = some a) : aOK f pc ls (.int n :: .int dp :: .ref b :: .int sp :: .ref b0 :: r) h a := by
  have hlk : Cond.methodLink (cS (cN f)) k arraycopyName ∈ gwT := by
    obtain ⟨pl, hm⟩ := pkG_mem hp
    have h1 := List.all_eq_true.mp chX_ok _ hm
    exact wAt_good h1 rfl
  unfold ccK at e
  split at e
  · rename_i n0 g0 n1 g1 hg0 hg1
    split at e
    · rename_i hc
      obtain ⟨h1, h2, h3, h4, h5⟩ := hc
      cases nx_some e
      refine aMv_h rfl rfl fun base D K p l e R s m args below meth c Q cells slots lsr H locs cx hl hh hS kk => ?_
      obtain ⟨-, hat0⟩ := (hh.2.2 b0 _ hg0).cell rfl
      obtain ⟨hba, hat1⟩ := (hh.2.2 b _ hg1).cell rfl
      obtain ⟨hx, hb, hml, hown, hts, hnw, hin, hK, hfr, hlo⟩ := cx
      have nn : ∀ z : Int32, ¬ z < 0 → z.toInt = (z.toNatClampNeg : Int) := by
        intro z hz
        have hz0 : (0 : Int) ≤ z.toInt := by
          have := Int32.not_lt.mp hz
          simpa using Int32.le_iff_toInt_le.mp this
        show z.toInt = ((z.toInt.toNat : Nat) : Int)
        omega
      intro T hT X
      have hc0 : H[b0]? = some (vp_cell (K 0) (n0, .inl g0)) := hat0
      have hc1 : H[b]? = some (vp_cell (K 0) (n1, .inl g1)) := hat1
      obtain ⟨-, k0, hk0, cm0, hkk0⟩ := (hK.2 0 _ rfl).1 n0 (fun j => .int (g0 j))
      obtain ⟨-, k1, hk1, cm1, hkk1⟩ := (hK.2 0 _ rfl).1 n1 (fun j => .int (g1 j))
      obtain ⟨vm', X', step⟩ := X.arraycopy hx hown (hts _ hlk) (hts _ ch_ac.1) (hts _ ch_ac.2.1) (hts _ ch_ac.2.2) (src := b0) (dst := b) (cs := vp_cell (K 0) (n0, .inl g0)) (cd := vp_cell (K 0) (n1, .inl g1)) (srcPos := sp) (destPos := dp) (n := n) (by rw [hT]; exact hc0) (by rw [hT]; exact hc1)
        (fun _ h => by cases h) (fun _ h => by cases h) (fun h => by cases h) (fun h => by cases h) hk0 hk1 hkk0 hkk1 (by simp [refKind]) h1 h2 h3
        (by rw [nn sp h1, nn n h3]; show ¬ _ > ((arrV (K 0) n0 (fun j => .int (g0 j))).slots.size : Int); rw [arrV_size]; omega)
        (by rw [nn dp h2, nn n h3]; show ¬ _ > ((arrV (K 0) n1 (fun j => .int (g1 j))).slots.size : Int); rw [arrV_size]; omega)
        (fun vm₁ _ i hi => by
          have e : (vp_cell (K 0) (n0, .inl g0)).slots.getD (sp.toNatClampNeg + i) .null = .int (g0 (sp.toNatClampNeg + i)) := by
            show (arrV (K 0) n0 (fun j => .int (g0 j))).slots.getD _ _ = _
            rw [Array.getD_eq_getD_getElem?, arrV_read _ _ (by omega)]
            rfl
          refine ⟨?_, ?_⟩
          · rw [e]
            rfl
          · rw [e]
            exact trivial)
        (g := F0 m pc lsr (.int n :: .int dp :: .ref b :: .int sp :: .ref b0 :: r)) rfl (by rw [hml]; exact hl.2.1) (rest := r) rfl (by rw [hb]; exact hd) (Nat.le_trans hR.1 hfr) (by
          show 2 * 0 + (r.map fun v => v.category).sum + (nativeFrameWords "java/lang/System" "arraycopy" 5 + 11) ≤ R.locals
          have e7 : nativeFrameWords "java/lang/System" "arraycopy" 5 = 7 := by decide
          rw [e7]
          have := hR.2.2
          have := hR.2.1
          unfold catS at *
          omega)
      have e1 : copied (vp_cell (K 0) (n0, .inl g0)) (vp_cell (K 0) (n1, .inl g1)) sp dp n = vp_cell (K 0) (n1, .inl (va_cpy g0 g1 sp.toNatClampNeg dp.toNatClampNeg n.toNatClampNeg)) := va_copied (fun z => .int z) (K 0) (K 0) g0 g1 h4
      rw [e1] at X' step
      have hlb : b < H.size := (Array.getElem?_eq_some_iff.mp hc1).1
      have hheap : ((T.setVm vm').setCell b (vp_cell (K 0) (n1, .inl (va_cpy g0 g1 sp.toNatClampNeg dp.toNatClampNeg n.toNatClampNeg)))).heap = H.setIfInBounds b (vp_cell (K 0) (n1, .inl (va_cpy g0 g1 sp.toNatClampNeg dp.toNatClampNeg n.toNatClampNeg))) := by rw [← hT]; rfl
      have oq : ∀ q : Nat, q ≠ b → (H.setIfInBounds b (vp_cell (K 0) (n1, .inl (va_cpy g0 g1 sp.toNatClampNeg dp.toNatClampNeg n.toNatClampNeg))))[q]? = H[q]? := fun q hq => by simp [Array.getElem?_setIfInBounds, Ne.symm hq]
      have zz : (H.setIfInBounds b (vp_cell (K 0) (n1, .inl (va_cpy g0 g1 sp.toNatClampNeg dp.toNatClampNeg n.toNatClampNeg)))).size = H.size := by simp
      obtain ⟨t, a1, b1⟩ := kk _ _ (hh.set zz oq hba rfl (show (H.setIfInBounds b _)[b]? = some _ by simp [Array.getElem?_setIfInBounds, hlb])) ⟨by rw [zz]; exact hS.1, fun q g1 g2 => by
          rw [oq q (fun e => g2 (by rw [e]; exact hba))]
          exact hS.2.1 q g1 g2, fun q hq => by
          rcases List.mem_append.mp hq with h | h
          · exact hS.2.2 q h
          · obtain ⟨z, -, hz⟩ := List.mem_map.mp h
            rw [← hz]
            exact hba⟩ _ hheap X'
      exact ⟨t, step t a1, b1⟩
    · cases e
  · cases e
theorem so_oini {k x b : Nat} {r : List Value} (hd : decode (cd f) pc = .ok (.invokespecial k, 3)) (hp : pkG pX (cN f) k = some (0, x)) (hR : 1 ≤ fRm f ∧ 20 ≤ lRm f ∧ catS r ≤ 8) (e : nx (pc + 3) ls r h = some a) : aOK f pc ls (.ref b :: r) h a := by
  have hlk : Cond.methodLink (cS (cN f)) k objectInit ∈ gwT := by
    obtain ⟨pl, hm⟩ := pkG_mem hp
    have h1 := List.all_eq_true.mp chX_ok _ hm
    exact wAt_good h1 rfl
  cases nx_some e
  refine aMv_p fun base D K p l e R s m args below meth c Q cells slots lsr H locs cx hl hh kk => ?_
  obtain ⟨hx, hb, hml, hown, hts, hnw, hin, hK, hfr, hlo⟩ := cx
  refine W.objInit hx hb hown (hts _ hlk) (hts _ ch_oi.1) (hts _ ch_oi.2) rfl (by rw [hml]; exact hl.2.1) rfl hd (Nat.le_trans hR.1 hfr) ?_ kk
  show 2 * 0 + (r.map fun v => v.category).sum + 12 ≤ R.locals
  have := hR.2.2
  have := hR.2.1
  unfold catS at *
  omega
end So3
