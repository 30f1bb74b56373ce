/-! the instructions that read and write the heap, and that make cells -/
theorem chN_ok : pF.all (fun q => decide (q.1.1 ≠ q.2.1.1) || wAt q.2.2 (.fieldLink (cS q.1.1) q.1.2 (TXf q.2.1.1 q.2.1.2).1 (TXf q.2.1.1 q.2.1.2).2.1 (TXf q.2.1.1 q.2.1.2).2.2.1)) = true := by decide +kernel
theorem pF_ok {c i ci j : Nat} (h : pkG pF c i = some (ci, j)) : ci < 8 ∧ j < nFl.getD ci 0 ∧ (Cond.fieldLink (cS c) i (TXf ci j).1 (TXf ci j).2.1 (TXf ci j).2.2.1 ∈ gwT ∨ (c ≠ ci ∧ Cond.fieldLinkNest (cS c) i (TXf ci j).1 (TXf ci j).2.1 (TXf ci j).2.2.1 "CodedRelays" ∈ lw_tbl)) := by
  obtain ⟨pl, hm⟩ := pkG_mem h
  have h1 := List.all_eq_true.mp chF_ok _ hm
  have h2 := List.all_eq_true.mp chN_ok _ hm
  unfold chF at h1
  simp only [Bool.and_eq_true, Bool.or_eq_true, decide_eq_true_eq] at h1 h2
  refine ⟨h1.1.1, h1.1.2, ?_⟩
  rcases h2 with h2 | h2
  · rcases h1.2 with h3 | h3
    · exact Or.inl (wAt_good h3 rfl)
    · exact Or.inr ⟨h2, wAt_mem h3⟩
  · exact Or.inl (wAt_good h2 rfl)
theorem va_P.one {D : va_G} {cl : List vw_C} {q : Nat × va_E} {H : Heap} (h : va_at D cl q H) : va_P D cl [q] H := by
  intro k x hx
  match k, hx with
  | 0, hx => cases hx; exact h
  | k + 1, hx => simp at hx
theorem aAt.cell {base : Nat} {D : va_G} {K : Nat → ClassId} {U : State} {H : Heap} {a : Nat} {c : aC} (h : aAt base D K U H a c) (hr : isRO c = false) : base ≤ a ∧ va_at D vwCl (a, toE K c) H := by
  rcases h with ⟨h1, -⟩ | ⟨-, h2, h3⟩
  · rw [hr] at h1; cases h1
  · exact ⟨h2, h3⟩
section So2
variable {f pc : Nat} {ls st : List Value} {h : aH} {a : aA}
theorem so_get {k ci j b : Nat} {r : List Value} (hd : decode (cd f) pc = .ok (.getfield k, 3)) (hp : pkG pF (cN f) k = some (ci, j)) (e : gfK ci j (hget h b) (fun v => nx (pc + 3) ls (v :: r) h) = some a) : aOK f pc ls (.ref b :: r) h a := by
  obtain ⟨h8, hj, hlk⟩ := pF_ok hp
  unfold gfK at e
  split at e
  · rename_i c' fs hg
    split at e
    · rename_i hcc
      subst hcc
      split at e
      · rename_i v hv
        cases nx_some e
        refine aMv_p fun base D K p l e R s m args below meth c Q cells slots lsr H locs cx hl hh kk => ?_
        obtain ⟨hx, hb, hml, hown, hts, hnw, hin, hK, -⟩ := cx
        have hP := va_P.one ((hh.2.2 b _ hg).cell rfl).2
        rcases hlk with hlk | ⟨-, hlk⟩
        · exact va_get hx hb hts (clK h8).2.2 hown hK hP 0 rfl (clAt h8) j hj (hts _ hlk) (fun _ z => z) hv hd kk
        · exact va_getN hx hb hts (clK h8).2.2 hown hK hP 0 rfl (clAt h8) j hj (va_Nw.use rfl (hnw _ hlk rfl)) (fun _ z => z) hv hd kk
      · cases e
    · cases e
  · cases e
theorem so_put {k ci j b : Nat} {v : Value} {r : List Value} (hd : decode (cd f) pc = .ok (.putfield k, 3)) (hp : pkG pF (cN f) k = some (ci, j)) (hfin : (TXf ci j).2.2.2 = false ∨ ((yN f).name = "<init>" ∧ ci = cN f ∧ cN f < 8)) (e : pfK ci j (hget h b) v (fun c => nx (pc + 3) ls r (hset h b c)) = some a) : aOK f pc ls (v :: .ref b :: r) h a := by
  obtain ⟨h8, hj, hlk⟩ := pF_ok hp
  unfold pfK at e
  split at e
  · rename_i c' fs hg
    split at e
    · rename_i hcc
      obtain ⟨rfl, hlen, hn, hfit⟩ := hcc
      cases nx_some e
      refine aMv_h rfl rfl fun base D K p l e R s m args below meth c Q cells slots lsr H locs cx hl hh hS kk => ?_
      obtain ⟨hx, hb, hml, hown, hts, hnw, hnm, hK, -⟩ := cx
      obtain ⟨hba, hat⟩ := (hh.2.2 b _ hg).cell rfl
      have hin := (clK h8).2.2
      have hc := clAt h8
      have hap := va_apart (own := cS (cN f)) hts hin (tyXf c') (clTy h8) (clNm h8) hK hc
      obtain ⟨r', h1, cell, q1, q2, q3, q4⟩ := hat
      have hr : r' = (cS c', TXf c', nFl.getD c' 0) := Option.some.inj (h1.symm.trans hc)
      subst hr
      obtain ⟨hSl, hfc, kC, hkC, hkind⟩ := hK.1 c' _ hc
      obtain ⟨cf, kf, fi, fd, hi, hsl⟩ := hSl j hj
      have hlay := hts _ (hin _ (u_in_lay hj))
      have hst := (u_facts hfc hkC (u_lays hts hin hj) hi).1
      have fin : ∀ H' : Heap, H'[b]? = some (cell.setSlot fd.slot v) → H'.size = H.size → (∀ q, q ≠ b → H'[q]? = H[q]?) → W p l e R s m args below meth c H' (locs ++ [⟨b, fd.slot⟩]) cells slots Q (F0 m (pc + 3) lsr r) := by
        intro H' e1 e2 e3
        rw [hsl] at e1
        refine kk H' _ (hh.set e2 e3 hba rfl ⟨_, hc, t_OB.to (V := updV (vp_V fs) j v) ⟨_, e1, q2, q3, t_set q4 hap hj v⟩ (fun i _ => vp_updV_set hlen v i)⟩) (hS.put e2 e3 hba)
      unfold u_lay at hlay
      by_cases hff : (TXf c' j).2.2.2 = true
      · rcases hfin with hf2 | ⟨hf2, hf3, hf4⟩
        · rw [hff] at hf2; cases hf2
        · rw [if_pos hff] at hlay
          rcases hlk with hlk | ⟨hlk, -⟩
          · have hcf : m.cls = cf := by
              obtain ⟨_, _, c2, _, _, _, -, -, hf', -, -, -, hown2, -⟩ := Cond.laysFinal_spec hlay
              have e1 : c2 = cf := by have := hi.symm.trans hf'; simp at this; exact this.1.symm
              rw [clDecl h8 j, hf3] at hown2
              rw [← e1]; exact Option.some.inj (hown.symm.trans hown2)
            have h6 := u_fits hfc hkC hkind (Or.inr hlay) hi (clTy h8 j hj) hn hfit
            exact W.putFinK hx hb hown (hts _ hlk) hi hst hcf (hnm hf2) (by rw [q2]; exact h6) q1 q3 (by rw [hsl]; exact k2_hasslot (q4 j hj)) rfl rfl hd fin
          · exact absurd hf3.symm hlk
      · rw [if_neg hff] at hlay
        have h6 := u_store hfc hkC hkind hlay hi (clTy h8 j hj) hn hfit
        rcases hlk with hlk | ⟨-, hlk⟩
        · exact W.putK hx hb (f := fd) ⟨hown, hts _ hlk, ⟨_, _, _, hi⟩, hst⟩ (by rw [q2]; exact h6) q1 q3 (by rw [hsl]; exact k2_hasslot (q4 j hj)) rfl rfl hd fin
        · exact va_WputK hx hb (f := fd) hown (va_Nw.use rfl (hnw _ hlk rfl)) hi hst (by rw [q2]; exact h6) q1 q3 (by rw [hsl]; exact k2_hasslot (q4 j hj)) rfl rfl hd fin
    · cases e
  · cases e
theorem so_iald {i : Int32} {b : Nat} {r : List Value} (hd : decode (cd f) pc = .ok (.iaload, 1)) (e : alK i (hget h b) (fun t => t == 0 || t == 9) (fun x => nx (pc + 1) ls (.int x :: r) h) = some a) : aOK f pc ls (.int i :: .ref b :: r) h a := by
  unfold alK at e
  split at e
  · rename_i t n g hg
    split at e
    · rename_i hc
      cases nx_some e
      refine aMv_p fun base D K p l e R s m args below meth c Q cells slots lsr H locs cx hl hh kk => ?_
      obtain ⟨ht, hin⟩ := hc
      simp only [Bool.or_eq_true, beq_iff_eq] at ht
      rcases ht with rfl | rfl
      · exact va_iald cx.1 cx.2.1 cx.2.2.2.2.2.2.2.1 (va_P.one ((hh.2.2 b _ hg).cell rfl).2) 0 0 rfl rfl hin hd kk
      · rcases hh.2.2 b _ hg with ⟨-, -, n', g', he, scr, h1, h2, h3, h4, h5⟩ | ⟨h1, -⟩
        · cases he
          have hlt : i.toNatClampNeg < n := Nat.not_le.mp fun q => hin (Or.inr q)
          exact W.iald cx.1 cx.2.1 h1 h2 h3 (by rw [h4]; exact hin) (h5 _ hlt) rfl rfl hd kk
        · cases h1
    · cases e
  · cases e
theorem so_zald {i : Int32} {b : Nat} {r : List Value} (hd : decode (cd f) pc = .ok (.baload, 1)) (e : alK i (hget h b) (fun t => t == 1) (fun x => nx (pc + 1) ls (.int x :: r) h) = some a) : aOK f pc ls (.int i :: .ref b :: r) h a := by
  unfold alK at e
  split at e
  · rename_i t n g hg
    split at e
    · rename_i hc
      cases nx_some e
      refine aMv_p fun base D K p l e R s m args below meth c Q cells slots lsr H locs cx hl hh kk => ?_
      obtain ⟨ht, hin⟩ := hc
      simp only [beq_iff_eq] at ht
      subst ht
      exact va_zald cx.1 cx.2.1 cx.2.2.2.2.2.2.2.1 (va_P.one ((hh.2.2 b _ hg).cell rfl).2) 0 1 rfl rfl hin hd kk
    · cases e
  · cases e
theorem so_cald {i : Int32} {b : Nat} {r : List Value} (hd : decode (cd f) pc = .ok (.caload, 1)) (e : alK i (hget h b) (fun t => t == 2) (fun x => nx (pc + 1) ls (.int x :: r) h) = some a) : aOK f pc ls (.int i :: .ref b :: r) h a := by
  unfold alK at e
  split at e
  · rename_i t n g hg
    split at e
    · rename_i hc
      cases nx_some e
      refine aMv_p fun base D K p l e R s m args below meth c Q cells slots lsr H locs cx hl hh kk => ?_
      obtain ⟨ht, hin⟩ := hc
      simp only [beq_iff_eq] at ht
      subst ht
      exact va_cald cx.1 cx.2.1 cx.2.2.2.2.2.2.2.1 (va_P.one ((hh.2.2 b _ hg).cell rfl).2) 0 2 rfl rfl hin hd kk
    · cases e
  · cases e
theorem so_aald {i : Int32} {b : Nat} {r : List Value} (hd : decode (cd f) pc = .ok (.aaload, 1)) (e : alQ i (hget h b) (fun v => nx (pc + 1) ls (v :: r) h) = some a) : aOK f pc ls (.int i :: .ref b :: r) h a := by
  unfold alQ at e
  split at e
  · rename_i t n g hg
    split at e
    · rename_i hc
      cases nx_some e
      refine aMv_p fun base D K p l e R s m args below meth c Q cells slots lsr H locs cx hl hh kk => ?_
      obtain ⟨ht, hin⟩ := hc
      rcases ht with rfl | rfl | rfl
      · exact va_aldq cx.1 cx.2.1 cx.2.2.2.2.2.2.2.1 (va_P.one ((hh.2.2 b _ hg).cell rfl).2) 0 3 rfl rfl hin hd kk
      · exact va_aldq cx.1 cx.2.1 cx.2.2.2.2.2.2.2.1 (va_P.one ((hh.2.2 b _ hg).cell rfl).2) 0 4 rfl rfl hin hd kk
      · exact va_aldq cx.1 cx.2.1 cx.2.2.2.2.2.2.2.1 (va_P.one ((hh.2.2 b _ hg).cell rfl).2) 0 5 rfl rfl hin hd kk
    · cases e
  · cases e
theorem so_alen {b : Nat} {r : List Value} (hd : decode (cd f) pc = .ok (.arraylength, 1)) (e : lenK (hget h b) (fun z => nx (pc + 1) ls (.int (Int32.ofNat z) :: r) h) = some a) : aOK f pc ls (.ref b :: r) h a := by
  unfold lenK at e
  split at e
  · rename_i t n g hg
    split at e
    · rename_i hk
      cases nx_some e
      refine aMv_p fun base D K p l e R s m args below meth c Q cells slots lsr H locs cx hl hh kk => ?_
      rcases hk with rfl | rfl | rfl | rfl
      · exact va_alen cx.1 cx.2.1 cx.2.2.2.2.2.2.2.1 (va_P.one ((hh.2.2 b _ hg).cell rfl).2) 0 0 rfl rfl rfl hd kk
      · exact va_alen cx.1 cx.2.1 cx.2.2.2.2.2.2.2.1 (va_P.one ((hh.2.2 b _ hg).cell rfl).2) 0 1 rfl rfl rfl hd kk
      · exact va_alen cx.1 cx.2.1 cx.2.2.2.2.2.2.2.1 (va_P.one ((hh.2.2 b _ hg).cell rfl).2) 0 2 rfl rfl rfl hd kk
      · rcases hh.2.2 b _ hg with ⟨-, -, n', g', he, scr, h1, h2, h3, h4, h5⟩ | ⟨h1, -⟩
        · cases he
          exact W.alen (n := Int32.ofNat n) cx.1 cx.2.1 h1 h2 (by rw [h4] <;> rfl) rfl rfl hd kk
        · cases h1
    · cases e
  · cases e
theorem arr_upd (cA : ClassId) (n i : Nat) (g : Nat → Int32) (x : Int32) : (vp_cell cA (n, .inl g)).setSlot i (.int x) = vp_cell cA (n, .inl (upd g i x)) := by
  rw [vp_cell_i, vp_cell_i, arrV_store]
  congr 1
  funext q
  by_cases hq : q = i
  · subst hq
    simp [updV, upd]
  · simp [updV, upd, hq]
theorem so_iast {i x : Int32} {b : Nat} {r : List Value} (hd : decode (cd f) pc = .ok (.iastore, 1)) (e : asK i (hget h b) 0 x (fun c => nx (pc + 1) ls r (hset h b c)) = some a) : aOK f pc ls (.int x :: .int i :: .ref b :: r) h a := by
  unfold asK at e
  split at e
  · rename_i t n g hg
    split at e
    · rename_i hc
      obtain ⟨rfl, hin⟩ := hc
      cases nx_some e
      refine aMv_h rfl rfl fun base D K p l e R s m args below meth c Q cells slots lsr H locs cx hl hh hS kk => ?_
      obtain ⟨hba, hat⟩ := (hh.2.2 b _ hg).cell rfl
      refine W.iast cx.1 cx.2.1 hat ((cx.2.2.2.2.2.2.2.1.2 0 _ rfl).1 n (fun j => .int (g j))) (fun q => by cases q) (by show ¬ (i < 0 ∨ (arrV _ _ _).slots.size ≤ _); rw [arrV_size]; exact hin) rfl rfl hd fun H1 e z oq => ?_
      exact kk H1 _ (hh.set z oq hba rfl (e.trans (congrArg some (arr_upd _ _ _ _ _)))) (hS.put z oq hba)
    · cases e
  · cases e
theorem so_zast {i x : Int32} {b : Nat} {r : List Value} (hd : decode (cd f) pc = .ok (.bastore, 1)) (e : asK i (hget h b) 1 (vp_nar .boolean x) (fun c => nx (pc + 1) ls r (hset h b c)) = some a) : aOK f pc ls (.int x :: .int i :: .ref b :: r) h a := by
  unfold asK at e
  split at e
  · rename_i t n g hg
    split at e
    · rename_i hc
      obtain ⟨rfl, hin⟩ := hc
      cases nx_some e
      refine aMv_h rfl rfl fun base D K p l e R s m args below meth c Q cells slots lsr H locs cx hl hh hS kk => ?_
      obtain ⟨hba, hat⟩ := (hh.2.2 b _ hg).cell rfl
      refine W.zast cx.1 cx.2.1 hat ((cx.2.2.2.2.2.2.2.1.2 1 _ rfl).1 n (fun j => .int (g j))) (fun q => by cases q) (by show ¬ (i < 0 ∨ (arrV _ _ _).slots.size ≤ _); rw [arrV_size]; exact hin) rfl rfl hd fun H1 e z oq => ?_
      exact kk H1 _ (hh.set z oq hba rfl (e.trans (congrArg some (arr_upd _ _ _ _ _)))) (hS.put z oq hba)
    · cases e
  · cases e
theorem so_cast {i x : Int32} {b : Nat} {r : List Value} (hd : decode (cd f) pc = .ok (.castore, 1)) (e : asK i (hget h b) 2 (vp_nar .char x) (fun c => nx (pc + 1) ls r (hset h b c)) = some a) : aOK f pc ls (.int x :: .int i :: .ref b :: r) h a := by
  unfold asK at e
  split at e
  · rename_i t n g hg
    split at e
    · rename_i hc
      obtain ⟨rfl, hin⟩ := hc
      cases nx_some e
      refine aMv_h rfl rfl fun base D K p l e R s m args below meth c Q cells slots lsr H locs cx hl hh hS kk => ?_
      obtain ⟨hba, hat⟩ := (hh.2.2 b _ hg).cell rfl
      refine W.cast cx.1 cx.2.1 hat ((cx.2.2.2.2.2.2.2.1.2 2 _ rfl).1 n (fun j => .int (g j))) (fun q => by cases q) (by show ¬ (i < 0 ∨ (arrV _ _ _).slots.size ≤ _); rw [arrV_size]; exact hin) rfl rfl hd fun H1 e z oq => ?_
      exact kk H1 _ (hh.set z oq hba rfl (e.trans (congrArg some (arr_upd _ _ _ _ _)))) (hS.put z oq hba)
    · cases e
  · cases e
end So2
