/-! calls, the whole step, and what a run is worth -/
theorem gw_good {w : Cond} (h : w ∈ gwT) : w ∈ gwT ∧ ((w.onTables && w.keeps) = true ∨ ∃ ty, w = .arrayClass ty) := ⟨h, good_of_word (List.mem_filter.mp h).2⟩
theorem mtY {g : Nat} (hg : g < 189) : ∃ q, mtP[g]? = some q ∧ chY g q = true := by
  have key : ∀ lo n, chYs lo n = true → lo ≤ g → g < lo + n → ∃ q, mtP[g]? = some q ∧ chY g q = true := by
    intro lo n h h1 h2
    have h3 := List.all_eq_true.mp h (g - lo) (List.mem_range.mpr (by omega))
    rw [show lo + (g - lo) = g by omega] at h3
    split at h3
    · rename_i q hq; exact ⟨q, hq, h3⟩
    · cases h3
  by_cases h1 : g < 40
  · exact key 0 40 chY_0 (by omega) (by omega)
  · by_cases h2 : g < 80
    · exact key 40 40 chY_1 (by omega) (by omega)
    · by_cases h3 : g < 120
      · exact key 80 40 chY_2 (by omega) (by omega)
      · by_cases h4 : g < 160
        · exact key 120 40 chY_3 (by omega) (by omega)
        · exact key 160 29 chY_4 (by omega) (by omega)
/-- what the tables say of a method -/
theorem mtF {g : Nat} {q : Nat × Nat × Nat × Nat × Bool} (h : chY g q = true) : Cond.code (yN g) (cd g) (mL g) (rT g) ∈ gwT ∧ (q.2.2.2.2 = true → Cond.static (yN g) ∈ gwT) ∧ (q.2.2.2.2 = false → Cond.instanceMethod (yN g) ∈ gwT ∧ cN g < 8) ∧ (q.2.2.1 ≠ 99999 → Cond.selects (cS (cN g)) (yN g) (yN g) ∈ gwT) ∧ Cond.initialized (yN g).cls ∈ gwT ∧ (yN g).cls = cS (cN g) ∧ plainName (yN g).cls = true ∧ (yN g).cls ≠ "java/lang/invoke/MethodHandle" ∧ (yN g).cls ≠ "java/lang/invoke/VarHandle" := by
  unfold chY at h
  simp only [Bool.and_eq_true, Bool.or_eq_true, decide_eq_true_eq] at h
  obtain ⟨⟨⟨⟨⟨⟨⟨⟨h1, h2⟩, h3⟩, h4⟩, h5⟩, h6⟩, h7⟩, h8⟩, h9⟩ := h
  refine ⟨wAt_good h1 rfl, fun hs => ?_, fun hs => ?_, fun hs => ?_, wAt_good h4 rfl, h5, h6, h7, h8⟩
  · rw [hs] at h2; exact wAt_good h2 rfl
  · rw [hs] at h2 h9
    refine ⟨wAt_good h2 rfl, ?_⟩
    rcases h9 with h9 | h9
    · cases h9
    · exact h9
  · rcases h3 with h3 | h3
    · exact absurd h3 hs
    · exact wAt_good h3 rfl
theorem pM_ok {c i g n : Nat} (h : pkG pM c i = some (g, n)) : g < 189 ∧ (parseMethodDescriptor (yN g).desc).map (fun d => d.parameters.length) = some n ∧ (Cond.methodLink (cS c) i (yN g) ∈ gwT ∨ (Cond.methodLinkNest (cS c) i (yN g) "CodedRelays" ∈ lw_tbl ∧ (yN g).name = "<init>")) := by
  obtain ⟨pl, hm⟩ := pkG_mem h
  have h1 := List.all_eq_true.mp chM_ok _ hm
  unfold chM at h1
  simp only [Bool.and_eq_true, Bool.or_eq_true, decide_eq_true_eq] at h1
  refine ⟨h1.1.1.1, h1.1.2, ?_⟩
  rcases h1.2 with h2 | h2
  · exact Or.inl (wAt_good h2 rfl)
  · exact Or.inr ⟨wAt_mem h2.1, h2.2⟩
theorem wsO_good (g : Nat) (h : Cond.code (yN g) (cd g) (mL g) (rT g) ∈ gwT) : GoodIn gwT (wsO g) := by
  intro w hw
  rcases List.mem_cons.mp hw with rfl | hw
  · exact gw_good h
  · exact gw_good hw
theorem mtGetD {g : Nat} {q d : Nat × Nat × Nat × Nat × Bool} (h : mtP[g]? = some q) : mtP.getD g d = q := by rw [List.getD_eq_getElem?_getD, h]; rfl
theorem drop_eq {st r : List Value} {k b : Nat} (h : st.drop k = .ref b :: r) : st = (st.take k).reverse.reverse ++ .ref b :: r := by rw [List.reverse_reverse, ← h, List.take_append_drop]
section So4
variable {f pc : Nat} {ls st : List Value} {h : aH} {a : aA}
theorem so_callK {g : Nat} {vs rest : List Value} (hg : g < 189) (hc : fRm g + 1 ≤ fRm f ∧ 8 + (mL g + 11) + lRm g ≤ lRm f → catS rest ≤ 8 → aCall f pc st h g vs rest) (e : callK f g vs (pc + 3) ls rest h = some a) : aOK f pc ls st h a := by
  unfold callK at e
  split at e
  · rename_i hk
    cases e
    exact ⟨vs, hg, rfl, rfl, rfl, rfl, hk.2.2.2, hc ⟨hk.1, hk.2.1⟩ hk.2.2.1⟩
  · cases e
theorem so_invV {k : Nat} (hd : decode (cd f) pc = .ok (.invokevirtual k, 3)) (e : invV f k (pc + 3) ls st h = some a) : aOK f pc ls st h a := by
  unfold invV at e
  split at e
  · rename_i g n hp
    obtain ⟨hg, hd2, hlk⟩ := pM_ok hp
    obtain ⟨q, hq, hY⟩ := mtY hg
    obtain ⟨y1, y2, y3, y4, y5, y6, y7, y8, y9⟩ := mtF hY
    split at e
    · rename_i b r hdr
      split at e
      · rename_i hc
        obtain ⟨hk, hst, hsl, hni⟩ := hc
        rw [mtGetD hq] at hst hsl
        unfold rcK at e
        split at e
        · rename_i ci fs hcell
          split at e
          · rename_i hci
            subst hci
            refine so_callK hg (fun hR hcat base D K p l e R s m args below meth c cells slots lsr H locs mc ms Pc Qc free cx hsz hh hM hbl hpre hroom => ?_) e
            obtain ⟨hx, hb, hml, hown, hts, hnw, hin, hK, hfr, hlo⟩ := cx
            obtain ⟨y3a, y3b⟩ := y3 hst
            obtain ⟨hba, hat⟩ := (hh.2.2 b _ hcell).cell rfl
            have hlk' : Cond.methodLink (cS (cN f)) k (yN g) ∈ gwT := by
              rcases hlk with h1 | ⟨-, h1⟩
              · exact h1
              · exact absurd h1 hni
            have cb : CallB R s args (cS (cN f)) k (yN g) (cd g) (mL g) (rT g) (wsO g) { frames := fRm g, cells := mc, slots := ms, locals := lRm g } mc ms n :=
              callB_of n hts (wsO_good g y1) rfl rfl rfl (hts _ y5) (hts _ hlk') ⟨y8, y9, hd2⟩ ⟨Nat.le_trans hR.1 hfr, Nat.le_trans hR.2 hlo⟩
            exact va_runV (As := (st.take n).reverse) (C := cS (cN g)) ⟨hx, hb, hml, hown, hts⟩ hM ⟨cb, hts _ y3a, hts _ (y4 hsl)⟩ ⟨hbl, va_recv hK (va_P.one hat) (clAt y3b) (q0 := 0) rfl, hpre⟩ rfl (by rw [List.length_reverse, List.length_take]; omega) hsz (drop_eq hdr) (lv_room hcat) hd hroom
          · cases e
        · cases e
      · cases e
    · cases e
  · cases e
theorem so_invS {k : Nat} (hd : decode (cd f) pc = .ok (.invokestatic k, 3)) (e : invS f k (pc + 3) ls st h = some a) : aOK f pc ls st h a := by
  unfold invS at e
  split at e
  · rename_i g n hp
    obtain ⟨hg, hd2, hlk⟩ := pM_ok hp
    obtain ⟨q, hq, hY⟩ := mtY hg
    obtain ⟨y1, y2, y3, y4, y5, y6, y7, y8, y9⟩ := mtF hY
    split at e
    · rename_i hc
      obtain ⟨hk, hst⟩ := hc
      rw [mtGetD hq] at hst
      refine so_callK hg (fun hR hcat base D K p l e R s m args below meth c cells slots lsr H locs mc ms Pc Qc free cx hsz hh hM hbl hpre hroom => ?_) e
      obtain ⟨hx, hb, hml, hown, hts, hnw, hin, hK, hfr, hlo⟩ := cx
      rcases hlk with hlk | ⟨hlk, -⟩
      · have cb : CallB R s args (cS (cN f)) k (yN g) (cd g) (mL g) (rT g) (wsO g) { frames := fRm g, cells := mc, slots := ms, locals := lRm g } mc ms n :=
          callB_of n hts (wsO_good g y1) rfl rfl rfl (hts _ y5) (hts _ hlk) ⟨y8, y9, hd2⟩ ⟨Nat.le_trans hR.1 hfr, Nat.le_trans hR.2 hlo⟩
        exact va_runS (As := (st.take n).reverse) ⟨hx, hb, hml, hown, hts⟩ hM ⟨cb, hts _ (y2 hst)⟩ ⟨hbl, hpre⟩ rfl (by rw [List.length_reverse, List.length_take]; omega) hsz (by rw [List.reverse_reverse, List.take_append_drop]) (lv_room hcat) hd hroom
      · have cb : va_CN R s args (cS (cN f)) k (yN g) "CodedRelays" (cd g) (mL g) (rT g) (wsO g) { frames := fRm g, cells := mc, slots := ms, locals := lRm g } mc ms n :=
          va_cnB n hts (wsO_good g y1) rfl rfl rfl (hnw _ hlk rfl) (hts _ y5) ⟨y8, y9, hd2⟩ ⟨Nat.le_trans hR.1 hfr, Nat.le_trans hR.2 hlo⟩
        exact va_runSN (As := (st.take n).reverse) ⟨hx, hb, hml, hown, hts⟩ hM ⟨cb, hts _ (y2 hst), trivial⟩ ⟨hbl, hpre⟩ rfl (by rw [List.length_reverse, List.length_take]; omega) hsz (by rw [List.reverse_reverse, List.take_append_drop]) (lv_room hcat) hd hroom
    · cases e
  · split at e
    · rename_i hp
      split at e
      · rename_i hR
        exact so_copy hd hp hR e
      · cases e
    · cases e
theorem so_invI {k : Nat} (hd : decode (cd f) pc = .ok (.invokespecial k, 3)) (e : invI f k (pc + 3) ls st h = some a) : aOK f pc ls st h a := by
  unfold invI at e
  split at e
  · rename_i g n hp
    obtain ⟨hg, hd2, hlk⟩ := pM_ok hp
    obtain ⟨q, hq, hY⟩ := mtY hg
    obtain ⟨y1, y2, y3, y4, y5, y6, y7, y8, y9⟩ := mtF hY
    split at e
    · rename_i b r hdr
      split at e
      · rename_i hc
        obtain ⟨hk, hst, hni, hrt⟩ := hc
        rw [mtGetD hq] at hst
        refine so_callK hg (fun hR hcat base D K p l e R s m args below meth c cells slots lsr H locs mc ms Pc Qc free cx hsz hh hM hbl hpre hroom => ?_) e
        obtain ⟨hx, hb, hml, hown, hts, hnw, hin, hK, hfr, hlo⟩ := cx
        rcases hlk with hlk | ⟨hlk, -⟩
        · have cb : CallB R s args (cS (cN f)) k (yN g) (cd g) (mL g) none (wsO g) { frames := fRm g, cells := mc, slots := ms, locals := lRm g } mc ms n :=
            callB_of n hts (wsO_good g y1) (by unfold wsO; rw [hrt]) rfl rfl (hts _ y5) (hts _ hlk) ⟨y8, y9, hd2⟩ ⟨Nat.le_trans hR.1 hfr, Nat.le_trans hR.2 hlo⟩
          exact va_runI (As := (st.take n).reverse) ⟨hx, hb, hml, hown, hts⟩ hM ⟨cb, hni, hts _ (y3 hst).1⟩ ⟨hbl, hpre⟩ rfl (by rw [List.length_reverse, List.length_take]; omega) hsz (drop_eq hdr) (lv_room hcat) hd hroom
        · have cb : va_CN R s args (cS (cN f)) k (yN g) "CodedRelays" (cd g) (mL g) none (wsO g) { frames := fRm g, cells := mc, slots := ms, locals := lRm g } mc ms n :=
            va_cnB n hts (wsO_good g y1) (by unfold wsO; rw [hrt]) rfl rfl (hnw _ hlk rfl) (hts _ y5) ⟨y8, y9, hd2⟩ ⟨Nat.le_trans hR.1 hfr, Nat.le_trans hR.2 hlo⟩
          exact va_runIN (As := (st.take n).reverse) ⟨hx, hb, hml, hown, hts⟩ hM ⟨cb, hni, hts _ (y3 hst).1⟩ ⟨hbl, hpre⟩ rfl (by rw [List.length_reverse, List.length_take]; omega) hsz (drop_eq hdr) (lv_room hcat) hd hroom
      · cases e
    · cases e
  · split at e
    · rename_i hp
      split at e
      · rename_i hR
        exact so_oini hd hp hR e
      · cases e
    · cases e
end So4
