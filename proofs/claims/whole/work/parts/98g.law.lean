/-! the law's loop -/
theorem i32_nI (v : Int32) : v = nI v.toBitVec.toNat := by
  apply Int32.toBitVec_inj.mp
  show v.toBitVec = BitVec.ofNat 32 v.toBitVec.toNat
  rw [BitVec.ofNat_toNat, BitVec.setWidth_eq]
theorem and63 (v : Int32) : ∃ c, c < 64 ∧ v &&& nI 63 = nI c := by
  refine ⟨v.toBitVec.toNat &&& 63, ?_, ?_⟩
  · exact Nat.lt_of_le_of_lt Nat.and_le_right (by decide)
  · have := nI_and v.toBitVec.toNat 63
    rw [← i32_nI v] at this
    exact this
section LL
variable {hh : aH} {b x s0 L n i : Nat} {xs : Nat → Int32} {g S K T : Nat → Nat}
theorem l_switch (H : LI hh b x s0 L xs g S K T n) (hi : i + 4 ≤ L) (hL : L ≤ 2048) {c : Nat} (hc : c < 64) : ∃ hh', run 189 32 [.ref b, .ref x, .ref (x + 145), .int (nI i)] [.int (nI c)] hh = run 189 1239 [.ref b, .ref x, .ref (x + 145), .int (nI i)] [] hh' ∧ ∃ g S K T n, LI hh' b x s0 L xs g S K T n := by
  have cs : c = 0 ∨ c = 1 ∨ c = 2 ∨ c = 3 ∨ c = 4 ∨ c = 5 ∨ c = 6 ∨ c = 7 ∨ c = 8 ∨ c = 9 ∨ c = 10 ∨ c = 11 ∨ c = 12 ∨ c = 13 ∨ c = 14 ∨ c = 15 ∨ c = 16 ∨ c = 17 ∨ c = 18 ∨ c = 19 ∨ c = 20 ∨ c = 21 ∨ c = 22 ∨ c = 23 ∨ c = 24 ∨ c = 25 ∨ c = 26 ∨ c = 27 ∨ c = 28 ∨ c = 29 ∨ c = 30 ∨ c = 31 ∨ c = 32 ∨ c = 33 ∨ c = 34 ∨ c = 35 ∨ c = 36 ∨ c = 37 ∨ c = 38 ∨ c = 39 ∨ c = 40 ∨ c = 41 ∨ c = 42 ∨ c = 43 ∨ c = 44 ∨ c = 45 ∨ c = 46 ∨ c = 47 ∨ c = 48 ∨ c = 49 ∨ c = 50 ∨ c = 51 ∨ c = 52 ∨ c = 53 ∨ c = 54 ∨ c = 55 ∨ c = 56 ∨ c = 57 ∨ c = 58 ∨ c = 59 ∨ c = 60 ∨ c = 61 ∨ c = 62 ∨ c = 63 := by omega
  rcases cs with rfl | rfl | rfl | rfl | rfl | rfl | rfl | rfl | rfl | rfl | rfl | rfl | rfl | rfl | rfl | rfl | rfl | rfl | rfl | rfl | rfl | rfl | rfl | rfl | rfl | rfl | rfl | rfl | rfl | rfl | rfl | rfl | rfl | rfl | rfl | rfl | rfl | rfl | rfl | rfl | rfl | rfl | rfl | rfl | rfl | rfl | rfl | rfl | rfl | rfl | rfl | rfl | rfl | rfl | rfl | rfl | rfl | rfl | rfl | rfl | rfl | rfl | rfl | rfl
  · rw [s189_32_0]; exact l_setPackets H hi hL
  · rw [s189_32_1]; exact l_setPayload H hi hL
  · rw [s189_32_2]; exact l_setNodes H hi hL
  · rw [s189_32_3]; exact l_addLink H hi hL
  · rw [s189_32_4]; exact l_removeLink H hi hL
  · rw [s189_32_5]; exact l_setBehavior H hi hL
  · rw [s189_32_6]; exact l_setState H hi hL
  · rw [s189_32_7]; exact l_setLimit H hi hL
  · rw [s189_32_8]; exact l_run H hi hL
  · rw [s189_32_9]; exact l_runUntil H hi hL
  · rw [s189_32_10]; exact l_rounds H hi hL
  · rw [s189_32_11]; exact l_nodes H hi hL
  · rw [s189_32_12]; exact l_links H hi hL
  · rw [s189_32_13]; exact l_link H hi hL
  · rw [s189_32_14]; exact l_rank H hi hL
  · rw [s189_32_15]; exact l_vector H hi hL
  · rw [s189_32_16]; exact l_payload H hi hL
  · rw [s189_32_17]; exact l_fates H hi hL
  · rw [s189_32_18]; exact l_lastSent H hi hL
  · rw [s189_32_19]; exact l_endSum H hi hL
  · rw [s189_32_20]; exact l_differing H hi hL
  · rw [s189_32_21]; exact l_knows H hi hL
  · rw [s189_32_22]; exact l_solve H hi hL
  · rw [s189_32_23]; exact l_wrong H hi hL
  · rw [s189_32_24]; exact l_combination H hi hL
  · rw [s189_32_25]; exact l_commonRank H hi hL
  · rw [s189_32_26]; exact l_suspect H hi hL
  · rw [s189_32_27]; exact l_suspicions H hi hL
  · rw [s189_32_28]; exact l_check H hi hL
  · rw [s189_32_29]; exact l_checkRandomly H hi hL
  · rw [s189_32_30]; exact l_marks H hi hL
  · rw [s189_32_31]; exact l_isCutOff H hi hL
  · rw [s189_32_32]; exact l_sentRank H hi hL
  · rw [s189_32_33]; exact l_flow H hi hL
  · rw [s189_32_34]; exact l_neededLink H hi hL
  · rw [s189_32_35]; exact l_append H hi hL
  · rw [s189_32_36]; exact l_clearText H hi hL
  · rw [s189_32_37]; exact l_faultPosition H hi hL
  · rw [s189_32_38]; exact l_read H hi hL
  · rw [s189_32_39]; exact l_keep H hi hL
  · rw [s189_32_40]; exact l_restore H hi hL
  · rw [s189_32_41]; exact l_checksum H hi hL
  · rw [s189_32_42]; exact ⟨hh, rfl, g, S, K, T, n, H⟩
  · rw [s189_32_43]; exact ⟨hh, rfl, g, S, K, T, n, H⟩
  · rw [s189_32_44]; exact ⟨hh, rfl, g, S, K, T, n, H⟩
  · rw [s189_32_45]; exact ⟨hh, rfl, g, S, K, T, n, H⟩
  · rw [s189_32_46]; exact ⟨hh, rfl, g, S, K, T, n, H⟩
  · rw [s189_32_47]; exact ⟨hh, rfl, g, S, K, T, n, H⟩
  · rw [s189_32_48]; exact ⟨hh, rfl, g, S, K, T, n, H⟩
  · rw [s189_32_49]; exact ⟨hh, rfl, g, S, K, T, n, H⟩
  · rw [s189_32_50]; exact ⟨hh, rfl, g, S, K, T, n, H⟩
  · rw [s189_32_51]; exact ⟨hh, rfl, g, S, K, T, n, H⟩
  · rw [s189_32_52]; exact ⟨hh, rfl, g, S, K, T, n, H⟩
  · rw [s189_32_53]; exact ⟨hh, rfl, g, S, K, T, n, H⟩
  · rw [s189_32_54]; exact ⟨hh, rfl, g, S, K, T, n, H⟩
  · rw [s189_32_55]; exact ⟨hh, rfl, g, S, K, T, n, H⟩
  · rw [s189_32_56]; exact ⟨hh, rfl, g, S, K, T, n, H⟩
  · rw [s189_32_57]; exact ⟨hh, rfl, g, S, K, T, n, H⟩
  · rw [s189_32_58]; exact ⟨hh, rfl, g, S, K, T, n, H⟩
  · rw [s189_32_59]; exact ⟨hh, rfl, g, S, K, T, n, H⟩
  · rw [s189_32_60]; exact ⟨hh, rfl, g, S, K, T, n, H⟩
  · rw [s189_32_61]; exact ⟨hh, rfl, g, S, K, T, n, H⟩
  · rw [s189_32_62]; exact ⟨hh, rfl, g, S, K, T, n, H⟩
  · rw [s189_32_63]; exact ⟨hh, rfl, g, S, K, T, n, H⟩
theorem l_step (H : LI hh b x s0 L xs g S K T n) (hi : i + 4 ≤ L) (hL : L ≤ 2048) : ∃ hh', run 189 26 [.ref b, .ref x, .ref (x + 145), .int (nI i)] [] hh = run 189 18 [.ref b, .ref x, .ref (x + 145), .int (nI (i + 4))] [] hh' ∧ ∃ g S K T n, LI hh' b x s0 L xs g S K T n := by
  obtain ⟨c, c1, c2⟩ := and63 (xs i)
  obtain ⟨h', r, L'⟩ := l_switch H hi hL c1
  refine ⟨h', ?_, L'⟩
  have b0 := H.1
  simp (disch := omega) only [s189_26, s189_27, s189_28, s189_29, s189_31, b0, al_S, c2, r, s189_1239, s189_1242, nI_adds]
theorem l_end (H : LI hh b x s0 L xs g S K T n) : hh.1 - x ≤ 600000 ∧ hh.2.1 ≤ s0 + 1874 := by
  obtain ⟨_, _, ⟨z, _, _, _, _, _, _, _, _, _, _, c12, c13⟩, _⟩ := H
  have : cz z ≤ 2 := by
    unfold cz
    split <;> split <;> omega
  omega
theorem l_loop (hL : L ≤ 2048) : ∀ k i hh g S K T n, L - i ≤ k → LI hh b x s0 L xs g S K T n → i ≤ L → ∃ h', run 189 18 [.ref b, .ref x, .ref (x + 145), .int (nI i)] [] hh = some (some (.int 1), h') ∧ h'.1 - x ≤ 600000 ∧ h'.2.1 ≤ s0 + 1874 := by
  intro k
  induction k with
  | zero =>
    intro i hh g S K T n hk H hi
    have b0 := H.1
    refine ⟨hh, ?_, l_end H⟩
    have e : i = L := by omega
    subst e
    have cmp : nI i - nI 4 < nI i := by
      by_cases z : 4 ≤ i
      · rw [nI_sub z, nI_lts (by omega) (by omega)]; omega
      · have cs : i = 0 ∨ i = 1 ∨ i = 2 ∨ i = 3 := by omega
        rcases cs with rfl | rfl | rfl | rfl <;> decide
    rw [s189_18]
    simp (disch := omega) only [s189_19, s189_20, s189_21, s189_22, s189_23, b0, len_S, cmp, if_true, s189_1245, s189_1246, z01_1]
    rfl
  | succ k ih =>
    intro i hh g S K T n hk H hi
    have b0 := H.1
    by_cases z : i + 4 ≤ L
    · obtain ⟨h', r, g', S', K', T', n', L'⟩ := l_step H z hL
      obtain ⟨h2, r2, q⟩ := ih (i + 4) h' g' S' K' T' n' (by omega) L' (by omega)
      refine ⟨h2, ?_, q⟩
      rw [s189_18]
      simp (disch := omega) only [s189_19, s189_20, s189_21, s189_22, s189_23, b0, len_S, nI_sub, nI_lts, show ¬ L - 4 < i from by omega, if_false]
      rw [r, r2]
    · refine ⟨hh, ?_, l_end H⟩
      have cmp : nI L - nI 4 < nI i := by
        by_cases y : 4 ≤ L
        · rw [nI_sub y, nI_lts (by omega) (by omega)]; omega
        · have cl' : L = 0 ∨ L = 1 ∨ L = 2 ∨ L = 3 := by omega
          have : nI L - nI 4 < nI 0 := by rcases cl' with rfl | rfl | rfl | rfl <;> decide
          rw [Int32.lt_iff_toInt_lt] at this ⊢
          rw [nI_toInt (by omega)] at this ⊢
          omega
      rw [s189_18]
      simp (disch := omega) only [s189_19, s189_20, s189_21, s189_22, s189_23, b0, len_S, cmp, if_true, s189_1245, s189_1246, z01_1]
      rfl
end LL
theorem wf_new : WF gNew := by
  unfold gNew
  refine WB.begin ?_
  have e : ∀ j, 14 ≤ j → gFirst (up (up (up (up (fun _ => 0) 0 4) 1 5) 4 1) 5 3) j = 0 := fun j hj => by
    unfold gFirst
    rw [if_neg (by omega), up_ne (by omega), up_ne (by omega), up_ne (by omega), up_ne (by omega)]
  refine ⟨⟨by decide, by decide⟩, ⟨by decide, by decide⟩, by decide, fun l hl => absurd (show l < 0 from hl) (Nat.not_lt_zero _), by decide, ⟨by decide, by decide⟩, fun v hv => ?_, by decide⟩
  rw [e _ (by omega)]
  omega
theorem wp_new : WP gNew := by
  unfold gNew
  refine WP.begin (by decide) (fun i hi => ?_)
  unfold gFirst
  rw [if_pos (by omega)]
  omega
theorem law_runs : aLaw := by
  intro L b a0 xs hL hb
  let h0 : aH := (a0, 0, fun q => if q = b then some (.inl (9, L, .inl xs)) else none)
  obtain ⟨h1, r1, n1', m1, q1, c0, ⟨C, c1, c2⟩, c3, c4, c5, c7, c8, c9⟩ := c_new (h := hnew h0 7 (.inr (6, [.null, .null, .null, .null, .null, .int 0, .null]))) (x := a0) rfl (hget_new _ _ _)
  obtain ⟨h2, r2, n2, m2, q2, d0, d1, d2, d3, d4, d5, d6, d7, d8, d9⟩ := m_new (h := hnew h1 15 (.inr (7, [.null, .null, .null, .null, .int 0, .null, .null, .null, .null, .int 0, .int 0, .int 0, .int 0, .null, .long 0]))) (x := a0 + 145) (by rw [hnew_1, n1']) (by rw [← n1']; exact hget_new _ _ _)
  have o : ∀ q, q < a0 + 145 → hget h2 q = hget h1 q := fun q hq => by rw [q2 q hq, hget_newn (by omega)]
  have sb : hget h2 b = some (.inl (9, L, .inl xs)) := by
    rw [o b (by omega), q1 b hb, hget_newn (by show b ≠ a0; omega)]
    show (if b = b then some _ else none) = _
    rw [if_pos rfl]
  have z0 : cz (fun _ => none) = 0 := rfl
  have z1 : h0.2.1 = 0 := rfl
  have W : CW h2 a0 10631 gNew (fun _ => 0) (fun _ => 0) (fun _ => 0) 0 := by
    refine ⟨fun _ => none, ?_, ⟨C, c1.fr (fun q h1 h2 => o q (by omega)), c2⟩, ?_, ?_, ⟨fun _ => 0, fun _ => 0, fun _ => 0, ⟨?_, ?_, ?_⟩, fun _ _ => rfl⟩, ⟨0, fun _ => 0, fun _ => 0, ?_, ?_, ?_⟩, ?_, ⟨0, (0, 0, 0, 0, 0, 0, 0), ?_⟩, ⟨fun s hs => ⟨fun _ => rfl, fun a z => by cases z⟩, fun a a' z => by cases z⟩, ⟨by omega, fun i hi => absurd hi (Nat.not_lt_zero _)⟩, ?_, ?_⟩
    · unfold CH; rw [o _ (by omega)]; exact c0
    · rw [o _ (by omega)]; exact c3
    · rw [o _ (by omega)]; exact c4
    · rw [o _ (by omega)]; exact c5.1
    · rw [o _ (by omega)]; exact c5.2.1
    · rw [o _ (by omega)]; exact c5.2.2
    · rw [o _ (by omega)]; exact c7.1
    · rw [o _ (by omega)]; exact c7.2.1
    · rw [o _ (by omega)]; exact c7.2.2
    · rw [o _ (by omega)]; exact c8
    · rw [o _ (by omega)]; exact c9
    · rw [n2, z0]
    · rw [m2, hnew_2, m1, hnew_2, z0, z1]
  have M : MW h2 (a0 + 145) gNew (fun _ => 0) (fun _ => 0) (fun _ => 0) 0 := ⟨⟨_, _, _, _, _, d0⟩, d1, d2, d3, d4, ⟨_, d5⟩, ⟨_, d6⟩, ⟨_, d7⟩, ⟨_, d8⟩, ⟨_, d9⟩⟩
  obtain ⟨h', r, e1, e2⟩ := l_loop (b := b) (x := a0) (s0 := 10631) (xs := xs) hL L 0 h2 _ _ _ _ _ (by omega) ⟨sb, hb, W, M, wf_new, wp_new, fun _ _ => by decide⟩ (by omega)
  refine ⟨h', ?_, e1, by omega⟩
  have g1 : h0.1 = a0 := rfl
  show run 189 0 [.ref b, .null, .null, .null] [] h0 = _
  simp (disch := omega) only [s189_0, s189_3, s189_4, s189_7, s189_8, s189_11, s189_12, s189_15, s189_16, s189_17, gf0, gf1, gf2, gf3, gf4, gf5, gf6, gf7, gf8, gf9, gf10, gf11, gf12, gf13, gf14, pu0, pu1, pu2, pu3, pu4, pu5, pu6, pu7, pu8, pu9, pu10, pu11, pu12, pu13, pu14, rc_at, bK_some, Option.toList_some, Option.toList_none, List.cons_append, List.nil_append, g1, r1, n1', r2]
  exact r
