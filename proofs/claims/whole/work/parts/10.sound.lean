/-! THE ABSTRACT MACHINE IS SOUND -/
theorem pI_ok {c i : Nat} {v : Int32} (h : pkG pI c i = some v) : Cond.constant (cS c) i v ∈ gwT := by
  obtain ⟨pl, hm⟩ := pkG_mem h
  exact wAt_good (List.all_eq_true.mp chI_ok _ hm) rfl
theorem pL_ok {c i : Nat} {v : Int64} (h : pkG pL c i = some v) : Cond.constantLong (cS c) i v ∈ gwT := by
  obtain ⟨pl, hm⟩ := pkG_mem h
  exact wAt_good (List.all_eq_true.mp chL_ok _ hm) rfl
set_option maxHeartbeats 4000000 in
theorem so_act {f pc : Nat} {ls st : List Value} {h : aH} {a : aA} (e : act f pc ls st h = some a) : aOK f pc ls st h a := by
  unfold act at e
  split at e
  · rename_i i n hd
    unfold actI at e
    split at e
    · replace e := icN_some e; obtain ⟨rfl, e⟩ := e
      cases nx_some e
      exact aMv_p fun base D K p l e R s m args below meth c Q cells slots lsr H locs cx hl hh kk => lv_iconst cx.1 cx.2.1 hd rfl kk
    · replace e := icN_some e; obtain ⟨rfl, e⟩ := e
      cases nx_some e
      exact aMv_p fun base D K p l e R s m args below meth c Q cells slots lsr H locs cx hl hh kk => lv_bipush cx.1 cx.2.1 hd rfl kk
    · replace e := icN_some e; obtain ⟨rfl, e⟩ := e
      cases nx_some e
      exact aMv_p fun base D K p l e R s m args below meth c Q cells slots lsr H locs cx hl hh kk => lv_sipush cx.1 cx.2.1 hd rfl kk
    · replace e := icN_some e; obtain ⟨rfl, e⟩ := e
      cases nx_some e
      exact aMv_p fun base D K p l e R s m args below meth c Q cells slots lsr H locs cx hl hh kk => lv_lconst cx.1 cx.2.1 hd rfl kk
    · replace e := icN_some e; obtain ⟨rfl, e⟩ := e
      split at e
      · rename_i v hp
        cases nx_some e
        exact aMv_p fun base D K p l e R s m args below meth c Q cells slots lsr H locs cx hl hh kk => lv_ldc cx.1 cx.2.1 cx.2.2.2.1 (cx.2.2.2.2.1 _ (pI_ok hp)) hd kk
      · cases e
    · replace e := icN_some e; obtain ⟨rfl, e⟩ := e
      split at e
      · rename_i v hp
        cases nx_some e
        exact aMv_p fun base D K p l e R s m args below meth c Q cells slots lsr H locs cx hl hh kk => lv_ldcw cx.1 cx.2.1 cx.2.2.2.1 (cx.2.2.2.2.1 _ (pI_ok hp)) hd kk
      · cases e
    · replace e := icN_some e; obtain ⟨rfl, e⟩ := e
      split at e
      · rename_i v hp
        cases nx_some e
        exact aMv_p fun base D K p l e R s m args below meth c Q cells slots lsr H locs cx hl hh kk => lv_ldc2 cx.1 cx.2.1 cx.2.2.2.1 (cx.2.2.2.2.1 _ (pL_ok hp)) hd kk
      · cases e
    · replace e := icN_some e; obtain ⟨rfl, e⟩ := e
      exact so_ldI hd (Or.inl ⟨_, rfl, rfl, rfl, rfl⟩) e
    · replace e := icN_some e; obtain ⟨rfl, e⟩ := e
      exact so_ldI hd (Or.inr ⟨rfl, rfl, rfl⟩) e
    · replace e := icN_some e; obtain ⟨rfl, e⟩ := e
      exact so_ldA hd (Or.inl ⟨_, rfl, rfl, rfl, rfl⟩) e
    · replace e := icN_some e; obtain ⟨rfl, e⟩ := e
      exact so_ldA hd (Or.inr ⟨rfl, rfl, rfl⟩) e
    · replace e := icN_some e; obtain ⟨rfl, e⟩ := e
      exact so_ldL hd e
    · replace e := icN_some e; obtain ⟨rfl, e⟩ := e
      exact so_stI hd (Or.inl ⟨_, rfl, rfl, rfl, rfl⟩) e
    · replace e := icN_some e; obtain ⟨rfl, e⟩ := e
      exact so_stI hd (Or.inr ⟨rfl, rfl, rfl⟩) e
    · replace e := icN_some e; obtain ⟨rfl, e⟩ := e
      exact so_stA hd (Or.inl ⟨_, rfl, rfl, rfl, rfl⟩) e
    · replace e := icN_some e; obtain ⟨rfl, e⟩ := e
      exact so_stA hd (Or.inr ⟨rfl, rfl, rfl⟩) e
    · replace e := icN_some e; obtain ⟨rfl, e⟩ := e
      exact so_stL hd e
    · replace e := icN_some e; obtain ⟨rfl, e⟩ := e
      exact so_iinc hd e
    · replace e := icN_some e; obtain ⟨rfl, e⟩ := e
      obtain ⟨x, y, r, z, rfl, hz, rfl⟩ := op2I_some e
      cases hz
      exact aMv_p fun base D K p l e R s m args below meth c Q cells slots lsr H locs cx hl hh kk => lv_iadd cx.1 cx.2.1 hd kk
    · replace e := icN_some e; obtain ⟨rfl, e⟩ := e
      obtain ⟨x, y, r, z, rfl, hz, rfl⟩ := op2I_some e
      cases hz
      exact aMv_p fun base D K p l e R s m args below meth c Q cells slots lsr H locs cx hl hh kk => lv_isub cx.1 cx.2.1 hd kk
    · replace e := icN_some e; obtain ⟨rfl, e⟩ := e
      obtain ⟨x, y, r, z, rfl, hz, rfl⟩ := op2I_some e
      cases hz
      exact aMv_p fun base D K p l e R s m args below meth c Q cells slots lsr H locs cx hl hh kk => lv_imul cx.1 cx.2.1 hd kk
    · replace e := icN_some e; obtain ⟨rfl, e⟩ := e
      obtain ⟨x, y, r, z, rfl, hz, rfl⟩ := op2I_some e
      split at hz
      · cases hz
      · rename_i hy
        cases hz
        exact aMv_p fun base D K p l e R s m args below meth c Q cells slots lsr H locs cx hl hh kk => lv_idiv cx.1 cx.2.1 hd hy kk
    · replace e := icN_some e; obtain ⟨rfl, e⟩ := e
      obtain ⟨x, y, r, z, rfl, hz, rfl⟩ := op2I_some e
      split at hz
      · cases hz
      · rename_i hy
        cases hz
        exact aMv_p fun base D K p l e R s m args below meth c Q cells slots lsr H locs cx hl hh kk => lv_irem cx.1 cx.2.1 hd hy kk
    · replace e := icN_some e; obtain ⟨rfl, e⟩ := e
      obtain ⟨x, y, r, z, rfl, hz, rfl⟩ := op2I_some e
      cases hz
      exact aMv_p fun base D K p l e R s m args below meth c Q cells slots lsr H locs cx hl hh kk => lv_iand cx.1 cx.2.1 hd kk
    · replace e := icN_some e; obtain ⟨rfl, e⟩ := e
      obtain ⟨x, y, r, z, rfl, hz, rfl⟩ := op2I_some e
      cases hz
      exact aMv_p fun base D K p l e R s m args below meth c Q cells slots lsr H locs cx hl hh kk => lv_ior cx.1 cx.2.1 hd kk
    · replace e := icN_some e; obtain ⟨rfl, e⟩ := e
      obtain ⟨x, y, r, z, rfl, hz, rfl⟩ := op2I_some e
      cases hz
      exact aMv_p fun base D K p l e R s m args below meth c Q cells slots lsr H locs cx hl hh kk => lv_ixor cx.1 cx.2.1 hd kk
    · replace e := icN_some e; obtain ⟨rfl, e⟩ := e
      obtain ⟨x, y, r, z, rfl, hz, rfl⟩ := op2I_some e
      cases hz
      exact aMv_p fun base D K p l e R s m args below meth c Q cells slots lsr H locs cx hl hh kk => lv_ishl cx.1 cx.2.1 hd kk
    · replace e := icN_some e; obtain ⟨rfl, e⟩ := e
      obtain ⟨x, y, r, z, rfl, hz, rfl⟩ := op2I_some e
      cases hz
      exact aMv_p fun base D K p l e R s m args below meth c Q cells slots lsr H locs cx hl hh kk => lv_ishr cx.1 cx.2.1 hd kk
    · replace e := icN_some e; obtain ⟨rfl, e⟩ := e
      obtain ⟨x, y, r, z, rfl, hz, rfl⟩ := op2I_some e
      cases hz
      exact aMv_p fun base D K p l e R s m args below meth c Q cells slots lsr H locs cx hl hh kk => lv_iushr cx.1 cx.2.1 hd rfl kk
    · replace e := icN_some e; obtain ⟨rfl, e⟩ := e
      obtain ⟨x, y, r, z, rfl, hz, rfl⟩ := op2L_some e
      cases hz
      exact aMv_p fun base D K p l e R s m args below meth c Q cells slots lsr H locs cx hl hh kk => lv_ladd cx.1 cx.2.1 hd kk
    · replace e := icN_some e; obtain ⟨rfl, e⟩ := e
      obtain ⟨x, y, r, z, rfl, hz, rfl⟩ := op2L_some e
      cases hz
      exact aMv_p fun base D K p l e R s m args below meth c Q cells slots lsr H locs cx hl hh kk => lv_lmul cx.1 cx.2.1 hd kk
    · replace e := icN_some e; obtain ⟨rfl, e⟩ := e
      obtain ⟨x, y, r, z, rfl, hz, rfl⟩ := op2L_some e
      split at hz
      · cases hz
      · rename_i hy
        cases hz
        exact aMv_p fun base D K p l e R s m args below meth c Q cells slots lsr H locs cx hl hh kk => lv_ldiv cx.1 cx.2.1 hd hy kk
    · replace e := icN_some e; obtain ⟨rfl, e⟩ := e
      obtain ⟨x, y, r, z, rfl, hz, rfl⟩ := op2L_some e
      split at hz
      · cases hz
      · rename_i hy
        cases hz
        exact aMv_p fun base D K p l e R s m args below meth c Q cells slots lsr H locs cx hl hh kk => lv_lrem cx.1 cx.2.1 hd hy kk
    · replace e := icN_some e; obtain ⟨rfl, e⟩ := e
      split at e
      · cases nx_some e
        exact aMv_p fun base D K p l e R s m args below meth c Q cells slots lsr H locs cx hl hh kk => lv_i2l cx.1 cx.2.1 hd rfl kk
      · cases e
    · replace e := icN_some e; obtain ⟨rfl, e⟩ := e
      split at e
      · cases nx_some e
        exact aMv_p fun base D K p l e R s m args below meth c Q cells slots lsr H locs cx hl hh kk => lv_l2i cx.1 cx.2.1 hd rfl kk
      · cases e
    · replace e := icN_some e; obtain ⟨rfl, e⟩ := e
      split at e
      · cases nx_some e
        exact aMv_p fun base D K p l e R s m args below meth c Q cells slots lsr H locs cx hl hh kk => lv_i2c cx.1 cx.2.1 hd rfl kk
      · cases e
    · replace e := icN_some e; obtain ⟨rfl, e⟩ := e
      split at e
      · cases nx_some e
        exact aMv_p fun base D K p l e R s m args below meth c Q cells slots lsr H locs cx hl hh kk => W.lcmp cx.1 cx.2.1 hd kk
      · cases e
    · replace e := icN_some e; obtain ⟨rfl, e⟩ := e
      split at e
      · split at e
        · rename_i hv
          cases nx_some e
          exact aMv_p fun base D K p l e R s m args below meth c Q cells slots lsr H locs cx hl hh kk => lv_dup cx.1 cx.2.1 hd hv kk
        · cases e
      · cases e
    · replace e := icN_some e; obtain ⟨rfl, e⟩ := e
      split at e
      · split at e
        · rename_i hv
          cases nx_some e
          exact aMv_p fun base D K p l e R s m args below meth c Q cells slots lsr H locs cx hl hh kk => lv_dup2_11 cx.1 cx.2.1 hd hv.1 hv.2 kk
        · cases e
      · cases e
    · replace e := icN_some e; obtain ⟨rfl, e⟩ := e
      split at e
      · split at e
        · rename_i hv
          cases nx_some e
          exact aMv_p fun base D K p l e R s m args below meth c Q cells slots lsr H locs cx hl hh kk => lv_pop cx.1 cx.2.1 hd hv kk
        · cases e
      · cases e
    · replace e := icN_some e; obtain ⟨rfl, e⟩ := e
      split at e
      · exact so_ifc hd e
      · cases e
    · replace e := icN_some e; obtain ⟨rfl, e⟩ := e
      split at e
      · exact so_icmp hd e
      · cases e
    · replace e := icN_some e; obtain ⟨rfl, e⟩ := e
      split at e
      · exact so_jmp (fun base D K p l e R s m args below meth c Q cells slots lsr H locs tgt ht cx kk => lv_ifnonnull cx.1 cx.2.1 hd ht kk) e
      · cases nx_some e
        exact aMv_p fun base D K p l e R s m args below meth c Q cells slots lsr H locs cx hl hh kk => lv_ifnonnullN cx.1 cx.2.1 hd kk
      · cases e
    · replace e := icN_some e; obtain ⟨rfl, e⟩ := e
      exact so_jmp (fun base D K p l e R s m args below meth c Q cells slots lsr H locs tgt ht cx kk => lv_goto cx.1 cx.2.1 hd ht kk) e
    · split at e
      · split at e
        · rename_i off ho
          refine so_jmp (fun base D K p l e R s m args below meth c Q cells slots lsr H locs tgt ht cx kk => ?_) e
          unfold tsw at ho
          split at ho
          · rename_i hx
            cases ho
            exact lv_tableOut cx.1 cx.2.1 hd hx ht kk
          · rename_i hx
            exact lv_tableIn cx.1 cx.2.1 hd (fun q => hx (Or.inl q)) (fun q => hx (Or.inr q)) ho ht kk
        · cases e
      · cases e
    · replace e := icN_some e; obtain ⟨rfl, e⟩ := e
      split at e
      · rename_i hp
        exact so_get hd hp e
      · cases e
    · replace e := icN_some e; obtain ⟨rfl, e⟩ := e
      split at e
      · rename_i hp
        split at e
        · rename_i hf
          exact so_put hd hp hf e
        · cases e
      · cases e
    · replace e := icN_some e; obtain ⟨rfl, e⟩ := e
      split at e
      · exact so_iald hd e
      · cases e
    · replace e := icN_some e; obtain ⟨rfl, e⟩ := e
      split at e
      · exact so_zald hd e
      · cases e
    · replace e := icN_some e; obtain ⟨rfl, e⟩ := e
      split at e
      · exact so_cald hd e
      · cases e
    · replace e := icN_some e; obtain ⟨rfl, e⟩ := e
      split at e
      · exact so_aald hd e
      · cases e
    · replace e := icN_some e; obtain ⟨rfl, e⟩ := e
      split at e
      · exact so_iast hd e
      · cases e
    · replace e := icN_some e; obtain ⟨rfl, e⟩ := e
      split at e
      · exact so_zast hd e
      · cases e
    · replace e := icN_some e; obtain ⟨rfl, e⟩ := e
      split at e
      · exact so_cast hd e
      · cases e
    · replace e := icN_some e; obtain ⟨rfl, e⟩ := e
      split at e
      · exact so_aast hd e
      · cases e
    · replace e := icN_some e; obtain ⟨rfl, e⟩ := e
      split at e
      · exact so_alen hd e
      · cases e
    · replace e := icN_some e; obtain ⟨rfl, e⟩ := e
      split at e
      · rename_i ht
        exact so_newa hd ht e
      · cases e
    · replace e := icN_some e; obtain ⟨rfl, e⟩ := e
      split at e
      · rename_i hp
        split at e
        · rename_i ht
          exact so_newq hd hp ht e
        · cases e
      · cases e
    · replace e := icN_some e; obtain ⟨rfl, e⟩ := e
      split at e
      · rename_i hp
        exact so_new hd hp e
      · cases e
    · replace e := icN_some e; obtain ⟨rfl, e⟩ := e
      exact so_invV hd e
    · replace e := icN_some e; obtain ⟨rfl, e⟩ := e
      exact so_invS hd e
    · replace e := icN_some e; obtain ⟨rfl, e⟩ := e
      exact so_invI hd e
    · replace e := icN_some e; obtain ⟨rfl, e⟩ := e
      split at e
      · unfold retK at e
        split at e
        · rename_i hr
          cases e
          exact ⟨rfl, rfl, Or.inl ⟨hd, _, rfl, hr⟩⟩
        · cases e
      · cases e
    · replace e := icN_some e; obtain ⟨rfl, e⟩ := e
      split at e
      · split at e
        · rename_i hr
          cases e
          exact ⟨rfl, rfl, Or.inr (Or.inl ⟨hd, hr, _, rfl⟩)⟩
        · cases e
      · cases e
    · replace e := icN_some e; obtain ⟨rfl, e⟩ := e
      split at e
      · split at e
        · rename_i hr
          cases e
          exact ⟨rfl, rfl, Or.inr (Or.inr ⟨hd, hr, rfl⟩)⟩
        · cases e
      · cases e
    · cases e
  · cases e
