section
-- ===== PART A: goes FIRST, ahead of the names: the tables' words, and 'selects' of the private methods out of them =====
/-- a private method of a class that the tables say can be made, by its rows of tables_1 -/
def lw_okq (q : MethodName × Nat) : Prop := (q.1.cls ≠ "java/lang/invoke/MethodHandle" ∧ q.1.cls ≠ "java/lang/invoke/VarHandle") ∧ Cond.instantiable q.1.cls q.2 ∈ tables_1 ∧ Cond.privateMethod q.1 ∈ tables_1 ∧ Cond.instanceMethod q.1 ∈ tables_1
theorem lw_p0 : lw_okq (⟨"CodedRelays$Node", "sumOf", "([II)I"⟩, 7) := ⟨⟨by decide +kernel, by decide +kernel⟩, List.mem_of_getElem? (i := 28) (by decide +kernel), List.mem_of_getElem? (i := 379) (by decide +kernel), List.mem_of_getElem? (i := 380) (by decide +kernel)⟩
theorem lw_p1 : lw_okq (⟨"CodedRelays$Ways", "search", "(LCodedRelays$Network;I)V"⟩, 3) := ⟨⟨by decide +kernel, by decide +kernel⟩, List.mem_of_getElem? (i := 211) (by decide +kernel), List.mem_of_getElem? (i := 583) (by decide +kernel), List.mem_of_getElem? (i := 584) (by decide +kernel)⟩
theorem lw_p2 : lw_okq (⟨"CodedRelays$Ways", "reachOver", "(LCodedRelays$Link;I)Z"⟩, 3) := ⟨⟨by decide +kernel, by decide +kernel⟩, List.mem_of_getElem? (i := 211) (by decide +kernel), List.mem_of_getElem? (i := 588) (by decide +kernel), List.mem_of_getElem? (i := 589) (by decide +kernel)⟩
theorem lw_p3 : lw_okq (⟨"CodedRelays$Ways", "turnBackFrom", "(LCodedRelays$Network;I)V"⟩, 3) := ⟨⟨by decide +kernel, by decide +kernel⟩, List.mem_of_getElem? (i := 211) (by decide +kernel), List.mem_of_getElem? (i := 592) (by decide +kernel), List.mem_of_getElem? (i := 593) (by decide +kernel)⟩
theorem lw_p4 : lw_okq (⟨"CodedRelays$EntryReader", "takeBeginning", "(C)Z"⟩, 8) := ⟨⟨by decide +kernel, by decide +kernel⟩, List.mem_of_getElem? (i := 230) (by decide +kernel), List.mem_of_getElem? (i := 625) (by decide +kernel), List.mem_of_getElem? (i := 626) (by decide +kernel)⟩
theorem lw_p5 : lw_okq (⟨"CodedRelays$EntryReader", "goOn", "(ZI)Z"⟩, 8) := ⟨⟨by decide +kernel, by decide +kernel⟩, List.mem_of_getElem? (i := 230) (by decide +kernel), List.mem_of_getElem? (i := 629) (by decide +kernel), List.mem_of_getElem? (i := 630) (by decide +kernel)⟩
theorem lw_p6 : lw_okq (⟨"CodedRelays", "carryOutEntry", "()V"⟩, 7) := ⟨⟨by decide +kernel, by decide +kernel⟩, List.mem_of_getElem? (i := 13) (by decide +kernel), List.mem_of_getElem? (i := 645) (by decide +kernel), List.mem_of_getElem? (i := 646) (by decide +kernel)⟩
theorem lw_p7 : lw_okq (⟨"CodedRelaysModel", "firstPayloads", "()V"⟩, 15) := ⟨⟨by decide +kernel, by decide +kernel⟩, List.mem_of_getElem? (i := 689) (by decide +kernel), List.mem_of_getElem? (i := 695) (by decide +kernel), List.mem_of_getElem? (i := 696) (by decide +kernel)⟩
theorem lw_p8 : lw_okq (⟨"CodedRelaysModel", "begin", "()V"⟩, 15) := ⟨⟨by decide +kernel, by decide +kernel⟩, List.mem_of_getElem? (i := 689) (by decide +kernel), List.mem_of_getElem? (i := 699) (by decide +kernel), List.mem_of_getElem? (i := 700) (by decide +kernel)⟩
theorem lw_p9 : lw_okq (⟨"CodedRelaysModel", "accept", "(III)V"⟩, 15) := ⟨⟨by decide +kernel, by decide +kernel⟩, List.mem_of_getElem? (i := 689) (by decide +kernel), List.mem_of_getElem? (i := 703) (by decide +kernel), List.mem_of_getElem? (i := 704) (by decide +kernel)⟩
theorem lw_p10 : lw_okq (⟨"CodedRelaysModel", "put", "(III)V"⟩, 15) := ⟨⟨by decide +kernel, by decide +kernel⟩, List.mem_of_getElem? (i := 689) (by decide +kernel), List.mem_of_getElem? (i := 707) (by decide +kernel), List.mem_of_getElem? (i := 708) (by decide +kernel)⟩
theorem lw_p11 : lw_okq (⟨"CodedRelaysModel", "isNode", "(I)Z"⟩, 15) := ⟨⟨by decide +kernel, by decide +kernel⟩, List.mem_of_getElem? (i := 689) (by decide +kernel), List.mem_of_getElem? (i := 776) (by decide +kernel), List.mem_of_getElem? (i := 777) (by decide +kernel)⟩
theorem lw_p12 : lw_okq (⟨"CodedRelaysModel", "layLink", "(III)V"⟩, 15) := ⟨⟨by decide +kernel, by decide +kernel⟩, List.mem_of_getElem? (i := 689) (by decide +kernel), List.mem_of_getElem? (i := 780) (by decide +kernel), List.mem_of_getElem? (i := 781) (by decide +kernel)⟩
theorem lw_p13 : lw_okq (⟨"CodedRelaysModel", "goes", "()I"⟩, 15) := ⟨⟨by decide +kernel, by decide +kernel⟩, List.mem_of_getElem? (i := 689) (by decide +kernel), List.mem_of_getElem? (i := 804) (by decide +kernel), List.mem_of_getElem? (i := 805) (by decide +kernel)⟩
theorem lw_p14 : lw_okq (⟨"CodedRelaysModel", "sendsFrom", "(I)V"⟩, 15) := ⟨⟨by decide +kernel, by decide +kernel⟩, List.mem_of_getElem? (i := 689) (by decide +kernel), List.mem_of_getElem? (i := 808) (by decide +kernel), List.mem_of_getElem? (i := 809) (by decide +kernel)⟩
theorem lw_p15 : lw_okq (⟨"CodedRelaysModel", "of", "(II)I"⟩, 15) := ⟨⟨by decide +kernel, by decide +kernel⟩, List.mem_of_getElem? (i := 689) (by decide +kernel), List.mem_of_getElem? (i := 812) (by decide +kernel), List.mem_of_getElem? (i := 813) (by decide +kernel)⟩
def lw_privs_1 : List (MethodName × Nat) := [(⟨"CodedRelays$Node", "sumOf", "([II)I"⟩, 7), (⟨"CodedRelays$Ways", "search", "(LCodedRelays$Network;I)V"⟩, 3), (⟨"CodedRelays$Ways", "reachOver", "(LCodedRelays$Link;I)Z"⟩, 3), (⟨"CodedRelays$Ways", "turnBackFrom", "(LCodedRelays$Network;I)V"⟩, 3), (⟨"CodedRelays$EntryReader", "takeBeginning", "(C)Z"⟩, 8), (⟨"CodedRelays$EntryReader", "goOn", "(ZI)Z"⟩, 8), (⟨"CodedRelays", "carryOutEntry", "()V"⟩, 7), (⟨"CodedRelaysModel", "firstPayloads", "()V"⟩, 15), (⟨"CodedRelaysModel", "begin", "()V"⟩, 15), (⟨"CodedRelaysModel", "accept", "(III)V"⟩, 15), (⟨"CodedRelaysModel", "put", "(III)V"⟩, 15), (⟨"CodedRelaysModel", "isNode", "(I)Z"⟩, 15), (⟨"CodedRelaysModel", "layLink", "(III)V"⟩, 15), (⟨"CodedRelaysModel", "goes", "()I"⟩, 15), (⟨"CodedRelaysModel", "sendsFrom", "(I)V"⟩, 15), (⟨"CodedRelaysModel", "of", "(II)I"⟩, 15)]
theorem lw_r1 : ∀ q ∈ lw_privs_1, lw_okq q := List.forall_mem_cons.mpr ⟨lw_p0, List.forall_mem_cons.mpr ⟨lw_p1, List.forall_mem_cons.mpr ⟨lw_p2, List.forall_mem_cons.mpr ⟨lw_p3, List.forall_mem_cons.mpr ⟨lw_p4, List.forall_mem_cons.mpr ⟨lw_p5, List.forall_mem_cons.mpr ⟨lw_p6, List.forall_mem_cons.mpr ⟨lw_p7, List.forall_mem_cons.mpr ⟨lw_p8, List.forall_mem_cons.mpr ⟨lw_p9, List.forall_mem_cons.mpr ⟨lw_p10, List.forall_mem_cons.mpr ⟨lw_p11, List.forall_mem_cons.mpr ⟨lw_p12, List.forall_mem_cons.mpr ⟨lw_p13, List.forall_mem_cons.mpr ⟨lw_p14, List.forall_mem_cons.mpr ⟨lw_p15, fun _ h => absurd h List.not_mem_nil⟩⟩⟩⟩⟩⟩⟩⟩⟩⟩⟩⟩⟩⟩⟩⟩
theorem lw_p16 : lw_okq (⟨"CodedRelaysModel", "isOpen", "(I)Z"⟩, 15) := ⟨⟨by decide +kernel, by decide +kernel⟩, List.mem_of_getElem? (i := 689) (by decide +kernel), List.mem_of_getElem? (i := 816) (by decide +kernel), List.mem_of_getElem? (i := 817) (by decide +kernel)⟩
theorem lw_p17 : lw_okq (⟨"CodedRelaysModel", "random", "(I)I"⟩, 15) := ⟨⟨by decide +kernel, by decide +kernel⟩, List.mem_of_getElem? (i := 689) (by decide +kernel), List.mem_of_getElem? (i := 820) (by decide +kernel), List.mem_of_getElem? (i := 821) (by decide +kernel)⟩
theorem lw_p18 : lw_okq (⟨"CodedRelaysModel", "sends", "(III)V"⟩, 15) := ⟨⟨by decide +kernel, by decide +kernel⟩, List.mem_of_getElem? (i := 689) (by decide +kernel), List.mem_of_getElem? (i := 828) (by decide +kernel), List.mem_of_getElem? (i := 829) (by decide +kernel)⟩
theorem lw_p19 : lw_okq (⟨"CodedRelaysModel", "vectorOf", "(II)I"⟩, 15) := ⟨⟨by decide +kernel, by decide +kernel⟩, List.mem_of_getElem? (i := 689) (by decide +kernel), List.mem_of_getElem? (i := 835) (by decide +kernel), List.mem_of_getElem? (i := 836) (by decide +kernel)⟩
theorem lw_p20 : lw_okq (⟨"CodedRelaysModel", "payloadOf", "(II)I"⟩, 15) := ⟨⟨by decide +kernel, by decide +kernel⟩, List.mem_of_getElem? (i := 689) (by decide +kernel), List.mem_of_getElem? (i := 839) (by decide +kernel), List.mem_of_getElem? (i := 840) (by decide +kernel)⟩
theorem lw_p21 : lw_okq (⟨"CodedRelaysModel", "arrives", "(I)I"⟩, 15) := ⟨⟨by decide +kernel, by decide +kernel⟩, List.mem_of_getElem? (i := 689) (by decide +kernel), List.mem_of_getElem? (i := 843) (by decide +kernel), List.mem_of_getElem? (i := 844) (by decide +kernel)⟩
theorem lw_p22 : lw_okq (⟨"CodedRelaysModel", "setFor", "(II)I"⟩, 15) := ⟨⟨by decide +kernel, by decide +kernel⟩, List.mem_of_getElem? (i := 689) (by decide +kernel), List.mem_of_getElem? (i := 847) (by decide +kernel), List.mem_of_getElem? (i := 848) (by decide +kernel)⟩
theorem lw_p23 : lw_okq (⟨"CodedRelaysModel", "payloadFor", "(II)I"⟩, 15) := ⟨⟨by decide +kernel, by decide +kernel⟩, List.mem_of_getElem? (i := 689) (by decide +kernel), List.mem_of_getElem? (i := 851) (by decide +kernel), List.mem_of_getElem? (i := 852) (by decide +kernel)⟩
theorem lw_p24 : lw_okq (⟨"CodedRelaysModel", "isLink", "(I)Z"⟩, 15) := ⟨⟨by decide +kernel, by decide +kernel⟩, List.mem_of_getElem? (i := 689) (by decide +kernel), List.mem_of_getElem? (i := 875) (by decide +kernel), List.mem_of_getElem? (i := 876) (by decide +kernel)⟩
theorem lw_p25 : lw_okq (⟨"CodedRelaysModel", "isSum", "(II)Z"⟩, 15) := ⟨⟨by decide +kernel, by decide +kernel⟩, List.mem_of_getElem? (i := 689) (by decide +kernel), List.mem_of_getElem? (i := 887) (by decide +kernel), List.mem_of_getElem? (i := 888) (by decide +kernel)⟩
theorem lw_p26 : lw_okq (⟨"CodedRelaysModel", "solved", "(II)I"⟩, 15) := ⟨⟨by decide +kernel, by decide +kernel⟩, List.mem_of_getElem? (i := 689) (by decide +kernel), List.mem_of_getElem? (i := 919) (by decide +kernel), List.mem_of_getElem? (i := 920) (by decide +kernel)⟩
theorem lw_p27 : lw_okq (⟨"CodedRelaysModel", "all", "()I"⟩, 15) := ⟨⟨by decide +kernel, by decide +kernel⟩, List.mem_of_getElem? (i := 689) (by decide +kernel), List.mem_of_getElem? (i := 931) (by decide +kernel), List.mem_of_getElem? (i := 932) (by decide +kernel)⟩
theorem lw_p28 : lw_okq (⟨"CodedRelaysModel", "isRelay", "(I)Z"⟩, 15) := ⟨⟨by decide +kernel, by decide +kernel⟩, List.mem_of_getElem? (i := 689) (by decide +kernel), List.mem_of_getElem? (i := 946) (by decide +kernel), List.mem_of_getElem? (i := 947) (by decide +kernel)⟩
theorem lw_p29 : lw_okq (⟨"CodedRelaysModel", "isProjection", "(I)Z"⟩, 15) := ⟨⟨by decide +kernel, by decide +kernel⟩, List.mem_of_getElem? (i := 689) (by decide +kernel), List.mem_of_getElem? (i := 950) (by decide +kernel), List.mem_of_getElem? (i := 951) (by decide +kernel)⟩
theorem lw_p30 : lw_okq (⟨"CodedRelaysModel", "isSuspect", "(II)Z"⟩, 15) := ⟨⟨by decide +kernel, by decide +kernel⟩, List.mem_of_getElem? (i := 689) (by decide +kernel), List.mem_of_getElem? (i := 954) (by decide +kernel), List.mem_of_getElem? (i := 955) (by decide +kernel)⟩
theorem lw_p31 : lw_okq (⟨"CodedRelaysModel", "checks", "(II)Z"⟩, 15) := ⟨⟨by decide +kernel, by decide +kernel⟩, List.mem_of_getElem? (i := 689) (by decide +kernel), List.mem_of_getElem? (i := 969) (by decide +kernel), List.mem_of_getElem? (i := 970) (by decide +kernel)⟩
def lw_privs_2 : List (MethodName × Nat) := [(⟨"CodedRelaysModel", "isOpen", "(I)Z"⟩, 15), (⟨"CodedRelaysModel", "random", "(I)I"⟩, 15), (⟨"CodedRelaysModel", "sends", "(III)V"⟩, 15), (⟨"CodedRelaysModel", "vectorOf", "(II)I"⟩, 15), (⟨"CodedRelaysModel", "payloadOf", "(II)I"⟩, 15), (⟨"CodedRelaysModel", "arrives", "(I)I"⟩, 15), (⟨"CodedRelaysModel", "setFor", "(II)I"⟩, 15), (⟨"CodedRelaysModel", "payloadFor", "(II)I"⟩, 15), (⟨"CodedRelaysModel", "isLink", "(I)Z"⟩, 15), (⟨"CodedRelaysModel", "isSum", "(II)Z"⟩, 15), (⟨"CodedRelaysModel", "solved", "(II)I"⟩, 15), (⟨"CodedRelaysModel", "all", "()I"⟩, 15), (⟨"CodedRelaysModel", "isRelay", "(I)Z"⟩, 15), (⟨"CodedRelaysModel", "isProjection", "(I)Z"⟩, 15), (⟨"CodedRelaysModel", "isSuspect", "(II)Z"⟩, 15), (⟨"CodedRelaysModel", "checks", "(II)Z"⟩, 15)]
theorem lw_r2 : ∀ q ∈ lw_privs_2, lw_okq q := List.forall_mem_cons.mpr ⟨lw_p16, List.forall_mem_cons.mpr ⟨lw_p17, List.forall_mem_cons.mpr ⟨lw_p18, List.forall_mem_cons.mpr ⟨lw_p19, List.forall_mem_cons.mpr ⟨lw_p20, List.forall_mem_cons.mpr ⟨lw_p21, List.forall_mem_cons.mpr ⟨lw_p22, List.forall_mem_cons.mpr ⟨lw_p23, List.forall_mem_cons.mpr ⟨lw_p24, List.forall_mem_cons.mpr ⟨lw_p25, List.forall_mem_cons.mpr ⟨lw_p26, List.forall_mem_cons.mpr ⟨lw_p27, List.forall_mem_cons.mpr ⟨lw_p28, List.forall_mem_cons.mpr ⟨lw_p29, List.forall_mem_cons.mpr ⟨lw_p30, List.forall_mem_cons.mpr ⟨lw_p31, fun _ h => absurd h List.not_mem_nil⟩⟩⟩⟩⟩⟩⟩⟩⟩⟩⟩⟩⟩⟩⟩⟩
theorem lw_p32 : lw_okq (⟨"CodedRelaysModel", "uncut", "(I)I"⟩, 15) := ⟨⟨by decide +kernel, by decide +kernel⟩, List.mem_of_getElem? (i := 689) (by decide +kernel), List.mem_of_getElem? (i := 977) (by decide +kernel), List.mem_of_getElem? (i := 978) (by decide +kernel)⟩
theorem lw_p33 : lw_okq (⟨"CodedRelaysModel", "adds", "(I)V"⟩, 15) := ⟨⟨by decide +kernel, by decide +kernel⟩, List.mem_of_getElem? (i := 689) (by decide +kernel), List.mem_of_getElem? (i := 993) (by decide +kernel), List.mem_of_getElem? (i := 994) (by decide +kernel)⟩
theorem lw_p34 : lw_okq (⟨"CodedRelaysModel", "flowWithout", "(II)I"⟩, 15) := ⟨⟨by decide +kernel, by decide +kernel⟩, List.mem_of_getElem? (i := 689) (by decide +kernel), List.mem_of_getElem? (i := 1001) (by decide +kernel), List.mem_of_getElem? (i := 1002) (by decide +kernel)⟩
theorem lw_p35 : lw_okq (⟨"CodedRelaysModel", "readAll", "()Z"⟩, 15) := ⟨⟨by decide +kernel, by decide +kernel⟩, List.mem_of_getElem? (i := 689) (by decide +kernel), List.mem_of_getElem? (i := 1021) (by decide +kernel), List.mem_of_getElem? (i := 1022) (by decide +kernel)⟩
theorem lw_p36 : lw_okq (⟨"CodedRelaysModel", "here", "()I"⟩, 15) := ⟨⟨by decide +kernel, by decide +kernel⟩, List.mem_of_getElem? (i := 689) (by decide +kernel), List.mem_of_getElem? (i := 1025) (by decide +kernel), List.mem_of_getElem? (i := 1026) (by decide +kernel)⟩
theorem lw_p37 : lw_okq (⟨"CodedRelaysModel", "readBehavior", "(I)Z"⟩, 15) := ⟨⟨by decide +kernel, by decide +kernel⟩, List.mem_of_getElem? (i := 689) (by decide +kernel), List.mem_of_getElem? (i := 1029) (by decide +kernel), List.mem_of_getElem? (i := 1030) (by decide +kernel)⟩
theorem lw_p38 : lw_okq (⟨"CodedRelaysModel", "readDigit", "(II)Z"⟩, 15) := ⟨⟨by decide +kernel, by decide +kernel⟩, List.mem_of_getElem? (i := 689) (by decide +kernel), List.mem_of_getElem? (i := 1033) (by decide +kernel), List.mem_of_getElem? (i := 1034) (by decide +kernel)⟩
theorem lw_p39 : lw_okq (⟨"CodedRelaysModel", "passes", "(I)Z"⟩, 15) := ⟨⟨by decide +kernel, by decide +kernel⟩, List.mem_of_getElem? (i := 689) (by decide +kernel), List.mem_of_getElem? (i := 1037) (by decide +kernel), List.mem_of_getElem? (i := 1038) (by decide +kernel)⟩
theorem lw_p40 : lw_okq (⟨"CodedRelaysModel", "readLink", "(I)Z"⟩, 15) := ⟨⟨by decide +kernel, by decide +kernel⟩, List.mem_of_getElem? (i := 689) (by decide +kernel), List.mem_of_getElem? (i := 1041) (by decide +kernel), List.mem_of_getElem? (i := 1042) (by decide +kernel)⟩
theorem lw_p41 : lw_okq (⟨"CodedRelaysModel", "mix", "(J)V"⟩, 15) := ⟨⟨by decide +kernel, by decide +kernel⟩, List.mem_of_getElem? (i := 689) (by decide +kernel), List.mem_of_getElem? (i := 1062) (by decide +kernel), List.mem_of_getElem? (i := 1063) (by decide +kernel)⟩
def lw_privs_3 : List (MethodName × Nat) := [(⟨"CodedRelaysModel", "uncut", "(I)I"⟩, 15), (⟨"CodedRelaysModel", "adds", "(I)V"⟩, 15), (⟨"CodedRelaysModel", "flowWithout", "(II)I"⟩, 15), (⟨"CodedRelaysModel", "readAll", "()Z"⟩, 15), (⟨"CodedRelaysModel", "here", "()I"⟩, 15), (⟨"CodedRelaysModel", "readBehavior", "(I)Z"⟩, 15), (⟨"CodedRelaysModel", "readDigit", "(II)Z"⟩, 15), (⟨"CodedRelaysModel", "passes", "(I)Z"⟩, 15), (⟨"CodedRelaysModel", "readLink", "(I)Z"⟩, 15), (⟨"CodedRelaysModel", "mix", "(J)V"⟩, 15)]
theorem lw_r3 : ∀ q ∈ lw_privs_3, lw_okq q := List.forall_mem_cons.mpr ⟨lw_p32, List.forall_mem_cons.mpr ⟨lw_p33, List.forall_mem_cons.mpr ⟨lw_p34, List.forall_mem_cons.mpr ⟨lw_p35, List.forall_mem_cons.mpr ⟨lw_p36, List.forall_mem_cons.mpr ⟨lw_p37, List.forall_mem_cons.mpr ⟨lw_p38, List.forall_mem_cons.mpr ⟨lw_p39, List.forall_mem_cons.mpr ⟨lw_p40, List.forall_mem_cons.mpr ⟨lw_p41, fun _ h => absurd h List.not_mem_nil⟩⟩⟩⟩⟩⟩⟩⟩⟩⟩
def lw_privs : List (MethodName × Nat) := lw_privs_1 ++ (lw_privs_2 ++ (lw_privs_3))
def lw_tbl : List Cond := k2_sels lw_privs ++ tables_1
theorem lw_privs_ok : ∀ q ∈ lw_privs, lw_okq q := by
  show ∀ q ∈ lw_privs_1 ++ (lw_privs_2 ++ (lw_privs_3)), lw_okq q
  exact List.forall_mem_append.mpr ⟨lw_r1, List.forall_mem_append.mpr ⟨lw_r2, lw_r3⟩⟩
end
section
def RX0 : String := "CodedRelays$EntryReader"
def TX0 : u_T := fun k => match k with
  | 0 => ("CodedRelays$EntryReader", "place", "I", false)
  | 1 => ("CodedRelays$EntryReader", "nodeCount", "I", false)
  | 2 => ("CodedRelays$EntryReader", "linkCount", "I", false)
  | 3 => ("CodedRelays$EntryReader", "isLink", "Z", false)
  | 4 => ("CodedRelays$EntryReader", "first", "I", false)
  | 5 => ("CodedRelays$EntryReader", "second", "I", false)
  | 6 => ("CodedRelays$EntryReader", "loss", "I", false)
  | _ => ("CodedRelays$EntryReader", "behavior", "I", false)
def tyX0 : Nat → FieldType := fun k => match k with
  | 0 => .int
  | 1 => .int
  | 2 => .int
  | 3 => .boolean
  | 4 => .int
  | 5 => .int
  | 6 => .int
  | _ => .int
theorem nmX0 : ∀ a, a < 8 → ∀ b, b < 8 → a ≠ b → (TX0 a).2.1 ≠ (TX0 b).2.1 := by decide +kernel
theorem tyX0_ok : ∀ k, k < 8 → parseFieldDescriptor (TX0 k).2.2.1 = some (tyX0 k) := by decide +kernel
def RX1 : String := "CodedRelays$Link"
def TX1 : u_T := fun k => match k with
  | 0 => ("CodedRelays$Link", "from", "I", false)
  | 1 => ("CodedRelays$Link", "to", "I", false)
  | 2 => ("CodedRelays$Link", "loss", "I", false)
  | 3 => ("CodedRelays$Link", "fateCounts", "[I", true)
  | 4 => ("CodedRelays$Link", "sentCount", "I", false)
  | 5 => ("CodedRelays$Link", "lastVector", "I", false)
  | 6 => ("CodedRelays$Link", "lastPayload", "I", false)
  | 7 => ("CodedRelays$Link", "sentSum", "I", false)
  | 8 => ("CodedRelays$Link", "receivedSum", "I", false)
  | _ => ("CodedRelays$Link", "arriving", "Z", false)
def tyX1 : Nat → FieldType := fun k => match k with
  | 0 => .int
  | 1 => .int
  | 2 => .int
  | 3 => .array .int
  | 4 => .int
  | 5 => .int
  | 6 => .int
  | 7 => .int
  | 8 => .int
  | _ => .boolean
theorem nmX1 : ∀ a, a < 10 → ∀ b, b < 10 → a ≠ b → (TX1 a).2.1 ≠ (TX1 b).2.1 := by decide +kernel
theorem tyX1_ok : ∀ k, k < 10 → parseFieldDescriptor (TX1 k).2.2.1 = some (tyX1 k) := by decide +kernel
def RX2 : String := "CodedRelays$Network"
def TX2 : u_T := fun k => match k with
  | 0 => ("CodedRelays$Network", "packetCount", "I", false)
  | 1 => ("CodedRelays$Network", "packetPayloads", "[I", true)
  | 2 => ("CodedRelays$Network", "nodeCount", "I", false)
  | 3 => ("CodedRelays$Network", "nodes", "[LCodedRelays$Node;", true)
  | 4 => ("CodedRelays$Network", "linkCount", "I", false)
  | 5 => ("CodedRelays$Network", "links", "[LCodedRelays$Link;", true)
  | 6 => ("CodedRelays$Network", "state", "J", false)
  | 7 => ("CodedRelays$Network", "limit", "I", false)
  | _ => ("CodedRelays$Network", "roundCount", "I", false)
def tyX2 : Nat → FieldType := fun k => match k with
  | 0 => .int
  | 1 => .array .int
  | 2 => .int
  | 3 => .array (.object "CodedRelays$Node")
  | 4 => .int
  | 5 => .array (.object "CodedRelays$Link")
  | 6 => .long
  | 7 => .int
  | _ => .int
theorem nmX2 : ∀ a, a < 9 → ∀ b, b < 9 → a ≠ b → (TX2 a).2.1 ≠ (TX2 b).2.1 := by decide +kernel
theorem tyX2_ok : ∀ k, k < 9 → parseFieldDescriptor (TX2 k).2.2.1 = some (tyX2 k) := by decide +kernel
def RX3 : String := "CodedRelays$Node"
def TX3 : u_T := fun k => match k with
  | 0 => ("CodedRelays$Node", "held", "LCodedRelays$Span;", true)
  | 1 => ("CodedRelays$Node", "sent", "LCodedRelays$Span;", true)
  | 2 => ("CodedRelays$Node", "vectors", "[I", true)
  | 3 => ("CodedRelays$Node", "payloads", "[I", true)
  | 4 => ("CodedRelays$Node", "behavior", "I", false)
  | 5 => ("CodedRelays$Node", "markCount", "I", false)
  | _ => ("CodedRelays$Node", "cutOff", "Z", false)
def tyX3 : Nat → FieldType := fun k => match k with
  | 0 => .object "CodedRelays$Span"
  | 1 => .object "CodedRelays$Span"
  | 2 => .array .int
  | 3 => .array .int
  | 4 => .int
  | 5 => .int
  | _ => .boolean
theorem nmX3 : ∀ a, a < 7 → ∀ b, b < 7 → a ≠ b → (TX3 a).2.1 ≠ (TX3 b).2.1 := by decide +kernel
theorem tyX3_ok : ∀ k, k < 7 → parseFieldDescriptor (TX3 k).2.2.1 = some (tyX3 k) := by decide +kernel
def RX4 : String := "CodedRelays$Span"
def TX4 : u_T := fun k => match k with
  | 0 => ("CodedRelays$Span", "leads", "[I", true)
  | 1 => ("CodedRelays$Span", "leadParts", "[I", true)
  | _ => ("CodedRelays$Span", "size", "I", false)
def tyX4 : Nat → FieldType := fun k => match k with
  | 0 => .array .int
  | 1 => .array .int
  | _ => .int
theorem nmX4 : ∀ a, a < 3 → ∀ b, b < 3 → a ≠ b → (TX4 a).2.1 ≠ (TX4 b).2.1 := by decide +kernel
theorem tyX4_ok : ∀ k, k < 3 → parseFieldDescriptor (TX4 k).2.2.1 = some (tyX4 k) := by decide +kernel
def RX5 : String := "CodedRelays$Ways"
def TX5 : u_T := fun k => match k with
  | 0 => ("CodedRelays$Ways", "used", "[Z", true)
  | 1 => ("CodedRelays$Ways", "reached", "[Z", true)
  | _ => ("CodedRelays$Ways", "reachedBy", "[I", true)
def tyX5 : Nat → FieldType := fun k => match k with
  | 0 => .array .boolean
  | 1 => .array .boolean
  | _ => .array .int
theorem nmX5 : ∀ a, a < 3 → ∀ b, b < 3 → a ≠ b → (TX5 a).2.1 ≠ (TX5 b).2.1 := by decide +kernel
theorem tyX5_ok : ∀ k, k < 3 → parseFieldDescriptor (TX5 k).2.2.1 = some (tyX5 k) := by decide +kernel
def RX6 : String := "CodedRelays"
def TX6 : u_T := fun k => match k with
  | 0 => ("CodedRelays", "network", "LCodedRelays$Network;", true)
  | 1 => ("CodedRelays", "slots", "[LCodedRelays$Network;", true)
  | 2 => ("CodedRelays", "ways", "LCodedRelays$Ways;", true)
  | 3 => ("CodedRelays", "joined", "LCodedRelays$Span;", true)
  | 4 => ("CodedRelays", "text", "[C", true)
  | 5 => ("CodedRelays", "textLength", "I", false)
  | _ => ("CodedRelays", "reader", "LCodedRelays$EntryReader;", true)
def tyX6 : Nat → FieldType := fun k => match k with
  | 0 => .object "CodedRelays$Network"
  | 1 => .array (.object "CodedRelays$Network")
  | 2 => .object "CodedRelays$Ways"
  | 3 => .object "CodedRelays$Span"
  | 4 => .array .char
  | 5 => .int
  | _ => .object "CodedRelays$EntryReader"
theorem nmX6 : ∀ a, a < 7 → ∀ b, b < 7 → a ≠ b → (TX6 a).2.1 ≠ (TX6 b).2.1 := by decide +kernel
theorem tyX6_ok : ∀ k, k < 7 → parseFieldDescriptor (TX6 k).2.2.1 = some (tyX6 k) := by decide +kernel
def RX7 : String := "CodedRelaysModel"
def TX7 : u_T := fun k => match k with
  | 0 => ("CodedRelaysModel", "m", "[I", true)
  | 1 => ("CodedRelaysModel", "slots", "[I", true)
  | 2 => ("CodedRelaysModel", "isKept", "[Z", true)
  | 3 => ("CodedRelaysModel", "text", "[I", true)
  | 4 => ("CodedRelaysModel", "textLength", "I", false)
  | 5 => ("CodedRelaysModel", "isSent", "[Z", true)
  | 6 => ("CodedRelaysModel", "sentVector", "[I", true)
  | 7 => ("CodedRelaysModel", "sentPayload", "[I", true)
  | 8 => ("CodedRelaysModel", "isReached", "[Z", true)
  | 9 => ("CodedRelaysModel", "at", "I", false)
  | 10 => ("CodedRelaysModel", "digit", "I", false)
  | 11 => ("CodedRelaysModel", "entries", "I", false)
  | 12 => ("CodedRelaysModel", "newLinks", "I", false)
  | 13 => ("CodedRelaysModel", "draft", "[I", true)
  | _ => ("CodedRelaysModel", "hash", "J", false)
def tyX7 : Nat → FieldType := fun k => match k with
  | 0 => .array .int
  | 1 => .array .int
  | 2 => .array .boolean
  | 3 => .array .int
  | 4 => .int
  | 5 => .array .boolean
  | 6 => .array .int
  | 7 => .array .int
  | 8 => .array .boolean
  | 9 => .int
  | 10 => .int
  | 11 => .int
  | 12 => .int
  | 13 => .array .int
  | _ => .long
theorem nmX7 : ∀ a, a < 15 → ∀ b, b < 15 → a ≠ b → (TX7 a).2.1 ≠ (TX7 b).2.1 := by decide +kernel
theorem tyX7_ok : ∀ k, k < 15 → parseFieldDescriptor (TX7 k).2.2.1 = some (tyX7 k) := by decide +kernel
abbrev vwCl : List vw_C := [(RX0, TX0, 8), (RX1, TX1, 10), (RX2, TX2, 9), (RX3, TX3, 7), (RX4, TX4, 3), (RX5, TX5, 3), (RX6, TX6, 7), (RX7, TX7, 15)]








/-- a method: its name, its bytes, its locals, what it returns, the number of its class, the frames and the words of locals that its calls need -/
abbrev mtT : Type := MethodName × ByteArray × Nat × Option FieldType × Nat × Nat × Nat
def mt_0 : List mtT := [
  (⟨"CodedRelays$EntryReader", "<init>", "()V"⟩, prog_2_method_1_code, 1, none, 0, 1, 20),
  (⟨"CodedRelays$EntryReader", "begin", "(II)V"⟩, prog_2_method_2_code, 3, none, 0, 0, 0),
  (⟨"CodedRelays$EntryReader", "isBetweenEntries", "()Z"⟩, prog_2_method_3_code, 1, some .boolean, 0, 0, 0),
  (⟨"CodedRelays$EntryReader", "take", "(C)Z"⟩, prog_2_method_4_code, 2, some .boolean, 0, 2, 43),
  (⟨"CodedRelays$EntryReader", "takeBeginning", "(C)Z"⟩, prog_2_method_5_code, 2, some .boolean, 0, 1, 22),
  (⟨"CodedRelays$EntryReader", "goOn", "(ZI)Z"⟩, prog_2_method_6_code, 3, some .boolean, 0, 0, 0),
  (⟨"CodedRelays$EntryReader", "digit", "(C)I"⟩, prog_2_method_7_code, 1, some .int, 0, 0, 0),
  (⟨"CodedRelays$Link", "<init>", "()V"⟩, prog_3_method_1_code, 1, none, 1, 2, 43),
  (⟨"CodedRelays$Link", "forget", "()V"⟩, prog_3_method_2_code, 1, none, 1, 1, 23),
  (⟨"CodedRelays$Link", "copyFrom", "(LCodedRelays$Link;)V"⟩, prog_3_method_3_code, 2, none, 1, 1, 26),
  (⟨"CodedRelays$Link", "carry", "(II)V"⟩, prog_3_method_4_code, 3, none, 1, 0, 0),
  (⟨"CodedRelays$Link", "deliver", "(LCodedRelays$Node;)Z"⟩, prog_3_method_5_code, 3, some .boolean, 1, 3, 68),
  (⟨"CodedRelays$Link", "mixInto", "(J)J"⟩, prog_3_method_6_code, 6, some .long, 1, 0, 0),
  (⟨"CodedRelays$Network", "<init>", "()V"⟩, prog_4_method_1_code, 2, none, 2, 4, 84),
  (⟨"CodedRelays$Network", "copyFrom", "(LCodedRelays$Network;)V"⟩, prog_4_method_2_code, 3, none, 2, 3, 68),
  (⟨"CodedRelays$Network", "resetPayloads", "()V"⟩, prog_4_method_3_code, 2, none, 2, 0, 0),
  (⟨"CodedRelays$Network", "makeAllHonest", "()V"⟩, prog_4_method_4_code, 2, none, 2, 0, 0),
  (⟨"CodedRelays$Network", "beginGeneration", "()V"⟩, prog_4_method_5_code, 2, none, 2, 3, 63),
  (⟨"CodedRelays$Network", "putLink", "(III)V"⟩, prog_4_method_6_code, 5, none, 2, 0, 0),
  (⟨"CodedRelays$Network", "hasPacket", "(I)Z"⟩, prog_4_method_7_code, 2, some .boolean, 2, 0, 0),
  (⟨"CodedRelays$Network", "hasNode", "(I)Z"⟩, prog_4_method_8_code, 2, some .boolean, 2, 0, 0),
  (⟨"CodedRelays$Network", "hasReceiver", "(I)Z"⟩, prog_4_method_9_code, 2, some .boolean, 2, 0, 0),
  (⟨"CodedRelays$Network", "hasRelay", "(I)Z"⟩, prog_4_method_10_code, 3, some .boolean, 2, 1, 21),
  (⟨"CodedRelays$Network", "hasLink", "(I)Z"⟩, prog_4_method_11_code, 2, some .boolean, 2, 0, 0),
  (⟨"CodedRelays$Network", "hasSum", "(II)Z"⟩, prog_4_method_12_code, 3, some .boolean, 2, 1, 21),
  (⟨"CodedRelays$Network", "hasProjection", "(I)Z"⟩, prog_4_method_13_code, 2, some .boolean, 2, 1, 20),
  (⟨"CodedRelays$Network", "isOpen", "(LCodedRelays$Link;)Z"⟩, prog_4_method_14_code, 2, some .boolean, 2, 0, 0),
  (⟨"CodedRelays$Network", "allPackets", "()I"⟩, prog_4_method_15_code, 1, some .int, 2, 0, 0),
  (⟨"CodedRelays$Network", "knowsAll", "(I)Z"⟩, prog_4_method_16_code, 2, some .boolean, 2, 0, 0),
  (⟨"CodedRelays$Network", "random", "(I)I"⟩, prog_4_method_17_code, 2, some .int, 2, 0, 0),
  (⟨"CodedRelays$Network", "chooseAmong", "(I)I"⟩, prog_4_method_18_code, 2, some .int, 2, 1, 21),
  (⟨"CodedRelays$Network", "playRound", "()I"⟩, prog_4_method_19_code, 3, some .int, 2, 4, 90)]
def mt_1 : List mtT := [
  (⟨"CodedRelays$Network", "sendFrom", "(I)V"⟩, prog_4_method_20_code, 8, none, 2, 3, 63),
  (⟨"CodedRelays$Network", "partsToSend", "(LCodedRelays$Node;)I"⟩, prog_4_method_21_code, 2, some .int, 2, 2, 42),
  (⟨"CodedRelays$Network", "spotCheck", "(II)Z"⟩, prog_4_method_22_code, 4, some .boolean, 2, 3, 63),
  (⟨"CodedRelays$Network", "randomSpotCheck", "()Z"⟩, prog_4_method_23_code, 5, some .boolean, 2, 4, 86),
  (⟨"CodedRelays$Network", "isCheckable", "(I)Z"⟩, prog_4_method_24_code, 2, some .boolean, 2, 2, 43),
  (⟨"CodedRelays$Node", "<init>", "()V"⟩, prog_5_method_1_code, 1, none, 3, 2, 40),
  (⟨"CodedRelays$Node", "forget", "()V"⟩, prog_5_method_2_code, 1, none, 3, 2, 43),
  (⟨"CodedRelays$Node", "copyFrom", "(LCodedRelays$Node;)V"⟩, prog_5_method_3_code, 2, none, 3, 2, 47),
  (⟨"CodedRelays$Node", "fateOf", "(II)I"⟩, prog_5_method_4_code, 4, some .int, 3, 2, 45),
  (⟨"CodedRelays$Node", "accept", "(II)V"⟩, prog_5_method_5_code, 4, none, 3, 1, 24),
  (⟨"CodedRelays$Node", "vectorOf", "(I)I"⟩, prog_5_method_6_code, 2, some .int, 3, 1, 24),
  (⟨"CodedRelays$Node", "payloadOf", "(I)I"⟩, prog_5_method_7_code, 2, some .int, 3, 1, 24),
  (⟨"CodedRelays$Node", "sumOf", "([II)I"⟩, prog_5_method_8_code, 5, some .int, 3, 0, 0),
  (⟨"CodedRelays$Node", "solved", "(I)I"⟩, prog_5_method_9_code, 3, some .int, 3, 2, 45),
  (⟨"CodedRelays$Node", "withholds", "(I)Z"⟩, prog_5_method_10_code, 2, some .boolean, 3, 2, 42),
  (⟨"CodedRelays$Node", "mixInto", "(J)J"⟩, prog_5_method_11_code, 6, some .long, 3, 0, 0),
  (⟨"CodedRelays$Span", "<init>", "()V"⟩, prog_6_method_1_code, 1, none, 4, 1, 20),
  (⟨"CodedRelays$Span", "clear", "()V"⟩, prog_6_method_2_code, 1, none, 4, 1, 23),
  (⟨"CodedRelays$Span", "copyFrom", "(LCodedRelays$Span;)V"⟩, prog_6_method_3_code, 2, none, 4, 1, 26),
  (⟨"CodedRelays$Span", "add", "(I)V"⟩, prog_6_method_4_code, 5, none, 4, 0, 0),
  (⟨"CodedRelays$Span", "addAll", "(LCodedRelays$Span;)V"⟩, prog_6_method_5_code, 3, none, 4, 1, 24),
  (⟨"CodedRelays$Span", "partsOf", "(I)I"⟩, prog_6_method_6_code, 5, some .int, 4, 0, 0),
  (⟨"CodedRelays$Span", "hasOdd", "(I)Z"⟩, prog_6_method_7_code, 3, some .boolean, 4, 1, 20),
  (⟨"CodedRelays$Ways", "<init>", "()V"⟩, prog_7_method_1_code, 1, none, 5, 1, 20),
  (⟨"CodedRelays$Ways", "findAll", "(LCodedRelays$Network;I)I"⟩, prog_7_method_2_code, 4, some .int, 5, 2, 49),
  (⟨"CodedRelays$Ways", "firstWithoutDetour", "(LCodedRelays$Network;)I"⟩, prog_7_method_3_code, 3, some .int, 5, 2, 49),
  (⟨"CodedRelays$Ways", "search", "(LCodedRelays$Network;I)V"⟩, prog_7_method_4_code, 6, none, 5, 1, 24),
  (⟨"CodedRelays$Ways", "reachOver", "(LCodedRelays$Link;I)Z"⟩, prog_7_method_5_code, 5, some .boolean, 5, 0, 0),
  (⟨"CodedRelays$Ways", "turnBackFrom", "(LCodedRelays$Network;I)V"⟩, prog_7_method_6_code, 7, none, 5, 1, 21),
  (⟨"CodedRelays", "<init>", "()V"⟩, prog_1_method_1_code, 1, none, 6, 5, 105),
  (⟨"CodedRelays", "setPackets", "(I)I"⟩, prog_1_method_2_code, 3, some .int, 6, 4, 84),
  (⟨"CodedRelays", "setPayload", "(II)I"⟩, prog_1_method_3_code, 4, some .int, 6, 4, 84)]
def mt_2 : List mtT := [
  (⟨"CodedRelays", "setNodes", "(I)I"⟩, prog_1_method_4_code, 3, some .int, 6, 4, 84),
  (⟨"CodedRelays", "addLink", "(III)I"⟩, prog_1_method_5_code, 4, some .int, 6, 4, 84),
  (⟨"CodedRelays", "removeLink", "()I"⟩, prog_1_method_6_code, 1, some .int, 6, 4, 84),
  (⟨"CodedRelays", "setBehavior", "(II)I"⟩, prog_1_method_7_code, 4, some .int, 6, 4, 84),
  (⟨"CodedRelays", "setState", "(I)I"⟩, prog_1_method_8_code, 3, some .int, 6, 0, 0),
  (⟨"CodedRelays", "setLimit", "(I)I"⟩, prog_1_method_9_code, 3, some .int, 6, 0, 0),
  (⟨"CodedRelays", "run", "(I)I"⟩, prog_1_method_10_code, 4, some .int, 6, 5, 112),
  (⟨"CodedRelays", "runUntil", "(I)I"⟩, prog_1_method_11_code, 3, some .int, 6, 5, 112),
  (⟨"CodedRelays", "rounds", "()I"⟩, prog_1_method_12_code, 1, some .int, 6, 0, 0),
  (⟨"CodedRelays", "nodes", "()I"⟩, prog_1_method_13_code, 1, some .int, 6, 0, 0),
  (⟨"CodedRelays", "links", "()I"⟩, prog_1_method_14_code, 1, some .int, 6, 0, 0),
  (⟨"CodedRelays", "link", "(II)I"⟩, prog_1_method_15_code, 4, some .int, 6, 1, 21),
  (⟨"CodedRelays", "rank", "(I)I"⟩, prog_1_method_16_code, 2, some .int, 6, 1, 21),
  (⟨"CodedRelays", "vector", "(II)I"⟩, prog_1_method_17_code, 3, some .int, 6, 2, 43),
  (⟨"CodedRelays", "payload", "(II)I"⟩, prog_1_method_18_code, 3, some .int, 6, 2, 43),
  (⟨"CodedRelays", "fates", "(II)I"⟩, prog_1_method_19_code, 3, some .int, 6, 1, 21),
  (⟨"CodedRelays", "lastSent", "(I)I"⟩, prog_1_method_20_code, 2, some .int, 6, 1, 21),
  (⟨"CodedRelays", "endSum", "(IZ)I"⟩, prog_1_method_21_code, 4, some .int, 6, 1, 21),
  (⟨"CodedRelays", "differing", "()I"⟩, prog_1_method_22_code, 3, some .int, 6, 0, 0),
  (⟨"CodedRelays", "knows", "(I)I"⟩, prog_1_method_23_code, 4, some .int, 6, 3, 67),
  (⟨"CodedRelays", "solve", "(II)I"⟩, prog_1_method_24_code, 3, some .int, 6, 3, 67),
  (⟨"CodedRelays", "wrong", "()I"⟩, prog_1_method_25_code, 5, some .int, 6, 3, 67),
  (⟨"CodedRelays", "combination", "(II)I"⟩, prog_1_method_26_code, 3, some .int, 6, 1, 24),
  (⟨"CodedRelays", "commonRank", "(II)I"⟩, prog_1_method_27_code, 5, some .int, 6, 2, 47),
  (⟨"CodedRelays", "suspect", "(II)I"⟩, prog_1_method_28_code, 3, some .int, 6, 3, 63),
  (⟨"CodedRelays", "suspicions", "(I)I"⟩, prog_1_method_29_code, 4, some .int, 6, 3, 63),
  (⟨"CodedRelays", "check", "(II)I"⟩, prog_1_method_30_code, 3, some .int, 6, 4, 86),
  (⟨"CodedRelays", "checkRandomly", "(I)I"⟩, prog_1_method_31_code, 4, some .int, 6, 5, 110),
  (⟨"CodedRelays", "marks", "(I)I"⟩, prog_1_method_32_code, 2, some .int, 6, 1, 21),
  (⟨"CodedRelays", "isCutOff", "(I)I"⟩, prog_1_method_33_code, 2, some .int, 6, 1, 21),
  (⟨"CodedRelays", "sentRank", "(I)I"⟩, prog_1_method_34_code, 2, some .int, 6, 2, 43),
  (⟨"CodedRelays", "flow", "(I)I"⟩, prog_1_method_35_code, 2, some .int, 6, 3, 72)]
def mt_3 : List mtT := [
  (⟨"CodedRelays", "neededLink", "(I)I"⟩, prog_1_method_36_code, 2, some .int, 6, 3, 72),
  (⟨"CodedRelays", "append", "(I)I"⟩, prog_1_method_37_code, 2, some .int, 6, 0, 0),
  (⟨"CodedRelays", "clearText", "()I"⟩, prog_1_method_38_code, 2, some .int, 6, 0, 0),
  (⟨"CodedRelays", "faultPosition", "()I"⟩, prog_1_method_39_code, 2, some .int, 6, 3, 64),
  (⟨"CodedRelays", "read", "()I"⟩, prog_1_method_40_code, 3, some .int, 6, 4, 85),
  (⟨"CodedRelays", "carryOutEntry", "()V"⟩, prog_1_method_41_code, 1, none, 6, 1, 24),
  (⟨"CodedRelays", "keep", "(I)I"⟩, prog_1_method_42_code, 2, some .int, 6, 5, 105),
  (⟨"CodedRelays", "restore", "(I)I"⟩, prog_1_method_43_code, 2, some .int, 6, 4, 90),
  (⟨"CodedRelays", "checksum", "()J"⟩, prog_1_method_44_code, 4, some .long, 6, 1, 25),
  (⟨"CodedRelaysModel", "<init>", "()V"⟩, prog_9_method_1_code, 1, none, 7, 2, 46),
  (⟨"CodedRelaysModel", "in", "(III)Z"⟩, prog_9_method_3_code, 3, some .boolean, 7, 0, 0),
  (⟨"CodedRelaysModel", "has", "(II)Z"⟩, prog_9_method_4_code, 2, some .boolean, 7, 0, 0),
  (⟨"CodedRelaysModel", "isOdd", "(II)Z"⟩, prog_9_method_5_code, 4, some .boolean, 7, 0, 0),
  (⟨"CodedRelaysModel", "isNode", "(I)Z"⟩, prog_9_method_6_code, 2, some .boolean, 7, 1, 22),
  (⟨"CodedRelaysModel", "isLink", "(I)Z"⟩, prog_9_method_7_code, 2, some .boolean, 7, 1, 22),
  (⟨"CodedRelaysModel", "of", "(II)I"⟩, prog_9_method_8_code, 3, some .int, 7, 0, 0),
  (⟨"CodedRelaysModel", "put", "(III)V"⟩, prog_9_method_9_code, 4, none, 7, 0, 0),
  (⟨"CodedRelaysModel", "isOpen", "(I)Z"⟩, prog_9_method_10_code, 2, some .boolean, 7, 1, 22),
  (⟨"CodedRelaysModel", "isRelay", "(I)Z"⟩, prog_9_method_11_code, 4, some .boolean, 7, 1, 22),
  (⟨"CodedRelaysModel", "all", "()I"⟩, prog_9_method_12_code, 1, some .int, 7, 0, 0),
  (⟨"CodedRelaysModel", "isProjection", "(I)Z"⟩, prog_9_method_13_code, 2, some .boolean, 7, 1, 22),
  (⟨"CodedRelaysModel", "vectorOf", "(II)I"⟩, prog_9_method_14_code, 3, some .int, 7, 0, 0),
  (⟨"CodedRelaysModel", "payloadOf", "(II)I"⟩, prog_9_method_15_code, 3, some .int, 7, 0, 0),
  (⟨"CodedRelaysModel", "accept", "(III)V"⟩, prog_9_method_16_code, 5, none, 7, 0, 0),
  (⟨"CodedRelaysModel", "begin", "()V"⟩, prog_9_method_17_code, 3, none, 7, 1, 24),
  (⟨"CodedRelaysModel", "firstPayloads", "()V"⟩, prog_9_method_18_code, 2, none, 7, 0, 0),
  (⟨"CodedRelaysModel", "setPackets", "(I)I"⟩, prog_9_method_19_code, 3, some .int, 7, 2, 46),
  (⟨"CodedRelaysModel", "setPayload", "(II)I"⟩, prog_9_method_20_code, 4, some .int, 7, 2, 46),
  (⟨"CodedRelaysModel", "setNodes", "(I)I"⟩, prog_9_method_21_code, 4, some .int, 7, 2, 46),
  (⟨"CodedRelaysModel", "layLink", "(III)V"⟩, prog_9_method_22_code, 4, none, 7, 1, 23),
  (⟨"CodedRelaysModel", "addLink", "(III)I"⟩, prog_9_method_23_code, 4, some .int, 7, 2, 46),
  (⟨"CodedRelaysModel", "removeLink", "()I"⟩, prog_9_method_24_code, 1, some .int, 7, 2, 46)]
def mt_4 : List mtT := [
  (⟨"CodedRelaysModel", "setBehavior", "(II)I"⟩, prog_9_method_25_code, 4, some .int, 7, 2, 46),
  (⟨"CodedRelaysModel", "setState", "(I)I"⟩, prog_9_method_26_code, 3, some .int, 7, 0, 0),
  (⟨"CodedRelaysModel", "setLimit", "(I)I"⟩, prog_9_method_27_code, 3, some .int, 7, 1, 22),
  (⟨"CodedRelaysModel", "random", "(I)I"⟩, prog_9_method_28_code, 2, some .int, 7, 0, 0),
  (⟨"CodedRelaysModel", "sends", "(III)V"⟩, prog_9_method_29_code, 7, none, 7, 1, 23),
  (⟨"CodedRelaysModel", "sendsFrom", "(I)V"⟩, prog_9_method_30_code, 5, none, 7, 2, 49),
  (⟨"CodedRelaysModel", "setFor", "(II)I"⟩, prog_9_method_31_code, 6, some .int, 7, 1, 22),
  (⟨"CodedRelaysModel", "payloadFor", "(II)I"⟩, prog_9_method_32_code, 5, some .int, 7, 1, 22),
  (⟨"CodedRelaysModel", "arrives", "(I)I"⟩, prog_9_method_33_code, 4, some .int, 7, 2, 47),
  (⟨"CodedRelaysModel", "goes", "()I"⟩, prog_9_method_34_code, 4, some .int, 7, 3, 73),
  (⟨"CodedRelaysModel", "run", "(I)I"⟩, prog_9_method_35_code, 4, some .int, 7, 4, 96),
  (⟨"CodedRelaysModel", "runUntil", "(I)I"⟩, prog_9_method_36_code, 4, some .int, 7, 4, 96),
  (⟨"CodedRelaysModel", "rounds", "()I"⟩, prog_9_method_37_code, 1, some .int, 7, 0, 0),
  (⟨"CodedRelaysModel", "nodes", "()I"⟩, prog_9_method_38_code, 1, some .int, 7, 0, 0),
  (⟨"CodedRelaysModel", "links", "()I"⟩, prog_9_method_39_code, 1, some .int, 7, 0, 0),
  (⟨"CodedRelaysModel", "link", "(II)I"⟩, prog_9_method_40_code, 3, some .int, 7, 2, 43),
  (⟨"CodedRelaysModel", "rank", "(I)I"⟩, prog_9_method_41_code, 2, some .int, 7, 2, 43),
  (⟨"CodedRelaysModel", "isSum", "(II)Z"⟩, prog_9_method_42_code, 3, some .boolean, 7, 2, 43),
  (⟨"CodedRelaysModel", "vector", "(II)I"⟩, prog_9_method_43_code, 3, some .int, 7, 3, 65),
  (⟨"CodedRelaysModel", "payload", "(II)I"⟩, prog_9_method_44_code, 3, some .int, 7, 3, 65),
  (⟨"CodedRelaysModel", "fates", "(II)I"⟩, prog_9_method_45_code, 3, some .int, 7, 2, 43),
  (⟨"CodedRelaysModel", "lastSent", "(I)I"⟩, prog_9_method_46_code, 2, some .int, 7, 2, 43),
  (⟨"CodedRelaysModel", "endSum", "(IZ)I"⟩, prog_9_method_47_code, 3, some .int, 7, 2, 43),
  (⟨"CodedRelaysModel", "differing", "()I"⟩, prog_9_method_48_code, 3, some .int, 7, 1, 22),
  (⟨"CodedRelaysModel", "knows", "(I)I"⟩, prog_9_method_49_code, 4, some .int, 7, 2, 47),
  (⟨"CodedRelaysModel", "solved", "(II)I"⟩, prog_9_method_50_code, 4, some .int, 7, 2, 47),
  (⟨"CodedRelaysModel", "solve", "(II)I"⟩, prog_9_method_51_code, 3, some .int, 7, 3, 70),
  (⟨"CodedRelaysModel", "wrong", "()I"⟩, prog_9_method_52_code, 5, some .int, 7, 3, 70),
  (⟨"CodedRelaysModel", "combination", "(II)I"⟩, prog_9_method_53_code, 3, some .int, 7, 2, 47),
  (⟨"CodedRelaysModel", "logOf", "(I)I"⟩, prog_9_method_54_code, 3, some .int, 7, 0, 0),
  (⟨"CodedRelaysModel", "commonRank", "(II)I"⟩, prog_9_method_55_code, 5, some .int, 7, 2, 47),
  (⟨"CodedRelaysModel", "isSuspect", "(II)Z"⟩, prog_9_method_56_code, 5, some .boolean, 7, 1, 23)]
def mt_5 : List mtT := [
  (⟨"CodedRelaysModel", "suspect", "(II)I"⟩, prog_9_method_57_code, 3, some .int, 7, 2, 47),
  (⟨"CodedRelaysModel", "suspicions", "(I)I"⟩, prog_9_method_58_code, 4, some .int, 7, 2, 47),
  (⟨"CodedRelaysModel", "checks", "(II)Z"⟩, prog_9_method_59_code, 3, some .boolean, 7, 2, 47),
  (⟨"CodedRelaysModel", "check", "(II)I"⟩, prog_9_method_60_code, 4, some .int, 7, 3, 69),
  (⟨"CodedRelaysModel", "uncut", "(I)I"⟩, prog_9_method_61_code, 4, some .int, 7, 2, 45),
  (⟨"CodedRelaysModel", "checkRandomly", "(I)I"⟩, prog_9_method_62_code, 7, some .int, 7, 3, 69),
  (⟨"CodedRelaysModel", "marks", "(I)I"⟩, prog_9_method_63_code, 2, some .int, 7, 2, 43),
  (⟨"CodedRelaysModel", "isCutOff", "(I)I"⟩, prog_9_method_64_code, 2, some .int, 7, 2, 43),
  (⟨"CodedRelaysModel", "sentRank", "(I)I"⟩, prog_9_method_65_code, 4, some .int, 7, 2, 45),
  (⟨"CodedRelaysModel", "adds", "(I)V"⟩, prog_9_method_66_code, 3, none, 7, 0, 0),
  (⟨"CodedRelaysModel", "flowWithout", "(II)I"⟩, prog_9_method_67_code, 7, some .int, 7, 2, 43),
  (⟨"CodedRelaysModel", "flow", "(I)I"⟩, prog_9_method_68_code, 2, some .int, 7, 3, 69),
  (⟨"CodedRelaysModel", "neededLink", "(I)I"⟩, prog_9_method_69_code, 4, some .int, 7, 3, 69),
  (⟨"CodedRelaysModel", "append", "(I)I"⟩, prog_9_method_70_code, 2, some .int, 7, 1, 22),
  (⟨"CodedRelaysModel", "clearText", "()I"⟩, prog_9_method_71_code, 2, some .int, 7, 0, 0),
  (⟨"CodedRelaysModel", "here", "()I"⟩, prog_9_method_72_code, 1, some .int, 7, 0, 0),
  (⟨"CodedRelaysModel", "passes", "(I)Z"⟩, prog_9_method_73_code, 3, some .boolean, 7, 1, 20),
  (⟨"CodedRelaysModel", "readDigit", "(II)Z"⟩, prog_9_method_74_code, 4, some .boolean, 7, 1, 22),
  (⟨"CodedRelaysModel", "readBehavior", "(I)Z"⟩, prog_9_method_75_code, 2, some .boolean, 7, 2, 45),
  (⟨"CodedRelaysModel", "readLink", "(I)Z"⟩, prog_9_method_76_code, 2, some .boolean, 7, 2, 45),
  (⟨"CodedRelaysModel", "readAll", "()Z"⟩, prog_9_method_77_code, 2, some .boolean, 7, 3, 66),
  (⟨"CodedRelaysModel", "faultPosition", "()I"⟩, prog_9_method_78_code, 1, some .int, 7, 4, 87),
  (⟨"CodedRelaysModel", "read", "()I"⟩, prog_9_method_79_code, 2, some .int, 7, 4, 87),
  (⟨"CodedRelaysModel", "keep", "(I)I"⟩, prog_9_method_80_code, 3, some .int, 7, 1, 22),
  (⟨"CodedRelaysModel", "restore", "(I)I"⟩, prog_9_method_81_code, 3, some .int, 7, 1, 22),
  (⟨"CodedRelaysModel", "mix", "(J)V"⟩, prog_9_method_82_code, 3, none, 7, 0, 0),
  (⟨"CodedRelaysModel", "checksum", "()J"⟩, prog_9_method_83_code, 3, some .long, 7, 1, 22),
  (⟨"java/util/Arrays", "fill", "([II)V"⟩, prog_12_method_103_code, 4, none, 9, 0, 0),
  (⟨"java/lang/Integer", "bitCount", "(I)I"⟩, prog_10_method_49_code, 1, some .int, 10, 0, 0),
  (⟨"CodedRelaysLaw", "law", "([I)Z"⟩, code, 4, some .boolean, 8, 6, 135)]
def mtTab : List mtT := mt_0 ++ (mt_1 ++ (mt_2 ++ (mt_3 ++ (mt_4 ++ (mt_5)))))
def mtA (f : Nat) : mtT := mtTab.getD f (⟨"", "", ""⟩, ⟨#[]⟩, 0, none, 99, 0, 0)
def yN (f : Nat) : MethodName := (mtA f).1
def cd (f : Nat) : ByteArray := (mtA f).2.1
def mL (f : Nat) : Nat := (mtA f).2.2.1
def rT (f : Nat) : Option FieldType := (mtA f).2.2.2.1
def cN (f : Nat) : Nat := (mtA f).2.2.2.2.1
def fRm (f : Nat) : Nat := (mtA f).2.2.2.2.2.1
def lRm (f : Nat) : Nat := (mtA f).2.2.2.2.2.2
def cS (c : Nat) : String := ["CodedRelays$EntryReader", "CodedRelays$Link", "CodedRelays$Network", "CodedRelays$Node", "CodedRelays$Span", "CodedRelays$Ways", "CodedRelays", "CodedRelaysModel", "CodedRelaysLaw", "java/util/Arrays", "java/lang/Integer"].getD c ""
/-- the pool: fields: (class, index), (class number, field), place of its word -/
def pF : List ((Nat × Nat) × (Nat × Nat) × Nat) := [((4, 9), (4, 0), 81), ((4, 15), (4, 1), 82), ((4, 18), (4, 2), 83), ((3, 59), (4, 2), 84), ((2, 99), (4, 2), 85), ((6, 132), (4, 2), 86), ((3, 12), (3, 0), 95), ((2, 95), (3, 0), 96), ((6, 129), (3, 0), 97), ((3, 18), (3, 1), 98), ((2, 149), (3, 1), 99), ((6, 197), (3, 1), 100), ((3, 21), (3, 2), 101), ((6, 139), (3, 2), 102), ((3, 25), (3, 3), 103), ((6, 142), (3, 3), 104), ((3, 28), (3, 4), 105), ((2, 68), (3, 4), 106), ((6, 89), (3, 4), 107), ((3, 32), (3, 5), 108), ((2, 161), (3, 5), 109), ((6, 190), (3, 5), 110), ((3, 35), (3, 6), 111), ((2, 108), (3, 6), 112), ((6, 183), (3, 6), 113), ((1, 9), (1, 0), 143), ((5, 39), (1, 0), 144), ((2, 79), (1, 0), 145), ((6, 118), (1, 0), 146), ((1, 15), (1, 1), 147), ((5, 44), (1, 1), 148), ((2, 82), (1, 1), 149), ((6, 123), (1, 1), 150), ((1, 18), (1, 2), 151), ((2, 85), (1, 2), 152), ((6, 126), (1, 2), 153), ((1, 21), (1, 3), 154), ((6, 145), (1, 3), 155), ((1, 34), (1, 4), 156), ((1, 37), (1, 5), 157), ((6, 148), (1, 5), 158), ((1, 40), (1, 6), 159), ((1, 43), (1, 7), 160), ((6, 154), (1, 7), 161), ((1, 46), (1, 8), 162), ((6, 151), (1, 8), 163), ((1, 49), (1, 9), 164), ((2, 9), (2, 0), 212), ((6, 49), (2, 0), 213), ((2, 15), (2, 1), 214), ((6, 62), (2, 1), 215), ((2, 19), (2, 2), 216), ((6, 66), (2, 2), 217), ((2, 24), (2, 3), 218), ((6, 85), (2, 3), 219), ((2, 29), (2, 4), 220), ((5, 29), (2, 4), 221), ((6, 69), (2, 4), 222), ((2, 34), (2, 5), 223), ((5, 35), (2, 5), 224), ((6, 114), (2, 5), 225), ((2, 39), (2, 6), 226), ((6, 94), (2, 6), 227), ((2, 43), (2, 7), 228), ((6, 98), (2, 7), 229), ((2, 65), (2, 8), 230), ((6, 108), (2, 8), 231), ((5, 9), (5, 0), 258), ((5, 15), (5, 1), 259), ((5, 18), (5, 2), 260), ((0, 11), (0, 0), 277), ((0, 15), (0, 1), 278), ((0, 18), (0, 2), 279), ((0, 45), (0, 3), 280), ((6, 225), (0, 3), 281), ((0, 36), (0, 4), 282), ((6, 228), (0, 4), 283), ((0, 33), (0, 5), 284), ((6, 231), (0, 5), 285), ((0, 39), (0, 6), 286), ((6, 234), (0, 6), 287), ((0, 42), (0, 7), 288), ((6, 235), (0, 7), 289), ((6, 10), (6, 0), 308), ((6, 16), (6, 1), 309), ((6, 23), (6, 2), 310), ((6, 30), (6, 3), 311), ((6, 34), (6, 4), 312), ((6, 38), (6, 5), 313), ((6, 45), (6, 6), 314), ((7, 7), (7, 0), 752), ((7, 13), (7, 1), 753), ((7, 16), (7, 2), 754), ((7, 20), (7, 3), 755), ((7, 149), (7, 4), 756), ((7, 23), (7, 5), 757), ((7, 26), (7, 6), 758), ((7, 29), (7, 7), 759), ((7, 32), (7, 8), 760), ((7, 153), (7, 9), 761), ((7, 159), (7, 10), 762), ((7, 171), (7, 11), 763), ((7, 168), (7, 12), 764), ((7, 35), (7, 13), 765), ((7, 186), (7, 14), 766)]
/-- methods: (class, index), (method, its arguments without the receiver), place -/
def pM : List ((Nat × Nat) × (Nat × Nat) × Nat) := [((8, 9), (61, 0), 56), ((6, 9), (13, 0), 64), ((2, 28), (37, 0), 71), ((3, 11), (48, 0), 77), ((2, 38), (7, 0), 132), ((1, 25), (8, 0), 136), ((1, 28), (187, 2), 140), ((2, 46), (15, 0), 186), ((2, 49), (17, 0), 190), ((2, 71), (38, 0), 194), ((3, 39), (49, 0), 198), ((4, 22), (187, 2), 202), ((2, 74), (8, 0), 203), ((2, 75), (41, 2), 204), ((3, 62), (51, 1), 208), ((6, 22), (55, 0), 254), ((6, 29), (48, 0), 270), ((6, 44), (0, 0), 273), ((8, 13), (62, 1), 330), ((6, 52), (15, 0), 334), ((6, 55), (17, 0), 335), ((8, 18), (63, 2), 336), ((6, 58), (19, 1), 340), ((8, 23), (64, 1), 344), ((6, 72), (16, 0), 348), ((8, 27), (65, 3), 352), ((6, 75), (20, 1), 356), ((6, 78), (18, 3), 360), ((8, 32), (66, 0), 364), ((8, 37), (67, 2), 368), ((6, 82), (21, 1), 372), ((8, 41), (68, 1), 376), ((8, 45), (69, 1), 380), ((8, 49), (70, 1), 384), ((6, 101), (31, 0), 388), ((2, 124), (32, 1), 392), ((2, 132), (26, 1), 396), ((2, 136), (33, 1), 400), ((2, 155), (30, 1), 404), ((2, 120), (29, 1), 408), ((2, 140), (42, 1), 416), ((3, 66), (44, 2), 420), ((2, 143), (43, 1), 424), ((2, 146), (10, 2), 428), ((2, 152), (51, 1), 432), ((2, 128), (11, 1), 433), ((1, 59), (40, 2), 437), ((3, 52), (53, 1), 441), ((3, 56), (43, 1), 445), ((1, 65), (41, 2), 446), ((8, 53), (71, 1), 447), ((6, 105), (28, 1), 451), ((8, 57), (72, 0), 455), ((8, 61), (73, 0), 459), ((8, 65), (74, 0), 463), ((8, 69), (75, 2), 467), ((6, 111), (23, 1), 471), ((8, 73), (76, 1), 475), ((8, 77), (77, 2), 479), ((6, 135), (24, 2), 483), ((2, 92), (20, 1), 487), ((8, 81), (78, 2), 488), ((8, 85), (79, 2), 492), ((8, 89), (80, 1), 496), ((8, 93), (81, 2), 500), ((8, 98), (82, 0), 504), ((8, 102), (83, 1), 508), ((6, 157), (45, 1), 512), ((8, 106), (84, 2), 516), ((8, 110), (85, 0), 520), ((8, 114), (86, 2), 524), ((6, 161), (27, 0), 528), ((6, 164), (53, 1), 532), ((8, 118), (87, 2), 533), ((6, 167), (50, 1), 537), ((6, 171), (52, 1), 544), ((4, 34), (51, 1), 548), ((8, 122), (88, 2), 549), ((6, 174), (22, 1), 553), ((2, 88), (21, 1), 557), ((6, 177), (25, 1), 558), ((2, 104), (27, 0), 562), ((6, 180), (46, 1), 563), ((3, 70), (54, 1), 567), ((4, 38), (188, 1), 571), ((8, 126), (89, 1), 577), ((8, 130), (90, 2), 581), ((6, 187), (34, 2), 585), ((2, 158), (46, 1), 589), ((8, 134), (91, 1), 590), ((6, 193), (35, 0), 594), ((2, 164), (36, 1), 598), ((2, 171), (22, 1), 602), ((2, 167), (34, 2), 603), ((8, 138), (92, 1), 604), ((8, 142), (93, 1), 608), ((8, 146), (94, 1), 612), ((8, 150), (95, 1), 616), ((6, 200), (56, 2), 620), ((5, 22), (58, 2), 624), ((5, 47), (26, 1), 628), ((5, 51), (59, 2), 629), ((5, 26), (60, 2), 633), ((5, 55), (23, 1), 637), ((8, 154), (96, 1), 638), ((6, 204), (57, 1), 642), ((8, 158), (97, 1), 646), ((8, 162), (98, 0), 650), ((8, 166), (99, 0), 654), ((6, 208), (1, 2), 658), ((6, 212), (3, 1), 662), ((0, 21), (4, 1), 666), ((0, 25), (5, 2), 670), ((0, 29), (6, 1), 674), ((6, 216), (2, 0), 677), ((8, 170), (100, 0), 681), ((6, 219), (99, 0), 685), ((6, 222), (101, 0), 686), ((8, 174), (102, 1), 690), ((6, 236), (14, 1), 694), ((2, 58), (39, 1), 699), ((3, 42), (50, 1), 703), ((2, 62), (9, 1), 705), ((8, 178), (103, 1), 710), ((8, 182), (104, 0), 714), ((6, 243), (47, 1), 720), ((6, 247), (12, 1), 725), ((8, 12), (105, 0), 732), ((7, 38), (121, 0), 736), ((7, 41), (120, 0), 740), ((7, 56), (119, 3), 744), ((7, 60), (112, 3), 748), ((8, 17), (122, 1), 798), ((7, 44), (106, 3), 802), ((8, 22), (123, 2), 805), ((8, 26), (124, 1), 809), ((8, 31), (126, 3), 813), ((7, 63), (109, 1), 817), ((7, 67), (125, 3), 821), ((8, 36), (127, 0), 825), ((8, 40), (128, 2), 829), ((8, 44), (129, 1), 833), ((8, 48), (130, 1), 837), ((8, 52), (138, 1), 841), ((7, 110), (137, 0), 845), ((7, 103), (133, 1), 849), ((7, 48), (111, 2), 853), ((7, 87), (113, 1), 857), ((7, 90), (131, 1), 861), ((7, 94), (132, 3), 869), ((7, 77), (107, 2), 873), ((7, 81), (117, 2), 876), ((7, 84), (118, 2), 880), ((7, 107), (136, 1), 884), ((7, 97), (134, 2), 888), ((7, 100), (135, 2), 892), ((8, 56), (139, 1), 896), ((8, 60), (140, 0), 900), ((8, 64), (141, 0), 904), ((8, 68), (142, 0), 908), ((8, 72), (143, 2), 912), ((7, 113), (110, 1), 916), ((8, 76), (144, 1), 920), ((8, 80), (146, 2), 924), ((7, 116), (145, 2), 928), ((8, 84), (147, 2), 932), ((8, 88), (148, 2), 936), ((8, 92), (149, 1), 940), ((8, 97), (150, 2), 944), ((8, 101), (151, 0), 948), ((8, 105), (152, 1), 952), ((8, 109), (154, 2), 956), ((7, 119), (153, 2), 960), ((8, 113), (155, 0), 964), ((8, 117), (156, 2), 968), ((7, 52), (115, 0), 972), ((8, 121), (158, 2), 976), ((7, 122), (157, 1), 980), ((8, 125), (160, 2), 983), ((7, 128), (114, 1), 987), ((7, 131), (116, 1), 991), ((7, 134), (159, 2), 995), ((7, 125), (108, 2), 999), ((8, 129), (161, 1), 1002), ((8, 133), (163, 2), 1006), ((7, 137), (162, 2), 1010), ((8, 137), (165, 1), 1014), ((7, 140), (164, 1), 1018), ((8, 141), (166, 1), 1022), ((8, 145), (167, 1), 1026), ((8, 149), (168, 1), 1030), ((7, 143), (169, 1), 1034), ((8, 153), (171, 1), 1038), ((7, 146), (170, 2), 1042), ((8, 157), (172, 1), 1046), ((8, 161), (173, 1), 1050), ((8, 165), (174, 0), 1054), ((8, 169), (181, 0), 1058), ((7, 180), (180, 0), 1062), ((7, 156), (175, 0), 1066), ((7, 174), (178, 1), 1070), ((7, 162), (177, 2), 1074), ((7, 165), (176, 1), 1078), ((7, 177), (179, 1), 1082), ((8, 173), (182, 0), 1086), ((8, 177), (183, 1), 1090), ((8, 181), (184, 1), 1094), ((8, 186), (186, 0), 1098), ((7, 192), (185, 1), 1103)]
/-- classes: (class, index), (class number, 0), place -/
def pC : List ((Nat × Nat) × (Nat × Nat) × Nat) := [((8, 7), (6, 0), 54), ((6, 7), (2, 0), 62), ((2, 22), (3, 0), 68), ((3, 9), (4, 0), 75), ((2, 32), (1, 0), 129), ((6, 20), (5, 0), 252), ((6, 27), (4, 0), 269), ((6, 42), (0, 0), 271), ((8, 10), (7, 0), 730)]
/-- Object.<init> (0) and System.arraycopy (1) -/
def pX : List ((Nat × Nat) × (Nat × Nat) × Nat) := [((6, 1), (0, 0), 59), ((2, 3), (0, 0), 67), ((3, 3), (0, 0), 74), ((4, 3), (0, 0), 80), ((1, 3), (0, 0), 135), ((5, 3), (0, 0), 257), ((0, 3), (0, 0), 276), ((7, 1), (0, 0), 735), ((4, 28), (1, 0), 541), ((2, 52), (1, 0), 698), ((3, 46), (1, 0), 704), ((1, 53), (1, 0), 709)]
def pI : List ((Nat × Nat) × Int32 × Nat) := [((10, 265), 1431655765, 574), ((10, 266), 858993459, 575), ((10, 267), 252645135, 576), ((7, 76), 65536, 868)]
def pL : List ((Nat × Nat) × Int64 × Nat) := [((2, 112), 1103515245, 412), ((2, 114), 12345, 413), ((2, 116), 2147483648, 414), ((2, 118), 65536, 415), ((6, 239), 61, 718), ((6, 241), 31, 719), ((3, 74), 31, 724), ((1, 69), 31, 729), ((7, 70), 1103515245, 865), ((7, 72), 12345, 866), ((7, 74), 2147483648, 867), ((7, 190), 61, 1102), ((7, 184), 31, 1107)]
def pkG {α : Type} (l : List ((Nat × Nat) × α × Nat)) (c i : Nat) : Option α := (l.find? (fun q => q.1.1 == c && q.1.2 == i)).map (fun q => q.2.1)
/-- places of the words of a method: code, instanceMethod or static, selects (0: none), initialized -/
def mtP : List (Nat × Nat × Nat × Nat × Bool) := [(275, 274, 99999, 50, false), (661, 659, 660, 50, false), (680, 678, 679, 50, false), (665, 663, 664, 50, false), (669, 668, 4, 50, false), (673, 672, 5, 50, false), (676, 675, 99999, 50, true), (134, 133, 99999, 47, false), (139, 137, 138, 47, false), (708, 706, 707, 47, false), (431, 429, 430, 47, false), (436, 434, 435, 47, false), (728, 726, 727, 47, false), (66, 65, 99999, 44, false), (697, 695, 696, 44, false), (189, 187, 188, 44, false), (351, 349, 350, 44, false), (193, 191, 192, 44, false), (363, 361, 362, 44, false), (343, 341, 342, 44, false), (359, 357, 358, 44, false), (375, 373, 374, 44, false), (556, 554, 555, 44, false), (474, 472, 473, 44, false), (486, 484, 485, 44, false), (561, 559, 560, 44, false), (399, 397, 398, 44, false), (531, 529, 530, 44, false), (454, 452, 453, 44, false), (411, 409, 410, 44, false), (407, 405, 406, 44, false), (391, 389, 390, 44, false), (395, 393, 394, 44, false), (403, 401, 402, 44, false), (588, 586, 587, 44, false), (597, 595, 596, 44, false), (601, 599, 600, 44, false), (73, 72, 99999, 45, false), (197, 195, 196, 45, false), (702, 700, 701, 45, false), (440, 438, 439, 45, false), (207, 205, 206, 45, false), (419, 417, 418, 45, false), (427, 425, 426, 45, false), (423, 422, 0, 45, false), (515, 513, 514, 45, false), (566, 564, 565, 45, false), (723, 721, 722, 45, false), (79, 78, 99999, 46, false), (201, 199, 200, 46, false), (540, 538, 539, 46, false), (211, 209, 210, 46, false), (547, 545, 546, 46, false), (444, 442, 443, 46, false), (570, 568, 569, 46, false), (256, 255, 99999, 49, false), (623, 621, 622, 49, false), (645, 643, 644, 49, false), (627, 626, 1, 49, false), (632, 631, 2, 49, false), (636, 635, 3, 49, false), (58, 57, 99999, 43, false), (333, 331, 332, 43, false), (339, 337, 338, 43, false), (347, 345, 346, 43, false), (355, 353, 354, 43, false), (367, 365, 366, 43, false), (371, 369, 370, 43, false), (379, 377, 378, 43, false), (383, 381, 382, 43, false), (387, 385, 386, 43, false), (450, 448, 449, 43, false), (458, 456, 457, 43, false), (462, 460, 461, 43, false), (466, 464, 465, 43, false), (470, 468, 469, 43, false), (478, 476, 477, 43, false), (482, 480, 481, 43, false), (491, 489, 490, 43, false), (495, 493, 494, 43, false), (499, 497, 498, 43, false), (503, 501, 502, 43, false), (507, 505, 506, 43, false), (511, 509, 510, 43, false), (519, 517, 518, 43, false), (523, 521, 522, 43, false), (527, 525, 526, 43, false), (536, 534, 535, 43, false), (552, 550, 551, 43, false), (580, 578, 579, 43, false), (584, 582, 583, 43, false), (593, 591, 592, 43, false), (607, 605, 606, 43, false), (611, 609, 610, 43, false), (615, 613, 614, 43, false), (619, 617, 618, 43, false), (641, 639, 640, 43, false), (649, 647, 648, 43, false), (653, 651, 652, 43, false), (657, 655, 656, 43, false), (684, 682, 683, 43, false), (689, 688, 6, 43, false), (693, 691, 692, 43, false), (713, 711, 712, 43, false), (717, 715, 716, 43, false), (734, 733, 99999, 51, false), (804, 803, 99999, 51, true), (875, 874, 99999, 51, true), (1001, 1000, 99999, 51, true), (820, 819, 11, 51, false), (919, 918, 24, 51, false), (856, 855, 15, 51, false), (751, 750, 10, 51, false), (860, 859, 16, 51, false), (990, 989, 28, 51, false), (975, 974, 27, 51, false), (994, 993, 29, 51, false), (879, 878, 19, 51, false), (883, 882, 20, 51, false), (747, 746, 9, 51, false), (743, 742, 8, 51, false), (739, 738, 7, 51, false), (801, 799, 800, 51, false), (808, 806, 807, 51, false), (812, 810, 811, 51, false), (824, 823, 12, 51, false), (816, 814, 815, 51, false), (828, 826, 827, 51, false), (832, 830, 831, 51, false), (836, 834, 835, 51, false), (840, 838, 839, 51, false), (864, 863, 17, 51, false), (872, 871, 18, 51, false), (852, 851, 14, 51, false), (891, 890, 22, 51, false), (895, 894, 23, 51, false), (887, 886, 21, 51, false), (848, 847, 13, 51, false), (844, 842, 843, 51, false), (899, 897, 898, 51, false), (903, 901, 902, 51, false), (907, 905, 906, 51, false), (911, 909, 910, 51, false), (915, 913, 914, 51, false), (923, 921, 922, 51, false), (931, 930, 25, 51, false), (927, 925, 926, 51, false), (935, 933, 934, 51, false), (939, 937, 938, 51, false), (943, 941, 942, 51, false), (947, 945, 946, 51, false), (951, 949, 950, 51, false), (955, 953, 954, 51, false), (963, 962, 26, 51, false), (959, 957, 958, 51, false), (967, 965, 966, 51, false), (971, 969, 970, 51, false), (982, 981, 99999, 51, true), (979, 977, 978, 51, false), (998, 997, 30, 51, false), (986, 984, 985, 51, false), (1005, 1003, 1004, 51, false), (1013, 1012, 31, 51, false), (1009, 1007, 1008, 51, false), (1021, 1020, 32, 51, false), (1017, 1015, 1016, 51, false), (1025, 1023, 1024, 51, false), (1029, 1027, 1028, 51, false), (1033, 1031, 1032, 51, false), (1037, 1036, 33, 51, false), (1045, 1044, 34, 51, false), (1041, 1039, 1040, 51, false), (1049, 1047, 1048, 51, false), (1053, 1051, 1052, 51, false), (1057, 1055, 1056, 51, false), (1069, 1068, 36, 51, false), (1081, 1080, 39, 51, false), (1077, 1076, 38, 51, false), (1073, 1072, 37, 51, false), (1085, 1084, 40, 51, false), (1065, 1064, 35, 51, false), (1061, 1059, 1060, 51, false), (1089, 1087, 1088, 51, false), (1093, 1091, 1092, 51, false), (1097, 1095, 1096, 51, false), (1106, 1105, 41, 51, false), (1101, 1099, 1100, 51, false), (142, 141, 99999, 48, true), (573, 572, 99999, 53, true)]
def iniP : List Nat := [50, 47, 44, 45, 46, 49, 43, 51]
def insP : List Nat := [272, 131, 63, 70, 76, 253, 55, 731]
def nFl : List Nat := [8, 10, 9, 7, 3, 3, 7, 15]
def layP : List (List Nat) := [[290, 292, 294, 296, 298, 300, 302, 304], [165, 167, 169, 171, 173, 175, 177, 179, 181, 183], [232, 234, 236, 238, 240, 242, 244, 246, 248], [114, 116, 118, 120, 122, 124, 126], [87, 89, 91], [261, 263, 265], [315, 317, 319, 321, 323, 325, 327], [767, 769, 771, 773, 775, 777, 779, 781, 783, 785, 787, 789, 791, 793, 795]]
end
section
/-! what the tables say of the pool and of the methods, by their places -/
def TXf (c : Nat) : u_T := match c with
  | 0 => TX0 | 1 => TX1 | 2 => TX2 | 3 => TX3 | 4 => TX4 | 5 => TX5 | 6 => TX6 | _ => TX7
def tyXf (c : Nat) : Nat → FieldType := match c with
  | 0 => tyX0 | 1 => tyX1 | 2 => tyX2 | 3 => tyX3 | 4 => tyX4 | 5 => tyX5 | 6 => tyX6 | _ => tyX7
def gwT : List Cond := lw_tbl.filter goodWord
/-- a word that may be handed on to a callee -/
def wAt (i : Nat) (w : Cond) : Bool := decide (lw_tbl[i]? = some w)
theorem wAt_mem {i : Nat} {w : Cond} (h : wAt i w = true) : w ∈ lw_tbl := List.mem_of_getElem? (of_decide_eq_true h)
theorem wAt_good {i : Nat} {w : Cond} (h : wAt i w = true) (hg : goodWord w = true) : w ∈ gwT := List.mem_filter.mpr ⟨wAt_mem h, hg⟩
def chF (q : (Nat × Nat) × (Nat × Nat) × Nat) : Bool :=
  decide (q.2.1.1 < 8) && decide (q.2.1.2 < nFl.getD q.2.1.1 0) &&
  ((wAt q.2.2 (.fieldLink (cS q.1.1) q.1.2 (TXf q.2.1.1 q.2.1.2).1 (TXf q.2.1.1 q.2.1.2).2.1 (TXf q.2.1.1 q.2.1.2).2.2.1)) ||
   (wAt q.2.2 (.fieldLinkNest (cS q.1.1) q.1.2 (TXf q.2.1.1 q.2.1.2).1 (TXf q.2.1.1 q.2.1.2).2.1 (TXf q.2.1.1 q.2.1.2).2.2.1 "CodedRelays")))
theorem chF_ok : pF.all chF = true := by decide +kernel
def chM (q : (Nat × Nat) × (Nat × Nat) × Nat) : Bool :=
  decide (q.2.1.1 < 189) && decide (fRm q.2.1.1 < 90) &&
  decide ((parseMethodDescriptor (yN q.2.1.1).desc).map (fun d => d.parameters.length) = some q.2.1.2) &&
  (wAt q.2.2 (.methodLink (cS q.1.1) q.1.2 (yN q.2.1.1)) || (wAt q.2.2 (.methodLinkNest (cS q.1.1) q.1.2 (yN q.2.1.1) "CodedRelays") && decide ((yN q.2.1.1).name = "<init>")))
theorem chM_ok : pM.all chM = true := by decide +kernel
def chC (q : (Nat × Nat) × (Nat × Nat) × Nat) : Bool :=
  decide (q.2.1.1 < 8) && wAt q.2.2 (.classLink (cS q.1.1) q.1.2 (cS q.2.1.1))
theorem chC_ok : pC.all chC = true := by decide +kernel
def chX (q : (Nat × Nat) × (Nat × Nat) × Nat) : Bool :=
  if q.2.1.1 = 0 then wAt q.2.2 (.methodLink (cS q.1.1) q.1.2 objectInit) else wAt q.2.2 (.methodLink (cS q.1.1) q.1.2 arraycopyName)
theorem chX_ok : pX.all chX = true := by decide +kernel
theorem chI_ok : pI.all (fun q => wAt q.2.2 (.constant (cS q.1.1) q.1.2 q.2.1)) = true := by decide +kernel
theorem chL_ok : pL.all (fun q => wAt q.2.2 (.constantLong (cS q.1.1) q.1.2 q.2.1)) = true := by decide +kernel
/-- a method's own words -/
def chY (f : Nat) (q : Nat × Nat × Nat × Nat × Bool) : Bool :=
  wAt q.1 (.code (yN f) (cd f) (mL f) (rT f)) && (if q.2.2.2.2 then wAt q.2.1 (.static (yN f)) else wAt q.2.1 (.instanceMethod (yN f))) &&
  (decide (q.2.2.1 = 99999) || wAt q.2.2.1 (.selects (cS (cN f)) (yN f) (yN f))) && wAt q.2.2.2.1 (.initialized (yN f).cls) &&
  decide ((yN f).cls = cS (cN f)) && plainName (yN f).cls && decide ((yN f).cls ≠ "java/lang/invoke/MethodHandle") && decide ((yN f).cls ≠ "java/lang/invoke/VarHandle") &&
  (q.2.2.2.2 || decide (cN f < 8))
def chYs (lo n : Nat) : Bool := (List.range n).all (fun j => match mtP[lo + j]? with | some q => chY (lo + j) q | none => false)
theorem chY_0 : chYs 0 40 = true := by decide +kernel
theorem chY_1 : chYs 40 40 = true := by decide +kernel
theorem chY_2 : chYs 80 40 = true := by decide +kernel
theorem chY_3 : chYs 120 40 = true := by decide +kernel
theorem chY_4 : chYs 160 29 = true := by decide +kernel
/-- a class's own words: initialized, instantiable, its fields -/
def chK (c : Nat) : Bool :=
  wAt (iniP.getD c 0) (.initialized (cS c)) && wAt (insP.getD c 0) (.instantiable (cS c) (nFl.getD c 0)) &&
  (List.range (nFl.getD c 0)).all (fun k => wAt ((layP.getD c []).getD k 0) (u_lay (cS c) (TXf c) k))
theorem chK_ok : (List.range 8).all chK = true := by decide +kernel
theorem ch_oi : Cond.instanceMethod objectInit ∈ gwT ∧ Cond.code objectInit ⟨#[0xb1]⟩ 1 none ∈ gwT := by decide +kernel
theorem ch_ac : Cond.native arraycopyName ∈ gwT ∧ Cond.static arraycopyName ∈ gwT ∧ Cond.initialized "java/lang/System" ∈ gwT := by decide +kernel
theorem ch_ar : Cond.arrayClass .int ∈ gwT ∧ Cond.arrayClass .boolean ∈ gwT ∧ Cond.arrayClass .char ∈ gwT := by decide +kernel
theorem ch_ao : Cond.arrayOver (.object "CodedRelays$Node") ∈ lw_tbl ∧ Cond.arrayOver (.object "CodedRelays$Link") ∈ lw_tbl ∧ Cond.arrayOver (.object "CodedRelays$Network") ∈ lw_tbl := by decide +kernel
end
section
/-! THE ABSTRACT MACHINE: the same instructions over a heap of plain cells; 'run' is what a method comes to -/
/-- a cell: an array (kind, length, contents: 0 int, 1 boolean, 2 char, 3 Node, 4 Link, 5 Network, 9 the script) or an object (class number, fields) -/
abbrev aC : Type := (Nat × Nat × ((Nat → Int32) ⊕ (Nat → Option Nat))) ⊕ (Nat × List Value)
/-- a heap: the next address, the slots made so far, the cells -/
abbrev aH : Type := Nat × Nat × (Nat → Option aC)
def hget (h : aH) (a : Nat) : Option aC := h.2.2 a
def hset (h : aH) (a : Nat) (c : aC) : aH := (h.1, h.2.1, fun q => if q = a then some c else h.2.2 q)
def hnew (h : aH) (n : Nat) (c : aC) : aH := (h.1 + 1, h.2.1 + n, fun q => if q = h.1 then some c else h.2.2 q)
abbrev aR : Type := Option Value × aH
abbrev aG : Type := Nat × List Value × List Value × aH
abbrev aA : Type := aR ⊕ (aG ⊕ ((Nat × List Value × aH) × (Nat × List Value × List Value)))
def nx (pc : Nat) (ls st : List Value) (h : aH) : Option aA := some (.inr (.inl (pc, ls, st, h)))
def icN (k : Nat) (n : Nat) (x : Option aA) : Option aA := if n = k then x else none
/-- where a jump goes -/
def jmp (pc : Nat) (off : Int) (ls st : List Value) (h : aH) : Option aA := if 0 ≤ (pc : Int) + off then nx ((pc : Int) + off).toNat ls st h else none
def cmpI (c : Jvm.ClassFile.Cond) (x y : Int32) : Bool := match c with
  | .eq => decide (x = y)
  | .ne => decide (¬ x = y)
  | .lt => decide (x < y)
  | .ge => decide (y ≤ x)
  | .gt => decide (y < x)
  | .le => decide (x ≤ y)
def br (b : Bool) (pc : Nat) (off : Int) (ls st : List Value) (h : aH) : Option aA := if 0 ≤ (pc : Int) + off then (if b = true then nx ((pc : Int) + off).toNat ls st h else nx (pc + 3) ls st h) else none
def ldI (k pc : Nat) (ls st : List Value) (h : aH) : Option aA := match ls[k]? with
  | some (.int x) => nx pc ls (.int x :: st) h
  | _ => none
def ldA (k pc : Nat) (ls st : List Value) (h : aH) : Option aA := match ls[k]? with
  | some (.ref x) => nx pc ls (.ref x :: st) h
  | _ => none
def ldL (k pc : Nat) (ls st : List Value) (h : aH) : Option aA := match ls[k]?, ls[k + 1]? with
  | some (.long x), some (.retAddr 0) => nx pc ls (.long x :: st) h
  | _, _ => none
def stI (k pc : Nat) (ls st : List Value) (h : aH) : Option aA := match st with
  | .int x :: r => if k < ls.length then nx pc (ls.set k (.int x)) r h else none
  | _ => none
def stA (k pc : Nat) (ls st : List Value) (h : aH) : Option aA := match st with
  | .ref x :: r => if k < ls.length then nx pc (ls.set k (.ref x)) r h else none
  | _ => none
def stL (k pc : Nat) (ls st : List Value) (h : aH) : Option aA := match st with
  | .long x :: r => if k + 1 < ls.length then nx pc ((ls.set k (.long x)).set (k + 1) (.retAddr 0)) r h else none
  | _ => none
def op2I (fn : Int32 → Int32 → Option Int32) (pc : Nat) (ls st : List Value) (h : aH) : Option aA := match st with
  | .int y :: .int x :: r => match fn x y with
    | some z => nx (pc + 1) ls (.int z :: r) h
    | none => none
  | _ => none
def op2L (fn : Int64 → Int64 → Option Int64) (pc : Nat) (ls st : List Value) (h : aH) : Option aA := match st with
  | .long y :: .long x :: r => match fn x y with
    | some z => nx (pc + 1) ls (.long z :: r) h
    | none => none
  | _ => none
/-- a field is read: what a cell gives, handed on -/
def gfK {α : Type} (ci k : Nat) (o : Option aC) (K : Value → Option α) : Option α := match o with
  | some (.inr (c, fs)) => if c = ci then (match fs[k]? with | some v => K v | none => none) else none
  | _ => none
/-- a field is written -/
def pfK {α : Type} (ci k : Nat) (o : Option aC) (v : Value) (K : aC → Option α) : Option α := match o with
  | some (.inr (c, fs)) => if c = ci ∧ k < fs.length ∧ narrow (tyXf ci k) v = v ∧ fits (tyXf ci k) v = true then K (.inr (c, fs.set k v)) else none
  | _ => none
/-- a row is read -/
def alK {α : Type} (i : Int32) (o : Option aC) (p : Nat → Bool) (K : Int32 → Option α) : Option α := match o with
  | some (.inl (t, n, .inl f)) => if p t = true ∧ ¬ (i < 0 ∨ n ≤ i.toNatClampNeg) then K (f i.toNatClampNeg) else none
  | _ => none
def alQ {α : Type} (i : Int32) (o : Option aC) (K : Value → Option α) : Option α := match o with
  | some (.inl (t, n, .inr f)) => if (t = 3 ∨ t = 4 ∨ t = 5) ∧ ¬ (i < 0 ∨ n ≤ i.toNatClampNeg) then K (va_rf (f i.toNatClampNeg)) else none
  | _ => none
/-- a row is written -/
def asK {α : Type} (i : Int32) (o : Option aC) (t0 : Nat) (x : Int32) (K : aC → Option α) : Option α := match o with
  | some (.inl (t, n, .inl f)) => if t = t0 ∧ ¬ (i < 0 ∨ n ≤ i.toNatClampNeg) then K (.inl (t, n, .inl (upd f i.toNatClampNeg x))) else none
  | _ => none
def arC (t : Nat) : Nat := if t = 3 then 3 else if t = 4 then 1 else if t = 5 then 2 else 99
def asQ {α : Type} (i : Int32) (o : Option aC) (v : Nat) (ov : Option aC) (K : aC → Option α) : Option α := match o, ov with
  | some (.inl (t, n, .inr f)), some (.inr (c, _)) => if (t = 3 ∨ t = 4 ∨ t = 5) ∧ c = arC t ∧ ¬ (i < 0 ∨ n ≤ i.toNatClampNeg) then K (.inl (t, n, .inr (va_up f i.toNatClampNeg (some v)))) else none
  | _, _ => none
def lenK {α : Type} (o : Option aC) (K : Nat → Option α) : Option α := match o with
  | some (.inl (t, n, .inl _)) => if t = 0 ∨ t = 1 ∨ t = 2 ∨ t = 9 then K n else none
  | _ => none
def ccK {α : Type} (sp dp n : Int32) (o d : Option aC) (K : aC → Option α) : Option α := match o, d with
  | some (.inl (0, n0, .inl f)), some (.inl (0, n1, .inl g)) => if ¬ sp < 0 ∧ ¬ dp < 0 ∧ ¬ n < 0 ∧ sp.toNatClampNeg + n.toNatClampNeg ≤ n0 ∧ dp.toNatClampNeg + n.toNatClampNeg ≤ n1 then K (.inl (0, n1, .inl (va_cpy f g sp.toNatClampNeg dp.toNatClampNeg n.toNatClampNeg))) else none
  | _, _ => none
def rcK {α : Type} (ci : Nat) (o : Option aC) (K : Option α) : Option α := match o with
  | some (.inr (c, _)) => if c = ci then K else none
  | _ => none
def catS (st : List Value) : Nat := (st.map fun v => v.category).sum
/-- a callee's locals -/
def aSl : List Value → List Value
  | [] => []
  | v :: vs => if v.category = 2 then v :: .retAddr 0 :: aSl vs else v :: aSl vs
def aEnt (n : Nat) (vs : List Value) : List Value := aSl vs ++ List.replicate (n - (aSl vs).length) .null
def callK (f g : Nat) (vs : List Value) (pc : Nat) (ls st : List Value) (h : aH) : Option aA :=
  if fRm g + 1 ≤ fRm f ∧ 8 + (mL g + 11) + lRm g ≤ lRm f ∧ catS st ≤ 8 ∧ (aSl vs).length ≤ mL g then some (.inr (.inr ((g, aEnt (mL g) vs, h), (pc, ls, st)))) else none
def arT (t : ArrayType) : Option Nat := match t with
  | .int => some 0
  | .boolean => some 1
  | .char => some 2
  | _ => none
def anT (ci : Nat) : Option Nat := if ci = 3 then some 3 else if ci = 1 then some 4 else if ci = 2 then some 5 else none
def tsw (d lo hi : Int) (offs : Array Int) (x : Int32) : Option Int := if x.toInt < lo ∨ hi < x.toInt then some d else offs[(x.toInt - lo).toNat]?
def retK (f : Nat) (x : Int32) (h : aH) : Option aA := if rT f = some .int ∨ (rT f = some .boolean ∧ (x = 0 ∨ x = 1)) then some (.inl (some (.int x), h)) else none
def invV (f i : Nat) (pc : Nat) (ls st : List Value) (h : aH) : Option aA := match pkG pM (cN f) i with
  | some (g, k) => match st.drop k with
    | .ref b :: r => if k ≤ st.length ∧ (mtP.getD g (0, 0, 99999, 0, true)).2.2.2.2 = false ∧ (mtP.getD g (0, 0, 99999, 0, true)).2.2.1 ≠ 99999 ∧ (yN g).name ≠ "<init>" then rcK (cN g) (hget h b) (callK f g (.ref b :: (st.take k).reverse) pc ls r h) else none
    | _ => none
  | none => none
def invS (f i : Nat) (pc : Nat) (ls st : List Value) (h : aH) : Option aA := match pkG pM (cN f) i with
  | some (g, k) => if k ≤ st.length ∧ (mtP.getD g (0, 0, 99999, 0, false)).2.2.2.2 = true then callK f g (st.take k).reverse pc ls (st.drop k) h else none
  | none => match pkG pX (cN f) i, st with
    | some (1, _), .int n :: .int dp :: .ref a :: .int sp :: .ref a0 :: r => if 1 ≤ fRm f ∧ 26 ≤ lRm f ∧ catS r ≤ 8 then ccK sp dp n (hget h a0) (hget h a) (fun c => nx pc ls r (hset h a c)) else none
    | _, _ => none
def invI (f i : Nat) (pc : Nat) (ls st : List Value) (h : aH) : Option aA := match pkG pM (cN f) i with
  | some (g, k) => match st.drop k with
    | .ref b :: r => if k ≤ st.length ∧ (mtP.getD g (0, 0, 99999, 0, true)).2.2.2.2 = false ∧ (yN g).name = "<init>" ∧ rT g = none then callK f g (.ref b :: (st.take k).reverse) pc ls r h else none
    | _ => none
  | none => match pkG pX (cN f) i, st with
    | some (0, _), .ref _ :: r => if 1 ≤ fRm f ∧ 20 ≤ lRm f ∧ catS r ≤ 8 then nx pc ls r h else none
    | _, _ => none
def dfl (ty : FieldType) : Value := defaultValue ty
def actI (f pc : Nat) (i : Instr) (n : Nat) (ls st : List Value) (h : aH) : Option aA := match i with
  | .iconst k => icN 1 n (nx (pc + 1) ls (.int (Int32.ofInt k) :: st) h)
  | .bipush k => icN 2 n (nx (pc + 2) ls (.int (Int8.ofInt k).toInt32 :: st) h)
  | .sipush k => icN 3 n (nx (pc + 3) ls (.int (Int16.ofInt k).toInt32 :: st) h)
  | .lconst k => icN 1 n (nx (pc + 1) ls (.long (Int64.ofNat (k : Nat)) :: st) h)
  | .ldc k => icN 2 n (match pkG pI (cN f) k with | some v => nx (pc + 2) ls (.int v :: st) h | none => none)
  | .ldc_w k => icN 3 n (match pkG pI (cN f) k with | some v => nx (pc + 3) ls (.int v :: st) h | none => none)
  | .ldc2_w k => icN 3 n (match pkG pL (cN f) k with | some v => nx (pc + 3) ls (.long v :: st) h | none => none)
  | .iload_n k => icN 1 n (ldI (k : Nat) (pc + 1) ls st h)
  | .iload k => icN 2 n (ldI k (pc + 2) ls st h)
  | .aload_n k => icN 1 n (ldA (k : Nat) (pc + 1) ls st h)
  | .aload k => icN 2 n (ldA k (pc + 2) ls st h)
  | .lload_n k => icN 1 n (ldL (k : Nat) (pc + 1) ls st h)
  | .istore_n k => icN 1 n (stI (k : Nat) (pc + 1) ls st h)
  | .istore k => icN 2 n (stI k (pc + 2) ls st h)
  | .astore_n k => icN 1 n (stA (k : Nat) (pc + 1) ls st h)
  | .astore k => icN 2 n (stA k (pc + 2) ls st h)
  | .lstore_n k => icN 1 n (stL (k : Nat) (pc + 1) ls st h)
  | .iinc k c => icN 3 n (match ls[k]? with | some (.int x) => nx (pc + 3) (ls.set k (.int (x + Int32.ofInt c))) st h | _ => none)
  | .iadd => icN 1 n (op2I (fun x y => some (x + y)) pc ls st h)
  | .isub => icN 1 n (op2I (fun x y => some (x - y)) pc ls st h)
  | .imul => icN 1 n (op2I (fun x y => some (x * y)) pc ls st h)
  | .idiv => icN 1 n (op2I (fun x y => if y = 0 then none else some (x / y)) pc ls st h)
  | .irem => icN 1 n (op2I (fun x y => if y = 0 then none else some (x - x / y * y)) pc ls st h)
  | .iand => icN 1 n (op2I (fun x y => some (x &&& y)) pc ls st h)
  | .ior => icN 1 n (op2I (fun x y => some (x ||| y)) pc ls st h)
  | .ixor => icN 1 n (op2I (fun x y => some (x ^^^ y)) pc ls st h)
  | .ishl => icN 1 n (op2I (fun x y => some (x <<< (y &&& 31))) pc ls st h)
  | .ishr => icN 1 n (op2I (fun x y => some (x >>> (y &&& 31))) pc ls st h)
  | .iushr => icN 1 n (op2I (fun x y => some (x.toUInt32 >>> (y.toUInt32 &&& Int32.toUInt32 31)).toInt32) pc ls st h)
  | .ladd => icN 1 n (op2L (fun x y => some (x + y)) pc ls st h)
  | .lmul => icN 1 n (op2L (fun x y => some (x * y)) pc ls st h)
  | .ldiv => icN 1 n (op2L (fun x y => if y = 0 then none else some (x / y)) pc ls st h)
  | .lrem => icN 1 n (op2L (fun x y => if y = 0 then none else some (x - x / y * y)) pc ls st h)
  | .i2l => icN 1 n (match st with | .int x :: r => nx (pc + 1) ls (.long x.toInt64 :: r) h | _ => none)
  | .l2i => icN 1 n (match st with | .long x :: r => nx (pc + 1) ls (.int x.toInt32 :: r) h | _ => none)
  | .i2c => icN 1 n (match st with | .int x :: r => nx (pc + 1) ls (.int (x.toUInt32 % 65536).toInt32 :: r) h | _ => none)
  | .lcmp => icN 1 n (match st with | .long y :: .long x :: r => nx (pc + 1) ls (.int (lg_cmp x y) :: r) h | _ => none)
  | .dup => icN 1 n (match st with | v :: r => if v.category = 1 then nx (pc + 1) ls (v :: v :: r) h else none | _ => none)
  | .dup2 => icN 1 n (match st with | v :: w :: r => if v.category = 1 ∧ w.category = 1 then nx (pc + 1) ls (v :: w :: v :: w :: r) h else none | _ => none)
  | .pop => icN 1 n (match st with | v :: r => if v.category = 1 then nx (pc + 1) ls r h else none | _ => none)
  | .ifCond c off => icN 3 n (match st with | .int x :: r => br (cmpI c x 0) pc off ls r h | _ => none)
  | .if_icmp c off => icN 3 n (match st with | .int y :: .int x :: r => br (cmpI c x y) pc off ls r h | _ => none)
  | .ifnonnull off => icN 3 n (match st with | .ref _ :: r => jmp pc off ls r h | .null :: r => nx (pc + 3) ls r h | _ => none)
  | .goto off => icN 3 n (jmp pc off ls st h)
  | .tableswitch d lo hi offs => match st with
    | .int x :: r => match tsw d lo hi offs x with | some off => jmp pc off ls r h | none => none
    | _ => none
  | .getfield k => icN 3 n (match pkG pF (cN f) k, st with | some (ci, j), .ref a :: r => gfK ci j (hget h a) (fun v => nx (pc + 3) ls (v :: r) h) | _, _ => none)
  | .putfield k => icN 3 n (match pkG pF (cN f) k, st with
    | some (ci, j), v :: .ref a :: r => if (TXf ci j).2.2.2 = false ∨ ((yN f).name = "<init>" ∧ ci = cN f ∧ cN f < 8) then pfK ci j (hget h a) v (fun c => nx (pc + 3) ls r (hset h a c)) else none
    | _, _ => none)
  | .iaload => icN 1 n (match st with | .int i :: .ref a :: r => alK i (hget h a) (fun t => t == 0 || t == 9) (fun x => nx (pc + 1) ls (.int x :: r) h) | _ => none)
  | .baload => icN 1 n (match st with | .int i :: .ref a :: r => alK i (hget h a) (fun t => t == 1) (fun x => nx (pc + 1) ls (.int x :: r) h) | _ => none)
  | .caload => icN 1 n (match st with | .int i :: .ref a :: r => alK i (hget h a) (fun t => t == 2) (fun x => nx (pc + 1) ls (.int x :: r) h) | _ => none)
  | .aaload => icN 1 n (match st with | .int i :: .ref a :: r => alQ i (hget h a) (fun v => nx (pc + 1) ls (v :: r) h) | _ => none)
  | .iastore => icN 1 n (match st with | .int x :: .int i :: .ref a :: r => asK i (hget h a) 0 x (fun c => nx (pc + 1) ls r (hset h a c)) | _ => none)
  | .bastore => icN 1 n (match st with | .int x :: .int i :: .ref a :: r => asK i (hget h a) 1 (vp_nar .boolean x) (fun c => nx (pc + 1) ls r (hset h a c)) | _ => none)
  | .castore => icN 1 n (match st with | .int x :: .int i :: .ref a :: r => asK i (hget h a) 2 (vp_nar .char x) (fun c => nx (pc + 1) ls r (hset h a c)) | _ => none)
  | .aastore => icN 1 n (match st with | .ref v :: .int i :: .ref a :: r => asQ i (hget h a) v (hget h v) (fun c => nx (pc + 1) ls r (hset h a c)) | _ => none)
  | .arraylength => icN 1 n (match st with | .ref a :: r => lenK (hget h a) (fun z => nx (pc + 1) ls (.int (Int32.ofNat z) :: r) h) | _ => none)
  | .newarray t => icN 2 n (match arT t, st with
    | some k, .int z :: r => if ¬ z < 0 ∧ z.toNatClampNeg ≤ 10000 then nx (pc + 2) ls (.ref h.1 :: r) (hnew h z.toNatClampNeg (.inl (k, z.toNatClampNeg, .inl (fun _ => 0)))) else none
    | _, _ => none)
  | .anewarray k => icN 3 n (match pkG pC (cN f) k, st with
    | some (ci, _), .int z :: r => match anT ci with
      | some t => if ¬ z < 0 ∧ z.toNatClampNeg ≤ 10000 then nx (pc + 3) ls (.ref h.1 :: r) (hnew h z.toNatClampNeg (.inl (t, z.toNatClampNeg, .inr (fun _ => none)))) else none
      | none => none
    | _, _ => none)
  | .new k => icN 3 n (match pkG pC (cN f) k with
    | some (ci, _) => nx (pc + 3) ls (.ref h.1 :: st) (hnew h (nFl.getD ci 0) (.inr (ci, (List.range (nFl.getD ci 0)).map (fun j => dfl (tyXf ci j)))))
    | none => none)
  | .invokevirtual k => icN 3 n (invV f k (pc + 3) ls st h)
  | .invokestatic k => icN 3 n (invS f k (pc + 3) ls st h)
  | .invokespecial k => icN 3 n (invI f k (pc + 3) ls st h)
  | .ireturn => icN 1 n (match st with | [.int x] => retK f x h | _ => none)
  | .lreturn => icN 1 n (match st with | [.long x] => if rT f = some .long then some (.inl (some (.long x), h)) else none | _ => none)
  | .return_ => icN 1 n (match st with | [] => if rT f = none then some (.inl (none, h)) else none | _ => none)
  | _ => none
def act (f pc : Nat) (ls st : List Value) (h : aH) : Option aA := match decode (cd f) pc with
  | .ok (i, n) => actI f pc i n ls st h
  | .error _ => none
/-- n steps at most, calls counted in -/
def arun : Nat → Nat → Nat → List Value → List Value → aH → Option aR
  | 0, _, _, _, _, _ => none
  | n + 1, f, pc, ls, st, h => match act f pc ls st h with
    | none => none
    | some (.inl r) => some r
    | some (.inr (.inl q)) => arun n f q.1 q.2.1 q.2.2.1 q.2.2.2
    | some (.inr (.inr q)) => match arun n q.1.1 0 q.1.2.1 [] q.1.2.2 with
      | none => none
      | some r => arun n f q.2.1 q.2.2.1 (r.1.toList ++ q.2.2.2) r.2
theorem arun_mono : ∀ (n f pc : Nat) (ls st : List Value) (h : aH) (r : aR), arun n f pc ls st h = some r → arun (n + 1) f pc ls st h = some r := by
  intro n
  induction n with
  | zero => intro f pc ls st h r e; cases e
  | succ n ih =>
    intro f pc ls st h r e
    unfold arun at e ⊢
    cases ha : act f pc ls st h with
    | none => rw [ha] at e; cases e
    | some q =>
      rw [ha] at e
      rcases q with q | q | q
      · exact e
      · exact ih _ _ _ _ _ _ e
      · dsimp only at e ⊢
        cases hc : arun n q.1.1 0 q.1.2.1 [] q.1.2.2 with
        | none => rw [hc] at e; cases e
        | some r1 =>
          rw [hc] at e
          rw [ih _ _ _ _ _ _ hc]
          exact ih _ _ _ _ _ _ e
theorem arun_le {n k : Nat} (hk : n ≤ k) {f pc : Nat} {ls st : List Value} {h : aH} {r : aR} (e : arun n f pc ls st h = some r) : arun k f pc ls st h = some r := by
  induction hk with
  | refl => exact e
  | step _ ih => exact arun_mono _ _ _ _ _ _ _ ih
theorem arun_det {n k f pc : Nat} {ls st : List Value} {h : aH} {r r' : aR} (e : arun n f pc ls st h = some r) (e' : arun k f pc ls st h = some r') : r = r' := by
  have h1 := arun_le (Nat.le_max_left n k) e
  have h2 := arun_le (Nat.le_max_right n k) e'
  rw [h1] at h2
  exact Option.some.inj h2
noncomputable def run (f pc : Nat) (ls st : List Value) (h : aH) : Option aR := @dite (Option aR) (∃ (r : aR) (n : Nat), arun n f pc ls st h = some r) (Classical.propDecidable _) (fun hx => some (Classical.choose hx)) (fun _ => none)
theorem run_iff {f pc : Nat} {ls st : List Value} {h : aH} {r : aR} : run f pc ls st h = some r ↔ ∃ n, arun n f pc ls st h = some r := by
  unfold run
  split
  · rename_i hx
    obtain ⟨n, hn⟩ := Classical.choose_spec hx
    constructor
    · intro e
      cases e
      exact ⟨n, hn⟩
    · rintro ⟨k, hk⟩
      rw [arun_det hn hk]
  · rename_i hx
    constructor
    · intro e; cases e
    · rintro ⟨k, hk⟩
      exact absurd ⟨r, k, hk⟩ hx
theorem run_none {f pc : Nat} {ls st : List Value} {h : aH} (hn : ∀ n, arun n f pc ls st h = none) : run f pc ls st h = none := by
  cases e : run f pc ls st h with
  | none => rfl
  | some r =>
    obtain ⟨n, h1⟩ := run_iff.mp e
    rw [hn n] at h1
    cases h1
/-- what a method's call comes to, handed on -/
def bK (x : Option aR) (K : Option Value → aH → Option aR) : Option aR := match x with
  | none => none
  | some r => K r.1 r.2
theorem bK_some (r : aR) (K : Option Value → aH → Option aR) : bK (some r) K = K r.1 r.2 := rfl
theorem run_eq (f pc : Nat) (ls st : List Value) (h : aH) : run f pc ls st h = match act f pc ls st h with
    | none => none
    | some (.inl r) => some r
    | some (.inr (.inl q)) => run f q.1 q.2.1 q.2.2.1 q.2.2.2
    | some (.inr (.inr q)) => bK (run q.1.1 0 q.1.2.1 [] q.1.2.2) (fun v h1 => run f q.2.1 q.2.2.1 (v.toList ++ q.2.2.2) h1) := by
  have key : ∀ n, arun (n + 1) f pc ls st h = match act f pc ls st h with
    | none => none
    | some (.inl r) => some r
    | some (.inr (.inl q)) => arun n f q.1 q.2.1 q.2.2.1 q.2.2.2
    | some (.inr (.inr q)) => match arun n q.1.1 0 q.1.2.1 [] q.1.2.2 with
      | none => none
      | some r => arun n f q.2.1 q.2.2.1 (r.1.toList ++ q.2.2.2) r.2 := fun n => by conv => lhs; unfold arun
  cases ha : act f pc ls st h with
  | none =>
    refine run_none fun n => ?_
    cases n with
    | zero => rfl
    | succ n => rw [key, ha]
  | some q =>
    rw [ha] at key
    rcases q with q | q | q
    · exact run_iff.mpr ⟨1, key 0⟩
    · dsimp only at key ⊢
      cases e : run f q.1 q.2.1 q.2.2.1 q.2.2.2 with
      | some r =>
        obtain ⟨n, hn⟩ := run_iff.mp e
        exact run_iff.mpr ⟨n + 1, by rw [key]; exact hn⟩
      | none =>
        refine run_none fun n => ?_
        cases n with
        | zero => rfl
        | succ n =>
          rw [key]
          cases e2 : arun n f q.1 q.2.1 q.2.2.1 q.2.2.2 with
          | none => rfl
          | some r => rw [run_iff.mpr ⟨n, e2⟩] at e; cases e
    · dsimp only at key ⊢
      cases e : run q.1.1 0 q.1.2.1 [] q.1.2.2 with
      | none =>
        refine run_none fun n => ?_
        cases n with
        | zero => rfl
        | succ n =>
          rw [key]
          cases e2 : arun n q.1.1 0 q.1.2.1 [] q.1.2.2 with
          | none => rfl
          | some r => rw [run_iff.mpr ⟨n, e2⟩] at e; cases e
      | some r1 =>
        obtain ⟨k, hk⟩ := run_iff.mp e
        rw [bK_some]
        cases e3 : run f q.2.1 q.2.2.1 (r1.1.toList ++ q.2.2.2) r1.2 with
        | some r =>
          obtain ⟨n, hn⟩ := run_iff.mp e3
          refine run_iff.mpr ⟨max k n + 1, ?_⟩
          rw [key, arun_le (Nat.le_max_left k n) hk]
          exact arun_le (Nat.le_max_right k n) hn
        | none =>
          refine run_none fun n => ?_
          cases n with
          | zero => rfl
          | succ n =>
            rw [key]
            cases e2 : arun n q.1.1 0 q.1.2.1 [] q.1.2.2 with
            | none => rfl
            | some r =>
              have := arun_det hk e2
              subst this
              dsimp only
              cases e4 : arun n f q.2.1 q.2.2.1 (r1.1.toList ++ q.2.2.2) r1.2 with
              | none => rfl
              | some r => rw [run_iff.mpr ⟨n, e4⟩] at e3; cases e3
end
section
/-! what ties the abstract machine to the machine: locals, heap, what a method may lean on -/
def aCl (ls : List Value) (k : Nat) (v : Value) : Prop := (∃ x, v = .int x ∧ ls[k]? = some v) ∨ (∃ x, v = .ref x ∧ ls[k]? = some v) ∨ (∃ x, v = .long x ∧ ls[k]? = some v ∧ ls[k + 1]? = some (.retAddr 0))
def clm (ls : List Value) : List (Nat × Value) := (List.range ls.length).filterMap (fun (k : Nat) => match ls[k]? with
  | some (.int x) => some (k, .int x)
  | some (.ref x) => some (k, .ref x)
  | some (.long x) => if ls[k + 1]? = some (.retAddr 0) then some (k, .long x) else none
  | _ => none)
theorem mem_clm {ls : List Value} {q : Nat × Value} : q ∈ clm ls ↔ aCl ls q.1 q.2 := by
  obtain ⟨k, v⟩ := q
  unfold clm aCl
  rw [List.mem_filterMap]
  constructor
  · rintro ⟨j, -, h⟩
    split at h
    · rename_i x hx
      cases h
      exact Or.inl ⟨x, rfl, hx⟩
    · rename_i x hx
      cases h
      exact Or.inr (Or.inl ⟨x, rfl, hx⟩)
    · rename_i x hx
      split at h
      · rename_i h2
        cases h
        exact Or.inr (Or.inr ⟨x, rfl, hx, h2⟩)
      · cases h
    · cases h
  · rintro (⟨x, rfl, h⟩ | ⟨x, rfl, h⟩ | ⟨x, rfl, h, h2⟩)
    · exact ⟨k, List.mem_range.mpr (List.getElem?_eq_some_iff.mp h).1, by simp only [h]⟩
    · exact ⟨k, List.mem_range.mpr (List.getElem?_eq_some_iff.mp h).1, by simp only [h]⟩
    · exact ⟨k, List.mem_range.mpr (List.getElem?_eq_some_iff.mp h).1, by simp only [h]; rw [if_pos h2]⟩
def lsR (n : Nat) (ls : List Value) (lsr : Array Slot) : Prop := ls.length = n ∧ lv_has lsr n (clm ls)
theorem lv_mono {lsr : Array Slot} {n : Nat} {l l' : List (Nat × Value)} (h : lv_has lsr n l) (hm : ∀ q ∈ l', q ∈ l) : lv_has lsr n l' := ⟨h.1, h.2.1, fun q hq => h.2.2 q (hm q hq)⟩
theorem lsR.at {n : Nat} {ls : List Value} {lsr : Array Slot} (h : lsR n ls lsr) {k : Nat} {v : Value} (hc : aCl ls k v) : lsr[k]? = some (.val v) := h.2.2.2 (k, v) (mem_clm.mpr hc)
theorem lsR.st1 {n : Nat} {ls : List Value} {lsr : Array Slot} {i : Nat} {v : Value} (hn : ls.length = n) (hi : i < n) (hv : (∃ x, v = .int x) ∨ ∃ x, v = .ref x) (h : lv_has lsr n ((i, v) :: (clm ls).filter (fun q => !(q.1 == i) && !(q.1 + 1 == i && q.2.category == 2)))) : lsR n (ls.set i v) lsr := by
  refine ⟨by rw [List.length_set]; exact hn, lv_mono h ?_⟩
  rintro ⟨k, w⟩ hq
  have hq := mem_clm.mp hq
  dsimp only at hq
  by_cases hk : k = i
  · subst hk
    have e : (ls.set k v)[k]? = some v := List.getElem?_set_self (by omega)
    have : w = v := by
      rcases hq with ⟨x, -, h2⟩ | ⟨x, -, h2⟩ | ⟨x, -, h2, -⟩ <;> exact (Option.some.inj (e.symm.trans h2)).symm
    subst this
    exact List.mem_cons_self
  · have e : (ls.set i v)[k]? = ls[k]? := List.getElem?_set_ne (Ne.symm hk)
    refine List.mem_cons_of_mem _ (List.mem_filter.mpr ?_)
    rcases hq with ⟨x, rfl, h2⟩ | ⟨x, rfl, h2⟩ | ⟨x, rfl, h2, h3⟩
    · rw [e] at h2
      exact ⟨mem_clm.mpr (Or.inl ⟨x, rfl, h2⟩), by simp [hk, Value.category]⟩
    · rw [e] at h2
      exact ⟨mem_clm.mpr (Or.inr (Or.inl ⟨x, rfl, h2⟩)), by simp [hk, Value.category]⟩
    · rw [e] at h2
      have hk1 : ¬ k + 1 = i := by
        intro q
        subst q
        rw [List.getElem?_set_self (by omega)] at h3
        rcases hv with ⟨y, rfl⟩ | ⟨y, rfl⟩ <;> cases h3
      rw [List.getElem?_set_ne (Ne.symm hk1)] at h3
      exact ⟨mem_clm.mpr (Or.inr (Or.inr ⟨x, rfl, h2, h3⟩)), by simp [hk, hk1]⟩
theorem lsR.st2 {n : Nat} {ls : List Value} {lsr : Array Slot} {i : Nat} {z : Int64} (hn : ls.length = n) (hi : i + 1 < n) (h : lv_has lsr n ((i, Value.long z) :: (clm ls).filter (fun q => !(q.1 == i) && (!(q.1 == i + 1) && !(q.1 + 1 == i && q.2.category == 2))))) : lsR n ((ls.set i (.long z)).set (i + 1) (.retAddr 0)) lsr := by
  refine ⟨by rw [List.length_set, List.length_set]; exact hn, lv_mono h ?_⟩
  rintro ⟨k, w⟩ hq
  have hq := mem_clm.mp hq
  dsimp only at hq
  have e1 : ((ls.set i (.long z)).set (i + 1) (.retAddr 0))[i + 1]? = some (.retAddr 0) := List.getElem?_set_self (by rw [List.length_set]; omega)
  have e0 : ((ls.set i (.long z)).set (i + 1) (.retAddr 0))[i]? = some (.long z) := by
    rw [List.getElem?_set_ne (by omega), List.getElem?_set_self (by omega)]
  have en : ∀ j, j ≠ i → j ≠ i + 1 → ((ls.set i (.long z)).set (i + 1) (.retAddr 0))[j]? = ls[j]? := fun j h1 h2 => by
    rw [List.getElem?_set_ne (Ne.symm h2), List.getElem?_set_ne (Ne.symm h1)]
  by_cases hk : k = i
  · subst hk
    have : w = .long z := by
      rcases hq with ⟨x, -, h2⟩ | ⟨x, -, h2⟩ | ⟨x, -, h2, -⟩ <;> exact (Option.some.inj (e0.symm.trans h2)).symm
    subst this
    exact List.mem_cons_self
  · by_cases hk1 : k = i + 1
    · subst hk1
      exfalso
      rcases hq with ⟨x, rfl, h2⟩ | ⟨x, rfl, h2⟩ | ⟨x, rfl, h2, -⟩ <;> (rw [e1] at h2; cases h2)
    · refine List.mem_cons_of_mem _ (List.mem_filter.mpr ?_)
      rcases hq with ⟨x, rfl, h2⟩ | ⟨x, rfl, h2⟩ | ⟨x, rfl, h2, h3⟩
      · rw [en k hk hk1] at h2
        exact ⟨mem_clm.mpr (Or.inl ⟨x, rfl, h2⟩), by simp [hk, hk1, Value.category]⟩
      · rw [en k hk hk1] at h2
        exact ⟨mem_clm.mpr (Or.inr (Or.inl ⟨x, rfl, h2⟩)), by simp [hk, hk1, Value.category]⟩
      · rw [en k hk hk1] at h2
        have hk2 : ¬ k + 1 = i := by
          intro q
          rw [q, e0] at h3
          cases h3
        rw [en (k + 1) hk2 (by omega)] at h3
        exact ⟨mem_clm.mpr (Or.inr (Or.inr ⟨x, rfl, h2, h3⟩)), by simp [hk, hk1, hk2]⟩
theorem aCl_succ {x : Value} {xs : List Value} {k : Nat} {v : Value} (h : aCl (x :: xs) (k + 1) v) : aCl xs k v := by
  rcases h with ⟨y, h1, h2⟩ | ⟨y, h1, h2⟩ | ⟨y, h1, h2, h3⟩
  · exact Or.inl ⟨y, h1, by simpa using h2⟩
  · exact Or.inr (Or.inl ⟨y, h1, by simpa using h2⟩)
  · exact Or.inr (Or.inr ⟨y, h1, by simpa using h2, by simpa using h3⟩)
theorem aCl_head {x : Value} {xs : List Value} {v : Value} (h : aCl (x :: xs) 0 v) : v = x := by
  rcases h with ⟨y, h1, h2⟩ | ⟨y, h1, h2⟩ | ⟨y, h1, h2, h3⟩ <;> simpa using h2.symm
theorem aCl_nulls {m k : Nat} {v : Value} (h : aCl (List.replicate m .null) k v) : False := by
  have key : ∀ w : Value, (List.replicate m Value.null)[k]? = some w → w = .null := fun w hw => (List.mem_replicate.mp (List.mem_of_getElem? hw)).2
  rcases h with ⟨y, rfl, h2⟩ | ⟨y, rfl, h2⟩ | ⟨y, rfl, h2, -⟩ <;> cases key _ h2
theorem aSl_args : ∀ (vs : List Value) (m i k : Nat) (v : Value), aCl (aSl vs ++ List.replicate m .null) k v → (i + k, v) ∈ lv_args i vs := by
  intro vs
  induction vs with
  | nil => intro m i k v h; exact (aCl_nulls (by simpa [aSl] using h)).elim
  | cons v0 vs ih =>
    intro m i k v h
    unfold aSl at h
    unfold lv_args
    by_cases hc : v0.category = 2
    · rw [if_pos hc] at h ⊢
      match k, h with
      | 0, h => rw [aCl_head h]; exact List.mem_cons_self
      | 1, h =>
        have h := aCl_head (aCl_succ h)
        exfalso
        rename_i h0
        rcases h0 with ⟨y, h1, -⟩ | ⟨y, h1, -⟩ | ⟨y, h1, -⟩ <;> rw [h] at h1 <;> cases h1
      | k + 2, h =>
        have := ih m (i + 2) k v (aCl_succ (aCl_succ h))
        rw [show i + (k + 2) = i + 2 + k by omega]
        exact List.mem_cons_of_mem _ this
    · rw [if_neg hc] at h ⊢
      match k, h with
      | 0, h => rw [aCl_head h]; exact List.mem_cons_self
      | k + 1, h =>
        have := ih m (i + 1) k v (aCl_succ h)
        rw [show i + (k + 1) = i + 1 + k by omega]
        exact List.mem_cons_of_mem _ this
theorem lg_aSl (vs : List Value) : (lg_sl vs).length = (aSl vs).length := by
  induction vs with
  | nil => rfl
  | cons v vs ih =>
    unfold aSl lg_sl
    rw [List.flatMap_cons, List.length_append]
    have e : (List.flatMap (fun v => if v.category = 2 then [Slot.val v, .second] else [.val v]) vs).length = (aSl vs).length := ih
    by_cases hc : v.category = 2
    · simp only [hc, if_true, List.length_cons, List.length_nil, e]; omega
    · simp only [hc, if_false, List.length_cons, List.length_nil, e]; omega
theorem lsR.entry {n : Nat} {vs : List Value} (h : (aSl vs).length ≤ n) : lsR n (aEnt n vs) ((lg_sl vs ++ List.replicate (n - (lg_sl vs).length) Slot.unset).toArray) := by
  refine ⟨by simp [aEnt]; omega, lv_mono (lv_entry vs (by rw [lg_aSl]; exact h)) ?_⟩
  rintro ⟨k, v⟩ hq
  have := aSl_args vs _ 0 k v (mem_clm.mp hq)
  simpa using this
/-- the classes of arrays -/
def aTy (K : Nat → ClassId) : List (ClassId × FieldType) := [(K 0, .int), (K 1, .boolean), (K 2, .char), (K 3, .object "CodedRelays$Node"), (K 4, .object "CodedRelays$Link"), (K 5, .object "CodedRelays$Network")]
def toE (K : Nat → ClassId) (c : aC) : va_E := match c with
  | .inl (t, n, .inl f) => .inl (K t, n, .inl f)
  | .inl (t, n, .inr f) => .inl (K t, n, .inr (.inr (.inr (.inr f))))
  | .inr o => .inr o
def isRO (c : aC) : Bool := match c with
  | .inl (t, _) => t == 9
  | .inr _ => false
def aAt (base : Nat) (D : va_G) (K : Nat → ClassId) (U : State) (H : Heap) (a : Nat) (c : aC) : Prop :=
  (isRO c = true ∧ a < base ∧ ∃ n f, c = .inl (9, n, .inl f) ∧ va_X a n f U H) ∨ (isRO c = false ∧ base ≤ a ∧ va_at D vwCl (a, toE K c) H)
def aHp (base : Nat) (D : va_G) (K : Nat → ClassId) (U : State) (h : aH) (H : Heap) : Prop :=
  h.1 = H.size ∧ base ≤ h.1 ∧ ∀ a c, hget h a = some c → aAt base D K U H a c
theorem aAt.kept {base : Nat} {D : va_G} {K : Nat → ClassId} {U : State} {H H1 : Heap} {a : Nat} {c : aC} (h : aAt base D K U H a c) (hq : H1[a]? = H[a]?) : aAt base D K U H1 a c := by
  rcases h with ⟨h1, h2, n, f, h3, h4⟩ | ⟨h1, h2, h3⟩
  · exact Or.inl ⟨h1, h2, n, f, h3, h4.kept hq⟩
  · exact Or.inr ⟨h1, h2, h3.kept hq⟩
theorem aAt.lt {base : Nat} {D : va_G} {K : Nat → ClassId} {U : State} {H : Heap} {a : Nat} {c : aC} (h : aAt base D K U H a c) : a < H.size := by
  rcases h with ⟨h1, h2, n, f, h3, scr, h4, -⟩ | ⟨h1, h2, h3⟩
  · exact (Array.getElem?_eq_some_iff.mp h4).1
  · exact h3.lt
theorem aHp.moved {base : Nat} {D : va_G} {K : Nat → ClassId} {u U : State} {h : aH} {H : Heap} (hvm : u.vm.Alike U.vm) (hh : aHp base D K u h H) : aHp base D K U h H := by
  refine ⟨hh.1, hh.2.1, fun a c hc => ?_⟩
  rcases hh.2.2 a c hc with ⟨h1, h2, n, f, h3, h4⟩ | h1
  · exact Or.inl ⟨h1, h2, n, f, h3, h4.moved hvm⟩
  · exact Or.inr h1
theorem aHp.set {base : Nat} {D : va_G} {K : Nat → ClassId} {U : State} {h : aH} {H H1 : Heap} {a : Nat} {c : aC} (hh : aHp base D K U h H) (z : H1.size = H.size) (oq : ∀ q : Nat, q ≠ a → H1[q]? = H[q]?) (hb : base ≤ a) (hr : isRO c = false) (hc : va_at D vwCl (a, toE K c) H1) : aHp base D K U (hset h a c) H1 := by
  refine ⟨hh.1.trans z.symm, hh.2.1, fun q x hx => ?_⟩
  unfold hset hget at hx
  dsimp only at hx
  by_cases hq : q = a
  · rw [if_pos hq] at hx
    cases hx
    subst hq
    exact Or.inr ⟨hr, hb, hc⟩
  · rw [if_neg hq] at hx
    exact (hh.2.2 q x hx).kept (oq q hq)
theorem aHp.new {base n : Nat} {D : va_G} {K : Nat → ClassId} {U : State} {h : aH} {H H1 : Heap} {c : aC} (hh : aHp base D K U h H) (z : H1.size = H.size + 1) (oq : ∀ q : Nat, q < H.size → H1[q]? = H[q]?) (hr : isRO c = false) (hc : va_at D vwCl (H.size, toE K c) H1) : aHp base D K U (hnew h n c) H1 := by
  refine ⟨by show h.1 + 1 = H1.size; rw [z, hh.1], Nat.le_trans hh.2.1 (Nat.le_succ _), fun q x hx => ?_⟩
  unfold hnew hget at hx
  dsimp only at hx
  by_cases hq : q = h.1
  · rw [if_pos hq] at hx
    cases hx
    rw [hq, hh.1]
    exact Or.inr ⟨hr, by rw [← hh.1]; exact hh.2.1, hc⟩
  · rw [if_neg hq] at hx
    have h1 := hh.2.2 q x hx
    exact h1.kept (oq q h1.lt)
/-- the words that aren't handed on by the kit's way -/
def isNw (w : Cond) : Bool := match w with
  | .fieldLinkNest .. => true
  | .methodLinkNest .. => true
  | .arrayOver (.object _) => true
  | _ => false
def aNw (U : State) : Prop := ∀ w ∈ lw_tbl, isNw w = true → va_Nw w U
theorem aNw.warm {s U : State} (hW : s.WarmedH U.vm) (h : aNw s) : aNw U := by
  intro w hw hn
  have h1 := h w hw hn
  unfold isNw at hn
  split at hn
  · exact va_Nw.warmF hW h1
  · exact va_Nw.warmM hW h1
  · exact va_AO.moved hW.alike h1
  · cases hn
/-- what a method may lean on -/
def aCx (D : va_G) (K : Nat → ClassId) (f : Nat) (p : Program) (R : Room) (s : State) (m : MethodId) (args : Array Value) (meth : Method) (c : Code) : Prop :=
  p.tables.exec = Jvm.exec ∧ c.code = cd f ∧ c.maxLocals = mL f ∧ s.vm.findClass (cS (cN f)) = some m.cls ∧ (∀ w ∈ gwT, w.before args s = true) ∧ aNw s ∧ ((yN f).name = "<init>" → meth.name = "<init>") ∧ va_K D vwCl (aTy K) s ∧ fRm f ≤ R.frames ∧ lRm f ≤ R.locals
def aGo (base : Nat) (D : va_G) (K : Nat → ClassId) (f : Nat) (p : Program) (l : Launch) (e : Env) (R : Room) (s : State) (m : MethodId) (args : Array Value) (below : List Frame) (meth : Method) (c : Code) (Q : State → Prop) (cells slots pc : Nat) (ls st : List Value) (h : aH) : Prop :=
  ∀ (lsr : Array Slot) (H : Heap) (locs : List Loc), lsR (mL f) ls lsr → aHp base D K s h H → va_S (fun q => base ≤ q) s.heap H locs → W p l e R s m args below meth c H locs cells slots Q (F0 m pc lsr st)
/-- a step that makes nothing: h stays; and one that moves the heap -/
def aMv (f pc : Nat) (ls st : List Value) (h : aH) (q : aG) : Prop := h.1 ≤ q.2.2.2.1 ∧ h.2.1 ≤ q.2.2.2.2.1 ∧
  ∀ (base : Nat) (D : va_G) (K : Nat → ClassId) (p : Program) (l : Launch) (e : Env) (R : Room) (s : State) (m : MethodId) (args : Array Value) (below : List Frame) (meth : Method) (c : Code) (Q : State → Prop) (cells slots : Nat), aCx D K f p R s m args meth c → base ≤ s.heap.size → cells + (q.2.2.2.1 - h.1) ≤ R.cells → slots + (q.2.2.2.2.1 - h.2.1) ≤ R.slots →
    aGo base D K f p l e R s m args below meth c Q (cells + (q.2.2.2.1 - h.1)) (slots + (q.2.2.2.2.1 - h.2.1)) q.1 q.2.1 q.2.2.1 q.2.2.2 → aGo base D K f p l e R s m args below meth c Q cells slots pc ls st h
theorem aMv_p {f pc pc' : Nat} {ls st st' : List Value} {h : aH} (k : ∀ (base : Nat) (D : va_G) (K : Nat → ClassId) (p : Program) (l : Launch) (e : Env) (R : Room) (s : State) (m : MethodId) (args : Array Value) (below : List Frame) (meth : Method) (c : Code) (Q : State → Prop) (cells slots : Nat) (lsr : Array Slot) (H : Heap) (locs : List Loc), aCx D K f p R s m args meth c → lsR (mL f) ls lsr → aHp base D K s h H → W p l e R s m args below meth c H locs cells slots Q (F0 m pc' lsr st') → W p l e R s m args below meth c H locs cells slots Q (F0 m pc lsr st)) : aMv f pc ls st h (pc', ls, st', h) := by
  refine ⟨Nat.le_refl _, Nat.le_refl _, fun base D K p l e R s m args below meth c Q cells slots cx hbs _ _ kk lsr H locs hl hh hS => ?_⟩
  have h1 := kk lsr H locs hl hh hS
  dsimp only at h1
  rw [Nat.sub_self, Nat.sub_self, Nat.add_zero, Nat.add_zero] at h1
  exact k base D K p l e R s m args below meth c Q cells slots lsr H locs cx hl hh h1
theorem aMv_l {f pc pc' : Nat} {ls ls' st st' : List Value} {h : aH} (k : ∀ (base : Nat) (D : va_G) (K : Nat → ClassId) (p : Program) (l : Launch) (e : Env) (R : Room) (s : State) (m : MethodId) (args : Array Value) (below : List Frame) (meth : Method) (c : Code) (Q : State → Prop) (cells slots : Nat) (lsr : Array Slot) (H : Heap) (locs : List Loc), aCx D K f p R s m args meth c → lsR (mL f) ls lsr → aHp base D K s h H → (∀ lsr', lsR (mL f) ls' lsr' → W p l e R s m args below meth c H locs cells slots Q (F0 m pc' lsr' st')) → W p l e R s m args below meth c H locs cells slots Q (F0 m pc lsr st)) : aMv f pc ls st h (pc', ls', st', h) := by
  refine ⟨Nat.le_refl _, Nat.le_refl _, fun base D K p l e R s m args below meth c Q cells slots cx hbs _ _ kk lsr H locs hl hh hS => ?_⟩
  refine k base D K p l e R s m args below meth c Q cells slots lsr H locs cx hl hh fun lsr' hl' => ?_
  have h1 := kk lsr' H locs hl' hh hS
  dsimp only at h1
  rw [Nat.sub_self, Nat.sub_self, Nat.add_zero, Nat.add_zero] at h1
  exact h1
theorem aMv_h {f pc pc' : Nat} {ls st st' : List Value} {h h' : aH} (e1 : h'.1 = h.1) (e2 : h'.2.1 = h.2.1) (k : ∀ (base : Nat) (D : va_G) (K : Nat → ClassId) (p : Program) (l : Launch) (e : Env) (R : Room) (s : State) (m : MethodId) (args : Array Value) (below : List Frame) (meth : Method) (c : Code) (Q : State → Prop) (cells slots : Nat) (lsr : Array Slot) (H : Heap) (locs : List Loc), aCx D K f p R s m args meth c → lsR (mL f) ls lsr → aHp base D K s h H → va_S (fun q => base ≤ q) s.heap H locs → (∀ H1 locs1, aHp base D K s h' H1 → va_S (fun q => base ≤ q) s.heap H1 locs1 → W p l e R s m args below meth c H1 locs1 cells slots Q (F0 m pc' lsr st')) → W p l e R s m args below meth c H locs cells slots Q (F0 m pc lsr st)) : aMv f pc ls st h (pc', ls, st', h') := by
  refine ⟨by rw [e1]; exact Nat.le_refl _, by rw [e2]; exact Nat.le_refl _, fun base D K p l e R s m args below meth c Q cells slots cx hbs _ _ kk lsr H locs hl hh hS => ?_⟩
  refine k base D K p l e R s m args below meth c Q cells slots lsr H locs cx hl hh hS fun H1 locs1 hh1 hS1 => ?_
  have h1 := kk lsr H1 locs1 hl hh1 hS1
  dsimp only at h1
  rw [e1, e2, Nat.sub_self, Nat.sub_self, Nat.add_zero, Nat.add_zero] at h1
  exact h1
theorem pkG_mem {α : Type} {l : List ((Nat × Nat) × α × Nat)} {c i : Nat} {x : α} (h : pkG l c i = some x) : ∃ pl, ((c, i), x, pl) ∈ l := by
  unfold pkG at h
  cases hf : l.find? (fun q => q.1.1 == c && q.1.2 == i) with
  | none => rw [hf] at h; cases h
  | some q =>
    rw [hf] at h
    have h1 := List.find?_some hf
    have h2 := List.mem_of_find?_eq_some hf
    obtain ⟨⟨a, b⟩, y, pl⟩ := q
    simp only [Bool.and_eq_true, beq_iff_eq] at h1
    obtain ⟨rfl, rfl⟩ := h1
    cases h
    exact ⟨pl, h2⟩
theorem clAt {ci : Nat} (h : ci < 8) : vwCl[ci]? = some (cS ci, TXf ci, nFl.getD ci 0) := by
  match ci, h with
  | 0, _ => rfl
  | 1, _ => rfl
  | 2, _ => rfl
  | 3, _ => rfl
  | 4, _ => rfl
  | 5, _ => rfl
  | 6, _ => rfl
  | 7, _ => rfl
theorem clTy {ci : Nat} (h : ci < 8) : ∀ k, k < nFl.getD ci 0 → parseFieldDescriptor (TXf ci k).2.2.1 = some (tyXf ci k) := by
  match ci, h with
  | 0, _ => exact tyX0_ok
  | 1, _ => exact tyX1_ok
  | 2, _ => exact tyX2_ok
  | 3, _ => exact tyX3_ok
  | 4, _ => exact tyX4_ok
  | 5, _ => exact tyX5_ok
  | 6, _ => exact tyX6_ok
  | 7, _ => exact tyX7_ok
theorem clNm {ci : Nat} (h : ci < 8) : ∀ a, a < nFl.getD ci 0 → ∀ b, b < nFl.getD ci 0 → a ≠ b → (TXf ci a).2.1 ≠ (TXf ci b).2.1 := by
  match ci, h with
  | 0, _ => exact nmX0
  | 1, _ => exact nmX1
  | 2, _ => exact nmX2
  | 3, _ => exact nmX3
  | 4, _ => exact nmX4
  | 5, _ => exact nmX5
  | 6, _ => exact nmX6
  | 7, _ => exact nmX7
theorem clDecl {ci : Nat} (h : ci < 8) (k : Nat) : (TXf ci k).1 = cS ci := by
  match ci, h with
  | 0, _ => show (TX0 k).1 = _; unfold TX0; split <;> rfl
  | 1, _ => show (TX1 k).1 = _; unfold TX1; split <;> rfl
  | 2, _ => show (TX2 k).1 = _; unfold TX2; split <;> rfl
  | 3, _ => show (TX3 k).1 = _; unfold TX3; split <;> rfl
  | 4, _ => show (TX4 k).1 = _; unfold TX4; split <;> rfl
  | 5, _ => show (TX5 k).1 = _; unfold TX5; split <;> rfl
  | 6, _ => show (TX6 k).1 = _; unfold TX6; split <;> rfl
  | 7, _ => show (TX7 k).1 = _; unfold TX7; split <;> rfl
theorem clK {ci : Nat} (h : ci < 8) : Cond.initialized (cS ci) ∈ gwT ∧ Cond.instantiable (cS ci) (nFl.getD ci 0) ∈ gwT ∧ ∀ w ∈ u_ws (cS ci) (TXf ci) (nFl.getD ci 0), w ∈ gwT := by
  have h1 := List.all_eq_true.mp chK_ok ci (List.mem_range.mpr h)
  unfold chK at h1
  simp only [Bool.and_eq_true] at h1
  refine ⟨wAt_good h1.1.1 rfl, wAt_good h1.1.2 rfl, fun w hw => ?_⟩
  obtain ⟨k, hk, rfl⟩ := List.mem_map.mp hw
  refine wAt_good (List.all_eq_true.mp h1.2 k hk) ?_
  unfold u_lay
  split <;> rfl
end
section
/-! each instruction of the abstract machine is the machine's -/
def aRet (f pc : Nat) (v : Option Value) : Prop := (decode (cd f) pc = .ok (.ireturn, 1) ∧ ∃ x, v = some (.int x) ∧ (rT f = some .int ∨ (rT f = some .boolean ∧ (x = 0 ∨ x = 1)))) ∨ (decode (cd f) pc = .ok (.lreturn, 1) ∧ rT f = some .long ∧ ∃ x, v = some (.long x)) ∨ (decode (cd f) pc = .ok (.return_, 1) ∧ rT f = none ∧ v = none)
def wsO (g : Nat) : List Cond := Cond.code (yN g) (cd g) (mL g) (rT g) :: gwT
/-- a call: whoever has the callee's contract can run it here -/
def aCall (f pc : Nat) (st : List Value) (h : aH) (g : Nat) (vs rest : List Value) : Prop :=
  ∀ (base : Nat) (D : va_G) (K : Nat → ClassId) (p : Program) (l : Launch) (e : Env) (R : Room) (s : State) (m : MethodId) (args : Array Value) (below : List Frame) (meth : Method) (c : Code) (cells slots : Nat) (lsr : Array Slot) (H : Heap) (locs : List Loc) (mc ms : Nat) (Pc : Array Value → State → Prop) (Qc : Array Value → State → Outcome → State → Prop) (free : Addr → Prop),
    aCx D K f p R s m args meth c → lsr.size = mL f → aHp base D K s h H → Met l (yN g) (wsO g) { frames := fRm g, cells := mc, slots := ms, locals := lRm g } Pc Qc mc ms free → FrameBlind Pc → (∀ U : State, U.heap = H → s.WarmedH U.vm → Pc vs.toArray U) → (cells + mc ≤ R.cells ∧ slots + ms ≤ R.slots) →
    va_Run p l e R s m args below meth c H locs cells slots mc ms (F0 m pc lsr st) rest (Qc vs.toArray) free
def aOK (f pc : Nat) (ls st : List Value) (h : aH) (a : aA) : Prop := match a with
  | .inl r => r.2 = h ∧ st = r.1.toList ∧ aRet f pc r.1
  | .inr (.inl q) => aMv f pc ls st h q
  | .inr (.inr q) => ∃ vs, q.1.1 < 189 ∧ q.1.2.1 = aEnt (mL q.1.1) vs ∧ q.1.2.2 = h ∧ q.2.1 = pc + 3 ∧ q.2.2.1 = ls ∧ (aSl vs).length ≤ mL q.1.1 ∧ aCall f pc st h q.1.1 vs q.2.2.2
theorem icN_some {k n : Nat} {x : Option aA} {a : aA} (h : icN k n x = some a) : n = k ∧ x = some a := by
  unfold icN at h
  split at h
  · rename_i e; exact ⟨e, h⟩
  · cases h
theorem nx_some {pc : Nat} {ls st : List Value} {h : aH} {a : aA} (e : nx pc ls st h = some a) : a = .inr (.inl (pc, ls, st, h)) := (Option.some.inj e).symm
section So
variable {f pc : Nat} {ls st : List Value} {h : aH} {a : aA}
theorem so_ldI {i : Instr} {n k pc' : Nat} (hd : decode (cd f) pc = .ok (i, n)) (hi : (∃ j : Fin 4, i = .iload_n j ∧ (j : Nat) = k ∧ n = 1 ∧ pc' = pc + 1) ∨ (i = .iload k ∧ n = 2 ∧ pc' = pc + 2)) (e : ldI k pc' ls st h = some a) : aOK f pc ls st h a := by
  unfold ldI at e
  split at e
  · rename_i x hx
    cases nx_some e
    refine aMv_p fun base D K p l e R s m args below meth c Q cells slots lsr H locs cx hl hh kk => ?_
    have h1 := hl.at (Or.inl ⟨x, rfl, hx⟩)
    rcases hi with ⟨j, rfl, hj, rfl, rfl⟩ | ⟨rfl, rfl, rfl⟩
    · exact lv_iload_n cx.1 cx.2.1 hd hj h1 kk
    · exact lv_iload cx.1 cx.2.1 hd h1 kk
  · cases e
theorem so_ldA {i : Instr} {n k pc' : Nat} (hd : decode (cd f) pc = .ok (i, n)) (hi : (∃ j : Fin 4, i = .aload_n j ∧ (j : Nat) = k ∧ n = 1 ∧ pc' = pc + 1) ∨ (i = .aload k ∧ n = 2 ∧ pc' = pc + 2)) (e : ldA k pc' ls st h = some a) : aOK f pc ls st h a := by
  unfold ldA at e
  split at e
  · rename_i x hx
    cases nx_some e
    refine aMv_p fun base D K p l e R s m args below meth c Q cells slots lsr H locs cx hl hh kk => ?_
    have h1 := hl.at (Or.inr (Or.inl ⟨x, rfl, hx⟩))
    rcases hi with ⟨j, rfl, hj, rfl, rfl⟩ | ⟨rfl, rfl, rfl⟩
    · exact lv_aload_n cx.1 cx.2.1 hd hj h1 kk
    · exact lv_aload cx.1 cx.2.1 hd h1 kk
  · cases e
theorem so_ldL {k : Fin 4} (hd : decode (cd f) pc = .ok (.lload_n k, 1)) (e : ldL (k : Nat) (pc + 1) ls st h = some a) : aOK f pc ls st h a := by
  unfold ldL at e
  split at e
  · rename_i x hx h2
    cases nx_some e
    refine aMv_p fun base D K p l e R s m args below meth c Q cells slots lsr H locs cx hl hh kk => ?_
    exact lv_lload_n cx.1 cx.2.1 hd rfl (hl.at (Or.inr (Or.inr ⟨x, rfl, hx, h2⟩))) kk
  · cases e
theorem so_stI {i : Instr} {n k pc' : Nat} (hd : decode (cd f) pc = .ok (i, n)) (hi : (∃ j : Fin 4, i = .istore_n j ∧ (j : Nat) = k ∧ n = 1 ∧ pc' = pc + 1) ∨ (i = .istore k ∧ n = 2 ∧ pc' = pc + 2)) (e : stI k pc' ls st h = some a) : aOK f pc ls st h a := by
  unfold stI at e
  split at e
  · rename_i x r
    split at e
    · rename_i hk
      cases nx_some e
      refine aMv_l fun base D K p l e R s m args below meth c Q cells slots lsr H locs cx hl hh kk => ?_
      have hk2 : k < mL f := by rw [← hl.1]; exact hk
      rcases hi with ⟨j, rfl, hj, rfl, rfl⟩ | ⟨rfl, rfl, rfl⟩
      · exact lv_istore_n cx.1 cx.2.1 hd hj hl.2 hk2 rfl fun ls' hl' => kk ls' (lsR.st1 hl.1 hk2 (Or.inl ⟨x, rfl⟩) hl')
      · exact lv_istore cx.1 cx.2.1 hd hl.2 hk2 rfl fun ls' hl' => kk ls' (lsR.st1 hl.1 hk2 (Or.inl ⟨x, rfl⟩) hl')
    · cases e
  · cases e
theorem so_stA {i : Instr} {n k pc' : Nat} (hd : decode (cd f) pc = .ok (i, n)) (hi : (∃ j : Fin 4, i = .astore_n j ∧ (j : Nat) = k ∧ n = 1 ∧ pc' = pc + 1) ∨ (i = .astore k ∧ n = 2 ∧ pc' = pc + 2)) (e : stA k pc' ls st h = some a) : aOK f pc ls st h a := by
  unfold stA at e
  split at e
  · rename_i x r
    split at e
    · rename_i hk
      cases nx_some e
      refine aMv_l fun base D K p l e R s m args below meth c Q cells slots lsr H locs cx hl hh kk => ?_
      have hk2 : k < mL f := by rw [← hl.1]; exact hk
      rcases hi with ⟨j, rfl, hj, rfl, rfl⟩ | ⟨rfl, rfl, rfl⟩
      · exact lv_astore_n cx.1 cx.2.1 hd hj hl.2 hk2 rfl fun ls' hl' => kk ls' (lsR.st1 hl.1 hk2 (Or.inr ⟨x, rfl⟩) hl')
      · exact lv_astore cx.1 cx.2.1 hd hl.2 hk2 rfl fun ls' hl' => kk ls' (lsR.st1 hl.1 hk2 (Or.inr ⟨x, rfl⟩) hl')
    · cases e
  · cases e
theorem so_stL {k : Fin 4} (hd : decode (cd f) pc = .ok (.lstore_n k, 1)) (e : stL (k : Nat) (pc + 1) ls st h = some a) : aOK f pc ls st h a := by
  unfold stL at e
  split at e
  · rename_i x r
    split at e
    · rename_i hk
      cases nx_some e
      refine aMv_l fun base D K p l e R s m args below meth c Q cells slots lsr H locs cx hl hh kk => ?_
      have hk2 : (k : Nat) + 1 < mL f := by rw [← hl.1]; exact hk
      exact lv_lstore_n cx.1 cx.2.1 hd rfl hl.2 hk2 rfl fun ls' hl' => kk ls' (lsR.st2 hl.1 hk2 hl')
    · cases e
  · cases e
theorem so_iinc {k : Nat} {z : Int} (hd : decode (cd f) pc = .ok (.iinc k z, 3)) (e : (match ls[k]? with | some (.int x) => nx (pc + 3) (ls.set k (.int (x + Int32.ofInt z))) st h | _ => none) = some a) : aOK f pc ls st h a := by
  split at e
  · rename_i x hx
    cases nx_some e
    refine aMv_l fun base D K p l e R s m args below meth c Q cells slots lsr H locs cx hl hh kk => ?_
    have hk2 : k < mL f := by rw [← hl.1]; exact (List.getElem?_eq_some_iff.mp hx).1
    obtain ⟨j, hj⟩ := List.getElem?_of_mem (mem_clm.mpr (Or.inl ⟨x, rfl, hx⟩ : aCl ls (k, Value.int x).1 (k, Value.int x).2))
    exact lv_iinc cx.1 cx.2.1 hd hl.2 hj rfl hk2 rfl fun ls' hl' => kk ls' (lsR.st1 hl.1 hk2 (Or.inl ⟨_, rfl⟩) hl')
  · cases e
theorem op2I_some {fn : Int32 → Int32 → Option Int32} (e : op2I fn pc ls st h = some a) : ∃ x y r z, st = .int y :: .int x :: r ∧ fn x y = some z ∧ a = .inr (.inl (pc + 1, ls, .int z :: r, h)) := by
  unfold op2I at e
  split at e
  · split at e
    · rename_i hz
      exact ⟨_, _, _, _, rfl, hz, nx_some e⟩
    · cases e
  · cases e
theorem op2L_some {fn : Int64 → Int64 → Option Int64} (e : op2L fn pc ls st h = some a) : ∃ x y r z, st = .long y :: .long x :: r ∧ fn x y = some z ∧ a = .inr (.inl (pc + 1, ls, .long z :: r, h)) := by
  unfold op2L at e
  split at e
  · split at e
    · rename_i hz
      exact ⟨_, _, _, _, rfl, hz, nx_some e⟩
    · cases e
  · cases e
theorem so_jmp {off : Int} {st' : List Value} (k : ∀ (base : Nat) (D : va_G) (K : Nat → ClassId) (p : Program) (l : Launch) (e : Env) (R : Room) (s : State) (m : MethodId) (args : Array Value) (below : List Frame) (meth : Method) (c : Code) (Q : State → Prop) (cells slots : Nat) (lsr : Array Slot) (H : Heap) (locs : List Loc) (tgt : Nat), (pc : Int) + off = (tgt : Int) → aCx D K f p R s m args meth c → W p l e R s m args below meth c H locs cells slots Q (F0 m tgt lsr st') → W p l e R s m args below meth c H locs cells slots Q (F0 m pc lsr st)) (e : jmp pc off ls st' h = some a) : aOK f pc ls st h a := by
  unfold jmp at e
  split at e
  · rename_i h0
    cases nx_some e
    exact aMv_p fun base D K p l e R s m args below meth c Q cells slots lsr H locs cx hl hh kk => k base D K p l e R s m args below meth c Q cells slots lsr H locs _ (Int.toNat_of_nonneg h0).symm cx kk
  · cases e
theorem so_br {off : Int} {b : Bool} {st' : List Value} (k : ∀ (base : Nat) (D : va_G) (K : Nat → ClassId) (p : Program) (l : Launch) (e : Env) (R : Room) (s : State) (m : MethodId) (args : Array Value) (below : List Frame) (meth : Method) (c : Code) (Q : State → Prop) (cells slots : Nat) (lsr : Array Slot) (H : Heap) (locs : List Loc) (tgt : Nat), (pc : Int) + off = (tgt : Int) → aCx D K f p R s m args meth c → (b = true → W p l e R s m args below meth c H locs cells slots Q (F0 m tgt lsr st')) → (b = false → W p l e R s m args below meth c H locs cells slots Q (F0 m (pc + 3) lsr st')) → W p l e R s m args below meth c H locs cells slots Q (F0 m pc lsr st)) (e : br b pc off ls st' h = some a) : aOK f pc ls st h a := by
  unfold br at e
  split at e
  · rename_i h0
    split at e
    · rename_i hb
      cases nx_some e
      exact aMv_p fun base D K p l e R s m args below meth c Q cells slots lsr H locs cx hl hh kk => k base D K p l e R s m args below meth c Q cells slots lsr H locs _ (Int.toNat_of_nonneg h0).symm cx (fun _ => kk) (fun z => by rw [hb] at z; cases z)
    · rename_i hb
      cases nx_some e
      exact aMv_p fun base D K p l e R s m args below meth c Q cells slots lsr H locs cx hl hh kk => k base D K p l e R s m args below meth c Q cells slots lsr H locs _ (Int.toNat_of_nonneg h0).symm cx (fun z => absurd z hb) (fun _ => kk)
  · cases e
theorem so_icmp {cnd : Jvm.ClassFile.Cond} {off : Int} {x y : Int32} {r : List Value} (hd : decode (cd f) pc = .ok (.if_icmp cnd off, 3)) (e : br (cmpI cnd x y) pc off ls r h = some a) : aOK f pc ls (.int y :: .int x :: r) h a := by
  refine so_br (fun base D K p l e R s m args below meth c Q cells slots lsr H locs tgt ht cx kt kf => ?_) e
  cases cnd
  · exact lv_icmp_eq cx.1 cx.2.1 hd ht (fun z => kt (by simpa [cmpI] using z)) (fun z => kf (by simpa [cmpI] using z))
  · exact lv_icmp_ne cx.1 cx.2.1 hd ht (fun z => kt (by simpa [cmpI] using z)) (fun z => kf (by simpa [cmpI] using z))
  · exact lv_icmp_lt cx.1 cx.2.1 hd ht (fun z => kt (by simpa [cmpI] using z)) (fun z => kf (by simpa [cmpI] using z))
  · exact lv_icmp_ge cx.1 cx.2.1 hd ht (fun z => kt (by simpa [cmpI] using z)) (fun z => kf (by simpa [cmpI] using z))
  · exact lv_icmp_gt cx.1 cx.2.1 hd ht (fun z => kt (by simpa [cmpI] using z)) (fun z => kf (by simpa [cmpI] using z))
  · exact lv_icmp_le cx.1 cx.2.1 hd ht (fun z => kt (by simpa [cmpI] using z)) (fun z => kf (by simpa [cmpI] using z))
theorem so_ifc {cnd : Jvm.ClassFile.Cond} {off : Int} {x : Int32} {r : List Value} (hd : decode (cd f) pc = .ok (.ifCond cnd off, 3)) (e : br (cmpI cnd x 0) pc off ls r h = some a) : aOK f pc ls (.int x :: r) h a := by
  refine so_br (fun base D K p l e R s m args below meth c Q cells slots lsr H locs tgt ht cx kt kf => ?_) e
  cases cnd
  · exact lv_if_eq cx.1 cx.2.1 hd ht (fun z => kt (by simpa [cmpI] using z)) (fun z => kf (by simpa [cmpI] using z))
  · exact lv_if_ne cx.1 cx.2.1 hd ht (fun z => kt (by simpa [cmpI] using z)) (fun z => kf (by simpa [cmpI] using z))
  · exact lv_if_lt cx.1 cx.2.1 hd ht (fun z => kt (by simpa [cmpI] using z)) (fun z => kf (by simpa [cmpI] using z))
  · exact lv_if_ge cx.1 cx.2.1 hd ht (fun z => kt (by simpa [cmpI] using z)) (fun z => kf (by simpa [cmpI] using z))
  · exact lv_if_gt cx.1 cx.2.1 hd ht (fun z => kt (by simpa [cmpI] using z)) (fun z => kf (by simpa [cmpI] using z))
  · exact lv_if_le cx.1 cx.2.1 hd ht (fun z => kt (by simpa [cmpI] using z)) (fun z => kf (by simpa [cmpI] using z))
end So
end
section
/-! the instructions that read and write the heap, and that make cells -/
theorem chN_ok : pF.all (fun q => decide (q.1.1 ≠ q.2.1.1) || wAt q.2.2 (.fieldLink (cS q.1.1) q.1.2 (TXf q.2.1.1 q.2.1.2).1 (TXf q.2.1.1 q.2.1.2).2.1 (TXf q.2.1.1 q.2.1.2).2.2.1)) = true := by decide +kernel
theorem pF_ok {c i ci j : Nat} (h : pkG pF c i = some (ci, j)) : ci < 8 ∧ j < nFl.getD ci 0 ∧ (Cond.fieldLink (cS c) i (TXf ci j).1 (TXf ci j).2.1 (TXf ci j).2.2.1 ∈ gwT ∨ (c ≠ ci ∧ Cond.fieldLinkNest (cS c) i (TXf ci j).1 (TXf ci j).2.1 (TXf ci j).2.2.1 "CodedRelays" ∈ lw_tbl)) := by
  obtain ⟨pl, hm⟩ := pkG_mem h
  have h1 := List.all_eq_true.mp chF_ok _ hm
  have h2 := List.all_eq_true.mp chN_ok _ hm
  unfold chF at h1
  simp only [Bool.and_eq_true, Bool.or_eq_true, decide_eq_true_eq] at h1 h2
  refine ⟨h1.1.1, h1.1.2, ?_⟩
  rcases h2 with h2 | h2
  · rcases h1.2 with h3 | h3
    · exact Or.inl (wAt_good h3 rfl)
    · exact Or.inr ⟨h2, wAt_mem h3⟩
  · exact Or.inl (wAt_good h2 rfl)
theorem va_P.one {D : va_G} {cl : List vw_C} {q : Nat × va_E} {H : Heap} (h : va_at D cl q H) : va_P D cl [q] H := by
  intro k x hx
  match k, hx with
  | 0, hx => cases hx; exact h
  | k + 1, hx => simp at hx
theorem aAt.cell {base : Nat} {D : va_G} {K : Nat → ClassId} {U : State} {H : Heap} {a : Nat} {c : aC} (h : aAt base D K U H a c) (hr : isRO c = false) : base ≤ a ∧ va_at D vwCl (a, toE K c) H := by
  rcases h with ⟨h1, -⟩ | ⟨-, h2, h3⟩
  · rw [hr] at h1; cases h1
  · exact ⟨h2, h3⟩
section So2
variable {f pc : Nat} {ls st : List Value} {h : aH} {a : aA}
theorem so_get {k ci j b : Nat} {r : List Value} (hd : decode (cd f) pc = .ok (.getfield k, 3)) (hp : pkG pF (cN f) k = some (ci, j)) (e : gfK ci j (hget h b) (fun v => nx (pc + 3) ls (v :: r) h) = some a) : aOK f pc ls (.ref b :: r) h a := by
  obtain ⟨h8, hj, hlk⟩ := pF_ok hp
  unfold gfK at e
  split at e
  · rename_i c' fs hg
    split at e
    · rename_i hcc
      subst hcc
      split at e
      · rename_i v hv
        cases nx_some e
        refine aMv_p fun base D K p l e R s m args below meth c Q cells slots lsr H locs cx hl hh kk => ?_
        obtain ⟨hx, hb, hml, hown, hts, hnw, hin, hK, -⟩ := cx
        have hP := va_P.one ((hh.2.2 b _ hg).cell rfl).2
        rcases hlk with hlk | ⟨-, hlk⟩
        · exact va_get hx hb hts (clK h8).2.2 hown hK hP 0 rfl (clAt h8) j hj (hts _ hlk) (fun _ z => z) hv hd kk
        · exact va_getN hx hb hts (clK h8).2.2 hown hK hP 0 rfl (clAt h8) j hj (va_Nw.use rfl (hnw _ hlk rfl)) (fun _ z => z) hv hd kk
      · cases e
    · cases e
  · cases e
theorem so_put {k ci j b : Nat} {v : Value} {r : List Value} (hd : decode (cd f) pc = .ok (.putfield k, 3)) (hp : pkG pF (cN f) k = some (ci, j)) (hfin : (TXf ci j).2.2.2 = false ∨ ((yN f).name = "<init>" ∧ ci = cN f ∧ cN f < 8)) (e : pfK ci j (hget h b) v (fun c => nx (pc + 3) ls r (hset h b c)) = some a) : aOK f pc ls (v :: .ref b :: r) h a := by
  obtain ⟨h8, hj, hlk⟩ := pF_ok hp
  unfold pfK at e
  split at e
  · rename_i c' fs hg
    split at e
    · rename_i hcc
      obtain ⟨rfl, hlen, hn, hfit⟩ := hcc
      cases nx_some e
      refine aMv_h rfl rfl fun base D K p l e R s m args below meth c Q cells slots lsr H locs cx hl hh hS kk => ?_
      obtain ⟨hx, hb, hml, hown, hts, hnw, hnm, hK, -⟩ := cx
      obtain ⟨hba, hat⟩ := (hh.2.2 b _ hg).cell rfl
      have hin := (clK h8).2.2
      have hc := clAt h8
      have hap := va_apart (own := cS (cN f)) hts hin (tyXf c') (clTy h8) (clNm h8) hK hc
      obtain ⟨r', h1, cell, q1, q2, q3, q4⟩ := hat
      have hr : r' = (cS c', TXf c', nFl.getD c' 0) := Option.some.inj (h1.symm.trans hc)
      subst hr
      obtain ⟨hSl, hfc, kC, hkC, hkind⟩ := hK.1 c' _ hc
      obtain ⟨cf, kf, fi, fd, hi, hsl⟩ := hSl j hj
      have hlay := hts _ (hin _ (u_in_lay hj))
      have hst := (u_facts hfc hkC (u_lays hts hin hj) hi).1
      have fin : ∀ H' : Heap, H'[b]? = some (cell.setSlot fd.slot v) → H'.size = H.size → (∀ q, q ≠ b → H'[q]? = H[q]?) → W p l e R s m args below meth c H' (locs ++ [⟨b, fd.slot⟩]) cells slots Q (F0 m (pc + 3) lsr r) := by
        intro H' e1 e2 e3
        rw [hsl] at e1
        refine kk H' _ (hh.set e2 e3 hba rfl ⟨_, hc, t_OB.to (V := updV (vp_V fs) j v) ⟨_, e1, q2, q3, t_set q4 hap hj v⟩ (fun i _ => vp_updV_set hlen v i)⟩) (hS.put e2 e3 hba)
      unfold u_lay at hlay
      by_cases hff : (TXf c' j).2.2.2 = true
      · rcases hfin with hf2 | ⟨hf2, hf3, hf4⟩
        · rw [hff] at hf2; cases hf2
        · rw [if_pos hff] at hlay
          rcases hlk with hlk | ⟨hlk, -⟩
          · have hcf : m.cls = cf := by
              obtain ⟨_, _, c2, _, _, _, -, -, hf', -, -, -, hown2, -⟩ := Cond.laysFinal_spec hlay
              have e1 : c2 = cf := by have := hi.symm.trans hf'; simp at this; exact this.1.symm
              rw [clDecl h8 j, hf3] at hown2
              rw [← e1]; exact Option.some.inj (hown.symm.trans hown2)
            have h6 := u_fits hfc hkC hkind (Or.inr hlay) hi (clTy h8 j hj) hn hfit
            exact W.putFinK hx hb hown (hts _ hlk) hi hst hcf (hnm hf2) (by rw [q2]; exact h6) q1 q3 (by rw [hsl]; exact k2_hasslot (q4 j hj)) rfl rfl hd fin
          · exact absurd hf3.symm hlk
      · rw [if_neg hff] at hlay
        have h6 := u_store hfc hkC hkind hlay hi (clTy h8 j hj) hn hfit
        rcases hlk with hlk | ⟨-, hlk⟩
        · exact W.putK hx hb (f := fd) ⟨hown, hts _ hlk, ⟨_, _, _, hi⟩, hst⟩ (by rw [q2]; exact h6) q1 q3 (by rw [hsl]; exact k2_hasslot (q4 j hj)) rfl rfl hd fin
        · exact va_WputK hx hb (f := fd) hown (va_Nw.use rfl (hnw _ hlk rfl)) hi hst (by rw [q2]; exact h6) q1 q3 (by rw [hsl]; exact k2_hasslot (q4 j hj)) rfl rfl hd fin
    · cases e
  · cases e
theorem so_iald {i : Int32} {b : Nat} {r : List Value} (hd : decode (cd f) pc = .ok (.iaload, 1)) (e : alK i (hget h b) (fun t => t == 0 || t == 9) (fun x => nx (pc + 1) ls (.int x :: r) h) = some a) : aOK f pc ls (.int i :: .ref b :: r) h a := by
  unfold alK at e
  split at e
  · rename_i t n g hg
    split at e
    · rename_i hc
      cases nx_some e
      refine aMv_p fun base D K p l e R s m args below meth c Q cells slots lsr H locs cx hl hh kk => ?_
      obtain ⟨ht, hin⟩ := hc
      simp only [Bool.or_eq_true, beq_iff_eq] at ht
      rcases ht with rfl | rfl
      · exact va_iald cx.1 cx.2.1 cx.2.2.2.2.2.2.2.1 (va_P.one ((hh.2.2 b _ hg).cell rfl).2) 0 0 rfl rfl hin hd kk
      · rcases hh.2.2 b _ hg with ⟨-, -, n', g', he, scr, h1, h2, h3, h4, h5⟩ | ⟨h1, -⟩
        · cases he
          have hlt : i.toNatClampNeg < n := Nat.not_le.mp fun q => hin (Or.inr q)
          exact W.iald cx.1 cx.2.1 h1 h2 h3 (by rw [h4]; exact hin) (h5 _ hlt) rfl rfl hd kk
        · cases h1
    · cases e
  · cases e
theorem so_zald {i : Int32} {b : Nat} {r : List Value} (hd : decode (cd f) pc = .ok (.baload, 1)) (e : alK i (hget h b) (fun t => t == 1) (fun x => nx (pc + 1) ls (.int x :: r) h) = some a) : aOK f pc ls (.int i :: .ref b :: r) h a := by
  unfold alK at e
  split at e
  · rename_i t n g hg
    split at e
    · rename_i hc
      cases nx_some e
      refine aMv_p fun base D K p l e R s m args below meth c Q cells slots lsr H locs cx hl hh kk => ?_
      obtain ⟨ht, hin⟩ := hc
      simp only [beq_iff_eq] at ht
      subst ht
      exact va_zald cx.1 cx.2.1 cx.2.2.2.2.2.2.2.1 (va_P.one ((hh.2.2 b _ hg).cell rfl).2) 0 1 rfl rfl hin hd kk
    · cases e
  · cases e
theorem so_cald {i : Int32} {b : Nat} {r : List Value} (hd : decode (cd f) pc = .ok (.caload, 1)) (e : alK i (hget h b) (fun t => t == 2) (fun x => nx (pc + 1) ls (.int x :: r) h) = some a) : aOK f pc ls (.int i :: .ref b :: r) h a := by
  unfold alK at e
  split at e
  · rename_i t n g hg
    split at e
    · rename_i hc
      cases nx_some e
      refine aMv_p fun base D K p l e R s m args below meth c Q cells slots lsr H locs cx hl hh kk => ?_
      obtain ⟨ht, hin⟩ := hc
      simp only [beq_iff_eq] at ht
      subst ht
      exact va_cald cx.1 cx.2.1 cx.2.2.2.2.2.2.2.1 (va_P.one ((hh.2.2 b _ hg).cell rfl).2) 0 2 rfl rfl hin hd kk
    · cases e
  · cases e
theorem so_aald {i : Int32} {b : Nat} {r : List Value} (hd : decode (cd f) pc = .ok (.aaload, 1)) (e : alQ i (hget h b) (fun v => nx (pc + 1) ls (v :: r) h) = some a) : aOK f pc ls (.int i :: .ref b :: r) h a := by
  unfold alQ at e
  split at e
  · rename_i t n g hg
    split at e
    · rename_i hc
      cases nx_some e
      refine aMv_p fun base D K p l e R s m args below meth c Q cells slots lsr H locs cx hl hh kk => ?_
      obtain ⟨ht, hin⟩ := hc
      rcases ht with rfl | rfl | rfl
      · exact va_aldq cx.1 cx.2.1 cx.2.2.2.2.2.2.2.1 (va_P.one ((hh.2.2 b _ hg).cell rfl).2) 0 3 rfl rfl hin hd kk
      · exact va_aldq cx.1 cx.2.1 cx.2.2.2.2.2.2.2.1 (va_P.one ((hh.2.2 b _ hg).cell rfl).2) 0 4 rfl rfl hin hd kk
      · exact va_aldq cx.1 cx.2.1 cx.2.2.2.2.2.2.2.1 (va_P.one ((hh.2.2 b _ hg).cell rfl).2) 0 5 rfl rfl hin hd kk
    · cases e
  · cases e
theorem so_alen {b : Nat} {r : List Value} (hd : decode (cd f) pc = .ok (.arraylength, 1)) (e : lenK (hget h b) (fun z => nx (pc + 1) ls (.int (Int32.ofNat z) :: r) h) = some a) : aOK f pc ls (.ref b :: r) h a := by
  unfold lenK at e
  split at e
  · rename_i t n g hg
    split at e
    · rename_i hk
      cases nx_some e
      refine aMv_p fun base D K p l e R s m args below meth c Q cells slots lsr H locs cx hl hh kk => ?_
      rcases hk with rfl | rfl | rfl | rfl
      · exact va_alen cx.1 cx.2.1 cx.2.2.2.2.2.2.2.1 (va_P.one ((hh.2.2 b _ hg).cell rfl).2) 0 0 rfl rfl rfl hd kk
      · exact va_alen cx.1 cx.2.1 cx.2.2.2.2.2.2.2.1 (va_P.one ((hh.2.2 b _ hg).cell rfl).2) 0 1 rfl rfl rfl hd kk
      · exact va_alen cx.1 cx.2.1 cx.2.2.2.2.2.2.2.1 (va_P.one ((hh.2.2 b _ hg).cell rfl).2) 0 2 rfl rfl rfl hd kk
      · rcases hh.2.2 b _ hg with ⟨-, -, n', g', he, scr, h1, h2, h3, h4, h5⟩ | ⟨h1, -⟩
        · cases he
          exact W.alen (n := Int32.ofNat n) cx.1 cx.2.1 h1 h2 (by rw [h4] <;> rfl) rfl rfl hd kk
        · cases h1
    · cases e
  · cases e
theorem arr_upd (cA : ClassId) (n i : Nat) (g : Nat → Int32) (x : Int32) : (vp_cell cA (n, .inl g)).setSlot i (.int x) = vp_cell cA (n, .inl (upd g i x)) := by
  rw [vp_cell_i, vp_cell_i, arrV_store]
  congr 1
  funext q
  by_cases hq : q = i
  · subst hq
    simp [updV, upd]
  · simp [updV, upd, hq]
theorem so_iast {i x : Int32} {b : Nat} {r : List Value} (hd : decode (cd f) pc = .ok (.iastore, 1)) (e : asK i (hget h b) 0 x (fun c => nx (pc + 1) ls r (hset h b c)) = some a) : aOK f pc ls (.int x :: .int i :: .ref b :: r) h a := by
  unfold asK at e
  split at e
  · rename_i t n g hg
    split at e
    · rename_i hc
      obtain ⟨rfl, hin⟩ := hc
      cases nx_some e
      refine aMv_h rfl rfl fun base D K p l e R s m args below meth c Q cells slots lsr H locs cx hl hh hS kk => ?_
      obtain ⟨hba, hat⟩ := (hh.2.2 b _ hg).cell rfl
      refine W.iast cx.1 cx.2.1 hat ((cx.2.2.2.2.2.2.2.1.2 0 _ rfl).1 n (fun j => .int (g j))) (fun q => by cases q) (by show ¬ (i < 0 ∨ (arrV _ _ _).slots.size ≤ _); rw [arrV_size]; exact hin) rfl rfl hd fun H1 e z oq => ?_
      exact kk H1 _ (hh.set z oq hba rfl (e.trans (congrArg some (arr_upd _ _ _ _ _)))) (hS.put z oq hba)
    · cases e
  · cases e
theorem so_zast {i x : Int32} {b : Nat} {r : List Value} (hd : decode (cd f) pc = .ok (.bastore, 1)) (e : asK i (hget h b) 1 (vp_nar .boolean x) (fun c => nx (pc + 1) ls r (hset h b c)) = some a) : aOK f pc ls (.int x :: .int i :: .ref b :: r) h a := by
  unfold asK at e
  split at e
  · rename_i t n g hg
    split at e
    · rename_i hc
      obtain ⟨rfl, hin⟩ := hc
      cases nx_some e
      refine aMv_h rfl rfl fun base D K p l e R s m args below meth c Q cells slots lsr H locs cx hl hh hS kk => ?_
      obtain ⟨hba, hat⟩ := (hh.2.2 b _ hg).cell rfl
      refine W.zast cx.1 cx.2.1 hat ((cx.2.2.2.2.2.2.2.1.2 1 _ rfl).1 n (fun j => .int (g j))) (fun q => by cases q) (by show ¬ (i < 0 ∨ (arrV _ _ _).slots.size ≤ _); rw [arrV_size]; exact hin) rfl rfl hd fun H1 e z oq => ?_
      exact kk H1 _ (hh.set z oq hba rfl (e.trans (congrArg some (arr_upd _ _ _ _ _)))) (hS.put z oq hba)
    · cases e
  · cases e
theorem so_cast {i x : Int32} {b : Nat} {r : List Value} (hd : decode (cd f) pc = .ok (.castore, 1)) (e : asK i (hget h b) 2 (vp_nar .char x) (fun c => nx (pc + 1) ls r (hset h b c)) = some a) : aOK f pc ls (.int x :: .int i :: .ref b :: r) h a := by
  unfold asK at e
  split at e
  · rename_i t n g hg
    split at e
    · rename_i hc
      obtain ⟨rfl, hin⟩ := hc
      cases nx_some e
      refine aMv_h rfl rfl fun base D K p l e R s m args below meth c Q cells slots lsr H locs cx hl hh hS kk => ?_
      obtain ⟨hba, hat⟩ := (hh.2.2 b _ hg).cell rfl
      refine W.cast cx.1 cx.2.1 hat ((cx.2.2.2.2.2.2.2.1.2 2 _ rfl).1 n (fun j => .int (g j))) (fun q => by cases q) (by show ¬ (i < 0 ∨ (arrV _ _ _).slots.size ≤ _); rw [arrV_size]; exact hin) rfl rfl hd fun H1 e z oq => ?_
      exact kk H1 _ (hh.set z oq hba rfl (e.trans (congrArg some (arr_upd _ _ _ _ _)))) (hS.put z oq hba)
    · cases e
  · cases e
end So2
end
section
/-! what makes cells, arrays of references, arraycopy, calls -/
theorem aTy_3 {t : Nat} (h : t = 3 ∨ t = 4 ∨ t = 5) (K : Nat → ClassId) : (aTy K)[t]? = some (K t, .object (cS (arC t))) ∧ arC t < 8 := by
  rcases h with rfl | rfl | rfl
  · exact ⟨rfl, by decide⟩
  · exact ⟨rfl, by decide⟩
  · exact ⟨rfl, by decide⟩
section So3
variable {f pc : Nat} {ls st : List Value} {h : aH} {a : aA}
theorem so_aast {i : Int32} {v b : Nat} {r : List Value} (hd : decode (cd f) pc = .ok (.aastore, 1)) (e : asQ i (hget h b) v (hget h v) (fun c => nx (pc + 1) ls r (hset h b c)) = some a) : aOK f pc ls (.ref v :: .int i :: .ref b :: r) h a := by
  unfold asQ at e
  split at e
  · rename_i t n g ci vs hg hv
    split at e
    · rename_i hc
      obtain ⟨ht, rfl, hin⟩ := hc
      cases nx_some e
      refine aMv_h rfl rfl fun base D K p l e R s m args below meth c Q cells slots lsr H locs cx hl hh hS kk => ?_
      have hro : ∀ g' : Nat → Option Nat, isRO (.inl (t, n, .inr g')) = false := by
        intro g'
        rcases ht with rfl | rfl | rfl <;> rfl
      obtain ⟨hba, hat⟩ := (hh.2.2 b _ hg).cell (hro g)
      obtain ⟨hbv, r', hr', cellV, g1, g2, g3, -⟩ := (hh.2.2 v _ hv).cell rfl
      obtain ⟨hty, h8⟩ := aTy_3 ht K
      have hK := cx.2.2.2.2.2.2.2.1
      have hlt : i.toNatClampNeg < n := Nat.not_le.mp fun q => hin (Or.inr q)
      have h0 : ¬ i < 0 := fun q => hin (Or.inl q)
      have hcls := (hK.1 (arC t) _ (clAt h8)).2
      obtain ⟨kA, comp, k1, k2, k3, -⟩ := (hK.2 t _ hty).2
      have hcomp : comp = D.1 (arC t) := Option.some.inj (k3.symm.trans hcls.1)
      subst hcomp
      obtain ⟨kC, hkC, -⟩ := hcls.2
      refine W.aast cx.1 cx.2.1 hat (fun q h => by cases h) (fun h => by cases h) k1 k2 rfl hkC ⟨h0, by show _ < (arrV _ _ _).slots.size; rw [arrV_size]; exact hlt⟩ g1 (fun q h => by rw [g3] at h; cases h) (by rw [g2]; exact hkC) (by rw [g2]; exact va_assign hcls) rfl rfl hd fun H1 e z oq => ?_
      refine kk H1 _ (hh.set z oq hba (hro _) ?_) (hS.put z oq hba)
      show H1[b]? = some (vp_cell _ _)
      rw [e]
      show some ((vp_cell (K t) (n, .inr (.inr (.inr (.inr g))))).setSlot _ _) = some (vp_cell (K t) _)
      rw [vp_cell_q, vp_cell_q, arrV_store]
      congr 2
      funext q
      by_cases hq : q = i.toNatClampNeg
      · subst hq
        simp [updV, va_up, va_rf]
      · simp [updV, va_up, hq]
    · cases e
  · cases e
theorem aMv_n {pc' n : Nat} {st' : List Value} {c0 : aC} (k : ∀ (base : Nat) (D : va_G) (K : Nat → ClassId) (p : Program) (l : Launch) (e : Env) (R : Room) (s : State) (m : MethodId) (args : Array Value) (below : List Frame) (meth : Method) (c : Code) (Q : State → Prop) (cells slots : Nat) (lsr : Array Slot) (H : Heap) (locs : List Loc), aCx D K f p R s m args meth c → aHp base D K s h H → cells + 1 ≤ R.cells → slots + n ≤ R.slots → (∀ H1, aHp base D K s (hnew h n c0) H1 → H1.size = H.size + 1 → (∀ q : Nat, q < H.size → H1[q]? = H[q]?) → W p l e R s m args below meth c H1 locs (cells + 1) (slots + n) Q (F0 m pc' lsr st')) → W p l e R s m args below meth c H locs cells slots Q (F0 m pc lsr st)) : aMv f pc ls st h (pc', ls, st', hnew h n c0) := by
  refine ⟨Nat.le_succ _, Nat.le_add_right _ _, fun base D K p l e R s m args below meth c Q cells slots cx hbs hc1 hc2 kk lsr H locs hl hh hS => ?_⟩
  have e1 : (hnew h n c0).1 - h.1 = 1 := by show h.1 + 1 - h.1 = 1; omega
  have e2 : (hnew h n c0).2.1 - h.2.1 = n := by show h.2.1 + n - h.2.1 = n; omega
  dsimp only at hc1 hc2 kk
  rw [e1] at hc1 kk
  rw [e2] at hc2 kk
  refine k base D K p l e R s m args below meth c Q cells slots lsr H locs cx hh hc1 hc2 fun H1 hh1 z1 o1 => ?_
  exact kk lsr H1 locs hl hh1 ⟨by rw [z1]; exact Nat.le_trans hS.1 (Nat.le_succ _), fun q h1 h2 => (o1 q (Nat.lt_of_lt_of_le h1 hS.1)).trans (hS.2.1 q h1 h2), hS.2.2⟩
theorem so_newa {t : ArrayType} {k : Nat} {z : Int32} {r : List Value} (hd : decode (cd f) pc = .ok (.newarray t, 2)) (ht : arT t = some k) (e : (if ¬ z < 0 ∧ z.toNatClampNeg ≤ 10000 then nx (pc + 2) ls (.ref h.1 :: r) (hnew h z.toNatClampNeg (.inl (k, z.toNatClampNeg, .inl (fun _ => 0)))) else none) = some a) : aOK f pc ls (.int z :: r) h a := by
  split at e
  · rename_i hz
    cases nx_some e
    refine aMv_n fun base D K p l e R s m args below meth c Q cells slots lsr H locs cx hh hc1 hc2 kk => ?_
    have hh1 := hh.1
    cases t <;> simp only [arT, Option.some.injEq, reduceCtorEq] at ht
    all_goals subst ht
    · refine va_newaK (atype := .boolean) cx.1 cx.2.1 (cx.2.2.2.2.1 _ ch_ar.2.1) rfl hd rfl hz.1 rfl (Nat.le_trans (Nat.mul_le_mul_right _ hz.2) (by decide)) hc1 hc2 hh1.symm fun H1 cA e1 z1 o1 hAr hNm => ?_
      have hcA : cA = K 1 := Option.some.inj (hNm.symm.trans (cx.2.2.2.2.2.2.2.1.2 1 _ rfl).2)
      subst hcA
      rw [hh1] at e1 z1 o1
      exact kk H1 (hh.new z1 o1 rfl e1) z1 o1
    · refine va_newaK (atype := .char) cx.1 cx.2.1 (cx.2.2.2.2.1 _ ch_ar.2.2) rfl hd rfl hz.1 rfl (Nat.le_trans (Nat.mul_le_mul_right _ hz.2) (by decide)) hc1 hc2 hh1.symm fun H1 cA e1 z1 o1 hAr hNm => ?_
      have hcA : cA = K 2 := Option.some.inj (hNm.symm.trans (cx.2.2.2.2.2.2.2.1.2 2 _ rfl).2)
      subst hcA
      rw [hh1] at e1 z1 o1
      exact kk H1 (hh.new z1 o1 rfl e1) z1 o1
    · refine va_newaK (atype := .int) cx.1 cx.2.1 (cx.2.2.2.2.1 _ ch_ar.1) rfl hd rfl hz.1 rfl (Nat.le_trans (Nat.mul_le_mul_right _ hz.2) (by decide)) hc1 hc2 hh1.symm fun H1 cA e1 z1 o1 hAr hNm => ?_
      have hcA : cA = K 0 := Option.some.inj (hNm.symm.trans (cx.2.2.2.2.2.2.2.1.2 0 _ rfl).2)
      subst hcA
      rw [hh1] at e1 z1 o1
      exact kk H1 (hh.new z1 o1 rfl e1) z1 o1
  · cases e
theorem pC_ok {c i ci j : Nat} (h : pkG pC c i = some (ci, j)) : ci < 8 ∧ Cond.classLink (cS c) i (cS ci) ∈ gwT := by
  obtain ⟨pl, hm⟩ := pkG_mem h
  have h1 := List.all_eq_true.mp chC_ok _ hm
  unfold chC at h1
  simp only [Bool.and_eq_true, decide_eq_true_eq] at h1
  exact ⟨h1.1, wAt_good h1.2 rfl⟩
theorem so_newq {k ci j t : Nat} {z : Int32} {r : List Value} (hd : decode (cd f) pc = .ok (.anewarray k, 3)) (hp : pkG pC (cN f) k = some (ci, j)) (ht : anT ci = some t) (e : (if ¬ z < 0 ∧ z.toNatClampNeg ≤ 10000 then nx (pc + 3) ls (.ref h.1 :: r) (hnew h z.toNatClampNeg (.inl (t, z.toNatClampNeg, .inr (fun _ => none)))) else none) = some a) : aOK f pc ls (.int z :: r) h a := by
  obtain ⟨h8, hlk⟩ := pC_ok hp
  split at e
  · rename_i hz
    cases nx_some e
    refine aMv_n fun base D K p l e R s m args below meth c Q cells slots lsr H locs cx hh hc1 hc2 kk => ?_
    have hh1 := hh.1
    have h3 : (t = 3 ∨ t = 4 ∨ t = 5) ∧ arC t = ci ∧ Cond.arrayOver (.object (cS ci)) ∈ lw_tbl := by
      unfold anT at ht
      split at ht
      · rename_i q; subst q; cases ht; exact ⟨Or.inl rfl, rfl, ch_ao.1⟩
      · split at ht
        · rename_i q; subst q; cases ht; exact ⟨Or.inr (Or.inl rfl), rfl, ch_ao.2.1⟩
        · split at ht
          · rename_i q; subst q; cases ht; exact ⟨Or.inr (Or.inr rfl), rfl, ch_ao.2.2⟩
          · cases ht
    obtain ⟨ht3, rfl, hao⟩ := h3
    obtain ⟨hty, -⟩ := aTy_3 ht3 K
    have hov : va_AO (cS (arC t)) s := cx.2.2.2.2.2.1 _ hao rfl
    refine W.anew cx.1 cx.2.1 cx.2.2.2.1 (cx.2.2.2.2.1 _ hlk) (va_AO.use hov) rfl hd rfl hz.1 (Nat.le_trans (Nat.mul_le_mul_right _ hz.2) (by decide)) hc1 hc2 fun cA kA comp f1 f2 f3 f4 => ?_
    obtain ⟨kA2, comp2, -, -, -, k4⟩ := (cx.2.2.2.2.2.2.2.1.2 t _ hty).2
    have hcA : cA = K t := Option.some.inj (f1.symm.trans k4)
    subst hcA
    generalize hH1 : H.push ({ cls := K t, slots := Array.replicate z.toNatClampNeg .null, vm := .none } : Cell) = H1
    have z1 : H1.size = H.size + 1 := by rw [← hH1, Array.size_push]
    have e1 : H1[H.size]? = some (arrV (K t) z.toNatClampNeg (fun _ => .null)) := by rw [← hH1, Array.getElem?_push_size, ← arrV_new]
    have o1 : ∀ q : Nat, q < H.size → H1[q]? = H[q]? := fun q hq => by rw [← hH1, Array.getElem?_push, if_neg (Nat.ne_of_lt hq)]
    have hro : isRO (.inl (t, z.toNatClampNeg, .inr (fun _ => none))) = false := by rcases ht3 with rfl | rfl | rfl <;> rfl
    rw [← hh1]
    exact kk H1 (hh.new z1 o1 hro e1) z1 o1
  · cases e
theorem so_new {k ci j : Nat} (hd : decode (cd f) pc = .ok (.new k, 3)) (hp : pkG pC (cN f) k = some (ci, j)) (e : nx (pc + 3) ls (.ref h.1 :: st) (hnew h (nFl.getD ci 0) (.inr (ci, (List.range (nFl.getD ci 0)).map (fun j => dfl (tyXf ci j))))) = some a) : aOK f pc ls st h a := by
  obtain ⟨h8, hlk⟩ := pC_ok hp
  cases nx_some e
  refine aMv_n fun base D K p l e R s m args below meth c Q cells slots lsr H locs cx hh hc1 hc2 kk => ?_
  obtain ⟨k1, k2, k3⟩ := clK h8
  have hKn := cx.2.2.2.2.2.2.2.1.1 ci _ (clAt h8)
  have hh1 := hh.1
  refine W.newcK cx.1 cx.2.1 cx.2.2.2.1 (cx.2.2.2.2.1 _ hlk) (cx.2.2.2.2.1 _ k2) (cx.2.2.2.2.1 _ k1) rfl hd hc1 hc2 hKn.2.1 hh1.symm fun H1 kC hkC e1 z1 o1 => ?_
  rw [hh1] at e1 z1 o1
  refine kk H1 (hh.new z1 o1 rfl ⟨_, clAt h8, (u_born (tyXf ci) cx.2.2.2.2.1 k3 hKn hkC e1 (clTy h8)).to fun i hi => ?_⟩) z1 o1
  show defaultValue (tyXf ci i) = vp_V _ i
  unfold vp_V
  rw [List.getD_eq_getElem?_getD, List.getElem?_map, List.getElem?_range hi]
  rfl
theorem so_copy {k x : Nat} {n dp sp : Int32} {b b0 : Nat} {r : List Value} (hd : decode (cd f) pc = .ok (.invokestatic k, 3)) (hp : pkG pX (cN f) k = some (1, x)) (hR : 1 ≤ fRm f ∧ 26 ≤ lRm f ∧ catS r ≤ 8) (e : ccK sp dp n (hget h b0) (hget h b) (fun c => nx (pc + 3) ls r (hset h b c)) = some a) : aOK f pc ls (.int n :: .int dp :: .ref b :: .int sp :: .ref b0 :: r) h a := by
  have hlk : Cond.methodLink (cS (cN f)) k arraycopyName ∈ gwT := by
    obtain ⟨pl, hm⟩ := pkG_mem hp
    have h1 := List.all_eq_true.mp chX_ok _ hm
    exact wAt_good h1 rfl
  unfold ccK at e
  split at e
  · rename_i n0 g0 n1 g1 hg0 hg1
    split at e
    · rename_i hc
      obtain ⟨h1, h2, h3, h4, h5⟩ := hc
      cases nx_some e
      refine aMv_h rfl rfl fun base D K p l e R s m args below meth c Q cells slots lsr H locs cx hl hh hS kk => ?_
      obtain ⟨-, hat0⟩ := (hh.2.2 b0 _ hg0).cell rfl
      obtain ⟨hba, hat1⟩ := (hh.2.2 b _ hg1).cell rfl
      obtain ⟨hx, hb, hml, hown, hts, hnw, hin, hK, hfr, hlo⟩ := cx
      have nn : ∀ z : Int32, ¬ z < 0 → z.toInt = (z.toNatClampNeg : Int) := by
        intro z hz
        have hz0 : (0 : Int) ≤ z.toInt := by
          have := Int32.not_lt.mp hz
          simpa using Int32.le_iff_toInt_le.mp this
        show z.toInt = ((z.toInt.toNat : Nat) : Int)
        omega
      intro T hT X
      have hc0 : H[b0]? = some (vp_cell (K 0) (n0, .inl g0)) := hat0
      have hc1 : H[b]? = some (vp_cell (K 0) (n1, .inl g1)) := hat1
      obtain ⟨-, k0, hk0, cm0, hkk0⟩ := (hK.2 0 _ rfl).1 n0 (fun j => .int (g0 j))
      obtain ⟨-, k1, hk1, cm1, hkk1⟩ := (hK.2 0 _ rfl).1 n1 (fun j => .int (g1 j))
      obtain ⟨vm', X', step⟩ := X.arraycopy hx hown (hts _ hlk) (hts _ ch_ac.1) (hts _ ch_ac.2.1) (hts _ ch_ac.2.2) (src := b0) (dst := b) (cs := vp_cell (K 0) (n0, .inl g0)) (cd := vp_cell (K 0) (n1, .inl g1)) (srcPos := sp) (destPos := dp) (n := n) (by rw [hT]; exact hc0) (by rw [hT]; exact hc1)
        (fun _ h => by cases h) (fun _ h => by cases h) (fun h => by cases h) (fun h => by cases h) hk0 hk1 hkk0 hkk1 (by simp [refKind]) h1 h2 h3
        (by rw [nn sp h1, nn n h3]; show ¬ _ > ((arrV (K 0) n0 (fun j => .int (g0 j))).slots.size : Int); rw [arrV_size]; omega)
        (by rw [nn dp h2, nn n h3]; show ¬ _ > ((arrV (K 0) n1 (fun j => .int (g1 j))).slots.size : Int); rw [arrV_size]; omega)
        (fun vm₁ _ i hi => by
          have e : (vp_cell (K 0) (n0, .inl g0)).slots.getD (sp.toNatClampNeg + i) .null = .int (g0 (sp.toNatClampNeg + i)) := by
            show (arrV (K 0) n0 (fun j => .int (g0 j))).slots.getD _ _ = _
            rw [Array.getD_eq_getD_getElem?, arrV_read _ _ (by omega)]
            rfl
          refine ⟨?_, ?_⟩
          · rw [e]
            rfl
          · rw [e]
            exact trivial)
        (g := F0 m pc lsr (.int n :: .int dp :: .ref b :: .int sp :: .ref b0 :: r)) rfl (by rw [hml]; exact hl.2.1) (rest := r) rfl (by rw [hb]; exact hd) (Nat.le_trans hR.1 hfr) (by
          show 2 * 0 + (r.map fun v => v.category).sum + (nativeFrameWords "java/lang/System" "arraycopy" 5 + 11) ≤ R.locals
          have e7 : nativeFrameWords "java/lang/System" "arraycopy" 5 = 7 := by decide
          rw [e7]
          have := hR.2.2
          have := hR.2.1
          unfold catS at *
          omega)
      have e1 : copied (vp_cell (K 0) (n0, .inl g0)) (vp_cell (K 0) (n1, .inl g1)) sp dp n = vp_cell (K 0) (n1, .inl (va_cpy g0 g1 sp.toNatClampNeg dp.toNatClampNeg n.toNatClampNeg)) := va_copied (fun z => .int z) (K 0) (K 0) g0 g1 h4
      rw [e1] at X' step
      have hlb : b < H.size := (Array.getElem?_eq_some_iff.mp hc1).1
      have hheap : ((T.setVm vm').setCell b (vp_cell (K 0) (n1, .inl (va_cpy g0 g1 sp.toNatClampNeg dp.toNatClampNeg n.toNatClampNeg)))).heap = H.setIfInBounds b (vp_cell (K 0) (n1, .inl (va_cpy g0 g1 sp.toNatClampNeg dp.toNatClampNeg n.toNatClampNeg))) := by rw [← hT]; rfl
      have oq : ∀ q : Nat, q ≠ b → (H.setIfInBounds b (vp_cell (K 0) (n1, .inl (va_cpy g0 g1 sp.toNatClampNeg dp.toNatClampNeg n.toNatClampNeg))))[q]? = H[q]? := fun q hq => by simp [Array.getElem?_setIfInBounds, Ne.symm hq]
      have zz : (H.setIfInBounds b (vp_cell (K 0) (n1, .inl (va_cpy g0 g1 sp.toNatClampNeg dp.toNatClampNeg n.toNatClampNeg)))).size = H.size := by simp
      obtain ⟨t, a1, b1⟩ := kk _ _ (hh.set zz oq hba rfl (show (H.setIfInBounds b _)[b]? = some _ by simp [Array.getElem?_setIfInBounds, hlb])) ⟨by rw [zz]; exact hS.1, fun q g1 g2 => by
          rw [oq q (fun e => g2 (by rw [e]; exact hba))]
          exact hS.2.1 q g1 g2, fun q hq => by
          rcases List.mem_append.mp hq with h | h
          · exact hS.2.2 q h
          · obtain ⟨z, -, hz⟩ := List.mem_map.mp h
            rw [← hz]
            exact hba⟩ _ hheap X'
      exact ⟨t, step t a1, b1⟩
    · cases e
  · cases e
theorem so_oini {k x b : Nat} {r : List Value} (hd : decode (cd f) pc = .ok (.invokespecial k, 3)) (hp : pkG pX (cN f) k = some (0, x)) (hR : 1 ≤ fRm f ∧ 20 ≤ lRm f ∧ catS r ≤ 8) (e : nx (pc + 3) ls r h = some a) : aOK f pc ls (.ref b :: r) h a := by
  have hlk : Cond.methodLink (cS (cN f)) k objectInit ∈ gwT := by
    obtain ⟨pl, hm⟩ := pkG_mem hp
    have h1 := List.all_eq_true.mp chX_ok _ hm
    exact wAt_good h1 rfl
  cases nx_some e
  refine aMv_p fun base D K p l e R s m args below meth c Q cells slots lsr H locs cx hl hh kk => ?_
  obtain ⟨hx, hb, hml, hown, hts, hnw, hin, hK, hfr, hlo⟩ := cx
  refine W.objInit hx hb hown (hts _ hlk) (hts _ ch_oi.1) (hts _ ch_oi.2) rfl (by rw [hml]; exact hl.2.1) rfl hd (Nat.le_trans hR.1 hfr) ?_ kk
  show 2 * 0 + (r.map fun v => v.category).sum + 12 ≤ R.locals
  have := hR.2.2
  have := hR.2.1
  unfold catS at *
  omega
end So3
end
section
/-! calls, the whole step, and what a run is worth -/
theorem gw_good {w : Cond} (h : w ∈ gwT) : w ∈ gwT ∧ ((w.onTables && w.keeps) = true ∨ ∃ ty, w = .arrayClass ty) := ⟨h, good_of_word (List.mem_filter.mp h).2⟩
theorem mtY {g : Nat} (hg : g < 189) : ∃ q, mtP[g]? = some q ∧ chY g q = true := by
  have key : ∀ lo n, chYs lo n = true → lo ≤ g → g < lo + n → ∃ q, mtP[g]? = some q ∧ chY g q = true := by
    intro lo n h h1 h2
    have h3 := List.all_eq_true.mp h (g - lo) (List.mem_range.mpr (by omega))
    rw [show lo + (g - lo) = g by omega] at h3
    split at h3
    · rename_i q hq; exact ⟨q, hq, h3⟩
    · cases h3
  by_cases h1 : g < 40
  · exact key 0 40 chY_0 (by omega) (by omega)
  · by_cases h2 : g < 80
    · exact key 40 40 chY_1 (by omega) (by omega)
    · by_cases h3 : g < 120
      · exact key 80 40 chY_2 (by omega) (by omega)
      · by_cases h4 : g < 160
        · exact key 120 40 chY_3 (by omega) (by omega)
        · exact key 160 29 chY_4 (by omega) (by omega)
/-- what the tables say of a method -/
theorem mtF {g : Nat} {q : Nat × Nat × Nat × Nat × Bool} (h : chY g q = true) : Cond.code (yN g) (cd g) (mL g) (rT g) ∈ gwT ∧ (q.2.2.2.2 = true → Cond.static (yN g) ∈ gwT) ∧ (q.2.2.2.2 = false → Cond.instanceMethod (yN g) ∈ gwT ∧ cN g < 8) ∧ (q.2.2.1 ≠ 99999 → Cond.selects (cS (cN g)) (yN g) (yN g) ∈ gwT) ∧ Cond.initialized (yN g).cls ∈ gwT ∧ (yN g).cls = cS (cN g) ∧ plainName (yN g).cls = true ∧ (yN g).cls ≠ "java/lang/invoke/MethodHandle" ∧ (yN g).cls ≠ "java/lang/invoke/VarHandle" := by
  unfold chY at h
  simp only [Bool.and_eq_true, Bool.or_eq_true, decide_eq_true_eq] at h
  obtain ⟨⟨⟨⟨⟨⟨⟨⟨h1, h2⟩, h3⟩, h4⟩, h5⟩, h6⟩, h7⟩, h8⟩, h9⟩ := h
  refine ⟨wAt_good h1 rfl, fun hs => ?_, fun hs => ?_, fun hs => ?_, wAt_good h4 rfl, h5, h6, h7, h8⟩
  · rw [hs] at h2; exact wAt_good h2 rfl
  · rw [hs] at h2 h9
    refine ⟨wAt_good h2 rfl, ?_⟩
    rcases h9 with h9 | h9
    · cases h9
    · exact h9
  · rcases h3 with h3 | h3
    · exact absurd h3 hs
    · exact wAt_good h3 rfl
theorem pM_ok {c i g n : Nat} (h : pkG pM c i = some (g, n)) : g < 189 ∧ (parseMethodDescriptor (yN g).desc).map (fun d => d.parameters.length) = some n ∧ (Cond.methodLink (cS c) i (yN g) ∈ gwT ∨ (Cond.methodLinkNest (cS c) i (yN g) "CodedRelays" ∈ lw_tbl ∧ (yN g).name = "<init>")) := by
  obtain ⟨pl, hm⟩ := pkG_mem h
  have h1 := List.all_eq_true.mp chM_ok _ hm
  unfold chM at h1
  simp only [Bool.and_eq_true, Bool.or_eq_true, decide_eq_true_eq] at h1
  refine ⟨h1.1.1.1, h1.1.2, ?_⟩
  rcases h1.2 with h2 | h2
  · exact Or.inl (wAt_good h2 rfl)
  · exact Or.inr ⟨wAt_mem h2.1, h2.2⟩
theorem wsO_good (g : Nat) (h : Cond.code (yN g) (cd g) (mL g) (rT g) ∈ gwT) : GoodIn gwT (wsO g) := by
  intro w hw
  rcases List.mem_cons.mp hw with rfl | hw
  · exact gw_good h
  · exact gw_good hw
theorem mtGetD {g : Nat} {q d : Nat × Nat × Nat × Nat × Bool} (h : mtP[g]? = some q) : mtP.getD g d = q := by rw [List.getD_eq_getElem?_getD, h]; rfl
theorem drop_eq {st r : List Value} {k b : Nat} (h : st.drop k = .ref b :: r) : st = (st.take k).reverse.reverse ++ .ref b :: r := by rw [List.reverse_reverse, ← h, List.take_append_drop]
section So4
variable {f pc : Nat} {ls st : List Value} {h : aH} {a : aA}
theorem so_callK {g : Nat} {vs rest : List Value} (hg : g < 189) (hc : fRm g + 1 ≤ fRm f ∧ 8 + (mL g + 11) + lRm g ≤ lRm f → catS rest ≤ 8 → aCall f pc st h g vs rest) (e : callK f g vs (pc + 3) ls rest h = some a) : aOK f pc ls st h a := by
  unfold callK at e
  split at e
  · rename_i hk
    cases e
    exact ⟨vs, hg, rfl, rfl, rfl, rfl, hk.2.2.2, hc ⟨hk.1, hk.2.1⟩ hk.2.2.1⟩
  · cases e
theorem so_invV {k : Nat} (hd : decode (cd f) pc = .ok (.invokevirtual k, 3)) (e : invV f k (pc + 3) ls st h = some a) : aOK f pc ls st h a := by
  unfold invV at e
  split at e
  · rename_i g n hp
    obtain ⟨hg, hd2, hlk⟩ := pM_ok hp
    obtain ⟨q, hq, hY⟩ := mtY hg
    obtain ⟨y1, y2, y3, y4, y5, y6, y7, y8, y9⟩ := mtF hY
    split at e
    · rename_i b r hdr
      split at e
      · rename_i hc
        obtain ⟨hk, hst, hsl, hni⟩ := hc
        rw [mtGetD hq] at hst hsl
        unfold rcK at e
        split at e
        · rename_i ci fs hcell
          split at e
          · rename_i hci
            subst hci
            refine so_callK hg (fun hR hcat base D K p l e R s m args below meth c cells slots lsr H locs mc ms Pc Qc free cx hsz hh hM hbl hpre hroom => ?_) e
            obtain ⟨hx, hb, hml, hown, hts, hnw, hin, hK, hfr, hlo⟩ := cx
            obtain ⟨y3a, y3b⟩ := y3 hst
            obtain ⟨hba, hat⟩ := (hh.2.2 b _ hcell).cell rfl
            have hlk' : Cond.methodLink (cS (cN f)) k (yN g) ∈ gwT := by
              rcases hlk with h1 | ⟨-, h1⟩
              · exact h1
              · exact absurd h1 hni
            have cb : CallB R s args (cS (cN f)) k (yN g) (cd g) (mL g) (rT g) (wsO g) { frames := fRm g, cells := mc, slots := ms, locals := lRm g } mc ms n :=
              callB_of n hts (wsO_good g y1) rfl rfl rfl (hts _ y5) (hts _ hlk') ⟨y8, y9, hd2⟩ ⟨Nat.le_trans hR.1 hfr, Nat.le_trans hR.2 hlo⟩
            exact va_runV (As := (st.take n).reverse) (C := cS (cN g)) ⟨hx, hb, hml, hown, hts⟩ hM ⟨cb, hts _ y3a, hts _ (y4 hsl)⟩ ⟨hbl, va_recv hK (va_P.one hat) (clAt y3b) (q0 := 0) rfl, hpre⟩ rfl (by rw [List.length_reverse, List.length_take]; omega) hsz (drop_eq hdr) (lv_room hcat) hd hroom
          · cases e
        · cases e
      · cases e
    · cases e
  · cases e
theorem so_invS {k : Nat} (hd : decode (cd f) pc = .ok (.invokestatic k, 3)) (e : invS f k (pc + 3) ls st h = some a) : aOK f pc ls st h a := by
  unfold invS at e
  split at e
  · rename_i g n hp
    obtain ⟨hg, hd2, hlk⟩ := pM_ok hp
    obtain ⟨q, hq, hY⟩ := mtY hg
    obtain ⟨y1, y2, y3, y4, y5, y6, y7, y8, y9⟩ := mtF hY
    split at e
    · rename_i hc
      obtain ⟨hk, hst⟩ := hc
      rw [mtGetD hq] at hst
      refine so_callK hg (fun hR hcat base D K p l e R s m args below meth c cells slots lsr H locs mc ms Pc Qc free cx hsz hh hM hbl hpre hroom => ?_) e
      obtain ⟨hx, hb, hml, hown, hts, hnw, hin, hK, hfr, hlo⟩ := cx
      rcases hlk with hlk | ⟨hlk, -⟩
      · have cb : CallB R s args (cS (cN f)) k (yN g) (cd g) (mL g) (rT g) (wsO g) { frames := fRm g, cells := mc, slots := ms, locals := lRm g } mc ms n :=
          callB_of n hts (wsO_good g y1) rfl rfl rfl (hts _ y5) (hts _ hlk) ⟨y8, y9, hd2⟩ ⟨Nat.le_trans hR.1 hfr, Nat.le_trans hR.2 hlo⟩
        exact va_runS (As := (st.take n).reverse) ⟨hx, hb, hml, hown, hts⟩ hM ⟨cb, hts _ (y2 hst)⟩ ⟨hbl, hpre⟩ rfl (by rw [List.length_reverse, List.length_take]; omega) hsz (by rw [List.reverse_reverse, List.take_append_drop]) (lv_room hcat) hd hroom
      · have cb : va_CN R s args (cS (cN f)) k (yN g) "CodedRelays" (cd g) (mL g) (rT g) (wsO g) { frames := fRm g, cells := mc, slots := ms, locals := lRm g } mc ms n :=
          va_cnB n hts (wsO_good g y1) rfl rfl rfl (hnw _ hlk rfl) (hts _ y5) ⟨y8, y9, hd2⟩ ⟨Nat.le_trans hR.1 hfr, Nat.le_trans hR.2 hlo⟩
        exact va_runSN (As := (st.take n).reverse) ⟨hx, hb, hml, hown, hts⟩ hM ⟨cb, hts _ (y2 hst), trivial⟩ ⟨hbl, hpre⟩ rfl (by rw [List.length_reverse, List.length_take]; omega) hsz (by rw [List.reverse_reverse, List.take_append_drop]) (lv_room hcat) hd hroom
    · cases e
  · split at e
    · rename_i hp
      split at e
      · rename_i hR
        exact so_copy hd hp hR e
      · cases e
    · cases e
theorem so_invI {k : Nat} (hd : decode (cd f) pc = .ok (.invokespecial k, 3)) (e : invI f k (pc + 3) ls st h = some a) : aOK f pc ls st h a := by
  unfold invI at e
  split at e
  · rename_i g n hp
    obtain ⟨hg, hd2, hlk⟩ := pM_ok hp
    obtain ⟨q, hq, hY⟩ := mtY hg
    obtain ⟨y1, y2, y3, y4, y5, y6, y7, y8, y9⟩ := mtF hY
    split at e
    · rename_i b r hdr
      split at e
      · rename_i hc
        obtain ⟨hk, hst, hni, hrt⟩ := hc
        rw [mtGetD hq] at hst
        refine so_callK hg (fun hR hcat base D K p l e R s m args below meth c cells slots lsr H locs mc ms Pc Qc free cx hsz hh hM hbl hpre hroom => ?_) e
        obtain ⟨hx, hb, hml, hown, hts, hnw, hin, hK, hfr, hlo⟩ := cx
        rcases hlk with hlk | ⟨hlk, -⟩
        · have cb : CallB R s args (cS (cN f)) k (yN g) (cd g) (mL g) none (wsO g) { frames := fRm g, cells := mc, slots := ms, locals := lRm g } mc ms n :=
            callB_of n hts (wsO_good g y1) (by unfold wsO; rw [hrt]) rfl rfl (hts _ y5) (hts _ hlk) ⟨y8, y9, hd2⟩ ⟨Nat.le_trans hR.1 hfr, Nat.le_trans hR.2 hlo⟩
          exact va_runI (As := (st.take n).reverse) ⟨hx, hb, hml, hown, hts⟩ hM ⟨cb, hni, hts _ (y3 hst).1⟩ ⟨hbl, hpre⟩ rfl (by rw [List.length_reverse, List.length_take]; omega) hsz (drop_eq hdr) (lv_room hcat) hd hroom
        · have cb : va_CN R s args (cS (cN f)) k (yN g) "CodedRelays" (cd g) (mL g) none (wsO g) { frames := fRm g, cells := mc, slots := ms, locals := lRm g } mc ms n :=
            va_cnB n hts (wsO_good g y1) (by unfold wsO; rw [hrt]) rfl rfl (hnw _ hlk rfl) (hts _ y5) ⟨y8, y9, hd2⟩ ⟨Nat.le_trans hR.1 hfr, Nat.le_trans hR.2 hlo⟩
          exact va_runIN (As := (st.take n).reverse) ⟨hx, hb, hml, hown, hts⟩ hM ⟨cb, hni, hts _ (y3 hst).1⟩ ⟨hbl, hpre⟩ rfl (by rw [List.length_reverse, List.length_take]; omega) hsz (drop_eq hdr) (lv_room hcat) hd hroom
      · cases e
    · cases e
  · split at e
    · rename_i hp
      split at e
      · rename_i hR
        exact so_oini hd hp hR e
      · cases e
    · cases e
end So4
end
section
/-! THE ABSTRACT MACHINE IS SOUND -/
theorem pI_ok {c i : Nat} {v : Int32} (h : pkG pI c i = some v) : Cond.constant (cS c) i v ∈ gwT := by
  obtain ⟨pl, hm⟩ := pkG_mem h
  exact wAt_good (List.all_eq_true.mp chI_ok _ hm) rfl
theorem pL_ok {c i : Nat} {v : Int64} (h : pkG pL c i = some v) : Cond.constantLong (cS c) i v ∈ gwT := by
  obtain ⟨pl, hm⟩ := pkG_mem h
  exact wAt_good (List.all_eq_true.mp chL_ok _ hm) rfl
set_option maxHeartbeats 4000000 in
theorem so_act {f pc : Nat} {ls st : List Value} {h : aH} {a : aA} (e : act f pc ls st h = some a) : aOK f pc ls st h a := by
  unfold act at e
  split at e
  · rename_i i n hd
    unfold actI at e
    split at e
    · replace e := icN_some e; obtain ⟨rfl, e⟩ := e
      cases nx_some e
      exact aMv_p fun base D K p l e R s m args below meth c Q cells slots lsr H locs cx hl hh kk => lv_iconst cx.1 cx.2.1 hd rfl kk
    · replace e := icN_some e; obtain ⟨rfl, e⟩ := e
      cases nx_some e
      exact aMv_p fun base D K p l e R s m args below meth c Q cells slots lsr H locs cx hl hh kk => lv_bipush cx.1 cx.2.1 hd rfl kk
    · replace e := icN_some e; obtain ⟨rfl, e⟩ := e
      cases nx_some e
      exact aMv_p fun base D K p l e R s m args below meth c Q cells slots lsr H locs cx hl hh kk => lv_sipush cx.1 cx.2.1 hd rfl kk
    · replace e := icN_some e; obtain ⟨rfl, e⟩ := e
      cases nx_some e
      exact aMv_p fun base D K p l e R s m args below meth c Q cells slots lsr H locs cx hl hh kk => lv_lconst cx.1 cx.2.1 hd rfl kk
    · replace e := icN_some e; obtain ⟨rfl, e⟩ := e
      split at e
      · rename_i v hp
        cases nx_some e
        exact aMv_p fun base D K p l e R s m args below meth c Q cells slots lsr H locs cx hl hh kk => lv_ldc cx.1 cx.2.1 cx.2.2.2.1 (cx.2.2.2.2.1 _ (pI_ok hp)) hd kk
      · cases e
    · replace e := icN_some e; obtain ⟨rfl, e⟩ := e
      split at e
      · rename_i v hp
        cases nx_some e
        exact aMv_p fun base D K p l e R s m args below meth c Q cells slots lsr H locs cx hl hh kk => lv_ldcw cx.1 cx.2.1 cx.2.2.2.1 (cx.2.2.2.2.1 _ (pI_ok hp)) hd kk
      · cases e
    · replace e := icN_some e; obtain ⟨rfl, e⟩ := e
      split at e
      · rename_i v hp
        cases nx_some e
        exact aMv_p fun base D K p l e R s m args below meth c Q cells slots lsr H locs cx hl hh kk => lv_ldc2 cx.1 cx.2.1 cx.2.2.2.1 (cx.2.2.2.2.1 _ (pL_ok hp)) hd kk
      · cases e
    · replace e := icN_some e; obtain ⟨rfl, e⟩ := e
      exact so_ldI hd (Or.inl ⟨_, rfl, rfl, rfl, rfl⟩) e
    · replace e := icN_some e; obtain ⟨rfl, e⟩ := e
      exact so_ldI hd (Or.inr ⟨rfl, rfl, rfl⟩) e
    · replace e := icN_some e; obtain ⟨rfl, e⟩ := e
      exact so_ldA hd (Or.inl ⟨_, rfl, rfl, rfl, rfl⟩) e
    · replace e := icN_some e; obtain ⟨rfl, e⟩ := e
      exact so_ldA hd (Or.inr ⟨rfl, rfl, rfl⟩) e
    · replace e := icN_some e; obtain ⟨rfl, e⟩ := e
      exact so_ldL hd e
    · replace e := icN_some e; obtain ⟨rfl, e⟩ := e
      exact so_stI hd (Or.inl ⟨_, rfl, rfl, rfl, rfl⟩) e
    · replace e := icN_some e; obtain ⟨rfl, e⟩ := e
      exact so_stI hd (Or.inr ⟨rfl, rfl, rfl⟩) e
    · replace e := icN_some e; obtain ⟨rfl, e⟩ := e
      exact so_stA hd (Or.inl ⟨_, rfl, rfl, rfl, rfl⟩) e
    · replace e := icN_some e; obtain ⟨rfl, e⟩ := e
      exact so_stA hd (Or.inr ⟨rfl, rfl, rfl⟩) e
    · replace e := icN_some e; obtain ⟨rfl, e⟩ := e
      exact so_stL hd e
    · replace e := icN_some e; obtain ⟨rfl, e⟩ := e
      exact so_iinc hd e
    · replace e := icN_some e; obtain ⟨rfl, e⟩ := e
      obtain ⟨x, y, r, z, rfl, hz, rfl⟩ := op2I_some e
      cases hz
      exact aMv_p fun base D K p l e R s m args below meth c Q cells slots lsr H locs cx hl hh kk => lv_iadd cx.1 cx.2.1 hd kk
    · replace e := icN_some e; obtain ⟨rfl, e⟩ := e
      obtain ⟨x, y, r, z, rfl, hz, rfl⟩ := op2I_some e
      cases hz
      exact aMv_p fun base D K p l e R s m args below meth c Q cells slots lsr H locs cx hl hh kk => lv_isub cx.1 cx.2.1 hd kk
    · replace e := icN_some e; obtain ⟨rfl, e⟩ := e
      obtain ⟨x, y, r, z, rfl, hz, rfl⟩ := op2I_some e
      cases hz
      exact aMv_p fun base D K p l e R s m args below meth c Q cells slots lsr H locs cx hl hh kk => lv_imul cx.1 cx.2.1 hd kk
    · replace e := icN_some e; obtain ⟨rfl, e⟩ := e
      obtain ⟨x, y, r, z, rfl, hz, rfl⟩ := op2I_some e
      split at hz
      · cases hz
      · rename_i hy
        cases hz
        exact aMv_p fun base D K p l e R s m args below meth c Q cells slots lsr H locs cx hl hh kk => lv_idiv cx.1 cx.2.1 hd hy kk
    · replace e := icN_some e; obtain ⟨rfl, e⟩ := e
      obtain ⟨x, y, r, z, rfl, hz, rfl⟩ := op2I_some e
      split at hz
      · cases hz
      · rename_i hy
        cases hz
        exact aMv_p fun base D K p l e R s m args below meth c Q cells slots lsr H locs cx hl hh kk => lv_irem cx.1 cx.2.1 hd hy kk
    · replace e := icN_some e; obtain ⟨rfl, e⟩ := e
      obtain ⟨x, y, r, z, rfl, hz, rfl⟩ := op2I_some e
      cases hz
      exact aMv_p fun base D K p l e R s m args below meth c Q cells slots lsr H locs cx hl hh kk => lv_iand cx.1 cx.2.1 hd kk
    · replace e := icN_some e; obtain ⟨rfl, e⟩ := e
      obtain ⟨x, y, r, z, rfl, hz, rfl⟩ := op2I_some e
      cases hz
      exact aMv_p fun base D K p l e R s m args below meth c Q cells slots lsr H locs cx hl hh kk => lv_ior cx.1 cx.2.1 hd kk
    · replace e := icN_some e; obtain ⟨rfl, e⟩ := e
      obtain ⟨x, y, r, z, rfl, hz, rfl⟩ := op2I_some e
      cases hz
      exact aMv_p fun base D K p l e R s m args below meth c Q cells slots lsr H locs cx hl hh kk => lv_ixor cx.1 cx.2.1 hd kk
    · replace e := icN_some e; obtain ⟨rfl, e⟩ := e
      obtain ⟨x, y, r, z, rfl, hz, rfl⟩ := op2I_some e
      cases hz
      exact aMv_p fun base D K p l e R s m args below meth c Q cells slots lsr H locs cx hl hh kk => lv_ishl cx.1 cx.2.1 hd kk
    · replace e := icN_some e; obtain ⟨rfl, e⟩ := e
      obtain ⟨x, y, r, z, rfl, hz, rfl⟩ := op2I_some e
      cases hz
      exact aMv_p fun base D K p l e R s m args below meth c Q cells slots lsr H locs cx hl hh kk => lv_ishr cx.1 cx.2.1 hd kk
    · replace e := icN_some e; obtain ⟨rfl, e⟩ := e
      obtain ⟨x, y, r, z, rfl, hz, rfl⟩ := op2I_some e
      cases hz
      exact aMv_p fun base D K p l e R s m args below meth c Q cells slots lsr H locs cx hl hh kk => lv_iushr cx.1 cx.2.1 hd rfl kk
    · replace e := icN_some e; obtain ⟨rfl, e⟩ := e
      obtain ⟨x, y, r, z, rfl, hz, rfl⟩ := op2L_some e
      cases hz
      exact aMv_p fun base D K p l e R s m args below meth c Q cells slots lsr H locs cx hl hh kk => lv_ladd cx.1 cx.2.1 hd kk
    · replace e := icN_some e; obtain ⟨rfl, e⟩ := e
      obtain ⟨x, y, r, z, rfl, hz, rfl⟩ := op2L_some e
      cases hz
      exact aMv_p fun base D K p l e R s m args below meth c Q cells slots lsr H locs cx hl hh kk => lv_lmul cx.1 cx.2.1 hd kk
    · replace e := icN_some e; obtain ⟨rfl, e⟩ := e
      obtain ⟨x, y, r, z, rfl, hz, rfl⟩ := op2L_some e
      split at hz
      · cases hz
      · rename_i hy
        cases hz
        exact aMv_p fun base D K p l e R s m args below meth c Q cells slots lsr H locs cx hl hh kk => lv_ldiv cx.1 cx.2.1 hd hy kk
    · replace e := icN_some e; obtain ⟨rfl, e⟩ := e
      obtain ⟨x, y, r, z, rfl, hz, rfl⟩ := op2L_some e
      split at hz
      · cases hz
      · rename_i hy
        cases hz
        exact aMv_p fun base D K p l e R s m args below meth c Q cells slots lsr H locs cx hl hh kk => lv_lrem cx.1 cx.2.1 hd hy kk
    · replace e := icN_some e; obtain ⟨rfl, e⟩ := e
      split at e
      · cases nx_some e
        exact aMv_p fun base D K p l e R s m args below meth c Q cells slots lsr H locs cx hl hh kk => lv_i2l cx.1 cx.2.1 hd rfl kk
      · cases e
    · replace e := icN_some e; obtain ⟨rfl, e⟩ := e
      split at e
      · cases nx_some e
        exact aMv_p fun base D K p l e R s m args below meth c Q cells slots lsr H locs cx hl hh kk => lv_l2i cx.1 cx.2.1 hd rfl kk
      · cases e
    · replace e := icN_some e; obtain ⟨rfl, e⟩ := e
      split at e
      · cases nx_some e
        exact aMv_p fun base D K p l e R s m args below meth c Q cells slots lsr H locs cx hl hh kk => lv_i2c cx.1 cx.2.1 hd rfl kk
      · cases e
    · replace e := icN_some e; obtain ⟨rfl, e⟩ := e
      split at e
      · cases nx_some e
        exact aMv_p fun base D K p l e R s m args below meth c Q cells slots lsr H locs cx hl hh kk => W.lcmp cx.1 cx.2.1 hd kk
      · cases e
    · replace e := icN_some e; obtain ⟨rfl, e⟩ := e
      split at e
      · split at e
        · rename_i hv
          cases nx_some e
          exact aMv_p fun base D K p l e R s m args below meth c Q cells slots lsr H locs cx hl hh kk => lv_dup cx.1 cx.2.1 hd hv kk
        · cases e
      · cases e
    · replace e := icN_some e; obtain ⟨rfl, e⟩ := e
      split at e
      · split at e
        · rename_i hv
          cases nx_some e
          exact aMv_p fun base D K p l e R s m args below meth c Q cells slots lsr H locs cx hl hh kk => lv_dup2_11 cx.1 cx.2.1 hd hv.1 hv.2 kk
        · cases e
      · cases e
    · replace e := icN_some e; obtain ⟨rfl, e⟩ := e
      split at e
      · split at e
        · rename_i hv
          cases nx_some e
          exact aMv_p fun base D K p l e R s m args below meth c Q cells slots lsr H locs cx hl hh kk => lv_pop cx.1 cx.2.1 hd hv kk
        · cases e
      · cases e
    · replace e := icN_some e; obtain ⟨rfl, e⟩ := e
      split at e
      · exact so_ifc hd e
      · cases e
    · replace e := icN_some e; obtain ⟨rfl, e⟩ := e
      split at e
      · exact so_icmp hd e
      · cases e
    · replace e := icN_some e; obtain ⟨rfl, e⟩ := e
      split at e
      · exact so_jmp (fun base D K p l e R s m args below meth c Q cells slots lsr H locs tgt ht cx kk => lv_ifnonnull cx.1 cx.2.1 hd ht kk) e
      · cases nx_some e
        exact aMv_p fun base D K p l e R s m args below meth c Q cells slots lsr H locs cx hl hh kk => lv_ifnonnullN cx.1 cx.2.1 hd kk
      · cases e
    · replace e := icN_some e; obtain ⟨rfl, e⟩ := e
      exact so_jmp (fun base D K p l e R s m args below meth c Q cells slots lsr H locs tgt ht cx kk => lv_goto cx.1 cx.2.1 hd ht kk) e
    · split at e
      · split at e
        · rename_i off ho
          refine so_jmp (fun base D K p l e R s m args below meth c Q cells slots lsr H locs tgt ht cx kk => ?_) e
          unfold tsw at ho
          split at ho
          · rename_i hx
            cases ho
            exact lv_tableOut cx.1 cx.2.1 hd hx ht kk
          · rename_i hx
            exact lv_tableIn cx.1 cx.2.1 hd (fun q => hx (Or.inl q)) (fun q => hx (Or.inr q)) ho ht kk
        · cases e
      · cases e
    · replace e := icN_some e; obtain ⟨rfl, e⟩ := e
      split at e
      · rename_i hp
        exact so_get hd hp e
      · cases e
    · replace e := icN_some e; obtain ⟨rfl, e⟩ := e
      split at e
      · rename_i hp
        split at e
        · rename_i hf
          exact so_put hd hp hf e
        · cases e
      · cases e
    · replace e := icN_some e; obtain ⟨rfl, e⟩ := e
      split at e
      · exact so_iald hd e
      · cases e
    · replace e := icN_some e; obtain ⟨rfl, e⟩ := e
      split at e
      · exact so_zald hd e
      · cases e
    · replace e := icN_some e; obtain ⟨rfl, e⟩ := e
      split at e
      · exact so_cald hd e
      · cases e
    · replace e := icN_some e; obtain ⟨rfl, e⟩ := e
      split at e
      · exact so_aald hd e
      · cases e
    · replace e := icN_some e; obtain ⟨rfl, e⟩ := e
      split at e
      · exact so_iast hd e
      · cases e
    · replace e := icN_some e; obtain ⟨rfl, e⟩ := e
      split at e
      · exact so_zast hd e
      · cases e
    · replace e := icN_some e; obtain ⟨rfl, e⟩ := e
      split at e
      · exact so_cast hd e
      · cases e
    · replace e := icN_some e; obtain ⟨rfl, e⟩ := e
      split at e
      · exact so_aast hd e
      · cases e
    · replace e := icN_some e; obtain ⟨rfl, e⟩ := e
      split at e
      · exact so_alen hd e
      · cases e
    · replace e := icN_some e; obtain ⟨rfl, e⟩ := e
      split at e
      · rename_i ht
        exact so_newa hd ht e
      · cases e
    · replace e := icN_some e; obtain ⟨rfl, e⟩ := e
      split at e
      · rename_i hp
        split at e
        · rename_i ht
          exact so_newq hd hp ht e
        · cases e
      · cases e
    · replace e := icN_some e; obtain ⟨rfl, e⟩ := e
      split at e
      · rename_i hp
        exact so_new hd hp e
      · cases e
    · replace e := icN_some e; obtain ⟨rfl, e⟩ := e
      exact so_invV hd e
    · replace e := icN_some e; obtain ⟨rfl, e⟩ := e
      exact so_invS hd e
    · replace e := icN_some e; obtain ⟨rfl, e⟩ := e
      exact so_invI hd e
    · replace e := icN_some e; obtain ⟨rfl, e⟩ := e
      split at e
      · unfold retK at e
        split at e
        · rename_i hr
          cases e
          exact ⟨rfl, rfl, Or.inl ⟨hd, _, rfl, hr⟩⟩
        · cases e
      · cases e
    · replace e := icN_some e; obtain ⟨rfl, e⟩ := e
      split at e
      · split at e
        · rename_i hr
          cases e
          exact ⟨rfl, rfl, Or.inr (Or.inl ⟨hd, hr, _, rfl⟩)⟩
        · cases e
      · cases e
    · replace e := icN_some e; obtain ⟨rfl, e⟩ := e
      split at e
      · split at e
        · rename_i hr
          cases e
          exact ⟨rfl, rfl, Or.inr (Or.inr ⟨hd, hr, rfl⟩)⟩
        · cases e
      · cases e
    · cases e
  · cases e
end
section
theorem arun_grow : ∀ (n f pc : Nat) (ls st : List Value) (h : aH) (r : aR), arun n f pc ls st h = some r → h.1 ≤ r.2.1 ∧ h.2.1 ≤ r.2.2.1 := by
  intro n
  induction n with
  | zero => intro f pc ls st h r e; cases e
  | succ n ih =>
    intro f pc ls st h r e
    unfold arun at e
    cases ha : act f pc ls st h with
    | none => rw [ha] at e; cases e
    | some q =>
      rw [ha] at e
      have ok := so_act ha
      rcases q with q | q | q
      · cases e
        rw [ok.1]
        exact ⟨Nat.le_refl _, Nat.le_refl _⟩
      · have h1 := ih _ _ _ _ _ _ e
        exact ⟨Nat.le_trans ok.1 h1.1, Nat.le_trans ok.2.1 h1.2⟩
      · dsimp only at e
        obtain ⟨vs, -, -, h2, -⟩ := ok
        cases hc : arun n q.1.1 0 q.1.2.1 [] q.1.2.2 with
        | none => rw [hc] at e; cases e
        | some r1 =>
          rw [hc] at e
          have h1 := ih _ _ _ _ _ _ hc
          have h3 := ih _ _ _ _ _ _ e
          rw [h2] at h1
          exact ⟨Nat.le_trans h1.1 h3.1, Nat.le_trans h1.2 h3.2⟩
/-- what a method's end asks -/
def aEnd (base : Nat) (D : va_G) (K : Nat → ClassId) (f : Nat) (p : Program) (l : Launch) (e : Env) (R : Room) (s : State) (m : MethodId) (args : Array Value) (below : List Frame) (meth : Method) (c : Code) (Q : State → Prop) (cells slots : Nat) (r : aR) : Prop :=
  ∀ (pc : Nat) (lsr : Array Slot) (H : Heap) (locs : List Loc), aRet f pc r.1 → aHp base D K s r.2 H → va_S (fun q => base ≤ q) s.heap H locs → W p l e R s m args below meth c H locs cells slots Q (F0 m pc lsr r.1.toList)
def aPc (base : Nat) (D : va_G) (K : Nat → ClassId) (h : aH) (vs : List Value) : Array Value → State → Prop := va_Pc vs (fun U => aHp base D K U h U.heap ∧ va_K D vwCl (aTy K) U ∧ aNw U ∧ base ≤ U.heap.size)
def aQc (base : Nat) (D : va_G) (K : Nat → ClassId) (r : aR) : Array Value → State → Outcome → State → Prop := fun _ st o t => o = .returned r.1 ∧ aHp base D K t r.2 t.heap ∧ va_F (fun q => base ≤ q) st t
theorem aPc_blind {base : Nat} {D : va_G} {K : Nat → ClassId} {h : aH} {vs : List Value} : FrameBlind (aPc base D K h vs) := by
  rintro a U g mk ⟨h1, h2, h3, h4, h5⟩
  exact ⟨h1, aHp.moved (u := U) (U := U.calling g mk a) (Vm.Alike.refl U.vm) h2, va_K.moved (u := U) (U := U.calling g mk a) (Vm.Alike.refl U.vm) h3, aNw.warm (s := U) (U := U.calling g mk a) (State.WarmedH.refl U) h4, h5⟩
def aSound (n : Nat) : Prop := ∀ (f pc : Nat) (ls st : List Value) (h : aH) (r : aR), arun n f pc ls st h = some r →
  ∀ (base : Nat) (D : va_G) (K : Nat → ClassId) (p : Program) (l : Launch) (e : Env) (R : Room) (s : State) (m : MethodId) (args : Array Value) (below : List Frame) (meth : Method) (c : Code) (Q : State → Prop) (cells slots : Nat), aCx D K f p R s m args meth c → base ≤ s.heap.size → cells + (r.2.1 - h.1) ≤ R.cells → slots + (r.2.2.1 - h.2.1) ≤ R.slots →
    aEnd base D K f p l e R s m args below meth c Q (cells + (r.2.1 - h.1)) (slots + (r.2.2.1 - h.2.1)) r → aGo base D K f p l e R s m args below meth c Q cells slots pc ls st h
theorem met_of {n : Nat} (ih : aSound n) {g : Nat} (hg : g < 189) {vs : List Value} (hv : (aSl vs).length ≤ mL g) {h : aH} {r : aR} (e : arun n g 0 (aEnt (mL g) vs) [] h = some r) (l : Launch) (base : Nat) (D : va_G) (K : Nat → ClassId) :
    Met l (yN g) (wsO g) { frames := fRm g, cells := r.2.1 - h.1, slots := r.2.2.1 - h.2.1, locals := lRm g } (aPc base D K h vs) (aQc base D K r) (r.2.1 - h.1) (r.2.2.1 - h.2.1) (fun q => base ≤ q) := by
  obtain ⟨q, hq, hY⟩ := mtY hg
  obtain ⟨y1, y2, y3, y4, y5, y6, y7, y8, y9⟩ := mtF hY
  refine Met.ofW (cc := cd g) (maxL := mL g) (ret := rT g) y7 rfl ?_
  intro p e' s m args below meth c s₁ B hml hp
  obtain ⟨rfl, hh, hK, hnw, hbs⟩ := hp
  have hr := B.returns
  have hlocks := B.notSynchronized
  have cx : aCx D K g p (headSpec (wsO g) { frames := fRm g, cells := r.2.1 - h.1, slots := r.2.2.1 - h.2.1, locals := lRm g }).room s m vs.toArray meth c :=
    ⟨B.exec, B.bytes, hml, by rw [← y6]; exact findClass_of_methodNamed B.named, fun w hw => atoms_spec (ws := wsO g) B.pre w (List.mem_cons_of_mem _ hw), hnw, fun z => (name_of_methodNamed B.named B.method).1.trans z, hK, Nat.le_refl _, Nat.le_refl _⟩
  rw [lg_entry_eq]
  refine ih g 0 _ [] h r e base D K p l e' _ s m vs.toArray below meth c _ 0 0 cx hbs (by rw [Nat.zero_add]; exact Nat.le_refl _) (by rw [Nat.zero_add]; exact Nat.le_refl _) ?_ _ s.heap [] (lsR.entry hv) hh va_S.rf
  intro pc lsr H locs hret hh' hS
  rw [Nat.zero_add, Nat.zero_add]
  have hq : ∀ v, r.1 = v → ∀ t : State, t.heap = H → s.WarmedH t.vm → aQc base D K r vs.toArray s (.returned v) t := by
    rintro v rfl t ht hW
    refine ⟨rfl, ?_, hS.F ht⟩
    rw [ht]
    exact hh'.moved hW.alike
  rcases hret with ⟨hd, x, hx, hrt⟩ | ⟨hd, hrt, x, hx⟩ | ⟨hd, hrt, hx⟩
  · rw [hx]
    rcases hrt with hrt | ⟨hrt, hx01⟩
    · exact W.iret B.exec B.bytes (hr.trans hrt) (hq _ hx) hS.2.2 hd hlocks
    · refine W.zret B.exec B.bytes (hr.trans hrt) ?_ (hq _ hx) hS.2.2 hd hlocks
      rcases hx01 with rfl | rfl <;> rfl
  · rw [hx]
    exact W.lret B.exec B.bytes (hr.trans hrt) (hq _ hx) hS.2.2 hd hlocks
  · rw [hx]
    exact W.vret B.exec B.bytes (hr.trans hrt) (hq _ hx) hS.2.2 hd hlocks
theorem sound : ∀ n, aSound n := by
  intro n
  induction n with
  | zero => intro f pc ls st h r e; cases e
  | succ n ih =>
    intro f pc ls st h r e
    have hgrow := arun_grow _ _ _ _ _ _ _ e
    unfold arun at e
    cases ha : act f pc ls st h with
    | none => rw [ha] at e; cases e
    | some q =>
      rw [ha] at e
      have ok := so_act ha
      intro base D K p l en R s m args below meth c Q cells slots cx hbs hc1 hc2 hend
      rcases q with q | q | q
      · cases e
        obtain ⟨h1, h2, h3⟩ := ok
        intro lsr H locs hl hh hS
        have h4 := hend pc lsr H locs h3 (by rw [h1]; exact hh) hS
        rw [h1, Nat.sub_self, Nat.sub_self, Nat.add_zero, Nat.add_zero] at h4
        rw [h2]
        exact h4
      · obtain ⟨g1, g2, mv⟩ := ok
        have h1 := arun_grow _ _ _ _ _ _ _ e
        have e1 : cells + (q.2.2.2.1 - h.1) + (r.2.1 - q.2.2.2.1) = cells + (r.2.1 - h.1) := by omega
        have e2 : slots + (q.2.2.2.2.1 - h.2.1) + (r.2.2.1 - q.2.2.2.2.1) = slots + (r.2.2.1 - h.2.1) := by omega
        refine mv base D K p l en R s m args below meth c Q cells slots cx hbs (by omega) (by omega) ?_
        exact ih _ _ _ _ _ _ e base D K p l en R s m args below meth c Q _ _ cx hbs (by rw [e1]; exact hc1) (by rw [e2]; exact hc2) (by rw [e1, e2]; exact hend)
      · dsimp only at e
        obtain ⟨⟨g, gl, gh⟩, pc', ls', rest⟩ := q
        obtain ⟨vs, hg, h1, h2, h3, h4, hvs, hcall⟩ := ok
        dsimp only at e h1 h2 h3 h4 hvs hcall
        subst h1; subst h2; subst h3; subst h4
        cases hc : arun n g 0 (aEnt (mL g) vs) [] gh with
        | none => rw [hc] at e; cases e
        | some r1 =>
          rw [hc] at e
          dsimp only at e
          have g1 := arun_grow _ _ _ _ _ _ _ hc
          have g2 := arun_grow _ _ _ _ _ _ _ e
          intro lsr H locs hl hh hS T hT X
          have hM := met_of ih hg hvs hc l base D K
          have hS1 := hS.1
          obtain ⟨v, st₀, t, T', L, i1, X', i2, i3, i4, ⟨i5, i6, i7⟩, i8⟩ := hcall base D K p l en R s m args below meth c cells slots lsr H locs _ _ _ _ _ cx hl.2.1 hh hM aPc_blind
            (fun U hU hW => ⟨rfl, by rw [hU]; exact hh.moved hW.alike, va_K.moved hW.alike cx.2.2.2.2.2.2.2.1, cx.2.2.2.2.2.1.warm hW, by rw [hU]; exact Nat.le_trans hbs hS1⟩) ⟨by omega, by omega⟩ T hT X
          have hv : v = r1.1 := Outcome.returned.inj i5
          subst hv
          have hal : t.vm.Alike s.vm := by rw [← i4]; exact X'.warmed.alike.symm
          have e1 : cells + (r1.2.1 - gh.1) + (r.2.1 - r1.2.1) = cells + (r.2.1 - gh.1) := by omega
          have e2 : slots + (r1.2.2.1 - gh.2.1) + (r.2.2.1 - r1.2.2.1) = slots + (r.2.2.1 - gh.2.1) := by omega
          have hgo := ih _ _ _ _ _ _ e base D K p l en R s m args below meth c Q (cells + (r1.2.1 - gh.1)) (slots + (r1.2.2.1 - gh.2.1)) cx hbs (by rw [e1]; exact hc1) (by rw [e2]; exact hc2) (by rw [e1, e2]; exact hend)
          obtain ⟨t2, a1, b1⟩ := hgo lsr t.heap (locs ++ L) hl (i6.moved hal) ⟨Nat.le_trans hS1 (by rw [← i1]; exact i7.1), fun q z1 z2 => (i7.2 q (by rw [i1]; exact Nat.lt_of_lt_of_le z1 hS1) z2).trans (by rw [i1]; exact hS.2.1 q z1 z2), fun q hq => (List.mem_append.mp hq).elim (hS.2.2 q) (i2 q)⟩ T' i3 X'
          exact ⟨t2, i8 t2 a1, b1⟩
end
section
/-! THE CLAIM OUT OF ONE WALK OF THE LAW'S BODY. Your part is whole_start (and what it stands on); all else here is the same for every law, but numbers. -/
def R_law : String := "CodedRelaysLaw"
def lw_P (b : Addr) (xs : List Int32) (args : Array Value) (s : State) : Prop := args = #[.ref b] ∧ s.IntsAt b xs ∧ xs.length ≤ 2048 ∧ (Jvm.Cond.and given_1 narrow_1).before args s = true
def lw_Q (_ : Array Value) (s : State) (o : Outcome) (t : State) : Prop := o = .returned (some (.int 1)) ∧ Framed s o t [] 600000 7302250
def lw_Z (below : List Frame) (a : Array Value) (s : State) : State → Prop := fun t => ∃ o, t.status = .running ∧ Ended t below o ∧ lw_Q a s o t
/-- the law's own end, with 1 on the stack, nothing written that was there before, its room as the claim has it -/
theorem lw_ret {p : Program} {l : Launch} {e : Env} {s : State} {m : MethodId} {below : List Frame} {meth : Method} {c : Code} {b : Nat} (hx : p.tables.exec = Jvm.exec) (hb : c.code = code) (hr : meth.sig.returnType = ret) (hlocks : meth.locks = false) {pc : Nat} {H : Heap} {ls : Array Slot} (hdg : decode code pc = .ok (.ireturn, 1)) : W p l e room_1 s m #[Value.ref b] below meth c H [] 600000 7302250 (lw_Z below #[Value.ref b] s) (F0 m pc ls [.int 1]) := by
  intro T hT X
  obtain ⟨fs, hret, hrun, hended, hW, hframe⟩ := X.leave (v := some (.int 1)) (hlocks := hlocks) (fun h => by rw [hr] at h; cases h)
  have hmeth' : T.vm.method? m = some meth := X.method'
  refine ⟨T.setFrames fs, ?_, .returned (some (.int 1)), hrun, hended, rfl, ⟨_, rfl⟩, hW, hframe⟩
  jvm_step X.here [X.here.top, hx, hb, hdg, hmeth', hr, ret, narrow_b1]
  (try refine ⟨rfl, ?_⟩); (try refine ⟨rfl, ?_⟩)
  first | (intro acts; rw [hret _ acts rfl rfl rfl]) | rw [hret _ _ rfl rfl rfl]
  exact Steps.refl _
/-- what holds at the law's entry: the machine, the code, the tables' words (any of lw_tbl by 'hts w (by decide +kernel)'), the script of L ints xs at the cell b, what the Statement gives of the start (any of its parts by flat_of_before) -/
def lw_At (p : Program) (s : State) (m : MethodId) (meth : Method) (c : Code) (b L : Nat) (xs : Nat → Int32) : Prop :=
  p.tables.exec = Jvm.exec ∧ c.code = code ∧ meth.sig.returnType = ret ∧ c.maxLocals = 4 ∧ s.vm.findClass R_law = some m.cls ∧ (∀ w ∈ lw_tbl, w.before #[Value.ref b] s = true) ∧ va_X b L xs s s.heap ∧ b < s.heap.size ∧ meth.locks = false ∧ (Jvm.Cond.and given_1 narrow_1).before #[Value.ref b] s = true

/-- what the law must come to, said of the abstract machine -/
def aLaw : Prop := ∀ (L b a0 : Nat) (xs : Nat → Int32), L ≤ 2048 → b < a0 → ∃ h' : aH, run 189 0 [.ref b, .null, .null, .null] [] (a0, 0, fun q => if q = b then some (.inl (9, L, .inl xs)) else none) = some (some (.int 1), h') ∧ h'.1 - a0 ≤ 600000 ∧ h'.2.1 ≤ 7302250
theorem aT_prim {s : State} {args : Array Value} {ty : FieldType} (h : (Cond.arrayClass ty).before args s = true) (hp : ∀ C, ty ≠ .object C) : ∃ c, ArrOfT s c ty ∧ va_RA s c ty := by
  obtain ⟨c, k, comp, h1, h2, h3⟩ := Cond.arrayClass_spec h
  refine ⟨c, fun n z => ⟨fun q h => (by cases h), k, h2, comp, h3⟩, ?_⟩
  cases ty <;> first | exact h1 | exact absurd rfl (hp _)
theorem aT_obj {s : State} {args : Array Value} {C : String} (h : (Cond.arrayOver (.object C)).before args s = true) : ∃ c, ArrOfT s c (.object C) ∧ va_RA s c (.object C) := by
  obtain ⟨comp, c, k, h1, h2, h3, h4, h5⟩ := Cond.arrayOver_spec h
  exact ⟨c, fun n z => ⟨fun q h => (by cases h), k, h3, comp, h4⟩, k, comp, h3, h4, h1, h5⟩
set_option maxRecDepth 100000 in
theorem whole_open (hLaw : aLaw) {p : Program} {e : Env} {s : State} {m : MethodId} {below : List Frame} {meth : Method} {c : Code} (l : Launch) {b L : Nat} {xs : Nat → Int32} (hL : L ≤ 2048) (C0 : lw_At p s m meth c b L xs) : W p l e room_1 s m #[Value.ref b] below meth c s.heap [] 0 0 (lw_Z below #[Value.ref b] s) (entryFrame m ([Value.ref b] : List Value).toArray 4) := by
  obtain ⟨hx, hb, hr, hml, hown, hts, hX, hbl, hlocks, hgv⟩ := C0
  obtain ⟨h', hrun, hc1, hc2⟩ := hLaw L b s.heap.size xs hL hbl
  obtain ⟨n, hn⟩ := run_iff.mp hrun
  have hts' : ∀ w ∈ gwT, w.before #[Value.ref b] s = true := fun w hw => hts w (List.mem_filter.mp hw).1
  have kn : ∀ ci, ∃ q : ClassId × (Nat → Nat), ci < 8 → u_Kn s (cS ci) (TXf ci) (nFl.getD ci 0) q.1 q.2 := by
    intro ci
    by_cases h8 : ci < 8
    · obtain ⟨c0, iS, h⟩ := u_known hts' (clK h8).2.2 (hts' _ (clK h8).2.1)
      exact ⟨(c0, iS), fun _ => h⟩
    · exact ⟨(0, fun _ => 0), fun h => absurd h h8⟩
  have hD : ∃ D : va_G, ∀ ci, ci < 8 → u_Kn s (cS ci) (TXf ci) (nFl.getD ci 0) (D.1 ci) (D.2 ci) := ⟨(fun ci => (Classical.choose (kn ci)).1, fun ci => (Classical.choose (kn ci)).2), fun ci h => Classical.choose_spec (kn ci) h⟩
  obtain ⟨D, hD⟩ := hD
  obtain ⟨k0, a0⟩ := aT_prim (hts' _ ch_ar.1) (by intro C h; cases h)
  obtain ⟨k1, a1⟩ := aT_prim (hts' _ ch_ar.2.1) (by intro C h; cases h)
  obtain ⟨k2, a2⟩ := aT_prim (hts' _ ch_ar.2.2) (by intro C h; cases h)
  obtain ⟨k3, a3⟩ := aT_obj (hts _ ch_ao.1)
  obtain ⟨k4, a4⟩ := aT_obj (hts _ ch_ao.2.1)
  obtain ⟨k5, a5⟩ := aT_obj (hts _ ch_ao.2.2)
  let K : Nat → ClassId := fun t => [k0, k1, k2, k3, k4, k5].getD t 0
  have hK : va_K D vwCl (aTy K) s := by
    constructor
    · intro ci q hq
      have h8 : ci < 8 := (List.getElem?_eq_some_iff.mp hq).1
      rw [clAt h8] at hq
      cases hq
      exact hD ci h8
    · intro k q hq
      match k, hq with
      | 0, hq => cases hq; exact a0
      | 1, hq => cases hq; exact a1
      | 2, hq => cases hq; exact a2
      | 3, hq => cases hq; exact a3
      | 4, hq => cases hq; exact a4
      | 5, hq => cases hq; exact a5
      | k + 6, hq => simp [aTy] at hq
  have hnw : aNw s := by
    intro w hw hn
    have h1 := hts w hw
    unfold isNw at hn
    split at hn
    · exact va_Nw.of rfl h1
    · exact va_Nw.of rfl h1
    · exact va_AO.of h1
    · cases hn
  have cx : aCx D K 189 p room_1 s m #[Value.ref b] meth c :=
    ⟨hx, hb, hml, hown, hts', hnw, fun z => absurd z (by decide +kernel), hK, by decide +kernel, by decide +kernel⟩
  rw [lg_entry_eq]
  have hl : lsR (mL 189) (aEnt 4 [Value.ref b]) _ := lsR.entry (n := 4) (vs := [Value.ref b]) (Nat.le_of_ble_eq_true rfl)
  refine sound n 189 0 (aEnt 4 [Value.ref b]) [] _ _ hn s.heap.size D K p l e room_1 s m #[Value.ref b] below meth c _ 0 0 cx (Nat.le_refl _) (by rw [Nat.zero_add]; exact hc1) (by rw [Nat.zero_add]; exact hc2) ?_ _ s.heap [] hl ?_ va_S.rf
  · intro pc lsr H locs hret hh' hS
    refine va_forget (fun q hq => hS.2.2 q hq) ?_
    refine W.widen (k := 600000) (n := 7302250) (by rw [Nat.zero_add]; exact hc1) (by rw [Nat.zero_add]; exact hc2) ?_
    rcases hret with ⟨hd, -⟩ | ⟨-, -, x, hx⟩ | ⟨-, -, hx⟩
    · exact lw_ret hx hb hr hlocks hd
    · cases hx
    · cases hx
  · refine ⟨rfl, Nat.le_refl _, fun a c hc => ?_⟩
    unfold hget at hc
    dsimp only at hc
    by_cases ha : a = b
    · rw [if_pos ha] at hc
      cases hc
      subst ha
      exact Or.inl ⟨rfl, hbl, L, xs, rfl, hX⟩
    · rw [if_neg ha] at hc
      cases hc
end
section
/-! equations of 'run', one for each kind of instruction -/
theorem run_nx {f pc pc' : Nat} {ls st ls' st' : List Value} {h h' : aH} (e : act f pc ls st h = nx pc' ls' st' h') : run f pc ls st h = run f pc' ls' st' h' := by
  rw [run_eq, e]; rfl
theorem act_d {f pc n : Nat} {i : Instr} {ls st : List Value} {h : aH} (d : decode (cd f) pc = .ok (i, n)) : act f pc ls st h = actI f pc i n ls st h := by unfold act; rw [d]
section Eq1
variable {f pc : Nat} {ls st : List Value} {h : aH}
theorem e_iconst {k : Int} {v : Int32} (d : decode (cd f) pc = .ok (.iconst k, 1)) (hv : Int32.ofInt k = v) : run f pc ls st h = run f (pc + 1) ls (.int v :: st) h := run_nx (by rw [act_d d, ← hv]; rfl)
theorem e_bipush {k : Int} {v : Int32} (d : decode (cd f) pc = .ok (.bipush k, 2)) (hv : (Int8.ofInt k).toInt32 = v) : run f pc ls st h = run f (pc + 2) ls (.int v :: st) h := run_nx (by rw [act_d d, ← hv]; rfl)
theorem e_sipush {k : Int} {v : Int32} (d : decode (cd f) pc = .ok (.sipush k, 3)) (hv : (Int16.ofInt k).toInt32 = v) : run f pc ls st h = run f (pc + 3) ls (.int v :: st) h := run_nx (by rw [act_d d, ← hv]; rfl)
theorem e_lconst {k : Fin 2} {v : Int64} (d : decode (cd f) pc = .ok (.lconst k, 1)) (hv : Int64.ofNat (k : Nat) = v) : run f pc ls st h = run f (pc + 1) ls (.long v :: st) h := run_nx (by rw [act_d d, ← hv]; rfl)
theorem e_ldc {k : Nat} {v : Int32} (d : decode (cd f) pc = .ok (.ldc k, 2)) (hv : pkG pI (cN f) k = some v) : run f pc ls st h = run f (pc + 2) ls (.int v :: st) h := run_nx (by rw [act_d d]; show (match pkG pI (cN f) k with | some v => nx (pc + 2) ls (.int v :: st) h | none => none) = _; rw [hv])
theorem e_ldc_w {k : Nat} {v : Int32} (d : decode (cd f) pc = .ok (.ldc_w k, 3)) (hv : pkG pI (cN f) k = some v) : run f pc ls st h = run f (pc + 3) ls (.int v :: st) h := run_nx (by rw [act_d d]; show (match pkG pI (cN f) k with | some v => nx (pc + 3) ls (.int v :: st) h | none => none) = _; rw [hv])
theorem e_ldc2_w {k : Nat} {v : Int64} (d : decode (cd f) pc = .ok (.ldc2_w k, 3)) (hv : pkG pL (cN f) k = some v) : run f pc ls st h = run f (pc + 3) ls (.long v :: st) h := run_nx (by rw [act_d d]; show (match pkG pL (cN f) k with | some v => nx (pc + 3) ls (.long v :: st) h | none => none) = _; rw [hv])
theorem e_iload_n {k : Fin 4} {x : Int32} (d : decode (cd f) pc = .ok (.iload_n k, 1)) (hl : ls[(k : Nat)]? = some (.int x)) : run f pc ls st h = run f (pc + 1) ls (.int x :: st) h := run_nx (by rw [act_d d]; show ldI _ _ _ _ _ = _; unfold ldI; rw [hl])
theorem e_iload {k : Nat} {x : Int32} (d : decode (cd f) pc = .ok (.iload k, 2)) (hl : ls[k]? = some (.int x)) : run f pc ls st h = run f (pc + 2) ls (.int x :: st) h := run_nx (by rw [act_d d]; show ldI _ _ _ _ _ = _; unfold ldI; rw [hl])
theorem e_aload_n {k : Fin 4} {x : Nat} (d : decode (cd f) pc = .ok (.aload_n k, 1)) (hl : ls[(k : Nat)]? = some (.ref x)) : run f pc ls st h = run f (pc + 1) ls (.ref x :: st) h := run_nx (by rw [act_d d]; show ldA _ _ _ _ _ = _; unfold ldA; rw [hl])
theorem e_aload {k : Nat} {x : Nat} (d : decode (cd f) pc = .ok (.aload k, 2)) (hl : ls[k]? = some (.ref x)) : run f pc ls st h = run f (pc + 2) ls (.ref x :: st) h := run_nx (by rw [act_d d]; show ldA _ _ _ _ _ = _; unfold ldA; rw [hl])
theorem e_lload_n {k : Fin 4} {x : Int64} (d : decode (cd f) pc = .ok (.lload_n k, 1)) (hl : ls[(k : Nat)]? = some (.long x)) (hl2 : ls[(k : Nat) + 1]? = some (.retAddr 0)) : run f pc ls st h = run f (pc + 1) ls (.long x :: st) h := run_nx (by rw [act_d d]; show ldL _ _ _ _ _ = _; unfold ldL; rw [hl, hl2]; rfl)
theorem e_istore_n {k : Fin 4} {x : Int32} (d : decode (cd f) pc = .ok (.istore_n k, 1)) (hl : (k : Nat) < ls.length) : run f pc ls (.int x :: st) h = run f (pc + 1) (ls.set k (.int x)) st h := run_nx (by rw [act_d d]; show (if (k : Nat) < ls.length then nx (pc + 1) (ls.set (k : Nat) (.int x)) st h else none) = _; rw [if_pos hl])
theorem e_istore {k : Nat} {x : Int32} (d : decode (cd f) pc = .ok (.istore k, 2)) (hl : k < ls.length) : run f pc ls (.int x :: st) h = run f (pc + 2) (ls.set k (.int x)) st h := run_nx (by rw [act_d d]; show (if k < ls.length then nx (pc + 2) (ls.set k (.int x)) st h else none) = _; rw [if_pos hl])
theorem e_astore_n {k : Fin 4} {x : Nat} (d : decode (cd f) pc = .ok (.astore_n k, 1)) (hl : (k : Nat) < ls.length) : run f pc ls (.ref x :: st) h = run f (pc + 1) (ls.set k (.ref x)) st h := run_nx (by rw [act_d d]; show (if (k : Nat) < ls.length then nx (pc + 1) (ls.set (k : Nat) (.ref x)) st h else none) = _; rw [if_pos hl])
theorem e_astore {k : Nat} {x : Nat} (d : decode (cd f) pc = .ok (.astore k, 2)) (hl : k < ls.length) : run f pc ls (.ref x :: st) h = run f (pc + 2) (ls.set k (.ref x)) st h := run_nx (by rw [act_d d]; show (if k < ls.length then nx (pc + 2) (ls.set k (.ref x)) st h else none) = _; rw [if_pos hl])
theorem e_lstore_n {k : Fin 4} {x : Int64} (d : decode (cd f) pc = .ok (.lstore_n k, 1)) (hl : (k : Nat) + 1 < ls.length) : run f pc ls (.long x :: st) h = run f (pc + 1) ((ls.set k (.long x)).set ((k : Nat) + 1) (.retAddr 0)) st h := run_nx (by rw [act_d d]; show (if (k : Nat) + 1 < ls.length then nx (pc + 1) ((ls.set k (.long x)).set ((k : Nat) + 1) (.retAddr 0)) st h else none) = _; rw [if_pos hl])
theorem e_iinc {k : Nat} {z : Int} {x v : Int32} (d : decode (cd f) pc = .ok (.iinc k z, 3)) (hl : ls[k]? = some (.int x)) (hv : Int32.ofInt z = v) : run f pc ls st h = run f (pc + 3) (ls.set k (.int (x + v))) st h := run_nx (by rw [act_d d, ← hv]; show (match ls[k]? with | some (.int x) => nx (pc + 3) (ls.set k (.int (x + Int32.ofInt z))) st h | _ => none) = _; rw [hl])
theorem e_iadd {x y : Int32} (d : decode (cd f) pc = .ok (.iadd, 1)) : run f pc ls (.int y :: .int x :: st) h = run f (pc + 1) ls (.int (x + y) :: st) h := run_nx (by rw [act_d d]; rfl)
theorem e_isub {x y : Int32} (d : decode (cd f) pc = .ok (.isub, 1)) : run f pc ls (.int y :: .int x :: st) h = run f (pc + 1) ls (.int (x - y) :: st) h := run_nx (by rw [act_d d]; rfl)
theorem e_imul {x y : Int32} (d : decode (cd f) pc = .ok (.imul, 1)) : run f pc ls (.int y :: .int x :: st) h = run f (pc + 1) ls (.int (x * y) :: st) h := run_nx (by rw [act_d d]; rfl)
theorem e_iand {x y : Int32} (d : decode (cd f) pc = .ok (.iand, 1)) : run f pc ls (.int y :: .int x :: st) h = run f (pc + 1) ls (.int (x &&& y) :: st) h := run_nx (by rw [act_d d]; rfl)
theorem e_ior {x y : Int32} (d : decode (cd f) pc = .ok (.ior, 1)) : run f pc ls (.int y :: .int x :: st) h = run f (pc + 1) ls (.int (x ||| y) :: st) h := run_nx (by rw [act_d d]; rfl)
theorem e_ixor {x y : Int32} (d : decode (cd f) pc = .ok (.ixor, 1)) : run f pc ls (.int y :: .int x :: st) h = run f (pc + 1) ls (.int (x ^^^ y) :: st) h := run_nx (by rw [act_d d]; rfl)
theorem e_ishl {x y : Int32} (d : decode (cd f) pc = .ok (.ishl, 1)) : run f pc ls (.int y :: .int x :: st) h = run f (pc + 1) ls (.int (x <<< (y &&& 31)) :: st) h := run_nx (by rw [act_d d]; rfl)
theorem e_ishr {x y : Int32} (d : decode (cd f) pc = .ok (.ishr, 1)) : run f pc ls (.int y :: .int x :: st) h = run f (pc + 1) ls (.int (x >>> (y &&& 31)) :: st) h := run_nx (by rw [act_d d]; rfl)
theorem e_iushr {x y : Int32} (d : decode (cd f) pc = .ok (.iushr, 1)) : run f pc ls (.int y :: .int x :: st) h = run f (pc + 1) ls (.int (x.toUInt32 >>> (y.toUInt32 &&& Int32.toUInt32 31)).toInt32 :: st) h := run_nx (by rw [act_d d]; rfl)
theorem e_idiv {x y : Int32} (d : decode (cd f) pc = .ok (.idiv, 1)) : run f pc ls (.int y :: .int x :: st) h = if y = 0 then none else run f (pc + 1) ls (.int (x / y) :: st) h := by
  rw [run_eq, act_d d, show actI f pc .idiv 1 ls (.int y :: .int x :: st) h = op2I (fun x y => if y = 0 then none else some (x / y)) pc ls (.int y :: .int x :: st) h from rfl]; unfold op2I; dsimp only; by_cases hy : y = 0
  · rw [if_pos hy, if_pos hy]
  · rw [if_neg hy, if_neg hy]; rfl
theorem e_irem {x y : Int32} (d : decode (cd f) pc = .ok (.irem, 1)) : run f pc ls (.int y :: .int x :: st) h = if y = 0 then none else run f (pc + 1) ls (.int (x - x / y * y) :: st) h := by
  rw [run_eq, act_d d, show actI f pc .irem 1 ls (.int y :: .int x :: st) h = op2I (fun x y => if y = 0 then none else some (x - x / y * y)) pc ls (.int y :: .int x :: st) h from rfl]; unfold op2I; dsimp only; by_cases hy : y = 0
  · rw [if_pos hy, if_pos hy]
  · rw [if_neg hy, if_neg hy]; rfl
theorem e_ladd {x y : Int64} (d : decode (cd f) pc = .ok (.ladd, 1)) : run f pc ls (.long y :: .long x :: st) h = run f (pc + 1) ls (.long (x + y) :: st) h := run_nx (by rw [act_d d]; rfl)
theorem e_lmul {x y : Int64} (d : decode (cd f) pc = .ok (.lmul, 1)) : run f pc ls (.long y :: .long x :: st) h = run f (pc + 1) ls (.long (x * y) :: st) h := run_nx (by rw [act_d d]; rfl)
theorem e_ldiv {x y : Int64} (d : decode (cd f) pc = .ok (.ldiv, 1)) : run f pc ls (.long y :: .long x :: st) h = if y = 0 then none else run f (pc + 1) ls (.long (x / y) :: st) h := by
  rw [run_eq, act_d d, show actI f pc .ldiv 1 ls (.long y :: .long x :: st) h = op2L (fun x y => if y = 0 then none else some (x / y)) pc ls (.long y :: .long x :: st) h from rfl]; unfold op2L; dsimp only; by_cases hy : y = 0
  · rw [if_pos hy, if_pos hy]
  · rw [if_neg hy, if_neg hy]; rfl
theorem e_lrem {x y : Int64} (d : decode (cd f) pc = .ok (.lrem, 1)) : run f pc ls (.long y :: .long x :: st) h = if y = 0 then none else run f (pc + 1) ls (.long (x - x / y * y) :: st) h := by
  rw [run_eq, act_d d, show actI f pc .lrem 1 ls (.long y :: .long x :: st) h = op2L (fun x y => if y = 0 then none else some (x - x / y * y)) pc ls (.long y :: .long x :: st) h from rfl]; unfold op2L; dsimp only; by_cases hy : y = 0
  · rw [if_pos hy, if_pos hy]
  · rw [if_neg hy, if_neg hy]; rfl
theorem e_i2l {x : Int32} (d : decode (cd f) pc = .ok (.i2l, 1)) : run f pc ls (.int x :: st) h = run f (pc + 1) ls (.long x.toInt64 :: st) h := run_nx (by rw [act_d d]; rfl)
theorem e_l2i {x : Int64} (d : decode (cd f) pc = .ok (.l2i, 1)) : run f pc ls (.long x :: st) h = run f (pc + 1) ls (.int x.toInt32 :: st) h := run_nx (by rw [act_d d]; rfl)
theorem e_i2c {x : Int32} (d : decode (cd f) pc = .ok (.i2c, 1)) : run f pc ls (.int x :: st) h = run f (pc + 1) ls (.int (x.toUInt32 % 65536).toInt32 :: st) h := run_nx (by rw [act_d d]; rfl)
theorem e_lcmp {x y : Int64} (d : decode (cd f) pc = .ok (.lcmp, 1)) : run f pc ls (.long y :: .long x :: st) h = run f (pc + 1) ls (.int (lg_cmp x y) :: st) h := run_nx (by rw [act_d d]; rfl)
theorem e_dup {v : Value} (d : decode (cd f) pc = .ok (.dup, 1)) (hv : v.category = 1) : run f pc ls (v :: st) h = run f (pc + 1) ls (v :: v :: st) h := run_nx (by rw [act_d d]; show (if v.category = 1 then nx (pc + 1) ls (v :: v :: st) h else none) = _; rw [if_pos hv])
theorem e_dup2 {v w : Value} (d : decode (cd f) pc = .ok (.dup2, 1)) (hv : v.category = 1) (hw : w.category = 1) : run f pc ls (v :: w :: st) h = run f (pc + 1) ls (v :: w :: v :: w :: st) h := run_nx (by rw [act_d d]; show (if v.category = 1 ∧ w.category = 1 then nx (pc + 1) ls (v :: w :: v :: w :: st) h else none) = _; rw [if_pos ⟨hv, hw⟩])
theorem e_pop {v : Value} (d : decode (cd f) pc = .ok (.pop, 1)) (hv : v.category = 1) : run f pc ls (v :: st) h = run f (pc + 1) ls st h := run_nx (by rw [act_d d]; show (if v.category = 1 then nx (pc + 1) ls st h else none) = _; rw [if_pos hv])
theorem e_br {b : Bool} {off : Int} {tgt : Nat} (ht : (pc : Int) + off = (tgt : Int)) : br b pc off ls st h = if b = true then nx tgt ls st h else nx (pc + 3) ls st h := by
  unfold br
  rw [ht, if_pos (Int.natCast_nonneg _), Int.toNat_natCast]
theorem e_brR {b : Bool} {off : Int} {tgt : Nat} {P : Prop} (dP : Decidable P) (hb : b = true ↔ P) (ht : (pc : Int) + off = (tgt : Int)) {st0 : List Value} (e : act f pc ls st0 h = br b pc off ls st h) : run f pc ls st0 h = @ite _ P dP (run f tgt ls st h) (run f (pc + 3) ls st h) := by
  rw [run_eq, e, e_br ht]
  by_cases hp : P
  · rw [if_pos hp, if_pos (hb.mpr hp)]; rfl
  · rw [if_neg hp, if_neg (fun q => hp (hb.mp q))]; rfl
theorem e_icmp_eq {x y : Int32} {off : Int} {tgt : Nat} (d : decode (cd f) pc = .ok (.if_icmp .eq off, 3)) (ht : (pc : Int) + off = (tgt : Int)) : run f pc ls (.int y :: .int x :: st) h = if x = y then run f tgt ls st h else run f (pc + 3) ls st h := e_brR _ (by simp [cmpI]) ht (by rw [act_d d]; rfl : _ = br (cmpI .eq x y) pc off ls st h)
theorem e_icmp_ne {x y : Int32} {off : Int} {tgt : Nat} (d : decode (cd f) pc = .ok (.if_icmp .ne off, 3)) (ht : (pc : Int) + off = (tgt : Int)) : run f pc ls (.int y :: .int x :: st) h = if x = y then run f (pc + 3) ls st h else run f tgt ls st h := by
  rw [e_brR (P := ¬ x = y) inferInstance (by simp [cmpI]) ht (by rw [act_d d]; rfl : _ = br (cmpI .ne x y) pc off ls st h)]
  by_cases hp : x = y <;> simp [hp]
theorem e_icmp_lt {x y : Int32} {off : Int} {tgt : Nat} (d : decode (cd f) pc = .ok (.if_icmp .lt off, 3)) (ht : (pc : Int) + off = (tgt : Int)) : run f pc ls (.int y :: .int x :: st) h = if x < y then run f tgt ls st h else run f (pc + 3) ls st h := e_brR _ (by simp [cmpI]) ht (by rw [act_d d]; rfl : _ = br (cmpI .lt x y) pc off ls st h)
theorem e_icmp_ge {x y : Int32} {off : Int} {tgt : Nat} (d : decode (cd f) pc = .ok (.if_icmp .ge off, 3)) (ht : (pc : Int) + off = (tgt : Int)) : run f pc ls (.int y :: .int x :: st) h = if x < y then run f (pc + 3) ls st h else run f tgt ls st h := by
  rw [e_brR (P := y ≤ x) inferInstance (by simp [cmpI]) ht (by rw [act_d d]; rfl : _ = br (cmpI .ge x y) pc off ls st h)]
  by_cases hp : x < y
  · rw [if_pos hp, if_neg (Int32.not_le.mpr hp)]
  · rw [if_neg hp, if_pos (Int32.not_lt.mp hp)]
theorem e_icmp_gt {x y : Int32} {off : Int} {tgt : Nat} (d : decode (cd f) pc = .ok (.if_icmp .gt off, 3)) (ht : (pc : Int) + off = (tgt : Int)) : run f pc ls (.int y :: .int x :: st) h = if y < x then run f tgt ls st h else run f (pc + 3) ls st h := e_brR _ (by simp [cmpI]) ht (by rw [act_d d]; rfl : _ = br (cmpI .gt x y) pc off ls st h)
theorem e_icmp_le {x y : Int32} {off : Int} {tgt : Nat} (d : decode (cd f) pc = .ok (.if_icmp .le off, 3)) (ht : (pc : Int) + off = (tgt : Int)) : run f pc ls (.int y :: .int x :: st) h = if y < x then run f (pc + 3) ls st h else run f tgt ls st h := by
  rw [e_brR (P := x ≤ y) inferInstance (by simp [cmpI]) ht (by rw [act_d d]; rfl : _ = br (cmpI .le x y) pc off ls st h)]
  by_cases hp : y < x
  · rw [if_pos hp, if_neg (Int32.not_le.mpr hp)]
  · rw [if_neg hp, if_pos (Int32.not_lt.mp hp)]
theorem e_if_eq {x : Int32} {off : Int} {tgt : Nat} (d : decode (cd f) pc = .ok (.ifCond .eq off, 3)) (ht : (pc : Int) + off = (tgt : Int)) : run f pc ls (.int x :: st) h = if x = 0 then run f tgt ls st h else run f (pc + 3) ls st h := e_brR _ (by simp [cmpI]) ht (by rw [act_d d]; rfl : _ = br (cmpI .eq x 0) pc off ls st h)
theorem e_if_ne {x : Int32} {off : Int} {tgt : Nat} (d : decode (cd f) pc = .ok (.ifCond .ne off, 3)) (ht : (pc : Int) + off = (tgt : Int)) : run f pc ls (.int x :: st) h = if x = 0 then run f (pc + 3) ls st h else run f tgt ls st h := by
  rw [e_brR (P := ¬ x = 0) inferInstance (by simp [cmpI]) ht (by rw [act_d d]; rfl : _ = br (cmpI .ne x 0) pc off ls st h)]
  by_cases hp : x = 0 <;> simp [hp]
theorem e_if_lt {x : Int32} {off : Int} {tgt : Nat} (d : decode (cd f) pc = .ok (.ifCond .lt off, 3)) (ht : (pc : Int) + off = (tgt : Int)) : run f pc ls (.int x :: st) h = if x < 0 then run f tgt ls st h else run f (pc + 3) ls st h := e_brR _ (by simp [cmpI]) ht (by rw [act_d d]; rfl : _ = br (cmpI .lt x 0) pc off ls st h)
theorem e_if_ge {x : Int32} {off : Int} {tgt : Nat} (d : decode (cd f) pc = .ok (.ifCond .ge off, 3)) (ht : (pc : Int) + off = (tgt : Int)) : run f pc ls (.int x :: st) h = if x < 0 then run f (pc + 3) ls st h else run f tgt ls st h := by
  rw [e_brR (P := 0 ≤ x) inferInstance (by simp [cmpI]) ht (by rw [act_d d]; rfl : _ = br (cmpI .ge x 0) pc off ls st h)]
  by_cases hp : x < 0
  · rw [if_pos hp, if_neg (Int32.not_le.mpr hp)]
  · rw [if_neg hp, if_pos (Int32.not_lt.mp hp)]
theorem e_if_gt {x : Int32} {off : Int} {tgt : Nat} (d : decode (cd f) pc = .ok (.ifCond .gt off, 3)) (ht : (pc : Int) + off = (tgt : Int)) : run f pc ls (.int x :: st) h = if 0 < x then run f tgt ls st h else run f (pc + 3) ls st h := e_brR _ (by simp [cmpI]) ht (by rw [act_d d]; rfl : _ = br (cmpI .gt x 0) pc off ls st h)
theorem e_if_le {x : Int32} {off : Int} {tgt : Nat} (d : decode (cd f) pc = .ok (.ifCond .le off, 3)) (ht : (pc : Int) + off = (tgt : Int)) : run f pc ls (.int x :: st) h = if 0 < x then run f (pc + 3) ls st h else run f tgt ls st h := by
  rw [e_brR (P := x ≤ 0) inferInstance (by simp [cmpI]) ht (by rw [act_d d]; rfl : _ = br (cmpI .le x 0) pc off ls st h)]
  by_cases hp : 0 < x
  · rw [if_pos hp, if_neg (Int32.not_le.mpr hp)]
  · rw [if_neg hp, if_pos (Int32.not_lt.mp hp)]
theorem e_jmp {off : Int} {tgt : Nat} (ht : (pc : Int) + off = (tgt : Int)) : jmp pc off ls st h = nx tgt ls st h := by
  unfold jmp
  rw [ht, if_pos (Int.natCast_nonneg _), Int.toNat_natCast]
theorem e_goto {off : Int} {tgt : Nat} (d : decode (cd f) pc = .ok (.goto off, 3)) (ht : (pc : Int) + off = (tgt : Int)) : run f pc ls st h = run f tgt ls st h := run_nx (by rw [act_d d]; exact e_jmp ht)
theorem e_nonnull {off : Int} {tgt b : Nat} (d : decode (cd f) pc = .ok (.ifnonnull off, 3)) (ht : (pc : Int) + off = (tgt : Int)) : run f pc ls (.ref b :: st) h = run f tgt ls st h := run_nx (by rw [act_d d]; exact e_jmp ht)
theorem e_null {off : Int} (d : decode (cd f) pc = .ok (.ifnonnull off, 3)) : run f pc ls (.null :: st) h = run f (pc + 3) ls st h := run_nx (by rw [act_d d]; rfl)
theorem e_switch {d0 lo hi off : Int} {offs : Array Int} {n tgt : Nat} {x : Int32} (d : decode (cd f) pc = .ok (.tableswitch d0 lo hi offs, n)) (hx : tsw d0 lo hi offs x = some off) (ht : (pc : Int) + off = (tgt : Int)) : run f pc ls (.int x :: st) h = run f tgt ls st h := run_nx (by rw [act_d d]; show (match tsw d0 lo hi offs x with | some off => jmp pc off ls st h | none => none) = _; rw [hx]; exact e_jmp ht)
end Eq1
end
section
/-! equations of 'run': fields, rows, what is made, calls, ends -/
noncomputable def rA (f : Nat) (a : Option aA) : Option aR := match a with
    | none => none
    | some (.inl r) => some r
    | some (.inr (.inl q)) => run f q.1 q.2.1 q.2.2.1 q.2.2.2
    | some (.inr (.inr q)) => bK (run q.1.1 0 q.1.2.1 [] q.1.2.2) (fun v h1 => run f q.2.1 q.2.2.1 (v.toList ++ q.2.2.2) h1)
theorem run_rA {f pc n : Nat} {i : Instr} {ls st : List Value} {h : aH} (d : decode (cd f) pc = .ok (i, n)) : run f pc ls st h = rA f (actI f pc i n ls st h) := by rw [run_eq, act_d d]; rfl
def puK {α : Type} (ci k : Nat) (o : Option aC) (v : Value) (K : aC → Option α) : Option α := match o with
  | some (.inr (c, fs)) => if c = ci ∧ k < fs.length then K (.inr (c, fs.set k v)) else none
  | _ => none
theorem rA_gf {f ci k : Nat} {o : Option aC} {K : Value → Option aA} : rA f (gfK ci k o K) = gfK ci k o (fun v => rA f (K v)) := by
  unfold gfK
  split
  · split
    · split <;> rfl
    · rfl
  · rfl
theorem rA_pf {f ci k : Nat} {o : Option aC} {v : Value} {K : aC → Option aA} : rA f (pfK ci k o v K) = pfK ci k o v (fun c => rA f (K c)) := by
  unfold pfK
  split
  · split <;> rfl
  · rfl
theorem pf_pu {α : Type} {ci k : Nat} {o : Option aC} {v : Value} {K : aC → Option α} (hn : narrow (tyXf ci k) v = v) (hf : fits (tyXf ci k) v = true) : pfK ci k o v K = puK ci k o v K := by
  cases o with
  | none => rfl
  | some q =>
    cases q with
    | inl q => rfl
    | inr q =>
      obtain ⟨c, fs⟩ := q
      show (if c = ci ∧ k < fs.length ∧ narrow (tyXf ci k) v = v ∧ fits (tyXf ci k) v = true then K (.inr (c, fs.set k v)) else none) = (if c = ci ∧ k < fs.length then K (.inr (c, fs.set k v)) else none)
      by_cases h1 : c = ci ∧ k < fs.length
      · rw [if_pos h1, if_pos ⟨h1.1, h1.2, hn, hf⟩]
      · rw [if_neg h1, if_neg (fun q => h1 ⟨q.1, q.2.1⟩)]
theorem rA_al {f : Nat} {i : Int32} {o : Option aC} {p : Nat → Bool} {K : Int32 → Option aA} : rA f (alK i o p K) = alK i o p (fun x => rA f (K x)) := by
  unfold alK
  split
  · split <;> rfl
  · rfl
theorem rA_alQ {f : Nat} {i : Int32} {o : Option aC} {K : Value → Option aA} : rA f (alQ i o K) = alQ i o (fun x => rA f (K x)) := by
  unfold alQ
  split
  · split <;> rfl
  · rfl
theorem rA_as {f t0 : Nat} {i x : Int32} {o : Option aC} {K : aC → Option aA} : rA f (asK i o t0 x K) = asK i o t0 x (fun c => rA f (K c)) := by
  unfold asK
  split
  · split <;> rfl
  · rfl
theorem rA_asQ {f v : Nat} {i : Int32} {o ov : Option aC} {K : aC → Option aA} : rA f (asQ i o v ov K) = asQ i o v ov (fun c => rA f (K c)) := by
  unfold asQ
  split
  · split <;> rfl
  · rfl
theorem rA_len {f : Nat} {o : Option aC} {K : Nat → Option aA} : rA f (lenK o K) = lenK o (fun c => rA f (K c)) := by
  unfold lenK
  split
  · split <;> rfl
  · rfl
theorem rA_cc {f : Nat} {sp dp n : Int32} {o d : Option aC} {K : aC → Option aA} : rA f (ccK sp dp n o d K) = ccK sp dp n o d (fun c => rA f (K c)) := by
  unfold ccK
  split
  · split <;> rfl
  · rfl
theorem rA_rc {f ci : Nat} {o : Option aC} {K : Option aA} : rA f (rcK ci o K) = rcK ci o (rA f K) := by
  unfold rcK
  split
  · split <;> rfl
  · rfl
section Eq2
variable {f pc : Nat} {ls st : List Value} {h : aH}
theorem e_get {k ci j a : Nat} (d : decode (cd f) pc = .ok (.getfield k, 3)) (hp : pkG pF (cN f) k = some (ci, j)) : run f pc ls (.ref a :: st) h = gfK ci j (hget h a) (fun v => run f (pc + 3) ls (v :: st) h) := by
  rw [run_rA d, show actI f pc (.getfield k) 3 ls (.ref a :: st) h = (match pkG pF (cN f) k, (Value.ref a :: st : List Value) with | some (ci, j), .ref a :: r => gfK ci j (hget h a) (fun v => nx (pc + 3) ls (v :: r) h) | _, _ => none) from rfl, hp]
  exact rA_gf
theorem e_putK {k ci j a : Nat} {v : Value} (d : decode (cd f) pc = .ok (.putfield k, 3)) (hp : pkG pF (cN f) k = some (ci, j)) (hf : (TXf ci j).2.2.2 = false ∨ ((yN f).name = "<init>" ∧ ci = cN f ∧ cN f < 8)) : run f pc ls (v :: .ref a :: st) h = pfK ci j (hget h a) v (fun c => run f (pc + 3) ls st (hset h a c)) := by
  rw [run_rA d, show actI f pc (.putfield k) 3 ls (v :: .ref a :: st) h = (match pkG pF (cN f) k, (v :: Value.ref a :: st : List Value) with
    | some (ci, j), v :: .ref a :: r => if (TXf ci j).2.2.2 = false ∨ ((yN f).name = "<init>" ∧ ci = cN f ∧ cN f < 8) then pfK ci j (hget h a) v (fun c => nx (pc + 3) ls r (hset h a c)) else none
    | _, _ => none) from rfl, hp]
  dsimp only
  rw [if_pos hf]
  exact rA_pf
theorem e_put {k ci j a : Nat} {v : Value} (d : decode (cd f) pc = .ok (.putfield k, 3)) (hp : pkG pF (cN f) k = some (ci, j)) (hf : (TXf ci j).2.2.2 = false ∨ ((yN f).name = "<init>" ∧ ci = cN f ∧ cN f < 8)) (hn : narrow (tyXf ci j) v = v) (hv : fits (tyXf ci j) v = true) : run f pc ls (v :: .ref a :: st) h = puK ci j (hget h a) v (fun c => run f (pc + 3) ls st (hset h a c)) := by
  rw [e_putK d hp hf]
  exact pf_pu hn hv
theorem e_iald {i : Int32} {a : Nat} (d : decode (cd f) pc = .ok (.iaload, 1)) : run f pc ls (.int i :: .ref a :: st) h = alK i (hget h a) (fun t => t == 0 || t == 9) (fun x => run f (pc + 1) ls (.int x :: st) h) := by
  rw [run_rA d]; exact rA_al (f := f) (i := i) (o := hget h a) (p := (fun t => t == 0 || t == 9)) (K := fun x => nx (pc + 1) ls (.int x :: st) h)
theorem e_zald {i : Int32} {a : Nat} (d : decode (cd f) pc = .ok (.baload, 1)) : run f pc ls (.int i :: .ref a :: st) h = alK i (hget h a) (fun t => t == 1) (fun x => run f (pc + 1) ls (.int x :: st) h) := by
  rw [run_rA d]; exact rA_al (f := f) (i := i) (o := hget h a) (p := (fun t => t == 1)) (K := fun x => nx (pc + 1) ls (.int x :: st) h)
theorem e_cald {i : Int32} {a : Nat} (d : decode (cd f) pc = .ok (.caload, 1)) : run f pc ls (.int i :: .ref a :: st) h = alK i (hget h a) (fun t => t == 2) (fun x => run f (pc + 1) ls (.int x :: st) h) := by
  rw [run_rA d]; exact rA_al (f := f) (i := i) (o := hget h a) (p := (fun t => t == 2)) (K := fun x => nx (pc + 1) ls (.int x :: st) h)
theorem e_aald {i : Int32} {a : Nat} (d : decode (cd f) pc = .ok (.aaload, 1)) : run f pc ls (.int i :: .ref a :: st) h = alQ i (hget h a) (fun v => run f (pc + 1) ls (v :: st) h) := by
  rw [run_rA d]; exact rA_alQ (f := f) (i := i) (o := hget h a) (K := fun v => nx (pc + 1) ls (v :: st) h)
theorem e_iast {x i : Int32} {a : Nat} (d : decode (cd f) pc = .ok (.iastore, 1)) : run f pc ls (.int x :: .int i :: .ref a :: st) h = asK i (hget h a) 0 x (fun c => run f (pc + 1) ls st (hset h a c)) := by
  rw [run_rA d]; exact rA_as (f := f) (i := i) (o := hget h a) (t0 := 0) (x := x) (K := fun c => nx (pc + 1) ls st (hset h a c))
theorem e_zast {x i : Int32} {a : Nat} (d : decode (cd f) pc = .ok (.bastore, 1)) : run f pc ls (.int x :: .int i :: .ref a :: st) h = asK i (hget h a) 1 (vp_nar .boolean x) (fun c => run f (pc + 1) ls st (hset h a c)) := by
  rw [run_rA d]; exact rA_as (f := f) (i := i) (o := hget h a) (t0 := 1) (x := (vp_nar .boolean x)) (K := fun c => nx (pc + 1) ls st (hset h a c))
theorem e_cast {x i : Int32} {a : Nat} (d : decode (cd f) pc = .ok (.castore, 1)) : run f pc ls (.int x :: .int i :: .ref a :: st) h = asK i (hget h a) 2 (vp_nar .char x) (fun c => run f (pc + 1) ls st (hset h a c)) := by
  rw [run_rA d]; exact rA_as (f := f) (i := i) (o := hget h a) (t0 := 2) (x := (vp_nar .char x)) (K := fun c => nx (pc + 1) ls st (hset h a c))
theorem e_aast {v : Nat} {i : Int32} {a : Nat} (d : decode (cd f) pc = .ok (.aastore, 1)) : run f pc ls (.ref v :: .int i :: .ref a :: st) h = asQ i (hget h a) v (hget h v) (fun c => run f (pc + 1) ls st (hset h a c)) := by
  rw [run_rA d]; exact rA_asQ (f := f) (i := i) (o := hget h a) (v := v) (ov := hget h v) (K := fun c => nx (pc + 1) ls st (hset h a c))
theorem e_alen {a : Nat} (d : decode (cd f) pc = .ok (.arraylength, 1)) : run f pc ls (.ref a :: st) h = lenK (hget h a) (fun z => run f (pc + 1) ls (.int (nI z) :: st) h) := by
  rw [run_rA d]; exact rA_len (f := f) (o := hget h a) (K := fun z => nx (pc + 1) ls (.int (Int32.ofNat z) :: st) h)
theorem e_newa {t : ArrayType} {k z : Nat} (d : decode (cd f) pc = .ok (.newarray t, 2)) (ht : arT t = some k) (hz : z ≤ 10000) : run f pc ls (.int (nI z) :: st) h = run f (pc + 2) ls (.ref h.1 :: st) (hnew h z (.inl (k, z, .inl (fun _ => 0)))) := by
  rw [run_rA d, show actI f pc (.newarray t) 2 ls (.int (nI z) :: st) h = (match arT t, (Value.int (nI z) :: st : List Value) with
    | some k, .int z :: r => if ¬ z < 0 ∧ z.toNatClampNeg ≤ 10000 then nx (pc + 2) ls (.ref h.1 :: r) (hnew h z.toNatClampNeg (.inl (k, z.toNatClampNeg, .inl (fun _ => 0)))) else none
    | _, _ => none) from rfl, ht]
  dsimp only
  have hz2 : z < 2 ^ 31 := Nat.lt_of_le_of_lt hz (by decide)
  rw [nI_clamp hz2, if_pos ⟨nI_pos hz2, hz⟩]
  rfl
theorem e_newq {k ci j t z : Nat} (d : decode (cd f) pc = .ok (.anewarray k, 3)) (hp : pkG pC (cN f) k = some (ci, j)) (ht : anT ci = some t) (hz : z ≤ 10000) : run f pc ls (.int (nI z) :: st) h = run f (pc + 3) ls (.ref h.1 :: st) (hnew h z (.inl (t, z, .inr (fun _ => none)))) := by
  rw [run_rA d, show actI f pc (.anewarray k) 3 ls (.int (nI z) :: st) h = (match pkG pC (cN f) k, (Value.int (nI z) :: st : List Value) with
    | some (ci, _), .int z :: r => match anT ci with
      | some t => if ¬ z < 0 ∧ z.toNatClampNeg ≤ 10000 then nx (pc + 3) ls (.ref h.1 :: r) (hnew h z.toNatClampNeg (.inl (t, z.toNatClampNeg, .inr (fun _ => none)))) else none
      | none => none
    | _, _ => none) from rfl, hp]
  dsimp only
  have hz2 : z < 2 ^ 31 := Nat.lt_of_le_of_lt hz (by decide)
  rw [ht]
  dsimp only
  rw [nI_clamp hz2, if_pos ⟨nI_pos hz2, hz⟩]
  rfl
theorem e_new {k ci j n : Nat} {fs : List Value} (d : decode (cd f) pc = .ok (.new k, 3)) (hp : pkG pC (cN f) k = some (ci, j)) (hn : nFl.getD ci 0 = n) (hf : (List.range n).map (fun j => dfl (tyXf ci j)) = fs) : run f pc ls st h = run f (pc + 3) ls (.ref h.1 :: st) (hnew h n (.inr (ci, fs))) := by
  rw [run_rA d, show actI f pc (.new k) 3 ls st h = (match pkG pC (cN f) k with
    | some (ci, _) => nx (pc + 3) ls (.ref h.1 :: st) (hnew h (nFl.getD ci 0) (.inr (ci, (List.range (nFl.getD ci 0)).map (fun j => dfl (tyXf ci j)))))
    | none => none) from rfl, hp]
  dsimp only
  rw [hn, hf]
  rfl
theorem rA_call {g : Nat} {vs rest lsg : List Value} (hR : (fRm g + 1 ≤ fRm f ∧ 8 + (mL g + 11) + lRm g ≤ lRm f) ∧ catS rest ≤ 8 ∧ (aSl vs).length ≤ mL g) (hls : aEnt (mL g) vs = lsg) : rA f (callK f g vs (pc + 3) ls rest h) = bK (run g 0 lsg [] h) (fun v h1 => run f (pc + 3) ls (v.toList ++ rest) h1) := by
  unfold callK
  rw [if_pos ⟨hR.1.1, hR.1.2, hR.2.1, hR.2.2⟩, hls]
  rfl
theorem e_callV {k g n b : Nat} {vs rest lsg : List Value} (d : decode (cd f) pc = .ok (.invokevirtual k, 3)) (hp : pkG pM (cN f) k = some (g, n)) (hm : (mtP.getD g (0, 0, 99999, 0, true)).2.2.2.2 = false ∧ (mtP.getD g (0, 0, 99999, 0, true)).2.2.1 ≠ 99999 ∧ (yN g).name ≠ "<init>") (hr : fRm g + 1 ≤ fRm f ∧ 8 + (mL g + 11) + lRm g ≤ lRm f) (hdr : st.drop n = .ref b :: rest) (hle : n ≤ st.length) (hvs : .ref b :: (st.take n).reverse = vs) (hR : catS rest ≤ 8 ∧ (aSl vs).length ≤ mL g) (hls : aEnt (mL g) vs = lsg) :
    run f pc ls st h = rcK (cN g) (hget h b) (bK (run g 0 lsg [] h) (fun v h1 => run f (pc + 3) ls (v.toList ++ rest) h1)) := by
  rw [run_rA d, show actI f pc (.invokevirtual k) 3 ls st h = invV f k (pc + 3) ls st h from rfl]
  unfold invV
  rw [hp]
  dsimp only
  rw [hdr]
  dsimp only
  rw [if_pos ⟨hle, hm⟩, rA_rc, hvs, rA_call ⟨hr, hR⟩ hls]
theorem e_callS {k g n : Nat} {vs rest lsg : List Value} (d : decode (cd f) pc = .ok (.invokestatic k, 3)) (hp : pkG pM (cN f) k = some (g, n)) (hm : (mtP.getD g (0, 0, 99999, 0, false)).2.2.2.2 = true) (hr : fRm g + 1 ≤ fRm f ∧ 8 + (mL g + 11) + lRm g ≤ lRm f) (hdr : st.drop n = rest) (hle : n ≤ st.length) (hvs : (st.take n).reverse = vs) (hR : catS rest ≤ 8 ∧ (aSl vs).length ≤ mL g) (hls : aEnt (mL g) vs = lsg) :
    run f pc ls st h = bK (run g 0 lsg [] h) (fun v h1 => run f (pc + 3) ls (v.toList ++ rest) h1) := by
  rw [run_rA d, show actI f pc (.invokestatic k) 3 ls st h = invS f k (pc + 3) ls st h from rfl]
  unfold invS
  rw [hp]
  dsimp only
  rw [if_pos ⟨hle, hm⟩, hvs, hdr, rA_call ⟨hr, hR⟩ hls]
theorem e_callI {k g n b : Nat} {vs rest lsg : List Value} (d : decode (cd f) pc = .ok (.invokespecial k, 3)) (hp : pkG pM (cN f) k = some (g, n)) (hm : (mtP.getD g (0, 0, 99999, 0, true)).2.2.2.2 = false ∧ (yN g).name = "<init>" ∧ rT g = none) (hr : fRm g + 1 ≤ fRm f ∧ 8 + (mL g + 11) + lRm g ≤ lRm f) (hdr : st.drop n = .ref b :: rest) (hle : n ≤ st.length) (hvs : .ref b :: (st.take n).reverse = vs) (hR : catS rest ≤ 8 ∧ (aSl vs).length ≤ mL g) (hls : aEnt (mL g) vs = lsg) :
    run f pc ls st h = bK (run g 0 lsg [] h) (fun v h1 => run f (pc + 3) ls (v.toList ++ rest) h1) := by
  rw [run_rA d, show actI f pc (.invokespecial k) 3 ls st h = invI f k (pc + 3) ls st h from rfl]
  unfold invI
  rw [hp]
  dsimp only
  rw [hdr]
  dsimp only
  rw [if_pos ⟨hle, hm⟩, hvs, rA_call ⟨hr, hR⟩ hls]
theorem e_oini {k x b : Nat} (d : decode (cd f) pc = .ok (.invokespecial k, 3)) (hp : pkG pM (cN f) k = none) (hq : pkG pX (cN f) k = some (0, x)) (hr : 1 ≤ fRm f ∧ 20 ≤ lRm f) (hc : catS st ≤ 8) : run f pc ls (.ref b :: st) h = run f (pc + 3) ls st h := by
  rw [run_rA d, show actI f pc (.invokespecial k) 3 ls (.ref b :: st) h = invI f k (pc + 3) ls (.ref b :: st) h from rfl]
  unfold invI
  rw [hp, hq]
  show rA f (if 1 ≤ fRm f ∧ 20 ≤ lRm f ∧ catS st ≤ 8 then nx (pc + 3) ls st h else none) = _
  rw [if_pos ⟨hr.1, hr.2, hc⟩]
  rfl
theorem e_copy {k x a a0 : Nat} {n dp sp : Int32} (d : decode (cd f) pc = .ok (.invokestatic k, 3)) (hp : pkG pM (cN f) k = none) (hq : pkG pX (cN f) k = some (1, x)) (hr : 1 ≤ fRm f ∧ 26 ≤ lRm f) (hc : catS st ≤ 8) : run f pc ls (.int n :: .int dp :: .ref a :: .int sp :: .ref a0 :: st) h = ccK sp dp n (hget h a0) (hget h a) (fun c => run f (pc + 3) ls st (hset h a c)) := by
  rw [run_rA d, show actI f pc (.invokestatic k) 3 ls (.int n :: .int dp :: .ref a :: .int sp :: .ref a0 :: st) h = invS f k (pc + 3) ls (.int n :: .int dp :: .ref a :: .int sp :: .ref a0 :: st) h from rfl]
  unfold invS
  rw [hp, hq]
  show rA f (if 1 ≤ fRm f ∧ 26 ≤ lRm f ∧ catS st ≤ 8 then ccK sp dp n (hget h a0) (hget h a) (fun c => nx (pc + 3) ls st (hset h a c)) else none) = _
  rw [if_pos ⟨hr.1, hr.2, hc⟩]
  exact rA_cc
theorem e_ireturn {x : Int32} (d : decode (cd f) pc = .ok (.ireturn, 1)) (hr : rT f = some .int) : run f pc ls [.int x] h = some (some (.int x), h) := by
  rw [run_rA d, show actI f pc .ireturn 1 ls [.int x] h = retK f x h from rfl]
  unfold retK
  rw [if_pos (Or.inl hr)]
  rfl
theorem e_zreturn {x : Int32} (d : decode (cd f) pc = .ok (.ireturn, 1)) (hr : rT f = some .boolean) : run f pc ls [.int x] h = if x = 0 ∨ x = 1 then some (some (.int x), h) else none := by
  rw [run_rA d, show actI f pc .ireturn 1 ls [.int x] h = retK f x h from rfl]
  unfold retK
  by_cases hx : x = 0 ∨ x = 1
  · rw [if_pos (Or.inr ⟨hr, hx⟩), if_pos hx]
    rfl
  · rw [if_neg, if_neg hx]
    · rfl
    · rintro (q | q)
      · rw [hr] at q; cases q
      · exact hx q.2
theorem e_lreturn {x : Int64} (d : decode (cd f) pc = .ok (.lreturn, 1)) (hr : rT f = some .long) : run f pc ls [.long x] h = some (some (.long x), h) := by
  rw [run_rA d, show actI f pc .lreturn 1 ls [.long x] h = (if rT f = some .long then some (.inl (some (.long x), h)) else none) from rfl, if_pos hr]
  rfl
theorem e_return {x : Unit} (d : decode (cd f) pc = .ok (.return_, 1)) (hr : rT f = none) : run f pc ls [] h = some (none, h) := by
  rw [run_rA d, show actI f pc .return_ 1 ls [] h = (if rT f = none then some (.inl (none, h)) else none) from rfl, if_pos hr]
  rfl
end Eq2
def swT (f pc : Nat) (x : Int32) (tgt : Nat) : Bool := match decode (cd f) pc with
  | .ok (.tableswitch d lo hi offs, _) => match tsw d lo hi offs x with
    | some off => decide ((pc : Int) + off = (tgt : Int))
    | none => false
  | _ => false
theorem e_sw {f pc tgt : Nat} {ls st : List Value} {h : aH} {x : Int32} (hs : swT f pc x tgt = true) : run f pc ls (.int x :: st) h = run f tgt ls st h := by
  unfold swT at hs
  split at hs
  · rename_i d
    split at hs
    · rename_i off ho
      exact e_switch d ho (of_decide_eq_true hs)
    · cases hs
  · cases hs
section K2
variable {α : Type} {ci : Nat}
theorem gf0 {v0 : Value} {r : List Value} {K : Value → Option α} : gfK ci 0 (some (.inr (ci, v0 :: r))) K = K v0 := by simp [gfK]
theorem gf1 {v0 v1 : Value} {r : List Value} {K : Value → Option α} : gfK ci 1 (some (.inr (ci, v0 :: v1 :: r))) K = K v1 := by simp [gfK]
theorem gf2 {v0 v1 v2 : Value} {r : List Value} {K : Value → Option α} : gfK ci 2 (some (.inr (ci, v0 :: v1 :: v2 :: r))) K = K v2 := by simp [gfK]
theorem gf3 {v0 v1 v2 v3 : Value} {r : List Value} {K : Value → Option α} : gfK ci 3 (some (.inr (ci, v0 :: v1 :: v2 :: v3 :: r))) K = K v3 := by simp [gfK]
theorem gf4 {v0 v1 v2 v3 v4 : Value} {r : List Value} {K : Value → Option α} : gfK ci 4 (some (.inr (ci, v0 :: v1 :: v2 :: v3 :: v4 :: r))) K = K v4 := by simp [gfK]
theorem gf5 {v0 v1 v2 v3 v4 v5 : Value} {r : List Value} {K : Value → Option α} : gfK ci 5 (some (.inr (ci, v0 :: v1 :: v2 :: v3 :: v4 :: v5 :: r))) K = K v5 := by simp [gfK]
theorem gf6 {v0 v1 v2 v3 v4 v5 v6 : Value} {r : List Value} {K : Value → Option α} : gfK ci 6 (some (.inr (ci, v0 :: v1 :: v2 :: v3 :: v4 :: v5 :: v6 :: r))) K = K v6 := by simp [gfK]
theorem gf7 {v0 v1 v2 v3 v4 v5 v6 v7 : Value} {r : List Value} {K : Value → Option α} : gfK ci 7 (some (.inr (ci, v0 :: v1 :: v2 :: v3 :: v4 :: v5 :: v6 :: v7 :: r))) K = K v7 := by simp [gfK]
theorem gf8 {v0 v1 v2 v3 v4 v5 v6 v7 v8 : Value} {r : List Value} {K : Value → Option α} : gfK ci 8 (some (.inr (ci, v0 :: v1 :: v2 :: v3 :: v4 :: v5 :: v6 :: v7 :: v8 :: r))) K = K v8 := by simp [gfK]
theorem gf9 {v0 v1 v2 v3 v4 v5 v6 v7 v8 v9 : Value} {r : List Value} {K : Value → Option α} : gfK ci 9 (some (.inr (ci, v0 :: v1 :: v2 :: v3 :: v4 :: v5 :: v6 :: v7 :: v8 :: v9 :: r))) K = K v9 := by simp [gfK]
theorem gf10 {v0 v1 v2 v3 v4 v5 v6 v7 v8 v9 v10 : Value} {r : List Value} {K : Value → Option α} : gfK ci 10 (some (.inr (ci, v0 :: v1 :: v2 :: v3 :: v4 :: v5 :: v6 :: v7 :: v8 :: v9 :: v10 :: r))) K = K v10 := by simp [gfK]
theorem gf11 {v0 v1 v2 v3 v4 v5 v6 v7 v8 v9 v10 v11 : Value} {r : List Value} {K : Value → Option α} : gfK ci 11 (some (.inr (ci, v0 :: v1 :: v2 :: v3 :: v4 :: v5 :: v6 :: v7 :: v8 :: v9 :: v10 :: v11 :: r))) K = K v11 := by simp [gfK]
theorem gf12 {v0 v1 v2 v3 v4 v5 v6 v7 v8 v9 v10 v11 v12 : Value} {r : List Value} {K : Value → Option α} : gfK ci 12 (some (.inr (ci, v0 :: v1 :: v2 :: v3 :: v4 :: v5 :: v6 :: v7 :: v8 :: v9 :: v10 :: v11 :: v12 :: r))) K = K v12 := by simp [gfK]
theorem gf13 {v0 v1 v2 v3 v4 v5 v6 v7 v8 v9 v10 v11 v12 v13 : Value} {r : List Value} {K : Value → Option α} : gfK ci 13 (some (.inr (ci, v0 :: v1 :: v2 :: v3 :: v4 :: v5 :: v6 :: v7 :: v8 :: v9 :: v10 :: v11 :: v12 :: v13 :: r))) K = K v13 := by simp [gfK]
theorem gf14 {v0 v1 v2 v3 v4 v5 v6 v7 v8 v9 v10 v11 v12 v13 v14 : Value} {r : List Value} {K : Value → Option α} : gfK ci 14 (some (.inr (ci, v0 :: v1 :: v2 :: v3 :: v4 :: v5 :: v6 :: v7 :: v8 :: v9 :: v10 :: v11 :: v12 :: v13 :: v14 :: r))) K = K v14 := by simp [gfK]
theorem pu0 {v v0 : Value} {r : List Value} {K : aC → Option α} : puK ci 0 (some (.inr (ci, v0 :: r))) v K = K (.inr (ci, v :: r)) := by simp [puK]
theorem pu1 {v v0 v1 : Value} {r : List Value} {K : aC → Option α} : puK ci 1 (some (.inr (ci, v0 :: v1 :: r))) v K = K (.inr (ci, v0 :: v :: r)) := by simp [puK]
theorem pu2 {v v0 v1 v2 : Value} {r : List Value} {K : aC → Option α} : puK ci 2 (some (.inr (ci, v0 :: v1 :: v2 :: r))) v K = K (.inr (ci, v0 :: v1 :: v :: r)) := by simp [puK]
theorem pu3 {v v0 v1 v2 v3 : Value} {r : List Value} {K : aC → Option α} : puK ci 3 (some (.inr (ci, v0 :: v1 :: v2 :: v3 :: r))) v K = K (.inr (ci, v0 :: v1 :: v2 :: v :: r)) := by simp [puK]
theorem pu4 {v v0 v1 v2 v3 v4 : Value} {r : List Value} {K : aC → Option α} : puK ci 4 (some (.inr (ci, v0 :: v1 :: v2 :: v3 :: v4 :: r))) v K = K (.inr (ci, v0 :: v1 :: v2 :: v3 :: v :: r)) := by simp [puK]
theorem pu5 {v v0 v1 v2 v3 v4 v5 : Value} {r : List Value} {K : aC → Option α} : puK ci 5 (some (.inr (ci, v0 :: v1 :: v2 :: v3 :: v4 :: v5 :: r))) v K = K (.inr (ci, v0 :: v1 :: v2 :: v3 :: v4 :: v :: r)) := by simp [puK]
theorem pu6 {v v0 v1 v2 v3 v4 v5 v6 : Value} {r : List Value} {K : aC → Option α} : puK ci 6 (some (.inr (ci, v0 :: v1 :: v2 :: v3 :: v4 :: v5 :: v6 :: r))) v K = K (.inr (ci, v0 :: v1 :: v2 :: v3 :: v4 :: v5 :: v :: r)) := by simp [puK]
theorem pu7 {v v0 v1 v2 v3 v4 v5 v6 v7 : Value} {r : List Value} {K : aC → Option α} : puK ci 7 (some (.inr (ci, v0 :: v1 :: v2 :: v3 :: v4 :: v5 :: v6 :: v7 :: r))) v K = K (.inr (ci, v0 :: v1 :: v2 :: v3 :: v4 :: v5 :: v6 :: v :: r)) := by simp [puK]
theorem pu8 {v v0 v1 v2 v3 v4 v5 v6 v7 v8 : Value} {r : List Value} {K : aC → Option α} : puK ci 8 (some (.inr (ci, v0 :: v1 :: v2 :: v3 :: v4 :: v5 :: v6 :: v7 :: v8 :: r))) v K = K (.inr (ci, v0 :: v1 :: v2 :: v3 :: v4 :: v5 :: v6 :: v7 :: v :: r)) := by simp [puK]
theorem pu9 {v v0 v1 v2 v3 v4 v5 v6 v7 v8 v9 : Value} {r : List Value} {K : aC → Option α} : puK ci 9 (some (.inr (ci, v0 :: v1 :: v2 :: v3 :: v4 :: v5 :: v6 :: v7 :: v8 :: v9 :: r))) v K = K (.inr (ci, v0 :: v1 :: v2 :: v3 :: v4 :: v5 :: v6 :: v7 :: v8 :: v :: r)) := by simp [puK]
theorem pu10 {v v0 v1 v2 v3 v4 v5 v6 v7 v8 v9 v10 : Value} {r : List Value} {K : aC → Option α} : puK ci 10 (some (.inr (ci, v0 :: v1 :: v2 :: v3 :: v4 :: v5 :: v6 :: v7 :: v8 :: v9 :: v10 :: r))) v K = K (.inr (ci, v0 :: v1 :: v2 :: v3 :: v4 :: v5 :: v6 :: v7 :: v8 :: v9 :: v :: r)) := by simp [puK]
theorem pu11 {v v0 v1 v2 v3 v4 v5 v6 v7 v8 v9 v10 v11 : Value} {r : List Value} {K : aC → Option α} : puK ci 11 (some (.inr (ci, v0 :: v1 :: v2 :: v3 :: v4 :: v5 :: v6 :: v7 :: v8 :: v9 :: v10 :: v11 :: r))) v K = K (.inr (ci, v0 :: v1 :: v2 :: v3 :: v4 :: v5 :: v6 :: v7 :: v8 :: v9 :: v10 :: v :: r)) := by simp [puK]
theorem pu12 {v v0 v1 v2 v3 v4 v5 v6 v7 v8 v9 v10 v11 v12 : Value} {r : List Value} {K : aC → Option α} : puK ci 12 (some (.inr (ci, v0 :: v1 :: v2 :: v3 :: v4 :: v5 :: v6 :: v7 :: v8 :: v9 :: v10 :: v11 :: v12 :: r))) v K = K (.inr (ci, v0 :: v1 :: v2 :: v3 :: v4 :: v5 :: v6 :: v7 :: v8 :: v9 :: v10 :: v11 :: v :: r)) := by simp [puK]
theorem pu13 {v v0 v1 v2 v3 v4 v5 v6 v7 v8 v9 v10 v11 v12 v13 : Value} {r : List Value} {K : aC → Option α} : puK ci 13 (some (.inr (ci, v0 :: v1 :: v2 :: v3 :: v4 :: v5 :: v6 :: v7 :: v8 :: v9 :: v10 :: v11 :: v12 :: v13 :: r))) v K = K (.inr (ci, v0 :: v1 :: v2 :: v3 :: v4 :: v5 :: v6 :: v7 :: v8 :: v9 :: v10 :: v11 :: v12 :: v :: r)) := by simp [puK]
theorem pu14 {v v0 v1 v2 v3 v4 v5 v6 v7 v8 v9 v10 v11 v12 v13 v14 : Value} {r : List Value} {K : aC → Option α} : puK ci 14 (some (.inr (ci, v0 :: v1 :: v2 :: v3 :: v4 :: v5 :: v6 :: v7 :: v8 :: v9 :: v10 :: v11 :: v12 :: v13 :: v14 :: r))) v K = K (.inr (ci, v0 :: v1 :: v2 :: v3 :: v4 :: v5 :: v6 :: v7 :: v8 :: v9 :: v10 :: v11 :: v12 :: v13 :: v :: r)) := by simp [puK]
theorem rc_at {fs : List Value} {K : Option α} : rcK ci (some (.inr (ci, fs))) K = K := by simp [rcK]
theorem al_I {j n : Nat} {g : Nat → Int32} {K : Int32 → Option α} (hj : j < n) (hn : n < 2 ^ 31) : alK (nI j) (some (.inl (0, n, .inl g))) (fun t => t == 0 || t == 9) K = K (g j) := by
  have h1 : j < 2 ^ 31 := Nat.lt_trans hj hn
  unfold alK
  dsimp only
  rw [nI_clamp h1, if_pos ⟨rfl, fun q => q.elim (nI_pos h1) (fun q => by omega)⟩]
theorem al_S {j n : Nat} {g : Nat → Int32} {K : Int32 → Option α} (hj : j < n) (hn : n < 2 ^ 31) : alK (nI j) (some (.inl (9, n, .inl g))) (fun t => t == 0 || t == 9) K = K (g j) := by
  have h1 : j < 2 ^ 31 := Nat.lt_trans hj hn
  unfold alK
  dsimp only
  rw [nI_clamp h1, if_pos ⟨rfl, fun q => q.elim (nI_pos h1) (fun q => by omega)⟩]
theorem al_Z {j n : Nat} {g : Nat → Int32} {K : Int32 → Option α} (hj : j < n) (hn : n < 2 ^ 31) : alK (nI j) (some (.inl (1, n, .inl g))) (fun t => t == 1) K = K (g j) := by
  have h1 : j < 2 ^ 31 := Nat.lt_trans hj hn
  unfold alK
  dsimp only
  rw [nI_clamp h1, if_pos ⟨rfl, fun q => q.elim (nI_pos h1) (fun q => by omega)⟩]
theorem al_C {j n : Nat} {g : Nat → Int32} {K : Int32 → Option α} (hj : j < n) (hn : n < 2 ^ 31) : alK (nI j) (some (.inl (2, n, .inl g))) (fun t => t == 2) K = K (g j) := by
  have h1 : j < 2 ^ 31 := Nat.lt_trans hj hn
  unfold alK
  dsimp only
  rw [nI_clamp h1, if_pos ⟨rfl, fun q => q.elim (nI_pos h1) (fun q => by omega)⟩]
theorem al_Q {j n t : Nat} {g : Nat → Option Nat} {K : Value → Option α} (ht : t = 3 ∨ t = 4 ∨ t = 5) (hj : j < n) (hn : n < 2 ^ 31) : alQ (nI j) (some (.inl (t, n, .inr g))) K = K (va_rf (g j)) := by
  have h1 : j < 2 ^ 31 := Nat.lt_trans hj hn
  unfold alQ
  dsimp only
  rw [nI_clamp h1, if_pos ⟨ht, fun q => q.elim (nI_pos h1) (fun q => by omega)⟩]
theorem as_I {t0 j n : Nat} {x : Int32} {g : Nat → Int32} {K : aC → Option α} (hj : j < n) (hn : n < 2 ^ 31) : asK (nI j) (some (.inl (t0, n, .inl g))) t0 x K = K (.inl (t0, n, .inl (upd g j x))) := by
  have h1 : j < 2 ^ 31 := Nat.lt_trans hj hn
  unfold asK
  dsimp only
  rw [nI_clamp h1, if_pos ⟨rfl, fun q => q.elim (nI_pos h1) (fun q => by omega)⟩]
theorem as_Q {t j n v ci : Nat} {vs : List Value} {g : Nat → Option Nat} {K : aC → Option α} (ht : t = 3 ∨ t = 4 ∨ t = 5) (hc : ci = arC t) (hj : j < n) (hn : n < 2 ^ 31) : asQ (nI j) (some (.inl (t, n, .inr g))) v (some (.inr (ci, vs))) K = K (.inl (t, n, .inr (va_up g j (some v)))) := by
  have h1 : j < 2 ^ 31 := Nat.lt_trans hj hn
  unfold asQ
  dsimp only
  rw [nI_clamp h1, if_pos ⟨ht, hc, fun q => q.elim (nI_pos h1) (fun q => by omega)⟩]
theorem len_I {n : Nat} {g : Nat → Int32} {K : Nat → Option α} : lenK (some (.inl (0, n, .inl g))) K = K n := by simp [lenK]
theorem len_S {n : Nat} {g : Nat → Int32} {K : Nat → Option α} : lenK (some (.inl (9, n, .inl g))) K = K n := by simp [lenK]
theorem cc_all {n : Nat} {g0 g1 : Nat → Int32} {K : aC → Option α} (hn : n < 2 ^ 31) : ccK (nI 0) (nI 0) (nI n) (some (.inl (0, n, .inl g0))) (some (.inl (0, n, .inl g1))) K = K (.inl (0, n, .inl (fun j => if j < n then g0 j else g1 j))) := by
  have h0 : (nI 0).toNatClampNeg = 0 := nI_clamp (by decide)
  show (if ¬ nI 0 < 0 ∧ ¬ nI 0 < 0 ∧ ¬ nI n < 0 ∧ (nI 0).toNatClampNeg + (nI n).toNatClampNeg ≤ n ∧ (nI 0).toNatClampNeg + (nI n).toNatClampNeg ≤ n then K (.inl (0, n, .inl (va_cpy g0 g1 (nI 0).toNatClampNeg (nI 0).toNatClampNeg (nI n).toNatClampNeg))) else none) = _
  rw [nI_clamp hn, h0, if_pos ⟨nI_pos (by decide), nI_pos (by decide), nI_pos hn, by omega, by omega⟩]
  congr 5
  funext j
  by_cases hj : j < n
  · rw [pk_cpy_in (Nat.zero_le _) (by omega), if_pos hj]; congr 1; omega
  · rw [pk_cpy_out (Or.inr (by omega)), if_neg hj]
theorem hget_set (h : aH) (a : Nat) (c : aC) : hget (hset h a c) a = some c := by simp [hget, hset]
theorem hget_ne {h : aH} {a b : Nat} {c : aC} (hb : b ≠ a) : hget (hset h a c) b = hget h b := by simp [hget, hset, hb]
theorem hset_set (h : aH) (a : Nat) (c c' : aC) : hset (hset h a c) a c' = hset h a c' := by
  unfold hset
  dsimp only
  congr 2
  funext q
  by_cases hq : q = a <;> simp [hq]
theorem hset_1 (h : aH) (a : Nat) (c : aC) : (hset h a c).1 = h.1 := rfl
theorem hset_2 (h : aH) (a : Nat) (c : aC) : (hset h a c).2.1 = h.2.1 := rfl
theorem hnew_1 (h : aH) (n : Nat) (c : aC) : (hnew h n c).1 = h.1 + 1 := rfl
theorem hnew_2 (h : aH) (n : Nat) (c : aC) : (hnew h n c).2.1 = h.2.1 + n := rfl
theorem hget_new (h : aH) (n : Nat) (c : aC) : hget (hnew h n c) h.1 = some c := by simp [hget, hnew]
theorem hget_newn {h : aH} {n b : Nat} {c : aC} (hb : b ≠ h.1) : hget (hnew h n c) b = hget h b := by simp [hget, hnew, hb]
end K2
end
section
section
theorem s0_0 {x : Nat} {st : List Value} {h : aH} : run 0 0 [.ref x] st h = run 0 1 [.ref x] (.ref x :: st) h := e_aload_n (k := 0) (by decide +kernel) rfl
theorem s0_1 {ls : List Value} {x : Nat}  {h : aH} : run 0 1 ls (.ref x :: []) h = run 0 4 ls [] h := e_oini (k := 3) (x := 0) (by decide +kernel) (by decide +kernel) (by decide +kernel) (by decide +kernel) (Nat.le_of_ble_eq_true rfl)
theorem s0_4 {ls : List Value} {h : aH} : run 0 4 ls [] h = some (none, h) := e_return (x := ()) (by decide +kernel) (by decide +kernel)
theorem s1_0 {a1 a2 : Value} {x : Nat} {st : List Value} {h : aH} : run 1 0 [.ref x, a1, a2] st h = run 1 1 [.ref x, a1, a2] (.ref x :: st) h := e_aload_n (k := 0) (by decide +kernel) rfl
theorem s1_1 {ls : List Value} {st : List Value} {h : aH} : run 1 1 ls st h = run 1 2 ls (.int (nI 0) :: st) h := e_iconst (k := 0) (by decide +kernel) (by decide +kernel)
theorem s1_2 {ls : List Value} {y : Int32} {x : Nat} {st : List Value} {h : aH} : run 1 2 ls (.int y :: .ref x :: st) h = puK 0 0 (hget h x) (.int y) (fun c => run 1 5 ls st (hset h x c)) := e_put (k := 11) (by decide +kernel) (by decide +kernel) (by decide +kernel) rfl rfl
theorem s1_5 {a1 a2 : Value} {x : Nat} {st : List Value} {h : aH} : run 1 5 [.ref x, a1, a2] st h = run 1 6 [.ref x, a1, a2] (.ref x :: st) h := e_aload_n (k := 0) (by decide +kernel) rfl
theorem s1_6 {a0 a2 : Value} {x : Int32} {st : List Value} {h : aH} : run 1 6 [a0, .int x, a2] st h = run 1 7 [a0, .int x, a2] (.int x :: st) h := e_iload_n (k := 1) (by decide +kernel) rfl
theorem s1_7 {ls : List Value} {y : Int32} {x : Nat} {st : List Value} {h : aH} : run 1 7 ls (.int y :: .ref x :: st) h = puK 0 1 (hget h x) (.int y) (fun c => run 1 10 ls st (hset h x c)) := e_put (k := 15) (by decide +kernel) (by decide +kernel) (by decide +kernel) rfl rfl
theorem s1_10 {a1 a2 : Value} {x : Nat} {st : List Value} {h : aH} : run 1 10 [.ref x, a1, a2] st h = run 1 11 [.ref x, a1, a2] (.ref x :: st) h := e_aload_n (k := 0) (by decide +kernel) rfl
theorem s1_11 {a0 a1 : Value} {x : Int32} {st : List Value} {h : aH} : run 1 11 [a0, a1, .int x] st h = run 1 12 [a0, a1, .int x] (.int x :: st) h := e_iload_n (k := 2) (by decide +kernel) rfl
theorem s1_12 {ls : List Value} {y : Int32} {x : Nat} {st : List Value} {h : aH} : run 1 12 ls (.int y :: .ref x :: st) h = puK 0 2 (hget h x) (.int y) (fun c => run 1 15 ls st (hset h x c)) := e_put (k := 18) (by decide +kernel) (by decide +kernel) (by decide +kernel) rfl rfl
theorem s1_15 {ls : List Value} {h : aH} : run 1 15 ls [] h = some (none, h) := e_return (x := ()) (by decide +kernel) (by decide +kernel)
theorem s2_0 {x : Nat} {st : List Value} {h : aH} : run 2 0 [.ref x] st h = run 2 1 [.ref x] (.ref x :: st) h := e_aload_n (k := 0) (by decide +kernel) rfl
theorem s2_1 {ls : List Value} {x : Nat} {st : List Value} {h : aH} : run 2 1 ls (.ref x :: st) h = gfK 0 0 (hget h x) (fun v => run 2 4 ls (v :: st) h) := e_get (k := 11) (by decide +kernel) (by decide +kernel)
theorem s2_4 {ls : List Value} {x : Int32} {st : List Value} {h : aH} : run 2 4 ls (.int x :: st) h = if x = 0 then run 2 7 ls st h else run 2 11 ls st h := e_if_ne (off := 7) (by decide +kernel) (by decide)
theorem s2_7 {ls : List Value} {st : List Value} {h : aH} : run 2 7 ls st h = run 2 8 ls (.int (nI 1) :: st) h := e_iconst (k := 1) (by decide +kernel) (by decide +kernel)
theorem s2_8 {ls : List Value} {st : List Value} {h : aH} : run 2 8 ls st h = run 2 12 ls st h := e_goto (off := 4) (by decide +kernel) (by decide)
theorem s2_11 {ls : List Value} {st : List Value} {h : aH} : run 2 11 ls st h = run 2 12 ls (.int (nI 0) :: st) h := e_iconst (k := 0) (by decide +kernel) (by decide +kernel)
theorem s2_12 {ls : List Value} {x : Int32} {h : aH} : run 2 12 ls [.int x] h = if x = 0 ∨ x = 1 then some (some (.int x), h) else none := e_zreturn (by decide +kernel) (by decide +kernel)
theorem s3_0 {a1 : Value} {x : Nat} {st : List Value} {h : aH} : run 3 0 [.ref x, a1] st h = run 3 1 [.ref x, a1] (.ref x :: st) h := e_aload_n (k := 0) (by decide +kernel) rfl
theorem s3_1 {ls : List Value} {x : Nat} {st : List Value} {h : aH} : run 3 1 ls (.ref x :: st) h = gfK 0 0 (hget h x) (fun v => run 3 4 ls (v :: st) h) := e_get (k := 11) (by decide +kernel) (by decide +kernel)
theorem s3_4_0 {ls : List Value} {st : List Value} {h : aH} : run 3 4 ls (.int (nI 0) :: st) h = run 3 56 ls st h := e_sw (by decide +kernel)
theorem s3_4_1 {ls : List Value} {st : List Value} {h : aH} : run 3 4 ls (.int (nI 1) :: st) h = run 3 62 ls st h := e_sw (by decide +kernel)
theorem s3_4_2 {ls : List Value} {st : List Value} {h : aH} : run 3 4 ls (.int (nI 2) :: st) h = run 3 79 ls st h := e_sw (by decide +kernel)
theorem s3_4_3 {ls : List Value} {st : List Value} {h : aH} : run 3 4 ls (.int (nI 3) :: st) h = run 3 120 ls st h := e_sw (by decide +kernel)
theorem s3_4_4 {ls : List Value} {st : List Value} {h : aH} : run 3 4 ls (.int (nI 4) :: st) h = run 3 150 ls st h := e_sw (by decide +kernel)
theorem s3_4_5 {ls : List Value} {st : List Value} {h : aH} : run 3 4 ls (.int (nI 5) :: st) h = run 3 176 ls st h := e_sw (by decide +kernel)
theorem s3_4_6 {ls : List Value} {st : List Value} {h : aH} : run 3 4 ls (.int (nI 6) :: st) h = run 3 193 ls st h := e_sw (by decide +kernel)
theorem s3_4_7 {ls : List Value} {st : List Value} {h : aH} : run 3 4 ls (.int (nI 7) :: st) h = run 3 231 ls st h := e_sw (by decide +kernel)
theorem s3_4_8 {ls : List Value} {st : List Value} {h : aH} : run 3 4 ls (.int (nI 8) :: st) h = run 3 249 ls st h := e_sw (by decide +kernel)
theorem s3_56 {a1 : Value} {x : Nat} {st : List Value} {h : aH} : run 3 56 [.ref x, a1] st h = run 3 57 [.ref x, a1] (.ref x :: st) h := e_aload_n (k := 0) (by decide +kernel) rfl
theorem s3_57 {a0 : Value} {x : Int32} {st : List Value} {h : aH} : run 3 57 [a0, .int x] st h = run 3 58 [a0, .int x] (.int x :: st) h := e_iload_n (k := 1) (by decide +kernel) rfl
theorem s3_58 {ls : List Value} {b : Nat}  {x0 : Int32} {h : aH} : run 3 58 ls [.int x0, .ref b] h = rcK 0 (hget h b) (bK (run 4 0 [.ref b, .int x0] [] h) (fun v h1 => run 3 61 ls (v.toList ++ []) h1)) := e_callV (k := 21) (g := 4) (n := 1) (by decide +kernel) (by decide +kernel) (by decide +kernel) (by decide +kernel) rfl (Nat.le_of_ble_eq_true rfl) rfl ⟨Nat.le_of_ble_eq_true rfl, Nat.le_of_ble_eq_true rfl⟩ rfl
theorem s3_61 {ls : List Value} {x : Int32} {h : aH} : run 3 61 ls [.int x] h = if x = 0 ∨ x = 1 then some (some (.int x), h) else none := e_zreturn (by decide +kernel) (by decide +kernel)
theorem s3_62 {a1 : Value} {x : Nat} {st : List Value} {h : aH} : run 3 62 [.ref x, a1] st h = run 3 63 [.ref x, a1] (.ref x :: st) h := e_aload_n (k := 0) (by decide +kernel) rfl
theorem s3_63 {a0 : Value} {x : Int32} {st : List Value} {h : aH} : run 3 63 [a0, .int x] st h = run 3 64 [a0, .int x] (.int x :: st) h := e_iload_n (k := 1) (by decide +kernel) rfl
theorem s3_64 {ls : List Value} {st : List Value} {h : aH} : run 3 64 ls st h = run 3 66 ls (.int (nI 62) :: st) h := e_bipush (k := 62) (by decide +kernel) (by decide +kernel)
theorem s3_66 {ls : List Value} {x y : Int32} {st : List Value} {h : aH} : run 3 66 ls (.int y :: .int x :: st) h = if x = y then run 3 69 ls st h else run 3 73 ls st h := e_icmp_ne (off := 7) (by decide +kernel) (by decide)
theorem s3_69 {ls : List Value} {st : List Value} {h : aH} : run 3 69 ls st h = run 3 70 ls (.int (nI 1) :: st) h := e_iconst (k := 1) (by decide +kernel) (by decide +kernel)
theorem s3_70 {ls : List Value} {st : List Value} {h : aH} : run 3 70 ls st h = run 3 74 ls st h := e_goto (off := 4) (by decide +kernel) (by decide)
theorem s3_73 {ls : List Value} {st : List Value} {h : aH} : run 3 73 ls st h = run 3 74 ls (.int (nI 0) :: st) h := e_iconst (k := 0) (by decide +kernel) (by decide +kernel)
theorem s3_74 {ls : List Value} {st : List Value} {h : aH} : run 3 74 ls st h = run 3 75 ls (.int (nI 2) :: st) h := e_iconst (k := 2) (by decide +kernel) (by decide +kernel)
theorem s3_75 {ls : List Value} {b : Nat}  {x0 : Int32} {x1 : Int32} {h : aH} : run 3 75 ls [.int x1, .int x0, .ref b] h = rcK 0 (hget h b) (bK (run 5 0 [.ref b, .int x0, .int x1] [] h) (fun v h1 => run 3 78 ls (v.toList ++ []) h1)) := e_callV (k := 25) (g := 5) (n := 2) (by decide +kernel) (by decide +kernel) (by decide +kernel) (by decide +kernel) rfl (Nat.le_of_ble_eq_true rfl) rfl ⟨Nat.le_of_ble_eq_true rfl, Nat.le_of_ble_eq_true rfl⟩ rfl
theorem s3_78 {ls : List Value} {x : Int32} {h : aH} : run 3 78 ls [.int x] h = if x = 0 ∨ x = 1 then some (some (.int x), h) else none := e_zreturn (by decide +kernel) (by decide +kernel)
theorem s3_79 {a1 : Value} {x : Nat} {st : List Value} {h : aH} : run 3 79 [.ref x, a1] st h = run 3 80 [.ref x, a1] (.ref x :: st) h := e_aload_n (k := 0) (by decide +kernel) rfl
theorem s3_80 {a0 : Value} {x : Int32} {st : List Value} {h : aH} : run 3 80 [a0, .int x] st h = run 3 81 [a0, .int x] (.int x :: st) h := e_iload_n (k := 1) (by decide +kernel) rfl
theorem s3_81 {ls : List Value} {s0 : Nat} {x0 : Int32} {h : aH} : run 3 81 ls [.int x0, .ref s0] h = bK (run 6 0 [.int x0] [] h) (fun v h1 => run 3 84 ls (v.toList ++ [.ref s0]) h1) := e_callS (k := 29) (g := 6) (n := 1) (by decide +kernel) (by decide +kernel) (by decide +kernel) (by decide +kernel) rfl (Nat.le_of_ble_eq_true rfl) rfl ⟨Nat.le_of_ble_eq_true rfl, Nat.le_of_ble_eq_true rfl⟩ rfl
theorem s3_84 {ls : List Value} {y : Int32} {x : Nat} {st : List Value} {h : aH} : run 3 84 ls (.int y :: .ref x :: st) h = puK 0 5 (hget h x) (.int y) (fun c => run 3 87 ls st (hset h x c)) := e_put (k := 33) (by decide +kernel) (by decide +kernel) (by decide +kernel) rfl rfl
theorem s3_87 {a1 : Value} {x : Nat} {st : List Value} {h : aH} : run 3 87 [.ref x, a1] st h = run 3 88 [.ref x, a1] (.ref x :: st) h := e_aload_n (k := 0) (by decide +kernel) rfl
theorem s3_88 {a1 : Value} {x : Nat} {st : List Value} {h : aH} : run 3 88 [.ref x, a1] st h = run 3 89 [.ref x, a1] (.ref x :: st) h := e_aload_n (k := 0) (by decide +kernel) rfl
theorem s3_89 {ls : List Value} {x : Nat} {st : List Value} {h : aH} : run 3 89 ls (.ref x :: st) h = gfK 0 5 (hget h x) (fun v => run 3 92 ls (v :: st) h) := e_get (k := 33) (by decide +kernel) (by decide +kernel)
theorem s3_92 {a1 : Value} {x : Nat} {st : List Value} {h : aH} : run 3 92 [.ref x, a1] st h = run 3 93 [.ref x, a1] (.ref x :: st) h := e_aload_n (k := 0) (by decide +kernel) rfl
theorem s3_93 {ls : List Value} {x : Nat} {st : List Value} {h : aH} : run 3 93 ls (.ref x :: st) h = gfK 0 4 (hget h x) (fun v => run 3 96 ls (v :: st) h) := e_get (k := 36) (by decide +kernel) (by decide +kernel)
theorem s3_96 {ls : List Value} {x y : Int32} {st : List Value} {h : aH} : run 3 96 ls (.int y :: .int x :: st) h = if y < x then run 3 99 ls st h else run 3 114 ls st h := e_icmp_le (off := 18) (by decide +kernel) (by decide)
theorem s3_99 {a1 : Value} {x : Nat} {st : List Value} {h : aH} : run 3 99 [.ref x, a1] st h = run 3 100 [.ref x, a1] (.ref x :: st) h := e_aload_n (k := 0) (by decide +kernel) rfl
theorem s3_100 {ls : List Value} {x : Nat} {st : List Value} {h : aH} : run 3 100 ls (.ref x :: st) h = gfK 0 5 (hget h x) (fun v => run 3 103 ls (v :: st) h) := e_get (k := 33) (by decide +kernel) (by decide +kernel)
theorem s3_103 {a1 : Value} {x : Nat} {st : List Value} {h : aH} : run 3 103 [.ref x, a1] st h = run 3 104 [.ref x, a1] (.ref x :: st) h := e_aload_n (k := 0) (by decide +kernel) rfl
theorem s3_104 {ls : List Value} {x : Nat} {st : List Value} {h : aH} : run 3 104 ls (.ref x :: st) h = gfK 0 1 (hget h x) (fun v => run 3 107 ls (v :: st) h) := e_get (k := 15) (by decide +kernel) (by decide +kernel)
theorem s3_107 {ls : List Value} {x y : Int32} {st : List Value} {h : aH} : run 3 107 ls (.int y :: .int x :: st) h = if x < y then run 3 110 ls st h else run 3 114 ls st h := e_icmp_ge (off := 7) (by decide +kernel) (by decide)
theorem s3_110 {ls : List Value} {st : List Value} {h : aH} : run 3 110 ls st h = run 3 111 ls (.int (nI 1) :: st) h := e_iconst (k := 1) (by decide +kernel) (by decide +kernel)
theorem s3_111 {ls : List Value} {st : List Value} {h : aH} : run 3 111 ls st h = run 3 115 ls st h := e_goto (off := 4) (by decide +kernel) (by decide)
theorem s3_114 {ls : List Value} {st : List Value} {h : aH} : run 3 114 ls st h = run 3 115 ls (.int (nI 0) :: st) h := e_iconst (k := 0) (by decide +kernel) (by decide +kernel)
theorem s3_115 {ls : List Value} {st : List Value} {h : aH} : run 3 115 ls st h = run 3 116 ls (.int (nI 3) :: st) h := e_iconst (k := 3) (by decide +kernel) (by decide +kernel)
theorem s3_116 {ls : List Value} {b : Nat}  {x0 : Int32} {x1 : Int32} {h : aH} : run 3 116 ls [.int x1, .int x0, .ref b] h = rcK 0 (hget h b) (bK (run 5 0 [.ref b, .int x0, .int x1] [] h) (fun v h1 => run 3 119 ls (v.toList ++ []) h1)) := e_callV (k := 25) (g := 5) (n := 2) (by decide +kernel) (by decide +kernel) (by decide +kernel) (by decide +kernel) rfl (Nat.le_of_ble_eq_true rfl) rfl ⟨Nat.le_of_ble_eq_true rfl, Nat.le_of_ble_eq_true rfl⟩ rfl
theorem s3_119 {ls : List Value} {x : Int32} {h : aH} : run 3 119 ls [.int x] h = if x = 0 ∨ x = 1 then some (some (.int x), h) else none := e_zreturn (by decide +kernel) (by decide +kernel)
theorem s3_120 {a0 : Value} {x : Int32} {st : List Value} {h : aH} : run 3 120 [a0, .int x] st h = run 3 121 [a0, .int x] (.int x :: st) h := e_iload_n (k := 1) (by decide +kernel) rfl
theorem s3_121 {ls : List Value} {st : List Value} {h : aH} : run 3 121 ls st h = run 3 123 ls (.int (nI 47) :: st) h := e_bipush (k := 47) (by decide +kernel) (by decide +kernel)
theorem s3_123 {ls : List Value} {x y : Int32} {st : List Value} {h : aH} : run 3 123 ls (.int y :: .int x :: st) h = if x = y then run 3 126 ls st h else run 3 133 ls st h := e_icmp_ne (off := 10) (by decide +kernel) (by decide)
theorem s3_126 {a1 : Value} {x : Nat} {st : List Value} {h : aH} : run 3 126 [.ref x, a1] st h = run 3 127 [.ref x, a1] (.ref x :: st) h := e_aload_n (k := 0) (by decide +kernel) rfl
theorem s3_127 {ls : List Value} {st : List Value} {h : aH} : run 3 127 ls st h = run 3 128 ls (.int (nI 1) :: st) h := e_iconst (k := 1) (by decide +kernel) (by decide +kernel)
theorem s3_128 {ls : List Value} {st : List Value} {h : aH} : run 3 128 ls st h = run 3 129 ls (.int (nI 4) :: st) h := e_iconst (k := 4) (by decide +kernel) (by decide +kernel)
theorem s3_129 {ls : List Value} {b : Nat}  {x0 : Int32} {x1 : Int32} {h : aH} : run 3 129 ls [.int x1, .int x0, .ref b] h = rcK 0 (hget h b) (bK (run 5 0 [.ref b, .int x0, .int x1] [] h) (fun v h1 => run 3 132 ls (v.toList ++ []) h1)) := e_callV (k := 25) (g := 5) (n := 2) (by decide +kernel) (by decide +kernel) (by decide +kernel) (by decide +kernel) rfl (Nat.le_of_ble_eq_true rfl) rfl ⟨Nat.le_of_ble_eq_true rfl, Nat.le_of_ble_eq_true rfl⟩ rfl
theorem s3_132 {ls : List Value} {x : Int32} {h : aH} : run 3 132 ls [.int x] h = if x = 0 ∨ x = 1 then some (some (.int x), h) else none := e_zreturn (by decide +kernel) (by decide +kernel)
theorem s3_133 {a1 : Value} {x : Nat} {st : List Value} {h : aH} : run 3 133 [.ref x, a1] st h = run 3 134 [.ref x, a1] (.ref x :: st) h := e_aload_n (k := 0) (by decide +kernel) rfl
theorem s3_134 {a0 : Value} {x : Int32} {st : List Value} {h : aH} : run 3 134 [a0, .int x] st h = run 3 135 [a0, .int x] (.int x :: st) h := e_iload_n (k := 1) (by decide +kernel) rfl
theorem s3_135 {ls : List Value} {st : List Value} {h : aH} : run 3 135 ls st h = run 3 137 ls (.int (nI 59) :: st) h := e_bipush (k := 59) (by decide +kernel) (by decide +kernel)
theorem s3_137 {ls : List Value} {x y : Int32} {st : List Value} {h : aH} : run 3 137 ls (.int y :: .int x :: st) h = if x = y then run 3 140 ls st h else run 3 144 ls st h := e_icmp_ne (off := 7) (by decide +kernel) (by decide)
theorem s3_140 {ls : List Value} {st : List Value} {h : aH} : run 3 140 ls st h = run 3 141 ls (.int (nI 1) :: st) h := e_iconst (k := 1) (by decide +kernel) (by decide +kernel)
theorem s3_141 {ls : List Value} {st : List Value} {h : aH} : run 3 141 ls st h = run 3 145 ls st h := e_goto (off := 4) (by decide +kernel) (by decide)
theorem s3_144 {ls : List Value} {st : List Value} {h : aH} : run 3 144 ls st h = run 3 145 ls (.int (nI 0) :: st) h := e_iconst (k := 0) (by decide +kernel) (by decide +kernel)
theorem s3_145 {ls : List Value} {st : List Value} {h : aH} : run 3 145 ls st h = run 3 146 ls (.int (nI 0) :: st) h := e_iconst (k := 0) (by decide +kernel) (by decide +kernel)
theorem s3_146 {ls : List Value} {b : Nat}  {x0 : Int32} {x1 : Int32} {h : aH} : run 3 146 ls [.int x1, .int x0, .ref b] h = rcK 0 (hget h b) (bK (run 5 0 [.ref b, .int x0, .int x1] [] h) (fun v h1 => run 3 149 ls (v.toList ++ []) h1)) := e_callV (k := 25) (g := 5) (n := 2) (by decide +kernel) (by decide +kernel) (by decide +kernel) (by decide +kernel) rfl (Nat.le_of_ble_eq_true rfl) rfl ⟨Nat.le_of_ble_eq_true rfl, Nat.le_of_ble_eq_true rfl⟩ rfl
theorem s3_149 {ls : List Value} {x : Int32} {h : aH} : run 3 149 ls [.int x] h = if x = 0 ∨ x = 1 then some (some (.int x), h) else none := e_zreturn (by decide +kernel) (by decide +kernel)
theorem s3_150 {a1 : Value} {x : Nat} {st : List Value} {h : aH} : run 3 150 [.ref x, a1] st h = run 3 151 [.ref x, a1] (.ref x :: st) h := e_aload_n (k := 0) (by decide +kernel) rfl
theorem s3_151 {a0 : Value} {x : Int32} {st : List Value} {h : aH} : run 3 151 [a0, .int x] st h = run 3 152 [a0, .int x] (.int x :: st) h := e_iload_n (k := 1) (by decide +kernel) rfl
theorem s3_152 {ls : List Value} {s0 : Nat} {x0 : Int32} {h : aH} : run 3 152 ls [.int x0, .ref s0] h = bK (run 6 0 [.int x0] [] h) (fun v h1 => run 3 155 ls (v.toList ++ [.ref s0]) h1) := e_callS (k := 29) (g := 6) (n := 1) (by decide +kernel) (by decide +kernel) (by decide +kernel) (by decide +kernel) rfl (Nat.le_of_ble_eq_true rfl) rfl ⟨Nat.le_of_ble_eq_true rfl, Nat.le_of_ble_eq_true rfl⟩ rfl
theorem s3_155 {ls : List Value} {y : Int32} {x : Nat} {st : List Value} {h : aH} : run 3 155 ls (.int y :: .ref x :: st) h = puK 0 6 (hget h x) (.int y) (fun c => run 3 158 ls st (hset h x c)) := e_put (k := 39) (by decide +kernel) (by decide +kernel) (by decide +kernel) rfl rfl
theorem s3_158 {a1 : Value} {x : Nat} {st : List Value} {h : aH} : run 3 158 [.ref x, a1] st h = run 3 159 [.ref x, a1] (.ref x :: st) h := e_aload_n (k := 0) (by decide +kernel) rfl
theorem s3_159 {a1 : Value} {x : Nat} {st : List Value} {h : aH} : run 3 159 [.ref x, a1] st h = run 3 160 [.ref x, a1] (.ref x :: st) h := e_aload_n (k := 0) (by decide +kernel) rfl
theorem s3_160 {ls : List Value} {x : Nat} {st : List Value} {h : aH} : run 3 160 ls (.ref x :: st) h = gfK 0 6 (hget h x) (fun v => run 3 163 ls (v :: st) h) := e_get (k := 39) (by decide +kernel) (by decide +kernel)
theorem s3_163 {ls : List Value} {x : Int32} {st : List Value} {h : aH} : run 3 163 ls (.int x :: st) h = if x < 0 then run 3 170 ls st h else run 3 166 ls st h := e_if_lt (off := 7) (by decide +kernel) (by decide)
theorem s3_166 {ls : List Value} {st : List Value} {h : aH} : run 3 166 ls st h = run 3 167 ls (.int (nI 1) :: st) h := e_iconst (k := 1) (by decide +kernel) (by decide +kernel)
theorem s3_167 {ls : List Value} {st : List Value} {h : aH} : run 3 167 ls st h = run 3 171 ls st h := e_goto (off := 4) (by decide +kernel) (by decide)
theorem s3_170 {ls : List Value} {st : List Value} {h : aH} : run 3 170 ls st h = run 3 171 ls (.int (nI 0) :: st) h := e_iconst (k := 0) (by decide +kernel) (by decide +kernel)
theorem s3_171 {ls : List Value} {st : List Value} {h : aH} : run 3 171 ls st h = run 3 172 ls (.int (nI 5) :: st) h := e_iconst (k := 5) (by decide +kernel) (by decide +kernel)
theorem s3_172 {ls : List Value} {b : Nat}  {x0 : Int32} {x1 : Int32} {h : aH} : run 3 172 ls [.int x1, .int x0, .ref b] h = rcK 0 (hget h b) (bK (run 5 0 [.ref b, .int x0, .int x1] [] h) (fun v h1 => run 3 175 ls (v.toList ++ []) h1)) := e_callV (k := 25) (g := 5) (n := 2) (by decide +kernel) (by decide +kernel) (by decide +kernel) (by decide +kernel) rfl (Nat.le_of_ble_eq_true rfl) rfl ⟨Nat.le_of_ble_eq_true rfl, Nat.le_of_ble_eq_true rfl⟩ rfl
theorem s3_175 {ls : List Value} {x : Int32} {h : aH} : run 3 175 ls [.int x] h = if x = 0 ∨ x = 1 then some (some (.int x), h) else none := e_zreturn (by decide +kernel) (by decide +kernel)
theorem s3_176 {a1 : Value} {x : Nat} {st : List Value} {h : aH} : run 3 176 [.ref x, a1] st h = run 3 177 [.ref x, a1] (.ref x :: st) h := e_aload_n (k := 0) (by decide +kernel) rfl
theorem s3_177 {a0 : Value} {x : Int32} {st : List Value} {h : aH} : run 3 177 [a0, .int x] st h = run 3 178 [a0, .int x] (.int x :: st) h := e_iload_n (k := 1) (by decide +kernel) rfl
theorem s3_178 {ls : List Value} {st : List Value} {h : aH} : run 3 178 ls st h = run 3 180 ls (.int (nI 59) :: st) h := e_bipush (k := 59) (by decide +kernel) (by decide +kernel)
theorem s3_180 {ls : List Value} {x y : Int32} {st : List Value} {h : aH} : run 3 180 ls (.int y :: .int x :: st) h = if x = y then run 3 183 ls st h else run 3 187 ls st h := e_icmp_ne (off := 7) (by decide +kernel) (by decide)
theorem s3_183 {ls : List Value} {st : List Value} {h : aH} : run 3 183 ls st h = run 3 184 ls (.int (nI 1) :: st) h := e_iconst (k := 1) (by decide +kernel) (by decide +kernel)
theorem s3_184 {ls : List Value} {st : List Value} {h : aH} : run 3 184 ls st h = run 3 188 ls st h := e_goto (off := 4) (by decide +kernel) (by decide)
theorem s3_187 {ls : List Value} {st : List Value} {h : aH} : run 3 187 ls st h = run 3 188 ls (.int (nI 0) :: st) h := e_iconst (k := 0) (by decide +kernel) (by decide +kernel)
theorem s3_188 {ls : List Value} {st : List Value} {h : aH} : run 3 188 ls st h = run 3 189 ls (.int (nI 0) :: st) h := e_iconst (k := 0) (by decide +kernel) (by decide +kernel)
theorem s3_189 {ls : List Value} {b : Nat}  {x0 : Int32} {x1 : Int32} {h : aH} : run 3 189 ls [.int x1, .int x0, .ref b] h = rcK 0 (hget h b) (bK (run 5 0 [.ref b, .int x0, .int x1] [] h) (fun v h1 => run 3 192 ls (v.toList ++ []) h1)) := e_callV (k := 25) (g := 5) (n := 2) (by decide +kernel) (by decide +kernel) (by decide +kernel) (by decide +kernel) rfl (Nat.le_of_ble_eq_true rfl) rfl ⟨Nat.le_of_ble_eq_true rfl, Nat.le_of_ble_eq_true rfl⟩ rfl
theorem s3_192 {ls : List Value} {x : Int32} {h : aH} : run 3 192 ls [.int x] h = if x = 0 ∨ x = 1 then some (some (.int x), h) else none := e_zreturn (by decide +kernel) (by decide +kernel)
theorem s3_193 {a1 : Value} {x : Nat} {st : List Value} {h : aH} : run 3 193 [.ref x, a1] st h = run 3 194 [.ref x, a1] (.ref x :: st) h := e_aload_n (k := 0) (by decide +kernel) rfl
theorem s3_194 {a0 : Value} {x : Int32} {st : List Value} {h : aH} : run 3 194 [a0, .int x] st h = run 3 195 [a0, .int x] (.int x :: st) h := e_iload_n (k := 1) (by decide +kernel) rfl
theorem s3_195 {ls : List Value} {s0 : Nat} {x0 : Int32} {h : aH} : run 3 195 ls [.int x0, .ref s0] h = bK (run 6 0 [.int x0] [] h) (fun v h1 => run 3 198 ls (v.toList ++ [.ref s0]) h1) := e_callS (k := 29) (g := 6) (n := 1) (by decide +kernel) (by decide +kernel) (by decide +kernel) (by decide +kernel) rfl (Nat.le_of_ble_eq_true rfl) rfl ⟨Nat.le_of_ble_eq_true rfl, Nat.le_of_ble_eq_true rfl⟩ rfl
theorem s3_198 {ls : List Value} {y : Int32} {x : Nat} {st : List Value} {h : aH} : run 3 198 ls (.int y :: .ref x :: st) h = puK 0 4 (hget h x) (.int y) (fun c => run 3 201 ls st (hset h x c)) := e_put (k := 36) (by decide +kernel) (by decide +kernel) (by decide +kernel) rfl rfl
theorem s3_201 {a1 : Value} {x : Nat} {st : List Value} {h : aH} : run 3 201 [.ref x, a1] st h = run 3 202 [.ref x, a1] (.ref x :: st) h := e_aload_n (k := 0) (by decide +kernel) rfl
theorem s3_202 {a1 : Value} {x : Nat} {st : List Value} {h : aH} : run 3 202 [.ref x, a1] st h = run 3 203 [.ref x, a1] (.ref x :: st) h := e_aload_n (k := 0) (by decide +kernel) rfl
theorem s3_203 {ls : List Value} {x : Nat} {st : List Value} {h : aH} : run 3 203 ls (.ref x :: st) h = gfK 0 4 (hget h x) (fun v => run 3 206 ls (v :: st) h) := e_get (k := 36) (by decide +kernel) (by decide +kernel)
theorem s3_206 {ls : List Value} {x : Int32} {st : List Value} {h : aH} : run 3 206 ls (.int x :: st) h = if 0 < x then run 3 209 ls st h else run 3 224 ls st h := e_if_le (off := 18) (by decide +kernel) (by decide)
theorem s3_209 {a1 : Value} {x : Nat} {st : List Value} {h : aH} : run 3 209 [.ref x, a1] st h = run 3 210 [.ref x, a1] (.ref x :: st) h := e_aload_n (k := 0) (by decide +kernel) rfl
theorem s3_210 {ls : List Value} {x : Nat} {st : List Value} {h : aH} : run 3 210 ls (.ref x :: st) h = gfK 0 4 (hget h x) (fun v => run 3 213 ls (v :: st) h) := e_get (k := 36) (by decide +kernel) (by decide +kernel)
theorem s3_213 {a1 : Value} {x : Nat} {st : List Value} {h : aH} : run 3 213 [.ref x, a1] st h = run 3 214 [.ref x, a1] (.ref x :: st) h := e_aload_n (k := 0) (by decide +kernel) rfl
theorem s3_214 {ls : List Value} {x : Nat} {st : List Value} {h : aH} : run 3 214 ls (.ref x :: st) h = gfK 0 1 (hget h x) (fun v => run 3 217 ls (v :: st) h) := e_get (k := 15) (by decide +kernel) (by decide +kernel)
theorem s3_217 {ls : List Value} {x y : Int32} {st : List Value} {h : aH} : run 3 217 ls (.int y :: .int x :: st) h = if x < y then run 3 220 ls st h else run 3 224 ls st h := e_icmp_ge (off := 7) (by decide +kernel) (by decide)
theorem s3_220 {ls : List Value} {st : List Value} {h : aH} : run 3 220 ls st h = run 3 221 ls (.int (nI 1) :: st) h := e_iconst (k := 1) (by decide +kernel) (by decide +kernel)
theorem s3_221 {ls : List Value} {st : List Value} {h : aH} : run 3 221 ls st h = run 3 225 ls st h := e_goto (off := 4) (by decide +kernel) (by decide)
theorem s3_224 {ls : List Value} {st : List Value} {h : aH} : run 3 224 ls st h = run 3 225 ls (.int (nI 0) :: st) h := e_iconst (k := 0) (by decide +kernel) (by decide +kernel)
theorem s3_225 {ls : List Value} {st : List Value} {h : aH} : run 3 225 ls st h = run 3 227 ls (.int (nI 7) :: st) h := e_bipush (k := 7) (by decide +kernel) (by decide +kernel)
theorem s3_227 {ls : List Value} {b : Nat}  {x0 : Int32} {x1 : Int32} {h : aH} : run 3 227 ls [.int x1, .int x0, .ref b] h = rcK 0 (hget h b) (bK (run 5 0 [.ref b, .int x0, .int x1] [] h) (fun v h1 => run 3 230 ls (v.toList ++ []) h1)) := e_callV (k := 25) (g := 5) (n := 2) (by decide +kernel) (by decide +kernel) (by decide +kernel) (by decide +kernel) rfl (Nat.le_of_ble_eq_true rfl) rfl ⟨Nat.le_of_ble_eq_true rfl, Nat.le_of_ble_eq_true rfl⟩ rfl
theorem s3_230 {ls : List Value} {x : Int32} {h : aH} : run 3 230 ls [.int x] h = if x = 0 ∨ x = 1 then some (some (.int x), h) else none := e_zreturn (by decide +kernel) (by decide +kernel)
theorem s3_231 {a1 : Value} {x : Nat} {st : List Value} {h : aH} : run 3 231 [.ref x, a1] st h = run 3 232 [.ref x, a1] (.ref x :: st) h := e_aload_n (k := 0) (by decide +kernel) rfl
theorem s3_232 {a0 : Value} {x : Int32} {st : List Value} {h : aH} : run 3 232 [a0, .int x] st h = run 3 233 [a0, .int x] (.int x :: st) h := e_iload_n (k := 1) (by decide +kernel) rfl
theorem s3_233 {ls : List Value} {st : List Value} {h : aH} : run 3 233 ls st h = run 3 235 ls (.int (nI 61) :: st) h := e_bipush (k := 61) (by decide +kernel) (by decide +kernel)
theorem s3_235 {ls : List Value} {x y : Int32} {st : List Value} {h : aH} : run 3 235 ls (.int y :: .int x :: st) h = if x = y then run 3 238 ls st h else run 3 242 ls st h := e_icmp_ne (off := 7) (by decide +kernel) (by decide)
theorem s3_238 {ls : List Value} {st : List Value} {h : aH} : run 3 238 ls st h = run 3 239 ls (.int (nI 1) :: st) h := e_iconst (k := 1) (by decide +kernel) (by decide +kernel)
theorem s3_239 {ls : List Value} {st : List Value} {h : aH} : run 3 239 ls st h = run 3 243 ls st h := e_goto (off := 4) (by decide +kernel) (by decide)
theorem s3_242 {ls : List Value} {st : List Value} {h : aH} : run 3 242 ls st h = run 3 243 ls (.int (nI 0) :: st) h := e_iconst (k := 0) (by decide +kernel) (by decide +kernel)
theorem s3_243 {ls : List Value} {st : List Value} {h : aH} : run 3 243 ls st h = run 3 245 ls (.int (nI 8) :: st) h := e_bipush (k := 8) (by decide +kernel) (by decide +kernel)
theorem s3_245 {ls : List Value} {b : Nat}  {x0 : Int32} {x1 : Int32} {h : aH} : run 3 245 ls [.int x1, .int x0, .ref b] h = rcK 0 (hget h b) (bK (run 5 0 [.ref b, .int x0, .int x1] [] h) (fun v h1 => run 3 248 ls (v.toList ++ []) h1)) := e_callV (k := 25) (g := 5) (n := 2) (by decide +kernel) (by decide +kernel) (by decide +kernel) (by decide +kernel) rfl (Nat.le_of_ble_eq_true rfl) rfl ⟨Nat.le_of_ble_eq_true rfl, Nat.le_of_ble_eq_true rfl⟩ rfl
theorem s3_248 {ls : List Value} {x : Int32} {h : aH} : run 3 248 ls [.int x] h = if x = 0 ∨ x = 1 then some (some (.int x), h) else none := e_zreturn (by decide +kernel) (by decide +kernel)
theorem s3_249 {a1 : Value} {x : Nat} {st : List Value} {h : aH} : run 3 249 [.ref x, a1] st h = run 3 250 [.ref x, a1] (.ref x :: st) h := e_aload_n (k := 0) (by decide +kernel) rfl
theorem s3_250 {a0 : Value} {x : Int32} {st : List Value} {h : aH} : run 3 250 [a0, .int x] st h = run 3 251 [a0, .int x] (.int x :: st) h := e_iload_n (k := 1) (by decide +kernel) rfl
theorem s3_251 {ls : List Value} {s0 : Nat} {x0 : Int32} {h : aH} : run 3 251 ls [.int x0, .ref s0] h = bK (run 6 0 [.int x0] [] h) (fun v h1 => run 3 254 ls (v.toList ++ [.ref s0]) h1) := e_callS (k := 29) (g := 6) (n := 1) (by decide +kernel) (by decide +kernel) (by decide +kernel) (by decide +kernel) rfl (Nat.le_of_ble_eq_true rfl) rfl ⟨Nat.le_of_ble_eq_true rfl, Nat.le_of_ble_eq_true rfl⟩ rfl
theorem s3_254 {ls : List Value} {y : Int32} {x : Nat} {st : List Value} {h : aH} : run 3 254 ls (.int y :: .ref x :: st) h = puK 0 7 (hget h x) (.int y) (fun c => run 3 257 ls st (hset h x c)) := e_put (k := 42) (by decide +kernel) (by decide +kernel) (by decide +kernel) rfl rfl
theorem s3_257 {a1 : Value} {x : Nat} {st : List Value} {h : aH} : run 3 257 [.ref x, a1] st h = run 3 258 [.ref x, a1] (.ref x :: st) h := e_aload_n (k := 0) (by decide +kernel) rfl
theorem s3_258 {a1 : Value} {x : Nat} {st : List Value} {h : aH} : run 3 258 [.ref x, a1] st h = run 3 259 [.ref x, a1] (.ref x :: st) h := e_aload_n (k := 0) (by decide +kernel) rfl
theorem s3_259 {ls : List Value} {x : Nat} {st : List Value} {h : aH} : run 3 259 ls (.ref x :: st) h = gfK 0 7 (hget h x) (fun v => run 3 262 ls (v :: st) h) := e_get (k := 42) (by decide +kernel) (by decide +kernel)
theorem s3_262 {ls : List Value} {x : Int32} {st : List Value} {h : aH} : run 3 262 ls (.int x :: st) h = if x < 0 then run 3 277 ls st h else run 3 265 ls st h := e_if_lt (off := 15) (by decide +kernel) (by decide)
theorem s3_265 {a1 : Value} {x : Nat} {st : List Value} {h : aH} : run 3 265 [.ref x, a1] st h = run 3 266 [.ref x, a1] (.ref x :: st) h := e_aload_n (k := 0) (by decide +kernel) rfl
theorem s3_266 {ls : List Value} {x : Nat} {st : List Value} {h : aH} : run 3 266 ls (.ref x :: st) h = gfK 0 7 (hget h x) (fun v => run 3 269 ls (v :: st) h) := e_get (k := 42) (by decide +kernel) (by decide +kernel)
theorem s3_269 {ls : List Value} {st : List Value} {h : aH} : run 3 269 ls st h = run 3 270 ls (.int (nI 4) :: st) h := e_iconst (k := 4) (by decide +kernel) (by decide +kernel)
theorem s3_270 {ls : List Value} {x y : Int32} {st : List Value} {h : aH} : run 3 270 ls (.int y :: .int x :: st) h = if y < x then run 3 277 ls st h else run 3 273 ls st h := e_icmp_gt (off := 7) (by decide +kernel) (by decide)
theorem s3_273 {ls : List Value} {st : List Value} {h : aH} : run 3 273 ls st h = run 3 274 ls (.int (nI 1) :: st) h := e_iconst (k := 1) (by decide +kernel) (by decide +kernel)
theorem s3_274 {ls : List Value} {st : List Value} {h : aH} : run 3 274 ls st h = run 3 278 ls st h := e_goto (off := 4) (by decide +kernel) (by decide)
theorem s3_277 {ls : List Value} {st : List Value} {h : aH} : run 3 277 ls st h = run 3 278 ls (.int (nI 0) :: st) h := e_iconst (k := 0) (by decide +kernel) (by decide +kernel)
theorem s3_278 {ls : List Value} {st : List Value} {h : aH} : run 3 278 ls st h = run 3 279 ls (.int (nI 5) :: st) h := e_iconst (k := 5) (by decide +kernel) (by decide +kernel)
theorem s3_279 {ls : List Value} {b : Nat}  {x0 : Int32} {x1 : Int32} {h : aH} : run 3 279 ls [.int x1, .int x0, .ref b] h = rcK 0 (hget h b) (bK (run 5 0 [.ref b, .int x0, .int x1] [] h) (fun v h1 => run 3 282 ls (v.toList ++ []) h1)) := e_callV (k := 25) (g := 5) (n := 2) (by decide +kernel) (by decide +kernel) (by decide +kernel) (by decide +kernel) rfl (Nat.le_of_ble_eq_true rfl) rfl ⟨Nat.le_of_ble_eq_true rfl, Nat.le_of_ble_eq_true rfl⟩ rfl
theorem s3_282 {ls : List Value} {x : Int32} {h : aH} : run 3 282 ls [.int x] h = if x = 0 ∨ x = 1 then some (some (.int x), h) else none := e_zreturn (by decide +kernel) (by decide +kernel)
theorem s3_283 {ls : List Value} {st : List Value} {h : aH} : run 3 283 ls st h = run 3 284 ls (.int (nI 0) :: st) h := e_iconst (k := 0) (by decide +kernel) (by decide +kernel)
theorem s3_284 {ls : List Value} {x : Int32} {h : aH} : run 3 284 ls [.int x] h = if x = 0 ∨ x = 1 then some (some (.int x), h) else none := e_zreturn (by decide +kernel) (by decide +kernel)
theorem s4_0 {a1 : Value} {x : Nat} {st : List Value} {h : aH} : run 4 0 [.ref x, a1] st h = run 4 1 [.ref x, a1] (.ref x :: st) h := e_aload_n (k := 0) (by decide +kernel) rfl
theorem s4_1 {a0 : Value} {x : Int32} {st : List Value} {h : aH} : run 4 1 [a0, .int x] st h = run 4 2 [a0, .int x] (.int x :: st) h := e_iload_n (k := 1) (by decide +kernel) rfl
theorem s4_2 {ls : List Value} {st : List Value} {h : aH} : run 4 2 ls st h = run 4 4 ls (.int (nI 98) :: st) h := e_bipush (k := 98) (by decide +kernel) (by decide +kernel)
theorem s4_4 {ls : List Value} {x y : Int32} {st : List Value} {h : aH} : run 4 4 ls (.int y :: .int x :: st) h = if x = y then run 4 11 ls st h else run 4 7 ls st h := e_icmp_eq (off := 7) (by decide +kernel) (by decide)
theorem s4_7 {ls : List Value} {st : List Value} {h : aH} : run 4 7 ls st h = run 4 8 ls (.int (nI 1) :: st) h := e_iconst (k := 1) (by decide +kernel) (by decide +kernel)
theorem s4_8 {ls : List Value} {st : List Value} {h : aH} : run 4 8 ls st h = run 4 12 ls st h := e_goto (off := 4) (by decide +kernel) (by decide)
theorem s4_11 {ls : List Value} {st : List Value} {h : aH} : run 4 11 ls st h = run 4 12 ls (.int (nI 0) :: st) h := e_iconst (k := 0) (by decide +kernel) (by decide +kernel)
theorem s4_12 {ls : List Value} {y : Int32} {x : Nat} {st : List Value} {h : aH} : run 4 12 ls (.int y :: .ref x :: st) h = pfK 0 3 (hget h x) (.int y) (fun c => run 4 15 ls st (hset h x c)) := e_putK (k := 45) (by decide +kernel) (by decide +kernel) (by decide +kernel)
theorem s4_15 {a1 : Value} {x : Nat} {st : List Value} {h : aH} : run 4 15 [.ref x, a1] st h = run 4 16 [.ref x, a1] (.ref x :: st) h := e_aload_n (k := 0) (by decide +kernel) rfl
theorem s4_16 {ls : List Value} {x : Nat} {st : List Value} {h : aH} : run 4 16 ls (.ref x :: st) h = gfK 0 3 (hget h x) (fun v => run 4 19 ls (v :: st) h) := e_get (k := 45) (by decide +kernel) (by decide +kernel)
theorem s4_19 {ls : List Value} {x : Int32} {st : List Value} {h : aH} : run 4 19 ls (.int x :: st) h = if x = 0 then run 4 22 ls st h else run 4 30 ls st h := e_if_ne (off := 11) (by decide +kernel) (by decide)
theorem s4_22 {a1 : Value} {x : Nat} {st : List Value} {h : aH} : run 4 22 [.ref x, a1] st h = run 4 23 [.ref x, a1] (.ref x :: st) h := e_aload_n (k := 0) (by decide +kernel) rfl
theorem s4_23 {ls : List Value} {st : List Value} {h : aH} : run 4 23 ls st h = run 4 24 ls (.int (nI 1) :: st) h := e_iconst (k := 1) (by decide +kernel) (by decide +kernel)
theorem s4_24 {ls : List Value} {st : List Value} {h : aH} : run 4 24 ls st h = run 4 26 ls (.int (nI 6) :: st) h := e_bipush (k := 6) (by decide +kernel) (by decide +kernel)
theorem s4_26 {ls : List Value} {b : Nat}  {x0 : Int32} {x1 : Int32} {h : aH} : run 4 26 ls [.int x1, .int x0, .ref b] h = rcK 0 (hget h b) (bK (run 5 0 [.ref b, .int x0, .int x1] [] h) (fun v h1 => run 4 29 ls (v.toList ++ []) h1)) := e_callV (k := 25) (g := 5) (n := 2) (by decide +kernel) (by decide +kernel) (by decide +kernel) (by decide +kernel) rfl (Nat.le_of_ble_eq_true rfl) rfl ⟨Nat.le_of_ble_eq_true rfl, Nat.le_of_ble_eq_true rfl⟩ rfl
theorem s4_29 {ls : List Value} {x : Int32} {h : aH} : run 4 29 ls [.int x] h = if x = 0 ∨ x = 1 then some (some (.int x), h) else none := e_zreturn (by decide +kernel) (by decide +kernel)
theorem s4_30 {a1 : Value} {x : Nat} {st : List Value} {h : aH} : run 4 30 [.ref x, a1] st h = run 4 31 [.ref x, a1] (.ref x :: st) h := e_aload_n (k := 0) (by decide +kernel) rfl
theorem s4_31 {a0 : Value} {x : Int32} {st : List Value} {h : aH} : run 4 31 [a0, .int x] st h = run 4 32 [a0, .int x] (.int x :: st) h := e_iload_n (k := 1) (by decide +kernel) rfl
theorem s4_32 {ls : List Value} {s0 : Nat} {x0 : Int32} {h : aH} : run 4 32 ls [.int x0, .ref s0] h = bK (run 6 0 [.int x0] [] h) (fun v h1 => run 4 35 ls (v.toList ++ [.ref s0]) h1) := e_callS (k := 29) (g := 6) (n := 1) (by decide +kernel) (by decide +kernel) (by decide +kernel) (by decide +kernel) rfl (Nat.le_of_ble_eq_true rfl) rfl ⟨Nat.le_of_ble_eq_true rfl, Nat.le_of_ble_eq_true rfl⟩ rfl
theorem s4_35 {ls : List Value} {y : Int32} {x : Nat} {st : List Value} {h : aH} : run 4 35 ls (.int y :: .ref x :: st) h = puK 0 4 (hget h x) (.int y) (fun c => run 4 38 ls st (hset h x c)) := e_put (k := 36) (by decide +kernel) (by decide +kernel) (by decide +kernel) rfl rfl
theorem s4_38 {a1 : Value} {x : Nat} {st : List Value} {h : aH} : run 4 38 [.ref x, a1] st h = run 4 39 [.ref x, a1] (.ref x :: st) h := e_aload_n (k := 0) (by decide +kernel) rfl
theorem s4_39 {ls : List Value} {st : List Value} {h : aH} : run 4 39 ls st h = run 4 40 ls (.int (nI 0) :: st) h := e_iconst (k := 0) (by decide +kernel) (by decide +kernel)
theorem s4_40 {ls : List Value} {y : Int32} {x : Nat} {st : List Value} {h : aH} : run 4 40 ls (.int y :: .ref x :: st) h = puK 0 6 (hget h x) (.int y) (fun c => run 4 43 ls st (hset h x c)) := e_put (k := 39) (by decide +kernel) (by decide +kernel) (by decide +kernel) rfl rfl
theorem s4_43 {a1 : Value} {x : Nat} {st : List Value} {h : aH} : run 4 43 [.ref x, a1] st h = run 4 44 [.ref x, a1] (.ref x :: st) h := e_aload_n (k := 0) (by decide +kernel) rfl
theorem s4_44 {ls : List Value} {x : Nat} {st : List Value} {h : aH} : run 4 44 ls (.ref x :: st) h = gfK 0 4 (hget h x) (fun v => run 4 47 ls (v :: st) h) := e_get (k := 36) (by decide +kernel) (by decide +kernel)
theorem s4_47 {ls : List Value} {x : Int32} {st : List Value} {h : aH} : run 4 47 ls (.int x :: st) h = if x < 0 then run 4 70 ls st h else run 4 50 ls st h := e_if_lt (off := 23) (by decide +kernel) (by decide)
theorem s4_50 {a1 : Value} {x : Nat} {st : List Value} {h : aH} : run 4 50 [.ref x, a1] st h = run 4 51 [.ref x, a1] (.ref x :: st) h := e_aload_n (k := 0) (by decide +kernel) rfl
theorem s4_51 {ls : List Value} {x : Nat} {st : List Value} {h : aH} : run 4 51 ls (.ref x :: st) h = gfK 0 4 (hget h x) (fun v => run 4 54 ls (v :: st) h) := e_get (k := 36) (by decide +kernel) (by decide +kernel)
theorem s4_54 {a1 : Value} {x : Nat} {st : List Value} {h : aH} : run 4 54 [.ref x, a1] st h = run 4 55 [.ref x, a1] (.ref x :: st) h := e_aload_n (k := 0) (by decide +kernel) rfl
theorem s4_55 {ls : List Value} {x : Nat} {st : List Value} {h : aH} : run 4 55 ls (.ref x :: st) h = gfK 0 1 (hget h x) (fun v => run 4 58 ls (v :: st) h) := e_get (k := 15) (by decide +kernel) (by decide +kernel)
theorem s4_58 {ls : List Value} {x y : Int32} {st : List Value} {h : aH} : run 4 58 ls (.int y :: .int x :: st) h = if x < y then run 4 61 ls st h else run 4 70 ls st h := e_icmp_ge (off := 12) (by decide +kernel) (by decide)
theorem s4_61 {a1 : Value} {x : Nat} {st : List Value} {h : aH} : run 4 61 [.ref x, a1] st h = run 4 62 [.ref x, a1] (.ref x :: st) h := e_aload_n (k := 0) (by decide +kernel) rfl
theorem s4_62 {ls : List Value} {x : Nat} {st : List Value} {h : aH} : run 4 62 ls (.ref x :: st) h = gfK 0 2 (hget h x) (fun v => run 4 65 ls (v :: st) h) := e_get (k := 18) (by decide +kernel) (by decide +kernel)
theorem s4_65 {ls : List Value} {st : List Value} {h : aH} : run 4 65 ls st h = run 4 67 ls (.int (nI 20) :: st) h := e_bipush (k := 20) (by decide +kernel) (by decide +kernel)
theorem s4_67 {ls : List Value} {x y : Int32} {st : List Value} {h : aH} : run 4 67 ls (.int y :: .int x :: st) h = if x < y then run 4 72 ls st h else run 4 70 ls st h := e_icmp_lt (off := 5) (by decide +kernel) (by decide)
theorem s4_70 {ls : List Value} {st : List Value} {h : aH} : run 4 70 ls st h = run 4 71 ls (.int (nI 0) :: st) h := e_iconst (k := 0) (by decide +kernel) (by decide +kernel)
theorem s4_71 {ls : List Value} {x : Int32} {h : aH} : run 4 71 ls [.int x] h = if x = 0 ∨ x = 1 then some (some (.int x), h) else none := e_zreturn (by decide +kernel) (by decide +kernel)
theorem s4_72 {a1 : Value} {x : Nat} {st : List Value} {h : aH} : run 4 72 [.ref x, a1] st h = run 4 73 [.ref x, a1] (.ref x :: st) h := e_aload_n (k := 0) (by decide +kernel) rfl
theorem s4_73 {ls : List Value} {x : Nat} {st : List Value} {h : aH} : run 4 73 ls (.ref x :: st) h = run 4 74 ls (.ref x :: .ref x :: st) h := e_dup (by decide +kernel) rfl
theorem s4_74 {ls : List Value} {x : Nat} {st : List Value} {h : aH} : run 4 74 ls (.ref x :: st) h = gfK 0 2 (hget h x) (fun v => run 4 77 ls (v :: st) h) := e_get (k := 18) (by decide +kernel) (by decide +kernel)
theorem s4_77 {ls : List Value} {st : List Value} {h : aH} : run 4 77 ls st h = run 4 78 ls (.int (nI 1) :: st) h := e_iconst (k := 1) (by decide +kernel) (by decide +kernel)
theorem s4_78 {ls : List Value} {x y : Int32} {st : List Value} {h : aH} : run 4 78 ls (.int y :: .int x :: st) h = run 4 79 ls (.int (x + y) :: st) h := e_iadd (by decide +kernel)
theorem s4_79 {ls : List Value} {y : Int32} {x : Nat} {st : List Value} {h : aH} : run 4 79 ls (.int y :: .ref x :: st) h = puK 0 2 (hget h x) (.int y) (fun c => run 4 82 ls st (hset h x c)) := e_put (k := 18) (by decide +kernel) (by decide +kernel) (by decide +kernel) rfl rfl
theorem s4_82 {a1 : Value} {x : Nat} {st : List Value} {h : aH} : run 4 82 [.ref x, a1] st h = run 4 83 [.ref x, a1] (.ref x :: st) h := e_aload_n (k := 0) (by decide +kernel) rfl
theorem s4_83 {ls : List Value} {st : List Value} {h : aH} : run 4 83 ls st h = run 4 84 ls (.int (nI 1) :: st) h := e_iconst (k := 1) (by decide +kernel) (by decide +kernel)
theorem s4_84 {ls : List Value} {st : List Value} {h : aH} : run 4 84 ls st h = run 4 85 ls (.int (nI 1) :: st) h := e_iconst (k := 1) (by decide +kernel) (by decide +kernel)
theorem s4_85 {ls : List Value} {b : Nat}  {x0 : Int32} {x1 : Int32} {h : aH} : run 4 85 ls [.int x1, .int x0, .ref b] h = rcK 0 (hget h b) (bK (run 5 0 [.ref b, .int x0, .int x1] [] h) (fun v h1 => run 4 88 ls (v.toList ++ []) h1)) := e_callV (k := 25) (g := 5) (n := 2) (by decide +kernel) (by decide +kernel) (by decide +kernel) (by decide +kernel) rfl (Nat.le_of_ble_eq_true rfl) rfl ⟨Nat.le_of_ble_eq_true rfl, Nat.le_of_ble_eq_true rfl⟩ rfl
theorem s4_88 {ls : List Value} {x : Int32} {h : aH} : run 4 88 ls [.int x] h = if x = 0 ∨ x = 1 then some (some (.int x), h) else none := e_zreturn (by decide +kernel) (by decide +kernel)
theorem s5_0 {a0 a2 : Value} {x : Int32} {st : List Value} {h : aH} : run 5 0 [a0, .int x, a2] st h = run 5 1 [a0, .int x, a2] (.int x :: st) h := e_iload_n (k := 1) (by decide +kernel) rfl
theorem s5_1 {ls : List Value} {x : Int32} {st : List Value} {h : aH} : run 5 1 ls (.int x :: st) h = if x = 0 then run 5 9 ls st h else run 5 4 ls st h := e_if_eq (off := 8) (by decide +kernel) (by decide)
theorem s5_4 {a1 a2 : Value} {x : Nat} {st : List Value} {h : aH} : run 5 4 [.ref x, a1, a2] st h = run 5 5 [.ref x, a1, a2] (.ref x :: st) h := e_aload_n (k := 0) (by decide +kernel) rfl
theorem s5_5 {a0 a1 : Value} {x : Int32} {st : List Value} {h : aH} : run 5 5 [a0, a1, .int x] st h = run 5 6 [a0, a1, .int x] (.int x :: st) h := e_iload_n (k := 2) (by decide +kernel) rfl
theorem s5_6 {ls : List Value} {y : Int32} {x : Nat} {st : List Value} {h : aH} : run 5 6 ls (.int y :: .ref x :: st) h = puK 0 0 (hget h x) (.int y) (fun c => run 5 9 ls st (hset h x c)) := e_put (k := 11) (by decide +kernel) (by decide +kernel) (by decide +kernel) rfl rfl
theorem s5_9 {a0 a2 : Value} {x : Int32} {st : List Value} {h : aH} : run 5 9 [a0, .int x, a2] st h = run 5 10 [a0, .int x, a2] (.int x :: st) h := e_iload_n (k := 1) (by decide +kernel) rfl
theorem s5_10 {ls : List Value} {x : Int32} {h : aH} : run 5 10 ls [.int x] h = if x = 0 ∨ x = 1 then some (some (.int x), h) else none := e_zreturn (by decide +kernel) (by decide +kernel)
theorem s6_0 {x : Int32} {st : List Value} {h : aH} : run 6 0 [.int x] st h = run 6 1 [.int x] (.int x :: st) h := e_iload_n (k := 0) (by decide +kernel) rfl
theorem s6_1 {ls : List Value} {st : List Value} {h : aH} : run 6 1 ls st h = run 6 3 ls (.int (nI 48) :: st) h := e_bipush (k := 48) (by decide +kernel) (by decide +kernel)
theorem s6_3 {ls : List Value} {x y : Int32} {st : List Value} {h : aH} : run 6 3 ls (.int y :: .int x :: st) h = if x < y then run 6 19 ls st h else run 6 6 ls st h := e_icmp_lt (off := 16) (by decide +kernel) (by decide)
theorem s6_6 {x : Int32} {st : List Value} {h : aH} : run 6 6 [.int x] st h = run 6 7 [.int x] (.int x :: st) h := e_iload_n (k := 0) (by decide +kernel) rfl
theorem s6_7 {ls : List Value} {st : List Value} {h : aH} : run 6 7 ls st h = run 6 9 ls (.int (nI 57) :: st) h := e_bipush (k := 57) (by decide +kernel) (by decide +kernel)
theorem s6_9 {ls : List Value} {x y : Int32} {st : List Value} {h : aH} : run 6 9 ls (.int y :: .int x :: st) h = if y < x then run 6 19 ls st h else run 6 12 ls st h := e_icmp_gt (off := 10) (by decide +kernel) (by decide)
theorem s6_12 {x : Int32} {st : List Value} {h : aH} : run 6 12 [.int x] st h = run 6 13 [.int x] (.int x :: st) h := e_iload_n (k := 0) (by decide +kernel) rfl
theorem s6_13 {ls : List Value} {st : List Value} {h : aH} : run 6 13 ls st h = run 6 15 ls (.int (nI 48) :: st) h := e_bipush (k := 48) (by decide +kernel) (by decide +kernel)
theorem s6_15 {ls : List Value} {x y : Int32} {st : List Value} {h : aH} : run 6 15 ls (.int y :: .int x :: st) h = run 6 16 ls (.int (x - y) :: st) h := e_isub (by decide +kernel)
theorem s6_16 {ls : List Value} {st : List Value} {h : aH} : run 6 16 ls st h = run 6 20 ls st h := e_goto (off := 4) (by decide +kernel) (by decide)
theorem s6_19 {ls : List Value} {st : List Value} {h : aH} : run 6 19 ls st h = run 6 20 ls (.int (-1) :: st) h := e_iconst (k := -1) (by decide +kernel) (by decide +kernel)
theorem s6_20 {ls : List Value} {x : Int32} {h : aH} : run 6 20 ls [.int x] h = some (some (.int x), h) := e_ireturn (by decide +kernel) (by decide +kernel)
theorem s7_0 {x : Nat} {st : List Value} {h : aH} : run 7 0 [.ref x] st h = run 7 1 [.ref x] (.ref x :: st) h := e_aload_n (k := 0) (by decide +kernel) rfl
theorem s7_1 {ls : List Value} {x : Nat}  {h : aH} : run 7 1 ls (.ref x :: []) h = run 7 4 ls [] h := e_oini (k := 3) (x := 0) (by decide +kernel) (by decide +kernel) (by decide +kernel) (by decide +kernel) (Nat.le_of_ble_eq_true rfl)
theorem s7_4 {x : Nat} {st : List Value} {h : aH} : run 7 4 [.ref x] st h = run 7 5 [.ref x] (.ref x :: st) h := e_aload_n (k := 0) (by decide +kernel) rfl
theorem s7_5 {ls : List Value} {st : List Value} {h : aH} : run 7 5 ls st h = run 7 6 ls (.int (nI 0) :: st) h := e_iconst (k := 0) (by decide +kernel) (by decide +kernel)
theorem s7_6 {ls : List Value} {y : Int32} {x : Nat} {st : List Value} {h : aH} : run 7 6 ls (.int y :: .ref x :: st) h = puK 1 0 (hget h x) (.int y) (fun c => run 7 9 ls st (hset h x c)) := e_put (k := 9) (by decide +kernel) (by decide +kernel) (by decide +kernel) rfl rfl
theorem s7_9 {x : Nat} {st : List Value} {h : aH} : run 7 9 [.ref x] st h = run 7 10 [.ref x] (.ref x :: st) h := e_aload_n (k := 0) (by decide +kernel) rfl
theorem s7_10 {ls : List Value} {st : List Value} {h : aH} : run 7 10 ls st h = run 7 11 ls (.int (nI 0) :: st) h := e_iconst (k := 0) (by decide +kernel) (by decide +kernel)
theorem s7_11 {ls : List Value} {y : Int32} {x : Nat} {st : List Value} {h : aH} : run 7 11 ls (.int y :: .ref x :: st) h = puK 1 1 (hget h x) (.int y) (fun c => run 7 14 ls st (hset h x c)) := e_put (k := 15) (by decide +kernel) (by decide +kernel) (by decide +kernel) rfl rfl
theorem s7_14 {x : Nat} {st : List Value} {h : aH} : run 7 14 [.ref x] st h = run 7 15 [.ref x] (.ref x :: st) h := e_aload_n (k := 0) (by decide +kernel) rfl
theorem s7_15 {ls : List Value} {st : List Value} {h : aH} : run 7 15 ls st h = run 7 16 ls (.int (nI 0) :: st) h := e_iconst (k := 0) (by decide +kernel) (by decide +kernel)
theorem s7_16 {ls : List Value} {y : Int32} {x : Nat} {st : List Value} {h : aH} : run 7 16 ls (.int y :: .ref x :: st) h = puK 1 2 (hget h x) (.int y) (fun c => run 7 19 ls st (hset h x c)) := e_put (k := 18) (by decide +kernel) (by decide +kernel) (by decide +kernel) rfl rfl
theorem s7_19 {x : Nat} {st : List Value} {h : aH} : run 7 19 [.ref x] st h = run 7 20 [.ref x] (.ref x :: st) h := e_aload_n (k := 0) (by decide +kernel) rfl
theorem s7_20 {ls : List Value} {st : List Value} {h : aH} : run 7 20 ls st h = run 7 21 ls (.int (nI 4) :: st) h := e_iconst (k := 4) (by decide +kernel) (by decide +kernel)
theorem s7_21 {ls : List Value} {st : List Value} {h : aH} : run 7 21 ls (.int (nI 4) :: st) h = run 7 23 ls (.ref h.1 :: st) (hnew h 4 (.inl (0, 4, .inl (fun _ => 0)))) := e_newa (t := .int) (by decide +kernel) rfl (Nat.le_of_ble_eq_true rfl)
theorem s7_23 {ls : List Value} {y : Nat} {x : Nat} {st : List Value} {h : aH} : run 7 23 ls (.ref y :: .ref x :: st) h = puK 1 3 (hget h x) (.ref y) (fun c => run 7 26 ls st (hset h x c)) := e_put (k := 21) (by decide +kernel) (by decide +kernel) (by decide +kernel) rfl rfl
theorem s7_26 {x : Nat} {st : List Value} {h : aH} : run 7 26 [.ref x] st h = run 7 27 [.ref x] (.ref x :: st) h := e_aload_n (k := 0) (by decide +kernel) rfl
theorem s7_27 {ls : List Value} {b : Nat}   {h : aH} : run 7 27 ls [.ref b] h = rcK 1 (hget h b) (bK (run 8 0 [.ref b] [] h) (fun v h1 => run 7 30 ls (v.toList ++ []) h1)) := e_callV (k := 25) (g := 8) (n := 0) (by decide +kernel) (by decide +kernel) (by decide +kernel) (by decide +kernel) rfl (Nat.le_of_ble_eq_true rfl) rfl ⟨Nat.le_of_ble_eq_true rfl, Nat.le_of_ble_eq_true rfl⟩ rfl
theorem s7_30 {ls : List Value} {h : aH} : run 7 30 ls [] h = some (none, h) := e_return (x := ()) (by decide +kernel) (by decide +kernel)
theorem s8_0 {x : Nat} {st : List Value} {h : aH} : run 8 0 [.ref x] st h = run 8 1 [.ref x] (.ref x :: st) h := e_aload_n (k := 0) (by decide +kernel) rfl
theorem s8_1 {ls : List Value} {x : Nat} {st : List Value} {h : aH} : run 8 1 ls (.ref x :: st) h = gfK 1 3 (hget h x) (fun v => run 8 4 ls (v :: st) h) := e_get (k := 21) (by decide +kernel) (by decide +kernel)
theorem s8_4 {ls : List Value} {st : List Value} {h : aH} : run 8 4 ls st h = run 8 5 ls (.int (nI 0) :: st) h := e_iconst (k := 0) (by decide +kernel) (by decide +kernel)
theorem s8_5 {ls : List Value}  {x0 : Nat} {x1 : Int32} {h : aH} : run 8 5 ls [.int x1, .ref x0] h = bK (run 187 0 [.ref x0, .int x1, .null, .null] [] h) (fun v h1 => run 8 8 ls (v.toList ++ []) h1) := e_callS (k := 28) (g := 187) (n := 2) (by decide +kernel) (by decide +kernel) (by decide +kernel) (by decide +kernel) rfl (Nat.le_of_ble_eq_true rfl) rfl ⟨Nat.le_of_ble_eq_true rfl, Nat.le_of_ble_eq_true rfl⟩ rfl
theorem s8_8 {x : Nat} {st : List Value} {h : aH} : run 8 8 [.ref x] st h = run 8 9 [.ref x] (.ref x :: st) h := e_aload_n (k := 0) (by decide +kernel) rfl
theorem s8_9 {ls : List Value} {st : List Value} {h : aH} : run 8 9 ls st h = run 8 10 ls (.int (nI 0) :: st) h := e_iconst (k := 0) (by decide +kernel) (by decide +kernel)
theorem s8_10 {ls : List Value} {y : Int32} {x : Nat} {st : List Value} {h : aH} : run 8 10 ls (.int y :: .ref x :: st) h = puK 1 4 (hget h x) (.int y) (fun c => run 8 13 ls st (hset h x c)) := e_put (k := 34) (by decide +kernel) (by decide +kernel) (by decide +kernel) rfl rfl
theorem s8_13 {x : Nat} {st : List Value} {h : aH} : run 8 13 [.ref x] st h = run 8 14 [.ref x] (.ref x :: st) h := e_aload_n (k := 0) (by decide +kernel) rfl
theorem s8_14 {ls : List Value} {st : List Value} {h : aH} : run 8 14 ls st h = run 8 16 ls (.int (-4) :: st) h := e_bipush (k := -4) (by decide +kernel) (by decide +kernel)
theorem s8_16 {ls : List Value} {y : Int32} {x : Nat} {st : List Value} {h : aH} : run 8 16 ls (.int y :: .ref x :: st) h = puK 1 5 (hget h x) (.int y) (fun c => run 8 19 ls st (hset h x c)) := e_put (k := 37) (by decide +kernel) (by decide +kernel) (by decide +kernel) rfl rfl
theorem s8_19 {x : Nat} {st : List Value} {h : aH} : run 8 19 [.ref x] st h = run 8 20 [.ref x] (.ref x :: st) h := e_aload_n (k := 0) (by decide +kernel) rfl
theorem s8_20 {ls : List Value} {st : List Value} {h : aH} : run 8 20 ls st h = run 8 21 ls (.int (nI 0) :: st) h := e_iconst (k := 0) (by decide +kernel) (by decide +kernel)
theorem s8_21 {ls : List Value} {y : Int32} {x : Nat} {st : List Value} {h : aH} : run 8 21 ls (.int y :: .ref x :: st) h = puK 1 6 (hget h x) (.int y) (fun c => run 8 24 ls st (hset h x c)) := e_put (k := 40) (by decide +kernel) (by decide +kernel) (by decide +kernel) rfl rfl
theorem s8_24 {x : Nat} {st : List Value} {h : aH} : run 8 24 [.ref x] st h = run 8 25 [.ref x] (.ref x :: st) h := e_aload_n (k := 0) (by decide +kernel) rfl
theorem s8_25 {ls : List Value} {st : List Value} {h : aH} : run 8 25 ls st h = run 8 26 ls (.int (nI 0) :: st) h := e_iconst (k := 0) (by decide +kernel) (by decide +kernel)
theorem s8_26 {ls : List Value} {y : Int32} {x : Nat} {st : List Value} {h : aH} : run 8 26 ls (.int y :: .ref x :: st) h = puK 1 7 (hget h x) (.int y) (fun c => run 8 29 ls st (hset h x c)) := e_put (k := 43) (by decide +kernel) (by decide +kernel) (by decide +kernel) rfl rfl
theorem s8_29 {x : Nat} {st : List Value} {h : aH} : run 8 29 [.ref x] st h = run 8 30 [.ref x] (.ref x :: st) h := e_aload_n (k := 0) (by decide +kernel) rfl
theorem s8_30 {ls : List Value} {st : List Value} {h : aH} : run 8 30 ls st h = run 8 31 ls (.int (nI 0) :: st) h := e_iconst (k := 0) (by decide +kernel) (by decide +kernel)
theorem s8_31 {ls : List Value} {y : Int32} {x : Nat} {st : List Value} {h : aH} : run 8 31 ls (.int y :: .ref x :: st) h = puK 1 8 (hget h x) (.int y) (fun c => run 8 34 ls st (hset h x c)) := e_put (k := 46) (by decide +kernel) (by decide +kernel) (by decide +kernel) rfl rfl
theorem s8_34 {x : Nat} {st : List Value} {h : aH} : run 8 34 [.ref x] st h = run 8 35 [.ref x] (.ref x :: st) h := e_aload_n (k := 0) (by decide +kernel) rfl
theorem s8_35 {ls : List Value} {st : List Value} {h : aH} : run 8 35 ls st h = run 8 36 ls (.int (nI 0) :: st) h := e_iconst (k := 0) (by decide +kernel) (by decide +kernel)
theorem s8_36 {ls : List Value} {y : Int32} {x : Nat} {st : List Value} {h : aH} : run 8 36 ls (.int y :: .ref x :: st) h = pfK 1 9 (hget h x) (.int y) (fun c => run 8 39 ls st (hset h x c)) := e_putK (k := 49) (by decide +kernel) (by decide +kernel) (by decide +kernel)
theorem s8_39 {ls : List Value} {h : aH} : run 8 39 ls [] h = some (none, h) := e_return (x := ()) (by decide +kernel) (by decide +kernel)
theorem s9_0 {a1 : Value} {x : Nat} {st : List Value} {h : aH} : run 9 0 [.ref x, a1] st h = run 9 1 [.ref x, a1] (.ref x :: st) h := e_aload_n (k := 0) (by decide +kernel) rfl
theorem s9_1 {a0 : Value} {x : Nat} {st : List Value} {h : aH} : run 9 1 [a0, .ref x] st h = run 9 2 [a0, .ref x] (.ref x :: st) h := e_aload_n (k := 1) (by decide +kernel) rfl
theorem s9_2 {ls : List Value} {x : Nat} {st : List Value} {h : aH} : run 9 2 ls (.ref x :: st) h = gfK 1 0 (hget h x) (fun v => run 9 5 ls (v :: st) h) := e_get (k := 9) (by decide +kernel) (by decide +kernel)
theorem s9_5 {ls : List Value} {y : Int32} {x : Nat} {st : List Value} {h : aH} : run 9 5 ls (.int y :: .ref x :: st) h = puK 1 0 (hget h x) (.int y) (fun c => run 9 8 ls st (hset h x c)) := e_put (k := 9) (by decide +kernel) (by decide +kernel) (by decide +kernel) rfl rfl
theorem s9_8 {a1 : Value} {x : Nat} {st : List Value} {h : aH} : run 9 8 [.ref x, a1] st h = run 9 9 [.ref x, a1] (.ref x :: st) h := e_aload_n (k := 0) (by decide +kernel) rfl
theorem s9_9 {a0 : Value} {x : Nat} {st : List Value} {h : aH} : run 9 9 [a0, .ref x] st h = run 9 10 [a0, .ref x] (.ref x :: st) h := e_aload_n (k := 1) (by decide +kernel) rfl
theorem s9_10 {ls : List Value} {x : Nat} {st : List Value} {h : aH} : run 9 10 ls (.ref x :: st) h = gfK 1 1 (hget h x) (fun v => run 9 13 ls (v :: st) h) := e_get (k := 15) (by decide +kernel) (by decide +kernel)
theorem s9_13 {ls : List Value} {y : Int32} {x : Nat} {st : List Value} {h : aH} : run 9 13 ls (.int y :: .ref x :: st) h = puK 1 1 (hget h x) (.int y) (fun c => run 9 16 ls st (hset h x c)) := e_put (k := 15) (by decide +kernel) (by decide +kernel) (by decide +kernel) rfl rfl
theorem s9_16 {a1 : Value} {x : Nat} {st : List Value} {h : aH} : run 9 16 [.ref x, a1] st h = run 9 17 [.ref x, a1] (.ref x :: st) h := e_aload_n (k := 0) (by decide +kernel) rfl
theorem s9_17 {a0 : Value} {x : Nat} {st : List Value} {h : aH} : run 9 17 [a0, .ref x] st h = run 9 18 [a0, .ref x] (.ref x :: st) h := e_aload_n (k := 1) (by decide +kernel) rfl
theorem s9_18 {ls : List Value} {x : Nat} {st : List Value} {h : aH} : run 9 18 ls (.ref x :: st) h = gfK 1 2 (hget h x) (fun v => run 9 21 ls (v :: st) h) := e_get (k := 18) (by decide +kernel) (by decide +kernel)
theorem s9_21 {ls : List Value} {y : Int32} {x : Nat} {st : List Value} {h : aH} : run 9 21 ls (.int y :: .ref x :: st) h = puK 1 2 (hget h x) (.int y) (fun c => run 9 24 ls st (hset h x c)) := e_put (k := 18) (by decide +kernel) (by decide +kernel) (by decide +kernel) rfl rfl
theorem s9_24 {a0 : Value} {x : Nat} {st : List Value} {h : aH} : run 9 24 [a0, .ref x] st h = run 9 25 [a0, .ref x] (.ref x :: st) h := e_aload_n (k := 1) (by decide +kernel) rfl
theorem s9_25 {ls : List Value} {x : Nat} {st : List Value} {h : aH} : run 9 25 ls (.ref x :: st) h = gfK 1 3 (hget h x) (fun v => run 9 28 ls (v :: st) h) := e_get (k := 21) (by decide +kernel) (by decide +kernel)
theorem s9_28 {ls : List Value} {st : List Value} {h : aH} : run 9 28 ls st h = run 9 29 ls (.int (nI 0) :: st) h := e_iconst (k := 0) (by decide +kernel) (by decide +kernel)
theorem s9_29 {a1 : Value} {x : Nat} {st : List Value} {h : aH} : run 9 29 [.ref x, a1] st h = run 9 30 [.ref x, a1] (.ref x :: st) h := e_aload_n (k := 0) (by decide +kernel) rfl
theorem s9_30 {ls : List Value} {x : Nat} {st : List Value} {h : aH} : run 9 30 ls (.ref x :: st) h = gfK 1 3 (hget h x) (fun v => run 9 33 ls (v :: st) h) := e_get (k := 21) (by decide +kernel) (by decide +kernel)
theorem s9_33 {ls : List Value} {st : List Value} {h : aH} : run 9 33 ls st h = run 9 34 ls (.int (nI 0) :: st) h := e_iconst (k := 0) (by decide +kernel) (by decide +kernel)
theorem s9_34 {ls : List Value} {st : List Value} {h : aH} : run 9 34 ls st h = run 9 35 ls (.int (nI 4) :: st) h := e_iconst (k := 4) (by decide +kernel) (by decide +kernel)
theorem s9_35 {ls : List Value} {n dp sp : Int32} {x y : Nat} {h : aH} : run 9 35 ls [.int n, .int dp, .ref x, .int sp, .ref y] h = ccK sp dp n (hget h y) (hget h x) (fun c => run 9 38 ls [] (hset h x c)) := e_copy (k := 53) (x := 0) (by decide +kernel) (by decide +kernel) (by decide +kernel) (by decide +kernel) (Nat.le_of_ble_eq_true rfl)
theorem s9_38 {a1 : Value} {x : Nat} {st : List Value} {h : aH} : run 9 38 [.ref x, a1] st h = run 9 39 [.ref x, a1] (.ref x :: st) h := e_aload_n (k := 0) (by decide +kernel) rfl
theorem s9_39 {a0 : Value} {x : Nat} {st : List Value} {h : aH} : run 9 39 [a0, .ref x] st h = run 9 40 [a0, .ref x] (.ref x :: st) h := e_aload_n (k := 1) (by decide +kernel) rfl
theorem s9_40 {ls : List Value} {x : Nat} {st : List Value} {h : aH} : run 9 40 ls (.ref x :: st) h = gfK 1 4 (hget h x) (fun v => run 9 43 ls (v :: st) h) := e_get (k := 34) (by decide +kernel) (by decide +kernel)
theorem s9_43 {ls : List Value} {y : Int32} {x : Nat} {st : List Value} {h : aH} : run 9 43 ls (.int y :: .ref x :: st) h = puK 1 4 (hget h x) (.int y) (fun c => run 9 46 ls st (hset h x c)) := e_put (k := 34) (by decide +kernel) (by decide +kernel) (by decide +kernel) rfl rfl
theorem s9_46 {a1 : Value} {x : Nat} {st : List Value} {h : aH} : run 9 46 [.ref x, a1] st h = run 9 47 [.ref x, a1] (.ref x :: st) h := e_aload_n (k := 0) (by decide +kernel) rfl
theorem s9_47 {a0 : Value} {x : Nat} {st : List Value} {h : aH} : run 9 47 [a0, .ref x] st h = run 9 48 [a0, .ref x] (.ref x :: st) h := e_aload_n (k := 1) (by decide +kernel) rfl
theorem s9_48 {ls : List Value} {x : Nat} {st : List Value} {h : aH} : run 9 48 ls (.ref x :: st) h = gfK 1 5 (hget h x) (fun v => run 9 51 ls (v :: st) h) := e_get (k := 37) (by decide +kernel) (by decide +kernel)
theorem s9_51 {ls : List Value} {y : Int32} {x : Nat} {st : List Value} {h : aH} : run 9 51 ls (.int y :: .ref x :: st) h = puK 1 5 (hget h x) (.int y) (fun c => run 9 54 ls st (hset h x c)) := e_put (k := 37) (by decide +kernel) (by decide +kernel) (by decide +kernel) rfl rfl
theorem s9_54 {a1 : Value} {x : Nat} {st : List Value} {h : aH} : run 9 54 [.ref x, a1] st h = run 9 55 [.ref x, a1] (.ref x :: st) h := e_aload_n (k := 0) (by decide +kernel) rfl
theorem s9_55 {a0 : Value} {x : Nat} {st : List Value} {h : aH} : run 9 55 [a0, .ref x] st h = run 9 56 [a0, .ref x] (.ref x :: st) h := e_aload_n (k := 1) (by decide +kernel) rfl
theorem s9_56 {ls : List Value} {x : Nat} {st : List Value} {h : aH} : run 9 56 ls (.ref x :: st) h = gfK 1 6 (hget h x) (fun v => run 9 59 ls (v :: st) h) := e_get (k := 40) (by decide +kernel) (by decide +kernel)
theorem s9_59 {ls : List Value} {y : Int32} {x : Nat} {st : List Value} {h : aH} : run 9 59 ls (.int y :: .ref x :: st) h = puK 1 6 (hget h x) (.int y) (fun c => run 9 62 ls st (hset h x c)) := e_put (k := 40) (by decide +kernel) (by decide +kernel) (by decide +kernel) rfl rfl
theorem s9_62 {a1 : Value} {x : Nat} {st : List Value} {h : aH} : run 9 62 [.ref x, a1] st h = run 9 63 [.ref x, a1] (.ref x :: st) h := e_aload_n (k := 0) (by decide +kernel) rfl
theorem s9_63 {a0 : Value} {x : Nat} {st : List Value} {h : aH} : run 9 63 [a0, .ref x] st h = run 9 64 [a0, .ref x] (.ref x :: st) h := e_aload_n (k := 1) (by decide +kernel) rfl
theorem s9_64 {ls : List Value} {x : Nat} {st : List Value} {h : aH} : run 9 64 ls (.ref x :: st) h = gfK 1 7 (hget h x) (fun v => run 9 67 ls (v :: st) h) := e_get (k := 43) (by decide +kernel) (by decide +kernel)
theorem s9_67 {ls : List Value} {y : Int32} {x : Nat} {st : List Value} {h : aH} : run 9 67 ls (.int y :: .ref x :: st) h = puK 1 7 (hget h x) (.int y) (fun c => run 9 70 ls st (hset h x c)) := e_put (k := 43) (by decide +kernel) (by decide +kernel) (by decide +kernel) rfl rfl
theorem s9_70 {a1 : Value} {x : Nat} {st : List Value} {h : aH} : run 9 70 [.ref x, a1] st h = run 9 71 [.ref x, a1] (.ref x :: st) h := e_aload_n (k := 0) (by decide +kernel) rfl
theorem s9_71 {a0 : Value} {x : Nat} {st : List Value} {h : aH} : run 9 71 [a0, .ref x] st h = run 9 72 [a0, .ref x] (.ref x :: st) h := e_aload_n (k := 1) (by decide +kernel) rfl
theorem s9_72 {ls : List Value} {x : Nat} {st : List Value} {h : aH} : run 9 72 ls (.ref x :: st) h = gfK 1 8 (hget h x) (fun v => run 9 75 ls (v :: st) h) := e_get (k := 46) (by decide +kernel) (by decide +kernel)
theorem s9_75 {ls : List Value} {y : Int32} {x : Nat} {st : List Value} {h : aH} : run 9 75 ls (.int y :: .ref x :: st) h = puK 1 8 (hget h x) (.int y) (fun c => run 9 78 ls st (hset h x c)) := e_put (k := 46) (by decide +kernel) (by decide +kernel) (by decide +kernel) rfl rfl
theorem s9_78 {a1 : Value} {x : Nat} {st : List Value} {h : aH} : run 9 78 [.ref x, a1] st h = run 9 79 [.ref x, a1] (.ref x :: st) h := e_aload_n (k := 0) (by decide +kernel) rfl
theorem s9_79 {a0 : Value} {x : Nat} {st : List Value} {h : aH} : run 9 79 [a0, .ref x] st h = run 9 80 [a0, .ref x] (.ref x :: st) h := e_aload_n (k := 1) (by decide +kernel) rfl
theorem s9_80 {ls : List Value} {x : Nat} {st : List Value} {h : aH} : run 9 80 ls (.ref x :: st) h = gfK 1 9 (hget h x) (fun v => run 9 83 ls (v :: st) h) := e_get (k := 49) (by decide +kernel) (by decide +kernel)
theorem s9_83 {ls : List Value} {y : Int32} {x : Nat} {st : List Value} {h : aH} : run 9 83 ls (.int y :: .ref x :: st) h = pfK 1 9 (hget h x) (.int y) (fun c => run 9 86 ls st (hset h x c)) := e_putK (k := 49) (by decide +kernel) (by decide +kernel) (by decide +kernel)
theorem s9_86 {ls : List Value} {h : aH} : run 9 86 ls [] h = some (none, h) := e_return (x := ()) (by decide +kernel) (by decide +kernel)
theorem s10_0 {a1 a2 : Value} {x : Nat} {st : List Value} {h : aH} : run 10 0 [.ref x, a1, a2] st h = run 10 1 [.ref x, a1, a2] (.ref x :: st) h := e_aload_n (k := 0) (by decide +kernel) rfl
theorem s10_1 {a0 a2 : Value} {x : Int32} {st : List Value} {h : aH} : run 10 1 [a0, .int x, a2] st h = run 10 2 [a0, .int x, a2] (.int x :: st) h := e_iload_n (k := 1) (by decide +kernel) rfl
theorem s10_2 {ls : List Value} {y : Int32} {x : Nat} {st : List Value} {h : aH} : run 10 2 ls (.int y :: .ref x :: st) h = puK 1 5 (hget h x) (.int y) (fun c => run 10 5 ls st (hset h x c)) := e_put (k := 37) (by decide +kernel) (by decide +kernel) (by decide +kernel) rfl rfl
theorem s10_5 {a1 a2 : Value} {x : Nat} {st : List Value} {h : aH} : run 10 5 [.ref x, a1, a2] st h = run 10 6 [.ref x, a1, a2] (.ref x :: st) h := e_aload_n (k := 0) (by decide +kernel) rfl
theorem s10_6 {a0 a1 : Value} {x : Int32} {st : List Value} {h : aH} : run 10 6 [a0, a1, .int x] st h = run 10 7 [a0, a1, .int x] (.int x :: st) h := e_iload_n (k := 2) (by decide +kernel) rfl
theorem s10_7 {ls : List Value} {y : Int32} {x : Nat} {st : List Value} {h : aH} : run 10 7 ls (.int y :: .ref x :: st) h = puK 1 6 (hget h x) (.int y) (fun c => run 10 10 ls st (hset h x c)) := e_put (k := 40) (by decide +kernel) (by decide +kernel) (by decide +kernel) rfl rfl
theorem s10_10 {a1 a2 : Value} {x : Nat} {st : List Value} {h : aH} : run 10 10 [.ref x, a1, a2] st h = run 10 11 [.ref x, a1, a2] (.ref x :: st) h := e_aload_n (k := 0) (by decide +kernel) rfl
theorem s10_11 {ls : List Value} {x : Nat} {st : List Value} {h : aH} : run 10 11 ls (.ref x :: st) h = run 10 12 ls (.ref x :: .ref x :: st) h := e_dup (by decide +kernel) rfl
theorem s10_12 {ls : List Value} {x : Nat} {st : List Value} {h : aH} : run 10 12 ls (.ref x :: st) h = gfK 1 7 (hget h x) (fun v => run 10 15 ls (v :: st) h) := e_get (k := 43) (by decide +kernel) (by decide +kernel)
theorem s10_15 {a0 a2 : Value} {x : Int32} {st : List Value} {h : aH} : run 10 15 [a0, .int x, a2] st h = run 10 16 [a0, .int x, a2] (.int x :: st) h := e_iload_n (k := 1) (by decide +kernel) rfl
theorem s10_16 {ls : List Value} {x y : Int32} {st : List Value} {h : aH} : run 10 16 ls (.int y :: .int x :: st) h = run 10 17 ls (.int (x ^^^ y) :: st) h := e_ixor (by decide +kernel)
theorem s10_17 {ls : List Value} {y : Int32} {x : Nat} {st : List Value} {h : aH} : run 10 17 ls (.int y :: .ref x :: st) h = puK 1 7 (hget h x) (.int y) (fun c => run 10 20 ls st (hset h x c)) := e_put (k := 43) (by decide +kernel) (by decide +kernel) (by decide +kernel) rfl rfl
theorem s10_20 {a1 a2 : Value} {x : Nat} {st : List Value} {h : aH} : run 10 20 [.ref x, a1, a2] st h = run 10 21 [.ref x, a1, a2] (.ref x :: st) h := e_aload_n (k := 0) (by decide +kernel) rfl
theorem s10_21 {ls : List Value} {x : Nat} {st : List Value} {h : aH} : run 10 21 ls (.ref x :: st) h = run 10 22 ls (.ref x :: .ref x :: st) h := e_dup (by decide +kernel) rfl
theorem s10_22 {ls : List Value} {x : Nat} {st : List Value} {h : aH} : run 10 22 ls (.ref x :: st) h = gfK 1 4 (hget h x) (fun v => run 10 25 ls (v :: st) h) := e_get (k := 34) (by decide +kernel) (by decide +kernel)
theorem s10_25 {ls : List Value} {st : List Value} {h : aH} : run 10 25 ls st h = run 10 26 ls (.int (nI 1) :: st) h := e_iconst (k := 1) (by decide +kernel) (by decide +kernel)
theorem s10_26 {ls : List Value} {x y : Int32} {st : List Value} {h : aH} : run 10 26 ls (.int y :: .int x :: st) h = run 10 27 ls (.int (x + y) :: st) h := e_iadd (by decide +kernel)
theorem s10_27 {ls : List Value} {y : Int32} {x : Nat} {st : List Value} {h : aH} : run 10 27 ls (.int y :: .ref x :: st) h = puK 1 4 (hget h x) (.int y) (fun c => run 10 30 ls st (hset h x c)) := e_put (k := 34) (by decide +kernel) (by decide +kernel) (by decide +kernel) rfl rfl
theorem s10_30 {a1 a2 : Value} {x : Nat} {st : List Value} {h : aH} : run 10 30 [.ref x, a1, a2] st h = run 10 31 [.ref x, a1, a2] (.ref x :: st) h := e_aload_n (k := 0) (by decide +kernel) rfl
theorem s10_31 {a1 a2 : Value} {x : Nat} {st : List Value} {h : aH} : run 10 31 [.ref x, a1, a2] st h = run 10 32 [.ref x, a1, a2] (.ref x :: st) h := e_aload_n (k := 0) (by decide +kernel) rfl
theorem s10_32 {ls : List Value} {x : Nat} {st : List Value} {h : aH} : run 10 32 ls (.ref x :: st) h = gfK 1 2 (hget h x) (fun v => run 10 35 ls (v :: st) h) := e_get (k := 18) (by decide +kernel) (by decide +kernel)
theorem s10_35 {ls : List Value} {x : Int32} {st : List Value} {h : aH} : run 10 35 ls (.int x :: st) h = if 0 < x then run 10 38 ls st h else run 10 50 ls st h := e_if_le (off := 15) (by decide +kernel) (by decide)
theorem s10_38 {a1 a2 : Value} {x : Nat} {st : List Value} {h : aH} : run 10 38 [.ref x, a1, a2] st h = run 10 39 [.ref x, a1, a2] (.ref x :: st) h := e_aload_n (k := 0) (by decide +kernel) rfl
theorem s10_39 {ls : List Value} {x : Nat} {st : List Value} {h : aH} : run 10 39 ls (.ref x :: st) h = gfK 1 4 (hget h x) (fun v => run 10 42 ls (v :: st) h) := e_get (k := 34) (by decide +kernel) (by decide +kernel)
theorem s10_42 {a1 a2 : Value} {x : Nat} {st : List Value} {h : aH} : run 10 42 [.ref x, a1, a2] st h = run 10 43 [.ref x, a1, a2] (.ref x :: st) h := e_aload_n (k := 0) (by decide +kernel) rfl
theorem s10_43 {ls : List Value} {x : Nat} {st : List Value} {h : aH} : run 10 43 ls (.ref x :: st) h = gfK 1 2 (hget h x) (fun v => run 10 46 ls (v :: st) h) := e_get (k := 18) (by decide +kernel) (by decide +kernel)
theorem s10_46 {ls : List Value} {x y : Int32} {st : List Value} {h : aH} : run 10 46 ls (.int y :: .int x :: st) h = if y = 0 then none else run 10 47 ls (.int (x - x / y * y) :: st) h := e_irem (by decide +kernel)
theorem s10_47 {ls : List Value} {x : Int32} {st : List Value} {h : aH} : run 10 47 ls (.int x :: st) h = if x = 0 then run 10 54 ls st h else run 10 50 ls st h := e_if_eq (off := 7) (by decide +kernel) (by decide)
theorem s10_50 {ls : List Value} {st : List Value} {h : aH} : run 10 50 ls st h = run 10 51 ls (.int (nI 1) :: st) h := e_iconst (k := 1) (by decide +kernel) (by decide +kernel)
theorem s10_51 {ls : List Value} {st : List Value} {h : aH} : run 10 51 ls st h = run 10 55 ls st h := e_goto (off := 4) (by decide +kernel) (by decide)
theorem s10_54 {ls : List Value} {st : List Value} {h : aH} : run 10 54 ls st h = run 10 55 ls (.int (nI 0) :: st) h := e_iconst (k := 0) (by decide +kernel) (by decide +kernel)
theorem s10_55 {ls : List Value} {y : Int32} {x : Nat} {st : List Value} {h : aH} : run 10 55 ls (.int y :: .ref x :: st) h = pfK 1 9 (hget h x) (.int y) (fun c => run 10 58 ls st (hset h x c)) := e_putK (k := 49) (by decide +kernel) (by decide +kernel) (by decide +kernel)
theorem s10_58 {a1 a2 : Value} {x : Nat} {st : List Value} {h : aH} : run 10 58 [.ref x, a1, a2] st h = run 10 59 [.ref x, a1, a2] (.ref x :: st) h := e_aload_n (k := 0) (by decide +kernel) rfl
theorem s10_59 {ls : List Value} {x : Nat} {st : List Value} {h : aH} : run 10 59 ls (.ref x :: st) h = gfK 1 9 (hget h x) (fun v => run 10 62 ls (v :: st) h) := e_get (k := 49) (by decide +kernel) (by decide +kernel)
theorem s10_62 {ls : List Value} {x : Int32} {st : List Value} {h : aH} : run 10 62 ls (.int x :: st) h = if x = 0 then run 10 65 ls st h else run 10 75 ls st h := e_if_ne (off := 13) (by decide +kernel) (by decide)
theorem s10_65 {a1 a2 : Value} {x : Nat} {st : List Value} {h : aH} : run 10 65 [.ref x, a1, a2] st h = run 10 66 [.ref x, a1, a2] (.ref x :: st) h := e_aload_n (k := 0) (by decide +kernel) rfl
theorem s10_66 {ls : List Value} {x : Nat} {st : List Value} {h : aH} : run 10 66 ls (.ref x :: st) h = gfK 1 3 (hget h x) (fun v => run 10 69 ls (v :: st) h) := e_get (k := 21) (by decide +kernel) (by decide +kernel)
theorem s10_69 {ls : List Value} {st : List Value} {h : aH} : run 10 69 ls st h = run 10 70 ls (.int (nI 0) :: st) h := e_iconst (k := 0) (by decide +kernel) (by decide +kernel)
theorem s10_70 {ls : List Value} {x : Int32} {y : Nat} {st : List Value} {h : aH} : run 10 70 ls (.int x :: .ref y :: st) h = run 10 71 ls (.int x :: .ref y :: .int x :: .ref y :: st) h := e_dup2 (by decide +kernel) rfl rfl
theorem s10_71 {ls : List Value} {i : Int32} {x : Nat} {st : List Value} {h : aH} : run 10 71 ls (.int i :: .ref x :: st) h = alK i (hget h x) (fun t => t == 0 || t == 9) (fun y => run 10 72 ls (.int y :: st) h) := e_iald (by decide +kernel)
theorem s10_72 {ls : List Value} {st : List Value} {h : aH} : run 10 72 ls st h = run 10 73 ls (.int (nI 1) :: st) h := e_iconst (k := 1) (by decide +kernel) (by decide +kernel)
theorem s10_73 {ls : List Value} {x y : Int32} {st : List Value} {h : aH} : run 10 73 ls (.int y :: .int x :: st) h = run 10 74 ls (.int (x + y) :: st) h := e_iadd (by decide +kernel)
theorem s10_74 {ls : List Value} {y i : Int32} {x : Nat} {st : List Value} {h : aH} : run 10 74 ls (.int y :: .int i :: .ref x :: st) h = asK i (hget h x) 0 y (fun c => run 10 75 ls st (hset h x c)) := e_iast (by decide +kernel)
theorem s10_75 {ls : List Value} {h : aH} : run 10 75 ls [] h = some (none, h) := e_return (x := ()) (by decide +kernel) (by decide +kernel)
theorem s11_0 {a1 a2 : Value} {x : Nat} {st : List Value} {h : aH} : run 11 0 [.ref x, a1, a2] st h = run 11 1 [.ref x, a1, a2] (.ref x :: st) h := e_aload_n (k := 0) (by decide +kernel) rfl
theorem s11_1 {ls : List Value} {x : Nat} {st : List Value} {h : aH} : run 11 1 ls (.ref x :: st) h = gfK 1 9 (hget h x) (fun v => run 11 4 ls (v :: st) h) := e_get (k := 49) (by decide +kernel) (by decide +kernel)
theorem s11_4 {ls : List Value} {x : Int32} {st : List Value} {h : aH} : run 11 4 ls (.int x :: st) h = if x = 0 then run 11 7 ls st h else run 11 9 ls st h := e_if_ne (off := 5) (by decide +kernel) (by decide)
theorem s11_7 {ls : List Value} {st : List Value} {h : aH} : run 11 7 ls st h = run 11 8 ls (.int (nI 0) :: st) h := e_iconst (k := 0) (by decide +kernel) (by decide +kernel)
theorem s11_8 {ls : List Value} {x : Int32} {h : aH} : run 11 8 ls [.int x] h = if x = 0 ∨ x = 1 then some (some (.int x), h) else none := e_zreturn (by decide +kernel) (by decide +kernel)
theorem s11_9 {a1 a2 : Value} {x : Nat} {st : List Value} {h : aH} : run 11 9 [.ref x, a1, a2] st h = run 11 10 [.ref x, a1, a2] (.ref x :: st) h := e_aload_n (k := 0) (by decide +kernel) rfl
theorem s11_10 {ls : List Value} {st : List Value} {h : aH} : run 11 10 ls st h = run 11 11 ls (.int (nI 0) :: st) h := e_iconst (k := 0) (by decide +kernel) (by decide +kernel)
theorem s11_11 {ls : List Value} {y : Int32} {x : Nat} {st : List Value} {h : aH} : run 11 11 ls (.int y :: .ref x :: st) h = pfK 1 9 (hget h x) (.int y) (fun c => run 11 14 ls st (hset h x c)) := e_putK (k := 49) (by decide +kernel) (by decide +kernel) (by decide +kernel)
theorem s11_14 {a1 a2 : Value} {x : Nat} {st : List Value} {h : aH} : run 11 14 [.ref x, a1, a2] st h = run 11 15 [.ref x, a1, a2] (.ref x :: st) h := e_aload_n (k := 0) (by decide +kernel) rfl
theorem s11_15 {ls : List Value} {x : Nat} {st : List Value} {h : aH} : run 11 15 ls (.ref x :: st) h = run 11 16 ls (.ref x :: .ref x :: st) h := e_dup (by decide +kernel) rfl
theorem s11_16 {ls : List Value} {x : Nat} {st : List Value} {h : aH} : run 11 16 ls (.ref x :: st) h = gfK 1 8 (hget h x) (fun v => run 11 19 ls (v :: st) h) := e_get (k := 46) (by decide +kernel) (by decide +kernel)
theorem s11_19 {a1 a2 : Value} {x : Nat} {st : List Value} {h : aH} : run 11 19 [.ref x, a1, a2] st h = run 11 20 [.ref x, a1, a2] (.ref x :: st) h := e_aload_n (k := 0) (by decide +kernel) rfl
theorem s11_20 {ls : List Value} {x : Nat} {st : List Value} {h : aH} : run 11 20 ls (.ref x :: st) h = gfK 1 5 (hget h x) (fun v => run 11 23 ls (v :: st) h) := e_get (k := 37) (by decide +kernel) (by decide +kernel)
theorem s11_23 {ls : List Value} {x y : Int32} {st : List Value} {h : aH} : run 11 23 ls (.int y :: .int x :: st) h = run 11 24 ls (.int (x ^^^ y) :: st) h := e_ixor (by decide +kernel)
theorem s11_24 {ls : List Value} {y : Int32} {x : Nat} {st : List Value} {h : aH} : run 11 24 ls (.int y :: .ref x :: st) h = puK 1 8 (hget h x) (.int y) (fun c => run 11 27 ls st (hset h x c)) := e_put (k := 46) (by decide +kernel) (by decide +kernel) (by decide +kernel) rfl rfl
theorem s11_27 {a0 a2 : Value} {x : Nat} {st : List Value} {h : aH} : run 11 27 [a0, .ref x, a2] st h = run 11 28 [a0, .ref x, a2] (.ref x :: st) h := e_aload_n (k := 1) (by decide +kernel) rfl
theorem s11_28 {a1 a2 : Value} {x : Nat} {st : List Value} {h : aH} : run 11 28 [.ref x, a1, a2] st h = run 11 29 [.ref x, a1, a2] (.ref x :: st) h := e_aload_n (k := 0) (by decide +kernel) rfl
theorem s11_29 {ls : List Value} {x : Nat} {st : List Value} {h : aH} : run 11 29 ls (.ref x :: st) h = gfK 1 5 (hget h x) (fun v => run 11 32 ls (v :: st) h) := e_get (k := 37) (by decide +kernel) (by decide +kernel)
theorem s11_32 {a1 a2 : Value} {x : Nat} {st : List Value} {h : aH} : run 11 32 [.ref x, a1, a2] st h = run 11 33 [.ref x, a1, a2] (.ref x :: st) h := e_aload_n (k := 0) (by decide +kernel) rfl
theorem s11_33 {ls : List Value} {x : Nat} {st : List Value} {h : aH} : run 11 33 ls (.ref x :: st) h = gfK 1 6 (hget h x) (fun v => run 11 36 ls (v :: st) h) := e_get (k := 40) (by decide +kernel) (by decide +kernel)
theorem s11_36 {ls : List Value} {b : Nat}  {x0 : Int32} {x1 : Int32} {h : aH} : run 11 36 ls [.int x1, .int x0, .ref b] h = rcK 3 (hget h b) (bK (run 40 0 [.ref b, .int x0, .int x1, .null] [] h) (fun v h1 => run 11 39 ls (v.toList ++ []) h1)) := e_callV (k := 59) (g := 40) (n := 2) (by decide +kernel) (by decide +kernel) (by decide +kernel) (by decide +kernel) rfl (Nat.le_of_ble_eq_true rfl) rfl ⟨Nat.le_of_ble_eq_true rfl, Nat.le_of_ble_eq_true rfl⟩ rfl
theorem s11_39 {a0 a1 a2 : Value} {x : Int32} {st : List Value} {h : aH} : run 11 39 [a0, a1, a2] (.int x :: st) h = run 11 40 [a0, a1, .int x] st h := e_istore_n (k := 2) (by decide +kernel) (Nat.le_of_ble_eq_true rfl)
theorem s11_40 {a1 a2 : Value} {x : Nat} {st : List Value} {h : aH} : run 11 40 [.ref x, a1, a2] st h = run 11 41 [.ref x, a1, a2] (.ref x :: st) h := e_aload_n (k := 0) (by decide +kernel) rfl
theorem s11_41 {ls : List Value} {x : Nat} {st : List Value} {h : aH} : run 11 41 ls (.ref x :: st) h = gfK 1 3 (hget h x) (fun v => run 11 44 ls (v :: st) h) := e_get (k := 21) (by decide +kernel) (by decide +kernel)
theorem s11_44 {a0 a1 : Value} {x : Int32} {st : List Value} {h : aH} : run 11 44 [a0, a1, .int x] st h = run 11 45 [a0, a1, .int x] (.int x :: st) h := e_iload_n (k := 2) (by decide +kernel) rfl
theorem s11_45 {ls : List Value} {x : Int32} {y : Nat} {st : List Value} {h : aH} : run 11 45 ls (.int x :: .ref y :: st) h = run 11 46 ls (.int x :: .ref y :: .int x :: .ref y :: st) h := e_dup2 (by decide +kernel) rfl rfl
theorem s11_46 {ls : List Value} {i : Int32} {x : Nat} {st : List Value} {h : aH} : run 11 46 ls (.int i :: .ref x :: st) h = alK i (hget h x) (fun t => t == 0 || t == 9) (fun y => run 11 47 ls (.int y :: st) h) := e_iald (by decide +kernel)
theorem s11_47 {ls : List Value} {st : List Value} {h : aH} : run 11 47 ls st h = run 11 48 ls (.int (nI 1) :: st) h := e_iconst (k := 1) (by decide +kernel) (by decide +kernel)
theorem s11_48 {ls : List Value} {x y : Int32} {st : List Value} {h : aH} : run 11 48 ls (.int y :: .int x :: st) h = run 11 49 ls (.int (x + y) :: st) h := e_iadd (by decide +kernel)
theorem s11_49 {ls : List Value} {y i : Int32} {x : Nat} {st : List Value} {h : aH} : run 11 49 ls (.int y :: .int i :: .ref x :: st) h = asK i (hget h x) 0 y (fun c => run 11 50 ls st (hset h x c)) := e_iast (by decide +kernel)
theorem s11_50 {a0 a1 : Value} {x : Int32} {st : List Value} {h : aH} : run 11 50 [a0, a1, .int x] st h = run 11 51 [a0, a1, .int x] (.int x :: st) h := e_iload_n (k := 2) (by decide +kernel) rfl
theorem s11_51 {ls : List Value} {st : List Value} {h : aH} : run 11 51 ls st h = run 11 52 ls (.int (nI 1) :: st) h := e_iconst (k := 1) (by decide +kernel) (by decide +kernel)
theorem s11_52 {ls : List Value} {x y : Int32} {st : List Value} {h : aH} : run 11 52 ls (.int y :: .int x :: st) h = if x = y then run 11 57 ls st h else run 11 55 ls st h := e_icmp_eq (off := 5) (by decide +kernel) (by decide)
theorem s11_55 {ls : List Value} {st : List Value} {h : aH} : run 11 55 ls st h = run 11 56 ls (.int (nI 0) :: st) h := e_iconst (k := 0) (by decide +kernel) (by decide +kernel)
theorem s11_56 {ls : List Value} {x : Int32} {h : aH} : run 11 56 ls [.int x] h = if x = 0 ∨ x = 1 then some (some (.int x), h) else none := e_zreturn (by decide +kernel) (by decide +kernel)
theorem s11_57 {a0 a2 : Value} {x : Nat} {st : List Value} {h : aH} : run 11 57 [a0, .ref x, a2] st h = run 11 58 [a0, .ref x, a2] (.ref x :: st) h := e_aload_n (k := 1) (by decide +kernel) rfl
theorem s11_58 {a1 a2 : Value} {x : Nat} {st : List Value} {h : aH} : run 11 58 [.ref x, a1, a2] st h = run 11 59 [.ref x, a1, a2] (.ref x :: st) h := e_aload_n (k := 0) (by decide +kernel) rfl
theorem s11_59 {ls : List Value} {x : Nat} {st : List Value} {h : aH} : run 11 59 ls (.ref x :: st) h = gfK 1 5 (hget h x) (fun v => run 11 62 ls (v :: st) h) := e_get (k := 37) (by decide +kernel) (by decide +kernel)
theorem s11_62 {a1 a2 : Value} {x : Nat} {st : List Value} {h : aH} : run 11 62 [.ref x, a1, a2] st h = run 11 63 [.ref x, a1, a2] (.ref x :: st) h := e_aload_n (k := 0) (by decide +kernel) rfl
theorem s11_63 {ls : List Value} {x : Nat} {st : List Value} {h : aH} : run 11 63 ls (.ref x :: st) h = gfK 1 6 (hget h x) (fun v => run 11 66 ls (v :: st) h) := e_get (k := 40) (by decide +kernel) (by decide +kernel)
theorem s11_66 {ls : List Value} {b : Nat}  {x0 : Int32} {x1 : Int32} {h : aH} : run 11 66 ls [.int x1, .int x0, .ref b] h = rcK 3 (hget h b) (bK (run 41 0 [.ref b, .int x0, .int x1, .null] [] h) (fun v h1 => run 11 69 ls (v.toList ++ []) h1)) := e_callV (k := 65) (g := 41) (n := 2) (by decide +kernel) (by decide +kernel) (by decide +kernel) (by decide +kernel) rfl (Nat.le_of_ble_eq_true rfl) rfl ⟨Nat.le_of_ble_eq_true rfl, Nat.le_of_ble_eq_true rfl⟩ rfl
theorem s11_69 {ls : List Value} {st : List Value} {h : aH} : run 11 69 ls st h = run 11 70 ls (.int (nI 1) :: st) h := e_iconst (k := 1) (by decide +kernel) (by decide +kernel)
theorem s11_70 {ls : List Value} {x : Int32} {h : aH} : run 11 70 ls [.int x] h = if x = 0 ∨ x = 1 then some (some (.int x), h) else none := e_zreturn (by decide +kernel) (by decide +kernel)
theorem s12_0 {a0 a3 a4 a5 : Value} {x : Int64} {st : List Value} {h : aH} : run 12 0 [a0, .long x, .retAddr 0, a3, a4, a5] st h = run 12 1 [a0, .long x, .retAddr 0, a3, a4, a5] (.long x :: st) h := e_lload_n (k := 1) (by decide +kernel) rfl rfl
theorem s12_1 {a0 a1 a2 a3 a4 a5 : Value} {x : Int64} {st : List Value} {h : aH} : run 12 1 [a0, a1, a2, a3, a4, a5] (.long x :: st) h = run 12 2 [a0, a1, a2, .long x, .retAddr 0, a5] st h := e_lstore_n (k := 3) (by decide +kernel) (Nat.le_of_ble_eq_true rfl)
theorem s12_2 {ls : List Value} {st : List Value} {h : aH} : run 12 2 ls st h = run 12 3 ls (.int (nI 0) :: st) h := e_iconst (k := 0) (by decide +kernel) (by decide +kernel)
theorem s12_3 {a0 a1 a2 a3 a4 a5 : Value} {x : Int32} {st : List Value} {h : aH} : run 12 3 [a0, a1, a2, a3, a4, a5] (.int x :: st) h = run 12 5 [a0, a1, a2, a3, a4, .int x] st h := e_istore (k := 5) (by decide +kernel) (Nat.le_of_ble_eq_true rfl)
theorem s12_5 {a0 a1 a2 a3 a4 : Value} {x : Int32} {st : List Value} {h : aH} : run 12 5 [a0, a1, a2, a3, a4, .int x] st h = run 12 7 [a0, a1, a2, a3, a4, .int x] (.int x :: st) h := e_iload (k := 5) (by decide +kernel) rfl
theorem s12_7 {ls : List Value} {st : List Value} {h : aH} : run 12 7 ls st h = run 12 8 ls (.int (nI 4) :: st) h := e_iconst (k := 4) (by decide +kernel) (by decide +kernel)
theorem s12_8 {ls : List Value} {x y : Int32} {st : List Value} {h : aH} : run 12 8 ls (.int y :: .int x :: st) h = if x < y then run 12 11 ls st h else run 12 32 ls st h := e_icmp_ge (off := 24) (by decide +kernel) (by decide)
theorem s12_11 {ls : List Value} {st : List Value} {h : aH} : run 12 11 ls st h = run 12 14 ls (.long 31 :: st) h := e_ldc2_w (k := 69) (by decide +kernel) (by decide +kernel)
theorem s12_14 {a0 a1 a2 a5 : Value} {x : Int64} {st : List Value} {h : aH} : run 12 14 [a0, a1, a2, .long x, .retAddr 0, a5] st h = run 12 15 [a0, a1, a2, .long x, .retAddr 0, a5] (.long x :: st) h := e_lload_n (k := 3) (by decide +kernel) rfl rfl
theorem s12_15 {ls : List Value} {x y : Int64} {st : List Value} {h : aH} : run 12 15 ls (.long y :: .long x :: st) h = run 12 16 ls (.long (x * y) :: st) h := e_lmul (by decide +kernel)
theorem s12_16 {a1 a2 a3 a4 a5 : Value} {x : Nat} {st : List Value} {h : aH} : run 12 16 [.ref x, a1, a2, a3, a4, a5] st h = run 12 17 [.ref x, a1, a2, a3, a4, a5] (.ref x :: st) h := e_aload_n (k := 0) (by decide +kernel) rfl
theorem s12_17 {ls : List Value} {x : Nat} {st : List Value} {h : aH} : run 12 17 ls (.ref x :: st) h = gfK 1 3 (hget h x) (fun v => run 12 20 ls (v :: st) h) := e_get (k := 21) (by decide +kernel) (by decide +kernel)
theorem s12_20 {a0 a1 a2 a3 a4 : Value} {x : Int32} {st : List Value} {h : aH} : run 12 20 [a0, a1, a2, a3, a4, .int x] st h = run 12 22 [a0, a1, a2, a3, a4, .int x] (.int x :: st) h := e_iload (k := 5) (by decide +kernel) rfl
theorem s12_22 {ls : List Value} {i : Int32} {x : Nat} {st : List Value} {h : aH} : run 12 22 ls (.int i :: .ref x :: st) h = alK i (hget h x) (fun t => t == 0 || t == 9) (fun y => run 12 23 ls (.int y :: st) h) := e_iald (by decide +kernel)
theorem s12_23 {ls : List Value} {x : Int32} {st : List Value} {h : aH} : run 12 23 ls (.int x :: st) h = run 12 24 ls (.long x.toInt64 :: st) h := e_i2l (by decide +kernel)
theorem s12_24 {ls : List Value} {x y : Int64} {st : List Value} {h : aH} : run 12 24 ls (.long y :: .long x :: st) h = run 12 25 ls (.long (x + y) :: st) h := e_ladd (by decide +kernel)
theorem s12_25 {a0 a1 a2 a3 a4 a5 : Value} {x : Int64} {st : List Value} {h : aH} : run 12 25 [a0, a1, a2, a3, a4, a5] (.long x :: st) h = run 12 26 [a0, a1, a2, .long x, .retAddr 0, a5] st h := e_lstore_n (k := 3) (by decide +kernel) (Nat.le_of_ble_eq_true rfl)
theorem s12_26 {a0 a1 a2 a3 a4 : Value} {x : Int32} {st : List Value} {h : aH} : run 12 26 [a0, a1, a2, a3, a4, .int x] st h = run 12 29 [a0, a1, a2, a3, a4, .int (x + nI 1)] st h := e_iinc (k := 5) (z := 1) (by decide +kernel) rfl (by decide +kernel)
theorem s12_29 {ls : List Value} {st : List Value} {h : aH} : run 12 29 ls st h = run 12 5 ls st h := e_goto (off := -24) (by decide +kernel) (by decide)
theorem s12_32 {ls : List Value} {st : List Value} {h : aH} : run 12 32 ls st h = run 12 35 ls (.long 31 :: st) h := e_ldc2_w (k := 69) (by decide +kernel) (by decide +kernel)
theorem s12_35 {a0 a1 a2 a5 : Value} {x : Int64} {st : List Value} {h : aH} : run 12 35 [a0, a1, a2, .long x, .retAddr 0, a5] st h = run 12 36 [a0, a1, a2, .long x, .retAddr 0, a5] (.long x :: st) h := e_lload_n (k := 3) (by decide +kernel) rfl rfl
theorem s12_36 {ls : List Value} {x y : Int64} {st : List Value} {h : aH} : run 12 36 ls (.long y :: .long x :: st) h = run 12 37 ls (.long (x * y) :: st) h := e_lmul (by decide +kernel)
theorem s12_37 {a1 a2 a3 a4 a5 : Value} {x : Nat} {st : List Value} {h : aH} : run 12 37 [.ref x, a1, a2, a3, a4, a5] st h = run 12 38 [.ref x, a1, a2, a3, a4, a5] (.ref x :: st) h := e_aload_n (k := 0) (by decide +kernel) rfl
theorem s12_38 {ls : List Value} {x : Nat} {st : List Value} {h : aH} : run 12 38 ls (.ref x :: st) h = gfK 1 5 (hget h x) (fun v => run 12 41 ls (v :: st) h) := e_get (k := 37) (by decide +kernel) (by decide +kernel)
theorem s12_41 {ls : List Value} {x : Int32} {st : List Value} {h : aH} : run 12 41 ls (.int x :: st) h = run 12 42 ls (.long x.toInt64 :: st) h := e_i2l (by decide +kernel)
theorem s12_42 {ls : List Value} {x y : Int64} {st : List Value} {h : aH} : run 12 42 ls (.long y :: .long x :: st) h = run 12 43 ls (.long (x + y) :: st) h := e_ladd (by decide +kernel)
theorem s12_43 {a0 a1 a2 a3 a4 a5 : Value} {x : Int64} {st : List Value} {h : aH} : run 12 43 [a0, a1, a2, a3, a4, a5] (.long x :: st) h = run 12 44 [a0, a1, a2, .long x, .retAddr 0, a5] st h := e_lstore_n (k := 3) (by decide +kernel) (Nat.le_of_ble_eq_true rfl)
theorem s12_44 {ls : List Value} {st : List Value} {h : aH} : run 12 44 ls st h = run 12 47 ls (.long 31 :: st) h := e_ldc2_w (k := 69) (by decide +kernel) (by decide +kernel)
theorem s12_47 {a0 a1 a2 a5 : Value} {x : Int64} {st : List Value} {h : aH} : run 12 47 [a0, a1, a2, .long x, .retAddr 0, a5] st h = run 12 48 [a0, a1, a2, .long x, .retAddr 0, a5] (.long x :: st) h := e_lload_n (k := 3) (by decide +kernel) rfl rfl
theorem s12_48 {ls : List Value} {x y : Int64} {st : List Value} {h : aH} : run 12 48 ls (.long y :: .long x :: st) h = run 12 49 ls (.long (x * y) :: st) h := e_lmul (by decide +kernel)
theorem s12_49 {a1 a2 a3 a4 a5 : Value} {x : Nat} {st : List Value} {h : aH} : run 12 49 [.ref x, a1, a2, a3, a4, a5] st h = run 12 50 [.ref x, a1, a2, a3, a4, a5] (.ref x :: st) h := e_aload_n (k := 0) (by decide +kernel) rfl
theorem s12_50 {ls : List Value} {x : Nat} {st : List Value} {h : aH} : run 12 50 ls (.ref x :: st) h = gfK 1 7 (hget h x) (fun v => run 12 53 ls (v :: st) h) := e_get (k := 43) (by decide +kernel) (by decide +kernel)
theorem s12_53 {ls : List Value} {x : Int32} {st : List Value} {h : aH} : run 12 53 ls (.int x :: st) h = run 12 54 ls (.long x.toInt64 :: st) h := e_i2l (by decide +kernel)
theorem s12_54 {ls : List Value} {x y : Int64} {st : List Value} {h : aH} : run 12 54 ls (.long y :: .long x :: st) h = run 12 55 ls (.long (x + y) :: st) h := e_ladd (by decide +kernel)
theorem s12_55 {a0 a1 a2 a3 a4 a5 : Value} {x : Int64} {st : List Value} {h : aH} : run 12 55 [a0, a1, a2, a3, a4, a5] (.long x :: st) h = run 12 56 [a0, a1, a2, .long x, .retAddr 0, a5] st h := e_lstore_n (k := 3) (by decide +kernel) (Nat.le_of_ble_eq_true rfl)
theorem s12_56 {ls : List Value} {st : List Value} {h : aH} : run 12 56 ls st h = run 12 59 ls (.long 31 :: st) h := e_ldc2_w (k := 69) (by decide +kernel) (by decide +kernel)
theorem s12_59 {a0 a1 a2 a5 : Value} {x : Int64} {st : List Value} {h : aH} : run 12 59 [a0, a1, a2, .long x, .retAddr 0, a5] st h = run 12 60 [a0, a1, a2, .long x, .retAddr 0, a5] (.long x :: st) h := e_lload_n (k := 3) (by decide +kernel) rfl rfl
theorem s12_60 {ls : List Value} {x y : Int64} {st : List Value} {h : aH} : run 12 60 ls (.long y :: .long x :: st) h = run 12 61 ls (.long (x * y) :: st) h := e_lmul (by decide +kernel)
theorem s12_61 {a1 a2 a3 a4 a5 : Value} {x : Nat} {st : List Value} {h : aH} : run 12 61 [.ref x, a1, a2, a3, a4, a5] st h = run 12 62 [.ref x, a1, a2, a3, a4, a5] (.ref x :: st) h := e_aload_n (k := 0) (by decide +kernel) rfl
theorem s12_62 {ls : List Value} {x : Nat} {st : List Value} {h : aH} : run 12 62 ls (.ref x :: st) h = gfK 1 8 (hget h x) (fun v => run 12 65 ls (v :: st) h) := e_get (k := 46) (by decide +kernel) (by decide +kernel)
theorem s12_65 {ls : List Value} {x : Int32} {st : List Value} {h : aH} : run 12 65 ls (.int x :: st) h = run 12 66 ls (.long x.toInt64 :: st) h := e_i2l (by decide +kernel)
theorem s12_66 {ls : List Value} {x y : Int64} {st : List Value} {h : aH} : run 12 66 ls (.long y :: .long x :: st) h = run 12 67 ls (.long (x + y) :: st) h := e_ladd (by decide +kernel)
theorem s12_67 {ls : List Value} {x : Int64} {h : aH} : run 12 67 ls [.long x] h = some (some (.long x), h) := e_lreturn (by decide +kernel) (by decide +kernel)
end
end
