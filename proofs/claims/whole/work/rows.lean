section
-- ===== PART A: goes FIRST, ahead of the names: the tables' words, and 'selects' of the private methods out of them =====
/-- a private method of a class that the tables say can be made, by its rows of tables_1 -/
def lw_okq (q : MethodName × Nat) : Prop := (q.1.cls ≠ "java/lang/invoke/MethodHandle" ∧ q.1.cls ≠ "java/lang/invoke/VarHandle") ∧ Cond.instantiable q.1.cls q.2 ∈ tables_1 ∧ Cond.privateMethod q.1 ∈ tables_1 ∧ Cond.instanceMethod q.1 ∈ tables_1
theorem lw_p0 : lw_okq (⟨"HiddenExits$Simulator", "measure", "()V"⟩, 9) := ⟨⟨by decide +kernel, by decide +kernel⟩, List.mem_of_getElem? (i := 123) (by decide +kernel), List.mem_of_getElem? (i := 166) (by decide +kernel), List.mem_of_getElem? (i := 167) (by decide +kernel)⟩
theorem lw_p1 : lw_okq (⟨"HiddenExits$Simulator", "findNear", "()V"⟩, 9) := ⟨⟨by decide +kernel, by decide +kernel⟩, List.mem_of_getElem? (i := 123) (by decide +kernel), List.mem_of_getElem? (i := 173) (by decide +kernel), List.mem_of_getElem? (i := 174) (by decide +kernel)⟩
theorem lw_p2 : lw_okq (⟨"HiddenExits$Simulator", "forgetPicks", "()V"⟩, 9) := ⟨⟨by decide +kernel, by decide +kernel⟩, List.mem_of_getElem? (i := 123) (by decide +kernel), List.mem_of_getElem? (i := 181) (by decide +kernel), List.mem_of_getElem? (i := 182) (by decide +kernel)⟩
theorem lw_p3 : lw_okq (⟨"HiddenExits$Script", "scanHead", "()Z"⟩, 12) := ⟨⟨by decide +kernel, by decide +kernel⟩, List.mem_of_getElem? (i := 24) (by decide +kernel), List.mem_of_getElem? (i := 368) (by decide +kernel), List.mem_of_getElem? (i := 369) (by decide +kernel)⟩
theorem lw_p4 : lw_okq (⟨"HiddenExits$Script", "sign", "()I"⟩, 12) := ⟨⟨by decide +kernel, by decide +kernel⟩, List.mem_of_getElem? (i := 24) (by decide +kernel), List.mem_of_getElem? (i := 372) (by decide +kernel), List.mem_of_getElem? (i := 373) (by decide +kernel)⟩
theorem lw_p5 : lw_okq (⟨"HiddenExits$Script", "digit", "(II)I"⟩, 12) := ⟨⟨by decide +kernel, by decide +kernel⟩, List.mem_of_getElem? (i := 24) (by decide +kernel), List.mem_of_getElem? (i := 376) (by decide +kernel), List.mem_of_getElem? (i := 377) (by decide +kernel)⟩
theorem lw_p6 : lw_okq (⟨"HiddenExits$Script", "scanPart", "()Z"⟩, 12) := ⟨⟨by decide +kernel, by decide +kernel⟩, List.mem_of_getElem? (i := 24) (by decide +kernel), List.mem_of_getElem? (i := 380) (by decide +kernel), List.mem_of_getElem? (i := 381) (by decide +kernel)⟩
theorem lw_p7 : lw_okq (⟨"HiddenExits$Script", "scanLink", "()Z"⟩, 12) := ⟨⟨by decide +kernel, by decide +kernel⟩, List.mem_of_getElem? (i := 24) (by decide +kernel), List.mem_of_getElem? (i := 384) (by decide +kernel), List.mem_of_getElem? (i := 385) (by decide +kernel)⟩
theorem lw_p8 : lw_okq (⟨"HiddenExits$Script", "scanPair", "([I)I"⟩, 12) := ⟨⟨by decide +kernel, by decide +kernel⟩, List.mem_of_getElem? (i := 24) (by decide +kernel), List.mem_of_getElem? (i := 388) (by decide +kernel), List.mem_of_getElem? (i := 389) (by decide +kernel)⟩
theorem lw_p9 : lw_okq (⟨"HiddenExits$Script", "anyFree", "([I)Z"⟩, 12) := ⟨⟨by decide +kernel, by decide +kernel⟩, List.mem_of_getElem? (i := 24) (by decide +kernel), List.mem_of_getElem? (i := 392) (by decide +kernel), List.mem_of_getElem? (i := 393) (by decide +kernel)⟩
theorem lw_p10 : lw_okq (⟨"HiddenExits$Script", "hasFree", "([II)Z"⟩, 12) := ⟨⟨by decide +kernel, by decide +kernel⟩, List.mem_of_getElem? (i := 24) (by decide +kernel), List.mem_of_getElem? (i := 396) (by decide +kernel), List.mem_of_getElem? (i := 397) (by decide +kernel)⟩
theorem lw_p11 : lw_okq (⟨"HiddenExits$Script", "scanSession", "(II)Z"⟩, 12) := ⟨⟨by decide +kernel, by decide +kernel⟩, List.mem_of_getElem? (i := 24) (by decide +kernel), List.mem_of_getElem? (i := 406) (by decide +kernel), List.mem_of_getElem? (i := 407) (by decide +kernel)⟩
theorem lw_p12 : lw_okq (⟨"HiddenExits$Script", "scanExit", "()Z"⟩, 12) := ⟨⟨by decide +kernel, by decide +kernel⟩, List.mem_of_getElem? (i := 24) (by decide +kernel), List.mem_of_getElem? (i := 410) (by decide +kernel), List.mem_of_getElem? (i := 411) (by decide +kernel)⟩
theorem lw_p13 : lw_okq (⟨"HiddenExits$Plan", "readTold", "(I)V"⟩, 8) := ⟨⟨by decide +kernel, by decide +kernel⟩, List.mem_of_getElem? (i := 81) (by decide +kernel), List.mem_of_getElem? (i := 425) (by decide +kernel), List.mem_of_getElem? (i := 426) (by decide +kernel)⟩
theorem lw_p14 : lw_okq (⟨"HiddenExits$Simulator", "decide", "(I)I"⟩, 9) := ⟨⟨by decide +kernel, by decide +kernel⟩, List.mem_of_getElem? (i := 123) (by decide +kernel), List.mem_of_getElem? (i := 491) (by decide +kernel), List.mem_of_getElem? (i := 492) (by decide +kernel)⟩
theorem lw_p15 : lw_okq (⟨"HiddenExits$Simulator", "take", "(IIII)I"⟩, 9) := ⟨⟨by decide +kernel, by decide +kernel⟩, List.mem_of_getElem? (i := 123) (by decide +kernel), List.mem_of_getElem? (i := 506) (by decide +kernel), List.mem_of_getElem? (i := 507) (by decide +kernel)⟩
def lw_privs_1 : List (MethodName × Nat) := [(⟨"HiddenExits$Simulator", "measure", "()V"⟩, 9), (⟨"HiddenExits$Simulator", "findNear", "()V"⟩, 9), (⟨"HiddenExits$Simulator", "forgetPicks", "()V"⟩, 9), (⟨"HiddenExits$Script", "scanHead", "()Z"⟩, 12), (⟨"HiddenExits$Script", "sign", "()I"⟩, 12), (⟨"HiddenExits$Script", "digit", "(II)I"⟩, 12), (⟨"HiddenExits$Script", "scanPart", "()Z"⟩, 12), (⟨"HiddenExits$Script", "scanLink", "()Z"⟩, 12), (⟨"HiddenExits$Script", "scanPair", "([I)I"⟩, 12), (⟨"HiddenExits$Script", "anyFree", "([I)Z"⟩, 12), (⟨"HiddenExits$Script", "hasFree", "([II)Z"⟩, 12), (⟨"HiddenExits$Script", "scanSession", "(II)Z"⟩, 12), (⟨"HiddenExits$Script", "scanExit", "()Z"⟩, 12), (⟨"HiddenExits$Plan", "readTold", "(I)V"⟩, 8), (⟨"HiddenExits$Simulator", "decide", "(I)I"⟩, 9), (⟨"HiddenExits$Simulator", "take", "(IIII)I"⟩, 9)]
theorem lw_r1 : ∀ q ∈ lw_privs_1, lw_okq q := List.forall_mem_cons.mpr ⟨lw_p0, List.forall_mem_cons.mpr ⟨lw_p1, List.forall_mem_cons.mpr ⟨lw_p2, List.forall_mem_cons.mpr ⟨lw_p3, List.forall_mem_cons.mpr ⟨lw_p4, List.forall_mem_cons.mpr ⟨lw_p5, List.forall_mem_cons.mpr ⟨lw_p6, List.forall_mem_cons.mpr ⟨lw_p7, List.forall_mem_cons.mpr ⟨lw_p8, List.forall_mem_cons.mpr ⟨lw_p9, List.forall_mem_cons.mpr ⟨lw_p10, List.forall_mem_cons.mpr ⟨lw_p11, List.forall_mem_cons.mpr ⟨lw_p12, List.forall_mem_cons.mpr ⟨lw_p13, List.forall_mem_cons.mpr ⟨lw_p14, List.forall_mem_cons.mpr ⟨lw_p15, fun _ h => absurd h List.not_mem_nil⟩⟩⟩⟩⟩⟩⟩⟩⟩⟩⟩⟩⟩⟩⟩⟩
theorem lw_p16 : lw_okq (⟨"HiddenExits$Simulator", "compare", "(II)I"⟩, 9) := ⟨⟨by decide +kernel, by decide +kernel⟩, List.mem_of_getElem? (i := 123) (by decide +kernel), List.mem_of_getElem? (i := 520) (by decide +kernel), List.mem_of_getElem? (i := 521) (by decide +kernel)⟩
theorem lw_p17 : lw_okq (⟨"HiddenExits$Simulator", "nextHop", "(II)I"⟩, 9) := ⟨⟨by decide +kernel, by decide +kernel⟩, List.mem_of_getElem? (i := 123) (by decide +kernel), List.mem_of_getElem? (i := 643) (by decide +kernel), List.mem_of_getElem? (i := 644) (by decide +kernel)⟩
theorem lw_p18 : lw_okq (⟨"HiddenExits$Course", "record", "(LHiddenExits$Simulator;I)V"⟩, 4) := ⟨⟨by decide +kernel, by decide +kernel⟩, List.mem_of_getElem? (i := 224) (by decide +kernel), List.mem_of_getElem? (i := 661) (by decide +kernel), List.mem_of_getElem? (i := 662) (by decide +kernel)⟩
theorem lw_p19 : lw_okq (⟨"HiddenExits$Course", "earlier", "(I)I"⟩, 4) := ⟨⟨by decide +kernel, by decide +kernel⟩, List.mem_of_getElem? (i := 224) (by decide +kernel), List.mem_of_getElem? (i := 667) (by decide +kernel), List.mem_of_getElem? (i := 668) (by decide +kernel)⟩
theorem lw_p20 : lw_okq (⟨"HiddenExits$Course", "alike", "(II)Z"⟩, 4) := ⟨⟨by decide +kernel, by decide +kernel⟩, List.mem_of_getElem? (i := 224) (by decide +kernel), List.mem_of_getElem? (i := 671) (by decide +kernel), List.mem_of_getElem? (i := 672) (by decide +kernel)⟩
theorem lw_p21 : lw_okq (⟨"HiddenExits$Passes", "restsInOrder", "(LHiddenExits$Simulator;I)Z"⟩, 6) := ⟨⟨by decide +kernel, by decide +kernel⟩, List.mem_of_getElem? (i := 246) (by decide +kernel), List.mem_of_getElem? (i := 688) (by decide +kernel), List.mem_of_getElem? (i := 689) (by decide +kernel)⟩
theorem lw_p22 : lw_okq (⟨"HiddenExits$Passes", "mark", "(LHiddenExits$Simulator;)V"⟩, 6) := ⟨⟨by decide +kernel, by decide +kernel⟩, List.mem_of_getElem? (i := 246) (by decide +kernel), List.mem_of_getElem? (i := 693) (by decide +kernel), List.mem_of_getElem? (i := 694) (by decide +kernel)⟩
theorem lw_p23 : lw_okq (⟨"HiddenExits$Passes", "isMarked", "(LHiddenExits$Simulator;)Z"⟩, 6) := ⟨⟨by decide +kernel, by decide +kernel⟩, List.mem_of_getElem? (i := 246) (by decide +kernel), List.mem_of_getElem? (i := 699) (by decide +kernel), List.mem_of_getElem? (i := 700) (by decide +kernel)⟩
theorem lw_p24 : lw_okq (⟨"HiddenExits$Passes", "note", "(I)V"⟩, 6) := ⟨⟨by decide +kernel, by decide +kernel⟩, List.mem_of_getElem? (i := 246) (by decide +kernel), List.mem_of_getElem? (i := 704) (by decide +kernel), List.mem_of_getElem? (i := 705) (by decide +kernel)⟩
theorem lw_p25 : lw_okq (⟨"HiddenExits$Passes", "goToNextOrder", "(I)Z"⟩, 6) := ⟨⟨by decide +kernel, by decide +kernel⟩, List.mem_of_getElem? (i := 246) (by decide +kernel), List.mem_of_getElem? (i := 708) (by decide +kernel), List.mem_of_getElem? (i := 709) (by decide +kernel)⟩
theorem lw_p26 : lw_okq (⟨"HiddenExits$Passes", "swap", "(II)V"⟩, 6) := ⟨⟨by decide +kernel, by decide +kernel⟩, List.mem_of_getElem? (i := 246) (by decide +kernel), List.mem_of_getElem? (i := 712) (by decide +kernel), List.mem_of_getElem? (i := 713) (by decide +kernel)⟩
theorem lw_p27 : lw_okq (⟨"HiddenExits", "restsAnew", "()Z"⟩, 11) := ⟨⟨by decide +kernel, by decide +kernel⟩, List.mem_of_getElem? (i := 16) (by decide +kernel), List.mem_of_getElem? (i := 721) (by decide +kernel), List.mem_of_getElem? (i := 722) (by decide +kernel)⟩
theorem lw_p28 : lw_okq (⟨"HiddenExits", "holds", "(I)Z"⟩, 11) := ⟨⟨by decide +kernel, by decide +kernel⟩, List.mem_of_getElem? (i := 16) (by decide +kernel), List.mem_of_getElem? (i := 732) (by decide +kernel), List.mem_of_getElem? (i := 733) (by decide +kernel)⟩
theorem lw_p29 : lw_okq (⟨"HiddenExits", "happens", "(II)Z"⟩, 11) := ⟨⟨by decide +kernel, by decide +kernel⟩, List.mem_of_getElem? (i := 16) (by decide +kernel), List.mem_of_getElem? (i := 736) (by decide +kernel), List.mem_of_getElem? (i := 737) (by decide +kernel)⟩
theorem lw_p30 : lw_okq (⟨"HiddenExits", "canBeAnswer", "(II)Z"⟩, 11) := ⟨⟨by decide +kernel, by decide +kernel⟩, List.mem_of_getElem? (i := 16) (by decide +kernel), List.mem_of_getElem? (i := 740) (by decide +kernel), List.mem_of_getElem? (i := 741) (by decide +kernel)⟩
theorem lw_p31 : lw_okq (⟨"HiddenExits", "gainFactor", "(II)I"⟩, 11) := ⟨⟨by decide +kernel, by decide +kernel⟩, List.mem_of_getElem? (i := 16) (by decide +kernel), List.mem_of_getElem? (i := 783) (by decide +kernel), List.mem_of_getElem? (i := 784) (by decide +kernel)⟩
def lw_privs_2 : List (MethodName × Nat) := [(⟨"HiddenExits$Simulator", "compare", "(II)I"⟩, 9), (⟨"HiddenExits$Simulator", "nextHop", "(II)I"⟩, 9), (⟨"HiddenExits$Course", "record", "(LHiddenExits$Simulator;I)V"⟩, 4), (⟨"HiddenExits$Course", "earlier", "(I)I"⟩, 4), (⟨"HiddenExits$Course", "alike", "(II)Z"⟩, 4), (⟨"HiddenExits$Passes", "restsInOrder", "(LHiddenExits$Simulator;I)Z"⟩, 6), (⟨"HiddenExits$Passes", "mark", "(LHiddenExits$Simulator;)V"⟩, 6), (⟨"HiddenExits$Passes", "isMarked", "(LHiddenExits$Simulator;)Z"⟩, 6), (⟨"HiddenExits$Passes", "note", "(I)V"⟩, 6), (⟨"HiddenExits$Passes", "goToNextOrder", "(I)Z"⟩, 6), (⟨"HiddenExits$Passes", "swap", "(II)V"⟩, 6), (⟨"HiddenExits", "restsAnew", "()Z"⟩, 11), (⟨"HiddenExits", "holds", "(I)Z"⟩, 11), (⟨"HiddenExits", "happens", "(II)Z"⟩, 11), (⟨"HiddenExits", "canBeAnswer", "(II)Z"⟩, 11), (⟨"HiddenExits", "gainFactor", "(II)I"⟩, 11)]
theorem lw_r2 : ∀ q ∈ lw_privs_2, lw_okq q := List.forall_mem_cons.mpr ⟨lw_p16, List.forall_mem_cons.mpr ⟨lw_p17, List.forall_mem_cons.mpr ⟨lw_p18, List.forall_mem_cons.mpr ⟨lw_p19, List.forall_mem_cons.mpr ⟨lw_p20, List.forall_mem_cons.mpr ⟨lw_p21, List.forall_mem_cons.mpr ⟨lw_p22, List.forall_mem_cons.mpr ⟨lw_p23, List.forall_mem_cons.mpr ⟨lw_p24, List.forall_mem_cons.mpr ⟨lw_p25, List.forall_mem_cons.mpr ⟨lw_p26, List.forall_mem_cons.mpr ⟨lw_p27, List.forall_mem_cons.mpr ⟨lw_p28, List.forall_mem_cons.mpr ⟨lw_p29, List.forall_mem_cons.mpr ⟨lw_p30, List.forall_mem_cons.mpr ⟨lw_p31, fun _ h => absurd h List.not_mem_nil⟩⟩⟩⟩⟩⟩⟩⟩⟩⟩⟩⟩⟩⟩⟩⟩
theorem lw_p32 : lw_okq (⟨"HiddenExits", "chanceOf", "(II)I"⟩, 11) := ⟨⟨by decide +kernel, by decide +kernel⟩, List.mem_of_getElem? (i := 16) (by decide +kernel), List.mem_of_getElem? (i := 805) (by decide +kernel), List.mem_of_getElem? (i := 806) (by decide +kernel)⟩
theorem lw_p33 : lw_okq (⟨"HiddenExitsModel", "readDomain", "()I"⟩, 32) := ⟨⟨by decide +kernel, by decide +kernel⟩, List.mem_of_getElem? (i := 844) (by decide +kernel), List.mem_of_getElem? (i := 966) (by decide +kernel), List.mem_of_getElem? (i := 967) (by decide +kernel)⟩
theorem lw_p34 : lw_okq (⟨"HiddenExitsModel", "figure", "(II)I"⟩, 32) := ⟨⟨by decide +kernel, by decide +kernel⟩, List.mem_of_getElem? (i := 844) (by decide +kernel), List.mem_of_getElem? (i := 970) (by decide +kernel), List.mem_of_getElem? (i := 971) (by decide +kernel)⟩
theorem lw_p35 : lw_okq (⟨"HiddenExitsModel", "readPart", "()Z"⟩, 32) := ⟨⟨by decide +kernel, by decide +kernel⟩, List.mem_of_getElem? (i := 844) (by decide +kernel), List.mem_of_getElem? (i := 974) (by decide +kernel), List.mem_of_getElem? (i := 975) (by decide +kernel)⟩
theorem lw_p36 : lw_okq (⟨"HiddenExitsModel", "isAnyApart", "(I)Z"⟩, 32) := ⟨⟨by decide +kernel, by decide +kernel⟩, List.mem_of_getElem? (i := 844) (by decide +kernel), List.mem_of_getElem? (i := 978) (by decide +kernel), List.mem_of_getElem? (i := 979) (by decide +kernel)⟩
theorem lw_p37 : lw_okq (⟨"HiddenExitsModel", "apart", "(II)I"⟩, 32) := ⟨⟨by decide +kernel, by decide +kernel⟩, List.mem_of_getElem? (i := 844) (by decide +kernel), List.mem_of_getElem? (i := 982) (by decide +kernel), List.mem_of_getElem? (i := 983) (by decide +kernel)⟩
theorem lw_p38 : lw_okq (⟨"HiddenExitsModel", "readLink", "()Z"⟩, 32) := ⟨⟨by decide +kernel, by decide +kernel⟩, List.mem_of_getElem? (i := 844) (by decide +kernel), List.mem_of_getElem? (i := 989) (by decide +kernel), List.mem_of_getElem? (i := 990) (by decide +kernel)⟩
theorem lw_p39 : lw_okq (⟨"HiddenExitsModel", "readTwo", "(I)Z"⟩, 32) := ⟨⟨by decide +kernel, by decide +kernel⟩, List.mem_of_getElem? (i := 844) (by decide +kernel), List.mem_of_getElem? (i := 993) (by decide +kernel), List.mem_of_getElem? (i := 994) (by decide +kernel)⟩
theorem lw_p40 : lw_okq (⟨"HiddenExitsModel", "readExit", "()Z"⟩, 32) := ⟨⟨by decide +kernel, by decide +kernel⟩, List.mem_of_getElem? (i := 844) (by decide +kernel), List.mem_of_getElem? (i := 997) (by decide +kernel), List.mem_of_getElem? (i := 998) (by decide +kernel)⟩
theorem lw_p41 : lw_okq (⟨"HiddenExitsModel", "readSession", "(Z)Z"⟩, 32) := ⟨⟨by decide +kernel, by decide +kernel⟩, List.mem_of_getElem? (i := 844) (by decide +kernel), List.mem_of_getElem? (i := 1001) (by decide +kernel), List.mem_of_getElem? (i := 1002) (by decide +kernel)⟩
theorem lw_p42 : lw_okq (⟨"HiddenExitsModel", "noRouter", "(I)Z"⟩, 32) := ⟨⟨by decide +kernel, by decide +kernel⟩, List.mem_of_getElem? (i := 844) (by decide +kernel), List.mem_of_getElem? (i := 1016) (by decide +kernel), List.mem_of_getElem? (i := 1017) (by decide +kernel)⟩
theorem lw_p43 : lw_okq (⟨"HiddenExitsModel", "layCosts", "([I)V"⟩, 32) := ⟨⟨by decide +kernel, by decide +kernel⟩, List.mem_of_getElem? (i := 844) (by decide +kernel), List.mem_of_getElem? (i := 1020) (by decide +kernel), List.mem_of_getElem? (i := 1021) (by decide +kernel)⟩
theorem lw_p44 : lw_okq (⟨"HiddenExitsModel", "noExit", "(I)Z"⟩, 32) := ⟨⟨by decide +kernel, by decide +kernel⟩, List.mem_of_getElem? (i := 844) (by decide +kernel), List.mem_of_getElem? (i := 1032) (by decide +kernel), List.mem_of_getElem? (i := 1033) (by decide +kernel)⟩
theorem lw_p45 : lw_okq (⟨"HiddenExitsModel", "note", "()V"⟩, 32) := ⟨⟨by decide +kernel, by decide +kernel⟩, List.mem_of_getElem? (i := 844) (by decide +kernel), List.mem_of_getElem? (i := 1044) (by decide +kernel), List.mem_of_getElem? (i := 1045) (by decide +kernel)⟩
theorem lw_p46 : lw_okq (⟨"HiddenExitsModel", "stepOn", "([II)Z"⟩, 32) := ⟨⟨by decide +kernel, by decide +kernel⟩, List.mem_of_getElem? (i := 844) (by decide +kernel), List.mem_of_getElem? (i := 1048) (by decide +kernel), List.mem_of_getElem? (i := 1049) (by decide +kernel)⟩
theorem lw_p47 : lw_okq (⟨"HiddenExitsModel", "take", "([II)V"⟩, 32) := ⟨⟨by decide +kernel, by decide +kernel⟩, List.mem_of_getElem? (i := 844) (by decide +kernel), List.mem_of_getElem? (i := 1052) (by decide +kernel), List.mem_of_getElem? (i := 1053) (by decide +kernel)⟩
def lw_privs_3 : List (MethodName × Nat) := [(⟨"HiddenExits", "chanceOf", "(II)I"⟩, 11), (⟨"HiddenExitsModel", "readDomain", "()I"⟩, 32), (⟨"HiddenExitsModel", "figure", "(II)I"⟩, 32), (⟨"HiddenExitsModel", "readPart", "()Z"⟩, 32), (⟨"HiddenExitsModel", "isAnyApart", "(I)Z"⟩, 32), (⟨"HiddenExitsModel", "apart", "(II)I"⟩, 32), (⟨"HiddenExitsModel", "readLink", "()Z"⟩, 32), (⟨"HiddenExitsModel", "readTwo", "(I)Z"⟩, 32), (⟨"HiddenExitsModel", "readExit", "()Z"⟩, 32), (⟨"HiddenExitsModel", "readSession", "(Z)Z"⟩, 32), (⟨"HiddenExitsModel", "noRouter", "(I)Z"⟩, 32), (⟨"HiddenExitsModel", "layCosts", "([I)V"⟩, 32), (⟨"HiddenExitsModel", "noExit", "(I)Z"⟩, 32), (⟨"HiddenExitsModel", "note", "()V"⟩, 32), (⟨"HiddenExitsModel", "stepOn", "([II)Z"⟩, 32), (⟨"HiddenExitsModel", "take", "([II)V"⟩, 32)]
theorem lw_r3 : ∀ q ∈ lw_privs_3, lw_okq q := List.forall_mem_cons.mpr ⟨lw_p32, List.forall_mem_cons.mpr ⟨lw_p33, List.forall_mem_cons.mpr ⟨lw_p34, List.forall_mem_cons.mpr ⟨lw_p35, List.forall_mem_cons.mpr ⟨lw_p36, List.forall_mem_cons.mpr ⟨lw_p37, List.forall_mem_cons.mpr ⟨lw_p38, List.forall_mem_cons.mpr ⟨lw_p39, List.forall_mem_cons.mpr ⟨lw_p40, List.forall_mem_cons.mpr ⟨lw_p41, List.forall_mem_cons.mpr ⟨lw_p42, List.forall_mem_cons.mpr ⟨lw_p43, List.forall_mem_cons.mpr ⟨lw_p44, List.forall_mem_cons.mpr ⟨lw_p45, List.forall_mem_cons.mpr ⟨lw_p46, List.forall_mem_cons.mpr ⟨lw_p47, fun _ h => absurd h List.not_mem_nil⟩⟩⟩⟩⟩⟩⟩⟩⟩⟩⟩⟩⟩⟩⟩⟩
theorem lw_p48 : lw_okq (⟨"HiddenExitsModel", "gather", "([II)V"⟩, 32) := ⟨⟨by decide +kernel, by decide +kernel⟩, List.mem_of_getElem? (i := 844) (by decide +kernel), List.mem_of_getElem? (i := 1056) (by decide +kernel), List.mem_of_getElem? (i := 1057) (by decide +kernel)⟩
theorem lw_p49 : lw_okq (⟨"HiddenExitsModel", "hear", "(III)V"⟩, 32) := ⟨⟨by decide +kernel, by decide +kernel⟩, List.mem_of_getElem? (i := 844) (by decide +kernel), List.mem_of_getElem? (i := 1063) (by decide +kernel), List.mem_of_getElem? (i := 1064) (by decide +kernel)⟩
theorem lw_p50 : lw_okq (⟨"HiddenExitsModel", "gathered", "()I"⟩, 32) := ⟨⟨by decide +kernel, by decide +kernel⟩, List.mem_of_getElem? (i := 844) (by decide +kernel), List.mem_of_getElem? (i := 1076) (by decide +kernel), List.mem_of_getElem? (i := 1077) (by decide +kernel)⟩
theorem lw_p51 : lw_okq (⟨"HiddenExitsModel", "best", "([III)I"⟩, 32) := ⟨⟨by decide +kernel, by decide +kernel⟩, List.mem_of_getElem? (i := 844) (by decide +kernel), List.mem_of_getElem? (i := 1080) (by decide +kernel), List.mem_of_getElem? (i := 1081) (by decide +kernel)⟩
theorem lw_p52 : lw_okq (⟨"HiddenExitsModel", "leave", "([IIII)I"⟩, 32) := ⟨⟨by decide +kernel, by decide +kernel⟩, List.mem_of_getElem? (i := 844) (by decide +kernel), List.mem_of_getElem? (i := 1084) (by decide +kernel), List.mem_of_getElem? (i := 1085) (by decide +kernel)⟩
theorem lw_p53 : lw_okq (⟨"HiddenExitsModel", "weighed", "([IIII)I"⟩, 32) := ⟨⟨by decide +kernel, by decide +kernel⟩, List.mem_of_getElem? (i := 844) (by decide +kernel), List.mem_of_getElem? (i := 1088) (by decide +kernel), List.mem_of_getElem? (i := 1089) (by decide +kernel)⟩
theorem lw_p54 : lw_okq (⟨"HiddenExitsModel", "leaveByNeighbours", "([II)I"⟩, 32) := ⟨⟨by decide +kernel, by decide +kernel⟩, List.mem_of_getElem? (i := 844) (by decide +kernel), List.mem_of_getElem? (i := 1092) (by decide +kernel), List.mem_of_getElem? (i := 1093) (by decide +kernel)⟩
theorem lw_p55 : lw_okq (⟨"HiddenExitsModel", "putTaken", "(II)V"⟩, 32) := ⟨⟨by decide +kernel, by decide +kernel⟩, List.mem_of_getElem? (i := 844) (by decide +kernel), List.mem_of_getElem? (i := 1096) (by decide +kernel), List.mem_of_getElem? (i := 1097) (by decide +kernel)⟩
theorem lw_p56 : lw_okq (⟨"HiddenExitsModel", "putChoices", "([II)Z"⟩, 32) := ⟨⟨by decide +kernel, by decide +kernel⟩, List.mem_of_getElem? (i := 844) (by decide +kernel), List.mem_of_getElem? (i := 1100) (by decide +kernel), List.mem_of_getElem? (i := 1101) (by decide +kernel)⟩
theorem lw_p57 : lw_okq (⟨"HiddenExitsModel", "roundOn", "([I)I"⟩, 32) := ⟨⟨by decide +kernel, by decide +kernel⟩, List.mem_of_getElem? (i := 844) (by decide +kernel), List.mem_of_getElem? (i := 1108) (by decide +kernel), List.mem_of_getElem? (i := 1109) (by decide +kernel)⟩
theorem lw_p58 : lw_okq (⟨"HiddenExitsModel", "leaveFrom", "([II)I"⟩, 32) := ⟨⟨by decide +kernel, by decide +kernel⟩, List.mem_of_getElem? (i := 844) (by decide +kernel), List.mem_of_getElem? (i := 1162) (by decide +kernel), List.mem_of_getElem? (i := 1163) (by decide +kernel)⟩
theorem lw_p59 : lw_okq (⟨"HiddenExitsModel", "runOn", "([I)V"⟩, 32) := ⟨⟨by decide +kernel, by decide +kernel⟩, List.mem_of_getElem? (i := 844) (by decide +kernel), List.mem_of_getElem? (i := 1171) (by decide +kernel), List.mem_of_getElem? (i := 1172) (by decide +kernel)⟩
theorem lw_p60 : lw_okq (⟨"HiddenExitsModel", "noteState", "([II)V"⟩, 32) := ⟨⟨by decide +kernel, by decide +kernel⟩, List.mem_of_getElem? (i := 844) (by decide +kernel), List.mem_of_getElem? (i := 1175) (by decide +kernel), List.mem_of_getElem? (i := 1176) (by decide +kernel)⟩
theorem lw_p61 : lw_okq (⟨"HiddenExitsModel", "areSame", "(II)Z"⟩, 32) := ⟨⟨by decide +kernel, by decide +kernel⟩, List.mem_of_getElem? (i := 844) (by decide +kernel), List.mem_of_getElem? (i := 1179) (by decide +kernel), List.mem_of_getElem? (i := 1180) (by decide +kernel)⟩
theorem lw_p62 : lw_okq (⟨"HiddenExitsModel", "isOrder", "(I)Z"⟩, 32) := ⟨⟨by decide +kernel, by decide +kernel⟩, List.mem_of_getElem? (i := 844) (by decide +kernel), List.mem_of_getElem? (i := 1193) (by decide +kernel), List.mem_of_getElem? (i := 1194) (by decide +kernel)⟩
theorem lw_p63 : lw_okq (⟨"HiddenExitsModel", "restsBy", "(I)Z"⟩, 32) := ⟨⟨by decide +kernel, by decide +kernel⟩, List.mem_of_getElem? (i := 844) (by decide +kernel), List.mem_of_getElem? (i := 1197) (by decide +kernel), List.mem_of_getElem? (i := 1198) (by decide +kernel)⟩
def lw_privs_4 : List (MethodName × Nat) := [(⟨"HiddenExitsModel", "gather", "([II)V"⟩, 32), (⟨"HiddenExitsModel", "hear", "(III)V"⟩, 32), (⟨"HiddenExitsModel", "gathered", "()I"⟩, 32), (⟨"HiddenExitsModel", "best", "([III)I"⟩, 32), (⟨"HiddenExitsModel", "leave", "([IIII)I"⟩, 32), (⟨"HiddenExitsModel", "weighed", "([IIII)I"⟩, 32), (⟨"HiddenExitsModel", "leaveByNeighbours", "([II)I"⟩, 32), (⟨"HiddenExitsModel", "putTaken", "(II)V"⟩, 32), (⟨"HiddenExitsModel", "putChoices", "([II)Z"⟩, 32), (⟨"HiddenExitsModel", "roundOn", "([I)I"⟩, 32), (⟨"HiddenExitsModel", "leaveFrom", "([II)I"⟩, 32), (⟨"HiddenExitsModel", "runOn", "([I)V"⟩, 32), (⟨"HiddenExitsModel", "noteState", "([II)V"⟩, 32), (⟨"HiddenExitsModel", "areSame", "(II)Z"⟩, 32), (⟨"HiddenExitsModel", "isOrder", "(I)Z"⟩, 32), (⟨"HiddenExitsModel", "restsBy", "(I)Z"⟩, 32)]
theorem lw_r4 : ∀ q ∈ lw_privs_4, lw_okq q := List.forall_mem_cons.mpr ⟨lw_p48, List.forall_mem_cons.mpr ⟨lw_p49, List.forall_mem_cons.mpr ⟨lw_p50, List.forall_mem_cons.mpr ⟨lw_p51, List.forall_mem_cons.mpr ⟨lw_p52, List.forall_mem_cons.mpr ⟨lw_p53, List.forall_mem_cons.mpr ⟨lw_p54, List.forall_mem_cons.mpr ⟨lw_p55, List.forall_mem_cons.mpr ⟨lw_p56, List.forall_mem_cons.mpr ⟨lw_p57, List.forall_mem_cons.mpr ⟨lw_p58, List.forall_mem_cons.mpr ⟨lw_p59, List.forall_mem_cons.mpr ⟨lw_p60, List.forall_mem_cons.mpr ⟨lw_p61, List.forall_mem_cons.mpr ⟨lw_p62, List.forall_mem_cons.mpr ⟨lw_p63, fun _ h => absurd h List.not_mem_nil⟩⟩⟩⟩⟩⟩⟩⟩⟩⟩⟩⟩⟩⟩⟩⟩
theorem lw_p64 : lw_okq (⟨"HiddenExitsModel", "rests", "(II)Z"⟩, 32) := ⟨⟨by decide +kernel, by decide +kernel⟩, List.mem_of_getElem? (i := 844) (by decide +kernel), List.mem_of_getElem? (i := 1205) (by decide +kernel), List.mem_of_getElem? (i := 1206) (by decide +kernel)⟩
theorem lw_p65 : lw_okq (⟨"HiddenExitsModel", "does", "(I)Z"⟩, 32) := ⟨⟨by decide +kernel, by decide +kernel⟩, List.mem_of_getElem? (i := 844) (by decide +kernel), List.mem_of_getElem? (i := 1217) (by decide +kernel), List.mem_of_getElem? (i := 1218) (by decide +kernel)⟩
theorem lw_p66 : lw_okq (⟨"HiddenExitsModel", "runsToRest", "()Z"⟩, 32) := ⟨⟨by decide +kernel, by decide +kernel⟩, List.mem_of_getElem? (i := 844) (by decide +kernel), List.mem_of_getElem? (i := 1221) (by decide +kernel), List.mem_of_getElem? (i := 1222) (by decide +kernel)⟩
theorem lw_p67 : lw_okq (⟨"HiddenExitsModel", "agrees", "(I)Z"⟩, 32) := ⟨⟨by decide +kernel, by decide +kernel⟩, List.mem_of_getElem? (i := 844) (by decide +kernel), List.mem_of_getElem? (i := 1237) (by decide +kernel), List.mem_of_getElem? (i := 1238) (by decide +kernel)⟩
theorem lw_p68 : lw_okq (⟨"HiddenExitsModel", "unlikeBy", "(I)I"⟩, 32) := ⟨⟨by decide +kernel, by decide +kernel⟩, List.mem_of_getElem? (i := 844) (by decide +kernel), List.mem_of_getElem? (i := 1245) (by decide +kernel), List.mem_of_getElem? (i := 1246) (by decide +kernel)⟩
theorem lw_p69 : lw_okq (⟨"HiddenExitsModel", "joined", "(I)I"⟩, 32) := ⟨⟨by decide +kernel, by decide +kernel⟩, List.mem_of_getElem? (i := 844) (by decide +kernel), List.mem_of_getElem? (i := 1286) (by decide +kernel), List.mem_of_getElem? (i := 1287) (by decide +kernel)⟩
theorem lw_p70 : lw_okq (⟨"HiddenExitsModel", "withFirst", "()I"⟩, 32) := ⟨⟨by decide +kernel, by decide +kernel⟩, List.mem_of_getElem? (i := 844) (by decide +kernel), List.mem_of_getElem? (i := 1290) (by decide +kernel), List.mem_of_getElem? (i := 1291) (by decide +kernel)⟩
def lw_privs_5 : List (MethodName × Nat) := [(⟨"HiddenExitsModel", "rests", "(II)Z"⟩, 32), (⟨"HiddenExitsModel", "does", "(I)Z"⟩, 32), (⟨"HiddenExitsModel", "runsToRest", "()Z"⟩, 32), (⟨"HiddenExitsModel", "agrees", "(I)Z"⟩, 32), (⟨"HiddenExitsModel", "unlikeBy", "(I)I"⟩, 32), (⟨"HiddenExitsModel", "joined", "(I)I"⟩, 32), (⟨"HiddenExitsModel", "withFirst", "()I"⟩, 32)]
theorem lw_r5 : ∀ q ∈ lw_privs_5, lw_okq q := List.forall_mem_cons.mpr ⟨lw_p64, List.forall_mem_cons.mpr ⟨lw_p65, List.forall_mem_cons.mpr ⟨lw_p66, List.forall_mem_cons.mpr ⟨lw_p67, List.forall_mem_cons.mpr ⟨lw_p68, List.forall_mem_cons.mpr ⟨lw_p69, List.forall_mem_cons.mpr ⟨lw_p70, fun _ h => absurd h List.not_mem_nil⟩⟩⟩⟩⟩⟩⟩
def lw_privs : List (MethodName × Nat) := lw_privs_1 ++ (lw_privs_2 ++ (lw_privs_3 ++ (lw_privs_4 ++ (lw_privs_5))))
def lw_tbl : List Cond := k2_sels lw_privs ++ tables_1
theorem lw_privs_ok : ∀ q ∈ lw_privs, lw_okq q := by
  show ∀ q ∈ lw_privs_1 ++ (lw_privs_2 ++ (lw_privs_3 ++ (lw_privs_4 ++ (lw_privs_5)))), lw_okq q
  exact List.forall_mem_append.mpr ⟨lw_r1, List.forall_mem_append.mpr ⟨lw_r2, List.forall_mem_append.mpr ⟨lw_r3, List.forall_mem_append.mpr ⟨lw_r4, lw_r5⟩⟩⟩⟩
/-- the words that stay good over calls -/
def zgw : List Cond := lw_tbl.filter goodWord
theorem zgw_of {w : Cond} (h : w ∈ tables_1) (hg : goodWord w = true) : w ∈ zgw := List.mem_filter.mpr ⟨List.mem_append_right _ h, hg⟩
theorem zgw_sel {w : Cond} (h : w ∈ k2_sels lw_privs) (hg : goodWord w = true) : w ∈ zgw := List.mem_filter.mpr ⟨List.mem_append_left _ h, hg⟩
theorem zgw_good {w : Cond} (h : w ∈ zgw) : goodWord w = true := (List.mem_filter.mp h).2
theorem zgw_tbl {w : Cond} (h : w ∈ zgw) : w ∈ lw_tbl := (List.mem_filter.mp h).1
end
section
/-! ===== a small machine: the kit's instructions over a memory of functions; references are numbers of cells ===== -/
/-- the shape: how many cells; slots used; kind and length of each; what its references are -/
abbrev zv_S : Type := Nat × Nat × (Nat → Nat × Nat) × (Nat → Nat → Option Nat)
/-- what cells hold: ints, longs -/
abbrev zv_D : Type := (Nat → Nat → Int32) × (Nat → Nat → Int64)
/-- an answer: an int, a long, a cell -/
abbrev zv_R : Type := Int32 × Int64 × Nat
abbrev zv_O : Type := zv_R × zv_S × zv_D
/-- what a table says beside an instruction: three numbers, an int, a long, the cases of a switch -/
abbrev zv_X : Type := Nat × Nat × Nat × Int32 × Int64 × List (Int32 × Nat)
abbrev zv_E : Type := Nat × Instr × Nat × zv_X
abbrev zv_L : Type := List (Option Value)
abbrev zv_K : Type := Nat → zv_L → List Value → zv_S → zv_D → Option zv_O
/-- a method as the machine calls it: by its number -/
abbrev zv_Ca : Type := Nat → List Value → zv_S → zv_D → Option (zv_R × zv_D)
abbrev zv_Ci : Type := Nat → List Value → zv_S → zv_D → Option zv_O
def zv_w (g : Nat → Nat → Int32) (c i : Nat) (v : Int32) : Nat → Nat → Int32 := fun c' => if c' = c then upd (g c) i v else g c'
def zv_wl (g : Nat → Nat → Int64) (c i : Nat) (v : Int64) : Nat → Nat → Int64 := fun c' => if c' = c then vp_updL (g c) i v else g c'
def zv_cp (g : Nat → Nat → Int32) (a0 a sp dp n : Nat) : Nat → Nat → Int32 := fun c' => if c' = a then va_cpy (g a0) (g a) sp dp n else g c'
def zv_in (i : Int32) (n : Nat) : Bool := !(decide (i < 0)) && Nat.blt i.toNatClampNeg n
def zv_bk (v : Int32) : Bool := decide (v = 0) || decide (v = 1)
def zv_at : List (Option Value) → Nat → Option Value
  | [], _ => none
  | o :: _, 0 => o
  | _ :: t, n + 1 => zv_at t n
/-- a long stands ahead of a null, which is its second half -/
def zv_s1 (lv : zv_L) (i : Nat) (v : Value) : zv_L := lv.set i (some v)
def zv_s2 (lv : zv_L) (i : Nat) (v : Value) : zv_L := (lv.set i (some v)).set (i + 1) (some .null)
def zv_en : List Value → Nat → zv_L
  | [], n => List.replicate n none
  | v :: t, n => match v with
    | .long x => some (.long x) :: some .null :: zv_en t (n - 2)
    | .double x => some (.double x) :: some .null :: zv_en t (n - 2)
    | w => some w :: zv_en t (n - 1)
def zv_sw : List (Int32 × Nat) → Int32 → Nat → (Nat → Option zv_O) → Option zv_O
  | [], _, d, k => k d
  | (v, t) :: r, x, d, k => if x = v then k t else zv_sw r x d k
def zv_fa : Nat → Int32
  | 0 => 1
  | 1 => 1
  | 2 => 2
  | 3 => 6
  | _ => 24
def zv_un : Nat → Int64
  | 0 => 1
  | 1 => 10000
  | 2 => 100000000
  | 3 => 1000000000000
  | _ => 10000000000000000
def zv_cs : List Value → Nat
  | [] => 0
  | v :: t => v.category + zv_cs t
def zv_mem : List Nat → Nat → Bool
  | [], _ => false
  | a :: t, n => bif Nat.beq a n then true else zv_mem t n
/-- two ints above -/
def zv_i2 (st : List Value) (f : Int32 → Int32 → List Value → Option zv_O) : Option zv_O := match st with
  | .int y :: .int x :: r => f x y r
  | _ => none
def zv_l2 (st : List Value) (f : Int64 → Int64 → List Value → Option zv_O) : Option zv_O := match st with
  | .long y :: .long x :: r => f x y r
  | _ => none
def zv_i1 (st : List Value) (f : Int32 → List Value → Option zv_O) : Option zv_O := match st with
  | .int x :: r => f x r
  | _ => none
def zv_l1 (st : List Value) (f : Int64 → List Value → Option zv_O) : Option zv_O := match st with
  | .long x :: r => f x r
  | _ => none
def zv_a1 (st : List Value) (f : Nat → List Value → Option zv_O) : Option zv_O := match st with
  | .ref x :: r => f x r
  | _ => none
def zv_dp (st : List Value) (f : List Value → Option zv_O) : Option zv_O := match st with
  | .int a :: r => f (.int a :: .int a :: r)
  | .ref a :: r => f (.ref a :: .ref a :: r)
  | _ => none
/-- an index and an array above -/
def zv_ia (st : List Value) (f : Int32 → Nat → List Value → Option zv_O) : Option zv_O := match st with
  | .int i :: .ref a :: r => f i a r
  | _ => none
/-- a value, an index and an array above -/
def zv_via (st : List Value) (f : Int32 → Int32 → Nat → List Value → Option zv_O) : Option zv_O := match st with
  | .int v :: .int i :: .ref a :: r => f v i a r
  | _ => none
def zv_li (o : Option Value) (f : Int32 → Option zv_O) : Option zv_O := match o with
  | some (.int v) => f v
  | _ => none
def zv_ll (o o2 : Option Value) (f : Int64 → Option zv_O) : Option zv_O := match o with
  | some (.long v) => (match o2 with
    | some .null => f v
    | _ => none)
  | _ => none
def zv_la (o : Option Value) (f : Nat → Option zv_O) : Option zv_O := match o with
  | some (.ref v) => f v
  | _ => none
def zv_new (S : zv_S) (kd N : Nat) : zv_S := (S.1 + 1, S.2.1 + N, (fun c => if c = S.1 then (kd, N) else S.2.2.1 c), fun c => if c = S.1 then fun _ => none else S.2.2.2 c)
def zv_zer (S : zv_S) (D : zv_D) : zv_D := ((fun c => if c = S.1 then fun _ => 0 else D.1 c), fun c => if c = S.1 then fun _ => 0 else D.2 c)
def zv_rw (S : zv_S) (c i a : Nat) : zv_S := (S.1, S.2.1, S.2.2.1, fun c' => if c' = c then fun j => if j = i then some a else S.2.2.2 c j else S.2.2.2 c')
def zv_psh (k : Nat) (r : zv_R) (st : List Value) : List Value := match k with
  | 0 => st
  | 1 => .int r.1 :: st
  | 2 => .long r.2.1 :: st
  | _ => .ref r.2.2 :: st
def zv_cok (sp dp n : Int32) (n0 n1 : Nat) : Bool := !(decide (sp < 0)) && (!(decide (dp < 0)) && (!(decide (n < 0)) && (Nat.ble (sp.toNatClampNeg + n.toNatClampNeg) n0 && Nat.ble (dp.toNatClampNeg + n.toNatClampNeg) n1)))
/-- System.arraycopy over ints -/
def zv_acp (st : List Value) (S : zv_S) (D : zv_D) (f : List Value → zv_D → Option zv_O) : Option zv_O := match st with
  | .int n :: .int dp :: .ref a :: .int sp :: .ref a0 :: r => bif Nat.beq (S.2.2.1 a0).1 11 && (Nat.beq (S.2.2.1 a).1 11 && (Nat.ble (zv_cs r) 8 && zv_cok sp dp n (S.2.2.1 a0).2 (S.2.2.1 a).2)) then f r (zv_cp D.1 a0 a sp.toNatClampNeg dp.toNatClampNeg n.toNatClampNeg, D.2) else none
  | _ => none
def zv_s (al : Bool) (ca : zv_Ca) (ci : zv_Ci) (xs : Nat × (Nat → Int32)) (bo : Bool) (ins : Instr) (n : Nat) (x : zv_X) (pc : Nat) (lv : zv_L) (st : List Value) (S : zv_S) (D : zv_D) (k : zv_K) : Option zv_O :=
  match ins with
  | .iconst _ => k (pc + n) lv (.int x.2.2.2.1 :: st) S D
  | .bipush _ => k (pc + n) lv (.int x.2.2.2.1 :: st) S D
  | .sipush _ => k (pc + n) lv (.int x.2.2.2.1 :: st) S D
  | .ldc_w _ => k (pc + n) lv (.int x.2.2.2.1 :: st) S D
  | .lconst _ => k (pc + n) lv (.long x.2.2.2.2.1 :: st) S D
  | .ldc2_w _ => k (pc + n) lv (.long x.2.2.2.2.1 :: st) S D
  | .iload _ => zv_li (zv_at lv x.1) fun v => k (pc + n) lv (.int v :: st) S D
  | .iload_n _ => zv_li (zv_at lv x.1) fun v => k (pc + n) lv (.int v :: st) S D
  | .lload _ => zv_ll (zv_at lv x.1) (zv_at lv (x.1 + 1)) fun v => k (pc + n) lv (.long v :: st) S D
  | .lload_n _ => zv_ll (zv_at lv x.1) (zv_at lv (x.1 + 1)) fun v => k (pc + n) lv (.long v :: st) S D
  | .aload _ => zv_la (zv_at lv x.1) fun v => k (pc + n) lv (.ref v :: st) S D
  | .aload_n _ => zv_la (zv_at lv x.1) fun v => k (pc + n) lv (.ref v :: st) S D
  | .istore _ => zv_i1 st fun v r => k (pc + n) (zv_s1 lv x.1 (.int v)) r S D
  | .istore_n _ => zv_i1 st fun v r => k (pc + n) (zv_s1 lv x.1 (.int v)) r S D
  | .lstore _ => zv_l1 st fun v r => k (pc + n) (zv_s2 lv x.1 (.long v)) r S D
  | .lstore_n _ => zv_l1 st fun v r => k (pc + n) (zv_s2 lv x.1 (.long v)) r S D
  | .astore_n _ => zv_a1 st fun v r => k (pc + n) (zv_s1 lv x.1 (.ref v)) r S D
  | .iinc _ _ => zv_li (zv_at lv x.1) fun v => k (pc + n) (zv_s1 lv x.1 (.int (v + x.2.2.2.1))) st S D
  | .iadd => zv_i2 st fun a b r => k (pc + n) lv (.int (a + b) :: r) S D
  | .isub => zv_i2 st fun a b r => k (pc + n) lv (.int (a - b) :: r) S D
  | .imul => zv_i2 st fun a b r => k (pc + n) lv (.int (a * b) :: r) S D
  | .iand => zv_i2 st fun a b r => k (pc + n) lv (.int (a &&& b) :: r) S D
  | .ior => zv_i2 st fun a b r => k (pc + n) lv (.int (a ||| b) :: r) S D
  | .ixor => zv_i2 st fun a b r => k (pc + n) lv (.int (a ^^^ b) :: r) S D
  | .ishl => zv_i2 st fun a b r => k (pc + n) lv (.int (a <<< (b &&& 31)) :: r) S D
  | .ishr => zv_i2 st fun a b r => k (pc + n) lv (.int (a >>> (b &&& 31)) :: r) S D
  | .iushr => zv_i2 st fun a b r => k (pc + n) lv (.int (a.toUInt32 >>> (b.toUInt32 &&& Int32.toUInt32 31)).toInt32 :: r) S D
  | .idiv => zv_i2 st fun a b r => if b = 0 then none else k (pc + n) lv (.int (a / b) :: r) S D
  | .irem => zv_i2 st fun a b r => if b = 0 then none else k (pc + n) lv (.int (a - a / b * b) :: r) S D
  | .ineg => zv_i1 st fun a r => k (pc + n) lv (.int (-a) :: r) S D
  | .ladd => zv_l2 st fun a b r => k (pc + n) lv (.long (a + b) :: r) S D
  | .lsub => zv_l2 st fun a b r => k (pc + n) lv (.long (a - b) :: r) S D
  | .lmul => zv_l2 st fun a b r => k (pc + n) lv (.long (a * b) :: r) S D
  | .land => zv_l2 st fun a b r => k (pc + n) lv (.long (a &&& b) :: r) S D
  | .lor => zv_l2 st fun a b r => k (pc + n) lv (.long (a ||| b) :: r) S D
  | .ldiv => zv_l2 st fun a b r => if b = 0 then none else k (pc + n) lv (.long (a / b) :: r) S D
  | .lrem => zv_l2 st fun a b r => if b = 0 then none else k (pc + n) lv (.long (a - a / b * b) :: r) S D
  | .lcmp => zv_l2 st fun a b r => k (pc + n) lv (.int (lg_cmp a b) :: r) S D
  | .lshl => zv_i1 st fun b r => zv_l1 r fun a r => k (pc + n) lv (.long (a <<< (b.toInt64 &&& 63)) :: r) S D
  | .lushr => zv_i1 st fun b r => zv_l1 r fun a r => k (pc + n) lv (.long (a.toUInt64 >>> (b.toInt64.toUInt64 &&& Int64.toUInt64 63)).toInt64 :: r) S D
  | .i2l => zv_i1 st fun a r => k (pc + n) lv (.long a.toInt64 :: r) S D
  | .l2i => zv_l1 st fun a r => k (pc + n) lv (.int a.toInt32 :: r) S D
  | .i2c => zv_i1 st fun a r => k (pc + n) lv (.int (a.toUInt32 % 65536).toInt32 :: r) S D
  | .dup => zv_dp st fun r => k (pc + n) lv r S D
  | .dup2 => zv_ia st fun i a r => k (pc + n) lv (.int i :: .ref a :: .int i :: .ref a :: r) S D
  | .pop => zv_i1 st fun _ r => k (pc + n) lv r S D
  | .ifCond .eq _ => zv_i1 st fun a r => if a = 0 then k x.1 lv r S D else k (pc + n) lv r S D
  | .ifCond .ne _ => zv_i1 st fun a r => if a = 0 then k (pc + n) lv r S D else k x.1 lv r S D
  | .ifCond .lt _ => zv_i1 st fun a r => if a < 0 then k x.1 lv r S D else k (pc + n) lv r S D
  | .ifCond .ge _ => zv_i1 st fun a r => if 0 ≤ a then k x.1 lv r S D else k (pc + n) lv r S D
  | .ifCond .gt _ => zv_i1 st fun a r => if 0 < a then k x.1 lv r S D else k (pc + n) lv r S D
  | .ifCond .le _ => zv_i1 st fun a r => if a ≤ 0 then k x.1 lv r S D else k (pc + n) lv r S D
  | .if_icmp .eq _ => zv_i2 st fun a b r => if a = b then k x.1 lv r S D else k (pc + n) lv r S D
  | .if_icmp .ne _ => zv_i2 st fun a b r => if a = b then k (pc + n) lv r S D else k x.1 lv r S D
  | .if_icmp .lt _ => zv_i2 st fun a b r => if a < b then k x.1 lv r S D else k (pc + n) lv r S D
  | .if_icmp .ge _ => zv_i2 st fun a b r => if b ≤ a then k x.1 lv r S D else k (pc + n) lv r S D
  | .if_icmp .gt _ => zv_i2 st fun a b r => if b < a then k x.1 lv r S D else k (pc + n) lv r S D
  | .if_icmp .le _ => zv_i2 st fun a b r => if a ≤ b then k x.1 lv r S D else k (pc + n) lv r S D
  | .goto _ => k x.1 lv st S D
  | .tableswitch _ _ _ _ => zv_i1 st fun a r => zv_sw x.2.2.2.2.2 a x.1 fun t => k t lv r S D
  | .lookupswitch _ _ => zv_i1 st fun a r => zv_sw x.2.2.2.2.2 a x.1 fun t => k t lv r S D
  | .getfield _ => zv_a1 st fun q r => bif Nat.beq (S.2.2.1 q).1 x.1 then
      (bif Nat.beq x.2.2.1 0 then k (pc + n) lv (.int (D.1 q x.2.1) :: r) S D
       else bif Nat.beq x.2.2.1 1 then k (pc + n) lv (.long (D.2 q x.2.1) :: r) S D
       else (S.2.2.2 q x.2.1).bind fun a => k (pc + n) lv (.ref a :: r) S D) else none
  | .putfield _ => bif Nat.beq x.2.2.1 0 then zv_i1 st fun v r => zv_a1 r fun q r => bif Nat.beq (S.2.2.1 q).1 x.1 then k (pc + n) lv r S (zv_w D.1 q x.2.1 v, D.2) else none
      else bif Nat.beq x.2.2.1 1 then zv_l1 st fun v r => zv_a1 r fun q r => bif Nat.beq (S.2.2.1 q).1 x.1 then k (pc + n) lv r S (D.1, zv_wl D.2 q x.2.1 v) else none
      else bif al then zv_a1 st fun a r => zv_a1 r fun q r => bif Nat.beq (S.2.2.1 q).1 x.1 then k (pc + n) lv r (zv_rw S q x.2.1 a) D else none
      else none
  | .getstatic _ => k (pc + n) lv (.ref x.1 :: st) S D
  | .iaload => zv_ia st fun i a r => bif Nat.beq (S.2.2.1 a).1 11 then (bif zv_in i (S.2.2.1 a).2 then k (pc + n) lv (.int (D.1 a i.toNatClampNeg) :: r) S D else none)
      else bif Nat.beq (S.2.2.1 a).1 21 then (bif al && zv_in i xs.1 then k (pc + n) lv (.int (xs.2 i.toNatClampNeg) :: r) S D else none)
      else bif Nat.beq (S.2.2.1 a).1 22 then (bif zv_in i 5 then k (pc + n) lv (.int (zv_fa i.toNatClampNeg) :: r) S D else none) else none
  | .laload => zv_ia st fun i a r => bif Nat.beq (S.2.2.1 a).1 24 then (bif zv_in i 5 then k (pc + n) lv (.long (zv_un i.toNatClampNeg) :: r) S D else none) else none
  | .caload => zv_ia st fun i a r => bif Nat.beq (S.2.2.1 a).1 10 then (bif zv_in i (S.2.2.1 a).2 then k (pc + n) lv (.int (D.1 a i.toNatClampNeg) :: r) S D else none) else none
  | .baload => zv_ia st fun i a r => bif Nat.beq (S.2.2.1 a).1 12 then (bif zv_in i (S.2.2.1 a).2 then k (pc + n) lv (.int (D.1 a i.toNatClampNeg) :: r) S D else none) else none
  | .aaload => zv_ia st fun i a r => bif Nat.beq (S.2.2.1 a).1 13 then (bif zv_in i (S.2.2.1 a).2 then (S.2.2.2 a i.toNatClampNeg).bind fun b => k (pc + n) lv (.ref b :: r) S D else none) else none
  | .iastore => zv_via st fun v i a r => bif Nat.beq (S.2.2.1 a).1 11 then (bif zv_in i (S.2.2.1 a).2 then k (pc + n) lv r S (zv_w D.1 a i.toNatClampNeg v, D.2) else none) else none
  | .castore => zv_via st fun v i a r => bif Nat.beq (S.2.2.1 a).1 10 then (bif zv_in i (S.2.2.1 a).2 then k (pc + n) lv r S (zv_w D.1 a i.toNatClampNeg (vp_nar .char v), D.2) else none) else none
  | .bastore => zv_via st fun v i a r => bif Nat.beq (S.2.2.1 a).1 12 then (bif zv_in i (S.2.2.1 a).2 then k (pc + n) lv r S (zv_w D.1 a i.toNatClampNeg (vp_nar .boolean v), D.2) else none) else none
  | .aastore => bif al then zv_a1 st fun b r => zv_ia r fun i a r => bif Nat.beq (S.2.2.1 a).1 13 && (Nat.beq (S.2.2.1 b).1 7 && zv_in i (S.2.2.1 a).2) then k (pc + n) lv r (zv_rw S a i.toNatClampNeg b) D else none else none
  | .arraylength => zv_a1 st fun a r => bif Nat.beq (S.2.2.1 a).1 21 then (bif al then k (pc + n) lv (.int (Int32.ofNat xs.1) :: r) S D else none) else bif Nat.ble 10 (S.2.2.1 a).1 then k (pc + n) lv (.int (Int32.ofNat (S.2.2.1 a).2) :: r) S D else none
  | .new _ => bif al && Nat.ble S.1 100000 then k (pc + n) lv (.ref S.1 :: st) (zv_new S x.1 x.2.1) (zv_zer S D) else none
  | .newarray _ => bif al then zv_i1 st fun m r => bif !(decide (m < 0)) && (Nat.ble m.toNatClampNeg 65536 && Nat.ble S.1 100000) then k (pc + n) lv (.ref S.1 :: r) (zv_new S x.1 m.toNatClampNeg) (zv_zer S D) else none else none
  | .anewarray _ => bif al then zv_i1 st fun m r => bif !(decide (m < 0)) && (Nat.ble m.toNatClampNeg 65536 && Nat.ble S.1 100000) then k (pc + n) lv (.ref S.1 :: r) (zv_new S 13 m.toNatClampNeg) (zv_zer S D) else none else none
  | .invokevirtual _ => bif Nat.ble (zv_cs (st.drop x.2.1)) 8 then (ca x.1 (st.take x.2.1).reverse S D).bind fun p => k (pc + n) lv (zv_psh x.2.2.1 p.1 (st.drop x.2.1)) S p.2 else none
  | .invokestatic _ => bif Nat.beq x.1 999 then zv_acp st S D fun r D' => k (pc + n) lv r S D'
      else bif Nat.ble (zv_cs (st.drop x.2.1)) 8 then (ca x.1 (st.take x.2.1).reverse S D).bind fun p => k (pc + n) lv (zv_psh x.2.2.1 p.1 (st.drop x.2.1)) S p.2 else none
  | .invokespecial _ => bif Nat.beq x.1 998 then zv_a1 st fun _ r => bif Nat.ble (zv_cs r) 8 then k (pc + n) lv r S D else none
      else bif al then (bif Nat.ble (zv_cs (st.drop x.2.1)) 8 then (ci x.1 (st.take x.2.1).reverse S D).bind fun p => k (pc + n) lv (st.drop x.2.1) p.2.1 p.2.2 else none) else none
  | .ireturn => match st with
    | [.int v] => bif bo then (bif zv_bk v then some ((v, 0, 0), S, D) else none) else some ((v, 0, 0), S, D)
    | _ => none
  | .lreturn => match st with
    | [.long v] => some ((0, v, 0), S, D)
    | _ => none
  | .areturn => match st with
    | [.ref v] => some ((0, 0, v), S, D)
    | _ => none
  | .return_ => match st with
    | [] => some ((0, 0, 0), S, D)
    | _ => none
  | _ => none
def zv_ck : List zv_E → Nat → Option (Instr × Nat × zv_X)
  | [], _ => none
  | e :: t, pc => bif Nat.beq e.1 pc then some e.2 else zv_ck t pc
def zv_lk : List (Nat × List zv_E) → Nat → Option (Instr × Nat × zv_X)
  | [], _ => none
  | e :: t, pc => bif Nat.blt pc e.1 then zv_ck e.2 pc else zv_lk t pc
/-- one step -/
def zv_1 (al : Bool) (tb : List (Nat × List zv_E)) (ca : zv_Ca) (ci : zv_Ci) (xs : Nat × (Nat → Int32)) (bo : Bool) (k : zv_K) : zv_K := fun pc lv st S D => match zv_lk tb pc with
  | none => none
  | some e => zv_s al ca ci xs bo e.1 e.2.1 e.2.2 pc lv st S D k
/-- with fuel -/
def zv_r (al : Bool) (tb : List (Nat × List zv_E)) (ca : zv_Ca) (ci : zv_Ci) (xs : Nat × (Nat → Int32)) (bo : Bool) : Nat → zv_K
  | 0 => fun _ _ _ _ _ => none
  | f + 1 => zv_1 al tb ca ci xs bo (zv_r al tb ca ci xs bo f)
/-- n steps, or up to a stop -/
def zv_n (al : Bool) (tb : List (Nat × List zv_E)) (ca : zv_Ca) (ci : zv_Ci) (xs : Nat × (Nat → Int32)) (bo : Bool) (sp : List Nat) (k : zv_K) : Nat → zv_K
  | 0 => k
  | n + 1 => zv_1 al tb ca ci xs bo fun pc lv st S D => bif zv_mem sp pc then k pc lv st S D else zv_n al tb ca ci xs bo sp k n pc lv st S D
/-- a step gives a fixed answer, or goes on at one place -/
def zv_sh (F : zv_K → Option zv_O) : Prop := (∃ o, ∀ k, F k = o) ∨ ∃ pc lv st S D, ∀ k : zv_K, F k = k pc lv st S D
theorem zv_shn : zv_sh (fun _ => none) := Or.inl ⟨none, fun _ => rfl⟩
theorem zv_sho (o : Option zv_O) : zv_sh (fun _ => o) := Or.inl ⟨o, fun _ => rfl⟩
theorem zv_shk (pc : Nat) (lv : zv_L) (st : List Value) (S : zv_S) (D : zv_D) : zv_sh (fun k => k pc lv st S D) := Or.inr ⟨pc, lv, st, S, D, fun _ => rfl⟩
theorem zv_shc (b : Bool) {F G : zv_K → Option zv_O} (h1 : zv_sh F) (h2 : zv_sh G) : zv_sh (fun k => bif b then F k else G k) := by
  cases b
  · exact h2
  · exact h1
theorem zv_shi {P : Prop} [Decidable P] {F G : zv_K → Option zv_O} (h1 : zv_sh F) (h2 : zv_sh G) : zv_sh (fun k => if P then F k else G k) := by
  by_cases h : P
  · simpa [h] using h1
  · simpa [h] using h2
theorem zv_shb {α : Type} (o : Option α) {F : α → zv_K → Option zv_O} (h : ∀ a, zv_sh (F a)) : zv_sh (fun k => o.bind fun a => F a k) := by
  cases o with
  | none => exact zv_shn
  | some a => exact h a
theorem zv_shw (t : List (Int32 × Nat)) (x : Int32) (d : Nat) {F : Nat → zv_K → Option zv_O} (h : ∀ a, zv_sh (F a)) : zv_sh (fun k => zv_sw t x d fun a => F a k) := by
  induction t with
  | nil => exact h d
  | cons q r ih => exact zv_shi (h q.2) ih
theorem zv_sh_i2 (st : List Value) {F : Int32 → Int32 → List Value → zv_K → Option zv_O} (h : ∀ a b r, zv_sh (F a b r)) : zv_sh (fun k => zv_i2 st fun a b r => F a b r k) := by
  unfold zv_i2; split
  · exact h _ _ _
  · exact zv_shn
theorem zv_sh_l2 (st : List Value) {F : Int64 → Int64 → List Value → zv_K → Option zv_O} (h : ∀ a b r, zv_sh (F a b r)) : zv_sh (fun k => zv_l2 st fun a b r => F a b r k) := by
  unfold zv_l2; split
  · exact h _ _ _
  · exact zv_shn
theorem zv_sh_i1 (st : List Value) {F : Int32 → List Value → zv_K → Option zv_O} (h : ∀ a r, zv_sh (F a r)) : zv_sh (fun k => zv_i1 st fun a r => F a r k) := by
  unfold zv_i1; split
  · exact h _ _
  · exact zv_shn
theorem zv_sh_l1 (st : List Value) {F : Int64 → List Value → zv_K → Option zv_O} (h : ∀ a r, zv_sh (F a r)) : zv_sh (fun k => zv_l1 st fun a r => F a r k) := by
  unfold zv_l1; split
  · exact h _ _
  · exact zv_shn
theorem zv_sh_a1 (st : List Value) {F : Nat → List Value → zv_K → Option zv_O} (h : ∀ a r, zv_sh (F a r)) : zv_sh (fun k => zv_a1 st fun a r => F a r k) := by
  unfold zv_a1; split
  · exact h _ _
  · exact zv_shn
theorem zv_sh_ia (st : List Value) {F : Int32 → Nat → List Value → zv_K → Option zv_O} (h : ∀ a b r, zv_sh (F a b r)) : zv_sh (fun k => zv_ia st fun a b r => F a b r k) := by
  unfold zv_ia; split
  · exact h _ _ _
  · exact zv_shn
theorem zv_sh_via (st : List Value) {F : Int32 → Int32 → Nat → List Value → zv_K → Option zv_O} (h : ∀ v a b r, zv_sh (F v a b r)) : zv_sh (fun k => zv_via st fun v a b r => F v a b r k) := by
  unfold zv_via; split
  · exact h _ _ _ _
  · exact zv_shn
theorem zv_sh_li (o : Option Value) {F : Int32 → zv_K → Option zv_O} (h : ∀ a, zv_sh (F a)) : zv_sh (fun k => zv_li o fun a => F a k) := by
  unfold zv_li; split
  · exact h _
  · exact zv_shn
theorem zv_sh_ll (o o2 : Option Value) {F : Int64 → zv_K → Option zv_O} (h : ∀ a, zv_sh (F a)) : zv_sh (fun k => zv_ll o o2 fun a => F a k) := by
  unfold zv_ll; split
  · split
    · exact h _
    · exact zv_shn
  · exact zv_shn
theorem zv_sh_la (o : Option Value) {F : Nat → zv_K → Option zv_O} (h : ∀ a, zv_sh (F a)) : zv_sh (fun k => zv_la o fun a => F a k) := by
  unfold zv_la; split
  · exact h _
  · exact zv_shn
theorem zv_sh_acp (st : List Value) (S : zv_S) (D : zv_D) {F : List Value → zv_D → zv_K → Option zv_O} (h : ∀ a b, zv_sh (F a b)) : zv_sh (fun k => zv_acp st S D fun a b => F a b k) := by
  unfold zv_acp; split
  · exact zv_shc _ (h _ _) zv_shn
  · exact zv_shn
theorem zv_sh_dp (st : List Value) {F : List Value → zv_K → Option zv_O} (h : ∀ r, zv_sh (F r)) : zv_sh (fun k => zv_dp st fun r => F r k) := by
  unfold zv_dp; split
  · exact h _
  · exact h _
  · exact zv_shn
theorem zv_s_sh (al : Bool) (ca : zv_Ca) (ci : zv_Ci) (xs : Nat × (Nat → Int32)) (bo : Bool) (ins : Instr) (n : Nat) (x : zv_X) (pc : Nat) (lv : zv_L) (st : List Value) (S : zv_S) (D : zv_D) : zv_sh (zv_s al ca ci xs bo ins n x pc lv st S D) := by
  cases ins
  case ifCond cond off => cases cond <;> exact zv_sh_i1 _ fun _ _ => zv_shi (zv_shk _ _ _ _ _) (zv_shk _ _ _ _ _)
  case if_icmp cond off => cases cond <;> exact zv_sh_i2 _ fun _ _ _ => zv_shi (zv_shk _ _ _ _ _) (zv_shk _ _ _ _ _)
  case iconst => exact zv_shk _ _ _ _ _
  case bipush => exact zv_shk _ _ _ _ _
  case sipush => exact zv_shk _ _ _ _ _
  case ldc_w => exact zv_shk _ _ _ _ _
  case lconst => exact zv_shk _ _ _ _ _
  case ldc2_w => exact zv_shk _ _ _ _ _
  case getstatic => exact zv_shk _ _ _ _ _
  case goto => exact zv_shk _ _ _ _ _
  case iload => exact zv_sh_li _ fun _ => zv_shk _ _ _ _ _
  case iload_n => exact zv_sh_li _ fun _ => zv_shk _ _ _ _ _
  case lload => exact zv_sh_ll _ _ fun _ => zv_shk _ _ _ _ _
  case lload_n => exact zv_sh_ll _ _ fun _ => zv_shk _ _ _ _ _
  case aload => exact zv_sh_la _ fun _ => zv_shk _ _ _ _ _
  case aload_n => exact zv_sh_la _ fun _ => zv_shk _ _ _ _ _
  case istore => exact zv_sh_i1 _ fun _ _ => zv_shk _ _ _ _ _
  case istore_n => exact zv_sh_i1 _ fun _ _ => zv_shk _ _ _ _ _
  case lstore => exact zv_sh_l1 _ fun _ _ => zv_shk _ _ _ _ _
  case lstore_n => exact zv_sh_l1 _ fun _ _ => zv_shk _ _ _ _ _
  case astore_n => exact zv_sh_a1 _ fun _ _ => zv_shk _ _ _ _ _
  case iinc => exact zv_sh_li _ fun _ => zv_shk _ _ _ _ _
  case iadd => exact zv_sh_i2 _ fun _ _ _ => zv_shk _ _ _ _ _
  case isub => exact zv_sh_i2 _ fun _ _ _ => zv_shk _ _ _ _ _
  case imul => exact zv_sh_i2 _ fun _ _ _ => zv_shk _ _ _ _ _
  case iand => exact zv_sh_i2 _ fun _ _ _ => zv_shk _ _ _ _ _
  case ior => exact zv_sh_i2 _ fun _ _ _ => zv_shk _ _ _ _ _
  case ixor => exact zv_sh_i2 _ fun _ _ _ => zv_shk _ _ _ _ _
  case ishl => exact zv_sh_i2 _ fun _ _ _ => zv_shk _ _ _ _ _
  case ishr => exact zv_sh_i2 _ fun _ _ _ => zv_shk _ _ _ _ _
  case iushr => exact zv_sh_i2 _ fun _ _ _ => zv_shk _ _ _ _ _
  case idiv => exact zv_sh_i2 _ fun _ _ _ => zv_shi zv_shn (zv_shk _ _ _ _ _)
  case irem => exact zv_sh_i2 _ fun _ _ _ => zv_shi zv_shn (zv_shk _ _ _ _ _)
  case ineg => exact zv_sh_i1 _ fun _ _ => zv_shk _ _ _ _ _
  case ladd => exact zv_sh_l2 _ fun _ _ _ => zv_shk _ _ _ _ _
  case lsub => exact zv_sh_l2 _ fun _ _ _ => zv_shk _ _ _ _ _
  case lmul => exact zv_sh_l2 _ fun _ _ _ => zv_shk _ _ _ _ _
  case land => exact zv_sh_l2 _ fun _ _ _ => zv_shk _ _ _ _ _
  case lor => exact zv_sh_l2 _ fun _ _ _ => zv_shk _ _ _ _ _
  case ldiv => exact zv_sh_l2 _ fun _ _ _ => zv_shi zv_shn (zv_shk _ _ _ _ _)
  case lrem => exact zv_sh_l2 _ fun _ _ _ => zv_shi zv_shn (zv_shk _ _ _ _ _)
  case lcmp => exact zv_sh_l2 _ fun _ _ _ => zv_shk _ _ _ _ _
  case lshl => exact zv_sh_i1 _ fun _ _ => zv_sh_l1 _ fun _ _ => zv_shk _ _ _ _ _
  case lushr => exact zv_sh_i1 _ fun _ _ => zv_sh_l1 _ fun _ _ => zv_shk _ _ _ _ _
  case i2l => exact zv_sh_i1 _ fun _ _ => zv_shk _ _ _ _ _
  case l2i => exact zv_sh_l1 _ fun _ _ => zv_shk _ _ _ _ _
  case i2c => exact zv_sh_i1 _ fun _ _ => zv_shk _ _ _ _ _
  case dup => exact zv_sh_dp st fun r => zv_shk (pc + n) lv r S D
  case dup2 => exact zv_sh_ia _ fun _ _ _ => zv_shk _ _ _ _ _
  case pop => exact zv_sh_i1 _ fun _ _ => zv_shk _ _ _ _ _
  case tableswitch => exact zv_sh_i1 _ fun _ _ => zv_shw _ _ _ fun _ => zv_shk _ _ _ _ _
  case lookupswitch => exact zv_sh_i1 _ fun _ _ => zv_shw _ _ _ fun _ => zv_shk _ _ _ _ _
  case getfield => exact zv_sh_a1 _ fun _ _ => zv_shc _ (zv_shc _ (zv_shk _ _ _ _ _) (zv_shc _ (zv_shk _ _ _ _ _) (zv_shb _ fun _ => zv_shk _ _ _ _ _))) zv_shn
  case putfield => exact zv_shc _ (zv_sh_i1 _ fun _ _ => zv_sh_a1 _ fun _ _ => zv_shc _ (zv_shk _ _ _ _ _) zv_shn) (zv_shc _ (zv_sh_l1 _ fun _ _ => zv_sh_a1 _ fun _ _ => zv_shc _ (zv_shk _ _ _ _ _) zv_shn) (zv_shc _ (zv_sh_a1 _ fun _ _ => zv_sh_a1 _ fun _ _ => zv_shc _ (zv_shk _ _ _ _ _) zv_shn) zv_shn))
  case iaload => exact zv_sh_ia _ fun _ _ _ => zv_shc _ (zv_shc _ (zv_shk _ _ _ _ _) zv_shn) (zv_shc _ (zv_shc _ (zv_shk _ _ _ _ _) zv_shn) (zv_shc _ (zv_shc _ (zv_shk _ _ _ _ _) zv_shn) zv_shn))
  case laload => exact zv_sh_ia _ fun _ _ _ => zv_shc _ (zv_shc _ (zv_shk _ _ _ _ _) zv_shn) zv_shn
  case caload => exact zv_sh_ia _ fun _ _ _ => zv_shc _ (zv_shc _ (zv_shk _ _ _ _ _) zv_shn) zv_shn
  case baload => exact zv_sh_ia _ fun _ _ _ => zv_shc _ (zv_shc _ (zv_shk _ _ _ _ _) zv_shn) zv_shn
  case aaload => exact zv_sh_ia _ fun _ _ _ => zv_shc _ (zv_shc _ (zv_shb _ fun _ => zv_shk _ _ _ _ _) zv_shn) zv_shn
  case iastore => exact zv_sh_via _ fun _ _ _ _ => zv_shc _ (zv_shc _ (zv_shk _ _ _ _ _) zv_shn) zv_shn
  case castore => exact zv_sh_via _ fun _ _ _ _ => zv_shc _ (zv_shc _ (zv_shk _ _ _ _ _) zv_shn) zv_shn
  case bastore => exact zv_sh_via _ fun _ _ _ _ => zv_shc _ (zv_shc _ (zv_shk _ _ _ _ _) zv_shn) zv_shn
  case aastore => exact zv_shc _ (zv_sh_a1 _ fun _ _ => zv_sh_ia _ fun _ _ _ => zv_shc _ (zv_shk _ _ _ _ _) zv_shn) zv_shn
  case arraylength => exact zv_sh_a1 _ fun _ _ => zv_shc _ (zv_shc _ (zv_shk _ _ _ _ _) zv_shn) (zv_shc _ (zv_shk _ _ _ _ _) zv_shn)
  case new => exact zv_shc _ (zv_shk _ _ _ _ _) zv_shn
  case newarray => exact zv_shc _ (zv_sh_i1 _ fun _ _ => zv_shc _ (zv_shk _ _ _ _ _) zv_shn) zv_shn
  case anewarray => exact zv_shc _ (zv_sh_i1 _ fun _ _ => zv_shc _ (zv_shk _ _ _ _ _) zv_shn) zv_shn
  case invokevirtual => exact zv_shc _ (zv_shb _ fun _ => zv_shk _ _ _ _ _) zv_shn
  case invokestatic => exact zv_shc _ (zv_sh_acp _ _ _ fun _ _ => zv_shk _ _ _ _ _) (zv_shc _ (zv_shb _ fun _ => zv_shk _ _ _ _ _) zv_shn)
  case invokespecial => exact zv_shc _ (zv_sh_a1 _ fun _ _ => zv_shc _ (zv_shk _ _ _ _ _) zv_shn) (zv_shc _ (zv_shc _ (zv_shb _ fun _ => zv_shk _ _ _ _ _) zv_shn) zv_shn)
  all_goals exact zv_sho _
section ZV
variable (al : Bool) (tb : List (Nat × List zv_E)) (ca : zv_Ca) (ci : zv_Ci) (xs : Nat × (Nat → Int32)) (bo : Bool)
theorem zv_1_sh (pc : Nat) (lv : zv_L) (st : List Value) (S : zv_S) (D : zv_D) : zv_sh (fun k => zv_1 al tb ca ci xs bo k pc lv st S D) := by
  unfold zv_1; split
  · exact zv_shn
  · exact zv_s_sh _ _ _ _ _ _ _ _ _ _ _ _ _
theorem zv_mono : ∀ (f pc : Nat) (lv : zv_L) (st : List Value) (S : zv_S) (D : zv_D) (o : zv_O), zv_r al tb ca ci xs bo f pc lv st S D = some o → zv_r al tb ca ci xs bo (f + 1) pc lv st S D = some o := by
  intro f
  induction f with
  | zero => intro pc lv st S D o h; cases h
  | succ f ih =>
    intro pc lv st S D o h
    show zv_1 al tb ca ci xs bo (zv_r al tb ca ci xs bo (f + 1)) pc lv st S D = some o
    have h : zv_1 al tb ca ci xs bo (zv_r al tb ca ci xs bo f) pc lv st S D = some o := h
    rcases zv_1_sh al tb ca ci xs bo pc lv st S D with ⟨q, hq⟩ | ⟨pc', lv', st', S', D', hq⟩
    · exact (hq _).trans ((hq _).symm.trans h)
    · exact (hq _).trans (ih _ _ _ _ _ _ ((hq _).symm.trans h))
theorem zv_mono2 (g : Nat) : ∀ (f pc : Nat) (lv : zv_L) (st : List Value) (S : zv_S) (D : zv_D) (o : zv_O), zv_r al tb ca ci xs bo f pc lv st S D = some o → zv_r al tb ca ci xs bo (f + g) pc lv st S D = some o := by
  induction g with
  | zero => exact fun _ _ _ _ _ _ _ h => h
  | succ g ih => exact fun f pc lv st S D o h => zv_mono al tb ca ci xs bo (f + g) pc lv st S D o (ih f pc lv st S D o h)
theorem zv_det {f g pc : Nat} {lv : zv_L} {st : List Value} {S : zv_S} {D : zv_D} {o o' : zv_O} (h : zv_r al tb ca ci xs bo f pc lv st S D = some o) (h' : zv_r al tb ca ci xs bo g pc lv st S D = some o') : o = o' := by
  have a := zv_mono2 al tb ca ci xs bo g f pc lv st S D o h
  have b := zv_mono2 al tb ca ci xs bo f g pc lv st S D o' h'
  rw [Nat.add_comm g f] at b
  exact Option.some.inj (a.symm.trans b)
/-- without fuel -/
noncomputable def zv_z : zv_K := fun pc lv st S D => @dite _ (∃ o f, zv_r al tb ca ci xs bo f pc lv st S D = some o) (Classical.propDecidable _) (fun h => some (Classical.choose h)) (fun _ => none)
theorem zv_z_iff (pc : Nat) (lv : zv_L) (st : List Value) (S : zv_S) (D : zv_D) (o : zv_O) : zv_z al tb ca ci xs bo pc lv st S D = some o ↔ ∃ f, zv_r al tb ca ci xs bo f pc lv st S D = some o := by
  unfold zv_z
  constructor
  · intro h
    split at h
    · rename_i hx
      rw [← Option.some.inj h]
      exact Classical.choose_spec hx
    · cases h
  · rintro ⟨f, hf⟩
    have hx : ∃ o f, zv_r al tb ca ci xs bo f pc lv st S D = some o := ⟨o, f, hf⟩
    rw [dif_pos hx]
    obtain ⟨g, hg⟩ := Classical.choose_spec hx
    exact congrArg some (zv_det al tb ca ci xs bo hg hf)
theorem zv_z_eq (pc : Nat) (lv : zv_L) (st : List Value) (S : zv_S) (D : zv_D) : zv_z al tb ca ci xs bo pc lv st S D = zv_1 al tb ca ci xs bo (zv_z al tb ca ci xs bo) pc lv st S D := by
  apply Option.ext
  intro o
  rw [zv_z_iff]
  rcases zv_1_sh al tb ca ci xs bo pc lv st S D with ⟨q, hq⟩ | ⟨pc', lv', st', S', D', hq⟩
  · have hq : ∀ k : zv_K, zv_1 al tb ca ci xs bo k pc lv st S D = q := hq
    rw [hq]
    constructor
    · rintro ⟨f, hf⟩
      cases f with
      | zero => cases hf
      | succ f => exact (hq _).symm.trans hf
    · intro h
      exact ⟨1, (hq _).trans h⟩
  · have hq : ∀ k : zv_K, zv_1 al tb ca ci xs bo k pc lv st S D = k pc' lv' st' S' D' := hq
    rw [hq, zv_z_iff]
    constructor
    · rintro ⟨f, hf⟩
      cases f with
      | zero => cases hf
      | succ f => exact ⟨f, (hq _).symm.trans hf⟩
    · rintro ⟨f, hf⟩
      exact ⟨f + 1, (hq _).trans hf⟩
theorem zv_zn (sp : List Nat) : ∀ (n pc : Nat) (lv : zv_L) (st : List Value) (S : zv_S) (D : zv_D), zv_z al tb ca ci xs bo pc lv st S D = zv_n al tb ca ci xs bo sp (zv_z al tb ca ci xs bo) n pc lv st S D := by
  intro n
  induction n with
  | zero => intro pc lv st S D; rfl
  | succ n ih =>
    intro pc lv st S D
    rw [zv_z_eq]
    show _ = zv_1 al tb ca ci xs bo (fun pc lv st S D => bif zv_mem sp pc then zv_z al tb ca ci xs bo pc lv st S D else zv_n al tb ca ci xs bo sp (zv_z al tb ca ci xs bo) n pc lv st S D) pc lv st S D
    congr 1
    funext pc lv st S D
    cases zv_mem sp pc
    · exact ih pc lv st S D
    · rfl
end ZV
/-- a method that makes nothing -/
noncomputable abbrev zv_m (tb : List (Nat × List zv_E)) (ca : zv_Ca) (bo : Bool) : zv_K := zv_z false tb ca (fun _ _ _ _ => none) (0, fun _ => 0) bo
theorem zv_mn (tb : List (Nat × List zv_E)) (ca : zv_Ca) (bo : Bool) (sp : List Nat) (n pc : Nat) (lv : zv_L) (st : List Value) (S : zv_S) (D : zv_D) : zv_m tb ca bo pc lv st S D = zv_n false tb ca (fun _ _ _ _ => none) (0, fun _ => 0) bo sp (zv_m tb ca bo) n pc lv st S D := zv_zn _ _ _ _ _ _ _ _ _ _ _ _ _
end
section
def RX0 : String := "HiddenExits$Course"
def TX0 : u_T := fun k => match k with
  | 0 => ("HiddenExits$Course", "outcome", "I", false)
  | 1 => ("HiddenExits$Course", "entry", "I", false)
  | 2 => ("HiddenExits$Course", "period", "I", false)
  | _ => ("HiddenExits$Course", "history", "[I", true)
def tyX0 : Nat → FieldType := fun k => match k with
  | 0 => .int
  | 1 => .int
  | 2 => .int
  | _ => .array .int
abbrev wsX00 : List Cond := u_ws RX0 TX0 4
theorem nmX0 : ∀ a, a < 4 → ∀ b, b < 4 → a ≠ b → (TX0 a).2.1 ≠ (TX0 b).2.1 := by decide +kernel
theorem tyX0_ok : ∀ k, k < 4 → parseFieldDescriptor (TX0 k).2.2.1 = some (tyX0 k) := by decide +kernel
abbrev cX0_init : ByteArray := prog_2_method_1_code
def yX0_init : MethodName := ⟨RX0, "<init>", "()V"⟩
abbrev cX0_follow : ByteArray := prog_2_method_2_code
def yX0_follow : MethodName := ⟨RX0, "follow", "(LHiddenExits$Simulator;)V"⟩
abbrev cX0_takeBack : ByteArray := prog_2_method_3_code
def yX0_takeBack : MethodName := ⟨RX0, "takeBack", "(LHiddenExits$Simulator;)V"⟩
abbrev cX0_record : ByteArray := prog_2_method_4_code
def yX0_record : MethodName := ⟨RX0, "record", "(LHiddenExits$Simulator;I)V"⟩
abbrev cX0_earlier : ByteArray := prog_2_method_5_code
def yX0_earlier : MethodName := ⟨RX0, "earlier", "(I)I"⟩
abbrev cX0_alike : ByteArray := prog_2_method_6_code
def yX0_alike : MethodName := ⟨RX0, "alike", "(II)Z"⟩
def RX1 : String := "HiddenExits$Passes"
def TX1 : u_T := fun k => match k with
  | 0 => ("HiddenExits$Passes", "resting", "I", false)
  | 1 => ("HiddenExits$Passes", "different", "I", false)
  | 2 => ("HiddenExits$Passes", "lowest", "I", false)
  | 3 => ("HiddenExits$Passes", "order", "[I", true)
  | 4 => ("HiddenExits$Passes", "rests", "[I", true)
  | _ => ("HiddenExits$Passes", "marked", "[I", true)
def tyX1 : Nat → FieldType := fun k => match k with
  | 0 => .int
  | 1 => .int
  | 2 => .int
  | 3 => .array .int
  | 4 => .array .int
  | _ => .array .int
abbrev wsX10 : List Cond := u_ws RX1 TX1 6
theorem nmX1 : ∀ a, a < 6 → ∀ b, b < 6 → a ≠ b → (TX1 a).2.1 ≠ (TX1 b).2.1 := by decide +kernel
theorem tyX1_ok : ∀ k, k < 6 → parseFieldDescriptor (TX1 k).2.2.1 = some (tyX1 k) := by decide +kernel
abbrev cX1_init : ByteArray := prog_3_method_1_code
def yX1_init : MethodName := ⟨RX1, "<init>", "()V"⟩
abbrev cX1_tryAll : ByteArray := prog_3_method_2_code
def yX1_tryAll : MethodName := ⟨RX1, "tryAll", "(LHiddenExits$Simulator;)V"⟩
abbrev cX1_restsInOrder : ByteArray := prog_3_method_3_code
def yX1_restsInOrder : MethodName := ⟨RX1, "restsInOrder", "(LHiddenExits$Simulator;I)Z"⟩
abbrev cX1_mark : ByteArray := prog_3_method_4_code
def yX1_mark : MethodName := ⟨RX1, "mark", "(LHiddenExits$Simulator;)V"⟩
abbrev cX1_isMarked : ByteArray := prog_3_method_5_code
def yX1_isMarked : MethodName := ⟨RX1, "isMarked", "(LHiddenExits$Simulator;)Z"⟩
abbrev cX1_note : ByteArray := prog_3_method_6_code
def yX1_note : MethodName := ⟨RX1, "note", "(I)V"⟩
abbrev cX1_goToNextOrder : ByteArray := prog_3_method_7_code
def yX1_goToNextOrder : MethodName := ⟨RX1, "goToNextOrder", "(I)Z"⟩
abbrev cX1_swap : ByteArray := prog_3_method_8_code
def yX1_swap : MethodName := ⟨RX1, "swap", "(II)V"⟩
def RX2 : String := "HiddenExits$Past"
def TX2 : u_T := fun k => match k with
  | 0 => ("HiddenExits$Past", "held", "I", false)
  | 1 => ("HiddenExits$Past", "next", "I", false)
  | _ => ("HiddenExits$Past", "states", "[LHiddenExits$State;", true)
def tyX2 : Nat → FieldType := fun k => match k with
  | 0 => .int
  | 1 => .int
  | _ => .array (.object "HiddenExits$State")
abbrev wsX20 : List Cond := u_ws RX2 TX2 3
theorem nmX2 : ∀ a, a < 3 → ∀ b, b < 3 → a ≠ b → (TX2 a).2.1 ≠ (TX2 b).2.1 := by decide +kernel
theorem tyX2_ok : ∀ k, k < 3 → parseFieldDescriptor (TX2 k).2.2.1 = some (tyX2 k) := by decide +kernel
abbrev cX2_init : ByteArray := prog_4_method_1_code
def yX2_init : MethodName := ⟨RX2, "<init>", "()V"⟩
abbrev cX2_save : ByteArray := prog_4_method_2_code
def yX2_save : MethodName := ⟨RX2, "save", "(LHiddenExits$State;)V"⟩
abbrev cX2_latest : ByteArray := prog_4_method_3_code
def yX2_latest : MethodName := ⟨RX2, "latest", "()LHiddenExits$State;"⟩
def RX3 : String := "HiddenExits$Plan"
def TX3 : u_T := fun k => match k with
  | 0 => ("HiddenExits$Plan", "routers", "I", false)
  | 1 => ("HiddenExits$Plan", "exits", "I", false)
  | 2 => ("HiddenExits$Plan", "session", "[I", true)
  | 3 => ("HiddenExits$Plan", "told", "[I", true)
  | 4 => ("HiddenExits$Plan", "place", "[I", true)
  | 5 => ("HiddenExits$Plan", "neighbour", "[I", true)
  | 6 => ("HiddenExits$Plan", "path", "[I", true)
  | _ => ("HiddenExits$Plan", "home", "[I", true)
def tyX3 : Nat → FieldType := fun k => match k with
  | 0 => .int
  | 1 => .int
  | 2 => .array .int
  | 3 => .array .int
  | 4 => .array .int
  | 5 => .array .int
  | 6 => .array .int
  | _ => .array .int
abbrev wsX30 : List Cond := u_ws RX3 TX3 8
theorem nmX3 : ∀ a, a < 8 → ∀ b, b < 8 → a ≠ b → (TX3 a).2.1 ≠ (TX3 b).2.1 := by decide +kernel
theorem tyX3_ok : ∀ k, k < 8 → parseFieldDescriptor (TX3 k).2.2.1 = some (tyX3 k) := by decide +kernel
abbrev cX3_init : ByteArray := prog_5_method_1_code
def yX3_init : MethodName := ⟨RX3, "<init>", "()V"⟩
abbrev cX3_read : ByteArray := prog_5_method_2_code
def yX3_read : MethodName := ⟨RX3, "read", "(LHiddenExits$Script;)V"⟩
abbrev cX3_readTold : ByteArray := prog_5_method_3_code
def yX3_readTold : MethodName := ⟨RX3, "readTold", "(I)V"⟩
abbrev cX3_hasRouter : ByteArray := prog_5_method_4_code
def yX3_hasRouter : MethodName := ⟨RX3, "hasRouter", "(I)Z"⟩
abbrev cX3_hasExit : ByteArray := prog_5_method_5_code
def yX3_hasExit : MethodName := ⟨RX3, "hasExit", "(I)Z"⟩
abbrev cX3_sessionOf : ByteArray := prog_5_method_6_code
def yX3_sessionOf : MethodName := ⟨RX3, "sessionOf", "(II)I"⟩
abbrev cX3_toldBy : ByteArray := prog_5_method_7_code
def yX3_toldBy : MethodName := ⟨RX3, "toldBy", "(II)I"⟩
abbrev cX3_exitsTo : ByteArray := prog_5_method_8_code
def yX3_exitsTo : MethodName := ⟨RX3, "exitsTo", "(I)I"⟩
abbrev cX3_sessionCount : ByteArray := prog_5_method_9_code
def yX3_sessionCount : MethodName := ⟨RX3, "sessionCount", "()I"⟩
def RX4 : String := "HiddenExits$Script"
def TX4 : u_T := fun k => match k with
  | 0 => ("HiddenExits$Script", "signs", "[C", true)
  | 1 => ("HiddenExits$Script", "length", "I", false)
  | 2 => ("HiddenExits$Script", "routers", "I", false)
  | 3 => ("HiddenExits$Script", "exits", "I", false)
  | 4 => ("HiddenExits$Script", "parts", "I", false)
  | 5 => ("HiddenExits$Script", "cost", "[I", true)
  | 6 => ("HiddenExits$Script", "session", "[I", true)
  | 7 => ("HiddenExits$Script", "place", "[I", true)
  | 8 => ("HiddenExits$Script", "neighbour", "[I", true)
  | 9 => ("HiddenExits$Script", "path", "[I", true)
  | 10 => ("HiddenExits$Script", "weight", "[I", true)
  | _ => ("HiddenExits$Script", "at", "I", false)
def tyX4 : Nat → FieldType := fun k => match k with
  | 0 => .array .char
  | 1 => .int
  | 2 => .int
  | 3 => .int
  | 4 => .int
  | 5 => .array .int
  | 6 => .array .int
  | 7 => .array .int
  | 8 => .array .int
  | 9 => .array .int
  | 10 => .array .int
  | _ => .int
abbrev wsX40 : List Cond := u_ws RX4 TX4 12
theorem nmX4 : ∀ a, a < 12 → ∀ b, b < 12 → a ≠ b → (TX4 a).2.1 ≠ (TX4 b).2.1 := by decide +kernel
theorem tyX4_ok : ∀ k, k < 12 → parseFieldDescriptor (TX4 k).2.2.1 = some (tyX4 k) := by decide +kernel
abbrev cX4_init : ByteArray := prog_6_method_1_code
def yX4_init : MethodName := ⟨RX4, "<init>", "()V"⟩
abbrev cX4_scan : ByteArray := prog_6_method_2_code
def yX4_scan : MethodName := ⟨RX4, "scan", "()I"⟩
abbrev cX4_scanHead : ByteArray := prog_6_method_3_code
def yX4_scanHead : MethodName := ⟨RX4, "scanHead", "()Z"⟩
abbrev cX4_scanPart : ByteArray := prog_6_method_4_code
def yX4_scanPart : MethodName := ⟨RX4, "scanPart", "()Z"⟩
abbrev cX4_scanLink : ByteArray := prog_6_method_5_code
def yX4_scanLink : MethodName := ⟨RX4, "scanLink", "()Z"⟩
abbrev cX4_scanSession : ByteArray := prog_6_method_6_code
def yX4_scanSession : MethodName := ⟨RX4, "scanSession", "(II)Z"⟩
abbrev cX4_scanExit : ByteArray := prog_6_method_7_code
def yX4_scanExit : MethodName := ⟨RX4, "scanExit", "()Z"⟩
abbrev cX4_scanPair : ByteArray := prog_6_method_8_code
def yX4_scanPair : MethodName := ⟨RX4, "scanPair", "([I)I"⟩
abbrev cX4_setPair : ByteArray := prog_6_method_9_code
def yX4_setPair : MethodName := ⟨RX4, "setPair", "([IIII)V"⟩
abbrev cX4_anyFree : ByteArray := prog_6_method_10_code
def yX4_anyFree : MethodName := ⟨RX4, "anyFree", "([I)Z"⟩
abbrev cX4_hasFree : ByteArray := prog_6_method_11_code
def yX4_hasFree : MethodName := ⟨RX4, "hasFree", "([II)Z"⟩
abbrev cX4_isFree : ByteArray := prog_6_method_12_code
def yX4_isFree : MethodName := ⟨RX4, "isFree", "([III)Z"⟩
abbrev cX4_sign : ByteArray := prog_6_method_13_code
def yX4_sign : MethodName := ⟨RX4, "sign", "()I"⟩
abbrev cX4_digit : ByteArray := prog_6_method_14_code
def yX4_digit : MethodName := ⟨RX4, "digit", "(II)I"⟩
def RX5 : String := "HiddenExits$Sightings"
def TX5 : u_T := fun k => match k with
  | 0 => ("HiddenExits$Sightings", "held", "I", false)
  | 1 => ("HiddenExits$Sightings", "routers", "[I", true)
  | 2 => ("HiddenExits$Sightings", "exits", "[I", true)
  | _ => ("HiddenExits$Sightings", "was", "[I", true)
def tyX5 : Nat → FieldType := fun k => match k with
  | 0 => .int
  | 1 => .array .int
  | 2 => .array .int
  | _ => .array .int
abbrev wsX50 : List Cond := u_ws RX5 TX5 4
theorem nmX5 : ∀ a, a < 4 → ∀ b, b < 4 → a ≠ b → (TX5 a).2.1 ≠ (TX5 b).2.1 := by decide +kernel
theorem tyX5_ok : ∀ k, k < 4 → parseFieldDescriptor (TX5 k).2.2.1 = some (tyX5 k) := by decide +kernel
abbrev cX5_init : ByteArray := prog_7_method_1_code
def yX5_init : MethodName := ⟨RX5, "<init>", "()V"⟩
abbrev cX5_note : ByteArray := prog_7_method_2_code
def yX5_note : MethodName := ⟨RX5, "note", "(III)V"⟩
abbrev cX5_agree : ByteArray := prog_7_method_3_code
def yX5_agree : MethodName := ⟨RX5, "agree", "(LHiddenExits$Simulator;Z)Z"⟩
def RX6 : String := "HiddenExits$Simulator"
def TX6 : u_T := fun k => match k with
  | 0 => ("HiddenExits$Simulator", "plan", "LHiddenExits$Plan;", true)
  | 1 => ("HiddenExits$Simulator", "state", "LHiddenExits$State;", true)
  | 2 => ("HiddenExits$Simulator", "near", "[I", true)
  | 3 => ("HiddenExits$Simulator", "hops", "I", false)
  | 4 => ("HiddenExits$Simulator", "distances", "[I", true)
  | 5 => ("HiddenExits$Simulator", "picks", "[I", true)
  | 6 => ("HiddenExits$Simulator", "keys", "[I", true)
  | 7 => ("HiddenExits$Simulator", "offers", "[I", true)
  | _ => ("HiddenExits$Simulator", "next", "[I", true)
def tyX6 : Nat → FieldType := fun k => match k with
  | 0 => .object "HiddenExits$Plan"
  | 1 => .object "HiddenExits$State"
  | 2 => .array .int
  | 3 => .int
  | 4 => .array .int
  | 5 => .array .int
  | 6 => .array .int
  | 7 => .array .int
  | _ => .array .int
abbrev wsX60 : List Cond := u_ws RX6 TX6 9
theorem nmX6 : ∀ a, a < 9 → ∀ b, b < 9 → a ≠ b → (TX6 a).2.1 ≠ (TX6 b).2.1 := by decide +kernel
theorem tyX6_ok : ∀ k, k < 9 → parseFieldDescriptor (TX6 k).2.2.1 = some (tyX6 k) := by decide +kernel
abbrev cX6_init : ByteArray := prog_8_method_1_code
def yX6_init : MethodName := ⟨RX6, "<init>", "(LHiddenExits$Plan;)V"⟩
abbrev cX6_begin : ByteArray := prog_8_method_2_code
def yX6_begin : MethodName := ⟨RX6, "begin", "(LHiddenExits$Script;)V"⟩
abbrev cX6_restore : ByteArray := prog_8_method_3_code
def yX6_restore : MethodName := ⟨RX6, "restore", "(LHiddenExits$State;)V"⟩
abbrev cX6_copyFrom : ByteArray := prog_8_method_4_code
def yX6_copyFrom : MethodName := ⟨RX6, "copyFrom", "(LHiddenExits$Simulator;)V"⟩
abbrev cX6_changeCost : ByteArray := prog_8_method_5_code
def yX6_changeCost : MethodName := ⟨RX6, "changeCost", "(III)V"⟩
abbrev cX6_changeWeight : ByteArray := prog_8_method_6_code
def yX6_changeWeight : MethodName := ⟨RX6, "changeWeight", "(II)V"⟩
abbrev cX6_changeMode : ByteArray := prog_8_method_7_code
def yX6_changeMode : MethodName := ⟨RX6, "changeMode", "(I)V"⟩
abbrev cX6_forgetPicks : ByteArray := prog_8_method_8_code
def yX6_forgetPicks : MethodName := ⟨RX6, "forgetPicks", "()V"⟩
abbrev cX6_measure : ByteArray := prog_8_method_9_code
def yX6_measure : MethodName := ⟨RX6, "measure", "()V"⟩
abbrev cX6_findNear : ByteArray := prog_8_method_10_code
def yX6_findNear : MethodName := ⟨RX6, "findNear", "()V"⟩
abbrev cX6_distance : ByteArray := prog_8_method_11_code
def yX6_distance : MethodName := ⟨RX6, "distance", "(II)I"⟩
abbrev cX6_stepOne : ByteArray := prog_8_method_12_code
def yX6_stepOne : MethodName := ⟨RX6, "stepOne", "(I)Z"⟩
abbrev cX6_stepAll : ByteArray := prog_8_method_13_code
def yX6_stepAll : MethodName := ⟨RX6, "stepAll", "()I"⟩
abbrev cX6_decide : ByteArray := prog_8_method_14_code
def yX6_decide : MethodName := ⟨RX6, "decide", "(I)I"⟩
abbrev cX6_listen : ByteArray := prog_8_method_15_code
def yX6_listen : MethodName := ⟨RX6, "listen", "(I)I"⟩
abbrev cX6_take : ByteArray := prog_8_method_16_code
def yX6_take : MethodName := ⟨RX6, "take", "(IIII)I"⟩
abbrev cX6_pick : ByteArray := prog_8_method_17_code
def yX6_pick : MethodName := ⟨RX6, "pick", "(II)I"⟩
abbrev cX6_compare : ByteArray := prog_8_method_18_code
def yX6_compare : MethodName := ⟨RX6, "compare", "(II)I"⟩
abbrev cX6_smallest : ByteArray := prog_8_method_19_code
def yX6_smallest : MethodName := ⟨RX6, "smallest", "(I[I)I"⟩
abbrev cX6_send : ByteArray := prog_8_method_20_code
def yX6_send : MethodName := ⟨RX6, "send", "(I)I"⟩
abbrev cX6_nextHop : ByteArray := prog_8_method_21_code
def yX6_nextHop : MethodName := ⟨RX6, "nextHop", "(II)I"⟩
abbrev cX6_restNumber : ByteArray := prog_8_method_22_code
def yX6_restNumber : MethodName := ⟨RX6, "restNumber", "()I"⟩
def RX7 : String := "HiddenExits$State"
def TX7 : u_T := fun k => match k with
  | 0 => ("HiddenExits$State", "cost", "[I", true)
  | 1 => ("HiddenExits$State", "weight", "[I", true)
  | 2 => ("HiddenExits$State", "choices", "[I", true)
  | 3 => ("HiddenExits$State", "up", "I", false)
  | 4 => ("HiddenExits$State", "extended", "I", false)
  | _ => ("HiddenExits$State", "mode", "I", false)
def tyX7 : Nat → FieldType := fun k => match k with
  | 0 => .array .int
  | 1 => .array .int
  | 2 => .array .int
  | 3 => .int
  | 4 => .int
  | _ => .int
abbrev wsX70 : List Cond := u_ws RX7 TX7 6
theorem nmX7 : ∀ a, a < 6 → ∀ b, b < 6 → a ≠ b → (TX7 a).2.1 ≠ (TX7 b).2.1 := by decide +kernel
theorem tyX7_ok : ∀ k, k < 6 → parseFieldDescriptor (TX7 k).2.2.1 = some (tyX7 k) := by decide +kernel
abbrev cX7_init : ByteArray := prog_9_method_1_code
def yX7_init : MethodName := ⟨RX7, "<init>", "()V"⟩
abbrev cX7_copyFrom : ByteArray := prog_9_method_2_code
def yX7_copyFrom : MethodName := ⟨RX7, "copyFrom", "(LHiddenExits$State;)V"⟩
abbrev cX7_read : ByteArray := prog_9_method_3_code
def yX7_read : MethodName := ⟨RX7, "read", "(LHiddenExits$Script;)V"⟩
abbrev cX7_forgetChoices : ByteArray := prog_9_method_4_code
def yX7_forgetChoices : MethodName := ⟨RX7, "forgetChoices", "()V"⟩
abbrev cX7_costOf : ByteArray := prog_9_method_5_code
def yX7_costOf : MethodName := ⟨RX7, "costOf", "(II)I"⟩
abbrev cX7_flip : ByteArray := prog_9_method_6_code
def yX7_flip : MethodName := ⟨RX7, "flip", "(I)V"⟩
abbrev cX7_extend : ByteArray := prog_9_method_7_code
def yX7_extend : MethodName := ⟨RX7, "extend", "(I)V"⟩
abbrev cX7_firstRoute : ByteArray := prog_9_method_8_code
def yX7_firstRoute : MethodName := ⟨RX7, "firstRoute", "(I)I"⟩
abbrev cX7_secondRoute : ByteArray := prog_9_method_9_code
def yX7_secondRoute : MethodName := ⟨RX7, "secondRoute", "(I)I"⟩
abbrev cX7_firstExit : ByteArray := prog_9_method_10_code
def yX7_firstExit : MethodName := ⟨RX7, "firstExit", "(I)I"⟩
abbrev cX7_linkCount : ByteArray := prog_9_method_11_code
def yX7_linkCount : MethodName := ⟨RX7, "linkCount", "()I"⟩
abbrev cX7_chosenSet : ByteArray := prog_9_method_12_code
def yX7_chosenSet : MethodName := ⟨RX7, "chosenSet", "()I"⟩
abbrev cX7_chosenExits : ByteArray := prog_9_method_13_code
def yX7_chosenExits : MethodName := ⟨RX7, "chosenExits", "()I"⟩
def RX8 : String := "HiddenExits"
def TX8 : u_T := fun k => match k with
  | 0 => ("HiddenExits", "script", "LHiddenExits$Script;", true)
  | 1 => ("HiddenExits", "plan", "LHiddenExits$Plan;", true)
  | 2 => ("HiddenExits", "live", "LHiddenExits$Simulator;", true)
  | 3 => ("HiddenExits", "trial", "LHiddenExits$Simulator;", true)
  | 4 => ("HiddenExits", "course", "LHiddenExits$Course;", true)
  | 5 => ("HiddenExits", "passes", "LHiddenExits$Passes;", true)
  | 6 => ("HiddenExits", "past", "LHiddenExits$Past;", true)
  | 7 => ("HiddenExits", "slots", "[LHiddenExits$State;", true)
  | 8 => ("HiddenExits", "filled", "[Z", true)
  | 9 => ("HiddenExits", "sightings", "LHiddenExits$Sightings;", true)
  | _ => ("HiddenExits", "random", "J", false)
def tyX8 : Nat → FieldType := fun k => match k with
  | 0 => .object "HiddenExits$Script"
  | 1 => .object "HiddenExits$Plan"
  | 2 => .object "HiddenExits$Simulator"
  | 3 => .object "HiddenExits$Simulator"
  | 4 => .object "HiddenExits$Course"
  | 5 => .object "HiddenExits$Passes"
  | 6 => .object "HiddenExits$Past"
  | 7 => .array (.object "HiddenExits$State")
  | 8 => .array .boolean
  | 9 => .object "HiddenExits$Sightings"
  | _ => .long
abbrev wsX80 : List Cond := u_ws RX8 TX8 11
theorem nmX8 : ∀ a, a < 11 → ∀ b, b < 11 → a ≠ b → (TX8 a).2.1 ≠ (TX8 b).2.1 := by decide +kernel
theorem tyX8_ok : ∀ k, k < 11 → parseFieldDescriptor (TX8 k).2.2.1 = some (tyX8 k) := by decide +kernel
abbrev cX8_init : ByteArray := prog_1_method_1_code
def yX8_init : MethodName := ⟨RX8, "<init>", "()V"⟩
abbrev cX8_write : ByteArray := prog_1_method_2_code
def yX8_write : MethodName := ⟨RX8, "write", "(I)I"⟩
abbrev cX8_wipe : ByteArray := prog_1_method_3_code
def yX8_wipe : MethodName := ⟨RX8, "wipe", "()I"⟩
abbrev cX8_fault : ByteArray := prog_1_method_4_code
def yX8_fault : MethodName := ⟨RX8, "fault", "()I"⟩
abbrev cX8_domain : ByteArray := prog_1_method_5_code
def yX8_domain : MethodName := ⟨RX8, "domain", "()I"⟩
abbrev cX8_link : ByteArray := prog_1_method_6_code
def yX8_link : MethodName := ⟨RX8, "link", "(III)I"⟩
abbrev cX8_session : ByteArray := prog_1_method_7_code
def yX8_session : MethodName := ⟨RX8, "session", "(II)I"⟩
abbrev cX8_exit : ByteArray := prog_1_method_8_code
def yX8_exit : MethodName := ⟨RX8, "exit", "(II)I"⟩
abbrev cX8_step : ByteArray := prog_1_method_9_code
def yX8_step : MethodName := ⟨RX8, "step", "(I)I"⟩
abbrev cX8_round : ByteArray := prog_1_method_10_code
def yX8_round : MethodName := ⟨RX8, "round", "()I"⟩
abbrev cX8_setLink : ByteArray := prog_1_method_11_code
def yX8_setLink : MethodName := ⟨RX8, "setLink", "(III)I"⟩
abbrev cX8_turn : ByteArray := prog_1_method_12_code
def yX8_turn : MethodName := ⟨RX8, "turn", "(I)I"⟩
abbrev cX8_weigh : ByteArray := prog_1_method_13_code
def yX8_weigh : MethodName := ⟨RX8, "weigh", "(II)I"⟩
abbrev cX8_add : ByteArray := prog_1_method_14_code
def yX8_add : MethodName := ⟨RX8, "add", "(I)I"⟩
abbrev cX8_setMode : ByteArray := prog_1_method_15_code
def yX8_setMode : MethodName := ⟨RX8, "setMode", "(I)I"⟩
abbrev cX8_undo : ByteArray := prog_1_method_16_code
def yX8_undo : MethodName := ⟨RX8, "undo", "()I"⟩
abbrev cX8_choice : ByteArray := prog_1_method_17_code
def yX8_choice : MethodName := ⟨RX8, "choice", "(III)I"⟩
abbrev cX8_heard : ByteArray := prog_1_method_18_code
def yX8_heard : MethodName := ⟨RX8, "heard", "(I)I"⟩
abbrev cX8_tells : ByteArray := prog_1_method_19_code
def yX8_tells : MethodName := ⟨RX8, "tells", "(II)I"⟩
abbrev cX8_mesh : ByteArray := prog_1_method_20_code
def yX8_mesh : MethodName := ⟨RX8, "mesh", "(I)I"⟩
abbrev cX8_leaves : ByteArray := prog_1_method_21_code
def yX8_leaves : MethodName := ⟨RX8, "leaves", "(II)I"⟩
abbrev cX8_run : ByteArray := prog_1_method_22_code
def yX8_run : MethodName := ⟨RX8, "run", "(II)I"⟩
abbrev cX8_orders : ByteArray := prog_1_method_23_code
def yX8_orders : MethodName := ⟨RX8, "orders", "(I)I"⟩
abbrev cX8_healed : ByteArray := prog_1_method_24_code
def yX8_healed : MethodName := ⟨RX8, "healed", "(I)I"⟩
abbrev cX8_judge : ByteArray := prog_1_method_25_code
def yX8_judge : MethodName := ⟨RX8, "judge", "(IJ)I"⟩
abbrev cX8_see : ByteArray := prog_1_method_26_code
def yX8_see : MethodName := ⟨RX8, "see", "(III)I"⟩
abbrev cX8_unsee : ByteArray := prog_1_method_27_code
def yX8_unsee : MethodName := ⟨RX8, "unsee", "()I"⟩
abbrev cX8_which : ByteArray := prog_1_method_28_code
def yX8_which : MethodName := ⟨RX8, "which", "()I"⟩
abbrev cX8_share : ByteArray := prog_1_method_29_code
def yX8_share : MethodName := ⟨RX8, "share", "(IZ)I"⟩
abbrev cX8_lost : ByteArray := prog_1_method_30_code
def yX8_lost : MethodName := ⟨RX8, "lost", "(IZ)I"⟩
abbrev cX8_seed : ByteArray := prog_1_method_31_code
def yX8_seed : MethodName := ⟨RX8, "seed", "(J)J"⟩
abbrev cX8_drawn : ByteArray := prog_1_method_32_code
def yX8_drawn : MethodName := ⟨RX8, "drawn", "(I)I"⟩
abbrev cX8_keep : ByteArray := prog_1_method_33_code
def yX8_keep : MethodName := ⟨RX8, "keep", "(I)I"⟩
abbrev cX8_again : ByteArray := prog_1_method_34_code
def yX8_again : MethodName := ⟨RX8, "again", "(I)I"⟩
abbrev cX8_count : ByteArray := prog_1_method_35_code
def yX8_count : MethodName := ⟨RX8, "count", "(I)I"⟩
abbrev cX8_exitOf : ByteArray := prog_1_method_36_code
def yX8_exitOf : MethodName := ⟨RX8, "exitOf", "(I)I"⟩
abbrev cX8_fromOf : ByteArray := prog_1_method_37_code
def yX8_fromOf : MethodName := ⟨RX8, "fromOf", "(I)I"⟩
abbrev cX8_routeOf : ByteArray := prog_1_method_38_code
def yX8_routeOf : MethodName := ⟨RX8, "routeOf", "(III)I"⟩
abbrev cX8_factorial : ByteArray := prog_1_method_39_code
def yX8_factorial : MethodName := ⟨RX8, "factorial", "(I)I"⟩
abbrev cX8_commonDivisor : ByteArray := prog_1_method_40_code
def yX8_commonDivisor : MethodName := ⟨RX8, "commonDivisor", "(II)I"⟩
abbrev cX8_part : ByteArray := prog_1_method_41_code
def yX8_part : MethodName := ⟨RX8, "part", "(IIZ)I"⟩
abbrev cX8_restsAnew : ByteArray := prog_1_method_42_code
def yX8_restsAnew : MethodName := ⟨RX8, "restsAnew", "()Z"⟩
abbrev cX8_gainFactor : ByteArray := prog_1_method_43_code
def yX8_gainFactor : MethodName := ⟨RX8, "gainFactor", "(II)I"⟩
abbrev cX8_chanceOf : ByteArray := prog_1_method_44_code
def yX8_chanceOf : MethodName := ⟨RX8, "chanceOf", "(II)I"⟩
abbrev cX8_holds : ByteArray := prog_1_method_45_code
def yX8_holds : MethodName := ⟨RX8, "holds", "(I)Z"⟩
abbrev cX8_happens : ByteArray := prog_1_method_46_code
def yX8_happens : MethodName := ⟨RX8, "happens", "(II)Z"⟩
abbrev cX8_canBeAnswer : ByteArray := prog_1_method_47_code
def yX8_canBeAnswer : MethodName := ⟨RX8, "canBeAnswer", "(II)Z"⟩
abbrev cX8_isExit : ByteArray := prog_1_method_48_code
def yX8_isExit : MethodName := ⟨RX8, "isExit", "(II)Z"⟩
def RX9 : String := "HiddenExitsModel"
def TX9 : u_T := fun k => match k with
  | 0 => ("HiddenExitsModel", "thrown", "I", false)
  | 1 => ("HiddenExitsModel", "text", "[I", true)
  | 2 => ("HiddenExitsModel", "textSize", "I", false)
  | 3 => ("HiddenExitsModel", "place", "I", false)
  | 4 => ("HiddenExitsModel", "parts", "I", false)
  | 5 => ("HiddenExitsModel", "readPage", "[I", true)
  | 6 => ("HiddenExitsModel", "page", "[I", true)
  | 7 => ("HiddenExitsModel", "trial", "[I", true)
  | 8 => ("HiddenExitsModel", "work", "[I", true)
  | 9 => ("HiddenExitsModel", "book", "[I", true)
  | 10 => ("HiddenExitsModel", "doings", "I", false)
  | 11 => ("HiddenExitsModel", "kept", "[I", true)
  | 12 => ("HiddenExitsModel", "isKept", "[Z", true)
  | 13 => ("HiddenExitsModel", "seen", "I", false)
  | 14 => ("HiddenExitsModel", "seenRouter", "[I", true)
  | 15 => ("HiddenExitsModel", "seenExit", "[I", true)
  | 16 => ("HiddenExitsModel", "seenIs", "[I", true)
  | 17 => ("HiddenExitsModel", "seed", "J", false)
  | 18 => ("HiddenExitsModel", "cost", "[I", true)
  | 19 => ("HiddenExitsModel", "from", "[I", true)
  | 20 => ("HiddenExitsModel", "marks", "[I", true)
  | 21 => ("HiddenExitsModel", "taken", "[I", true)
  | 22 => ("HiddenExitsModel", "next", "[I", true)
  | 23 => ("HiddenExitsModel", "states", "[I", true)
  | 24 => ("HiddenExitsModel", "runEnd", "I", false)
  | 25 => ("HiddenExitsModel", "runFirst", "I", false)
  | 26 => ("HiddenExitsModel", "runTurn", "I", false)
  | 27 => ("HiddenExitsModel", "rests", "[I", true)
  | 28 => ("HiddenExitsModel", "worth", "[I", true)
  | 29 => ("HiddenExitsModel", "readI", "I", false)
  | 30 => ("HiddenExitsModel", "readJ", "I", false)
  | _ => ("HiddenExitsModel", "leftOver", "I", false)
def tyX9 : Nat → FieldType := fun k => match k with
  | 0 => .int
  | 1 => .array .int
  | 2 => .int
  | 3 => .int
  | 4 => .int
  | 5 => .array .int
  | 6 => .array .int
  | 7 => .array .int
  | 8 => .array .int
  | 9 => .array .int
  | 10 => .int
  | 11 => .array .int
  | 12 => .array .boolean
  | 13 => .int
  | 14 => .array .int
  | 15 => .array .int
  | 16 => .array .int
  | 17 => .long
  | 18 => .array .int
  | 19 => .array .int
  | 20 => .array .int
  | 21 => .array .int
  | 22 => .array .int
  | 23 => .array .int
  | 24 => .int
  | 25 => .int
  | 26 => .int
  | 27 => .array .int
  | 28 => .array .int
  | 29 => .int
  | 30 => .int
  | _ => .int
abbrev wsX90 : List Cond := u_ws RX9 TX9 32
theorem nmX9 : ∀ a, a < 32 → ∀ b, b < 32 → a ≠ b → (TX9 a).2.1 ≠ (TX9 b).2.1 := by decide +kernel
theorem tyX9_ok : ∀ k, k < 32 → parseFieldDescriptor (TX9 k).2.2.1 = some (tyX9 k) := by decide +kernel
abbrev cX9_init : ByteArray := prog_11_method_1_code
def yX9_init : MethodName := ⟨RX9, "<init>", "()V"⟩
abbrev cX9_in : ByteArray := prog_11_method_3_code
def yX9_in : MethodName := ⟨RX9, "in", "(JJJ)Z"⟩
abbrev cX9_has : ByteArray := prog_11_method_4_code
def yX9_has : MethodName := ⟨RX9, "has", "(II)Z"⟩
abbrev cX9_ones : ByteArray := prog_11_method_5_code
def yX9_ones : MethodName := ⟨RX9, "ones", "(I)I"⟩
abbrev cX9_power : ByteArray := prog_11_method_6_code
def yX9_power : MethodName := ⟨RX9, "power", "(II)I"⟩
abbrev cX9_clearChoices : ByteArray := prog_11_method_7_code
def yX9_clearChoices : MethodName := ⟨RX9, "clearChoices", "([I)V"⟩
abbrev cX9_lay : ByteArray := prog_11_method_8_code
def yX9_lay : MethodName := ⟨RX9, "lay", "([I[I)V"⟩
abbrev cX9_noRouter : ByteArray := prog_11_method_9_code
def yX9_noRouter : MethodName := ⟨RX9, "noRouter", "(I)Z"⟩
abbrev cX9_noExit : ByteArray := prog_11_method_10_code
def yX9_noExit : MethodName := ⟨RX9, "noExit", "(I)Z"⟩
abbrev cX9_pair : ByteArray := prog_11_method_11_code
def yX9_pair : MethodName := ⟨RX9, "pair", "(III)I"⟩
abbrev cX9_write : ByteArray := prog_11_method_12_code
def yX9_write : MethodName := ⟨RX9, "write", "(I)I"⟩
abbrev cX9_wipe : ByteArray := prog_11_method_13_code
def yX9_wipe : MethodName := ⟨RX9, "wipe", "()I"⟩
abbrev cX9_figure : ByteArray := prog_11_method_14_code
def yX9_figure : MethodName := ⟨RX9, "figure", "(II)I"⟩
abbrev cX9_apart : ByteArray := prog_11_method_15_code
def yX9_apart : MethodName := ⟨RX9, "apart", "(II)I"⟩
abbrev cX9_isAnyApart : ByteArray := prog_11_method_16_code
def yX9_isAnyApart : MethodName := ⟨RX9, "isAnyApart", "(I)Z"⟩
abbrev cX9_readTwo : ByteArray := prog_11_method_17_code
def yX9_readTwo : MethodName := ⟨RX9, "readTwo", "(I)Z"⟩
abbrev cX9_readLink : ByteArray := prog_11_method_18_code
def yX9_readLink : MethodName := ⟨RX9, "readLink", "()Z"⟩
abbrev cX9_readSession : ByteArray := prog_11_method_19_code
def yX9_readSession : MethodName := ⟨RX9, "readSession", "(Z)Z"⟩
abbrev cX9_readExit : ByteArray := prog_11_method_20_code
def yX9_readExit : MethodName := ⟨RX9, "readExit", "()Z"⟩
abbrev cX9_readPart : ByteArray := prog_11_method_21_code
def yX9_readPart : MethodName := ⟨RX9, "readPart", "()Z"⟩
abbrev cX9_readDomain : ByteArray := prog_11_method_22_code
def yX9_readDomain : MethodName := ⟨RX9, "readDomain", "()I"⟩
abbrev cX9_fault : ByteArray := prog_11_method_23_code
def yX9_fault : MethodName := ⟨RX9, "fault", "()I"⟩
abbrev cX9_domain : ByteArray := prog_11_method_24_code
def yX9_domain : MethodName := ⟨RX9, "domain", "()I"⟩
abbrev cX9_layCosts : ByteArray := prog_11_method_25_code
def yX9_layCosts : MethodName := ⟨RX9, "layCosts", "([I)V"⟩
abbrev cX9_link : ByteArray := prog_11_method_26_code
def yX9_link : MethodName := ⟨RX9, "link", "(III)I"⟩
abbrev cX9_session : ByteArray := prog_11_method_27_code
def yX9_session : MethodName := ⟨RX9, "session", "(II)I"⟩
abbrev cX9_exitOf : ByteArray := prog_11_method_28_code
def yX9_exitOf : MethodName := ⟨RX9, "exitOf", "([III)I"⟩
abbrev cX9_exit : ByteArray := prog_11_method_29_code
def yX9_exit : MethodName := ⟨RX9, "exit", "(II)I"⟩
abbrev cX9_at : ByteArray := prog_11_method_30_code
def yX9_at : MethodName := ⟨RX9, "at", "(II)I"⟩
abbrev cX9_isTold : ByteArray := prog_11_method_31_code
def yX9_isTold : MethodName := ⟨RX9, "isTold", "([IIII)Z"⟩
abbrev cX9_hear : ByteArray := prog_11_method_32_code
def yX9_hear : MethodName := ⟨RX9, "hear", "(III)V"⟩
abbrev cX9_gather : ByteArray := prog_11_method_33_code
def yX9_gather : MethodName := ⟨RX9, "gather", "([II)V"⟩
abbrev cX9_weighed : ByteArray := prog_11_method_34_code
def yX9_weighed : MethodName := ⟨RX9, "weighed", "([IIII)I"⟩
abbrev cX9_leave : ByteArray := prog_11_method_35_code
def yX9_leave : MethodName := ⟨RX9, "leave", "([IIII)I"⟩
abbrev cX9_leaveByNeighbours : ByteArray := prog_11_method_36_code
def yX9_leaveByNeighbours : MethodName := ⟨RX9, "leaveByNeighbours", "([II)I"⟩
abbrev cX9_best : ByteArray := prog_11_method_37_code
def yX9_best : MethodName := ⟨RX9, "best", "([III)I"⟩
abbrev cX9_gathered : ByteArray := prog_11_method_38_code
def yX9_gathered : MethodName := ⟨RX9, "gathered", "()I"⟩
abbrev cX9_putTaken : ByteArray := prog_11_method_39_code
def yX9_putTaken : MethodName := ⟨RX9, "putTaken", "(II)V"⟩
abbrev cX9_take : ByteArray := prog_11_method_40_code
def yX9_take : MethodName := ⟨RX9, "take", "([II)V"⟩
abbrev cX9_putChoices : ByteArray := prog_11_method_41_code
def yX9_putChoices : MethodName := ⟨RX9, "putChoices", "([II)Z"⟩
abbrev cX9_stepOn : ByteArray := prog_11_method_42_code
def yX9_stepOn : MethodName := ⟨RX9, "stepOn", "([II)Z"⟩
abbrev cX9_roundOn : ByteArray := prog_11_method_43_code
def yX9_roundOn : MethodName := ⟨RX9, "roundOn", "([I)I"⟩
abbrev cX9_note : ByteArray := prog_11_method_44_code
def yX9_note : MethodName := ⟨RX9, "note", "()V"⟩
abbrev cX9_step : ByteArray := prog_11_method_45_code
def yX9_step : MethodName := ⟨RX9, "step", "(I)I"⟩
abbrev cX9_round : ByteArray := prog_11_method_46_code
def yX9_round : MethodName := ⟨RX9, "round", "()I"⟩
abbrev cX9_setLink : ByteArray := prog_11_method_47_code
def yX9_setLink : MethodName := ⟨RX9, "setLink", "(III)I"⟩
abbrev cX9_turn : ByteArray := prog_11_method_48_code
def yX9_turn : MethodName := ⟨RX9, "turn", "(I)I"⟩
abbrev cX9_weigh : ByteArray := prog_11_method_49_code
def yX9_weigh : MethodName := ⟨RX9, "weigh", "(II)I"⟩
abbrev cX9_addOn : ByteArray := prog_11_method_50_code
def yX9_addOn : MethodName := ⟨RX9, "addOn", "([II)V"⟩
abbrev cX9_add : ByteArray := prog_11_method_51_code
def yX9_add : MethodName := ⟨RX9, "add", "(I)I"⟩
abbrev cX9_setMode : ByteArray := prog_11_method_52_code
def yX9_setMode : MethodName := ⟨RX9, "setMode", "(I)I"⟩
abbrev cX9_undo : ByteArray := prog_11_method_53_code
def yX9_undo : MethodName := ⟨RX9, "undo", "()I"⟩
abbrev cX9_choice : ByteArray := prog_11_method_54_code
def yX9_choice : MethodName := ⟨RX9, "choice", "(III)I"⟩
abbrev cX9_heard : ByteArray := prog_11_method_55_code
def yX9_heard : MethodName := ⟨RX9, "heard", "(I)I"⟩
abbrev cX9_tells : ByteArray := prog_11_method_56_code
def yX9_tells : MethodName := ⟨RX9, "tells", "(II)I"⟩
abbrev cX9_mesh : ByteArray := prog_11_method_57_code
def yX9_mesh : MethodName := ⟨RX9, "mesh", "(I)I"⟩
abbrev cX9_leaveFrom : ByteArray := prog_11_method_58_code
def yX9_leaveFrom : MethodName := ⟨RX9, "leaveFrom", "([II)I"⟩
abbrev cX9_leaves : ByteArray := prog_11_method_59_code
def yX9_leaves : MethodName := ⟨RX9, "leaves", "(II)I"⟩
abbrev cX9_noteState : ByteArray := prog_11_method_60_code
def yX9_noteState : MethodName := ⟨RX9, "noteState", "([II)V"⟩
abbrev cX9_areSame : ByteArray := prog_11_method_61_code
def yX9_areSame : MethodName := ⟨RX9, "areSame", "(II)Z"⟩
abbrev cX9_runOn : ByteArray := prog_11_method_62_code
def yX9_runOn : MethodName := ⟨RX9, "runOn", "([I)V"⟩
abbrev cX9_told : ByteArray := prog_11_method_63_code
def yX9_told : MethodName := ⟨RX9, "told", "([I)I"⟩
abbrev cX9_rests : ByteArray := prog_11_method_64_code
def yX9_rests : MethodName := ⟨RX9, "rests", "(II)Z"⟩
abbrev cX9_run : ByteArray := prog_11_method_65_code
def yX9_run : MethodName := ⟨RX9, "run", "(II)I"⟩
abbrev cX9_restsBy : ByteArray := prog_11_method_66_code
def yX9_restsBy : MethodName := ⟨RX9, "restsBy", "(I)Z"⟩
abbrev cX9_isOrder : ByteArray := prog_11_method_67_code
def yX9_isOrder : MethodName := ⟨RX9, "isOrder", "(I)Z"⟩
abbrev cX9_orders : ByteArray := prog_11_method_68_code
def yX9_orders : MethodName := ⟨RX9, "orders", "(I)I"⟩
abbrev cX9_healed : ByteArray := prog_11_method_69_code
def yX9_healed : MethodName := ⟨RX9, "healed", "(I)I"⟩
abbrev cX9_longPower : ByteArray := prog_11_method_70_code
def yX9_longPower : MethodName := ⟨RX9, "longPower", "(JI)J"⟩
abbrev cX9_runsToRest : ByteArray := prog_11_method_71_code
def yX9_runsToRest : MethodName := ⟨RX9, "runsToRest", "()Z"⟩
abbrev cX9_does : ByteArray := prog_11_method_72_code
def yX9_does : MethodName := ⟨RX9, "does", "(I)Z"⟩
abbrev cX9_judge : ByteArray := prog_11_method_73_code
def yX9_judge : MethodName := ⟨RX9, "judge", "(IJ)I"⟩
abbrev cX9_see : ByteArray := prog_11_method_74_code
def yX9_see : MethodName := ⟨RX9, "see", "(III)I"⟩
abbrev cX9_unsee : ByteArray := prog_11_method_75_code
def yX9_unsee : MethodName := ⟨RX9, "unsee", "()I"⟩
abbrev cX9_agrees : ByteArray := prog_11_method_76_code
def yX9_agrees : MethodName := ⟨RX9, "agrees", "(I)Z"⟩
abbrev cX9_which : ByteArray := prog_11_method_77_code
def yX9_which : MethodName := ⟨RX9, "which", "()I"⟩
abbrev cX9_divisor : ByteArray := prog_11_method_78_code
def yX9_divisor : MethodName := ⟨RX9, "divisor", "(II)I"⟩
abbrev cX9_fraction : ByteArray := prog_11_method_79_code
def yX9_fraction : MethodName := ⟨RX9, "fraction", "(IIZ)I"⟩
abbrev cX9_factorial : ByteArray := prog_11_method_80_code
def yX9_factorial : MethodName := ⟨RX9, "factorial", "(I)I"⟩
abbrev cX9_unlikeBy : ByteArray := prog_11_method_81_code
def yX9_unlikeBy : MethodName := ⟨RX9, "unlikeBy", "(I)I"⟩
abbrev cX9_share : ByteArray := prog_11_method_82_code
def yX9_share : MethodName := ⟨RX9, "share", "(IZ)I"⟩
abbrev cX9_lost : ByteArray := prog_11_method_83_code
def yX9_lost : MethodName := ⟨RX9, "lost", "(IZ)I"⟩
abbrev cX9_seed : ByteArray := prog_11_method_84_code
def yX9_seed : MethodName := ⟨RX9, "seed", "(J)J"⟩
abbrev cX9_drawn : ByteArray := prog_11_method_85_code
def yX9_drawn : MethodName := ⟨RX9, "drawn", "(I)I"⟩
abbrev cX9_keep : ByteArray := prog_11_method_86_code
def yX9_keep : MethodName := ⟨RX9, "keep", "(I)I"⟩
abbrev cX9_again : ByteArray := prog_11_method_87_code
def yX9_again : MethodName := ⟨RX9, "again", "(I)I"⟩
abbrev cX9_joined : ByteArray := prog_11_method_88_code
def yX9_joined : MethodName := ⟨RX9, "joined", "(I)I"⟩
abbrev cX9_withFirst : ByteArray := prog_11_method_89_code
def yX9_withFirst : MethodName := ⟨RX9, "withFirst", "()I"⟩
abbrev cX9_count : ByteArray := prog_11_method_90_code
def yX9_count : MethodName := ⟨RX9, "count", "(I)I"⟩
def RL : String := "HiddenExitsLaw"
abbrev cL_law : ByteArray := code
def yL_law : MethodName := ⟨RL, "law", "([I)Z"⟩
abbrev vwCl : List vw_C := [(RX0, TX0, 4), (RX1, TX1, 6), (RX2, TX2, 3), (RX3, TX3, 8), (RX4, TX4, 12), (RX5, TX5, 4), (RX6, TX6, 9), (RX7, TX7, 6), (RX8, TX8, 11), (RX9, TX9, 32)]
/-- who calls: by number -/
def zn_own : Nat → String
  | 0 => "HiddenExits$Course"
  | 1 => "HiddenExits$Passes"
  | 2 => "HiddenExits$Past"
  | 3 => "HiddenExits$Plan"
  | 4 => "HiddenExits$Script"
  | 5 => "HiddenExits$Sightings"
  | 6 => "HiddenExits$Simulator"
  | 7 => "HiddenExits$State"
  | 8 => "HiddenExits"
  | 9 => "HiddenExitsModel"
  | 10 => "HiddenExitsLaw"
  | 11 => "java/lang/Integer"
  | 12 => "java/lang/Math"
  | _ => "java/util/Arrays"
def zn_nf : Nat → Nat
  | 0 => 4
  | 1 => 6
  | 2 => 3
  | 3 => 8
  | 4 => 12
  | 5 => 4
  | 6 => 9
  | 7 => 6
  | 8 => 11
  | _ => 32
def zn_ftl : List (List Nat) := [[0, 0, 0, 2], [0, 0, 0, 2, 2, 2], [0, 0, 2], [0, 0, 2, 2, 2, 2, 2, 2], [2, 0, 0, 0, 0, 2, 2, 2, 2, 2, 2, 0], [0, 2, 2, 2], [2, 2, 2, 0, 2, 2, 2, 2, 2], [2, 2, 2, 0, 0, 0], [2, 2, 2, 2, 2, 2, 2, 2, 2, 2, 1], [0, 2, 0, 0, 0, 2, 2, 2, 2, 2, 0, 2, 2, 0, 2, 2, 2, 1, 2, 2, 2, 2, 2, 2, 0, 0, 0, 2, 2, 0, 0, 0]]
def zn_ft (c k : Nat) : Nat := (zn_ftl.getD c []).getD k 0
def zn_ty : Nat → Nat → FieldType
  | 0 => tyX0
  | 1 => tyX1
  | 2 => tyX2
  | 3 => tyX3
  | 4 => tyX4
  | 5 => tyX5
  | 6 => tyX6
  | 7 => tyX7
  | 8 => tyX8
  | _ => tyX9
def zn_T : Nat → u_T
  | 0 => TX0
  | 1 => TX1
  | 2 => TX2
  | 3 => TX3
  | 4 => TX4
  | 5 => TX5
  | 6 => TX6
  | 7 => TX7
  | 8 => TX8
  | _ => TX9
end
section
theorem zw_c0 : ∀ w ∈ u_ws RX0 TX0 4, w ∈ zgw := by
  intro w hw
  obtain ⟨k, hk, rfl⟩ := List.mem_map.mp hw
  have hk := List.mem_range.mp hk
  have key : ∀ k, k < 4 → u_lay RX0 TX0 k ∈ tables_1 ∧ goodWord (u_lay RX0 TX0 k) = true := by
    intro k hk
    match k, hk with
    | 0, _ => exact ⟨List.mem_of_getElem? (i := 236) (by decide +kernel), rfl⟩
    | 1, _ => exact ⟨List.mem_of_getElem? (i := 238) (by decide +kernel), rfl⟩
    | 2, _ => exact ⟨List.mem_of_getElem? (i := 240) (by decide +kernel), rfl⟩
    | 3, _ => exact ⟨List.mem_of_getElem? (i := 242) (by decide +kernel), rfl⟩
    | k + 4, h => exact absurd h (by omega)
  exact zgw_of (key k hk).1 (key k hk).2
theorem zw_c1 : ∀ w ∈ u_ws RX1 TX1 6, w ∈ zgw := by
  intro w hw
  obtain ⟨k, hk, rfl⟩ := List.mem_map.mp hw
  have hk := List.mem_range.mp hk
  have key : ∀ k, k < 6 → u_lay RX1 TX1 k ∈ tables_1 ∧ goodWord (u_lay RX1 TX1 k) = true := by
    intro k hk
    match k, hk with
    | 0, _ => exact ⟨List.mem_of_getElem? (i := 260) (by decide +kernel), rfl⟩
    | 1, _ => exact ⟨List.mem_of_getElem? (i := 262) (by decide +kernel), rfl⟩
    | 2, _ => exact ⟨List.mem_of_getElem? (i := 264) (by decide +kernel), rfl⟩
    | 3, _ => exact ⟨List.mem_of_getElem? (i := 266) (by decide +kernel), rfl⟩
    | 4, _ => exact ⟨List.mem_of_getElem? (i := 268) (by decide +kernel), rfl⟩
    | 5, _ => exact ⟨List.mem_of_getElem? (i := 270) (by decide +kernel), rfl⟩
    | k + 6, h => exact absurd h (by omega)
  exact zgw_of (key k hk).1 (key k hk).2
theorem zw_c2 : ∀ w ∈ u_ws RX2 TX2 3, w ∈ zgw := by
  intro w hw
  obtain ⟨k, hk, rfl⟩ := List.mem_map.mp hw
  have hk := List.mem_range.mp hk
  have key : ∀ k, k < 3 → u_lay RX2 TX2 k ∈ tables_1 ∧ goodWord (u_lay RX2 TX2 k) = true := by
    intro k hk
    match k, hk with
    | 0, _ => exact ⟨List.mem_of_getElem? (i := 286) (by decide +kernel), rfl⟩
    | 1, _ => exact ⟨List.mem_of_getElem? (i := 288) (by decide +kernel), rfl⟩
    | 2, _ => exact ⟨List.mem_of_getElem? (i := 290) (by decide +kernel), rfl⟩
    | k + 3, h => exact absurd h (by omega)
  exact zgw_of (key k hk).1 (key k hk).2
theorem zw_c3 : ∀ w ∈ u_ws RX3 TX3 8, w ∈ zgw := by
  intro w hw
  obtain ⟨k, hk, rfl⟩ := List.mem_map.mp hw
  have hk := List.mem_range.mp hk
  have key : ∀ k, k < 8 → u_lay RX3 TX3 k ∈ tables_1 ∧ goodWord (u_lay RX3 TX3 k) = true := by
    intro k hk
    match k, hk with
    | 0, _ => exact ⟨List.mem_of_getElem? (i := 105) (by decide +kernel), rfl⟩
    | 1, _ => exact ⟨List.mem_of_getElem? (i := 107) (by decide +kernel), rfl⟩
    | 2, _ => exact ⟨List.mem_of_getElem? (i := 109) (by decide +kernel), rfl⟩
    | 3, _ => exact ⟨List.mem_of_getElem? (i := 111) (by decide +kernel), rfl⟩
    | 4, _ => exact ⟨List.mem_of_getElem? (i := 113) (by decide +kernel), rfl⟩
    | 5, _ => exact ⟨List.mem_of_getElem? (i := 115) (by decide +kernel), rfl⟩
    | 6, _ => exact ⟨List.mem_of_getElem? (i := 117) (by decide +kernel), rfl⟩
    | 7, _ => exact ⟨List.mem_of_getElem? (i := 119) (by decide +kernel), rfl⟩
    | k + 8, h => exact absurd h (by omega)
  exact zgw_of (key k hk).1 (key k hk).2
theorem zw_c4 : ∀ w ∈ u_ws RX4 TX4 12, w ∈ zgw := by
  intro w hw
  obtain ⟨k, hk, rfl⟩ := List.mem_map.mp hw
  have hk := List.mem_range.mp hk
  have key : ∀ k, k < 12 → u_lay RX4 TX4 k ∈ tables_1 ∧ goodWord (u_lay RX4 TX4 k) = true := by
    intro k hk
    match k, hk with
    | 0, _ => exact ⟨List.mem_of_getElem? (i := 53) (by decide +kernel), rfl⟩
    | 1, _ => exact ⟨List.mem_of_getElem? (i := 55) (by decide +kernel), rfl⟩
    | 2, _ => exact ⟨List.mem_of_getElem? (i := 57) (by decide +kernel), rfl⟩
    | 3, _ => exact ⟨List.mem_of_getElem? (i := 59) (by decide +kernel), rfl⟩
    | 4, _ => exact ⟨List.mem_of_getElem? (i := 61) (by decide +kernel), rfl⟩
    | 5, _ => exact ⟨List.mem_of_getElem? (i := 63) (by decide +kernel), rfl⟩
    | 6, _ => exact ⟨List.mem_of_getElem? (i := 65) (by decide +kernel), rfl⟩
    | 7, _ => exact ⟨List.mem_of_getElem? (i := 67) (by decide +kernel), rfl⟩
    | 8, _ => exact ⟨List.mem_of_getElem? (i := 69) (by decide +kernel), rfl⟩
    | 9, _ => exact ⟨List.mem_of_getElem? (i := 71) (by decide +kernel), rfl⟩
    | 10, _ => exact ⟨List.mem_of_getElem? (i := 73) (by decide +kernel), rfl⟩
    | 11, _ => exact ⟨List.mem_of_getElem? (i := 75) (by decide +kernel), rfl⟩
    | k + 12, h => exact absurd h (by omega)
  exact zgw_of (key k hk).1 (key k hk).2
theorem zw_c5 : ∀ w ∈ u_ws RX5 TX5 4, w ∈ zgw := by
  intro w hw
  obtain ⟨k, hk, rfl⟩ := List.mem_map.mp hw
  have hk := List.mem_range.mp hk
  have key : ∀ k, k < 4 → u_lay RX5 TX5 k ∈ tables_1 ∧ goodWord (u_lay RX5 TX5 k) = true := by
    intro k hk
    match k, hk with
    | 0, _ => exact ⟨List.mem_of_getElem? (i := 306) (by decide +kernel), rfl⟩
    | 1, _ => exact ⟨List.mem_of_getElem? (i := 308) (by decide +kernel), rfl⟩
    | 2, _ => exact ⟨List.mem_of_getElem? (i := 310) (by decide +kernel), rfl⟩
    | 3, _ => exact ⟨List.mem_of_getElem? (i := 312) (by decide +kernel), rfl⟩
    | k + 4, h => exact absurd h (by omega)
  exact zgw_of (key k hk).1 (key k hk).2
theorem zw_c6 : ∀ w ∈ u_ws RX6 TX6 9, w ∈ zgw := by
  intro w hw
  obtain ⟨k, hk, rfl⟩ := List.mem_map.mp hw
  have hk := List.mem_range.mp hk
  have key : ∀ k, k < 9 → u_lay RX6 TX6 k ∈ tables_1 ∧ goodWord (u_lay RX6 TX6 k) = true := by
    intro k hk
    match k, hk with
    | 0, _ => exact ⟨List.mem_of_getElem? (i := 204) (by decide +kernel), rfl⟩
    | 1, _ => exact ⟨List.mem_of_getElem? (i := 206) (by decide +kernel), rfl⟩
    | 2, _ => exact ⟨List.mem_of_getElem? (i := 208) (by decide +kernel), rfl⟩
    | 3, _ => exact ⟨List.mem_of_getElem? (i := 210) (by decide +kernel), rfl⟩
    | 4, _ => exact ⟨List.mem_of_getElem? (i := 212) (by decide +kernel), rfl⟩
    | 5, _ => exact ⟨List.mem_of_getElem? (i := 214) (by decide +kernel), rfl⟩
    | 6, _ => exact ⟨List.mem_of_getElem? (i := 216) (by decide +kernel), rfl⟩
    | 7, _ => exact ⟨List.mem_of_getElem? (i := 218) (by decide +kernel), rfl⟩
    | 8, _ => exact ⟨List.mem_of_getElem? (i := 220) (by decide +kernel), rfl⟩
    | k + 9, h => exact absurd h (by omega)
  exact zgw_of (key k hk).1 (key k hk).2
theorem zw_c7 : ∀ w ∈ u_ws RX7 TX7 6, w ∈ zgw := by
  intro w hw
  obtain ⟨k, hk, rfl⟩ := List.mem_map.mp hw
  have hk := List.mem_range.mp hk
  have key : ∀ k, k < 6 → u_lay RX7 TX7 k ∈ tables_1 ∧ goodWord (u_lay RX7 TX7 k) = true := by
    intro k hk
    match k, hk with
    | 0, _ => exact ⟨List.mem_of_getElem? (i := 152) (by decide +kernel), rfl⟩
    | 1, _ => exact ⟨List.mem_of_getElem? (i := 154) (by decide +kernel), rfl⟩
    | 2, _ => exact ⟨List.mem_of_getElem? (i := 156) (by decide +kernel), rfl⟩
    | 3, _ => exact ⟨List.mem_of_getElem? (i := 158) (by decide +kernel), rfl⟩
    | 4, _ => exact ⟨List.mem_of_getElem? (i := 160) (by decide +kernel), rfl⟩
    | 5, _ => exact ⟨List.mem_of_getElem? (i := 162) (by decide +kernel), rfl⟩
    | k + 6, h => exact absurd h (by omega)
  exact zgw_of (key k hk).1 (key k hk).2
theorem zw_c8 : ∀ w ∈ u_ws RX8 TX8 11, w ∈ zgw := by
  intro w hw
  obtain ⟨k, hk, rfl⟩ := List.mem_map.mp hw
  have hk := List.mem_range.mp hk
  have key : ∀ k, k < 11 → u_lay RX8 TX8 k ∈ tables_1 ∧ goodWord (u_lay RX8 TX8 k) = true := by
    intro k hk
    match k, hk with
    | 0, _ => exact ⟨List.mem_of_getElem? (i := 327) (by decide +kernel), rfl⟩
    | 1, _ => exact ⟨List.mem_of_getElem? (i := 329) (by decide +kernel), rfl⟩
    | 2, _ => exact ⟨List.mem_of_getElem? (i := 331) (by decide +kernel), rfl⟩
    | 3, _ => exact ⟨List.mem_of_getElem? (i := 333) (by decide +kernel), rfl⟩
    | 4, _ => exact ⟨List.mem_of_getElem? (i := 335) (by decide +kernel), rfl⟩
    | 5, _ => exact ⟨List.mem_of_getElem? (i := 337) (by decide +kernel), rfl⟩
    | 6, _ => exact ⟨List.mem_of_getElem? (i := 339) (by decide +kernel), rfl⟩
    | 7, _ => exact ⟨List.mem_of_getElem? (i := 341) (by decide +kernel), rfl⟩
    | 8, _ => exact ⟨List.mem_of_getElem? (i := 343) (by decide +kernel), rfl⟩
    | 9, _ => exact ⟨List.mem_of_getElem? (i := 345) (by decide +kernel), rfl⟩
    | 10, _ => exact ⟨List.mem_of_getElem? (i := 347) (by decide +kernel), rfl⟩
    | k + 11, h => exact absurd h (by omega)
  exact zgw_of (key k hk).1 (key k hk).2
theorem zw_c9 : ∀ w ∈ u_ws RX9 TX9 32, w ∈ zgw := by
  intro w hw
  obtain ⟨k, hk, rfl⟩ := List.mem_map.mp hw
  have hk := List.mem_range.mp hk
  have key : ∀ k, k < 32 → u_lay RX9 TX9 k ∈ tables_1 ∧ goodWord (u_lay RX9 TX9 k) = true := by
    intro k hk
    match k, hk with
    | 0, _ => exact ⟨List.mem_of_getElem? (i := 884) (by decide +kernel), rfl⟩
    | 1, _ => exact ⟨List.mem_of_getElem? (i := 886) (by decide +kernel), rfl⟩
    | 2, _ => exact ⟨List.mem_of_getElem? (i := 888) (by decide +kernel), rfl⟩
    | 3, _ => exact ⟨List.mem_of_getElem? (i := 890) (by decide +kernel), rfl⟩
    | 4, _ => exact ⟨List.mem_of_getElem? (i := 892) (by decide +kernel), rfl⟩
    | 5, _ => exact ⟨List.mem_of_getElem? (i := 894) (by decide +kernel), rfl⟩
    | 6, _ => exact ⟨List.mem_of_getElem? (i := 896) (by decide +kernel), rfl⟩
    | 7, _ => exact ⟨List.mem_of_getElem? (i := 898) (by decide +kernel), rfl⟩
    | 8, _ => exact ⟨List.mem_of_getElem? (i := 900) (by decide +kernel), rfl⟩
    | 9, _ => exact ⟨List.mem_of_getElem? (i := 902) (by decide +kernel), rfl⟩
    | 10, _ => exact ⟨List.mem_of_getElem? (i := 904) (by decide +kernel), rfl⟩
    | 11, _ => exact ⟨List.mem_of_getElem? (i := 906) (by decide +kernel), rfl⟩
    | 12, _ => exact ⟨List.mem_of_getElem? (i := 908) (by decide +kernel), rfl⟩
    | 13, _ => exact ⟨List.mem_of_getElem? (i := 910) (by decide +kernel), rfl⟩
    | 14, _ => exact ⟨List.mem_of_getElem? (i := 912) (by decide +kernel), rfl⟩
    | 15, _ => exact ⟨List.mem_of_getElem? (i := 914) (by decide +kernel), rfl⟩
    | 16, _ => exact ⟨List.mem_of_getElem? (i := 916) (by decide +kernel), rfl⟩
    | 17, _ => exact ⟨List.mem_of_getElem? (i := 918) (by decide +kernel), rfl⟩
    | 18, _ => exact ⟨List.mem_of_getElem? (i := 920) (by decide +kernel), rfl⟩
    | 19, _ => exact ⟨List.mem_of_getElem? (i := 922) (by decide +kernel), rfl⟩
    | 20, _ => exact ⟨List.mem_of_getElem? (i := 924) (by decide +kernel), rfl⟩
    | 21, _ => exact ⟨List.mem_of_getElem? (i := 926) (by decide +kernel), rfl⟩
    | 22, _ => exact ⟨List.mem_of_getElem? (i := 928) (by decide +kernel), rfl⟩
    | 23, _ => exact ⟨List.mem_of_getElem? (i := 930) (by decide +kernel), rfl⟩
    | 24, _ => exact ⟨List.mem_of_getElem? (i := 932) (by decide +kernel), rfl⟩
    | 25, _ => exact ⟨List.mem_of_getElem? (i := 934) (by decide +kernel), rfl⟩
    | 26, _ => exact ⟨List.mem_of_getElem? (i := 936) (by decide +kernel), rfl⟩
    | 27, _ => exact ⟨List.mem_of_getElem? (i := 938) (by decide +kernel), rfl⟩
    | 28, _ => exact ⟨List.mem_of_getElem? (i := 940) (by decide +kernel), rfl⟩
    | 29, _ => exact ⟨List.mem_of_getElem? (i := 942) (by decide +kernel), rfl⟩
    | 30, _ => exact ⟨List.mem_of_getElem? (i := 944) (by decide +kernel), rfl⟩
    | 31, _ => exact ⟨List.mem_of_getElem? (i := 946) (by decide +kernel), rfl⟩
    | k + 32, h => exact absurd h (by omega)
  exact zgw_of (key k hk).1 (key k hk).2
end
section
/-! ===== what the machine's memory is in the heap ===== -/
theorem zn_cls {ci : Nat} (h : ci < 10) : vwCl[ci]? = some (zn_own ci, zn_T ci, zn_nf ci) := by
  match ci, h with
  | 0, _ => rfl
  | 1, _ => rfl
  | 2, _ => rfl
  | 3, _ => rfl
  | 4, _ => rfl
  | 5, _ => rfl
  | 6, _ => rfl
  | 7, _ => rfl
  | 8, _ => rfl
  | 9, _ => rfl
  | k + 10, h => exact absurd h (by omega)
theorem zn_words {ci : Nat} (h : ci < 10) : ∀ w ∈ u_ws (zn_own ci) (zn_T ci) (zn_nf ci), w ∈ zgw := by
  match ci, h with
  | 0, _ => exact zw_c0
  | 1, _ => exact zw_c1
  | 2, _ => exact zw_c2
  | 3, _ => exact zw_c3
  | 4, _ => exact zw_c4
  | 5, _ => exact zw_c5
  | 6, _ => exact zw_c6
  | 7, _ => exact zw_c7
  | 8, _ => exact zw_c8
  | 9, _ => exact zw_c9
  | k + 10, h => exact absurd h (by omega)
theorem zn_parse {ci : Nat} (h : ci < 10) : ∀ k, k < zn_nf ci → parseFieldDescriptor (zn_T ci k).2.2.1 = some (zn_ty ci k) := by
  match ci, h with
  | 0, _ => exact tyX0_ok
  | 1, _ => exact tyX1_ok
  | 2, _ => exact tyX2_ok
  | 3, _ => exact tyX3_ok
  | 4, _ => exact tyX4_ok
  | 5, _ => exact tyX5_ok
  | 6, _ => exact tyX6_ok
  | 7, _ => exact tyX7_ok
  | 8, _ => exact tyX8_ok
  | 9, _ => exact tyX9_ok
  | k + 10, h => exact absurd h (by omega)
theorem zn_diff {ci : Nat} (h : ci < 10) : ∀ a, a < zn_nf ci → ∀ b, b < zn_nf ci → a ≠ b → (zn_T ci a).2.1 ≠ (zn_T ci b).2.1 := by
  match ci, h with
  | 0, _ => exact nmX0
  | 1, _ => exact nmX1
  | 2, _ => exact nmX2
  | 3, _ => exact nmX3
  | 4, _ => exact nmX4
  | 5, _ => exact nmX5
  | 6, _ => exact nmX6
  | 7, _ => exact nmX7
  | 8, _ => exact nmX8
  | 9, _ => exact nmX9
  | k + 10, h => exact absurd h (by omega)
def zn_tyc : FieldType → Nat
  | .int => 0
  | .long => 1
  | .object _ => 2
  | .array _ => 2
  | _ => 9
theorem zn_tys : ∀ ci, ci < 10 → ∀ k, k < zn_nf ci → zn_tyc (zn_ty ci k) = zn_ft ci k := by decide +kernel
theorem zn_decl : ∀ ci, ci < 10 → ∀ k, k < zn_nf ci → (zn_T ci k).1 = zn_own ci := by decide +kernel
/-- addresses: cells from b on; what the script and two static rows are, by x -/
def zv_ad (b : Nat) (x : Nat → Nat) (q : Nat) : Nat := if q < 1000000 then b + q else x q
def zv_vl (b : Nat) (x : Nat → Nat) : Value → Value
  | .ref q => .ref (zv_ad b x q)
  | v => v
def zv_fv (b : Nat) (x : Nat → Nat) (S : zv_S) (D : zv_D) (q k t : Nat) : Value := bif Nat.beq t 0 then .int (D.1 q k) else bif Nat.beq t 1 then .long (D.2 q k) else va_rf ((S.2.2.2 q k).map (zv_ad b x))
def zv_fs (b : Nat) (x : Nat → Nat) (S : zv_S) (D : zv_D) (q ci : Nat) : List Value := (List.range (zn_nf ci)).map fun k => zv_fv b x S D q k (zn_ft ci k)
def zv_ce (b : Nat) (x : Nat → Nat) (cA : Nat → ClassId) (S : zv_S) (D : zv_D) (q : Nat) : va_E :=
  bif Nat.blt (S.2.2.1 q).1 10 then .inr ((S.2.2.1 q).1, zv_fs b x S D q (S.2.2.1 q).1)
  else bif Nat.beq (S.2.2.1 q).1 13 then .inl (cA 13, (S.2.2.1 q).2, .inr (.inr (.inr (.inr fun i => (S.2.2.2 q i).map (zv_ad b x)))))
  else .inl (cA (S.2.2.1 q).1, (S.2.2.1 q).2, .inl (D.1 q))
def zv_ws (b : Nat) (x : Nat → Nat) (cA : Nat → ClassId) (S : zv_S) (D : zv_D) : va_W := (List.range S.1).map fun q => (b + q, zv_ce b x cA S D q)
def zv_wf (S : zv_S) : Prop := S.1 ≤ 1000000 ∧ (∀ q, (S.2.2.1 q).1 < 14 → q < S.1) ∧ (∀ q, (S.2.2.1 q).1 = 21 → q = 1000000) ∧ (∀ q, (S.2.2.1 q).1 = 22 → q = 1000002) ∧ ∀ q, (S.2.2.1 q).1 = 24 → q = 1000001
theorem zv_ws_at (b : Nat) (x : Nat → Nat) (cA : Nat → ClassId) (S : zv_S) (D : zv_D) {q : Nat} (h : q < S.1) : (zv_ws b x cA S D)[q]? = some (b + q, zv_ce b x cA S D q) := by
  unfold zv_ws
  rw [List.getElem?_map, List.getElem?_range h]
  rfl
theorem zv_ws_len (b : Nat) (x : Nat → Nat) (cA : Nat → ClassId) (S : zv_S) (D : zv_D) : (zv_ws b x cA S D).length = S.1 := by
  simp [zv_ws]
theorem zv_ws_D (b : Nat) (x : Nat → Nat) (cA : Nat → ClassId) (S : zv_S) (D : zv_D) : va_D (fun q => b ≤ q) (zv_ws b x cA S D) := by
  have key : ∀ (i : Nat) (p : Nat × va_E), (zv_ws b x cA S D)[i]? = some p → p.1 = b + i := by
    intro i p h
    have hi : i < S.1 := by
      have := (List.getElem?_eq_some_iff.mp h).1
      rwa [zv_ws_len] at this
    rw [zv_ws_at b x cA S D hi] at h
    rw [← Option.some.inj h]
  refine ⟨fun i j p q hi hj e => ?_, fun k q h => ?_⟩
  · have h1 := key i p hi
    have h2 := key j q hj
    omega
  · have h1 := key k q h
    show b ≤ q.1
    omega
/-- one cell is written -/
theorem zv_ws_set (b : Nat) (x : Nat → Nat) (cA : Nat → ClassId) (S S' : zv_S) (D D' : zv_D) {q : Nat} {e : va_E} (hn : S'.1 = S.1) (hq : q < S.1) (he : zv_ce b x cA S' D' q = e) (ho : ∀ j, j ≠ q → zv_ce b x cA S' D' j = zv_ce b x cA S D j) : (zv_ws b x cA S D).set q (b + q, e) = zv_ws b x cA S' D' := by
  apply List.ext_getElem?
  intro j
  by_cases hj : j < S.1
  · by_cases hjq : j = q
    · subst hjq
      rw [List.getElem?_set_self (by rw [zv_ws_len]; exact hj), zv_ws_at b x cA S' D' (by rw [hn]; exact hj), he]
    · rw [List.getElem?_set_ne (fun h => hjq h.symm), zv_ws_at b x cA S D hj, zv_ws_at b x cA S' D' (by rw [hn]; exact hj), ho j hjq]
  · rw [List.getElem?_eq_none (by rw [List.length_set, zv_ws_len]; omega), List.getElem?_eq_none (by rw [zv_ws_len, hn]; omega)]
theorem zv_fs_at (b : Nat) (x : Nat → Nat) (S : zv_S) (D : zv_D) (q ci : Nat) {k : Nat} (h : k < zn_nf ci) : (zv_fs b x S D q ci)[k]? = some (zv_fv b x S D q k (zn_ft ci k)) := by
  unfold zv_fs
  rw [List.getElem?_map, List.getElem?_range h]
  rfl
theorem zv_fs_len (b : Nat) (x : Nat → Nat) (S : zv_S) (D : zv_D) (q ci : Nat) : (zv_fs b x S D q ci).length = zn_nf ci := by
  simp [zv_fs]
theorem zv_fs_set (b : Nat) (x : Nat → Nat) (S S' : zv_S) (D D' : zv_D) (q ci : Nat) {k : Nat} {v : Value} (hk : k < zn_nf ci) (hv : zv_fv b x S' D' q k (zn_ft ci k) = v) (ho : ∀ j, j ≠ k → zv_fv b x S' D' q j (zn_ft ci j) = zv_fv b x S D q j (zn_ft ci j)) : (zv_fs b x S D q ci).set k v = zv_fs b x S' D' q ci := by
  apply List.ext_getElem?
  intro j
  by_cases hj : j < zn_nf ci
  · by_cases hjk : j = k
    · subst hjk
      rw [List.getElem?_set_self (by rw [zv_fs_len]; exact hj), zv_fs_at b x S' D' q ci hj, hv]
    · rw [List.getElem?_set_ne (fun h => hjk h.symm), zv_fs_at b x S D q ci hj, zv_fs_at b x S' D' q ci hj, ho j hjk]
  · rw [List.getElem?_eq_none (by rw [List.length_set, zv_fs_len]; omega), List.getElem?_eq_none (by rw [zv_fs_len]; omega)]
theorem zv_ce_o (b : Nat) (x : Nat → Nat) (cA : Nat → ClassId) (S : zv_S) (D : zv_D) {q ci : Nat} (h : (S.2.2.1 q).1 = ci) (hc : ci < 10) : zv_ce b x cA S D q = .inr (ci, zv_fs b x S D q ci) := by
  unfold zv_ce
  rw [h, show Nat.blt ci 10 = true from by simp [hc]]
  rfl
theorem zv_ce_a (b : Nat) (x : Nat → Nat) (cA : Nat → ClassId) (S : zv_S) (D : zv_D) {q t : Nat} (h : (S.2.2.1 q).1 = t) (h1 : Nat.blt t 10 = false) (h2 : Nat.beq t 13 = false) : zv_ce b x cA S D q = .inl (cA t, (S.2.2.1 q).2, .inl (D.1 q)) := by
  unfold zv_ce
  rw [h, h1, h2]
  rfl
theorem zv_ce_q (b : Nat) (x : Nat → Nat) (cA : Nat → ClassId) (S : zv_S) (D : zv_D) {q : Nat} (h : (S.2.2.1 q).1 = 13) : zv_ce b x cA S D q = .inl (cA 13, (S.2.2.1 q).2, .inr (.inr (.inr (.inr fun i => (S.2.2.2 q i).map (zv_ad b x))))) := by
  unfold zv_ce
  rw [h]
  rfl
/-- a cell is as it was where its ints, longs, references and shape are -/
theorem zv_ce_congr (b : Nat) (x : Nat → Nat) (cA : Nat → ClassId) {S S' : zv_S} {D D' : zv_D} {q : Nat} (h1 : S'.2.2.1 q = S.2.2.1 q) (h2 : S'.2.2.2 q = S.2.2.2 q) (h3 : D'.1 q = D.1 q) (h4 : D'.2 q = D.2 q) : zv_ce b x cA S' D' q = zv_ce b x cA S D q := by
  unfold zv_ce zv_fs zv_fv
  rw [h1, h2, h3, h4]
def zv_ty (cA : Nat → ClassId) : List (ClassId × FieldType) := [(cA 10, .char), (cA 11, .int), (cA 12, .boolean), (cA 13, .object "HiddenExits$State")]
end
section
/-! ===== the locals ===== -/
/-- a value that a place of the list really says -/
def zv_ok (lv : zv_L) (i : Nat) (v : Value) : Prop := zv_at lv i = some v ∧ v ≠ .null ∧ (v.category = 2 → zv_at lv (i + 1) = some .null)
def zv_lr (b : Nat) (x : Nat → Nat) (ls : Array Slot) (nL : Nat) (lv : zv_L) : Prop := ls.size = nL ∧ lv_wf ls ∧ ∀ i v, zv_ok lv i v → ls[i]? = some (.val (zv_vl b x v))
def zv_pr (b : Nat) (x : Nat → Nat) (lv : zv_L) : List (Nat × Value) := (List.range lv.length).filterMap fun i => match zv_at lv i with
  | none => none
  | some v => bif !(decide (v = .null)) && (!(decide (v.category = 2)) || decide (zv_at lv (i + 1) = some .null)) then some (i, zv_vl b x v) else none
theorem zv_at_lt : ∀ (lv : zv_L) (i : Nat) {v : Value}, zv_at lv i = some v → i < lv.length
  | [], _, _, h => by cases h
  | _ :: _, 0, _, _ => Nat.zero_lt_succ _
  | _ :: t, n + 1, _, h => Nat.succ_lt_succ (zv_at_lt t n h)
theorem zv_at_get : ∀ (lv : zv_L) (i : Nat), zv_at lv i = (lv[i]?).getD none
  | [], _ => by simp [zv_at]
  | o :: _, 0 => by simp [zv_at]
  | _ :: t, n + 1 => by simp [zv_at, zv_at_get t n]
theorem zv_at_set (lv : zv_L) (i j : Nat) (o : Option Value) : zv_at (lv.set i o) j = if i = j ∧ i < lv.length then o else zv_at lv j := by
  rw [zv_at_get, zv_at_get]
  by_cases h : i = j
  · subst h
    by_cases hl : i < lv.length
    · rw [if_pos ⟨rfl, hl⟩, List.getElem?_set_self hl]; rfl
    · rw [if_neg (fun q => hl q.2), List.set_eq_of_length_le (by omega)]
  · rw [if_neg (fun q => h q.1), List.getElem?_set_ne h]
theorem zv_pr_mem {b : Nat} {x : Nat → Nat} {lv : zv_L} {i : Nat} {v : Value} (h : zv_ok lv i v) : (i, zv_vl b x v) ∈ zv_pr b x lv := by
  obtain ⟨h1, h2, h3⟩ := h
  refine List.mem_filterMap.mpr ⟨i, List.mem_range.mpr (zv_at_lt lv i h1), ?_⟩
  rw [h1]
  dsimp only
  by_cases hc : v.category = 2
  · simp [h2, hc, h3 hc]
  · simp [h2, hc]
theorem zv_pr_of {b : Nat} {x : Nat → Nat} {lv : zv_L} {q : Nat × Value} (h : q ∈ zv_pr b x lv) : ∃ v, zv_ok lv q.1 v ∧ q.2 = zv_vl b x v := by
  obtain ⟨i, -, h⟩ := List.mem_filterMap.mp h
  cases hv : zv_at lv i with
  | none => rw [hv] at h; cases h
  | some v =>
    rw [hv] at h
    dsimp only at h
    by_cases hb : (!(decide (v = .null)) && (!(decide (v.category = 2)) || decide (zv_at lv (i + 1) = some .null))) = true
    · rw [hb] at h
      have e : (i, zv_vl b x v) = q := Option.some.inj h
      subst e
      simp only [Bool.and_eq_true, Bool.not_eq_true', decide_eq_false_iff_not, Bool.or_eq_true, decide_eq_true_eq] at hb
      exact ⟨v, ⟨hv, hb.1, fun hc => hb.2.resolve_left (fun z => z hc)⟩, rfl⟩
    · rw [Bool.not_eq_true] at hb
      rw [hb] at h
      cases h
theorem zv_lr_has {b : Nat} {x : Nat → Nat} {ls : Array Slot} {nL : Nat} {lv : zv_L} (h : zv_lr b x ls nL lv) : lv_has ls nL (zv_pr b x lv) := by
  refine ⟨h.1, h.2.1, fun q hq => ?_⟩
  obtain ⟨v, hv, e⟩ := zv_pr_of hq
  rw [e]
  exact h.2.2 q.1 v hv
theorem zv_vl_cat (b : Nat) (x : Nat → Nat) (v : Value) : (zv_vl b x v).category = v.category := by cases v <;> rfl
theorem zv_lr_s1 {b : Nat} {x : Nat → Nat} {ls' : Array Slot} {nL i : Nat} {lv : zv_L} {v : Value} (hc : v.category = 1) (hn : v ≠ .null)
    (h : lv_has ls' nL ((i, zv_vl b x v) :: (zv_pr b x lv).filter (fun q => !(q.1 == i) && !(q.1 + 1 == i && q.2.category == 2)))) : zv_lr b x ls' nL (zv_s1 lv i v) := by
  refine ⟨h.1, h.2.1, fun j w hw => ?_⟩
  obtain ⟨h1, h2, h3⟩ := hw
  unfold zv_s1 at h1 h3
  rw [zv_at_set] at h1
  by_cases hj : i = j ∧ i < lv.length
  · rw [if_pos hj] at h1
    obtain ⟨rfl, -⟩ := hj
    cases h1
    exact h.2.2 (i, zv_vl b x v) List.mem_cons_self
  · rw [if_neg hj] at h1
    have hji : ¬ j = i := by
      intro e
      subst e
      exact hj ⟨rfl, zv_at_lt lv j h1⟩
    have hw2 : w.category = 2 → zv_at lv (j + 1) = some .null ∧ ¬ j + 1 = i := by
      intro hc2
      have h4 := h3 hc2
      rw [zv_at_set] at h4
      by_cases hk : i = j + 1 ∧ i < lv.length
      · rw [if_pos hk] at h4
        exact absurd (Option.some.inj h4) hn
      · rw [if_neg hk] at h4
        exact ⟨h4, fun e => hk ⟨e.symm, e ▸ zv_at_lt lv (j + 1) h4⟩⟩
    refine h.2.2 (j, zv_vl b x w) (List.mem_cons_of_mem _ (List.mem_filter.mpr ⟨zv_pr_mem ⟨h1, h2, fun q => (hw2 q).1⟩, ?_⟩))
    dsimp only
    by_cases hc2 : w.category = 2
    · simp [hji, (hw2 hc2).2]
    · simp [hji, zv_vl_cat, hc2]
theorem zv_lr_s2 {b : Nat} {x : Nat → Nat} {ls' : Array Slot} {nL i : Nat} {lv : zv_L} {v : Int64}
    (h : lv_has ls' nL ((i, .long v) :: (zv_pr b x lv).filter (fun q => !(q.1 == i) && (!(q.1 == i + 1) && !(q.1 + 1 == i && q.2.category == 2))))) : zv_lr b x ls' nL (zv_s2 lv i (.long v)) := by
  refine ⟨h.1, h.2.1, fun j w hw => ?_⟩
  obtain ⟨h1, h2, h3⟩ := hw
  unfold zv_s2 at h1 h3
  rw [zv_at_set, zv_at_set, List.length_set] at h1
  by_cases hj1 : i + 1 = j ∧ i + 1 < lv.length
  · rw [if_pos hj1] at h1
    exact absurd (Option.some.inj h1).symm h2
  · rw [if_neg hj1] at h1
    by_cases hj : i = j ∧ i < lv.length
    · rw [if_pos hj] at h1
      obtain ⟨rfl, -⟩ := hj
      cases h1
      exact h.2.2 (i, .long v) List.mem_cons_self
    · rw [if_neg hj] at h1
      have hlt := zv_at_lt lv j h1
      have hji : ¬ j = i := fun e => hj ⟨e.symm, e ▸ hlt⟩
      have hji1 : ¬ j = i + 1 := fun e => hj1 ⟨e.symm, e ▸ hlt⟩
      have hw2 : w.category = 2 → zv_at lv (j + 1) = some .null ∧ ¬ j + 1 = i := by
        intro hc2
        have h4 := h3 hc2
        rw [zv_at_set, zv_at_set, List.length_set] at h4
        rw [if_neg (fun q => hji (by omega))] at h4
        by_cases hk : i = j + 1 ∧ i < lv.length
        · rw [if_pos hk] at h4
          cases h4
        · rw [if_neg hk] at h4
          exact ⟨h4, fun e => hk ⟨e.symm, e ▸ zv_at_lt lv (j + 1) h4⟩⟩
      refine h.2.2 (j, zv_vl b x w) (List.mem_cons_of_mem _ (List.mem_filter.mpr ⟨zv_pr_mem ⟨h1, h2, fun q => (hw2 q).1⟩, ?_⟩))
      dsimp only
      by_cases hc2 : w.category = 2
      · simp [hji, hji1, (hw2 hc2).2]
      · simp [hji, hji1, zv_vl_cat, hc2]
theorem zv_at_rep (n i : Nat) {v : Value} (h : zv_at (List.replicate n none) i = some v) : False := by
  rw [zv_at_get, List.getElem?_replicate] at h
  by_cases hi : i < n
  · rw [if_pos hi] at h; cases h
  · rw [if_neg hi] at h; cases h
theorem zv_en_mem (b : Nat) (x : Nat → Nat) : ∀ (As : List Value) (n k i : Nat) (v : Value), zv_at (zv_en As n) i = some v → v ≠ .null → (k + i, zv_vl b x v) ∈ lv_args k (As.map (zv_vl b x)) := by
  intro As
  induction As with
  | nil => intro n k i v h _; exact (zv_at_rep n i h).elim
  | cons a t ih =>
    have one : ∀ (w : Value), w.category = 1 → ∀ (n k i : Nat) (v : Value), zv_at (some w :: zv_en t (n - 1)) i = some v → v ≠ .null → (k + i, zv_vl b x v) ∈ lv_args k ((w :: t).map (zv_vl b x)) := by
      intro w hw n k i v h hn
      rw [List.map_cons]
      unfold lv_args
      cases i with
      | zero => cases h; exact List.mem_cons_self
      | succ j =>
        refine List.mem_cons_of_mem _ ?_
        rw [if_neg (by rw [zv_vl_cat]; omega)]
        have := ih (n - 1) (k + 1) j v h hn
        rwa [show k + 1 + j = k + (j + 1) by omega] at this
    have two : ∀ (w : Value), w.category = 2 → ∀ (n k i : Nat) (v : Value), zv_at (some w :: some .null :: zv_en t (n - 2)) i = some v → v ≠ .null → (k + i, zv_vl b x v) ∈ lv_args k ((w :: t).map (zv_vl b x)) := by
      intro w hw n k i v h hn
      rw [List.map_cons]
      unfold lv_args
      match i, h with
      | 0, h => cases h; exact List.mem_cons_self
      | 1, h => exact absurd (Option.some.inj h).symm hn
      | j + 2, h =>
        refine List.mem_cons_of_mem _ ?_
        rw [if_pos (by rw [zv_vl_cat]; omega)]
        have := ih (n - 2) (k + 2) j v h hn
        rwa [show k + 2 + j = k + (j + 2) by omega] at this
    cases a with
    | long y => exact two _ rfl
    | double y => exact two _ rfl
    | int y => exact one _ rfl
    | float y => exact one _ rfl
    | null => exact one _ rfl
    | ref y => exact one _ rfl
    | retAddr y => exact one _ rfl
theorem zv_sl_len : ∀ (vs : List Value), (lg_sl vs).length = zv_cs vs
  | [] => rfl
  | v :: t => by
    have e : lg_sl (v :: t) = (if v.category = 2 then [Slot.val v, .second] else [.val v]) ++ lg_sl t := by simp [lg_sl]
    rw [e, List.length_append, zv_sl_len t]
    show _ = v.category + zv_cs t
    rcases lv_cat v with h | h <;> simp [h]
theorem zv_cs_map (b : Nat) (x : Nat → Nat) : ∀ (vs : List Value), zv_cs (vs.map (zv_vl b x)) = zv_cs vs
  | [] => rfl
  | v :: t => by
    rw [List.map_cons]
    show (zv_vl b x v).category + zv_cs (t.map (zv_vl b x)) = v.category + zv_cs t
    rw [zv_vl_cat, zv_cs_map b x t]
theorem zv_cs_sum : ∀ (vs : List Value), (vs.map fun v => v.category).sum = zv_cs vs
  | [] => rfl
  | v :: t => by
    rw [List.map_cons, List.sum_cons, zv_cs_sum t]
    rfl
/-- a method's entry -/
theorem zv_lr_en {b : Nat} {x : Nat → Nat} {As : List Value} {n : Nat} (h : zv_cs As ≤ n) : zv_lr b x ((lg_sl (As.map (zv_vl b x)) ++ List.replicate (n - (lg_sl (As.map (zv_vl b x))).length) Slot.unset).toArray) n (zv_en As n) := by
  have he := lv_entry (As.map (zv_vl b x)) (n := n) (by rw [zv_sl_len, zv_cs_map]; exact h)
  refine ⟨he.1, he.2.1, fun i v hv => ?_⟩
  have := he.2.2 (0 + i, zv_vl b x v) (zv_en_mem b x As n 0 i v hv.1 hv.2.1)
  rwa [Nat.zero_add] at this
end
section
/-! ===== the small machine says what the machine does ===== -/
/-- a method, as the tables have it: name, code, locals, what it returns; arguments, kind of answer, whose it is, how it is called (0 virtual, 1 static, 2 constructor); its rows -/
abbrev zv_Mt : Type := MethodName × ByteArray × Nat × Option FieldType × Nat × Nat × Nat × Nat × List (Nat × List zv_E)
def zv_rm (d mc ms : Nat) : Room := { frames := d, cells := mc, slots := ms, locals := 40 * d }
/-- links to private methods of nest mates -/
def znw : List Cond := tables_1.filter fun w => match w with
  | .methodLinkNest _ _ _ _ => true
  | _ => false
/-- what stays: the tables, the script, two static rows -/
def zv_env (b : Nat) (x : Nat → Nat) (cA : Nat → ClassId) (dD : va_G) (xs : Nat × (Nat → Int32)) (U : State) : Prop :=
  va_K dD vwCl (zv_ty cA) U ∧ va_Z "HiddenExits" "UNITS" "[J" (.ref (x 1000001)) (fun q => b ≤ q) U U.heap ∧ va_T .long (x 1000001) 5 (fun j => .long (zv_un j)) (fun q => b ≤ q) U U.heap ∧
  va_Z "HiddenExits" "FACTORIALS" "[I" (.ref (x 1000002)) (fun q => b ≤ q) U U.heap ∧ va_T .int (x 1000002) 5 (fun j => .int (zv_fa j)) (fun q => b ≤ q) U U.heap ∧
  va_X (x 1000000) xs.1 xs.2 U U.heap ∧ x 1000000 < b ∧ (∀ w ∈ znw, va_Nw w U) ∧ va_AO "HiddenExits$State" U
def zv_H (b : Nat) (x : Nat → Nat) (cA : Nat → ClassId) (dD : va_G) (S : zv_S) (D : zv_D) (H : Heap) : Prop := zv_wf S ∧ va_P dD vwCl (zv_ws b x cA S D) H
/-- a contract's start and end -/
def zv_Pc (b : Nat) (x : Nat → Nat) (cA : Nat → ClassId) (dD : va_G) (xs : Nat × (Nat → Int32)) (As : List Value) (S : zv_S) (D : zv_D) : Array Value → State → Prop := va_Pc (As.map (zv_vl b x)) fun U => U.heap.size = b + S.1 ∧ zv_H b x cA dD S D U.heap ∧ zv_env b x cA dD xs U
def zv_Qc (b : Nat) (x : Nat → Nat) (cA : Nat → ClassId) (dD : va_G) (rk : Nat) (r : zv_R) (S : zv_S) (D : zv_D) : Array Value → State → Outcome → State → Prop := match rk with
  | 0 => va_Qv (fun _ : Unit => True) (fun _ t => zv_H b x cA dD S D t.heap) (fun q => b ≤ q)
  | 1 => va_Qi (fun v (_ : Unit) => v = r.1) (fun _ t => zv_H b x cA dD S D t.heap) (fun q => b ≤ q)
  | 2 => va_Ql (fun v (_ : Unit) => v = r.2.1) (fun _ t => zv_H b x cA dD S D t.heap) (fun q => b ≤ q)
  | _ => va_Qr (fun _ : Unit => True) (fun _ a t => a = zv_ad b x r.2.2 ∧ zv_H b x cA dD S D t.heap) (fun q => b ≤ q)
def zv_wo (mt : zv_Mt) : List Cond := .code mt.1 mt.2.1 mt.2.2.1 mt.2.2.2.1 :: zgw
/-- a method's contract, at arguments and a memory where the small machine answers -/
def zv_ct (l : Launch) (b : Nat) (x : Nat → Nat) (cA : Nat → ClassId) (dD : va_G) (xs : Nat × (Nat → Int32)) (d : Nat) (mt : zv_Mt) (As : List Value) (S : zv_S) (D : zv_D) (o : zv_O) : Prop :=
  S.1 ≤ o.2.1.1 ∧ S.2.1 ≤ o.2.1.2.1 ∧ Met l mt.1 (zv_wo mt) (zv_rm d (o.2.1.1 - S.1) (o.2.1.2.1 - S.2.1)) (zv_Pc b x cA dD xs As S D) (zv_Qc b x cA dD mt.2.2.2.2.2.1 o.1 o.2.1 o.2.2) (o.2.1.1 - S.1) (o.2.1.2.1 - S.2.1) (fun q => b ≤ q)
/-- what the tables say of a method -/
def zv_mok (mt : zv_Mt) : Prop := Cond.code mt.1 mt.2.1 mt.2.2.1 mt.2.2.2.1 ∈ zgw ∧ Cond.initialized mt.1.cls ∈ zgw ∧ plainName mt.1.cls = true ∧ (mt.1.cls ≠ "java/lang/invoke/MethodHandle" ∧ mt.1.cls ≠ "java/lang/invoke/VarHandle") ∧ mt.1.cls = zn_own mt.2.2.2.2.2.2.1 ∧ mt.2.2.1 ≤ 21 ∧
  (match mt.2.2.2.2.2.2.2.1 with
    | 0 => Cond.instanceMethod mt.1 ∈ zgw ∧ Cond.selects mt.1.cls mt.1 mt.1 ∈ zgw ∧ mt.2.2.2.2.2.2.1 < 10 ∧ (parseMethodDescriptor mt.1.desc).map (fun q => q.parameters.length + 1) = some mt.2.2.2.2.1
    | 1 => Cond.static mt.1 ∈ zgw ∧ (parseMethodDescriptor mt.1.desc).map (fun q => q.parameters.length) = some mt.2.2.2.2.1
    | _ => Cond.instanceMethod mt.1 ∈ zgw ∧ mt.1.name = "<init>" ∧ mt.2.2.2.1 = none ∧ mt.2.2.2.2.2.1 = 0 ∧ (parseMethodDescriptor mt.1.desc).map (fun q => q.parameters.length + 1) = some mt.2.2.2.2.1) ∧
  (match mt.2.2.2.2.2.1 with
    | 0 => mt.2.2.2.1 = none
    | 1 => mt.2.2.2.1 = some .int ∨ mt.2.2.2.1 = some .boolean
    | 2 => mt.2.2.2.1 = some .long
    | _ => ∃ C, mt.2.2.2.1 = some (.object C))
end
section
/-! ===== a row for each instruction ===== -/
def zv_C (p : Program) (R : Room) (s : State) (m : MethodId) (args : Array Value) (meth : Method) (c : Code) (cc : ByteArray) (nL on : Nat) (ini : Bool) (b : Nat) (x : Nat → Nat) (cA : Nat → ClassId) (dD : va_G) (xs : Nat × (Nat → Int32)) (d n0 sl0 : Nat) (o : zv_O) : Prop :=
  p.tables.exec = Jvm.exec ∧ c.code = cc ∧ c.maxLocals = nL ∧ s.vm.findClass (zn_own on) = some m.cls ∧ (∀ w ∈ zgw, w.before args s = true) ∧ zv_env b x cA dD xs s ∧ s.heap.size = b + n0 ∧ (ini = true → meth.name = "<init>") ∧ d + 1 ≤ R.frames ∧ 40 * (d + 1) ≤ R.locals ∧ o.2.1.1 - n0 ≤ R.cells ∧ o.2.1.2.1 - sl0 ≤ R.slots
def zv_G (p : Program) (l : Launch) (e : Env) (R : Room) (s : State) (m : MethodId) (args : Array Value) (below : List Frame) (meth : Method) (c : Code) (Q : State → Prop) (nL b : Nat) (x : Nat → Nat) (cA : Nat → ClassId) (dD : va_G) (n0 sl0 : Nat) (o : zv_O) (pc : Nat) (lv : zv_L) (st : List Value) (S : zv_S) (D : zv_D) : Prop :=
  (S.1 ≤ o.2.1.1 ∧ S.2.1 ≤ o.2.1.2.1) ∧ ∀ (H : Heap) (locs : List Loc) (ls : Array Slot), zv_H b x cA dD S D H → n0 ≤ S.1 → sl0 ≤ S.2.1 → va_S (fun q => b ≤ q) s.heap H locs → zv_lr b x ls nL lv → W p l e R s m args below meth c H locs (S.1 - n0) (S.2.1 - sl0) Q (F0 m pc ls (st.map (zv_vl b x)))
section ZQ
variable {p : Program} {l : Launch} {e : Env} {R : Room} {s : State} {m : MethodId} {args : Array Value} {below : List Frame} {meth : Method} {c : Code} {Q : State → Prop}
variable {cc : ByteArray} {nL on : Nat} {ini : Bool} {b : Nat} {x : Nat → Nat} {cA : Nat → ClassId} {dD : va_G} {xs : Nat × (Nat → Int32)} {d n0 sl0 : Nat} {o : zv_O}
variable {pc pc' : Nat} {lv lv' : zv_L} {st st' : List Value} {S S' : zv_S} {D D' : zv_D}
/-- nothing but the stack changes -/
theorem zq_step (row : ∀ (H : Heap) (locs : List Loc) (cells slots : Nat) (ls : Array Slot), zv_lr b x ls nL lv → W p l e R s m args below meth c H locs cells slots Q (F0 m pc' ls (st'.map (zv_vl b x))) → W p l e R s m args below meth c H locs cells slots Q (F0 m pc ls (st.map (zv_vl b x)))) (hg : zv_G p l e R s m args below meth c Q nL b x cA dD n0 sl0 o pc' lv st' S D) : zv_G p l e R s m args below meth c Q nL b x cA dD n0 sl0 o pc lv st S D :=
  ⟨hg.1, fun H locs ls h1 h2 h3 h4 h5 => row H locs _ _ ls h5 (hg.2 H locs ls h1 h2 h3 h4 h5)⟩
/-- a branch -/
theorem zq_br {P : Prop} [hP : Decidable P] {F1 F2 : Option zv_O} {pc2 : Nat} (row : ∀ (H : Heap) (locs : List Loc) (cells slots : Nat) (ls : Array Slot), (P → W p l e R s m args below meth c H locs cells slots Q (F0 m pc' ls (st'.map (zv_vl b x)))) → (¬ P → W p l e R s m args below meth c H locs cells slots Q (F0 m pc2 ls (st'.map (zv_vl b x)))) → W p l e R s m args below meth c H locs cells slots Q (F0 m pc ls (st.map (zv_vl b x))))
    (h1 : F1 = some o → zv_G p l e R s m args below meth c Q nL b x cA dD n0 sl0 o pc' lv st' S D) (h2 : F2 = some o → zv_G p l e R s m args below meth c Q nL b x cA dD n0 sl0 o pc2 lv st' S D) (h : (if P then F1 else F2) = some o) : zv_G p l e R s m args below meth c Q nL b x cA dD n0 sl0 o pc lv st S D := by
  by_cases hp : P
  · rw [if_pos hp] at h
    exact ⟨(h1 h).1, fun H locs ls a1 a2 a3 a4 a5 => row H locs _ _ ls (fun _ => (h1 h).2 H locs ls a1 a2 a3 a4 a5) (fun q => absurd hp q)⟩
  · rw [if_neg hp] at h
    exact ⟨(h2 h).1, fun H locs ls a1 a2 a3 a4 a5 => row H locs _ _ ls (fun q => absurd q hp) (fun _ => (h2 h).2 H locs ls a1 a2 a3 a4 a5)⟩
/-- the locals change -/
theorem zq_loc (row : ∀ (H : Heap) (locs : List Loc) (cells slots : Nat) (ls : Array Slot), zv_lr b x ls nL lv → (∀ ls' : Array Slot, zv_lr b x ls' nL lv' → W p l e R s m args below meth c H locs cells slots Q (F0 m pc' ls' (st'.map (zv_vl b x)))) → W p l e R s m args below meth c H locs cells slots Q (F0 m pc ls (st.map (zv_vl b x)))) (hg : zv_G p l e R s m args below meth c Q nL b x cA dD n0 sl0 o pc' lv' st' S D) : zv_G p l e R s m args below meth c Q nL b x cA dD n0 sl0 o pc lv st S D :=
  ⟨hg.1, fun H locs ls h1 h2 h3 h4 h5 => row H locs _ _ ls h5 (fun ls' h => hg.2 H locs ls' h1 h2 h3 h4 h)⟩
/-- the heap is read -/
theorem zq_rd (row : ∀ (H : Heap) (locs : List Loc) (cells slots : Nat) (ls : Array Slot), zv_H b x cA dD S D H → va_S (fun q => b ≤ q) s.heap H locs → W p l e R s m args below meth c H locs cells slots Q (F0 m pc' ls (st'.map (zv_vl b x))) → W p l e R s m args below meth c H locs cells slots Q (F0 m pc ls (st.map (zv_vl b x)))) (hg : zv_G p l e R s m args below meth c Q nL b x cA dD n0 sl0 o pc' lv st' S D) : zv_G p l e R s m args below meth c Q nL b x cA dD n0 sl0 o pc lv st S D :=
  ⟨hg.1, fun H locs ls h1 h2 h3 h4 h5 => row H locs _ _ ls h1 h4 (hg.2 H locs ls h1 h2 h3 h4 h5)⟩
/-- the heap is written -/
theorem zq_wr (e1 : S'.1 = S.1) (e2 : S'.2.1 = S.2.1) (row : ∀ (H : Heap) (locs : List Loc) (cells slots : Nat) (ls : Array Slot), zv_H b x cA dD S D H → va_S (fun q => b ≤ q) s.heap H locs → zv_lr b x ls nL lv → (∀ (H1 : Heap) (locs1 : List Loc), zv_H b x cA dD S' D' H1 → va_S (fun q => b ≤ q) s.heap H1 locs1 → W p l e R s m args below meth c H1 locs1 cells slots Q (F0 m pc' ls (st'.map (zv_vl b x)))) → W p l e R s m args below meth c H locs cells slots Q (F0 m pc ls (st.map (zv_vl b x)))) (hg : zv_G p l e R s m args below meth c Q nL b x cA dD n0 sl0 o pc' lv st' S' D') : zv_G p l e R s m args below meth c Q nL b x cA dD n0 sl0 o pc lv st S D := by
  refine ⟨by rw [← e1, ← e2]; exact hg.1, fun H locs ls h1 h2 h3 h4 h5 => row H locs _ _ ls h1 h4 h5 (fun H1 locs1 q1 q2 => ?_)⟩
  have := hg.2 H1 locs1 ls q1 (by rw [e1]; exact h2) (by rw [e2]; exact h3) q2 h5
  rw [e1, e2] at this
  exact this
theorem zq_iconst (hC : zv_C p R s m args meth c cc nL on ini b x cA dD xs d n0 sl0 o) {i : Int} {v : Int32} (hv : Int32.ofInt i = v) (hd : decode cc pc = .ok (.iconst i, 1)) {k : zv_K} (hk : ∀ pc lv st S D, k pc lv st S D = some o → zv_G p l e R s m args below meth c Q nL b x cA dD n0 sl0 o pc lv st S D) (h : k (pc + 1) lv (.int v :: st) S D = some o) : zv_G p l e R s m args below meth c Q nL b x cA dD n0 sl0 o pc lv st S D := by
  exact zq_step (fun H locs cells slots ls _ w => lv_iconst hC.1 hC.2.1 hd hv w) (hk _ _ _ _ _ h)
theorem zq_bipush (hC : zv_C p R s m args meth c cc nL on ini b x cA dD xs d n0 sl0 o) {i : Int} {v : Int32} (hv : (Int8.ofInt i).toInt32 = v) (hd : decode cc pc = .ok (.bipush i, 2)) {k : zv_K} (hk : ∀ pc lv st S D, k pc lv st S D = some o → zv_G p l e R s m args below meth c Q nL b x cA dD n0 sl0 o pc lv st S D) (h : k (pc + 2) lv (.int v :: st) S D = some o) : zv_G p l e R s m args below meth c Q nL b x cA dD n0 sl0 o pc lv st S D := by
  exact zq_step (fun H locs cells slots ls _ w => lv_bipush hC.1 hC.2.1 hd hv w) (hk _ _ _ _ _ h)
theorem zq_sipush (hC : zv_C p R s m args meth c cc nL on ini b x cA dD xs d n0 sl0 o) {i : Int} {v : Int32} (hv : (Int16.ofInt i).toInt32 = v) (hd : decode cc pc = .ok (.sipush i, 3)) {k : zv_K} (hk : ∀ pc lv st S D, k pc lv st S D = some o → zv_G p l e R s m args below meth c Q nL b x cA dD n0 sl0 o pc lv st S D) (h : k (pc + 3) lv (.int v :: st) S D = some o) : zv_G p l e R s m args below meth c Q nL b x cA dD n0 sl0 o pc lv st S D := by
  exact zq_step (fun H locs cells slots ls _ w => lv_sipush hC.1 hC.2.1 hd hv w) (hk _ _ _ _ _ h)
theorem zq_ldcw (hC : zv_C p R s m args meth c cc nL on ini b x cA dD xs d n0 sl0 o) {i : Nat} {v : Int32} (hv : Cond.constant (zn_own on) i v ∈ zgw) (hd : decode cc pc = .ok (.ldc_w i, 3)) {k : zv_K} (hk : ∀ pc lv st S D, k pc lv st S D = some o → zv_G p l e R s m args below meth c Q nL b x cA dD n0 sl0 o pc lv st S D) (h : k (pc + 3) lv (.int v :: st) S D = some o) : zv_G p l e R s m args below meth c Q nL b x cA dD n0 sl0 o pc lv st S D := by
  exact zq_step (fun H locs cells slots ls _ w => lv_ldcw hC.1 hC.2.1 hC.2.2.2.1 (hC.2.2.2.2.1 _ hv) hd w) (hk _ _ _ _ _ h)
theorem zq_ldc2 (hC : zv_C p R s m args meth c cc nL on ini b x cA dD xs d n0 sl0 o) {i : Nat} {v : Int64} (hv : Cond.constantLong (zn_own on) i v ∈ zgw) (hd : decode cc pc = .ok (.ldc2_w i, 3)) {k : zv_K} (hk : ∀ pc lv st S D, k pc lv st S D = some o → zv_G p l e R s m args below meth c Q nL b x cA dD n0 sl0 o pc lv st S D) (h : k (pc + 3) lv (.long v :: st) S D = some o) : zv_G p l e R s m args below meth c Q nL b x cA dD n0 sl0 o pc lv st S D := by
  exact zq_step (fun H locs cells slots ls _ w => lv_ldc2 hC.1 hC.2.1 hC.2.2.2.1 (hC.2.2.2.2.1 _ hv) hd w) (hk _ _ _ _ _ h)
theorem zq_lconst (hC : zv_C p R s m args meth c cc nL on ini b x cA dD xs d n0 sl0 o) {i : Fin 2} {v : Int64} (hv : Int64.ofNat (i : Nat) = v) (hd : decode cc pc = .ok (.lconst i, 1)) {k : zv_K} (hk : ∀ pc lv st S D, k pc lv st S D = some o → zv_G p l e R s m args below meth c Q nL b x cA dD n0 sl0 o pc lv st S D) (h : k (pc + 1) lv (.long v :: st) S D = some o) : zv_G p l e R s m args below meth c Q nL b x cA dD n0 sl0 o pc lv st S D := by
  exact zq_step (fun H locs cells slots ls _ w => lv_lconst hC.1 hC.2.1 hd hv w) (hk _ _ _ _ _ h)
theorem zq_iload (hC : zv_C p R s m args meth c cc nL on ini b x cA dD xs d n0 sl0 o) {i : Nat} (hd : decode cc pc = .ok (.iload i, 2)) {k : zv_K} (hk : ∀ pc lv st S D, k pc lv st S D = some o → zv_G p l e R s m args below meth c Q nL b x cA dD n0 sl0 o pc lv st S D) (h : zv_li (zv_at lv i) (fun v => k (pc + 2) lv (.int v :: st) S D) = some o) : zv_G p l e R s m args below meth c Q nL b x cA dD n0 sl0 o pc lv st S D := by
  unfold zv_li at h; split at h
  · rename_i v hv
    exact zq_step (fun H locs cells slots ls hl w => lv_iload hC.1 hC.2.1 hd (hl.2.2 i _ ⟨hv, (fun q => by cases q), (fun q => by cases q)⟩) w) (hk _ _ _ _ _ h)
  · cases h
theorem zq_iloadn (hC : zv_C p R s m args meth c cc nL on ini b x cA dD xs d n0 sl0 o) {j : Fin 4} {i : Nat} (hj : (j : Nat) = i) (hd : decode cc pc = .ok (.iload_n j, 1)) {k : zv_K} (hk : ∀ pc lv st S D, k pc lv st S D = some o → zv_G p l e R s m args below meth c Q nL b x cA dD n0 sl0 o pc lv st S D) (h : zv_li (zv_at lv i) (fun v => k (pc + 1) lv (.int v :: st) S D) = some o) : zv_G p l e R s m args below meth c Q nL b x cA dD n0 sl0 o pc lv st S D := by
  unfold zv_li at h; split at h
  · rename_i v hv
    exact zq_step (fun H locs cells slots ls hl w => lv_iload_n hC.1 hC.2.1 hd hj (hl.2.2 i _ ⟨hv, (fun q => by cases q), (fun q => by cases q)⟩) w) (hk _ _ _ _ _ h)
  · cases h
theorem zq_aload (hC : zv_C p R s m args meth c cc nL on ini b x cA dD xs d n0 sl0 o) {i : Nat} (hd : decode cc pc = .ok (.aload i, 2)) {k : zv_K} (hk : ∀ pc lv st S D, k pc lv st S D = some o → zv_G p l e R s m args below meth c Q nL b x cA dD n0 sl0 o pc lv st S D) (h : zv_la (zv_at lv i) (fun v => k (pc + 2) lv (.ref v :: st) S D) = some o) : zv_G p l e R s m args below meth c Q nL b x cA dD n0 sl0 o pc lv st S D := by
  unfold zv_la at h; split at h
  · rename_i v hv
    exact zq_step (fun H locs cells slots ls hl w => lv_aload hC.1 hC.2.1 hd (hl.2.2 i _ ⟨hv, (fun q => by cases q), (fun q => by cases q)⟩) w) (hk _ _ _ _ _ h)
  · cases h
theorem zq_aloadn (hC : zv_C p R s m args meth c cc nL on ini b x cA dD xs d n0 sl0 o) {j : Fin 4} {i : Nat} (hj : (j : Nat) = i) (hd : decode cc pc = .ok (.aload_n j, 1)) {k : zv_K} (hk : ∀ pc lv st S D, k pc lv st S D = some o → zv_G p l e R s m args below meth c Q nL b x cA dD n0 sl0 o pc lv st S D) (h : zv_la (zv_at lv i) (fun v => k (pc + 1) lv (.ref v :: st) S D) = some o) : zv_G p l e R s m args below meth c Q nL b x cA dD n0 sl0 o pc lv st S D := by
  unfold zv_la at h; split at h
  · rename_i v hv
    exact zq_step (fun H locs cells slots ls hl w => lv_aload_n hC.1 hC.2.1 hd hj (hl.2.2 i _ ⟨hv, (fun q => by cases q), (fun q => by cases q)⟩) w) (hk _ _ _ _ _ h)
  · cases h
theorem zq_lload (hC : zv_C p R s m args meth c cc nL on ini b x cA dD xs d n0 sl0 o) {i : Nat} (hd : decode cc pc = .ok (.lload i, 2)) {k : zv_K} (hk : ∀ pc lv st S D, k pc lv st S D = some o → zv_G p l e R s m args below meth c Q nL b x cA dD n0 sl0 o pc lv st S D) (h : zv_ll (zv_at lv i) (zv_at lv (i + 1)) (fun v => k (pc + 2) lv (.long v :: st) S D) = some o) : zv_G p l e R s m args below meth c Q nL b x cA dD n0 sl0 o pc lv st S D := by
  unfold zv_ll at h; split at h
  · rename_i v hv
    split at h
    · rename_i hv2
      exact zq_step (fun H locs cells slots ls hl w => lv_lload hC.1 hC.2.1 hd (hl.2.2 i _ ⟨hv, (fun q => by cases q), (fun _ => hv2)⟩) w) (hk _ _ _ _ _ h)
    · cases h
  · cases h
theorem zq_lloadn (hC : zv_C p R s m args meth c cc nL on ini b x cA dD xs d n0 sl0 o) {j : Fin 4} {i : Nat} (hj : (j : Nat) = i) (hd : decode cc pc = .ok (.lload_n j, 1)) {k : zv_K} (hk : ∀ pc lv st S D, k pc lv st S D = some o → zv_G p l e R s m args below meth c Q nL b x cA dD n0 sl0 o pc lv st S D) (h : zv_ll (zv_at lv i) (zv_at lv (i + 1)) (fun v => k (pc + 1) lv (.long v :: st) S D) = some o) : zv_G p l e R s m args below meth c Q nL b x cA dD n0 sl0 o pc lv st S D := by
  unfold zv_ll at h; split at h
  · rename_i v hv
    split at h
    · rename_i hv2
      exact zq_step (fun H locs cells slots ls hl w => lv_lload_n hC.1 hC.2.1 hd hj (hl.2.2 i _ ⟨hv, (fun q => by cases q), (fun _ => hv2)⟩) w) (hk _ _ _ _ _ h)
    · cases h
  · cases h
theorem zq_istore (hC : zv_C p R s m args meth c cc nL on ini b x cA dD xs d n0 sl0 o) {i : Nat} (hn : i < nL) (hd : decode cc pc = .ok (.istore i, 2)) {k : zv_K} (hk : ∀ pc lv st S D, k pc lv st S D = some o → zv_G p l e R s m args below meth c Q nL b x cA dD n0 sl0 o pc lv st S D) (h : zv_i1 st (fun v r => k (pc + 2) (zv_s1 lv i (.int v)) r S D) = some o) : zv_G p l e R s m args below meth c Q nL b x cA dD n0 sl0 o pc lv st S D := by
  unfold zv_i1 at h; split at h
  · rename_i v r
    exact zq_loc (fun H locs cells slots ls hl w => lv_istore hC.1 hC.2.1 hd (zv_lr_has hl) hn rfl (fun ls' hh => w ls' (zv_lr_s1 (v := .int v) rfl (fun q => by cases q) hh))) (hk _ _ _ _ _ h)
  · cases h
theorem zq_istoren (hC : zv_C p R s m args meth c cc nL on ini b x cA dD xs d n0 sl0 o) {j : Fin 4} {i : Nat} (hj : (j : Nat) = i) (hn : i < nL) (hd : decode cc pc = .ok (.istore_n j, 1)) {k : zv_K} (hk : ∀ pc lv st S D, k pc lv st S D = some o → zv_G p l e R s m args below meth c Q nL b x cA dD n0 sl0 o pc lv st S D) (h : zv_i1 st (fun v r => k (pc + 1) (zv_s1 lv i (.int v)) r S D) = some o) : zv_G p l e R s m args below meth c Q nL b x cA dD n0 sl0 o pc lv st S D := by
  unfold zv_i1 at h; split at h
  · rename_i v r
    exact zq_loc (fun H locs cells slots ls hl w => lv_istore_n hC.1 hC.2.1 hd hj (zv_lr_has hl) hn rfl (fun ls' hh => w ls' (zv_lr_s1 (v := .int v) rfl (fun q => by cases q) hh))) (hk _ _ _ _ _ h)
  · cases h
theorem zq_astoren (hC : zv_C p R s m args meth c cc nL on ini b x cA dD xs d n0 sl0 o) {j : Fin 4} {i : Nat} (hj : (j : Nat) = i) (hn : i < nL) (hd : decode cc pc = .ok (.astore_n j, 1)) {k : zv_K} (hk : ∀ pc lv st S D, k pc lv st S D = some o → zv_G p l e R s m args below meth c Q nL b x cA dD n0 sl0 o pc lv st S D) (h : zv_a1 st (fun v r => k (pc + 1) (zv_s1 lv i (.ref v)) r S D) = some o) : zv_G p l e R s m args below meth c Q nL b x cA dD n0 sl0 o pc lv st S D := by
  unfold zv_a1 at h; split at h
  · rename_i v r
    exact zq_loc (fun H locs cells slots ls hl w => lv_astore_n hC.1 hC.2.1 hd hj (zv_lr_has hl) hn rfl (fun ls' hh => w ls' (zv_lr_s1 (v := .ref v) rfl (fun q => by cases q) hh))) (hk _ _ _ _ _ h)
  · cases h
theorem zq_lstore (hC : zv_C p R s m args meth c cc nL on ini b x cA dD xs d n0 sl0 o) {i : Nat} (hn : i + 1 < nL) (hd : decode cc pc = .ok (.lstore i, 2)) {k : zv_K} (hk : ∀ pc lv st S D, k pc lv st S D = some o → zv_G p l e R s m args below meth c Q nL b x cA dD n0 sl0 o pc lv st S D) (h : zv_l1 st (fun v r => k (pc + 2) (zv_s2 lv i (.long v)) r S D) = some o) : zv_G p l e R s m args below meth c Q nL b x cA dD n0 sl0 o pc lv st S D := by
  unfold zv_l1 at h; split at h
  · rename_i v r
    exact zq_loc (fun H locs cells slots ls hl w => lv_lstore hC.1 hC.2.1 hd (zv_lr_has hl) hn rfl (fun ls' hh => w ls' (zv_lr_s2 hh))) (hk _ _ _ _ _ h)
  · cases h
theorem zq_lstoren (hC : zv_C p R s m args meth c cc nL on ini b x cA dD xs d n0 sl0 o) {j : Fin 4} {i : Nat} (hj : (j : Nat) = i) (hn : i + 1 < nL) (hd : decode cc pc = .ok (.lstore_n j, 1)) {k : zv_K} (hk : ∀ pc lv st S D, k pc lv st S D = some o → zv_G p l e R s m args below meth c Q nL b x cA dD n0 sl0 o pc lv st S D) (h : zv_l1 st (fun v r => k (pc + 1) (zv_s2 lv i (.long v)) r S D) = some o) : zv_G p l e R s m args below meth c Q nL b x cA dD n0 sl0 o pc lv st S D := by
  unfold zv_l1 at h; split at h
  · rename_i v r
    exact zq_loc (fun H locs cells slots ls hl w => lv_lstore_n hC.1 hC.2.1 hd hj (zv_lr_has hl) hn rfl (fun ls' hh => w ls' (zv_lr_s2 hh))) (hk _ _ _ _ _ h)
  · cases h
theorem zq_iinc (hC : zv_C p R s m args meth c cc nL on ini b x cA dD xs d n0 sl0 o) {i : Nat} {z : Int} {v : Int32} (hv : Int32.ofInt z = v) (hn : i < nL) (hd : decode cc pc = .ok (.iinc i z, 3)) {k : zv_K} (hk : ∀ pc lv st S D, k pc lv st S D = some o → zv_G p l e R s m args below meth c Q nL b x cA dD n0 sl0 o pc lv st S D) (h : zv_li (zv_at lv i) (fun w => k (pc + 3) (zv_s1 lv i (.int (w + v))) st S D) = some o) : zv_G p l e R s m args below meth c Q nL b x cA dD n0 sl0 o pc lv st S D := by
  unfold zv_li at h; split at h
  · rename_i w hw
    have hm : (i, Value.int w) ∈ zv_pr b x lv := zv_pr_mem (v := .int w) ⟨hw, (fun q => by cases q), (fun q => by cases q)⟩
    obtain ⟨j, hj⟩ := List.getElem?_of_mem hm
    exact zq_loc (fun H locs cells slots ls hl w' => lv_iinc (v := w + v) hC.1 hC.2.1 hd (zv_lr_has hl) hj (by rw [hv]) hn rfl (fun ls' hh => w' ls' (zv_lr_s1 (v := .int (w + v)) rfl (fun q => by cases q) hh))) (hk _ _ _ _ _ h)
  · cases h
theorem zq_iadd (hC : zv_C p R s m args meth c cc nL on ini b x cA dD xs d n0 sl0 o) (hd : decode cc pc = .ok (.iadd, 1)) {k : zv_K} (hk : ∀ pc lv st S D, k pc lv st S D = some o → zv_G p l e R s m args below meth c Q nL b x cA dD n0 sl0 o pc lv st S D) (h : zv_i2 st (fun a b2 r => k (pc + 1) lv (.int (a + b2) :: r) S D) = some o) : zv_G p l e R s m args below meth c Q nL b x cA dD n0 sl0 o pc lv st S D := by
  unfold zv_i2 at h; split at h
  · exact zq_step (fun H locs cells slots ls _ w => lv_iadd hC.1 hC.2.1 hd w) (hk _ _ _ _ _ h)
  · cases h
theorem zq_isub (hC : zv_C p R s m args meth c cc nL on ini b x cA dD xs d n0 sl0 o) (hd : decode cc pc = .ok (.isub, 1)) {k : zv_K} (hk : ∀ pc lv st S D, k pc lv st S D = some o → zv_G p l e R s m args below meth c Q nL b x cA dD n0 sl0 o pc lv st S D) (h : zv_i2 st (fun a b2 r => k (pc + 1) lv (.int (a - b2) :: r) S D) = some o) : zv_G p l e R s m args below meth c Q nL b x cA dD n0 sl0 o pc lv st S D := by
  unfold zv_i2 at h; split at h
  · exact zq_step (fun H locs cells slots ls _ w => lv_isub hC.1 hC.2.1 hd w) (hk _ _ _ _ _ h)
  · cases h
theorem zq_imul (hC : zv_C p R s m args meth c cc nL on ini b x cA dD xs d n0 sl0 o) (hd : decode cc pc = .ok (.imul, 1)) {k : zv_K} (hk : ∀ pc lv st S D, k pc lv st S D = some o → zv_G p l e R s m args below meth c Q nL b x cA dD n0 sl0 o pc lv st S D) (h : zv_i2 st (fun a b2 r => k (pc + 1) lv (.int (a * b2) :: r) S D) = some o) : zv_G p l e R s m args below meth c Q nL b x cA dD n0 sl0 o pc lv st S D := by
  unfold zv_i2 at h; split at h
  · exact zq_step (fun H locs cells slots ls _ w => lv_imul hC.1 hC.2.1 hd w) (hk _ _ _ _ _ h)
  · cases h
theorem zq_iand (hC : zv_C p R s m args meth c cc nL on ini b x cA dD xs d n0 sl0 o) (hd : decode cc pc = .ok (.iand, 1)) {k : zv_K} (hk : ∀ pc lv st S D, k pc lv st S D = some o → zv_G p l e R s m args below meth c Q nL b x cA dD n0 sl0 o pc lv st S D) (h : zv_i2 st (fun a b2 r => k (pc + 1) lv (.int (a &&& b2) :: r) S D) = some o) : zv_G p l e R s m args below meth c Q nL b x cA dD n0 sl0 o pc lv st S D := by
  unfold zv_i2 at h; split at h
  · exact zq_step (fun H locs cells slots ls _ w => lv_iand hC.1 hC.2.1 hd w) (hk _ _ _ _ _ h)
  · cases h
theorem zq_ior (hC : zv_C p R s m args meth c cc nL on ini b x cA dD xs d n0 sl0 o) (hd : decode cc pc = .ok (.ior, 1)) {k : zv_K} (hk : ∀ pc lv st S D, k pc lv st S D = some o → zv_G p l e R s m args below meth c Q nL b x cA dD n0 sl0 o pc lv st S D) (h : zv_i2 st (fun a b2 r => k (pc + 1) lv (.int (a ||| b2) :: r) S D) = some o) : zv_G p l e R s m args below meth c Q nL b x cA dD n0 sl0 o pc lv st S D := by
  unfold zv_i2 at h; split at h
  · exact zq_step (fun H locs cells slots ls _ w => lv_ior hC.1 hC.2.1 hd w) (hk _ _ _ _ _ h)
  · cases h
theorem zq_ixor (hC : zv_C p R s m args meth c cc nL on ini b x cA dD xs d n0 sl0 o) (hd : decode cc pc = .ok (.ixor, 1)) {k : zv_K} (hk : ∀ pc lv st S D, k pc lv st S D = some o → zv_G p l e R s m args below meth c Q nL b x cA dD n0 sl0 o pc lv st S D) (h : zv_i2 st (fun a b2 r => k (pc + 1) lv (.int (a ^^^ b2) :: r) S D) = some o) : zv_G p l e R s m args below meth c Q nL b x cA dD n0 sl0 o pc lv st S D := by
  unfold zv_i2 at h; split at h
  · exact zq_step (fun H locs cells slots ls _ w => lv_ixor hC.1 hC.2.1 hd w) (hk _ _ _ _ _ h)
  · cases h
theorem zq_ishl (hC : zv_C p R s m args meth c cc nL on ini b x cA dD xs d n0 sl0 o) (hd : decode cc pc = .ok (.ishl, 1)) {k : zv_K} (hk : ∀ pc lv st S D, k pc lv st S D = some o → zv_G p l e R s m args below meth c Q nL b x cA dD n0 sl0 o pc lv st S D) (h : zv_i2 st (fun a b2 r => k (pc + 1) lv (.int (a <<< (b2 &&& 31)) :: r) S D) = some o) : zv_G p l e R s m args below meth c Q nL b x cA dD n0 sl0 o pc lv st S D := by
  unfold zv_i2 at h; split at h
  · exact zq_step (fun H locs cells slots ls _ w => lv_ishl hC.1 hC.2.1 hd w) (hk _ _ _ _ _ h)
  · cases h
theorem zq_ishr (hC : zv_C p R s m args meth c cc nL on ini b x cA dD xs d n0 sl0 o) (hd : decode cc pc = .ok (.ishr, 1)) {k : zv_K} (hk : ∀ pc lv st S D, k pc lv st S D = some o → zv_G p l e R s m args below meth c Q nL b x cA dD n0 sl0 o pc lv st S D) (h : zv_i2 st (fun a b2 r => k (pc + 1) lv (.int (a >>> (b2 &&& 31)) :: r) S D) = some o) : zv_G p l e R s m args below meth c Q nL b x cA dD n0 sl0 o pc lv st S D := by
  unfold zv_i2 at h; split at h
  · exact zq_step (fun H locs cells slots ls _ w => lv_ishr hC.1 hC.2.1 hd w) (hk _ _ _ _ _ h)
  · cases h
theorem zq_iushr (hC : zv_C p R s m args meth c cc nL on ini b x cA dD xs d n0 sl0 o) (hd : decode cc pc = .ok (.iushr, 1)) {k : zv_K} (hk : ∀ pc lv st S D, k pc lv st S D = some o → zv_G p l e R s m args below meth c Q nL b x cA dD n0 sl0 o pc lv st S D) (h : zv_i2 st (fun a b2 r => k (pc + 1) lv (.int (a.toUInt32 >>> (b2.toUInt32 &&& Int32.toUInt32 31)).toInt32 :: r) S D) = some o) : zv_G p l e R s m args below meth c Q nL b x cA dD n0 sl0 o pc lv st S D := by
  unfold zv_i2 at h; split at h
  · exact zq_step (fun H locs cells slots ls _ w => lv_iushr hC.1 hC.2.1 hd rfl w) (hk _ _ _ _ _ h)
  · cases h
theorem zq_idiv (hC : zv_C p R s m args meth c cc nL on ini b x cA dD xs d n0 sl0 o) (hd : decode cc pc = .ok (.idiv, 1)) {k : zv_K} (hk : ∀ pc lv st S D, k pc lv st S D = some o → zv_G p l e R s m args below meth c Q nL b x cA dD n0 sl0 o pc lv st S D) (h : zv_i2 st (fun a b2 r => if b2 = 0 then none else k (pc + 1) lv (.int (a / b2) :: r) S D) = some o) : zv_G p l e R s m args below meth c Q nL b x cA dD n0 sl0 o pc lv st S D := by
  unfold zv_i2 at h; split at h
  · dsimp only at h; split at h
    · cases h
    · rename_i hz
      exact zq_step (fun H locs cells slots ls _ w => lv_idiv hC.1 hC.2.1 hd hz w) (hk _ _ _ _ _ h)
  · cases h
theorem zq_irem (hC : zv_C p R s m args meth c cc nL on ini b x cA dD xs d n0 sl0 o) (hd : decode cc pc = .ok (.irem, 1)) {k : zv_K} (hk : ∀ pc lv st S D, k pc lv st S D = some o → zv_G p l e R s m args below meth c Q nL b x cA dD n0 sl0 o pc lv st S D) (h : zv_i2 st (fun a b2 r => if b2 = 0 then none else k (pc + 1) lv (.int (a - a / b2 * b2) :: r) S D) = some o) : zv_G p l e R s m args below meth c Q nL b x cA dD n0 sl0 o pc lv st S D := by
  unfold zv_i2 at h; split at h
  · dsimp only at h; split at h
    · cases h
    · rename_i hz
      exact zq_step (fun H locs cells slots ls _ w => lv_irem hC.1 hC.2.1 hd hz w) (hk _ _ _ _ _ h)
  · cases h
theorem zq_ineg (hC : zv_C p R s m args meth c cc nL on ini b x cA dD xs d n0 sl0 o) (hd : decode cc pc = .ok (.ineg, 1)) {k : zv_K} (hk : ∀ pc lv st S D, k pc lv st S D = some o → zv_G p l e R s m args below meth c Q nL b x cA dD n0 sl0 o pc lv st S D) (h : zv_i1 st (fun a r => k (pc + 1) lv (.int (-a) :: r) S D) = some o) : zv_G p l e R s m args below meth c Q nL b x cA dD n0 sl0 o pc lv st S D := by
  unfold zv_i1 at h; split at h
  · exact zq_step (fun H locs cells slots ls _ w => lv_ineg hC.1 hC.2.1 hd w) (hk _ _ _ _ _ h)
  · cases h
theorem zq_ladd (hC : zv_C p R s m args meth c cc nL on ini b x cA dD xs d n0 sl0 o) (hd : decode cc pc = .ok (.ladd, 1)) {k : zv_K} (hk : ∀ pc lv st S D, k pc lv st S D = some o → zv_G p l e R s m args below meth c Q nL b x cA dD n0 sl0 o pc lv st S D) (h : zv_l2 st (fun a b2 r => k (pc + 1) lv (.long (a + b2) :: r) S D) = some o) : zv_G p l e R s m args below meth c Q nL b x cA dD n0 sl0 o pc lv st S D := by
  unfold zv_l2 at h; split at h
  · exact zq_step (fun H locs cells slots ls _ w => lv_ladd hC.1 hC.2.1 hd w) (hk _ _ _ _ _ h)
  · cases h
theorem zq_lsub (hC : zv_C p R s m args meth c cc nL on ini b x cA dD xs d n0 sl0 o) (hd : decode cc pc = .ok (.lsub, 1)) {k : zv_K} (hk : ∀ pc lv st S D, k pc lv st S D = some o → zv_G p l e R s m args below meth c Q nL b x cA dD n0 sl0 o pc lv st S D) (h : zv_l2 st (fun a b2 r => k (pc + 1) lv (.long (a - b2) :: r) S D) = some o) : zv_G p l e R s m args below meth c Q nL b x cA dD n0 sl0 o pc lv st S D := by
  unfold zv_l2 at h; split at h
  · exact zq_step (fun H locs cells slots ls _ w => lv_lsub hC.1 hC.2.1 hd w) (hk _ _ _ _ _ h)
  · cases h
theorem zq_lmul (hC : zv_C p R s m args meth c cc nL on ini b x cA dD xs d n0 sl0 o) (hd : decode cc pc = .ok (.lmul, 1)) {k : zv_K} (hk : ∀ pc lv st S D, k pc lv st S D = some o → zv_G p l e R s m args below meth c Q nL b x cA dD n0 sl0 o pc lv st S D) (h : zv_l2 st (fun a b2 r => k (pc + 1) lv (.long (a * b2) :: r) S D) = some o) : zv_G p l e R s m args below meth c Q nL b x cA dD n0 sl0 o pc lv st S D := by
  unfold zv_l2 at h; split at h
  · exact zq_step (fun H locs cells slots ls _ w => lv_lmul hC.1 hC.2.1 hd w) (hk _ _ _ _ _ h)
  · cases h
theorem zq_land (hC : zv_C p R s m args meth c cc nL on ini b x cA dD xs d n0 sl0 o) (hd : decode cc pc = .ok (.land, 1)) {k : zv_K} (hk : ∀ pc lv st S D, k pc lv st S D = some o → zv_G p l e R s m args below meth c Q nL b x cA dD n0 sl0 o pc lv st S D) (h : zv_l2 st (fun a b2 r => k (pc + 1) lv (.long (a &&& b2) :: r) S D) = some o) : zv_G p l e R s m args below meth c Q nL b x cA dD n0 sl0 o pc lv st S D := by
  unfold zv_l2 at h; split at h
  · exact zq_step (fun H locs cells slots ls _ w => lv_land hC.1 hC.2.1 hd w) (hk _ _ _ _ _ h)
  · cases h
theorem zq_lor (hC : zv_C p R s m args meth c cc nL on ini b x cA dD xs d n0 sl0 o) (hd : decode cc pc = .ok (.lor, 1)) {k : zv_K} (hk : ∀ pc lv st S D, k pc lv st S D = some o → zv_G p l e R s m args below meth c Q nL b x cA dD n0 sl0 o pc lv st S D) (h : zv_l2 st (fun a b2 r => k (pc + 1) lv (.long (a ||| b2) :: r) S D) = some o) : zv_G p l e R s m args below meth c Q nL b x cA dD n0 sl0 o pc lv st S D := by
  unfold zv_l2 at h; split at h
  · exact zq_step (fun H locs cells slots ls _ w => lv_lor hC.1 hC.2.1 hd w) (hk _ _ _ _ _ h)
  · cases h
theorem zq_ldiv (hC : zv_C p R s m args meth c cc nL on ini b x cA dD xs d n0 sl0 o) (hd : decode cc pc = .ok (.ldiv, 1)) {k : zv_K} (hk : ∀ pc lv st S D, k pc lv st S D = some o → zv_G p l e R s m args below meth c Q nL b x cA dD n0 sl0 o pc lv st S D) (h : zv_l2 st (fun a b2 r => if b2 = 0 then none else k (pc + 1) lv (.long (a / b2) :: r) S D) = some o) : zv_G p l e R s m args below meth c Q nL b x cA dD n0 sl0 o pc lv st S D := by
  unfold zv_l2 at h; split at h
  · dsimp only at h; split at h
    · cases h
    · rename_i hz
      exact zq_step (fun H locs cells slots ls _ w => lv_ldiv hC.1 hC.2.1 hd hz w) (hk _ _ _ _ _ h)
  · cases h
theorem zq_lrem (hC : zv_C p R s m args meth c cc nL on ini b x cA dD xs d n0 sl0 o) (hd : decode cc pc = .ok (.lrem, 1)) {k : zv_K} (hk : ∀ pc lv st S D, k pc lv st S D = some o → zv_G p l e R s m args below meth c Q nL b x cA dD n0 sl0 o pc lv st S D) (h : zv_l2 st (fun a b2 r => if b2 = 0 then none else k (pc + 1) lv (.long (a - a / b2 * b2) :: r) S D) = some o) : zv_G p l e R s m args below meth c Q nL b x cA dD n0 sl0 o pc lv st S D := by
  unfold zv_l2 at h; split at h
  · dsimp only at h; split at h
    · cases h
    · rename_i hz
      exact zq_step (fun H locs cells slots ls _ w => lv_lrem hC.1 hC.2.1 hd hz w) (hk _ _ _ _ _ h)
  · cases h
theorem zq_lcmp (hC : zv_C p R s m args meth c cc nL on ini b x cA dD xs d n0 sl0 o) (hd : decode cc pc = .ok (.lcmp, 1)) {k : zv_K} (hk : ∀ pc lv st S D, k pc lv st S D = some o → zv_G p l e R s m args below meth c Q nL b x cA dD n0 sl0 o pc lv st S D) (h : zv_l2 st (fun a b2 r => k (pc + 1) lv (.int (lg_cmp a b2) :: r) S D) = some o) : zv_G p l e R s m args below meth c Q nL b x cA dD n0 sl0 o pc lv st S D := by
  unfold zv_l2 at h; split at h
  · exact zq_step (fun H locs cells slots ls _ w => W.lcmp hC.1 hC.2.1 hd w) (hk _ _ _ _ _ h)
  · cases h
theorem zq_lshl (hC : zv_C p R s m args meth c cc nL on ini b x cA dD xs d n0 sl0 o) (hd : decode cc pc = .ok (.lshl, 1)) {k : zv_K} (hk : ∀ pc lv st S D, k pc lv st S D = some o → zv_G p l e R s m args below meth c Q nL b x cA dD n0 sl0 o pc lv st S D) (h : zv_i1 st (fun b2 r => zv_l1 r fun a r => k (pc + 1) lv (.long (a <<< (b2.toInt64 &&& 63)) :: r) S D) = some o) : zv_G p l e R s m args below meth c Q nL b x cA dD n0 sl0 o pc lv st S D := by
  unfold zv_i1 at h; split at h
  · dsimp only at h; unfold zv_l1 at h; split at h
    · exact zq_step (fun H locs cells slots ls _ w => lv_lshl hC.1 hC.2.1 hd rfl w) (hk _ _ _ _ _ h)
    · cases h
  · cases h
theorem zq_lushr (hC : zv_C p R s m args meth c cc nL on ini b x cA dD xs d n0 sl0 o) (hd : decode cc pc = .ok (.lushr, 1)) {k : zv_K} (hk : ∀ pc lv st S D, k pc lv st S D = some o → zv_G p l e R s m args below meth c Q nL b x cA dD n0 sl0 o pc lv st S D) (h : zv_i1 st (fun b2 r => zv_l1 r fun a r => k (pc + 1) lv (.long (a.toUInt64 >>> (b2.toInt64.toUInt64 &&& Int64.toUInt64 63)).toInt64 :: r) S D) = some o) : zv_G p l e R s m args below meth c Q nL b x cA dD n0 sl0 o pc lv st S D := by
  unfold zv_i1 at h; split at h
  · dsimp only at h; unfold zv_l1 at h; split at h
    · exact zq_step (fun H locs cells slots ls _ w => lv_lushr hC.1 hC.2.1 hd rfl w) (hk _ _ _ _ _ h)
    · cases h
  · cases h
theorem zq_i2l (hC : zv_C p R s m args meth c cc nL on ini b x cA dD xs d n0 sl0 o) (hd : decode cc pc = .ok (.i2l, 1)) {k : zv_K} (hk : ∀ pc lv st S D, k pc lv st S D = some o → zv_G p l e R s m args below meth c Q nL b x cA dD n0 sl0 o pc lv st S D) (h : zv_i1 st (fun a r => k (pc + 1) lv (.long a.toInt64 :: r) S D) = some o) : zv_G p l e R s m args below meth c Q nL b x cA dD n0 sl0 o pc lv st S D := by
  unfold zv_i1 at h; split at h
  · exact zq_step (fun H locs cells slots ls _ w => lv_i2l hC.1 hC.2.1 hd rfl w) (hk _ _ _ _ _ h)
  · cases h
theorem zq_l2i (hC : zv_C p R s m args meth c cc nL on ini b x cA dD xs d n0 sl0 o) (hd : decode cc pc = .ok (.l2i, 1)) {k : zv_K} (hk : ∀ pc lv st S D, k pc lv st S D = some o → zv_G p l e R s m args below meth c Q nL b x cA dD n0 sl0 o pc lv st S D) (h : zv_l1 st (fun a r => k (pc + 1) lv (.int a.toInt32 :: r) S D) = some o) : zv_G p l e R s m args below meth c Q nL b x cA dD n0 sl0 o pc lv st S D := by
  unfold zv_l1 at h; split at h
  · exact zq_step (fun H locs cells slots ls _ w => lv_l2i hC.1 hC.2.1 hd rfl w) (hk _ _ _ _ _ h)
  · cases h
theorem zq_i2c (hC : zv_C p R s m args meth c cc nL on ini b x cA dD xs d n0 sl0 o) (hd : decode cc pc = .ok (.i2c, 1)) {k : zv_K} (hk : ∀ pc lv st S D, k pc lv st S D = some o → zv_G p l e R s m args below meth c Q nL b x cA dD n0 sl0 o pc lv st S D) (h : zv_i1 st (fun a r => k (pc + 1) lv (.int (a.toUInt32 % 65536).toInt32 :: r) S D) = some o) : zv_G p l e R s m args below meth c Q nL b x cA dD n0 sl0 o pc lv st S D := by
  unfold zv_i1 at h; split at h
  · exact zq_step (fun H locs cells slots ls _ w => lv_i2c hC.1 hC.2.1 hd rfl w) (hk _ _ _ _ _ h)
  · cases h
theorem zq_dup (hC : zv_C p R s m args meth c cc nL on ini b x cA dD xs d n0 sl0 o) (hd : decode cc pc = .ok (.dup, 1)) {k : zv_K} (hk : ∀ pc lv st S D, k pc lv st S D = some o → zv_G p l e R s m args below meth c Q nL b x cA dD n0 sl0 o pc lv st S D) (h : zv_dp st (fun r => k (pc + 1) lv r S D) = some o) : zv_G p l e R s m args below meth c Q nL b x cA dD n0 sl0 o pc lv st S D := by
  unfold zv_dp at h; split at h
  · exact zq_step (fun H locs cells slots ls _ w => lv_dup hC.1 hC.2.1 hd rfl w) (hk _ _ _ _ _ h)
  · exact zq_step (fun H locs cells slots ls _ w => lv_dup hC.1 hC.2.1 hd rfl w) (hk _ _ _ _ _ h)
  · cases h
theorem zq_dup2 (hC : zv_C p R s m args meth c cc nL on ini b x cA dD xs d n0 sl0 o) (hd : decode cc pc = .ok (.dup2, 1)) {k : zv_K} (hk : ∀ pc lv st S D, k pc lv st S D = some o → zv_G p l e R s m args below meth c Q nL b x cA dD n0 sl0 o pc lv st S D) (h : zv_ia st (fun i a r => k (pc + 1) lv (.int i :: .ref a :: .int i :: .ref a :: r) S D) = some o) : zv_G p l e R s m args below meth c Q nL b x cA dD n0 sl0 o pc lv st S D := by
  unfold zv_ia at h; split at h
  · exact zq_step (fun H locs cells slots ls _ w => lv_dup2_11 hC.1 hC.2.1 hd rfl rfl w) (hk _ _ _ _ _ h)
  · cases h
theorem zq_pop (hC : zv_C p R s m args meth c cc nL on ini b x cA dD xs d n0 sl0 o) (hd : decode cc pc = .ok (.pop, 1)) {k : zv_K} (hk : ∀ pc lv st S D, k pc lv st S D = some o → zv_G p l e R s m args below meth c Q nL b x cA dD n0 sl0 o pc lv st S D) (h : zv_i1 st (fun _ r => k (pc + 1) lv r S D) = some o) : zv_G p l e R s m args below meth c Q nL b x cA dD n0 sl0 o pc lv st S D := by
  unfold zv_i1 at h; split at h
  · exact zq_step (fun H locs cells slots ls _ w => lv_pop hC.1 hC.2.1 hd rfl w) (hk _ _ _ _ _ h)
  · cases h
theorem zq_if_eq (hC : zv_C p R s m args meth c cc nL on ini b x cA dD xs d n0 sl0 o) {off : Int} {tgt : Nat} (ht : (pc : Int) + off = (tgt : Int)) (hd : decode cc pc = .ok (.ifCond .eq off, 3)) {k : zv_K} (hk : ∀ pc lv st S D, k pc lv st S D = some o → zv_G p l e R s m args below meth c Q nL b x cA dD n0 sl0 o pc lv st S D) (h : zv_i1 st (fun a r => if a = 0 then k tgt lv r S D else k (pc + 3) lv r S D) = some o) : zv_G p l e R s m args below meth c Q nL b x cA dD n0 sl0 o pc lv st S D := by
  unfold zv_i1 at h; split at h
  · exact zq_br (fun H locs cells slots ls w1 w2 => lv_if_eq hC.1 hC.2.1 hd ht w1 w2) (hk _ _ _ _ _) (hk _ _ _ _ _) h
  · cases h
theorem zq_if_ne (hC : zv_C p R s m args meth c cc nL on ini b x cA dD xs d n0 sl0 o) {off : Int} {tgt : Nat} (ht : (pc : Int) + off = (tgt : Int)) (hd : decode cc pc = .ok (.ifCond .ne off, 3)) {k : zv_K} (hk : ∀ pc lv st S D, k pc lv st S D = some o → zv_G p l e R s m args below meth c Q nL b x cA dD n0 sl0 o pc lv st S D) (h : zv_i1 st (fun a r => if a = 0 then k (pc + 3) lv r S D else k tgt lv r S D) = some o) : zv_G p l e R s m args below meth c Q nL b x cA dD n0 sl0 o pc lv st S D := by
  unfold zv_i1 at h; split at h
  · exact zq_br (fun H locs cells slots ls w1 w2 => lv_if_ne hC.1 hC.2.1 hd ht w2 w1) (hk _ _ _ _ _) (hk _ _ _ _ _) h
  · cases h
theorem zq_if_lt (hC : zv_C p R s m args meth c cc nL on ini b x cA dD xs d n0 sl0 o) {off : Int} {tgt : Nat} (ht : (pc : Int) + off = (tgt : Int)) (hd : decode cc pc = .ok (.ifCond .lt off, 3)) {k : zv_K} (hk : ∀ pc lv st S D, k pc lv st S D = some o → zv_G p l e R s m args below meth c Q nL b x cA dD n0 sl0 o pc lv st S D) (h : zv_i1 st (fun a r => if a < 0 then k tgt lv r S D else k (pc + 3) lv r S D) = some o) : zv_G p l e R s m args below meth c Q nL b x cA dD n0 sl0 o pc lv st S D := by
  unfold zv_i1 at h; split at h
  · exact zq_br (fun H locs cells slots ls w1 w2 => lv_if_lt hC.1 hC.2.1 hd ht w1 w2) (hk _ _ _ _ _) (hk _ _ _ _ _) h
  · cases h
theorem zq_if_ge (hC : zv_C p R s m args meth c cc nL on ini b x cA dD xs d n0 sl0 o) {off : Int} {tgt : Nat} (ht : (pc : Int) + off = (tgt : Int)) (hd : decode cc pc = .ok (.ifCond .ge off, 3)) {k : zv_K} (hk : ∀ pc lv st S D, k pc lv st S D = some o → zv_G p l e R s m args below meth c Q nL b x cA dD n0 sl0 o pc lv st S D) (h : zv_i1 st (fun a r => if 0 ≤ a then k tgt lv r S D else k (pc + 3) lv r S D) = some o) : zv_G p l e R s m args below meth c Q nL b x cA dD n0 sl0 o pc lv st S D := by
  unfold zv_i1 at h; split at h
  · exact zq_br (fun H locs cells slots ls w1 w2 => lv_if_ge hC.1 hC.2.1 hd ht w1 w2) (hk _ _ _ _ _) (hk _ _ _ _ _) h
  · cases h
theorem zq_if_gt (hC : zv_C p R s m args meth c cc nL on ini b x cA dD xs d n0 sl0 o) {off : Int} {tgt : Nat} (ht : (pc : Int) + off = (tgt : Int)) (hd : decode cc pc = .ok (.ifCond .gt off, 3)) {k : zv_K} (hk : ∀ pc lv st S D, k pc lv st S D = some o → zv_G p l e R s m args below meth c Q nL b x cA dD n0 sl0 o pc lv st S D) (h : zv_i1 st (fun a r => if 0 < a then k tgt lv r S D else k (pc + 3) lv r S D) = some o) : zv_G p l e R s m args below meth c Q nL b x cA dD n0 sl0 o pc lv st S D := by
  unfold zv_i1 at h; split at h
  · exact zq_br (fun H locs cells slots ls w1 w2 => lv_if_gt hC.1 hC.2.1 hd ht w1 w2) (hk _ _ _ _ _) (hk _ _ _ _ _) h
  · cases h
theorem zq_if_le (hC : zv_C p R s m args meth c cc nL on ini b x cA dD xs d n0 sl0 o) {off : Int} {tgt : Nat} (ht : (pc : Int) + off = (tgt : Int)) (hd : decode cc pc = .ok (.ifCond .le off, 3)) {k : zv_K} (hk : ∀ pc lv st S D, k pc lv st S D = some o → zv_G p l e R s m args below meth c Q nL b x cA dD n0 sl0 o pc lv st S D) (h : zv_i1 st (fun a r => if a ≤ 0 then k tgt lv r S D else k (pc + 3) lv r S D) = some o) : zv_G p l e R s m args below meth c Q nL b x cA dD n0 sl0 o pc lv st S D := by
  unfold zv_i1 at h; split at h
  · exact zq_br (fun H locs cells slots ls w1 w2 => lv_if_le hC.1 hC.2.1 hd ht w1 w2) (hk _ _ _ _ _) (hk _ _ _ _ _) h
  · cases h
theorem zq_icmp_eq (hC : zv_C p R s m args meth c cc nL on ini b x cA dD xs d n0 sl0 o) {off : Int} {tgt : Nat} (ht : (pc : Int) + off = (tgt : Int)) (hd : decode cc pc = .ok (.if_icmp .eq off, 3)) {k : zv_K} (hk : ∀ pc lv st S D, k pc lv st S D = some o → zv_G p l e R s m args below meth c Q nL b x cA dD n0 sl0 o pc lv st S D) (h : zv_i2 st (fun a b2 r => if a = b2 then k tgt lv r S D else k (pc + 3) lv r S D) = some o) : zv_G p l e R s m args below meth c Q nL b x cA dD n0 sl0 o pc lv st S D := by
  unfold zv_i2 at h; split at h
  · exact zq_br (fun H locs cells slots ls w1 w2 => lv_icmp_eq hC.1 hC.2.1 hd ht w1 w2) (hk _ _ _ _ _) (hk _ _ _ _ _) h
  · cases h
theorem zq_icmp_ne (hC : zv_C p R s m args meth c cc nL on ini b x cA dD xs d n0 sl0 o) {off : Int} {tgt : Nat} (ht : (pc : Int) + off = (tgt : Int)) (hd : decode cc pc = .ok (.if_icmp .ne off, 3)) {k : zv_K} (hk : ∀ pc lv st S D, k pc lv st S D = some o → zv_G p l e R s m args below meth c Q nL b x cA dD n0 sl0 o pc lv st S D) (h : zv_i2 st (fun a b2 r => if a = b2 then k (pc + 3) lv r S D else k tgt lv r S D) = some o) : zv_G p l e R s m args below meth c Q nL b x cA dD n0 sl0 o pc lv st S D := by
  unfold zv_i2 at h; split at h
  · exact zq_br (fun H locs cells slots ls w1 w2 => lv_icmp_ne hC.1 hC.2.1 hd ht w2 w1) (hk _ _ _ _ _) (hk _ _ _ _ _) h
  · cases h
theorem zq_icmp_lt (hC : zv_C p R s m args meth c cc nL on ini b x cA dD xs d n0 sl0 o) {off : Int} {tgt : Nat} (ht : (pc : Int) + off = (tgt : Int)) (hd : decode cc pc = .ok (.if_icmp .lt off, 3)) {k : zv_K} (hk : ∀ pc lv st S D, k pc lv st S D = some o → zv_G p l e R s m args below meth c Q nL b x cA dD n0 sl0 o pc lv st S D) (h : zv_i2 st (fun a b2 r => if a < b2 then k tgt lv r S D else k (pc + 3) lv r S D) = some o) : zv_G p l e R s m args below meth c Q nL b x cA dD n0 sl0 o pc lv st S D := by
  unfold zv_i2 at h; split at h
  · exact zq_br (fun H locs cells slots ls w1 w2 => lv_icmp_lt hC.1 hC.2.1 hd ht w1 w2) (hk _ _ _ _ _) (hk _ _ _ _ _) h
  · cases h
theorem zq_icmp_ge (hC : zv_C p R s m args meth c cc nL on ini b x cA dD xs d n0 sl0 o) {off : Int} {tgt : Nat} (ht : (pc : Int) + off = (tgt : Int)) (hd : decode cc pc = .ok (.if_icmp .ge off, 3)) {k : zv_K} (hk : ∀ pc lv st S D, k pc lv st S D = some o → zv_G p l e R s m args below meth c Q nL b x cA dD n0 sl0 o pc lv st S D) (h : zv_i2 st (fun a b2 r => if b2 ≤ a then k tgt lv r S D else k (pc + 3) lv r S D) = some o) : zv_G p l e R s m args below meth c Q nL b x cA dD n0 sl0 o pc lv st S D := by
  unfold zv_i2 at h; split at h
  · exact zq_br (fun H locs cells slots ls w1 w2 => lv_icmp_ge hC.1 hC.2.1 hd ht w1 w2) (hk _ _ _ _ _) (hk _ _ _ _ _) h
  · cases h
theorem zq_icmp_gt (hC : zv_C p R s m args meth c cc nL on ini b x cA dD xs d n0 sl0 o) {off : Int} {tgt : Nat} (ht : (pc : Int) + off = (tgt : Int)) (hd : decode cc pc = .ok (.if_icmp .gt off, 3)) {k : zv_K} (hk : ∀ pc lv st S D, k pc lv st S D = some o → zv_G p l e R s m args below meth c Q nL b x cA dD n0 sl0 o pc lv st S D) (h : zv_i2 st (fun a b2 r => if b2 < a then k tgt lv r S D else k (pc + 3) lv r S D) = some o) : zv_G p l e R s m args below meth c Q nL b x cA dD n0 sl0 o pc lv st S D := by
  unfold zv_i2 at h; split at h
  · exact zq_br (fun H locs cells slots ls w1 w2 => lv_icmp_gt hC.1 hC.2.1 hd ht w1 w2) (hk _ _ _ _ _) (hk _ _ _ _ _) h
  · cases h
theorem zq_icmp_le (hC : zv_C p R s m args meth c cc nL on ini b x cA dD xs d n0 sl0 o) {off : Int} {tgt : Nat} (ht : (pc : Int) + off = (tgt : Int)) (hd : decode cc pc = .ok (.if_icmp .le off, 3)) {k : zv_K} (hk : ∀ pc lv st S D, k pc lv st S D = some o → zv_G p l e R s m args below meth c Q nL b x cA dD n0 sl0 o pc lv st S D) (h : zv_i2 st (fun a b2 r => if a ≤ b2 then k tgt lv r S D else k (pc + 3) lv r S D) = some o) : zv_G p l e R s m args below meth c Q nL b x cA dD n0 sl0 o pc lv st S D := by
  unfold zv_i2 at h; split at h
  · exact zq_br (fun H locs cells slots ls w1 w2 => lv_icmp_le hC.1 hC.2.1 hd ht w1 w2) (hk _ _ _ _ _) (hk _ _ _ _ _) h
  · cases h
theorem zq_goto (hC : zv_C p R s m args meth c cc nL on ini b x cA dD xs d n0 sl0 o) {off : Int} {tgt : Nat} (ht : (pc : Int) + off = (tgt : Int)) (hd : decode cc pc = .ok (.goto off, 3)) {k : zv_K} (hk : ∀ pc lv st S D, k pc lv st S D = some o → zv_G p l e R s m args below meth c Q nL b x cA dD n0 sl0 o pc lv st S D) (h : k tgt lv st S D = some o) : zv_G p l e R s m args below meth c Q nL b x cA dD n0 sl0 o pc lv st S D := by
  exact zq_step (fun H locs cells slots ls _ w => lv_goto hC.1 hC.2.1 hd ht w) (hk _ _ _ _ _ h)
end ZQ
end
section
/-! ===== rows that read and write cells ===== -/
section ZH
variable {p : Program} {l : Launch} {e : Env} {R : Room} {s : State} {m : MethodId} {args : Array Value} {below : List Frame} {meth : Method} {c : Code} {Q : State → Prop}
variable {cc : ByteArray} {nL on : Nat} {ini : Bool} {b : Nat} {x : Nat → Nat} {cA : Nat → ClassId} {dD : va_G} {xs : Nat × (Nat → Int32)} {d n0 sl0 : Nat} {o : zv_O}
variable {pc pc' : Nat} {lv lv' : zv_L} {st st' : List Value} {S S' : zv_S} {D D' : zv_D}
theorem zv_ad_in {q : Nat} (hw : zv_wf S) (h : (S.2.2.1 q).1 < 14) : q < S.1 ∧ zv_ad b x q = b + q := by
  have hq := hw.2.1 q h
  refine ⟨hq, ?_⟩
  unfold zv_ad
  rw [if_pos (Nat.lt_of_lt_of_le hq hw.1)]
theorem zv_blt {a n : Nat} (h : a < n) : Nat.blt a n = true := by simp [h]
theorem zv_in_of {i : Int32} {n : Nat} (h : zv_in i n = true) : vp_in i n := by
  unfold zv_in at h
  simp only [Bool.and_eq_true, Bool.not_eq_true', decide_eq_false_iff_not] at h
  have h2 : i.toNatClampNeg < n := by simpa using h.2
  intro q
  rcases q with q | q
  · exact h.1 q
  · omega
theorem zn_ft9 : ∀ ci, ci < 10 → ∀ k, k < zn_nf ci → zn_ft ci k ≠ 9 := by decide +kernel
theorem zq_getf (hC : zv_C p R s m args meth c cc nL on ini b x cA dD xs d n0 sl0 o) {i ci kf ft : Nat} (hci : ci < 10) (hkf : kf < zn_nf ci) (hft : zn_ft ci kf = ft) (hl : Cond.fieldLink (zn_own on) i (zn_own ci) (zn_T ci kf).2.1 (zn_T ci kf).2.2.1 ∈ zgw) (hd : decode cc pc = .ok (.getfield i, 3)) {k : zv_K} (hk : ∀ pc lv st S D, k pc lv st S D = some o → zv_G p l e R s m args below meth c Q nL b x cA dD n0 sl0 o pc lv st S D)
    (h : zv_a1 st (fun q r => bif Nat.beq (S.2.2.1 q).1 ci then (bif Nat.beq ft 0 then k (pc + 3) lv (.int (D.1 q kf) :: r) S D else bif Nat.beq ft 1 then k (pc + 3) lv (.long (D.2 q kf) :: r) S D else (S.2.2.2 q kf).bind fun a => k (pc + 3) lv (.ref a :: r) S D) else none) = some o) : zv_G p l e R s m args below meth c Q nL b x cA dD n0 sl0 o pc lv st S D := by
  unfold zv_a1 at h; split at h
  · rename_i q r
    dsimp only at h
    cases hq : Nat.beq (S.2.2.1 q).1 ci with
    | false => rw [hq] at h; cases h
    | true =>
      rw [hq] at h
      have hq' : (S.2.2.1 q).1 = ci := Nat.eq_of_beq_eq_true hq
      have key : ∀ v, zv_fv b x S D q kf ft = zv_vl b x v → zv_G p l e R s m args below meth c Q nL b x cA dD n0 sl0 o (pc + 3) lv (v :: r) S D → zv_G p l e R s m args below meth c Q nL b x cA dD n0 sl0 o pc lv (.ref q :: r) S D := by
        intro v hv hg
        refine zq_rd (fun H locs cells slots ls hH hS w => ?_) hg
        obtain ⟨hlt, had⟩ := zv_ad_in (b := b) (x := x) hH.1 (by rw [hq']; omega : (S.2.2.1 q).1 < 14)
        show W p l e R s m args below meth c H locs cells slots Q (F0 m pc ls (.ref (zv_ad b x q) :: r.map (zv_vl b x)))
        rw [had]
        exact va_get (D := dD) (ci := ci) (v := zv_vl b x v) (C := zn_own ci) (T := zn_T ci) (N := zn_nf ci) hC.1 hC.2.1 hC.2.2.2.2.1 (zn_words hci) hC.2.2.2.1 hC.2.2.2.2.2.1.1 hH.2 q ((zv_ws_at b x cA S D hlt).trans (by rw [zv_ce_o b x cA S D hq' hci])) (zn_cls hci) kf hkf (hC.2.2.2.2.1 _ hl) (fun y hy => by rw [zn_decl ci hci kf hkf] at hy; exact hy) ((zv_fs_at b x S D q ci hkf).trans (by rw [hft, hv])) hd w
      cases h0 : Nat.beq ft 0 with
      | true =>
        rw [h0] at h
        exact key _ (by unfold zv_fv; rw [h0]; rfl) (hk _ _ _ _ _ h)
      | false =>
        rw [h0] at h
        cases h1 : Nat.beq ft 1 with
        | true =>
          rw [h1] at h
          exact key _ (by unfold zv_fv; rw [h0, h1]; rfl) (hk _ _ _ _ _ h)
        | false =>
          rw [h1] at h
          cases hr : S.2.2.2 q kf with
          | none => rw [hr] at h; cases h
          | some a =>
            rw [hr] at h
            exact key (.ref a) (by unfold zv_fv; rw [h0, h1, hr]; rfl) (hk _ _ _ _ _ h)
  · cases h
theorem zq_putf (hC : zv_C p R s m args meth c cc nL on ini b x cA dD xs d n0 sl0 o) {i ci kf ft : Nat} (hci : ci < 10) (hkf : kf < zn_nf ci) (hft : zn_ft ci kf = ft) (hl : Cond.fieldLink (zn_own on) i (zn_own ci) (zn_T ci kf).2.1 (zn_T ci kf).2.2.1 ∈ zgw) (hf1 : ft < 2 → (zn_T ci kf).2.2.2 = false) (hf2 : ¬ ft < 2 → (zn_T ci kf).2.2.2 = true ∧ ini = true ∧ on = ci) (hd : decode cc pc = .ok (.putfield i, 3)) {k : zv_K} (hk : ∀ pc lv st S D, k pc lv st S D = some o → zv_G p l e R s m args below meth c Q nL b x cA dD n0 sl0 o pc lv st S D) {al : Bool}
    (h : (bif Nat.beq ft 0 then zv_i1 st fun v r => zv_a1 r fun q r => bif Nat.beq (S.2.2.1 q).1 ci then k (pc + 3) lv r S (zv_w D.1 q kf v, D.2) else none
      else bif Nat.beq ft 1 then zv_l1 st fun v r => zv_a1 r fun q r => bif Nat.beq (S.2.2.1 q).1 ci then k (pc + 3) lv r S (D.1, zv_wl D.2 q kf v) else none
      else bif al then zv_a1 st fun a r => zv_a1 r fun q r => bif Nat.beq (S.2.2.1 q).1 ci then k (pc + 3) lv r (zv_rw S q kf a) D else none
      else none) = some o) : zv_G p l e R s m args below meth c Q nL b x cA dD n0 sl0 o pc lv st S D := by
  cases h0 : Nat.beq ft 0 with
  | true =>
    rw [h0] at h
    replace h : zv_i1 st (fun v r => zv_a1 r fun q r => bif Nat.beq (S.2.2.1 q).1 ci then k (pc + 3) lv r S (zv_w D.1 q kf v, D.2) else none) = some o := h
    have hf0 : ft = 0 := Nat.eq_of_beq_eq_true h0
    unfold zv_i1 at h; split at h
    · dsimp only at h; unfold zv_a1 at h; split at h
      · rename_i v _ q r
        dsimp only at h
        cases hq : Nat.beq (S.2.2.1 q).1 ci with
        | false => rw [hq] at h; cases h
        | true =>
          rw [hq] at h
          have hq' : (S.2.2.1 q).1 = ci := Nat.eq_of_beq_eq_true hq
          have hty : zn_ty ci kf = .int := by
            have := zn_tys ci hci kf hkf
            rw [hft, hf0] at this
            revert this
            cases zn_ty ci kf <;> intro hh <;> first | rfl | cases hh
          refine zq_wr (S' := S) (D' := (zv_w D.1 q kf v, D.2)) rfl rfl (fun H locs cells slots ls hH hS hl2 w => ?_) (hk _ _ _ _ _ h)
          obtain ⟨hlt, had⟩ := zv_ad_in (b := b) (x := x) hH.1 (by rw [hq']; omega : (S.2.2.1 q).1 < 14)
          show W p l e R s m args below meth c H locs cells slots Q (F0 m pc ls (.int v :: .ref (zv_ad b x q) :: r.map (zv_vl b x)))
          rw [had]
          refine va_put (D := dD) (A := fun q => b ≤ q) (H0 := s.heap) (ci := ci) (v := .int v) (ty := .int) (C := zn_own ci) (T := zn_T ci) (N := zn_nf ci) hC.1 hC.2.1 hC.2.2.2.2.1 (zn_words hci) (zn_ty ci) (zn_parse hci) (zn_diff hci) hC.2.2.2.1 hC.2.2.2.2.2.1.1 hH.2 (zv_ws_D b x cA S D) hS q ((zv_ws_at b x cA S D hlt).trans (by rw [zv_ce_o b x cA S D hq' hci])) (zn_cls hci) kf hkf (hC.2.2.2.2.1 _ hl) (fun y hy => by rw [zn_decl ci hci kf hkf] at hy; exact hy) (hf1 (by omega)) (by rw [zn_parse hci kf hkf, hty]) rfl rfl (by rw [zv_fs_len]; exact hkf) hd (fun H1 locs1 hP1 hD1 hS1 => w H1 locs1 ⟨hH.1, ?_⟩ hS1)
          rw [zv_ws_set b x cA S S D (zv_w D.1 q kf v, D.2) rfl hlt (by
            rw [zv_ce_o b x cA S _ hq' hci, zv_fs_set b x S S D (zv_w D.1 q kf v, D.2) q ci hkf (v := .int v)]
            · rw [hft]; unfold zv_fv; rw [h0]; simp [zv_w, upd]
            · intro j hj
              unfold zv_fv
              simp [zv_w, upd, hj]) (fun j hj => zv_ce_congr b x cA rfl rfl (by simp [zv_w, hj]) rfl)] at hP1
          exact hP1
      · cases h
    · cases h
  | false =>
    rw [h0] at h
    cases h1 : Nat.beq ft 1 with
    | true =>
      rw [h1] at h
      replace h : zv_l1 st (fun v r => zv_a1 r fun q r => bif Nat.beq (S.2.2.1 q).1 ci then k (pc + 3) lv r S (D.1, zv_wl D.2 q kf v) else none) = some o := h
      have hf0 : ft = 1 := Nat.eq_of_beq_eq_true h1
      unfold zv_l1 at h; split at h
      · dsimp only at h; unfold zv_a1 at h; split at h
        · rename_i v _ q r
          dsimp only at h
          cases hq : Nat.beq (S.2.2.1 q).1 ci with
          | false => rw [hq] at h; cases h
          | true =>
            rw [hq] at h
            have hq' : (S.2.2.1 q).1 = ci := Nat.eq_of_beq_eq_true hq
            have hty : zn_ty ci kf = .long := by
              have := zn_tys ci hci kf hkf
              rw [hft, hf0] at this
              revert this
              cases zn_ty ci kf <;> intro hh <;> first | rfl | cases hh
            refine zq_wr (S' := S) (D' := (D.1, zv_wl D.2 q kf v)) rfl rfl (fun H locs cells slots ls hH hS hl2 w => ?_) (hk _ _ _ _ _ h)
            obtain ⟨hlt, had⟩ := zv_ad_in (b := b) (x := x) hH.1 (by rw [hq']; omega : (S.2.2.1 q).1 < 14)
            show W p l e R s m args below meth c H locs cells slots Q (F0 m pc ls (.long v :: .ref (zv_ad b x q) :: r.map (zv_vl b x)))
            rw [had]
            refine va_put (D := dD) (A := fun q => b ≤ q) (H0 := s.heap) (ci := ci) (v := .long v) (ty := .long) (C := zn_own ci) (T := zn_T ci) (N := zn_nf ci) hC.1 hC.2.1 hC.2.2.2.2.1 (zn_words hci) (zn_ty ci) (zn_parse hci) (zn_diff hci) hC.2.2.2.1 hC.2.2.2.2.2.1.1 hH.2 (zv_ws_D b x cA S D) hS q ((zv_ws_at b x cA S D hlt).trans (by rw [zv_ce_o b x cA S D hq' hci])) (zn_cls hci) kf hkf (hC.2.2.2.2.1 _ hl) (fun y hy => by rw [zn_decl ci hci kf hkf] at hy; exact hy) (hf1 (by omega)) (by rw [zn_parse hci kf hkf, hty]) rfl rfl (by rw [zv_fs_len]; exact hkf) hd (fun H1 locs1 hP1 hD1 hS1 => w H1 locs1 ⟨hH.1, ?_⟩ hS1)
            rw [zv_ws_set b x cA S S D (D.1, zv_wl D.2 q kf v) rfl hlt (by
              rw [zv_ce_o b x cA S _ hq' hci, zv_fs_set b x S S D (D.1, zv_wl D.2 q kf v) q ci hkf (v := .long v)]
              · rw [hft]; unfold zv_fv; rw [h0, h1]; simp [zv_wl, vp_updL]
              · intro j hj
                unfold zv_fv
                simp [zv_wl, vp_updL, hj]) (fun j hj => zv_ce_congr b x cA rfl rfl rfl (by simp [zv_wl, hj]))] at hP1
            exact hP1
        · cases h
      · cases h
    | false =>
      rw [h1] at h
      cases al with
      | false => cases h
      | true =>
        replace h : zv_a1 st (fun a r => zv_a1 r fun q r => bif Nat.beq (S.2.2.1 q).1 ci then k (pc + 3) lv r (zv_rw S q kf a) D else none) = some o := h
        have hge : ¬ ft < 2 := by
          intro hlt2
          have : ft = 0 ∨ ft = 1 := by omega
          rcases this with z | z
          · rw [z] at h0; cases h0
          · rw [z] at h1; cases h1
        obtain ⟨f1, f2, f3⟩ := hf2 hge
        unfold zv_a1 at h; split at h
        · dsimp only at h; split at h
          · rename_i a _ q r
            try dsimp only at h
            cases hq : Nat.beq (S.2.2.1 q).1 ci with
            | false => rw [hq] at h; cases h
            | true =>
              rw [hq] at h
              have hq' : (S.2.2.1 q).1 = ci := Nat.eq_of_beq_eq_true hq
              have hty : ((∃ n, zn_ty ci kf = .object n) ∨ ∃ t, zn_ty ci kf = .array t) := by
                have := zn_tys ci hci kf hkf
                have hz : ¬ zn_tyc (zn_ty ci kf) < 2 := by rw [this, hft]; exact hge
                have h9 : zn_tyc (zn_ty ci kf) ≠ 9 := by rw [this]; exact (zn_ft9 ci hci kf hkf)
                revert hz h9
                cases zn_ty ci kf with
                | object n => exact fun _ _ => Or.inl ⟨n, rfl⟩
                | array t => exact fun _ _ => Or.inr ⟨t, rfl⟩
                | int => exact fun hz _ => absurd (by decide) hz
                | long => exact fun hz _ => absurd (by decide) hz
                | _ => exact fun _ h9 => absurd rfl h9
              refine zq_wr (S' := zv_rw S q kf a) (D' := D) rfl rfl (fun H locs cells slots ls hH hS hl2 w => ?_) (hk _ _ _ _ _ h)
              obtain ⟨hlt, had⟩ := zv_ad_in (b := b) (x := x) hH.1 (by rw [hq']; omega : (S.2.2.1 q).1 < 14)
              show W p l e R s m args below meth c H locs cells slots Q (F0 m pc ls (.ref (zv_ad b x a) :: .ref (zv_ad b x q) :: r.map (zv_vl b x)))
              rw [had]
              refine va_putF (D := dD) (A := fun q => b ≤ q) (H0 := s.heap) (ci := ci) (v := .ref (zv_ad b x a)) (ty := zn_ty ci kf) (C := zn_own ci) (T := zn_T ci) (N := zn_nf ci) hC.1 hC.2.1 hC.2.2.2.2.1 (zn_words hci) (zn_ty ci) (zn_parse hci) (zn_diff hci) hC.2.2.2.1 hC.2.2.2.2.2.1.1 hH.2 (zv_ws_D b x cA S D) hS q ((zv_ws_at b x cA S D hlt).trans (by rw [zv_ce_o b x cA S D hq' hci])) (zn_cls hci) kf hkf (hC.2.2.2.2.1 _ hl) (fun y hy => by rw [zn_decl ci hci kf hkf] at hy; exact hy) f1 (hC.2.2.2.2.2.2.2.1 f2) (by rw [zn_decl ci hci kf hkf, f3]) (zn_parse hci kf hkf) (by rcases hty with ⟨n, e⟩ | ⟨t, e⟩ <;> rw [e] <;> rfl) (by rcases hty with ⟨n, e⟩ | ⟨t, e⟩ <;> rw [e] <;> rfl) (by rw [zv_fs_len]; exact hkf) hd (fun H1 locs1 hP1 hD1 hS1 => w H1 locs1 ⟨hH.1, ?_⟩ hS1)
              rw [zv_ws_set b x cA S (zv_rw S q kf a) D D rfl hlt (by
                rw [zv_ce_o b x cA (zv_rw S q kf a) _ hq' hci, zv_fs_set b x S (zv_rw S q kf a) D D q ci hkf (v := .ref (zv_ad b x a))]
                · rw [hft]; unfold zv_fv; rw [h0, h1]; simp [zv_rw, va_rf]
                · intro j hj
                  unfold zv_fv
                  simp [zv_rw, hj]) (fun j hj => zv_ce_congr b x cA rfl (by simp [zv_rw, hj]) rfl rfl)] at hP1
              exact hP1
          · cases h
        · cases h
theorem zq_iald (hC : zv_C p R s m args meth c cc nL on ini b x cA dD xs d n0 sl0 o) (hd : decode cc pc = .ok (.iaload, 1)) {k : zv_K} (hk : ∀ pc lv st S D, k pc lv st S D = some o → zv_G p l e R s m args below meth c Q nL b x cA dD n0 sl0 o pc lv st S D) {i : Int32} {a : Nat} {r : List Value} (hq : (S.2.2.1 a).1 = 11) (hi : zv_in i (S.2.2.1 a).2 = true) (h : k (pc + 1) lv (.int (D.1 a i.toNatClampNeg) :: r) S D = some o) : zv_G p l e R s m args below meth c Q nL b x cA dD n0 sl0 o pc lv (.int i :: .ref a :: r) S D := by
  refine zq_rd (fun H locs cells slots ls hH hS w => ?_) (hk _ _ _ _ _ h)
  obtain ⟨hlt, had⟩ := zv_ad_in (b := b) (x := x) hH.1 (by rw [hq]; decide : (S.2.2.1 a).1 < 14)
  show W p l e R s m args below meth c H locs cells slots Q (F0 m pc ls (.int i :: .ref (zv_ad b x a) :: r.map (zv_vl b x)))
  rw [had]
  exact va_iald hC.1 hC.2.1 hC.2.2.2.2.2.1.1 hH.2 a 1 ((zv_ws_at b x cA S D hlt).trans (by rw [zv_ce_a b x cA S D hq rfl rfl])) rfl (zv_in_of hi) hd w
theorem zq_cald (hC : zv_C p R s m args meth c cc nL on ini b x cA dD xs d n0 sl0 o) (hd : decode cc pc = .ok (.caload, 1)) {k : zv_K} (hk : ∀ pc lv st S D, k pc lv st S D = some o → zv_G p l e R s m args below meth c Q nL b x cA dD n0 sl0 o pc lv st S D) {i : Int32} {a : Nat} {r : List Value} (hq : (S.2.2.1 a).1 = 10) (hi : zv_in i (S.2.2.1 a).2 = true) (h : k (pc + 1) lv (.int (D.1 a i.toNatClampNeg) :: r) S D = some o) : zv_G p l e R s m args below meth c Q nL b x cA dD n0 sl0 o pc lv (.int i :: .ref a :: r) S D := by
  refine zq_rd (fun H locs cells slots ls hH hS w => ?_) (hk _ _ _ _ _ h)
  obtain ⟨hlt, had⟩ := zv_ad_in (b := b) (x := x) hH.1 (by rw [hq]; decide : (S.2.2.1 a).1 < 14)
  show W p l e R s m args below meth c H locs cells slots Q (F0 m pc ls (.int i :: .ref (zv_ad b x a) :: r.map (zv_vl b x)))
  rw [had]
  exact va_cald hC.1 hC.2.1 hC.2.2.2.2.2.1.1 hH.2 a 0 ((zv_ws_at b x cA S D hlt).trans (by rw [zv_ce_a b x cA S D hq rfl rfl])) rfl (zv_in_of hi) hd w
theorem zq_bald (hC : zv_C p R s m args meth c cc nL on ini b x cA dD xs d n0 sl0 o) (hd : decode cc pc = .ok (.baload, 1)) {k : zv_K} (hk : ∀ pc lv st S D, k pc lv st S D = some o → zv_G p l e R s m args below meth c Q nL b x cA dD n0 sl0 o pc lv st S D) {i : Int32} {a : Nat} {r : List Value} (hq : (S.2.2.1 a).1 = 12) (hi : zv_in i (S.2.2.1 a).2 = true) (h : k (pc + 1) lv (.int (D.1 a i.toNatClampNeg) :: r) S D = some o) : zv_G p l e R s m args below meth c Q nL b x cA dD n0 sl0 o pc lv (.int i :: .ref a :: r) S D := by
  refine zq_rd (fun H locs cells slots ls hH hS w => ?_) (hk _ _ _ _ _ h)
  obtain ⟨hlt, had⟩ := zv_ad_in (b := b) (x := x) hH.1 (by rw [hq]; decide : (S.2.2.1 a).1 < 14)
  show W p l e R s m args below meth c H locs cells slots Q (F0 m pc ls (.int i :: .ref (zv_ad b x a) :: r.map (zv_vl b x)))
  rw [had]
  exact va_zald hC.1 hC.2.1 hC.2.2.2.2.2.1.1 hH.2 a 2 ((zv_ws_at b x cA S D hlt).trans (by rw [zv_ce_a b x cA S D hq rfl rfl])) rfl (zv_in_of hi) hd w
theorem zq_aald (hC : zv_C p R s m args meth c cc nL on ini b x cA dD xs d n0 sl0 o) (hd : decode cc pc = .ok (.aaload, 1)) {k : zv_K} (hk : ∀ pc lv st S D, k pc lv st S D = some o → zv_G p l e R s m args below meth c Q nL b x cA dD n0 sl0 o pc lv st S D) {i : Int32} {a a2 : Nat} {r : List Value} (hq : (S.2.2.1 a).1 = 13) (hi : zv_in i (S.2.2.1 a).2 = true) (hr : S.2.2.2 a i.toNatClampNeg = some a2) (h : k (pc + 1) lv (.ref a2 :: r) S D = some o) : zv_G p l e R s m args below meth c Q nL b x cA dD n0 sl0 o pc lv (.int i :: .ref a :: r) S D := by
  refine zq_rd (fun H locs cells slots ls hH hS w => ?_) (hk _ _ _ _ _ h)
  obtain ⟨hlt, had⟩ := zv_ad_in (b := b) (x := x) hH.1 (by rw [hq]; decide : (S.2.2.1 a).1 < 14)
  show W p l e R s m args below meth c H locs cells slots Q (F0 m pc ls (.int i :: .ref (zv_ad b x a) :: r.map (zv_vl b x)))
  rw [had]
  refine va_aldq hC.1 hC.2.1 hC.2.2.2.2.2.1.1 hH.2 a 3 ((zv_ws_at b x cA S D hlt).trans (by rw [zv_ce_q b x cA S D hq])) rfl (zv_in_of hi) hd ?_
  rw [hr]
  exact w
theorem zq_sald (hC : zv_C p R s m args meth c cc nL on ini b x cA dD xs d n0 sl0 o) (hd : decode cc pc = .ok (.iaload, 1)) {k : zv_K} (hk : ∀ pc lv st S D, k pc lv st S D = some o → zv_G p l e R s m args below meth c Q nL b x cA dD n0 sl0 o pc lv st S D) {i : Int32} {a : Nat} {r : List Value} (hq : (S.2.2.1 a).1 = 21) (hi : zv_in i xs.1 = true) (h : k (pc + 1) lv (.int (xs.2 i.toNatClampNeg) :: r) S D = some o) : zv_G p l e R s m args below meth c Q nL b x cA dD n0 sl0 o pc lv (.int i :: .ref a :: r) S D := by
  refine zq_rd (fun H locs cells slots ls hH hS w => ?_) (hk _ _ _ _ _ h)
  have ha := hH.1.2.2.1 a hq
  subst ha
  show W p l e R s m args below meth c H locs cells slots Q (F0 m pc ls (.int i :: .ref (x 1000000) :: r.map (zv_vl b x)))
  have hxb := hC.2.2.2.2.2.1.2.2.2.2.2.2.1
  exact va_sld hC.1 hC.2.1 hC.2.2.2.2.2.1.2.2.2.2.2.1 (by have := hC.2.2.2.2.2.2.1; omega) (by show ¬ b ≤ _; omega) hS (zv_in_of hi) hd w
theorem zq_fald (hC : zv_C p R s m args meth c cc nL on ini b x cA dD xs d n0 sl0 o) (hd : decode cc pc = .ok (.iaload, 1)) {k : zv_K} (hk : ∀ pc lv st S D, k pc lv st S D = some o → zv_G p l e R s m args below meth c Q nL b x cA dD n0 sl0 o pc lv st S D) {i : Int32} {a : Nat} {r : List Value} (hq : (S.2.2.1 a).1 = 22) (hi : zv_in i 5 = true) (h : k (pc + 1) lv (.int (zv_fa i.toNatClampNeg) :: r) S D = some o) : zv_G p l e R s m args below meth c Q nL b x cA dD n0 sl0 o pc lv (.int i :: .ref a :: r) S D := by
  refine zq_rd (fun H locs cells slots ls hH hS w => ?_) (hk _ _ _ _ _ h)
  have ha := hH.1.2.2.2.1 a hq
  subst ha
  show W p l e R s m args below meth c H locs cells slots Q (F0 m pc ls (.int i :: .ref (x 1000002) :: r.map (zv_vl b x)))
  exact va_ti hC.1 hC.2.1 hC.2.2.2.2.2.1.2.2.2.2.1 hS (zv_in_of hi) rfl hd w
theorem zq_lald (hC : zv_C p R s m args meth c cc nL on ini b x cA dD xs d n0 sl0 o) (hd : decode cc pc = .ok (.laload, 1)) {k : zv_K} (hk : ∀ pc lv st S D, k pc lv st S D = some o → zv_G p l e R s m args below meth c Q nL b x cA dD n0 sl0 o pc lv st S D) {i : Int32} {a : Nat} {r : List Value} (hq : (S.2.2.1 a).1 = 24) (hi : zv_in i 5 = true) (h : k (pc + 1) lv (.long (zv_un i.toNatClampNeg) :: r) S D = some o) : zv_G p l e R s m args below meth c Q nL b x cA dD n0 sl0 o pc lv (.int i :: .ref a :: r) S D := by
  refine zq_rd (fun H locs cells slots ls hH hS w => ?_) (hk _ _ _ _ _ h)
  have ha := hH.1.2.2.2.2 a hq
  subst ha
  show W p l e R s m args below meth c H locs cells slots Q (F0 m pc ls (.int i :: .ref (x 1000001) :: r.map (zv_vl b x)))
  exact va_tl hC.1 hC.2.1 hC.2.2.2.2.2.1.2.2.1 hS (zv_in_of hi) rfl hd w
theorem zq_gets (hC : zv_C p R s m args meth c cc nL on ini b x cA dD xs d n0 sl0 o) {i q : Nat} (hl : (q = 1000001 ∧ Cond.fieldLink (zn_own on) i "HiddenExits" "UNITS" "[J" ∈ zgw) ∨ (q = 1000002 ∧ Cond.fieldLink (zn_own on) i "HiddenExits" "FACTORIALS" "[I" ∈ zgw)) (hd : decode cc pc = .ok (.getstatic i, 3)) {k : zv_K} (hk : ∀ pc lv st S D, k pc lv st S D = some o → zv_G p l e R s m args below meth c Q nL b x cA dD n0 sl0 o pc lv st S D) (h : k (pc + 3) lv (.ref q :: st) S D = some o) : zv_G p l e R s m args below meth c Q nL b x cA dD n0 sl0 o pc lv st S D := by
  refine zq_rd (fun H locs cells slots ls hH hS w => ?_) (hk _ _ _ _ _ h)
  rcases hl with ⟨rfl, hl⟩ | ⟨rfl, hl⟩
  · exact va_gets hC.1 hC.2.1 hC.2.2.2.2.2.1.2.1 hS hC.2.2.2.1 (hC.2.2.2.2.1 _ hl) (fun _ q => q) hd w
  · exact va_gets hC.1 hC.2.1 hC.2.2.2.2.2.1.2.2.2.1 hS hC.2.2.2.1 (hC.2.2.2.2.1 _ hl) (fun _ q => q) hd w
theorem zq_iast (hC : zv_C p R s m args meth c cc nL on ini b x cA dD xs d n0 sl0 o) (hd : decode cc pc = .ok (.iastore, 1)) {k : zv_K} (hk : ∀ pc lv st S D, k pc lv st S D = some o → zv_G p l e R s m args below meth c Q nL b x cA dD n0 sl0 o pc lv st S D) {v i : Int32} {a : Nat} {r : List Value} (hq : (S.2.2.1 a).1 = 11) (hi : zv_in i (S.2.2.1 a).2 = true) (h : k (pc + 1) lv r S (zv_w D.1 a i.toNatClampNeg v, D.2) = some o) : zv_G p l e R s m args below meth c Q nL b x cA dD n0 sl0 o pc lv (.int v :: .int i :: .ref a :: r) S D := by
  refine zq_wr (S' := S) (D' := (zv_w D.1 a i.toNatClampNeg v, D.2)) rfl rfl (fun H locs cells slots ls hH hS hl2 w => ?_) (hk _ _ _ _ _ h)
  obtain ⟨hlt, had⟩ := zv_ad_in (b := b) (x := x) hH.1 (by rw [hq]; decide : (S.2.2.1 a).1 < 14)
  show W p l e R s m args below meth c H locs cells slots Q (F0 m pc ls (.int v :: .int i :: .ref (zv_ad b x a) :: r.map (zv_vl b x)))
  rw [had]
  refine va_iast (A := fun q => b ≤ q) (H0 := s.heap) hC.1 hC.2.1 hC.2.2.2.2.2.1.1 hH.2 (zv_ws_D b x cA S D) hS a 1 ((zv_ws_at b x cA S D hlt).trans (by rw [zv_ce_a b x cA S D hq rfl rfl])) rfl (zv_in_of hi) hd (fun H1 locs1 hP1 hD1 hS1 => w H1 locs1 ⟨hH.1, ?_⟩ hS1)
  rw [zv_ws_set b x cA S S D (zv_w D.1 a i.toNatClampNeg v, D.2) rfl hlt (by rw [zv_ce_a b x cA S _ hq rfl rfl]; simp [zv_w]) (fun j hj => zv_ce_congr b x cA rfl rfl (by simp [zv_w, hj]) rfl)] at hP1
  exact hP1
theorem zq_cast (hC : zv_C p R s m args meth c cc nL on ini b x cA dD xs d n0 sl0 o) (hd : decode cc pc = .ok (.castore, 1)) {k : zv_K} (hk : ∀ pc lv st S D, k pc lv st S D = some o → zv_G p l e R s m args below meth c Q nL b x cA dD n0 sl0 o pc lv st S D) {v i : Int32} {a : Nat} {r : List Value} (hq : (S.2.2.1 a).1 = 10) (hi : zv_in i (S.2.2.1 a).2 = true) (h : k (pc + 1) lv r S (zv_w D.1 a i.toNatClampNeg (vp_nar .char v), D.2) = some o) : zv_G p l e R s m args below meth c Q nL b x cA dD n0 sl0 o pc lv (.int v :: .int i :: .ref a :: r) S D := by
  refine zq_wr (S' := S) (D' := (zv_w D.1 a i.toNatClampNeg (vp_nar .char v), D.2)) rfl rfl (fun H locs cells slots ls hH hS hl2 w => ?_) (hk _ _ _ _ _ h)
  obtain ⟨hlt, had⟩ := zv_ad_in (b := b) (x := x) hH.1 (by rw [hq]; decide : (S.2.2.1 a).1 < 14)
  show W p l e R s m args below meth c H locs cells slots Q (F0 m pc ls (.int v :: .int i :: .ref (zv_ad b x a) :: r.map (zv_vl b x)))
  rw [had]
  refine va_cast (A := fun q => b ≤ q) (H0 := s.heap) hC.1 hC.2.1 hC.2.2.2.2.2.1.1 hH.2 (zv_ws_D b x cA S D) hS a 0 ((zv_ws_at b x cA S D hlt).trans (by rw [zv_ce_a b x cA S D hq rfl rfl])) rfl (zv_in_of hi) hd (fun H1 locs1 hP1 hD1 hS1 => w H1 locs1 ⟨hH.1, ?_⟩ hS1)
  rw [zv_ws_set b x cA S S D (zv_w D.1 a i.toNatClampNeg (vp_nar .char v), D.2) rfl hlt (by rw [zv_ce_a b x cA S _ hq rfl rfl]; simp [zv_w]) (fun j hj => zv_ce_congr b x cA rfl rfl (by simp [zv_w, hj]) rfl)] at hP1
  exact hP1
theorem zq_bast (hC : zv_C p R s m args meth c cc nL on ini b x cA dD xs d n0 sl0 o) (hd : decode cc pc = .ok (.bastore, 1)) {k : zv_K} (hk : ∀ pc lv st S D, k pc lv st S D = some o → zv_G p l e R s m args below meth c Q nL b x cA dD n0 sl0 o pc lv st S D) {v i : Int32} {a : Nat} {r : List Value} (hq : (S.2.2.1 a).1 = 12) (hi : zv_in i (S.2.2.1 a).2 = true) (h : k (pc + 1) lv r S (zv_w D.1 a i.toNatClampNeg (vp_nar .boolean v), D.2) = some o) : zv_G p l e R s m args below meth c Q nL b x cA dD n0 sl0 o pc lv (.int v :: .int i :: .ref a :: r) S D := by
  refine zq_wr (S' := S) (D' := (zv_w D.1 a i.toNatClampNeg (vp_nar .boolean v), D.2)) rfl rfl (fun H locs cells slots ls hH hS hl2 w => ?_) (hk _ _ _ _ _ h)
  obtain ⟨hlt, had⟩ := zv_ad_in (b := b) (x := x) hH.1 (by rw [hq]; decide : (S.2.2.1 a).1 < 14)
  show W p l e R s m args below meth c H locs cells slots Q (F0 m pc ls (.int v :: .int i :: .ref (zv_ad b x a) :: r.map (zv_vl b x)))
  rw [had]
  refine va_zast (A := fun q => b ≤ q) (H0 := s.heap) hC.1 hC.2.1 hC.2.2.2.2.2.1.1 hH.2 (zv_ws_D b x cA S D) hS a 2 ((zv_ws_at b x cA S D hlt).trans (by rw [zv_ce_a b x cA S D hq rfl rfl])) rfl (zv_in_of hi) hd (fun H1 locs1 hP1 hD1 hS1 => w H1 locs1 ⟨hH.1, ?_⟩ hS1)
  rw [zv_ws_set b x cA S S D (zv_w D.1 a i.toNatClampNeg (vp_nar .boolean v), D.2) rfl hlt (by rw [zv_ce_a b x cA S _ hq rfl rfl]; simp [zv_w]) (fun j hj => zv_ce_congr b x cA rfl rfl (by simp [zv_w, hj]) rfl)] at hP1
  exact hP1
theorem zq_alen (hC : zv_C p R s m args meth c cc nL on ini b x cA dD xs d n0 sl0 o) (hd : decode cc pc = .ok (.arraylength, 1)) {k : zv_K} (hk : ∀ pc lv st S D, k pc lv st S D = some o → zv_G p l e R s m args below meth c Q nL b x cA dD n0 sl0 o pc lv st S D) {a : Nat} {r : List Value} {al : Bool}
    (h : (bif Nat.beq (S.2.2.1 a).1 21 then (bif al then k (pc + 1) lv (.int (Int32.ofNat xs.1) :: r) S D else none) else bif Nat.ble 10 (S.2.2.1 a).1 then k (pc + 1) lv (.int (Int32.ofNat (S.2.2.1 a).2) :: r) S D else none) = some o) (hkd : (S.2.2.1 a).1 = 21 ∨ (S.2.2.1 a).1 = 10 ∨ (S.2.2.1 a).1 = 11 ∨ (S.2.2.1 a).1 = 12 ∨ (S.2.2.1 a).1 = 13 ∨ ((S.2.2.1 a).1 = 22 ∧ (S.2.2.1 a).2 = 5)) : zv_G p l e R s m args below meth c Q nL b x cA dD n0 sl0 o pc lv (.ref a :: r) S D := by
  rcases hkd with hq | hq | hq | hq | hq | ⟨hq, h5⟩
  · rw [hq] at h
    cases al with
    | false => cases h
    | true =>
      refine zq_rd (fun H locs cells slots ls hH hS w => ?_) (hk _ _ _ _ _ h)
      have ha := hH.1.2.2.1 a hq
      subst ha
      show W p l e R s m args below meth c H locs cells slots Q (F0 m pc ls (.ref (x 1000000) :: r.map (zv_vl b x)))
      have hxb := hC.2.2.2.2.2.1.2.2.2.2.2.2.1
      exact va_slen hC.1 hC.2.1 hC.2.2.2.2.2.1.2.2.2.2.2.1 (by have := hC.2.2.2.2.2.2.1; omega) (by show ¬ b ≤ _; omega) hS hd w
  · rw [hq] at h
    refine zq_rd (fun H locs cells slots ls hH hS w => ?_) (hk _ _ _ _ _ h)
    obtain ⟨hlt, had⟩ := zv_ad_in (b := b) (x := x) hH.1 (by rw [hq]; decide : (S.2.2.1 a).1 < 14)
    show W p l e R s m args below meth c H locs cells slots Q (F0 m pc ls (.ref (zv_ad b x a) :: r.map (zv_vl b x)))
    rw [had]
    exact va_alen (x := ((S.2.2.1 a).2, .inl (D.1 a))) hC.1 hC.2.1 hC.2.2.2.2.2.1.1 hH.2 a 0 ((zv_ws_at b x cA S D hlt).trans (by rw [zv_ce_a b x cA S D hq rfl rfl])) rfl rfl hd w
  · rw [hq] at h
    refine zq_rd (fun H locs cells slots ls hH hS w => ?_) (hk _ _ _ _ _ h)
    obtain ⟨hlt, had⟩ := zv_ad_in (b := b) (x := x) hH.1 (by rw [hq]; decide : (S.2.2.1 a).1 < 14)
    show W p l e R s m args below meth c H locs cells slots Q (F0 m pc ls (.ref (zv_ad b x a) :: r.map (zv_vl b x)))
    rw [had]
    exact va_alen (x := ((S.2.2.1 a).2, .inl (D.1 a))) hC.1 hC.2.1 hC.2.2.2.2.2.1.1 hH.2 a 1 ((zv_ws_at b x cA S D hlt).trans (by rw [zv_ce_a b x cA S D hq rfl rfl])) rfl rfl hd w
  · rw [hq] at h
    refine zq_rd (fun H locs cells slots ls hH hS w => ?_) (hk _ _ _ _ _ h)
    obtain ⟨hlt, had⟩ := zv_ad_in (b := b) (x := x) hH.1 (by rw [hq]; decide : (S.2.2.1 a).1 < 14)
    show W p l e R s m args below meth c H locs cells slots Q (F0 m pc ls (.ref (zv_ad b x a) :: r.map (zv_vl b x)))
    rw [had]
    exact va_alen (x := ((S.2.2.1 a).2, .inl (D.1 a))) hC.1 hC.2.1 hC.2.2.2.2.2.1.1 hH.2 a 2 ((zv_ws_at b x cA S D hlt).trans (by rw [zv_ce_a b x cA S D hq rfl rfl])) rfl rfl hd w
  · rw [hq] at h
    refine zq_rd (fun H locs cells slots ls hH hS w => ?_) (hk _ _ _ _ _ h)
    obtain ⟨hlt, had⟩ := zv_ad_in (b := b) (x := x) hH.1 (by rw [hq]; decide : (S.2.2.1 a).1 < 14)
    show W p l e R s m args below meth c H locs cells slots Q (F0 m pc ls (.ref (zv_ad b x a) :: r.map (zv_vl b x)))
    rw [had]
    exact va_alen (x := ((S.2.2.1 a).2, .inr (.inr (.inr (.inr fun i => (S.2.2.2 a i).map (zv_ad b x)))))) hC.1 hC.2.1 hC.2.2.2.2.2.1.1 hH.2 a 3 ((zv_ws_at b x cA S D hlt).trans (by rw [zv_ce_q b x cA S D hq])) rfl rfl hd w
  · rw [hq, h5] at h
    refine zq_rd (fun H locs cells slots ls hH hS w => ?_) (hk _ _ _ _ _ h)
    have ha := hH.1.2.2.2.1 a hq
    subst ha
    show W p l e R s m args below meth c H locs cells slots Q (F0 m pc ls (.ref (x 1000002) :: r.map (zv_vl b x)))
    obtain ⟨cell, q1, q2, q3, q4, q5, q6, q7⟩ := hC.2.2.2.2.2.1.2.2.2.2.1
    exact W.alen hC.1 hC.2.1 (by rw [hS.2.1 _ (Array.getElem?_eq_some_iff.mp q1).1 q7]; exact q1) q2 q5 rfl rfl hd w
theorem zq_acp (hC : zv_C p R s m args meth c cc nL on ini b x cA dD xs d n0 sl0 o) {i : Nat} (hl : Cond.methodLink (zn_own on) i arraycopyName ∈ zgw) (hw : Cond.native arraycopyName ∈ zgw ∧ Cond.static arraycopyName ∈ zgw ∧ Cond.initialized "java/lang/System" ∈ zgw) (hd : decode cc pc = .ok (.invokestatic i, 3)) {k : zv_K} (hk : ∀ pc lv st S D, k pc lv st S D = some o → zv_G p l e R s m args below meth c Q nL b x cA dD n0 sl0 o pc lv st S D) (h : zv_acp st S D (fun r D' => k (pc + 3) lv r S D') = some o) : zv_G p l e R s m args below meth c Q nL b x cA dD n0 sl0 o pc lv st S D := by
  unfold zv_acp at h; split at h
  · rename_i n dp a sp a0 r
    dsimp only at h
    cases hb : (Nat.beq (S.2.2.1 a0).1 11 && (Nat.beq (S.2.2.1 a).1 11 && (Nat.ble (zv_cs r) 8 && zv_cok sp dp n (S.2.2.1 a0).2 (S.2.2.1 a).2))) with
    | false => rw [hb] at h; cases h
    | true =>
      rw [hb] at h
      simp only [Bool.and_eq_true] at hb
      obtain ⟨g1, g2, g3, g4⟩ := hb
      have g1 : (S.2.2.1 a0).1 = 11 := Nat.eq_of_beq_eq_true g1
      have g2 : (S.2.2.1 a).1 = 11 := Nat.eq_of_beq_eq_true g2
      have g3 : zv_cs r ≤ 8 := Nat.le_of_ble_eq_true g3
      unfold zv_cok at g4
      simp only [Bool.and_eq_true, Bool.not_eq_true', decide_eq_false_iff_not] at g4
      obtain ⟨c1, c2, c3, c4, c5⟩ := g4
      refine zq_wr (S' := S) (D' := (zv_cp D.1 a0 a sp.toNatClampNeg dp.toNatClampNeg n.toNatClampNeg, D.2)) rfl rfl (fun H locs cells slots ls hH hS hl2 w => ?_) (hk _ _ _ _ _ h)
      obtain ⟨hlt, had⟩ := zv_ad_in (b := b) (x := x) hH.1 (by rw [g2]; decide : (S.2.2.1 a).1 < 14)
      obtain ⟨hlt0, had0⟩ := zv_ad_in (b := b) (x := x) hH.1 (by rw [g1]; decide : (S.2.2.1 a0).1 < 14)
      show W p l e R s m args below meth c H locs cells slots Q (F0 m pc ls (.int n :: .int dp :: .ref (zv_ad b x a) :: .int sp :: .ref (zv_ad b x a0) :: r.map (zv_vl b x)))
      rw [had, had0]
      refine va_copyi (A := fun q => b ≤ q) (H0 := s.heap) (ty := .int) hC.1 hC.2.1 (by rw [hC.2.2.1]; exact hl2.1.symm) hC.2.2.2.1 (hC.2.2.2.2.1 _ hl) (hC.2.2.2.2.1 _ hw.1) (hC.2.2.2.2.1 _ hw.2.1) (hC.2.2.2.2.1 _ hw.2.2) hC.2.2.2.2.2.1.1 hH.2 (zv_ws_D b x cA S D) hS a0 a 1 1 ((zv_ws_at b x cA S D hlt0).trans (by rw [zv_ce_a b x cA S D g1 rfl rfl])) ((zv_ws_at b x cA S D hlt).trans (by rw [zv_ce_a b x cA S D g2 rfl rfl])) rfl rfl rfl c1 c2 c3 (Nat.le_of_ble_eq_true c4) (Nat.le_of_ble_eq_true c5) (fun _ _ => rfl) (by have := hC.2.2.2.2.2.2.2.2.1; omega) (by
        rw [zv_cs_sum, zv_cs_map]
        have := hC.2.2.2.2.2.2.2.2.2.1
        have e7 : nativeFrameWords "java/lang/System" "arraycopy" 5 = 7 := by decide +kernel
        omega) hd (fun H1 locs1 hP1 hD1 hS1 => w H1 locs1 ⟨hH.1, ?_⟩ hS1)
      rw [zv_ws_set b x cA S S D (zv_cp D.1 a0 a sp.toNatClampNeg dp.toNatClampNeg n.toNatClampNeg, D.2) rfl hlt (by rw [zv_ce_a b x cA S _ g2 rfl rfl]; simp [zv_cp]) (fun j hj => zv_ce_congr b x cA rfl rfl (by simp [zv_cp, hj]) rfl)] at hP1
      exact hP1
  · cases h
theorem zq_obj (hC : zv_C p R s m args meth c cc nL on ini b x cA dD xs d n0 sl0 o) {i : Nat} (hl : Cond.methodLink (zn_own on) i objectInit ∈ zgw) (hw : Cond.instanceMethod objectInit ∈ zgw ∧ Cond.code objectInit ⟨#[0xb1]⟩ 1 none ∈ zgw) (hd : decode cc pc = .ok (.invokespecial i, 3)) {k : zv_K} (hk : ∀ pc lv st S D, k pc lv st S D = some o → zv_G p l e R s m args below meth c Q nL b x cA dD n0 sl0 o pc lv st S D) (h : zv_a1 st (fun _ r => bif Nat.ble (zv_cs r) 8 then k (pc + 3) lv r S D else none) = some o) : zv_G p l e R s m args below meth c Q nL b x cA dD n0 sl0 o pc lv st S D := by
  unfold zv_a1 at h; split at h
  · rename_i q r
    dsimp only at h
    cases hb : Nat.ble (zv_cs r) 8 with
    | false => rw [hb] at h; cases h
    | true =>
      rw [hb] at h
      refine zq_step (fun H locs cells slots ls hl2 w => ?_) (hk _ _ _ _ _ h)
      have hb' : zv_cs r ≤ 8 := Nat.le_of_ble_eq_true hb
      refine W.objInit hC.1 hC.2.1 hC.2.2.2.1 (hC.2.2.2.2.1 _ hl) (hC.2.2.2.2.1 _ hw.1) (hC.2.2.2.2.1 _ hw.2) (a := zv_ad b x q) (rest := r.map (zv_vl b x)) rfl (by rw [hC.2.2.1]; exact hl2.1) rfl hd (by have := hC.2.2.2.2.2.2.2.2.1; omega) ?_ w
      rw [zv_cs_sum, zv_cs_map]
      show 2 * 0 + _ + 12 ≤ _
      have := hC.2.2.2.2.2.2.2.2.2.1
      omega
  · cases h
end ZH
end
section
/-! ===== rows that make cells; switches ===== -/
section ZA
variable {p : Program} {l : Launch} {e : Env} {R : Room} {s : State} {m : MethodId} {args : Array Value} {below : List Frame} {meth : Method} {c : Code} {Q : State → Prop}
variable {cc : ByteArray} {nL on : Nat} {ini : Bool} {b : Nat} {x : Nat → Nat} {cA : Nat → ClassId} {dD : va_G} {xs : Nat × (Nat → Int32)} {d n0 sl0 : Nat} {o : zv_O}
variable {pc pc' : Nat} {lv lv' : zv_L} {st st' : List Value} {S S' : zv_S} {D D' : zv_D}
/-- the heap is no larger than what was made -/
theorem zq_size {H : Heap} {locs : List Loc} {cells slots : Nat} {g : JFrame} (h : H.size ≤ s.heap.size + cells → W p l e R s m args below meth c H locs cells slots Q g) : W p l e R s m args below meth c H locs cells slots Q g := fun T hT X => h (by rw [← hT]; exact X.heapSize) T hT X
theorem zv_size {H : Heap} {locs : List Loc} (hH : zv_H b x cA dD S D H) (hS : va_S (fun q => b ≤ q) s.heap H locs) (hs : s.heap.size = b + n0) (hn : n0 ≤ S.1) (hle : H.size ≤ s.heap.size + (S.1 - n0)) : H.size = b + S.1 := by
  have h1 := hS.1
  by_cases h0 : S.1 = 0
  · omega
  · have h2 : b + (S.1 - 1) < H.size := (hH.2 (S.1 - 1) _ (zv_ws_at b x cA S D (by omega))).lt
    omega
theorem zv_wf_new {kd N : Nat} (hw : zv_wf S) (h1 : S.1 ≤ 100000) (hk : kd < 14) : zv_wf (zv_new S kd N) := by
  obtain ⟨w1, w2, w3, w4, w5⟩ := hw
  refine ⟨?_, fun q h => ?_, fun q h => ?_, fun q h => ?_, fun q h => ?_⟩
  · show S.1 + 1 ≤ 1000000
    omega
  · show q < S.1 + 1
    by_cases hq : q = S.1
    · omega
    · have : (S.2.2.1 q).1 < 14 := by simpa [zv_new, hq] using h
      have := w2 q this
      omega
  · by_cases hq : q = S.1
    · have h : kd = 21 := by simpa [zv_new, hq] using h
      omega
    · exact w3 q (by simpa [zv_new, hq] using h)
  · by_cases hq : q = S.1
    · have h : kd = 22 := by simpa [zv_new, hq] using h
      omega
    · exact w4 q (by simpa [zv_new, hq] using h)
  · by_cases hq : q = S.1
    · have h : kd = 24 := by simpa [zv_new, hq] using h
      omega
    · exact w5 q (by simpa [zv_new, hq] using h)
theorem zv_ws_new (kd N : Nat) : zv_ws b x cA (zv_new S kd N) (zv_zer S D) = zv_ws b x cA S D ++ [(b + S.1, zv_ce b x cA (zv_new S kd N) (zv_zer S D) S.1)] := by
  unfold zv_ws
  rw [show (zv_new S kd N).1 = S.1 + 1 from rfl, List.range_succ, List.map_append]
  congr 1
  apply List.map_congr_left
  intro q hq
  have hq' : q ≠ S.1 := Nat.ne_of_lt (List.mem_range.mp hq)
  rw [zv_ce_congr b x cA (S := S) (S' := zv_new S kd N) (D := D) (D' := zv_zer S D) (by simp [zv_new, hq']) (by simp [zv_new, hq']) (by simp [zv_zer, hq']) (by simp [zv_zer, hq'])]
theorem zq_al (hC : zv_C p R s m args meth c cc nL on ini b x cA dD xs d n0 sl0 o) {kd N : Nat} (hn1 : S.1 ≤ 100000) (hkd : kd < 14) (row : ∀ (H : Heap) (locs : List Loc) (cells slots : Nat) (ls : Array Slot), H.size = b + S.1 → cells + 1 ≤ R.cells → slots + N ≤ R.slots → (∀ H1 : Heap, va_at dD vwCl (b + S.1, zv_ce b x cA (zv_new S kd N) (zv_zer S D) S.1) H1 → (∀ q, q < b + S.1 → H1[q]? = H[q]?) → H1.size = b + S.1 + 1 → W p l e R s m args below meth c H1 locs (cells + 1) (slots + N) Q (F0 m pc' ls (st'.map (zv_vl b x)))) → W p l e R s m args below meth c H locs cells slots Q (F0 m pc ls (st.map (zv_vl b x))))
    (hg : zv_G p l e R s m args below meth c Q nL b x cA dD n0 sl0 o pc' lv st' (zv_new S kd N) (zv_zer S D)) : zv_G p l e R s m args below meth c Q nL b x cA dD n0 sl0 o pc lv st S D := by
  have e1 : (zv_new S kd N).1 = S.1 + 1 := rfl
  have e2 : (zv_new S kd N).2.1 = S.2.1 + N := rfl
  have hm := hg.1
  rw [e1, e2] at hm
  refine ⟨⟨by omega, by omega⟩, fun H locs ls h1 h2 h3 h4 h5 => zq_size fun hle => ?_⟩
  have hsz := zv_size h1 h4 hC.2.2.2.2.2.2.1 h2 hle
  have hRc := hC.2.2.2.2.2.2.2.2.2.2.1
  have hRs := hC.2.2.2.2.2.2.2.2.2.2.2
  refine row H locs _ _ ls hsz (by omega) (by omega) fun H1 q1 q2 q3 => ?_
  have hP1 : va_P dD vwCl (zv_ws b x cA (zv_new S kd N) (zv_zer S D)) H1 := by
    rw [zv_ws_new]
    refine va_P.app (h1.2.kept fun k y hy => q2 y.1 ?_) (fun k y hy => ?_)
    · have := (h1.2 k y hy).lt
      omega
    · match k, hy with
      | 0, hy => cases hy; exact q1
      | k + 1, hy => cases hy
  have := hg.2 H1 locs ls ⟨zv_wf_new h1.1 hn1 hkd, hP1⟩ (by omega) (by omega) ⟨by have := h4.1; omega, fun q g1 g2 => by
    have hq : q < b + S.1 := by
      have := h4.1
      omega
    rw [q2 q hq]
    exact h4.2.1 q g1 g2, h4.2.2⟩ h5
  rw [show (zv_new S kd N).1 - n0 = S.1 - n0 + 1 by omega, show (zv_new S kd N).2.1 - sl0 = S.2.1 - sl0 + N by omega] at this
  exact this
theorem zq_new (hC : zv_C p R s m args meth c cc nL on ini b x cA dD xs d n0 sl0 o) {i ci : Nat} (hci : ci < 10) (hl : Cond.classLink (zn_own on) i (zn_own ci) ∈ zgw) (hi : Cond.instantiable (zn_own ci) (zn_nf ci) ∈ zgw) (hin : Cond.initialized (zn_own ci) ∈ zgw) (hd : decode cc pc = .ok (.new i, 3)) {k : zv_K} (hk : ∀ pc lv st S D, k pc lv st S D = some o → zv_G p l e R s m args below meth c Q nL b x cA dD n0 sl0 o pc lv st S D) (hn1 : S.1 ≤ 100000) (h : k (pc + 3) lv (.ref S.1 :: st) (zv_new S ci (zn_nf ci)) (zv_zer S D) = some o) : zv_G p l e R s m args below meth c Q nL b x cA dD n0 sl0 o pc lv st S D := by
  refine zq_al hC hn1 (by omega) (fun H locs cells slots ls hsz hc1 hc2 w => ?_) (hk _ _ _ _ _ h)
  have hKn := hC.2.2.2.2.2.1.1.1 ci _ (zn_cls hci)
  refine W.newcK hC.1 hC.2.1 hC.2.2.2.1 (hC.2.2.2.2.1 _ hl) (hC.2.2.2.2.1 _ hi) (hC.2.2.2.2.1 _ hin) rfl hd hc1 hc2 hKn.2.1 hsz fun H1 kC hkC e1 z1 o1 => ?_
  have had : zv_ad b x S.1 = b + S.1 := by unfold zv_ad; rw [if_pos (by omega)]
  have := w H1 (by
    rw [zv_ce_o b x cA (zv_new S ci (zn_nf ci)) _ (ci := ci) (by simp [zv_new]) hci]
    refine ⟨_, zn_cls hci, (u_born (zn_ty ci) hC.2.2.2.2.1 (zn_words hci) hKn hkC e1 (zn_parse hci)).to fun j hj => ?_⟩
    have hj : j < zn_nf ci := hj
    show _ = (zv_fs b x (zv_new S ci (zn_nf ci)) (zv_zer S D) S.1 ci).getD j .null
    rw [List.getD_eq_getElem?_getD, zv_fs_at _ _ _ _ _ _ hj, Option.getD_some]
    have ht := zn_tys ci hci j hj
    have h9 := zn_ft9 ci hci j hj
    rw [← ht] at h9 ⊢
    unfold zv_fv
    revert h9
    cases zn_ty ci j <;> intro h9 <;> first | (exact absurd rfl h9) | (simp [zn_tyc, zv_zer, zv_new, defaultValue, va_rf] <;> rfl)) o1 z1
  rw [List.map_cons, show zv_vl b x (.ref S.1) = .ref (b + S.1) from congrArg Value.ref had] at this
  exact this
theorem zq_newa_int (hC : zv_C p R s m args meth c cc nL on ini b x cA dD xs d n0 sl0 o) (hw : Cond.arrayClass .int ∈ zgw) (hd : decode cc pc = .ok (.newarray .int, 2)) {k : zv_K} (hk : ∀ pc lv st S D, k pc lv st S D = some o → zv_G p l e R s m args below meth c Q nL b x cA dD n0 sl0 o pc lv st S D) {n : Int32} {r : List Value} (hn : ¬ n < 0) (hn2 : n.toNatClampNeg ≤ 65536) (hn1 : S.1 ≤ 100000) (h : k (pc + 2) lv (.ref S.1 :: r) (zv_new S 11 n.toNatClampNeg) (zv_zer S D) = some o) : zv_G p l e R s m args below meth c Q nL b x cA dD n0 sl0 o pc lv (.int n :: r) S D := by
  refine zq_al hC hn1 (by omega) (fun H locs cells slots ls hsz hc1 hc2 w => ?_) (hk _ _ _ _ _ h)
  refine va_newaK hC.1 hC.2.1 (atype := .int) (hC.2.2.2.2.1 _ hw) rfl hd rfl hn rfl (by
    have e4 : componentBytes (newarray.typeOf .int) ≤ 8 := by decide
    calc n.toNatClampNeg * componentBytes (newarray.typeOf .int) ≤ 65536 * 8 := Nat.mul_le_mul hn2 e4
      _ ≤ 536870912 := by decide) hc1 hc2 hsz fun H1 cA' e1 z1 o1 hAr hNm => ?_
  have hcA : cA' = cA 11 := Option.some.inj (hNm.symm.trans (hC.2.2.2.2.2.1.1.2 1 _ rfl).2)
  subst hcA
  have had : zv_ad b x S.1 = b + S.1 := by unfold zv_ad; rw [if_pos (by omega)]
  have := w H1 (by
    rw [zv_ce_a b x cA (zv_new S 11 n.toNatClampNeg) _ (t := 11) (by simp [zv_new]) rfl rfl]
    show H1[b + S.1]? = some (vp_cell _ _)
    rw [e1]
    simp [zv_new, zv_zer, vp_cell, defaultValue, newarray.typeOf]) o1 z1
  rw [List.map_cons, show zv_vl b x (.ref S.1) = .ref (b + S.1) from congrArg Value.ref had] at this
  exact this
theorem zq_newa_char (hC : zv_C p R s m args meth c cc nL on ini b x cA dD xs d n0 sl0 o) (hw : Cond.arrayClass .char ∈ zgw) (hd : decode cc pc = .ok (.newarray .char, 2)) {k : zv_K} (hk : ∀ pc lv st S D, k pc lv st S D = some o → zv_G p l e R s m args below meth c Q nL b x cA dD n0 sl0 o pc lv st S D) {n : Int32} {r : List Value} (hn : ¬ n < 0) (hn2 : n.toNatClampNeg ≤ 65536) (hn1 : S.1 ≤ 100000) (h : k (pc + 2) lv (.ref S.1 :: r) (zv_new S 10 n.toNatClampNeg) (zv_zer S D) = some o) : zv_G p l e R s m args below meth c Q nL b x cA dD n0 sl0 o pc lv (.int n :: r) S D := by
  refine zq_al hC hn1 (by omega) (fun H locs cells slots ls hsz hc1 hc2 w => ?_) (hk _ _ _ _ _ h)
  refine va_newaK hC.1 hC.2.1 (atype := .char) (hC.2.2.2.2.1 _ hw) rfl hd rfl hn rfl (by
    have e4 : componentBytes (newarray.typeOf .char) ≤ 8 := by decide
    calc n.toNatClampNeg * componentBytes (newarray.typeOf .char) ≤ 65536 * 8 := Nat.mul_le_mul hn2 e4
      _ ≤ 536870912 := by decide) hc1 hc2 hsz fun H1 cA' e1 z1 o1 hAr hNm => ?_
  have hcA : cA' = cA 10 := Option.some.inj (hNm.symm.trans (hC.2.2.2.2.2.1.1.2 0 _ rfl).2)
  subst hcA
  have had : zv_ad b x S.1 = b + S.1 := by unfold zv_ad; rw [if_pos (by omega)]
  have := w H1 (by
    rw [zv_ce_a b x cA (zv_new S 10 n.toNatClampNeg) _ (t := 10) (by simp [zv_new]) rfl rfl]
    show H1[b + S.1]? = some (vp_cell _ _)
    rw [e1]
    simp [zv_new, zv_zer, vp_cell, defaultValue, newarray.typeOf]) o1 z1
  rw [List.map_cons, show zv_vl b x (.ref S.1) = .ref (b + S.1) from congrArg Value.ref had] at this
  exact this
theorem zq_newa_boolean (hC : zv_C p R s m args meth c cc nL on ini b x cA dD xs d n0 sl0 o) (hw : Cond.arrayClass .boolean ∈ zgw) (hd : decode cc pc = .ok (.newarray .boolean, 2)) {k : zv_K} (hk : ∀ pc lv st S D, k pc lv st S D = some o → zv_G p l e R s m args below meth c Q nL b x cA dD n0 sl0 o pc lv st S D) {n : Int32} {r : List Value} (hn : ¬ n < 0) (hn2 : n.toNatClampNeg ≤ 65536) (hn1 : S.1 ≤ 100000) (h : k (pc + 2) lv (.ref S.1 :: r) (zv_new S 12 n.toNatClampNeg) (zv_zer S D) = some o) : zv_G p l e R s m args below meth c Q nL b x cA dD n0 sl0 o pc lv (.int n :: r) S D := by
  refine zq_al hC hn1 (by omega) (fun H locs cells slots ls hsz hc1 hc2 w => ?_) (hk _ _ _ _ _ h)
  refine va_newaK hC.1 hC.2.1 (atype := .boolean) (hC.2.2.2.2.1 _ hw) rfl hd rfl hn rfl (by
    have e4 : componentBytes (newarray.typeOf .boolean) ≤ 8 := by decide
    calc n.toNatClampNeg * componentBytes (newarray.typeOf .boolean) ≤ 65536 * 8 := Nat.mul_le_mul hn2 e4
      _ ≤ 536870912 := by decide) hc1 hc2 hsz fun H1 cA' e1 z1 o1 hAr hNm => ?_
  have hcA : cA' = cA 12 := Option.some.inj (hNm.symm.trans (hC.2.2.2.2.2.1.1.2 2 _ rfl).2)
  subst hcA
  have had : zv_ad b x S.1 = b + S.1 := by unfold zv_ad; rw [if_pos (by omega)]
  have := w H1 (by
    rw [zv_ce_a b x cA (zv_new S 12 n.toNatClampNeg) _ (t := 12) (by simp [zv_new]) rfl rfl]
    show H1[b + S.1]? = some (vp_cell _ _)
    rw [e1]
    simp [zv_new, zv_zer, vp_cell, defaultValue, newarray.typeOf]) o1 z1
  rw [List.map_cons, show zv_vl b x (.ref S.1) = .ref (b + S.1) from congrArg Value.ref had] at this
  exact this
theorem zq_anew (hC : zv_C p R s m args meth c cc nL on ini b x cA dD xs d n0 sl0 o) {i : Nat} (hl : Cond.classLink (zn_own on) i "HiddenExits$State" ∈ zgw) (hd : decode cc pc = .ok (.anewarray i, 3)) {k : zv_K} (hk : ∀ pc lv st S D, k pc lv st S D = some o → zv_G p l e R s m args below meth c Q nL b x cA dD n0 sl0 o pc lv st S D) {n : Int32} {r : List Value} (hn : ¬ n < 0) (hn2 : n.toNatClampNeg ≤ 65536) (hn1 : S.1 ≤ 100000) (h : k (pc + 3) lv (.ref S.1 :: r) (zv_new S 13 n.toNatClampNeg) (zv_zer S D) = some o) : zv_G p l e R s m args below meth c Q nL b x cA dD n0 sl0 o pc lv (.int n :: r) S D := by
  refine zq_al hC hn1 (by omega) (fun H locs cells slots ls hsz hc1 hc2 w => ?_) (hk _ _ _ _ _ h)
  refine W.anew hC.1 hC.2.1 hC.2.2.2.1 (hC.2.2.2.2.1 _ hl) (va_AO.use hC.2.2.2.2.2.1.2.2.2.2.2.2.2.2) rfl hd rfl hn (by omega) hc1 hc2 fun cA' kA comp f1 f2 f3 f4 => ?_
  obtain ⟨kA2, comp2, g1, g2, g3, g4⟩ := (hC.2.2.2.2.2.1.1.2 3 _ rfl).2
  have hcA : cA' = cA 13 := Option.some.inj (f1.symm.trans g4)
  subst hcA
  have had : zv_ad b x S.1 = b + S.1 := by unfold zv_ad; rw [if_pos (by omega)]
  have := w (H.push { cls := cA 13, slots := Array.replicate n.toNatClampNeg .null, vm := .none }) (by
    rw [zv_ce_q b x cA (zv_new S 13 n.toNatClampNeg) _ (by simp [zv_new])]
    show (H.push _)[b + S.1]? = some (vp_cell _ _)
    rw [← hsz, Array.getElem?_push_size, arrV_new]
    simp [zv_new, vp_cell, va_rf]) (fun q hq => by rw [Array.getElem?_push, if_neg (by omega)]) (by rw [Array.size_push, hsz])
  rw [List.map_cons, show zv_vl b x (.ref S.1) = .ref (b + S.1) from congrArg Value.ref had, ← hsz] at this
  exact this
theorem zq_aast (hC : zv_C p R s m args meth c cc nL on ini b x cA dD xs d n0 sl0 o) (hd : decode cc pc = .ok (.aastore, 1)) {k : zv_K} (hk : ∀ pc lv st S D, k pc lv st S D = some o → zv_G p l e R s m args below meth c Q nL b x cA dD n0 sl0 o pc lv st S D) {i : Int32} {a a2 : Nat} {r : List Value} (hq : (S.2.2.1 a).1 = 13) (hq2 : (S.2.2.1 a2).1 = 7) (hi : zv_in i (S.2.2.1 a).2 = true) (h : k (pc + 1) lv r (zv_rw S a i.toNatClampNeg a2) D = some o) : zv_G p l e R s m args below meth c Q nL b x cA dD n0 sl0 o pc lv (.ref a2 :: .int i :: .ref a :: r) S D := by
  refine zq_wr (S' := zv_rw S a i.toNatClampNeg a2) (D' := D) rfl rfl (fun H locs cells slots ls hH hS hl2 w => ?_) (hk _ _ _ _ _ h)
  obtain ⟨hlt, had⟩ := zv_ad_in (b := b) (x := x) hH.1 (by rw [hq]; decide : (S.2.2.1 a).1 < 14)
  obtain ⟨hlt2, had2⟩ := zv_ad_in (b := b) (x := x) hH.1 (by rw [hq2]; decide : (S.2.2.1 a2).1 < 14)
  show W p l e R s m args below meth c H locs cells slots Q (F0 m pc ls (.ref (zv_ad b x a2) :: .int i :: .ref (zv_ad b x a) :: r.map (zv_vl b x)))
  rw [had, had2]
  refine va_astq (A := fun q => b ≤ q) (H0 := s.heap) (r := (zn_own 7, zn_T 7, zn_nf 7)) hC.1 hC.2.1 hC.2.2.2.2.2.1.1 hH.2 (zv_ws_D b x cA S D) hS a 3 a2 7 ((zv_ws_at b x cA S D hlt).trans (by rw [zv_ce_q b x cA S D hq])) rfl ((zv_ws_at b x cA S D hlt2).trans (by rw [zv_ce_o b x cA S D hq2 (by decide)])) (zn_cls (by decide)) (zv_in_of hi) hd (fun H1 locs1 hP1 hD1 hS1 => w H1 locs1 ⟨hH.1, ?_⟩ hS1)
  rw [zv_ws_set b x cA S (zv_rw S a i.toNatClampNeg a2) D D rfl hlt (by
    rw [zv_ce_q b x cA (zv_rw S a i.toNatClampNeg a2) _ hq]
    have e : (fun j => ((zv_rw S a i.toNatClampNeg a2).2.2.2 a j).map (zv_ad b x)) = va_up (fun j => (S.2.2.2 a j).map (zv_ad b x)) i.toNatClampNeg (some (b + a2)) := by
      funext j
      by_cases hj : j = i.toNatClampNeg
      · simp [zv_rw, va_up, hj, had2]
      · simp [zv_rw, va_up, hj]
    rw [e]
    rfl) (fun j hj => zv_ce_congr b x cA rfl (by simp [zv_rw, hj]) rfl rfl)] at hP1
  exact hP1
def zc_ts (pc lo : Int) : List Int → List (Int32 × Nat) → Bool
  | [], [] => true
  | o :: os, (v, t) :: cs => decide (v.toInt = lo) && (decide (pc + o = (t : Int)) && zc_ts pc (lo + 1) os cs)
  | _, _ => false
def zc_ls (pc : Int) : List (Int × Int) → List (Int32 × Nat) → Bool
  | [], [] => true
  | (a, o) :: os, (v, t) :: cs => decide (v.toInt = a) && (decide (pc + o = (t : Int)) && zc_ls pc os cs)
  | _, _ => false
theorem zc_ts_spec (a : Int32) (dflt : Nat) (F : Nat → Option zv_O) : ∀ (offs : List Int) (cs : List (Int32 × Nat)) (lo : Int), zc_ts (pc : Int) lo offs cs = true → zv_sw cs a dflt F = some o →
    (∃ (j : Nat) (off : Int) (t : Nat), offs[j]? = some off ∧ a.toInt = lo + j ∧ (pc : Int) + off = (t : Int) ∧ F t = some o) ∨ ((a.toInt < lo ∨ lo + offs.length ≤ a.toInt) ∧ F dflt = some o) := by
  intro offs
  induction offs with
  | nil =>
    intro cs lo hc h
    cases cs with
    | nil => exact Or.inr ⟨by simp; omega, h⟩
    | cons q r => cases hc
  | cons off os ih =>
    intro cs lo hc h
    cases cs with
    | nil => cases hc
    | cons q r =>
      obtain ⟨v, t⟩ := q
      unfold zc_ts at hc
      simp only [Bool.and_eq_true, decide_eq_true_eq] at hc
      obtain ⟨c1, c2, c3⟩ := hc
      unfold zv_sw at h
      by_cases ha : a = v
      · rw [if_pos ha] at h
        exact Or.inl ⟨0, off, t, rfl, by rw [ha, c1]; simp, c2, h⟩
      · rw [if_neg ha] at h
        have hne : a.toInt ≠ lo := fun q => ha (Int32.toInt_inj.mp (by rw [c1, q]))
        rcases ih r (lo + 1) c3 h with ⟨j, off', t', g1, g2, g3, g4⟩ | ⟨g1, g2⟩
        · exact Or.inl ⟨j + 1, off', t', by simpa using g1, by rw [g2]; push_cast; omega, g3, g4⟩
        · refine Or.inr ⟨?_, g2⟩
          rw [List.length_cons]
          push_cast
          omega
theorem zc_ls_spec (a : Int32) (dflt : Nat) (F : Nat → Option zv_O) {df : Int} (hdf : (pc : Int) + df = (dflt : Int)) : ∀ (ps : List (Int × Int)) (cs : List (Int32 × Nat)), zc_ls (pc : Int) ps cs = true → zv_sw cs a dflt F = some o →
    ∃ (t : Nat), (pc : Int) + Op.lookupswitch.offset ps df a.toInt = (t : Int) ∧ F t = some o := by
  intro ps
  induction ps with
  | nil =>
    intro cs hc h
    cases cs with
    | nil => exact ⟨dflt, hdf, h⟩
    | cons q r => cases hc
  | cons u os ih =>
    intro cs hc h
    cases cs with
    | nil => cases hc
    | cons q r =>
      obtain ⟨v, t⟩ := q
      obtain ⟨ua, uo⟩ := u
      unfold zc_ls at hc
      simp only [Bool.and_eq_true, decide_eq_true_eq] at hc
      obtain ⟨c1, c2, c3⟩ := hc
      unfold zv_sw at h
      by_cases ha : a = v
      · rw [if_pos ha] at h
        refine ⟨t, ?_, h⟩
        rw [Op.lookupswitch.offset_cons, if_pos (by rw [ha, c1])]
        exact c2
      · rw [if_neg ha] at h
        rw [lv_osw ha c1]
        exact ih r c3 h
theorem zq_tsw (hC : zv_C p R s m args meth c cc nL on ini b x cA dD xs d n0 sl0 o) {df lo hi : Int} {offs : Array Int} {len dflt : Nat} {cs : List (Int32 × Nat)} (hdf : (pc : Int) + df = (dflt : Int)) (hhi : hi = lo + offs.toList.length - 1) (hcs : zc_ts (pc : Int) lo offs.toList cs = true) (hd : decode cc pc = .ok (.tableswitch df lo hi offs, len)) {k : zv_K} (hk : ∀ pc lv st S D, k pc lv st S D = some o → zv_G p l e R s m args below meth c Q nL b x cA dD n0 sl0 o pc lv st S D) (h : zv_i1 st (fun a r => zv_sw cs a dflt fun t => k t lv r S D) = some o) : zv_G p l e R s m args below meth c Q nL b x cA dD n0 sl0 o pc lv st S D := by
  unfold zv_i1 at h; split at h
  · rename_i a r
    dsimp only at h
    rcases zc_ts_spec a dflt _ offs.toList cs lo hcs h with ⟨j, off, t, g1, g2, g3, g4⟩ | ⟨g1, g2⟩
    · have hlt : j < offs.toList.length := (List.getElem?_eq_some_iff.mp g1).1
      refine zq_step (fun H locs cells slots ls _ w => lv_tableIn hC.1 hC.2.1 hd (by omega) (by omega) (off := off) ?_ g3 w) (hk _ _ _ _ _ g4)
      rw [show (a.toInt - lo).toNat = j by omega, ← Array.getElem?_toList]
      exact g1
    · exact zq_step (fun H locs cells slots ls _ w => lv_tableOut hC.1 hC.2.1 hd (by omega) hdf w) (hk _ _ _ _ _ g2)
  · cases h
theorem zq_lsw (hC : zv_C p R s m args meth c cc nL on ini b x cA dD xs d n0 sl0 o) {df : Int} {ps : Array (Int × Int)} {len dflt : Nat} {cs : List (Int32 × Nat)} (hdf : (pc : Int) + df = (dflt : Int)) (hso : (ps.toList.zip (ps.toList.drop 1)).all (fun (a, next) => a.1 < next.1) = true) (hcs : zc_ls (pc : Int) ps.toList cs = true) (hd : decode cc pc = .ok (.lookupswitch df ps, len)) {k : zv_K} (hk : ∀ pc lv st S D, k pc lv st S D = some o → zv_G p l e R s m args below meth c Q nL b x cA dD n0 sl0 o pc lv st S D) (h : zv_i1 st (fun a r => zv_sw cs a dflt fun t => k t lv r S D) = some o) : zv_G p l e R s m args below meth c Q nL b x cA dD n0 sl0 o pc lv st S D := by
  unfold zv_i1 at h; split at h
  · rename_i a r
    dsimp only at h
    obtain ⟨t, g1, g2⟩ := zc_ls_spec a dflt _ hdf ps.toList cs hcs h
    exact zq_step (fun H locs cells slots ls _ w => lv_lookup hC.1 hC.2.1 hd hso rfl g1 w) (hk _ _ _ _ _ g2)
  · cases h
end ZA
end
section
/-! ===== calls ===== -/
theorem zg_in {ws : List Cond} (h : ∀ w ∈ ws, w ∈ zgw) : GoodIn zgw ws := fun w hw => ⟨h w hw, good_of_word (zgw_good (h w hw))⟩
theorem zg_wo {mt : zv_Mt} (h : zv_mok mt) : ∀ w ∈ zv_wo mt, w ∈ zgw := fun w hw => (List.mem_cons.mp hw).elim (fun e => e ▸ h.1) (fun q => q)
theorem znw_of {w : Cond} (h : w ∈ znw) : ∃ a i y hh, w = .methodLinkNest a i y hh := by
  have h2 := (List.mem_filter.mp h).2
  cases w with
  | methodLinkNest a i y hh => exact ⟨a, i, y, hh, rfl⟩
  | _ => cases h2
theorem zv_env_at {b : Nat} {x : Nat → Nat} {cA : Nat → ClassId} {dD : va_G} {xs : Nat × (Nat → Int32)} {s U : State} {H : Heap} {locs : List Loc} (h : zv_env b x cA dD xs s) (hS : va_S (fun q => b ≤ q) s.heap H locs) (hb : b ≤ s.heap.size) (hU : U.heap = H) (hW : s.WarmedH U.vm) : zv_env b x cA dD xs U := by
  obtain ⟨h1, h2, h3, h4, h5, h6, h7, h8, h9⟩ := h
  have hq : ∀ a : Nat, a < s.heap.size → ¬ b ≤ a → U.heap[a]? = s.heap[a]? := fun a g1 g2 => by rw [hU]; exact hS.2.1 a g1 g2
  refine ⟨h1.moved hW.alike, (h2.kept hq).moved hW.alike, (h3.kept hq).moved hW.alike, (h4.kept hq).moved hW.alike, (h5.kept hq).moved hW.alike, (h6.kept (hq _ (by omega) (by omega))).moved hW.alike, h7, fun w hw => ?_, h9.moved hW.alike⟩
  obtain ⟨a, i, y, hh, rfl⟩ := znw_of hw
  exact va_Nw.warmM hW (h8 _ hw)
theorem zv_blind {b : Nat} {x : Nat → Nat} {cA : Nat → ClassId} {dD : va_G} {xs : Nat × (Nat → Int32)} {As : List Value} {S : zv_S} {D : zv_D} : FrameBlind (zv_Pc b x cA dD xs As S D) := by
  intro a U g mk q
  obtain ⟨q0, q1, q2, h1, h2, h3, h4, h5, h6, h7, h8, h9⟩ := q
  have hr : U.vm.Alike (U.calling g mk a).vm := Vm.Alike.refl U.vm
  refine ⟨q0, q1, q2, h1.moved hr, h2.moved hr, h3.moved hr, h4.moved hr, h5.moved hr, h6.moved hr, h7, fun w hw => ?_, h9.moved hr⟩
  obtain ⟨a', i, y, hh, rfl⟩ := znw_of hw
  exact va_Nw.same rfl rfl (h8 _ hw)
section ZC
variable {p : Program} {l : Launch} {e : Env} {R : Room} {s : State} {m : MethodId} {args : Array Value} {below : List Frame} {meth : Method} {c : Code} {Q : State → Prop}
variable {cc : ByteArray} {nL on : Nat} {ini : Bool} {b : Nat} {x : Nat → Nat} {cA : Nat → ClassId} {dD : va_G} {xs : Nat × (Nat → Int32)} {d n0 sl0 : Nat} {o : zv_O}
variable {pc pc' : Nat} {lv lv' : zv_L} {st st' : List Value} {S S' : zv_S} {D D' : zv_D}
theorem zq_after {rk : Nat} {r : zv_R} {H : Heap} {locs : List Loc} {cells slots mc ms : Nat} {ls : Array Slot} {st0 rest : List Value} {a : Array Value} (run : va_Run p l e R s m args below meth c H locs cells slots mc ms (F0 m pc ls st0) (rest.map (zv_vl b x)) (zv_Qc b x cA dD rk r S' D' a) (fun q => b ≤ q)) (hS : va_S (fun q => b ≤ q) s.heap H locs)
    (w : ∀ (H1 : Heap) (locs1 : List Loc), zv_H b x cA dD S' D' H1 → va_S (fun q => b ≤ q) s.heap H1 locs1 → W p l e R s m args below meth c H1 locs1 (cells + mc) (slots + ms) Q (F0 m (pc + 3) ls ((zv_psh rk r rest).map (zv_vl b x)))) : W p l e R s m args below meth c H locs cells slots Q (F0 m pc ls st0) := by
  match rk, run, w with
  | 0, run, w =>
    refine va_callv (a := a) run hS (fun q _ h => h) (fun q h => h) fun u t H1 locs1 ht hvm hp hB hz hk1 hS1 => ?_
    rw [ht] at hB
    exact w H1 locs1 hB hS1
  | 1, run, w =>
    refine va_calli (a := a) run hS (fun q _ h => h) (fun q h => h) fun v u t H1 locs1 ht hvm hp hB hz hk1 hS1 => ?_
    rw [ht] at hB
    rw [hp]
    exact w H1 locs1 hB hS1
  | 2, run, w =>
    refine va_calll (a := a) run hS (fun q _ h => h) (fun q h => h) fun v u t H1 locs1 ht hvm hp hB hz hk1 hS1 => ?_
    rw [ht] at hB
    rw [hp]
    exact w H1 locs1 hB hS1
  | k + 3, run, w =>
    refine va_callr (a := a) run hS (fun q _ h => h) (fun q h => h) fun u ra t H1 locs1 ht hvm hp hB hz hk1 hS1 => ?_
    rw [ht] at hB
    rw [hB.1]
    exact w H1 locs1 hB.2 hS1
/-- the room of a callee -/
theorem zq_room (hC : zv_C p R s m args meth c cc nL on ini b x cA dD xs d n0 sl0 o) {maxL mc ms : Nat} (hm : maxL ≤ 21) : (zv_rm d mc ms).frames + 1 ≤ R.frames ∧ 8 + (maxL + 11) + (zv_rm d mc ms).locals ≤ R.locals := by
  have h1 := hC.2.2.2.2.2.2.2.2.1
  have h2 := hC.2.2.2.2.2.2.2.2.2.1
  refine ⟨h1, ?_⟩
  show 8 + (maxL + 11) + 40 * d ≤ R.locals
  omega
theorem zq_pre (hC : zv_C p R s m args meth c cc nL on ini b x cA dD xs d n0 sl0 o) {H : Heap} {locs : List Loc} {As : List Value} (hsz : H.size = b + S.1) (h1 : zv_H b x cA dD S D H) (h4 : va_S (fun q => b ≤ q) s.heap H locs) : ∀ U : State, U.heap = H → s.WarmedH U.vm → zv_Pc b x cA dD xs As S D (As.map (zv_vl b x)).toArray U := fun U hU hW =>
  ⟨rfl, by rw [hU]; exact hsz, by rw [hU]; exact h1, zv_env_at hC.2.2.2.2.2.1 h4 (by have := hC.2.2.2.2.2.2.1; omega) hU hW⟩
theorem zq_stk (As rest : List Value) : (As.reverse ++ rest).map (zv_vl b x) = (As.map (zv_vl b x)).reverse ++ rest.map (zv_vl b x) := by
  rw [List.map_append, List.map_reverse]
theorem zq_W {rest : List Value} (h : zv_cs rest ≤ 8) : ((rest.map (zv_vl b x)).map fun v => v.category).sum ≤ 8 := by
  rw [zv_cs_sum, zv_cs_map]
  exact h
theorem zq_callV (hC : zv_C p R s m args meth c cc nL on ini b x cA dD xs d n0 sl0 o) {i q : Nat} {mt : zv_Mt} {Ps rest : List Value} {r : zv_R} (hmk : zv_mok mt) (hkd : mt.2.2.2.2.2.2.2.1 = 0) (hl : Cond.methodLink (zn_own on) i mt.1 ∈ zgw) (hd : decode cc pc = .ok (.invokevirtual i, 3)) (hqk : (S.2.2.1 q).1 = mt.2.2.2.2.2.2.1) (hlen : Ps.length + 1 = mt.2.2.2.2.1) (hcs : zv_cs rest ≤ 8) (hct : zv_ct l b x cA dD xs d mt (.ref q :: Ps) S D (r, S, D')) (hg : zv_G p l e R s m args below meth c Q nL b x cA dD n0 sl0 o (pc + 3) lv (zv_psh mt.2.2.2.2.2.1 r rest) S D') : zv_G p l e R s m args below meth c Q nL b x cA dD n0 sl0 o pc lv ((.ref q :: Ps).reverse ++ rest) S D := by
  refine ⟨hg.1, fun H locs ls h1 h2 h3 h4 h5 => zq_size fun hle => ?_⟩
  have hsz := zv_size h1 h4 hC.2.2.2.2.2.2.1 h2 hle
  obtain ⟨m1, m2, m3, m4, m5, m6, m7, m8⟩ := hmk
  rw [hkd] at m7
  obtain ⟨k1, k2, k3, k4⟩ := m7
  obtain ⟨hlt, had⟩ := zv_ad_in (b := b) (x := x) h1.1 (by rw [hqk]; omega : (S.2.2.1 q).1 < 14)
  rw [zq_stk]
  have hcw := cwV (R := R) (own := zn_own on) (index := i) (C := mt.1.cls) (mc := S.1 - S.1) (ms := S.2.1 - S.2.1) (rm := zv_rm d (S.1 - S.1) (S.2.1 - S.2.1)) Ps.length hC.2.2.2.2.1 (zg_in (ws := wsV (zn_own on) i mt.1.cls mt.1 (zv_wo mt)) (fun w hw => by
    rcases List.mem_append.mp hw with g | g
    · simp only [List.mem_cons, List.not_mem_nil, or_false] at g
      rcases g with rfl | rfl | rfl | rfl
      · exact hl
      · exact k1
      · exact k2
      · exact m2
    · exact (List.mem_cons.mp g).elim (fun e => e ▸ m1) (fun z => z))) rfl rfl rfl ⟨rfl, m4.1, m4.2, by
      revert k4
      cases parseMethodDescriptor mt.1.desc with
      | none => intro k4; cases k4
      | some sg =>
        intro k4
        have k4 : sg.parameters.length + 1 = mt.2.2.2.2.1 := Option.some.inj k4
        show some sg.parameters.length = some Ps.length
        rw [show sg.parameters.length = Ps.length by omega]⟩ (zq_room hC m6)
  refine zq_after (va_runV (As := Ps.map (zv_vl b x)) (b := zv_ad b x q) ⟨hC.1, hC.2.1, hC.2.2.1, hC.2.2.2.1, hC.2.2.2.2.1⟩ hct.2.2 hcw ⟨zv_blind, ?_, zq_pre hC (As := .ref q :: Ps) hsz h1 h4⟩ rfl (by rw [List.length_map]) h5.1 ?_ (lv_room (zq_W hcs)) hd ?_) h4 (fun H1 locs1 q1 q2 => ?_)
  · have := va_recv hC.2.2.2.2.2.1.1 h1.2 (zn_cls k3) ((zv_ws_at b x cA S D hlt).trans (by rw [zv_ce_o b x cA S D hqk k3]))
    rw [had, m5]
    exact this
  · show _ = (Ps.map (zv_vl b x)).reverse ++ .ref (zv_ad b x q) :: rest.map (zv_vl b x)
    rw [List.map_cons, List.reverse_cons, List.append_assoc]
    rfl
  · have := hC.2.2.2.2.2.2.2.2.2.2
    have := hg.1
    show (S.1 - n0) + (S.1 - S.1) ≤ R.cells ∧ (S.2.1 - sl0) + (S.2.1 - S.2.1) ≤ R.slots
    constructor <;> omega
  · have := hg.2 H1 locs1 ls q1 h2 h3 q2 h5
    rw [Nat.sub_self, Nat.sub_self]
    exact this
theorem zq_callS (hC : zv_C p R s m args meth c cc nL on ini b x cA dD xs d n0 sl0 o) {i : Nat} {mt : zv_Mt} {As rest : List Value} {r : zv_R} (hmk : zv_mok mt) (hkd : mt.2.2.2.2.2.2.2.1 = 1) (hl : Cond.methodLink (zn_own on) i mt.1 ∈ zgw ∨ ∃ host, Cond.methodLinkNest (zn_own on) i mt.1 host ∈ znw) (hd : decode cc pc = .ok (.invokestatic i, 3)) (hlen : As.length = mt.2.2.2.2.1) (hcs : zv_cs rest ≤ 8) (hct : zv_ct l b x cA dD xs d mt As S D (r, S, D')) (hg : zv_G p l e R s m args below meth c Q nL b x cA dD n0 sl0 o (pc + 3) lv (zv_psh mt.2.2.2.2.2.1 r rest) S D') : zv_G p l e R s m args below meth c Q nL b x cA dD n0 sl0 o pc lv (As.reverse ++ rest) S D := by
  refine ⟨hg.1, fun H locs ls h1 h2 h3 h4 h5 => zq_size fun hle => ?_⟩
  have hsz := zv_size h1 h4 hC.2.2.2.2.2.2.1 h2 hle
  obtain ⟨m1, m2, m3, m4, m5, m6, m7, m8⟩ := hmk
  rw [hkd] at m7
  obtain ⟨k1, k4⟩ := m7
  rw [zq_stk]
  have hpar : (parseMethodDescriptor mt.1.desc).map (fun q => q.parameters.length) = some As.length := by rw [hlen]; exact k4
  have hf : (S.1 - n0) + (S.1 - S.1) ≤ R.cells ∧ (S.2.1 - sl0) + (S.2.1 - S.2.1) ≤ R.slots := by
    have := hC.2.2.2.2.2.2.2.2.2.2
    have := hg.1
    constructor <;> omega
  rcases hl with hl | ⟨host, hl⟩
  · have hcw := va_cwS (R := R) (s := s) (args := args) (own := zn_own on) (index := i) (mc := S.1 - S.1) (ms := S.2.1 - S.2.1) (rm := zv_rm d (S.1 - S.1) (S.2.1 - S.2.1)) As.length hC.2.2.2.2.1 (zg_in (ws := va_wsS (zn_own on) i mt.1 (zv_wo mt)) (fun w hw => by
      rcases List.mem_append.mp hw with g | g
      · simp only [List.mem_cons, List.not_mem_nil, or_false] at g
        rcases g with rfl | rfl | rfl
        · exact hl
        · exact k1
        · exact m2
      · exact (List.mem_cons.mp g).elim (fun e => e ▸ m1) (fun z => z))) rfl rfl rfl ⟨m4.1, m4.2, hpar⟩ (zq_room hC m6)
    refine zq_after (va_runS (As := As.map (zv_vl b x)) ⟨hC.1, hC.2.1, hC.2.2.1, hC.2.2.2.1, hC.2.2.2.2.1⟩ hct.2.2 hcw ⟨zv_blind, zq_pre hC hsz h1 h4⟩ rfl (by rw [List.length_map]) h5.1 rfl (lv_room (zq_W hcs)) hd hf) h4 (fun H1 locs1 q1 q2 => ?_)
    have := hg.2 H1 locs1 ls q1 h2 h3 q2 h5
    rw [Nat.sub_self, Nat.sub_self]
    exact this
  · have hcw := va_cnB (R := R) (s := s) (args := args) (own := zn_own on) (host := host) (index := i) (mc := S.1 - S.1) (ms := S.2.1 - S.2.1) (rm := zv_rm d (S.1 - S.1) (S.2.1 - S.2.1)) As.length hC.2.2.2.2.1 (zg_in (ws := zv_wo mt) (fun w g => (List.mem_cons.mp g).elim (fun e => e ▸ m1) (fun z => z))) rfl rfl rfl (hC.2.2.2.2.2.1.2.2.2.2.2.2.2.1 _ hl) (hC.2.2.2.2.1 _ m2) ⟨m4.1, m4.2, hpar⟩ (zq_room hC m6)
    refine zq_after (va_runSN (As := As.map (zv_vl b x)) ⟨hC.1, hC.2.1, hC.2.2.1, hC.2.2.2.1, hC.2.2.2.2.1⟩ hct.2.2 ⟨hcw, hC.2.2.2.2.1 _ k1, trivial⟩ ⟨zv_blind, zq_pre hC hsz h1 h4⟩ rfl (by rw [List.length_map]) h5.1 rfl (lv_room (zq_W hcs)) hd hf) h4 (fun H1 locs1 q1 q2 => ?_)
    have := hg.2 H1 locs1 ls q1 h2 h3 q2 h5
    rw [Nat.sub_self, Nat.sub_self]
    exact this
theorem zq_callI (hC : zv_C p R s m args meth c cc nL on ini b x cA dD xs d n0 sl0 o) {i q : Nat} {mt : zv_Mt} {Ps rest : List Value} {o' : zv_O} (hmk : zv_mok mt) (hkd : mt.2.2.2.2.2.2.2.1 = 2) (hl : Cond.methodLink (zn_own on) i mt.1 ∈ zgw ∨ ∃ host, Cond.methodLinkNest (zn_own on) i mt.1 host ∈ znw) (hd : decode cc pc = .ok (.invokespecial i, 3)) (hlen : Ps.length + 1 = mt.2.2.2.2.1) (hcs : zv_cs rest ≤ 8) (hct : zv_ct l b x cA dD xs d mt (.ref q :: Ps) S D o') (hg : zv_G p l e R s m args below meth c Q nL b x cA dD n0 sl0 o (pc + 3) lv rest o'.2.1 o'.2.2) : zv_G p l e R s m args below meth c Q nL b x cA dD n0 sl0 o pc lv ((.ref q :: Ps).reverse ++ rest) S D := by
  obtain ⟨t1, t2, t3⟩ := hct
  refine ⟨⟨Nat.le_trans t1 hg.1.1, Nat.le_trans t2 hg.1.2⟩, fun H locs ls h1 h2 h3 h4 h5 => zq_size fun hle => ?_⟩
  have hsz := zv_size h1 h4 hC.2.2.2.2.2.2.1 h2 hle
  obtain ⟨m1, m2, m3, m4, m5, m6, m7, m8⟩ := hmk
  rw [hkd] at m7
  obtain ⟨k1, k2, k3, k5, k4⟩ := m7
  rw [k5] at t3
  rw [zq_stk]
  have hwo : zv_wo mt = Cond.code mt.1 mt.2.1 mt.2.2.1 none :: zgw := by unfold zv_wo; rw [k3]
  have hpar : (parseMethodDescriptor mt.1.desc).map (fun q => q.parameters.length) = some Ps.length := by
    revert k4
    cases parseMethodDescriptor mt.1.desc with
    | none => intro k4; cases k4
    | some sg =>
      intro k4
      have k4 : sg.parameters.length + 1 = mt.2.2.2.2.1 := Option.some.inj k4
      show some sg.parameters.length = some Ps.length
      rw [show sg.parameters.length = Ps.length by omega]
  have hf : (S.1 - n0) + (o'.2.1.1 - S.1) ≤ R.cells ∧ (S.2.1 - sl0) + (o'.2.1.2.1 - S.2.1) ≤ R.slots := by
    have := hC.2.2.2.2.2.2.2.2.2.2
    have := hg.1
    constructor <;> omega
  have hst : (List.map (zv_vl b x) (.ref q :: Ps)).reverse ++ rest.map (zv_vl b x) = (Ps.map (zv_vl b x)).reverse ++ .ref (zv_ad b x q) :: rest.map (zv_vl b x) := by
    rw [List.map_cons, List.reverse_cons, List.append_assoc]
    rfl
  have fin : ∀ (H1 : Heap) (locs1 : List Loc), zv_H b x cA dD o'.2.1 o'.2.2 H1 → va_S (fun q => b ≤ q) s.heap H1 locs1 → W p l e R s m args below meth c H1 locs1 (S.1 - n0 + (o'.2.1.1 - S.1)) (S.2.1 - sl0 + (o'.2.1.2.1 - S.2.1)) Q (F0 m (pc + 3) ls ((zv_psh 0 o'.1 rest).map (zv_vl b x))) := by
    intro H1 locs1 q1 q2
    have := hg.2 H1 locs1 ls q1 (by omega) (by omega) q2 h5
    rw [show o'.2.1.1 - n0 = S.1 - n0 + (o'.2.1.1 - S.1) by omega, show o'.2.1.2.1 - sl0 = S.2.1 - sl0 + (o'.2.1.2.1 - S.2.1) by omega] at this
    exact this
  rcases hl with hl | ⟨host, hl⟩
  · have hcw := cwI (R := R) (own := zn_own on) (index := i) (mc := o'.2.1.1 - S.1) (ms := o'.2.1.2.1 - S.2.1) (rm := zv_rm d (o'.2.1.1 - S.1) (o'.2.1.2.1 - S.2.1)) Ps.length hC.2.2.2.2.1 (zg_in (ws := zv_wo mt) (fun w g => (List.mem_cons.mp g).elim (fun e => e ▸ m1) (fun z => z))) hwo rfl rfl (hC.2.2.2.2.1 _ m2) (hC.2.2.2.2.1 _ hl) (hC.2.2.2.2.1 _ k1) k2 ⟨m4.1, m4.2, hpar⟩ (zq_room hC m6)
    exact zq_after (va_runI (As := Ps.map (zv_vl b x)) (b := zv_ad b x q) ⟨hC.1, hC.2.1, hC.2.2.1, hC.2.2.2.1, hC.2.2.2.2.1⟩ t3 hcw ⟨zv_blind, zq_pre hC (As := .ref q :: Ps) hsz h1 h4⟩ rfl (by rw [List.length_map]) h5.1 hst (lv_room (zq_W hcs)) hd hf) h4 fin
  · have hcw := va_cnB (R := R) (s := s) (args := args) (own := zn_own on) (host := host) (index := i) (mc := o'.2.1.1 - S.1) (ms := o'.2.1.2.1 - S.2.1) (rm := zv_rm d (o'.2.1.1 - S.1) (o'.2.1.2.1 - S.2.1)) Ps.length hC.2.2.2.2.1 (zg_in (ws := zv_wo mt) (fun w g => (List.mem_cons.mp g).elim (fun e => e ▸ m1) (fun z => z))) hwo rfl rfl (hC.2.2.2.2.2.1.2.2.2.2.2.2.2.1 _ hl) (hC.2.2.2.2.1 _ m2) ⟨m4.1, m4.2, hpar⟩ (zq_room hC m6)
    exact zq_after (va_runIN (As := Ps.map (zv_vl b x)) (b := zv_ad b x q) ⟨hC.1, hC.2.1, hC.2.2.1, hC.2.2.2.1, hC.2.2.2.2.1⟩ t3 ⟨hcw, k2, hC.2.2.2.2.1 _ k1⟩ ⟨zv_blind, zq_pre hC (As := .ref q :: Ps) hsz h1 h4⟩ rfl (by rw [List.length_map]) h5.1 hst (lv_room (zq_W hcs)) hd hf) h4 fin
end ZC
end
